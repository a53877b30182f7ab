def fL_law (Ls : Nat) (xs : Nat → Int32) : Nat → Int32 → sm_S → Option Unit
  | 0, _, _ => none
  | n + 1, v4, m =>
  if ((Int32.ofNat Ls) - (5 : Int32)) < v4 then (some ()) else (if sm_ix v4 Ls then (if ((xs (v4).toNatClampNeg) &&& (63 : Int32)) = (0 : Int32) then (if sm_ix (v4 + (1 : Int32)) Ls then ((fX11_sign (xs (v4 + (1 : Int32)).toNatClampNeg) m).bind fun r5 => if sm_ix (v4 + (1 : Int32)) Ls then ((fX12_sign (xs (v4 + (1 : Int32)).toNatClampNeg) r5.2).bind fun r8 => if r5.1 = r8.1 then (fL_law Ls xs n (v4 + (5 : Int32)) r8.2) else none) else none) else none) else (if ((xs (v4).toNatClampNeg) &&& (63 : Int32)) = (1 : Int32) then (if sm_ix (v4 + (1 : Int32)) Ls then ((fX11_end (xs (v4 + (1 : Int32)).toNatClampNeg) m).bind fun r12 => if sm_ix (v4 + (1 : Int32)) Ls then ((fX12_end (xs (v4 + (1 : Int32)).toNatClampNeg) r12.2).bind fun r15 => if r12.1 = r15.1 then (fL_law Ls xs n (v4 + (5 : Int32)) r15.2) else none) else none) else none) else (if ((xs (v4).toNatClampNeg) &&& (63 : Int32)) = (2 : Int32) then ((fX11_land m).bind fun r18 => (fX12_land r18.2).bind fun r20 => if r18.1 = r20.1 then (fL_law Ls xs n (v4 + (5 : Int32)) r20.2) else none) else (if ((xs (v4).toNatClampNeg) &&& (63 : Int32)) = (3 : Int32) then (if sm_ix (v4 + (1 : Int32)) Ls then (if sm_ix (v4 + (2 : Int32)) Ls then ((fL_hedge (xs (v4 + (1 : Int32)).toNatClampNeg) (xs (v4 + (2 : Int32)).toNatClampNeg) m).bind fun r24 => if sm_ix (v4 + (1 : Int32)) Ls then (if sm_ix (v4 + (2 : Int32)) Ls then ((fX12_hedge (xs (v4 + (1 : Int32)).toNatClampNeg) (xs (v4 + (2 : Int32)).toNatClampNeg) r24.2).bind fun r29 => (fX12_thrown r29.2).bind fun r31 => if r31 = r24.1 then (if r24.1 = 0 then (if (lg_cmp (r29.2.2 107 0) (r29.1).toInt64) = 0 then (fL_law Ls xs n (v4 + (5 : Int32)) r29.2) else none) else (fL_law Ls xs n (v4 + (5 : Int32)) r29.2)) else none) else none) else none) else none) else none) else (if ((xs (v4).toNatClampNeg) &&& (63 : Int32)) = (4 : Int32) then (if sm_ix (v4 + (1 : Int32)) Ls then (if sm_ix (v4 + (2 : Int32)) Ls then ((fX11_grass (xs (v4 + (1 : Int32)).toNatClampNeg) (xs (v4 + (2 : Int32)).toNatClampNeg) m).bind fun r36 => if sm_ix (v4 + (1 : Int32)) Ls then (if sm_ix (v4 + (2 : Int32)) Ls then ((fX12_grass (xs (v4 + (1 : Int32)).toNatClampNeg) (xs (v4 + (2 : Int32)).toNatClampNeg) m).bind fun r40 => if r36 = r40.1 then (fL_law Ls xs n (v4 + (5 : Int32)) r40.2) else none) else none) else none) else none) else none) else (if ((xs (v4).toNatClampNeg) &&& (63 : Int32)) = (5 : Int32) then (if sm_ix (v4 + (1 : Int32)) Ls then (if sm_ix (v4 + (2 : Int32)) Ls then (if sm_ix (v4 + (3 : Int32)) Ls then ((fX11_set (xs (v4 + (1 : Int32)).toNatClampNeg) (xs (v4 + (2 : Int32)).toNatClampNeg) (xs (v4 + (3 : Int32)).toNatClampNeg) m).bind fun r46 => if sm_ix (v4 + (1 : Int32)) Ls then (if sm_ix (v4 + (2 : Int32)) Ls then (if sm_ix (v4 + (3 : Int32)) Ls then ((fX12_set (xs (v4 + (1 : Int32)).toNatClampNeg) (xs (v4 + (2 : Int32)).toNatClampNeg) (xs (v4 + (3 : Int32)).toNatClampNeg) r46.2).bind fun r51 => if r46.1 = r51.1 then (fL_law Ls xs n (v4 + (5 : Int32)) r51.2) else none) else none) else none) else none) else none) else none) else none) else (if ((xs (v4).toNatClampNeg) &&& (63 : Int32)) = (6 : Int32) then (if sm_ix (v4 + (1 : Int32)) Ls then (if sm_ix (v4 + (2 : Int32)) Ls then (if sm_ix (v4 + (3 : Int32)) Ls then (if sm_ix (v4 + (4 : Int32)) Ls then ((fX11_sheet (xs (v4 + (1 : Int32)).toNatClampNeg) (xs (v4 + (2 : Int32)).toNatClampNeg) (xs (v4 + (3 : Int32)).toNatClampNeg) (xs (v4 + (4 : Int32)).toNatClampNeg) m).bind fun r58 => if sm_ix (v4 + (1 : Int32)) Ls then (if sm_ix (v4 + (2 : Int32)) Ls then (if sm_ix (v4 + (3 : Int32)) Ls then (if sm_ix (v4 + (4 : Int32)) Ls then ((fX12_sheet (xs (v4 + (1 : Int32)).toNatClampNeg) (xs (v4 + (2 : Int32)).toNatClampNeg) (xs (v4 + (3 : Int32)).toNatClampNeg) (xs (v4 + (4 : Int32)).toNatClampNeg) r58.2).bind fun r64 => if r58.1 = r64.1 then (fL_law Ls xs n (v4 + (5 : Int32)) r64.2) else none) else none) else none) else none) else none) else none) else none) else none) else none) else (if ((xs (v4).toNatClampNeg) &&& (63 : Int32)) = (7 : Int32) then (if sm_ix (v4 + (1 : Int32)) Ls then ((fX11_walk (xs (v4 + (1 : Int32)).toNatClampNeg) m).bind fun r68 => if sm_ix (v4 + (1 : Int32)) Ls then ((fX12_walk (xs (v4 + (1 : Int32)).toNatClampNeg) r68.2).bind fun r71 => if r68.1 = r71.1 then (fL_law Ls xs n (v4 + (5 : Int32)) r71.2) else none) else none) else none) else (if ((xs (v4).toNatClampNeg) &&& (63 : Int32)) = (8 : Int32) then (if sm_ix (v4 + (1 : Int32)) Ls then ((fX11_rest (xs (v4 + (1 : Int32)).toNatClampNeg) m).bind fun r75 => if sm_ix (v4 + (1 : Int32)) Ls then ((fX12_rest (xs (v4 + (1 : Int32)).toNatClampNeg) r75.2).bind fun r78 => if r75.1 = r78.1 then (fL_law Ls xs n (v4 + (5 : Int32)) r78.2) else none) else none) else none) else (if ((xs (v4).toNatClampNeg) &&& (63 : Int32)) = (9 : Int32) then ((fX11_undo m).bind fun r81 => (fX12_undo r81.2).bind fun r83 => if r81.1 = r83.1 then (fL_law Ls xs n (v4 + (5 : Int32)) r83.2) else none) else (if ((xs (v4).toNatClampNeg) &&& (63 : Int32)) = (10 : Int32) then (if sm_ix (v4 + (1 : Int32)) Ls then ((fX11_go (xs (v4 + (1 : Int32)).toNatClampNeg) m).bind fun r87 => if sm_ix (v4 + (1 : Int32)) Ls then ((fX12_go (xs (v4 + (1 : Int32)).toNatClampNeg) r87.2).bind fun r90 => if r87.1 = r90.1 then (fL_law Ls xs n (v4 + (5 : Int32)) r90.2) else none) else none) else none) else (if ((xs (v4).toNatClampNeg) &&& (63 : Int32)) = (11 : Int32) then ((fX11_can m).bind fun r93 => (fX12_can m).bind fun r95 => if r93 = r95.1 then (fL_law Ls xs n (v4 + (5 : Int32)) r95.2) else none) else (if ((xs (v4).toNatClampNeg) &&& (63 : Int32)) = (12 : Int32) then (if sm_ix (v4 + (1 : Int32)) Ls then ((fX11_tour (xs (v4 + (1 : Int32)).toNatClampNeg) m).bind fun r99 => if sm_ix (v4 + (1 : Int32)) Ls then ((fX12_tour (xs (v4 + (1 : Int32)).toNatClampNeg) r99.2).bind fun r102 => if r99.1 = r102.1 then (fL_law Ls xs n (v4 + (5 : Int32)) r102.2) else none) else none) else none) else (if ((xs (v4).toNatClampNeg) &&& (63 : Int32)) = (13 : Int32) then (if sm_ix (v4 + (1 : Int32)) Ls then ((fX11_look (xs (v4 + (1 : Int32)).toNatClampNeg) m).bind fun r106 => if sm_ix (v4 + (1 : Int32)) Ls then ((fX12_look (xs (v4 + (1 : Int32)).toNatClampNeg) r106.2).bind fun r109 => if r106.1 = r109.1 then (fL_law Ls xs n (v4 + (5 : Int32)) r109.2) else none) else none) else none) else (if ((xs (v4).toNatClampNeg) &&& (63 : Int32)) = (14 : Int32) then (if sm_ix (v4 + (1 : Int32)) Ls then ((fX11_meets (xs (v4 + (1 : Int32)).toNatClampNeg) m).bind fun r113 => if sm_ix (v4 + (1 : Int32)) Ls then ((fX12_meets (xs (v4 + (1 : Int32)).toNatClampNeg) r113.2).bind fun r116 => if r113.1 = r116.1 then (fL_law Ls xs n (v4 + (5 : Int32)) r116.2) else none) else none) else none) else (if ((xs (v4).toNatClampNeg) &&& (63 : Int32)) = (15 : Int32) then ((fX11_apart m).bind fun r119 => (fX12_apart r119.2).bind fun r121 => if r119.1 = r121.1 then (fL_law Ls xs n (v4 + (5 : Int32)) r121.2) else none) else (if ((xs (v4).toNatClampNeg) &&& (63 : Int32)) = (16 : Int32) then (if sm_ix (v4 + (1 : Int32)) Ls then ((fX11_season (xs (v4 + (1 : Int32)).toNatClampNeg) m).bind fun r125 => if sm_ix (v4 + (1 : Int32)) Ls then ((fX12_season (xs (v4 + (1 : Int32)).toNatClampNeg) r125.2).bind fun r128 => if r125.1 = r128.1 then (fL_law Ls xs n (v4 + (5 : Int32)) r128.2) else none) else none) else none) else (if ((xs (v4).toNatClampNeg) &&& (63 : Int32)) = (17 : Int32) then ((fX11_odd m).bind fun r131 => (fX12_odd r131.2).bind fun r133 => if r131.1 = r133.1 then (fL_law Ls xs n (v4 + (5 : Int32)) r133.2) else none) else (if ((xs (v4).toNatClampNeg) &&& (63 : Int32)) = (18 : Int32) then ((fX11_men m).bind fun r136 => (fX12_men r136.2).bind fun r138 => if r136.1 = r138.1 then (fL_law Ls xs n (v4 + (5 : Int32)) r138.2) else none) else (if ((xs (v4).toNatClampNeg) &&& (63 : Int32)) = (19 : Int32) then (if sm_ix (v4 + (1 : Int32)) Ls then ((fX11_trail (xs (v4 + (1 : Int32)).toNatClampNeg) m).bind fun r142 => if sm_ix (v4 + (1 : Int32)) Ls then ((fX12_trail (xs (v4 + (1 : Int32)).toNatClampNeg) r142.2).bind fun r145 => if r142.1 = r145.1 then (fL_law Ls xs n (v4 + (5 : Int32)) r145.2) else none) else none) else none) else (if ((xs (v4).toNatClampNeg) &&& (63 : Int32)) = (20 : Int32) then ((fX11_round m).bind fun r148 => (fX12_round r148.2).bind fun r150 => if r148.1 = r150.1 then (fL_law Ls xs n (v4 + (5 : Int32)) r150.2) else none) else (if ((xs (v4).toNatClampNeg) &&& (63 : Int32)) = (21 : Int32) then ((fX11_closed m).bind fun r153 => (fX12_closed r153.2).bind fun r155 => if r153.1 = r155.1 then (fL_law Ls xs n (v4 + (5 : Int32)) r155.2) else none) else (if ((xs (v4).toNatClampNeg) &&& (63 : Int32)) = (22 : Int32) then ((fX11_open m).bind fun r158 => (fX12_open r158.2).bind fun r160 => if r158.1 = r160.1 then (fL_law Ls xs n (v4 + (5 : Int32)) r160.2) else none) else (if ((xs (v4).toNatClampNeg) &&& (63 : Int32)) = (23 : Int32) then (if sm_ix (v4 + (1 : Int32)) Ls then (if sm_ix (v4 + (2 : Int32)) Ls then ((fX11_most (xs (v4 + (1 : Int32)).toNatClampNeg) (xs (v4 + (2 : Int32)).toNatClampNeg) m).bind fun r165 => if sm_ix (v4 + (1 : Int32)) Ls then (if sm_ix (v4 + (2 : Int32)) Ls then ((fX12_most (xs (v4 + (1 : Int32)).toNatClampNeg) (xs (v4 + (2 : Int32)).toNatClampNeg) r165.2).bind fun r169 => if r165.1 = r169.1 then (fL_law Ls xs n (v4 + (5 : Int32)) r169.2) else none) else none) else none) else none) else none) else (if ((xs (v4).toNatClampNeg) &&& (63 : Int32)) = (24 : Int32) then (if sm_ix (v4 + (1 : Int32)) Ls then (if sm_ix (v4 + (2 : Int32)) Ls then ((fX11_home (xs (v4 + (1 : Int32)).toNatClampNeg) (xs (v4 + (2 : Int32)).toNatClampNeg) m).bind fun r174 => if sm_ix (v4 + (1 : Int32)) Ls then (if sm_ix (v4 + (2 : Int32)) Ls then ((fX12_home (xs (v4 + (1 : Int32)).toNatClampNeg) (xs (v4 + (2 : Int32)).toNatClampNeg) r174.2).bind fun r178 => if r174.1 = r178.1 then (fL_law Ls xs n (v4 + (5 : Int32)) r178.2) else none) else none) else none) else none) else none) else (if ((xs (v4).toNatClampNeg) &&& (63 : Int32)) = (25 : Int32) then (if sm_ix (v4 + (1 : Int32)) Ls then (if sm_ix (v4 + (2 : Int32)) Ls then ((fX11_soon (xs (v4 + (1 : Int32)).toNatClampNeg) (xs (v4 + (2 : Int32)).toNatClampNeg) m).bind fun r183 => if sm_ix (v4 + (1 : Int32)) Ls then (if sm_ix (v4 + (2 : Int32)) Ls then ((fX12_soon (xs (v4 + (1 : Int32)).toNatClampNeg) (xs (v4 + (2 : Int32)).toNatClampNeg) r183.2).bind fun r187 => if r183.1 = r187.1 then (fL_law Ls xs n (v4 + (5 : Int32)) r187.2) else none) else none) else none) else none) else none) else (if ((xs (v4).toNatClampNeg) &&& (63 : Int32)) = (26 : Int32) then ((fX11_bridges m).bind fun r190 => (fX12_bridges m).bind fun r192 => if r190 = r192.1 then (fL_law Ls xs n (v4 + (5 : Int32)) r192.2) else none) else (if ((xs (v4).toNatClampNeg) &&& (63 : Int32)) = (27 : Int32) then (if sm_ix (v4 + (1 : Int32)) Ls then ((fL_reach (xs (v4 + (1 : Int32)).toNatClampNeg) m).bind fun r195 => if sm_ix (v4 + (1 : Int32)) Ls then ((fX12_reach (xs (v4 + (1 : Int32)).toNatClampNeg) r195.2).bind fun r199 => (fX12_thrown r199.2).bind fun r201 => if r201 = r195.1 then (if r195.1 = 0 then (if (lg_cmp (r199.2.2 107 0) (r199.1).toInt64) = 0 then (fL_law Ls xs n (v4 + (5 : Int32)) r199.2) else none) else (fL_law Ls xs n (v4 + (5 : Int32)) r199.2)) else none) else none) else none) else (if ((xs (v4).toNatClampNeg) &&& (63 : Int32)) = (28 : Int32) then (if sm_ix (v4 + (1 : Int32)) Ls then ((fX11_gates (xs (v4 + (1 : Int32)).toNatClampNeg) m).bind fun r205 => if sm_ix (v4 + (1 : Int32)) Ls then ((fX12_gates (xs (v4 + (1 : Int32)).toNatClampNeg) r205.2).bind fun r208 => if r205.1 = r208.1 then (fL_law Ls xs n (v4 + (5 : Int32)) r208.2) else none) else none) else none) else (if ((xs (v4).toNatClampNeg) &&& (63 : Int32)) = (29 : Int32) then (if sm_ix (v4 + (1 : Int32)) Ls then (if sm_ix (v4 + (2 : Int32)) Ls then ((fX11_heard (xs (v4 + (1 : Int32)).toNatClampNeg) (xs (v4 + (2 : Int32)).toNatClampNeg) m).bind fun r213 => if sm_ix (v4 + (1 : Int32)) Ls then (if sm_ix (v4 + (2 : Int32)) Ls then ((fX12_heard (xs (v4 + (1 : Int32)).toNatClampNeg) (xs (v4 + (2 : Int32)).toNatClampNeg) r213.2).bind fun r217 => if r213.1 = r217.1 then (fL_law Ls xs n (v4 + (5 : Int32)) r217.2) else none) else none) else none) else none) else none) else (if ((xs (v4).toNatClampNeg) &&& (63 : Int32)) = (30 : Int32) then ((fX11_forget m).bind fun r220 => (fX12_forget r220.2).bind fun r222 => if r220.1 = r222.1 then (fL_law Ls xs n (v4 + (5 : Int32)) r222.2) else none) else (if ((xs (v4).toNatClampNeg) &&& (63 : Int32)) = (31 : Int32) then ((fX11_lands m).bind fun r225 => (fX12_lands r225.2).bind fun r227 => if r225.1 = r227.1 then (fL_law Ls xs n (v4 + (5 : Int32)) r227.2) else none) else (if ((xs (v4).toNatClampNeg) &&& (63 : Int32)) = (32 : Int32) then ((fX11_sure m).bind fun r230 => (fX12_sure r230.2).bind fun r232 => if r230.1 = r232.1 then (fL_law Ls xs n (v4 + (5 : Int32)) r232.2) else none) else (if ((xs (v4).toNatClampNeg) &&& (63 : Int32)) = (33 : Int32) then ((fX11_next m).bind fun r235 => (fX12_next r235.2).bind fun r237 => if r235.1 = r237.1 then (fL_law Ls xs n (v4 + (5 : Int32)) r237.2) else none) else (if ((xs (v4).toNatClampNeg) &&& (63 : Int32)) = (34 : Int32) then ((fX11_lies m).bind fun r240 => (fX12_lies r240.2).bind fun r242 => if r240.1 = r242.1 then (fL_law Ls xs n (v4 + (5 : Int32)) r242.2) else none) else (if ((xs (v4).toNatClampNeg) &&& (63 : Int32)) = (35 : Int32) then ((fX11_quarrel m).bind fun r245 => (fX12_quarrel r245.2).bind fun r247 => if r245.1 = r247.1 then (fL_law Ls xs n (v4 + (5 : Int32)) r247.2) else none) else (if ((xs (v4).toNatClampNeg) &&& (63 : Int32)) = (36 : Int32) then (if sm_ix (v4 + (1 : Int32)) Ls then ((fX11_keep (xs (v4 + (1 : Int32)).toNatClampNeg) m).bind fun r251 => if sm_ix (v4 + (1 : Int32)) Ls then ((fX12_keep (xs (v4 + (1 : Int32)).toNatClampNeg) r251.2).bind fun r254 => if r251.1 = r254.1 then (fL_law Ls xs n (v4 + (5 : Int32)) r254.2) else none) else none) else none) else (if ((xs (v4).toNatClampNeg) &&& (63 : Int32)) = (37 : Int32) then (if sm_ix (v4 + (1 : Int32)) Ls then ((fX11_again (xs (v4 + (1 : Int32)).toNatClampNeg) m).bind fun r258 => if sm_ix (v4 + (1 : Int32)) Ls then ((fX12_again (xs (v4 + (1 : Int32)).toNatClampNeg) r258.2).bind fun r261 => if r258.1 = r261.1 then (fL_law Ls xs n (v4 + (5 : Int32)) r261.2) else none) else none) else none) else (if ((xs (v4).toNatClampNeg) &&& (63 : Int32)) = (38 : Int32) then (if sm_ix (v4 + (1 : Int32)) Ls then ((fX11_count (xs (v4 + (1 : Int32)).toNatClampNeg) m).bind fun r265 => if sm_ix (v4 + (1 : Int32)) Ls then ((fX12_count (xs (v4 + (1 : Int32)).toNatClampNeg) m).bind fun r268 => if r265 = r268.1 then (fL_law Ls xs n (v4 + (5 : Int32)) r268.2) else none) else none) else none) else (if ((xs (v4).toNatClampNeg) &&& (63 : Int32)) = (39 : Int32) then (if sm_ix (v4 + (1 : Int32)) Ls then ((fL_row (xs (v4 + (1 : Int32)).toNatClampNeg) m).bind fun r271 => if sm_ix (v4 + (1 : Int32)) Ls then ((fX12_row (xs (v4 + (1 : Int32)).toNatClampNeg) r271.2).bind fun r275 => (fX12_thrown r275.2).bind fun r277 => if r277 = r271.1 then (if r271.1 = 0 then (if (lg_cmp (r275.2.2 107 0) (r275.1).toInt64) = 0 then (fL_law Ls xs n (v4 + (5 : Int32)) r275.2) else none) else (fL_law Ls xs n (v4 + (5 : Int32)) r275.2)) else none) else none) else none) else (fL_law Ls xs n (v4 + (5 : Int32)) m))))))))))))))))))))))))))))))))))))))))) else none)
set_option maxRecDepth 20000 in
set_option maxHeartbeats 4000000 in
theorem tL_law {nm : String} {p : Program} {l : Launch} {e : Env} {s : State} {m₀ : MethodId} {args : Array Value} {below : List Frame} {meth : Method} {c : Code} {b ba Ls : Nat} {D : va_G} {dA : Nat → ClassId} {xs : Nat → Int32} {Q : State → Prop} (hl : l.stackTraces = false) (hC : sm_C p room_1 s m₀ args meth c (sm_ML nm) 20 D dA) (hX : sm_XF ba s) (hS : va_X b Ls xs s s.heap) (hbl : b < s.heap.size) (hbb : b < ba)
    (hE : ∀ (L : List Value) (h : sm_H), sm_At p l e room_1 s m₀ args below meth c b ba D dA (sm_ML nm).2.2.1 false 0 0 Q 1252 L [.int 1] h) : ∀ (n : Nat) (v4 : Int32) (m : sm_S), fL_law Ls xs n v4 m = some () → sm_At p l e room_1 s m₀ args below meth c b ba D dA (sm_ML nm).2.2.1 false n (6 * n) Q 23 [.retAddr 1, .ref 0, .ref 72, .ref 107, .int v4, .retAddr 0, .retAddr 0] [] (sm_hp m) := by
  intro n
  induction n with
  | zero =>
    intro v4 m hf
    unfold fL_law at hf
    cases hf
  | succ n ih =>
    intro v4 m hf
    unfold fL_law at hf
    refine j_blk hC bL_law_23 [.retAddr 1, .ref 0, .ref 72, .ref 107, .int v4, .retAddr 0, .retAddr 0] [.retAddr 1, .int v4] (sm_hp m) [] rfl (sm_on) ?_
    refine j_slen hC hS hbl hbb dL_law_26 ?_
    refine j_blk hC bL_law_27 [.retAddr 1, .ref 0, .ref 72, .ref 107, .int v4, .retAddr 0, .retAddr 0] [.int ((Int32.ofNat Ls) - (5 : Int32)), .int v4] (sm_hp m) [] rfl (sm_on) ?_
    refine j_icmp_gt hC (tgt := 1251) dL_law_29 rfl (fun hc => ?_) (fun hc => ?_)
    · replace hf := sm_ift hc hf
      refine j_blk hC bL_law_1251 [.retAddr 1, .ref 0, .ref 72, .ref 107, .int v4, .retAddr 0, .retAddr 0] [.int (1 : Int32)] (sm_hp m) [] rfl (sm_on) ?_
      exact sm_At.room (Nat.zero_le _) (Nat.zero_le _) (hE _ _)
    · replace hf := sm_iff hc hf
      refine j_blk hC bL_law_32 [.retAddr 1, .ref 0, .ref 72, .ref 107, .int v4, .retAddr 0, .retAddr 0] [.int v4, .retAddr 1] (sm_hp m) [] rfl (sm_on) ?_
      replace hf := sm_ck hf
      obtain ⟨q1, hf⟩ := hf
      refine j_sld hC hS hbl hbb dL_law_35 q1 ?_
      refine j_blk hC bL_law_36 [.retAddr 1, .ref 0, .ref 72, .ref 107, .int v4, .retAddr 0, .retAddr 0] [.int ((xs (v4).toNatClampNeg) &&& (63 : Int32))] (sm_hp m) [] rfl (sm_on) ?_
      by_cases hc2 : ((xs (v4).toNatClampNeg) &&& (63 : Int32)) = (0 : Int32)
      · replace hf := sm_ift hc2 hf
        refine j_tableIn hC (off := 173) (tgt := 212) dL_law_39 (by rw [hc2]; decide) (by rw [hc2]; decide) (by rw [hc2]; rfl) rfl ?_
        refine j_blk hC bL_law_212 [.retAddr 1, .ref 0, .ref 72, .ref 107, .int v4, .retAddr 0, .retAddr 0] [.int (v4 + (1 : Int32)), .retAddr 1, .ref 0] (sm_hp m) [] rfl (sm_on) ?_
        replace hf := sm_ck hf
        obtain ⟨q3, hf⟩ := hf
        refine j_sld hC hS hbl hbb dL_law_218 q3 ?_
        replace hf := sm_bd hf
        obtain ⟨r5, q4, hf⟩ := hf
        refine j_callV hC [.int (xs (v4 + (1 : Int32)).toNatClampNeg)] [] (tX11_sign (xs (v4 + (1 : Int32)).toNatClampNeg) m r5 q4) (cvL_26 rfl) dL_law_219 rfl rfl (by decide) (by decide) rfl (Nat.le_of_ble_eq_true rfl) ?_
        show sm_At p l e room_1 s m₀ args below meth c b ba D dA _ _ _ _ _ 222 [.retAddr 1, .ref 0, .ref 72, .ref 107, .int v4, .retAddr 0, .retAddr 0] [.int r5.1] (sm_hp r5.2)
        refine j_blk hC bL_law_222 [.retAddr 1, .ref 0, .ref 72, .ref 107, .int v4, .retAddr 0, .retAddr 0] [.int (v4 + (1 : Int32)), .retAddr 1, .ref 72, .int r5.1] (sm_hp r5.2) [] rfl (sm_on) ?_
        replace hf := sm_ck hf
        obtain ⟨q6, hf⟩ := hf
        refine j_sld hC hS hbl hbb dL_law_228 q6 ?_
        replace hf := sm_bd hf
        obtain ⟨r8, q7, hf⟩ := hf
        refine j_callV hC [.int (xs (v4 + (1 : Int32)).toNatClampNeg)] [.int r5.1] (tX12_sign (xs (v4 + (1 : Int32)).toNatClampNeg) r5.2 r8 q7) (cvL_29 rfl) dL_law_229 rfl rfl (by decide) (by decide) rfl (Nat.le_of_ble_eq_true rfl) ?_
        show sm_At p l e room_1 s m₀ args below meth c b ba D dA _ _ _ _ _ 232 [.retAddr 1, .ref 0, .ref 72, .ref 107, .int v4, .retAddr 0, .retAddr 0] [.int r8.1, .int r5.1] (sm_hp r8.2)
        refine j_icmp_eq hC (tgt := 1245) dL_law_232 rfl (fun hc => ?_) (fun hc => ?_)
        · replace hf := sm_ift hc hf
          refine j_blk hC bL_law_1245 [.retAddr 1, .ref 0, .ref 72, .ref 107, .int (v4 + (5 : Int32)), .retAddr 0, .retAddr 0] [] (sm_hp r8.2) [] rfl (sm_on) ?_
          refine j_goto hC (tgt := 23) dL_law_1248 rfl ?_
          exact sm_At.room (by omega) (by omega) (ih (v4 + (5 : Int32)) r8.2 hf)
        · replace hf := sm_iff hc hf
          refine j_blk hC bL_law_235 [.retAddr 1, .ref 0, .ref 72, .ref 107, .int v4, .retAddr 0, .retAddr 0] [.int (0 : Int32)] (sm_hp r8.2) [] rfl (sm_on) ?_
          cases hf
      · replace hf := sm_iff hc2 hf
        by_cases hc9 : ((xs (v4).toNatClampNeg) &&& (63 : Int32)) = (1 : Int32)
        · replace hf := sm_ift hc9 hf
          refine j_tableIn hC (off := 198) (tgt := 237) dL_law_39 (by rw [hc9]; decide) (by rw [hc9]; decide) (by rw [hc9]; rfl) rfl ?_
          refine j_blk hC bL_law_237 [.retAddr 1, .ref 0, .ref 72, .ref 107, .int v4, .retAddr 0, .retAddr 0] [.int (v4 + (1 : Int32)), .retAddr 1, .ref 0] (sm_hp m) [] rfl (sm_on) ?_
          replace hf := sm_ck hf
          obtain ⟨q10, hf⟩ := hf
          refine j_sld hC hS hbl hbb dL_law_243 q10 ?_
          replace hf := sm_bd hf
          obtain ⟨r12, q11, hf⟩ := hf
          refine j_callV hC [.int (xs (v4 + (1 : Int32)).toNatClampNeg)] [] (tX11_end (xs (v4 + (1 : Int32)).toNatClampNeg) m r12 q11) (cvL_30 rfl) dL_law_244 rfl rfl (by decide) (by decide) rfl (Nat.le_of_ble_eq_true rfl) ?_
          show sm_At p l e room_1 s m₀ args below meth c b ba D dA _ _ _ _ _ 247 [.retAddr 1, .ref 0, .ref 72, .ref 107, .int v4, .retAddr 0, .retAddr 0] [.int r12.1] (sm_hp r12.2)
          refine j_blk hC bL_law_247 [.retAddr 1, .ref 0, .ref 72, .ref 107, .int v4, .retAddr 0, .retAddr 0] [.int (v4 + (1 : Int32)), .retAddr 1, .ref 72, .int r12.1] (sm_hp r12.2) [] rfl (sm_on) ?_
          replace hf := sm_ck hf
          obtain ⟨q13, hf⟩ := hf
          refine j_sld hC hS hbl hbb dL_law_253 q13 ?_
          replace hf := sm_bd hf
          obtain ⟨r15, q14, hf⟩ := hf
          refine j_callV hC [.int (xs (v4 + (1 : Int32)).toNatClampNeg)] [.int r12.1] (tX12_end (xs (v4 + (1 : Int32)).toNatClampNeg) r12.2 r15 q14) (cvL_34 rfl) dL_law_254 rfl rfl (by decide) (by decide) rfl (Nat.le_of_ble_eq_true rfl) ?_
          show sm_At p l e room_1 s m₀ args below meth c b ba D dA _ _ _ _ _ 257 [.retAddr 1, .ref 0, .ref 72, .ref 107, .int v4, .retAddr 0, .retAddr 0] [.int r15.1, .int r12.1] (sm_hp r15.2)
          refine j_icmp_eq hC (tgt := 1245) dL_law_257 rfl (fun hc => ?_) (fun hc => ?_)
          · replace hf := sm_ift hc hf
            refine j_blk hC bL_law_1245 [.retAddr 1, .ref 0, .ref 72, .ref 107, .int (v4 + (5 : Int32)), .retAddr 0, .retAddr 0] [] (sm_hp r15.2) [] rfl (sm_on) ?_
            refine j_goto hC (tgt := 23) dL_law_1248 rfl ?_
            exact sm_At.room (by omega) (by omega) (ih (v4 + (5 : Int32)) r15.2 hf)
          · replace hf := sm_iff hc hf
            refine j_blk hC bL_law_260 [.retAddr 1, .ref 0, .ref 72, .ref 107, .int v4, .retAddr 0, .retAddr 0] [.int (0 : Int32)] (sm_hp r15.2) [] rfl (sm_on) ?_
            cases hf
        · replace hf := sm_iff hc9 hf
          by_cases hc16 : ((xs (v4).toNatClampNeg) &&& (63 : Int32)) = (2 : Int32)
          · replace hf := sm_ift hc16 hf
            refine j_tableIn hC (off := 223) (tgt := 262) dL_law_39 (by rw [hc16]; decide) (by rw [hc16]; decide) (by rw [hc16]; rfl) rfl ?_
            refine j_blk hC bL_law_262 [.retAddr 1, .ref 0, .ref 72, .ref 107, .int v4, .retAddr 0, .retAddr 0] [.ref 0] (sm_hp m) [] rfl (sm_on) ?_
            replace hf := sm_bd hf
            obtain ⟨r18, q17, hf⟩ := hf
            refine j_callV hC [] [] (tX11_land m r18 q17) (cvL_35 rfl) dL_law_263 rfl rfl (by decide) (by decide) rfl (Nat.le_of_ble_eq_true rfl) ?_
            show sm_At p l e room_1 s m₀ args below meth c b ba D dA _ _ _ _ _ 266 [.retAddr 1, .ref 0, .ref 72, .ref 107, .int v4, .retAddr 0, .retAddr 0] [.int r18.1] (sm_hp r18.2)
            refine j_blk hC bL_law_266 [.retAddr 1, .ref 0, .ref 72, .ref 107, .int v4, .retAddr 0, .retAddr 0] [.ref 72, .int r18.1] (sm_hp r18.2) [] rfl (sm_on) ?_
            replace hf := sm_bd hf
            obtain ⟨r20, q19, hf⟩ := hf
            refine j_callV hC [] [.int r18.1] (tX12_land r18.2 r20 q19) (cvL_39 rfl) dL_law_267 rfl rfl (by decide) (by decide) rfl (Nat.le_of_ble_eq_true rfl) ?_
            show sm_At p l e room_1 s m₀ args below meth c b ba D dA _ _ _ _ _ 270 [.retAddr 1, .ref 0, .ref 72, .ref 107, .int v4, .retAddr 0, .retAddr 0] [.int r20.1, .int r18.1] (sm_hp r20.2)
            refine j_icmp_eq hC (tgt := 1245) dL_law_270 rfl (fun hc => ?_) (fun hc => ?_)
            · replace hf := sm_ift hc hf
              refine j_blk hC bL_law_1245 [.retAddr 1, .ref 0, .ref 72, .ref 107, .int (v4 + (5 : Int32)), .retAddr 0, .retAddr 0] [] (sm_hp r20.2) [] rfl (sm_on) ?_
              refine j_goto hC (tgt := 23) dL_law_1248 rfl ?_
              exact sm_At.room (by omega) (by omega) (ih (v4 + (5 : Int32)) r20.2 hf)
            · replace hf := sm_iff hc hf
              refine j_blk hC bL_law_273 [.retAddr 1, .ref 0, .ref 72, .ref 107, .int v4, .retAddr 0, .retAddr 0] [.int (0 : Int32)] (sm_hp r20.2) [] rfl (sm_on) ?_
              cases hf
          · replace hf := sm_iff hc16 hf
            by_cases hc21 : ((xs (v4).toNatClampNeg) &&& (63 : Int32)) = (3 : Int32)
            · replace hf := sm_ift hc21 hf
              refine j_tableIn hC (off := 236) (tgt := 275) dL_law_39 (by rw [hc21]; decide) (by rw [hc21]; decide) (by rw [hc21]; rfl) rfl ?_
              refine j_blk hC bL_law_275 [.retAddr 1, .ref 0, .ref 72, .ref 107, .int v4, .retAddr 0, .retAddr 0] [.int (v4 + (1 : Int32)), .retAddr 1, .ref 0] (sm_hp m) [] rfl (sm_on) ?_
              replace hf := sm_ck hf
              obtain ⟨q22, hf⟩ := hf
              refine j_sld hC hS hbl hbb dL_law_281 q22 ?_
              refine j_blk hC bL_law_282 [.retAddr 1, .ref 0, .ref 72, .ref 107, .int v4, .retAddr 0, .retAddr 0] [.int (v4 + (2 : Int32)), .retAddr 1, .int (xs (v4 + (1 : Int32)).toNatClampNeg), .ref 0] (sm_hp m) [] rfl (sm_on) ?_
              replace hf := sm_ck hf
              obtain ⟨q23, hf⟩ := hf
              refine j_sld hC hS hbl hbb dL_law_287 q23 ?_
              refine j_blk hC bL_law_288 [.retAddr 1, .ref 0, .ref 72, .ref 107, .int v4, .retAddr 0, .retAddr 0] [.ref 107, .int (xs (v4 + (2 : Int32)).toNatClampNeg), .int (xs (v4 + (1 : Int32)).toNatClampNeg), .ref 0] (sm_hp m) [] rfl (sm_on) ?_
              replace hf := sm_bd hf
              obtain ⟨r24, q25, hf⟩ := hf
              refine sm_At.room (rc' := n + 1) (rs' := 6 * n + 6) (by omega) (by omega) ?_
              refine jm_callH (n := 4) [.ref 0, .int (xs (v4 + (1 : Int32)).toNatClampNeg), .int (xs (v4 + (2 : Int32)).toNatClampNeg), .ref 107] [] (tL_hedge hl (xs (v4 + (1 : Int32)).toNatClampNeg) (xs (v4 + (2 : Int32)).toNatClampNeg) m r24 q25) hC hX ⟨by decide, by decide, by decide +kernel⟩ wmL_40 wsL_hedge wIL wcwL_hedge dL_law_289 rfl rfl (by decide) (by decide) (Nat.le_of_ble_eq_true rfl) ?_
              show sm_At p l e room_1 s m₀ args below meth c b ba D dA _ _ _ _ _ 292 [.retAddr 1, .ref 0, .ref 72, .ref 107, .int v4, .retAddr 0, .retAddr 0] [.int r24.1] (sm_hp r24.2)
              refine j_blk hC bL_law_292 [.retAddr 1, .ref 0, .ref 72, .ref 107, .int v4, .int r24.1, .retAddr 0] [.int (v4 + (1 : Int32)), .retAddr 1, .ref 72] (sm_hp r24.2) [] rfl (sm_on) ?_
              replace hf := sm_ck hf
              obtain ⟨q26, hf⟩ := hf
              refine j_sld hC hS hbl hbb dL_law_300 q26 ?_
              refine j_blk hC bL_law_301 [.retAddr 1, .ref 0, .ref 72, .ref 107, .int v4, .int r24.1, .retAddr 0] [.int (v4 + (2 : Int32)), .retAddr 1, .int (xs (v4 + (1 : Int32)).toNatClampNeg), .ref 72] (sm_hp r24.2) [] rfl (sm_on) ?_
              replace hf := sm_ck hf
              obtain ⟨q27, hf⟩ := hf
              refine j_sld hC hS hbl hbb dL_law_306 q27 ?_
              replace hf := sm_bd hf
              obtain ⟨r29, q28, hf⟩ := hf
              refine j_callV hC [.int (xs (v4 + (1 : Int32)).toNatClampNeg), .int (xs (v4 + (2 : Int32)).toNatClampNeg)] [] (tX12_hedge (xs (v4 + (1 : Int32)).toNatClampNeg) (xs (v4 + (2 : Int32)).toNatClampNeg) r24.2 r29 q28) (cvL_45 rfl) dL_law_307 rfl rfl (by decide) (by decide) rfl (Nat.le_of_ble_eq_true rfl) ?_
              show sm_At p l e room_1 s m₀ args below meth c b ba D dA _ _ _ _ _ 310 [.retAddr 1, .ref 0, .ref 72, .ref 107, .int v4, .int r24.1, .retAddr 0] [.int r29.1] (sm_hp r29.2)
              refine j_blk hC bL_law_310 [.retAddr 1, .ref 0, .ref 72, .ref 107, .int v4, .int r24.1, .int r29.1] [.ref 72] (sm_hp r29.2) [] rfl (sm_on) ?_
              replace hf := sm_bd hf
              obtain ⟨r31, q30, hf⟩ := hf
              refine j_callV hC [] [] (tX12_thrown r29.2 r31 q30) (cvL_46 rfl) dL_law_313 rfl rfl (by decide) (by decide) rfl (Nat.le_of_ble_eq_true rfl) ?_
              show sm_At p l e room_1 s m₀ args below meth c b ba D dA _ _ _ _ _ 316 [.retAddr 1, .ref 0, .ref 72, .ref 107, .int v4, .int r24.1, .int r29.1] [.int r31] (sm_hp r29.2)
              refine j_blk hC bL_law_316 [.retAddr 1, .ref 0, .ref 72, .ref 107, .int v4, .int r24.1, .int r29.1] [.int r24.1, .int r31] (sm_hp r29.2) [] rfl (sm_on) ?_
              refine j_icmp_eq hC (tgt := 323) dL_law_318 rfl (fun hc => ?_) (fun hc => ?_)
              · replace hf := sm_ift hc hf
                refine j_blk hC bL_law_323 [.retAddr 1, .ref 0, .ref 72, .ref 107, .int v4, .int r24.1, .int r29.1] [.int r24.1] (sm_hp r29.2) [] rfl (sm_on) ?_
                refine j_if_ne hC (tgt := 340) dL_law_325 rfl (fun hc => ?_) (fun hc => ?_)
                · replace hf := sm_iff hc hf
                  refine j_goto hC (tgt := 1245) dL_law_340 rfl ?_
                  refine j_blk hC bL_law_1245 [.retAddr 1, .ref 0, .ref 72, .ref 107, .int (v4 + (5 : Int32)), .int r24.1, .int r29.1] [] (sm_hp r29.2) [] rfl (sm_on) ?_
                  refine j_goto hC (tgt := 23) dL_law_1248 rfl ?_
                  refine j_wk hC [true, true, true, true, true, false, false] ?_
                  exact sm_At.room (by omega) (by omega) (ih (v4 + (5 : Int32)) r29.2 hf)
                · replace hf := sm_ift hc hf
                  refine j_blk hC bL_law_328 [.retAddr 1, .ref 0, .ref 72, .ref 107, .int v4, .int r24.1, .int r29.1] [.int (lg_cmp (r29.2.2 107 0) (r29.1).toInt64)] (sm_hp r29.2) [((0 : Int32), 1)] rfl (sm_oc (by decide) (sm_on)) ?_
                  refine j_if_eq hC (tgt := 340) dL_law_335 rfl (fun hc => ?_) (fun hc => ?_)
                  · replace hf := sm_ift hc hf
                    refine j_goto hC (tgt := 1245) dL_law_340 rfl ?_
                    refine j_blk hC bL_law_1245 [.retAddr 1, .ref 0, .ref 72, .ref 107, .int (v4 + (5 : Int32)), .int r24.1, .int r29.1] [] (sm_hp r29.2) [] rfl (sm_on) ?_
                    refine j_goto hC (tgt := 23) dL_law_1248 rfl ?_
                    refine j_wk hC [true, true, true, true, true, false, false] ?_
                    exact sm_At.room (by omega) (by omega) (ih (v4 + (5 : Int32)) r29.2 hf)
                  · replace hf := sm_iff hc hf
                    refine j_blk hC bL_law_338 [.retAddr 1, .ref 0, .ref 72, .ref 107, .int v4, .int r24.1, .int r29.1] [.int (0 : Int32)] (sm_hp r29.2) [] rfl (sm_on) ?_
                    cases hf
              · replace hf := sm_iff hc hf
                refine j_blk hC bL_law_321 [.retAddr 1, .ref 0, .ref 72, .ref 107, .int v4, .int r24.1, .int r29.1] [.int (0 : Int32)] (sm_hp r29.2) [] rfl (sm_on) ?_
                cases hf
            · replace hf := sm_iff hc21 hf
              by_cases hc32 : ((xs (v4).toNatClampNeg) &&& (63 : Int32)) = (4 : Int32)
              · replace hf := sm_ift hc32 hf
                refine j_tableIn hC (off := 304) (tgt := 343) dL_law_39 (by rw [hc32]; decide) (by rw [hc32]; decide) (by rw [hc32]; rfl) rfl ?_
                refine j_blk hC bL_law_343 [.retAddr 1, .ref 0, .ref 72, .ref 107, .int v4, .retAddr 0, .retAddr 0] [.int (v4 + (1 : Int32)), .retAddr 1, .ref 0] (sm_hp m) [] rfl (sm_on) ?_
                replace hf := sm_ck hf
                obtain ⟨q33, hf⟩ := hf
                refine j_sld hC hS hbl hbb dL_law_349 q33 ?_
                refine j_blk hC bL_law_350 [.retAddr 1, .ref 0, .ref 72, .ref 107, .int v4, .retAddr 0, .retAddr 0] [.int (v4 + (2 : Int32)), .retAddr 1, .int (xs (v4 + (1 : Int32)).toNatClampNeg), .ref 0] (sm_hp m) [] rfl (sm_on) ?_
                replace hf := sm_ck hf
                obtain ⟨q34, hf⟩ := hf
                refine j_sld hC hS hbl hbb dL_law_355 q34 ?_
                replace hf := sm_bd hf
                obtain ⟨r36, q35, hf⟩ := hf
                refine j_callV hC [.int (xs (v4 + (1 : Int32)).toNatClampNeg), .int (xs (v4 + (2 : Int32)).toNatClampNeg)] [] (tX11_grass (xs (v4 + (1 : Int32)).toNatClampNeg) (xs (v4 + (2 : Int32)).toNatClampNeg) m r36 q35) (cvL_49 rfl) dL_law_356 rfl rfl (by decide) (by decide) rfl (Nat.le_of_ble_eq_true rfl) ?_
                show sm_At p l e room_1 s m₀ args below meth c b ba D dA _ _ _ _ _ 359 [.retAddr 1, .ref 0, .ref 72, .ref 107, .int v4, .retAddr 0, .retAddr 0] [.int r36] (sm_hp m)
                refine j_blk hC bL_law_359 [.retAddr 1, .ref 0, .ref 72, .ref 107, .int v4, .retAddr 0, .retAddr 0] [.int (v4 + (1 : Int32)), .retAddr 1, .ref 72, .int r36] (sm_hp m) [] rfl (sm_on) ?_
                replace hf := sm_ck hf
                obtain ⟨q37, hf⟩ := hf
                refine j_sld hC hS hbl hbb dL_law_365 q37 ?_
                refine j_blk hC bL_law_366 [.retAddr 1, .ref 0, .ref 72, .ref 107, .int v4, .retAddr 0, .retAddr 0] [.int (v4 + (2 : Int32)), .retAddr 1, .int (xs (v4 + (1 : Int32)).toNatClampNeg), .ref 72, .int r36] (sm_hp m) [] rfl (sm_on) ?_
                replace hf := sm_ck hf
                obtain ⟨q38, hf⟩ := hf
                refine j_sld hC hS hbl hbb dL_law_371 q38 ?_
                replace hf := sm_bd hf
                obtain ⟨r40, q39, hf⟩ := hf
                refine j_callV hC [.int (xs (v4 + (1 : Int32)).toNatClampNeg), .int (xs (v4 + (2 : Int32)).toNatClampNeg)] [.int r36] (tX12_grass (xs (v4 + (1 : Int32)).toNatClampNeg) (xs (v4 + (2 : Int32)).toNatClampNeg) m r40 q39) (cvL_52 rfl) dL_law_372 rfl rfl (by decide) (by decide) rfl (Nat.le_of_ble_eq_true rfl) ?_
                show sm_At p l e room_1 s m₀ args below meth c b ba D dA _ _ _ _ _ 375 [.retAddr 1, .ref 0, .ref 72, .ref 107, .int v4, .retAddr 0, .retAddr 0] [.int r40.1, .int r36] (sm_hp r40.2)
                refine j_icmp_eq hC (tgt := 1245) dL_law_375 rfl (fun hc => ?_) (fun hc => ?_)
                · replace hf := sm_ift hc hf
                  refine j_blk hC bL_law_1245 [.retAddr 1, .ref 0, .ref 72, .ref 107, .int (v4 + (5 : Int32)), .retAddr 0, .retAddr 0] [] (sm_hp r40.2) [] rfl (sm_on) ?_
                  refine j_goto hC (tgt := 23) dL_law_1248 rfl ?_
                  exact sm_At.room (by omega) (by omega) (ih (v4 + (5 : Int32)) r40.2 hf)
                · replace hf := sm_iff hc hf
                  refine j_blk hC bL_law_378 [.retAddr 1, .ref 0, .ref 72, .ref 107, .int v4, .retAddr 0, .retAddr 0] [.int (0 : Int32)] (sm_hp r40.2) [] rfl (sm_on) ?_
                  cases hf
              · replace hf := sm_iff hc32 hf
                by_cases hc41 : ((xs (v4).toNatClampNeg) &&& (63 : Int32)) = (5 : Int32)
                · replace hf := sm_ift hc41 hf
                  refine j_tableIn hC (off := 341) (tgt := 380) dL_law_39 (by rw [hc41]; decide) (by rw [hc41]; decide) (by rw [hc41]; rfl) rfl ?_
                  refine j_blk hC bL_law_380 [.retAddr 1, .ref 0, .ref 72, .ref 107, .int v4, .retAddr 0, .retAddr 0] [.int (v4 + (1 : Int32)), .retAddr 1, .ref 0] (sm_hp m) [] rfl (sm_on) ?_
                  replace hf := sm_ck hf
                  obtain ⟨q42, hf⟩ := hf
                  refine j_sld hC hS hbl hbb dL_law_386 q42 ?_
                  refine j_blk hC bL_law_387 [.retAddr 1, .ref 0, .ref 72, .ref 107, .int v4, .retAddr 0, .retAddr 0] [.int (v4 + (2 : Int32)), .retAddr 1, .int (xs (v4 + (1 : Int32)).toNatClampNeg), .ref 0] (sm_hp m) [] rfl (sm_on) ?_
                  replace hf := sm_ck hf
                  obtain ⟨q43, hf⟩ := hf
                  refine j_sld hC hS hbl hbb dL_law_392 q43 ?_
                  refine j_blk hC bL_law_393 [.retAddr 1, .ref 0, .ref 72, .ref 107, .int v4, .retAddr 0, .retAddr 0] [.int (v4 + (3 : Int32)), .retAddr 1, .int (xs (v4 + (2 : Int32)).toNatClampNeg), .int (xs (v4 + (1 : Int32)).toNatClampNeg), .ref 0] (sm_hp m) [] rfl (sm_on) ?_
                  replace hf := sm_ck hf
                  obtain ⟨q44, hf⟩ := hf
                  refine j_sld hC hS hbl hbb dL_law_398 q44 ?_
                  replace hf := sm_bd hf
                  obtain ⟨r46, q45, hf⟩ := hf
                  refine j_callV hC [.int (xs (v4 + (1 : Int32)).toNatClampNeg), .int (xs (v4 + (2 : Int32)).toNatClampNeg), .int (xs (v4 + (3 : Int32)).toNatClampNeg)] [] (tX11_set (xs (v4 + (1 : Int32)).toNatClampNeg) (xs (v4 + (2 : Int32)).toNatClampNeg) (xs (v4 + (3 : Int32)).toNatClampNeg) m r46 q45) (cvL_53 rfl) dL_law_399 rfl rfl (by decide) (by decide) rfl (Nat.le_of_ble_eq_true rfl) ?_
                  show sm_At p l e room_1 s m₀ args below meth c b ba D dA _ _ _ _ _ 402 [.retAddr 1, .ref 0, .ref 72, .ref 107, .int v4, .retAddr 0, .retAddr 0] [.int r46.1] (sm_hp r46.2)
                  refine j_blk hC bL_law_402 [.retAddr 1, .ref 0, .ref 72, .ref 107, .int v4, .retAddr 0, .retAddr 0] [.int (v4 + (1 : Int32)), .retAddr 1, .ref 72, .int r46.1] (sm_hp r46.2) [] rfl (sm_on) ?_
                  replace hf := sm_ck hf
                  obtain ⟨q47, hf⟩ := hf
                  refine j_sld hC hS hbl hbb dL_law_408 q47 ?_
                  refine j_blk hC bL_law_409 [.retAddr 1, .ref 0, .ref 72, .ref 107, .int v4, .retAddr 0, .retAddr 0] [.int (v4 + (2 : Int32)), .retAddr 1, .int (xs (v4 + (1 : Int32)).toNatClampNeg), .ref 72, .int r46.1] (sm_hp r46.2) [] rfl (sm_on) ?_
                  replace hf := sm_ck hf
                  obtain ⟨q48, hf⟩ := hf
                  refine j_sld hC hS hbl hbb dL_law_414 q48 ?_
                  refine j_blk hC bL_law_415 [.retAddr 1, .ref 0, .ref 72, .ref 107, .int v4, .retAddr 0, .retAddr 0] [.int (v4 + (3 : Int32)), .retAddr 1, .int (xs (v4 + (2 : Int32)).toNatClampNeg), .int (xs (v4 + (1 : Int32)).toNatClampNeg), .ref 72, .int r46.1] (sm_hp r46.2) [] rfl (sm_on) ?_
                  replace hf := sm_ck hf
                  obtain ⟨q49, hf⟩ := hf
                  refine j_sld hC hS hbl hbb dL_law_420 q49 ?_
                  replace hf := sm_bd hf
                  obtain ⟨r51, q50, hf⟩ := hf
                  refine j_callV hC [.int (xs (v4 + (1 : Int32)).toNatClampNeg), .int (xs (v4 + (2 : Int32)).toNatClampNeg), .int (xs (v4 + (3 : Int32)).toNatClampNeg)] [.int r46.1] (tX12_set (xs (v4 + (1 : Int32)).toNatClampNeg) (xs (v4 + (2 : Int32)).toNatClampNeg) (xs (v4 + (3 : Int32)).toNatClampNeg) r46.2 r51 q50) (cvL_57 rfl) dL_law_421 rfl rfl (by decide) (by decide) rfl (Nat.le_of_ble_eq_true rfl) ?_
                  show sm_At p l e room_1 s m₀ args below meth c b ba D dA _ _ _ _ _ 424 [.retAddr 1, .ref 0, .ref 72, .ref 107, .int v4, .retAddr 0, .retAddr 0] [.int r51.1, .int r46.1] (sm_hp r51.2)
                  refine j_icmp_eq hC (tgt := 1245) dL_law_424 rfl (fun hc => ?_) (fun hc => ?_)
                  · replace hf := sm_ift hc hf
                    refine j_blk hC bL_law_1245 [.retAddr 1, .ref 0, .ref 72, .ref 107, .int (v4 + (5 : Int32)), .retAddr 0, .retAddr 0] [] (sm_hp r51.2) [] rfl (sm_on) ?_
                    refine j_goto hC (tgt := 23) dL_law_1248 rfl ?_
                    exact sm_At.room (by omega) (by omega) (ih (v4 + (5 : Int32)) r51.2 hf)
                  · replace hf := sm_iff hc hf
                    refine j_blk hC bL_law_427 [.retAddr 1, .ref 0, .ref 72, .ref 107, .int v4, .retAddr 0, .retAddr 0] [.int (0 : Int32)] (sm_hp r51.2) [] rfl (sm_on) ?_
                    cases hf
                · replace hf := sm_iff hc41 hf
                  by_cases hc52 : ((xs (v4).toNatClampNeg) &&& (63 : Int32)) = (6 : Int32)
                  · replace hf := sm_ift hc52 hf
                    refine j_tableIn hC (off := 390) (tgt := 429) dL_law_39 (by rw [hc52]; decide) (by rw [hc52]; decide) (by rw [hc52]; rfl) rfl ?_
                    refine j_blk hC bL_law_429 [.retAddr 1, .ref 0, .ref 72, .ref 107, .int v4, .retAddr 0, .retAddr 0] [.int (v4 + (1 : Int32)), .retAddr 1, .ref 0] (sm_hp m) [] rfl (sm_on) ?_
                    replace hf := sm_ck hf
                    obtain ⟨q53, hf⟩ := hf
                    refine j_sld hC hS hbl hbb dL_law_435 q53 ?_
                    refine j_blk hC bL_law_436 [.retAddr 1, .ref 0, .ref 72, .ref 107, .int v4, .retAddr 0, .retAddr 0] [.int (v4 + (2 : Int32)), .retAddr 1, .int (xs (v4 + (1 : Int32)).toNatClampNeg), .ref 0] (sm_hp m) [] rfl (sm_on) ?_
                    replace hf := sm_ck hf
                    obtain ⟨q54, hf⟩ := hf
                    refine j_sld hC hS hbl hbb dL_law_441 q54 ?_
                    refine j_blk hC bL_law_442 [.retAddr 1, .ref 0, .ref 72, .ref 107, .int v4, .retAddr 0, .retAddr 0] [.int (v4 + (3 : Int32)), .retAddr 1, .int (xs (v4 + (2 : Int32)).toNatClampNeg), .int (xs (v4 + (1 : Int32)).toNatClampNeg), .ref 0] (sm_hp m) [] rfl (sm_on) ?_
                    replace hf := sm_ck hf
                    obtain ⟨q55, hf⟩ := hf
                    refine j_sld hC hS hbl hbb dL_law_447 q55 ?_
                    refine j_blk hC bL_law_448 [.retAddr 1, .ref 0, .ref 72, .ref 107, .int v4, .retAddr 0, .retAddr 0] [.int (v4 + (4 : Int32)), .retAddr 1, .int (xs (v4 + (3 : Int32)).toNatClampNeg), .int (xs (v4 + (2 : Int32)).toNatClampNeg), .int (xs (v4 + (1 : Int32)).toNatClampNeg), .ref 0] (sm_hp m) [] rfl (sm_on) ?_
                    replace hf := sm_ck hf
                    obtain ⟨q56, hf⟩ := hf
                    refine j_sld hC hS hbl hbb dL_law_453 q56 ?_
                    replace hf := sm_bd hf
                    obtain ⟨r58, q57, hf⟩ := hf
                    refine j_callV hC [.int (xs (v4 + (1 : Int32)).toNatClampNeg), .int (xs (v4 + (2 : Int32)).toNatClampNeg), .int (xs (v4 + (3 : Int32)).toNatClampNeg), .int (xs (v4 + (4 : Int32)).toNatClampNeg)] [] (tX11_sheet (xs (v4 + (1 : Int32)).toNatClampNeg) (xs (v4 + (2 : Int32)).toNatClampNeg) (xs (v4 + (3 : Int32)).toNatClampNeg) (xs (v4 + (4 : Int32)).toNatClampNeg) m r58 q57) (cvL_58 rfl) dL_law_454 rfl rfl (by decide) (by decide) rfl (Nat.le_of_ble_eq_true rfl) ?_
                    show sm_At p l e room_1 s m₀ args below meth c b ba D dA _ _ _ _ _ 457 [.retAddr 1, .ref 0, .ref 72, .ref 107, .int v4, .retAddr 0, .retAddr 0] [.int r58.1] (sm_hp r58.2)
                    refine j_blk hC bL_law_457 [.retAddr 1, .ref 0, .ref 72, .ref 107, .int v4, .retAddr 0, .retAddr 0] [.int (v4 + (1 : Int32)), .retAddr 1, .ref 72, .int r58.1] (sm_hp r58.2) [] rfl (sm_on) ?_
                    replace hf := sm_ck hf
                    obtain ⟨q59, hf⟩ := hf
                    refine j_sld hC hS hbl hbb dL_law_463 q59 ?_
                    refine j_blk hC bL_law_464 [.retAddr 1, .ref 0, .ref 72, .ref 107, .int v4, .retAddr 0, .retAddr 0] [.int (v4 + (2 : Int32)), .retAddr 1, .int (xs (v4 + (1 : Int32)).toNatClampNeg), .ref 72, .int r58.1] (sm_hp r58.2) [] rfl (sm_on) ?_
                    replace hf := sm_ck hf
                    obtain ⟨q60, hf⟩ := hf
                    refine j_sld hC hS hbl hbb dL_law_469 q60 ?_
                    refine j_blk hC bL_law_470 [.retAddr 1, .ref 0, .ref 72, .ref 107, .int v4, .retAddr 0, .retAddr 0] [.int (v4 + (3 : Int32)), .retAddr 1, .int (xs (v4 + (2 : Int32)).toNatClampNeg), .int (xs (v4 + (1 : Int32)).toNatClampNeg), .ref 72, .int r58.1] (sm_hp r58.2) [] rfl (sm_on) ?_
                    replace hf := sm_ck hf
                    obtain ⟨q61, hf⟩ := hf
                    refine j_sld hC hS hbl hbb dL_law_475 q61 ?_
                    refine j_blk hC bL_law_476 [.retAddr 1, .ref 0, .ref 72, .ref 107, .int v4, .retAddr 0, .retAddr 0] [.int (v4 + (4 : Int32)), .retAddr 1, .int (xs (v4 + (3 : Int32)).toNatClampNeg), .int (xs (v4 + (2 : Int32)).toNatClampNeg), .int (xs (v4 + (1 : Int32)).toNatClampNeg), .ref 72, .int r58.1] (sm_hp r58.2) [] rfl (sm_on) ?_
                    replace hf := sm_ck hf
                    obtain ⟨q62, hf⟩ := hf
                    refine j_sld hC hS hbl hbb dL_law_481 q62 ?_
                    replace hf := sm_bd hf
                    obtain ⟨r64, q63, hf⟩ := hf
                    refine j_callV hC [.int (xs (v4 + (1 : Int32)).toNatClampNeg), .int (xs (v4 + (2 : Int32)).toNatClampNeg), .int (xs (v4 + (3 : Int32)).toNatClampNeg), .int (xs (v4 + (4 : Int32)).toNatClampNeg)] [.int r58.1] (tX12_sheet (xs (v4 + (1 : Int32)).toNatClampNeg) (xs (v4 + (2 : Int32)).toNatClampNeg) (xs (v4 + (3 : Int32)).toNatClampNeg) (xs (v4 + (4 : Int32)).toNatClampNeg) r58.2 r64 q63) (cvL_62 rfl) dL_law_482 rfl rfl (by decide) (by decide) rfl (Nat.le_of_ble_eq_true rfl) ?_
                    show sm_At p l e room_1 s m₀ args below meth c b ba D dA _ _ _ _ _ 485 [.retAddr 1, .ref 0, .ref 72, .ref 107, .int v4, .retAddr 0, .retAddr 0] [.int r64.1, .int r58.1] (sm_hp r64.2)
                    refine j_icmp_eq hC (tgt := 1245) dL_law_485 rfl (fun hc => ?_) (fun hc => ?_)
                    · replace hf := sm_ift hc hf
                      refine j_blk hC bL_law_1245 [.retAddr 1, .ref 0, .ref 72, .ref 107, .int (v4 + (5 : Int32)), .retAddr 0, .retAddr 0] [] (sm_hp r64.2) [] rfl (sm_on) ?_
                      refine j_goto hC (tgt := 23) dL_law_1248 rfl ?_
                      exact sm_At.room (by omega) (by omega) (ih (v4 + (5 : Int32)) r64.2 hf)
                    · replace hf := sm_iff hc hf
                      refine j_blk hC bL_law_488 [.retAddr 1, .ref 0, .ref 72, .ref 107, .int v4, .retAddr 0, .retAddr 0] [.int (0 : Int32)] (sm_hp r64.2) [] rfl (sm_on) ?_
                      cases hf
                  · replace hf := sm_iff hc52 hf
                    by_cases hc65 : ((xs (v4).toNatClampNeg) &&& (63 : Int32)) = (7 : Int32)
                    · replace hf := sm_ift hc65 hf
                      refine j_tableIn hC (off := 451) (tgt := 490) dL_law_39 (by rw [hc65]; decide) (by rw [hc65]; decide) (by rw [hc65]; rfl) rfl ?_
                      refine j_blk hC bL_law_490 [.retAddr 1, .ref 0, .ref 72, .ref 107, .int v4, .retAddr 0, .retAddr 0] [.int (v4 + (1 : Int32)), .retAddr 1, .ref 0] (sm_hp m) [] rfl (sm_on) ?_
                      replace hf := sm_ck hf
                      obtain ⟨q66, hf⟩ := hf
                      refine j_sld hC hS hbl hbb dL_law_496 q66 ?_
                      replace hf := sm_bd hf
                      obtain ⟨r68, q67, hf⟩ := hf
                      refine j_callV hC [.int (xs (v4 + (1 : Int32)).toNatClampNeg)] [] (tX11_walk (xs (v4 + (1 : Int32)).toNatClampNeg) m r68 q67) (cvL_63 rfl) dL_law_497 rfl rfl (by decide) (by decide) rfl (Nat.le_of_ble_eq_true rfl) ?_
                      show sm_At p l e room_1 s m₀ args below meth c b ba D dA _ _ _ _ _ 500 [.retAddr 1, .ref 0, .ref 72, .ref 107, .int v4, .retAddr 0, .retAddr 0] [.int r68.1] (sm_hp r68.2)
                      refine j_blk hC bL_law_500 [.retAddr 1, .ref 0, .ref 72, .ref 107, .int v4, .retAddr 0, .retAddr 0] [.int (v4 + (1 : Int32)), .retAddr 1, .ref 72, .int r68.1] (sm_hp r68.2) [] rfl (sm_on) ?_
                      replace hf := sm_ck hf
                      obtain ⟨q69, hf⟩ := hf
                      refine j_sld hC hS hbl hbb dL_law_506 q69 ?_
                      replace hf := sm_bd hf
                      obtain ⟨r71, q70, hf⟩ := hf
                      refine j_callV hC [.int (xs (v4 + (1 : Int32)).toNatClampNeg)] [.int r68.1] (tX12_walk (xs (v4 + (1 : Int32)).toNatClampNeg) r68.2 r71 q70) (cvL_66 rfl) dL_law_507 rfl rfl (by decide) (by decide) rfl (Nat.le_of_ble_eq_true rfl) ?_
                      show sm_At p l e room_1 s m₀ args below meth c b ba D dA _ _ _ _ _ 510 [.retAddr 1, .ref 0, .ref 72, .ref 107, .int v4, .retAddr 0, .retAddr 0] [.int r71.1, .int r68.1] (sm_hp r71.2)
                      refine j_icmp_eq hC (tgt := 1245) dL_law_510 rfl (fun hc => ?_) (fun hc => ?_)
                      · replace hf := sm_ift hc hf
                        refine j_blk hC bL_law_1245 [.retAddr 1, .ref 0, .ref 72, .ref 107, .int (v4 + (5 : Int32)), .retAddr 0, .retAddr 0] [] (sm_hp r71.2) [] rfl (sm_on) ?_
                        refine j_goto hC (tgt := 23) dL_law_1248 rfl ?_
                        exact sm_At.room (by omega) (by omega) (ih (v4 + (5 : Int32)) r71.2 hf)
                      · replace hf := sm_iff hc hf
                        refine j_blk hC bL_law_513 [.retAddr 1, .ref 0, .ref 72, .ref 107, .int v4, .retAddr 0, .retAddr 0] [.int (0 : Int32)] (sm_hp r71.2) [] rfl (sm_on) ?_
                        cases hf
                    · replace hf := sm_iff hc65 hf
                      by_cases hc72 : ((xs (v4).toNatClampNeg) &&& (63 : Int32)) = (8 : Int32)
                      · replace hf := sm_ift hc72 hf
                        refine j_tableIn hC (off := 476) (tgt := 515) dL_law_39 (by rw [hc72]; decide) (by rw [hc72]; decide) (by rw [hc72]; rfl) rfl ?_
                        refine j_blk hC bL_law_515 [.retAddr 1, .ref 0, .ref 72, .ref 107, .int v4, .retAddr 0, .retAddr 0] [.int (v4 + (1 : Int32)), .retAddr 1, .ref 0] (sm_hp m) [] rfl (sm_on) ?_
                        replace hf := sm_ck hf
                        obtain ⟨q73, hf⟩ := hf
                        refine j_sld hC hS hbl hbb dL_law_521 q73 ?_
                        replace hf := sm_bd hf
                        obtain ⟨r75, q74, hf⟩ := hf
                        refine j_callV hC [.int (xs (v4 + (1 : Int32)).toNatClampNeg)] [] (tX11_rest (xs (v4 + (1 : Int32)).toNatClampNeg) m r75 q74) (cvL_67 rfl) dL_law_522 rfl rfl (by decide) (by decide) rfl (Nat.le_of_ble_eq_true rfl) ?_
                        show sm_At p l e room_1 s m₀ args below meth c b ba D dA _ _ _ _ _ 525 [.retAddr 1, .ref 0, .ref 72, .ref 107, .int v4, .retAddr 0, .retAddr 0] [.int r75.1] (sm_hp r75.2)
                        refine j_blk hC bL_law_525 [.retAddr 1, .ref 0, .ref 72, .ref 107, .int v4, .retAddr 0, .retAddr 0] [.int (v4 + (1 : Int32)), .retAddr 1, .ref 72, .int r75.1] (sm_hp r75.2) [] rfl (sm_on) ?_
                        replace hf := sm_ck hf
                        obtain ⟨q76, hf⟩ := hf
                        refine j_sld hC hS hbl hbb dL_law_531 q76 ?_
                        replace hf := sm_bd hf
                        obtain ⟨r78, q77, hf⟩ := hf
                        refine j_callV hC [.int (xs (v4 + (1 : Int32)).toNatClampNeg)] [.int r75.1] (tX12_rest (xs (v4 + (1 : Int32)).toNatClampNeg) r75.2 r78 q77) (cvL_70 rfl) dL_law_532 rfl rfl (by decide) (by decide) rfl (Nat.le_of_ble_eq_true rfl) ?_
                        show sm_At p l e room_1 s m₀ args below meth c b ba D dA _ _ _ _ _ 535 [.retAddr 1, .ref 0, .ref 72, .ref 107, .int v4, .retAddr 0, .retAddr 0] [.int r78.1, .int r75.1] (sm_hp r78.2)
                        refine j_icmp_eq hC (tgt := 1245) dL_law_535 rfl (fun hc => ?_) (fun hc => ?_)
                        · replace hf := sm_ift hc hf
                          refine j_blk hC bL_law_1245 [.retAddr 1, .ref 0, .ref 72, .ref 107, .int (v4 + (5 : Int32)), .retAddr 0, .retAddr 0] [] (sm_hp r78.2) [] rfl (sm_on) ?_
                          refine j_goto hC (tgt := 23) dL_law_1248 rfl ?_
                          exact sm_At.room (by omega) (by omega) (ih (v4 + (5 : Int32)) r78.2 hf)
                        · replace hf := sm_iff hc hf
                          refine j_blk hC bL_law_538 [.retAddr 1, .ref 0, .ref 72, .ref 107, .int v4, .retAddr 0, .retAddr 0] [.int (0 : Int32)] (sm_hp r78.2) [] rfl (sm_on) ?_
                          cases hf
                      · replace hf := sm_iff hc72 hf
                        by_cases hc79 : ((xs (v4).toNatClampNeg) &&& (63 : Int32)) = (9 : Int32)
                        · replace hf := sm_ift hc79 hf
                          refine j_tableIn hC (off := 501) (tgt := 540) dL_law_39 (by rw [hc79]; decide) (by rw [hc79]; decide) (by rw [hc79]; rfl) rfl ?_
                          refine j_blk hC bL_law_540 [.retAddr 1, .ref 0, .ref 72, .ref 107, .int v4, .retAddr 0, .retAddr 0] [.ref 0] (sm_hp m) [] rfl (sm_on) ?_
                          replace hf := sm_bd hf
                          obtain ⟨r81, q80, hf⟩ := hf
                          refine j_callV hC [] [] (tX11_undo m r81 q80) (cvL_71 rfl) dL_law_541 rfl rfl (by decide) (by decide) rfl (Nat.le_of_ble_eq_true rfl) ?_
                          show sm_At p l e room_1 s m₀ args below meth c b ba D dA _ _ _ _ _ 544 [.retAddr 1, .ref 0, .ref 72, .ref 107, .int v4, .retAddr 0, .retAddr 0] [.int r81.1] (sm_hp r81.2)
                          refine j_blk hC bL_law_544 [.retAddr 1, .ref 0, .ref 72, .ref 107, .int v4, .retAddr 0, .retAddr 0] [.ref 72, .int r81.1] (sm_hp r81.2) [] rfl (sm_on) ?_
                          replace hf := sm_bd hf
                          obtain ⟨r83, q82, hf⟩ := hf
                          refine j_callV hC [] [.int r81.1] (tX12_undo r81.2 r83 q82) (cvL_74 rfl) dL_law_545 rfl rfl (by decide) (by decide) rfl (Nat.le_of_ble_eq_true rfl) ?_
                          show sm_At p l e room_1 s m₀ args below meth c b ba D dA _ _ _ _ _ 548 [.retAddr 1, .ref 0, .ref 72, .ref 107, .int v4, .retAddr 0, .retAddr 0] [.int r83.1, .int r81.1] (sm_hp r83.2)
                          refine j_icmp_eq hC (tgt := 1245) dL_law_548 rfl (fun hc => ?_) (fun hc => ?_)
                          · replace hf := sm_ift hc hf
                            refine j_blk hC bL_law_1245 [.retAddr 1, .ref 0, .ref 72, .ref 107, .int (v4 + (5 : Int32)), .retAddr 0, .retAddr 0] [] (sm_hp r83.2) [] rfl (sm_on) ?_
                            refine j_goto hC (tgt := 23) dL_law_1248 rfl ?_
                            exact sm_At.room (by omega) (by omega) (ih (v4 + (5 : Int32)) r83.2 hf)
                          · replace hf := sm_iff hc hf
                            refine j_blk hC bL_law_551 [.retAddr 1, .ref 0, .ref 72, .ref 107, .int v4, .retAddr 0, .retAddr 0] [.int (0 : Int32)] (sm_hp r83.2) [] rfl (sm_on) ?_
                            cases hf
                        · replace hf := sm_iff hc79 hf
                          by_cases hc84 : ((xs (v4).toNatClampNeg) &&& (63 : Int32)) = (10 : Int32)
                          · replace hf := sm_ift hc84 hf
                            refine j_tableIn hC (off := 514) (tgt := 553) dL_law_39 (by rw [hc84]; decide) (by rw [hc84]; decide) (by rw [hc84]; rfl) rfl ?_
                            refine j_blk hC bL_law_553 [.retAddr 1, .ref 0, .ref 72, .ref 107, .int v4, .retAddr 0, .retAddr 0] [.int (v4 + (1 : Int32)), .retAddr 1, .ref 0] (sm_hp m) [] rfl (sm_on) ?_
                            replace hf := sm_ck hf
                            obtain ⟨q85, hf⟩ := hf
                            refine j_sld hC hS hbl hbb dL_law_559 q85 ?_
                            replace hf := sm_bd hf
                            obtain ⟨r87, q86, hf⟩ := hf
                            refine j_callV hC [.int (xs (v4 + (1 : Int32)).toNatClampNeg)] [] (tX11_go (xs (v4 + (1 : Int32)).toNatClampNeg) m r87 q86) (cvL_75 rfl) dL_law_560 rfl rfl (by decide) (by decide) rfl (Nat.le_of_ble_eq_true rfl) ?_
                            show sm_At p l e room_1 s m₀ args below meth c b ba D dA _ _ _ _ _ 563 [.retAddr 1, .ref 0, .ref 72, .ref 107, .int v4, .retAddr 0, .retAddr 0] [.int r87.1] (sm_hp r87.2)
                            refine j_blk hC bL_law_563 [.retAddr 1, .ref 0, .ref 72, .ref 107, .int v4, .retAddr 0, .retAddr 0] [.int (v4 + (1 : Int32)), .retAddr 1, .ref 72, .int r87.1] (sm_hp r87.2) [] rfl (sm_on) ?_
                            replace hf := sm_ck hf
                            obtain ⟨q88, hf⟩ := hf
                            refine j_sld hC hS hbl hbb dL_law_569 q88 ?_
                            replace hf := sm_bd hf
                            obtain ⟨r90, q89, hf⟩ := hf
                            refine j_callV hC [.int (xs (v4 + (1 : Int32)).toNatClampNeg)] [.int r87.1] (tX12_go (xs (v4 + (1 : Int32)).toNatClampNeg) r87.2 r90 q89) (cvL_78 rfl) dL_law_570 rfl rfl (by decide) (by decide) rfl (Nat.le_of_ble_eq_true rfl) ?_
                            show sm_At p l e room_1 s m₀ args below meth c b ba D dA _ _ _ _ _ 573 [.retAddr 1, .ref 0, .ref 72, .ref 107, .int v4, .retAddr 0, .retAddr 0] [.int r90.1, .int r87.1] (sm_hp r90.2)
                            refine j_icmp_eq hC (tgt := 1245) dL_law_573 rfl (fun hc => ?_) (fun hc => ?_)
                            · replace hf := sm_ift hc hf
                              refine j_blk hC bL_law_1245 [.retAddr 1, .ref 0, .ref 72, .ref 107, .int (v4 + (5 : Int32)), .retAddr 0, .retAddr 0] [] (sm_hp r90.2) [] rfl (sm_on) ?_
                              refine j_goto hC (tgt := 23) dL_law_1248 rfl ?_
                              exact sm_At.room (by omega) (by omega) (ih (v4 + (5 : Int32)) r90.2 hf)
                            · replace hf := sm_iff hc hf
                              refine j_blk hC bL_law_576 [.retAddr 1, .ref 0, .ref 72, .ref 107, .int v4, .retAddr 0, .retAddr 0] [.int (0 : Int32)] (sm_hp r90.2) [] rfl (sm_on) ?_
                              cases hf
                          · replace hf := sm_iff hc84 hf
                            by_cases hc91 : ((xs (v4).toNatClampNeg) &&& (63 : Int32)) = (11 : Int32)
                            · replace hf := sm_ift hc91 hf
                              refine j_tableIn hC (off := 539) (tgt := 578) dL_law_39 (by rw [hc91]; decide) (by rw [hc91]; decide) (by rw [hc91]; rfl) rfl ?_
                              refine j_blk hC bL_law_578 [.retAddr 1, .ref 0, .ref 72, .ref 107, .int v4, .retAddr 0, .retAddr 0] [.ref 0] (sm_hp m) [] rfl (sm_on) ?_
                              replace hf := sm_bd hf
                              obtain ⟨r93, q92, hf⟩ := hf
                              refine j_callV hC [] [] (tX11_can m r93 q92) (cvL_79 rfl) dL_law_579 rfl rfl (by decide) (by decide) rfl (Nat.le_of_ble_eq_true rfl) ?_
                              show sm_At p l e room_1 s m₀ args below meth c b ba D dA _ _ _ _ _ 582 [.retAddr 1, .ref 0, .ref 72, .ref 107, .int v4, .retAddr 0, .retAddr 0] [.int r93] (sm_hp m)
                              refine j_blk hC bL_law_582 [.retAddr 1, .ref 0, .ref 72, .ref 107, .int v4, .retAddr 0, .retAddr 0] [.ref 72, .int r93] (sm_hp m) [] rfl (sm_on) ?_
                              replace hf := sm_bd hf
                              obtain ⟨r95, q94, hf⟩ := hf
                              refine j_callV hC [] [.int r93] (tX12_can m r95 q94) (cvL_82 rfl) dL_law_583 rfl rfl (by decide) (by decide) rfl (Nat.le_of_ble_eq_true rfl) ?_
                              show sm_At p l e room_1 s m₀ args below meth c b ba D dA _ _ _ _ _ 586 [.retAddr 1, .ref 0, .ref 72, .ref 107, .int v4, .retAddr 0, .retAddr 0] [.int r95.1, .int r93] (sm_hp r95.2)
                              refine j_icmp_eq hC (tgt := 1245) dL_law_586 rfl (fun hc => ?_) (fun hc => ?_)
                              · replace hf := sm_ift hc hf
                                refine j_blk hC bL_law_1245 [.retAddr 1, .ref 0, .ref 72, .ref 107, .int (v4 + (5 : Int32)), .retAddr 0, .retAddr 0] [] (sm_hp r95.2) [] rfl (sm_on) ?_
                                refine j_goto hC (tgt := 23) dL_law_1248 rfl ?_
                                exact sm_At.room (by omega) (by omega) (ih (v4 + (5 : Int32)) r95.2 hf)
                              · replace hf := sm_iff hc hf
                                refine j_blk hC bL_law_589 [.retAddr 1, .ref 0, .ref 72, .ref 107, .int v4, .retAddr 0, .retAddr 0] [.int (0 : Int32)] (sm_hp r95.2) [] rfl (sm_on) ?_
                                cases hf
                            · replace hf := sm_iff hc91 hf
                              by_cases hc96 : ((xs (v4).toNatClampNeg) &&& (63 : Int32)) = (12 : Int32)
                              · replace hf := sm_ift hc96 hf
                                refine j_tableIn hC (off := 552) (tgt := 591) dL_law_39 (by rw [hc96]; decide) (by rw [hc96]; decide) (by rw [hc96]; rfl) rfl ?_
                                refine j_blk hC bL_law_591 [.retAddr 1, .ref 0, .ref 72, .ref 107, .int v4, .retAddr 0, .retAddr 0] [.int (v4 + (1 : Int32)), .retAddr 1, .ref 0] (sm_hp m) [] rfl (sm_on) ?_
                                replace hf := sm_ck hf
                                obtain ⟨q97, hf⟩ := hf
                                refine j_sld hC hS hbl hbb dL_law_597 q97 ?_
                                replace hf := sm_bd hf
                                obtain ⟨r99, q98, hf⟩ := hf
                                refine j_callV hC [.int (xs (v4 + (1 : Int32)).toNatClampNeg)] [] (tX11_tour (xs (v4 + (1 : Int32)).toNatClampNeg) m r99 q98) (cvL_83 rfl) dL_law_598 rfl rfl (by decide) (by decide) rfl (Nat.le_of_ble_eq_true rfl) ?_
                                show sm_At p l e room_1 s m₀ args below meth c b ba D dA _ _ _ _ _ 601 [.retAddr 1, .ref 0, .ref 72, .ref 107, .int v4, .retAddr 0, .retAddr 0] [.int r99.1] (sm_hp r99.2)
                                refine j_blk hC bL_law_601 [.retAddr 1, .ref 0, .ref 72, .ref 107, .int v4, .retAddr 0, .retAddr 0] [.int (v4 + (1 : Int32)), .retAddr 1, .ref 72, .int r99.1] (sm_hp r99.2) [] rfl (sm_on) ?_
                                replace hf := sm_ck hf
                                obtain ⟨q100, hf⟩ := hf
                                refine j_sld hC hS hbl hbb dL_law_607 q100 ?_
                                replace hf := sm_bd hf
                                obtain ⟨r102, q101, hf⟩ := hf
                                refine j_callV hC [.int (xs (v4 + (1 : Int32)).toNatClampNeg)] [.int r99.1] (tX12_tour (xs (v4 + (1 : Int32)).toNatClampNeg) r99.2 r102 q101) (cvL_86 rfl) dL_law_608 rfl rfl (by decide) (by decide) rfl (Nat.le_of_ble_eq_true rfl) ?_
                                show sm_At p l e room_1 s m₀ args below meth c b ba D dA _ _ _ _ _ 611 [.retAddr 1, .ref 0, .ref 72, .ref 107, .int v4, .retAddr 0, .retAddr 0] [.int r102.1, .int r99.1] (sm_hp r102.2)
                                refine j_icmp_eq hC (tgt := 1245) dL_law_611 rfl (fun hc => ?_) (fun hc => ?_)
                                · replace hf := sm_ift hc hf
                                  refine j_blk hC bL_law_1245 [.retAddr 1, .ref 0, .ref 72, .ref 107, .int (v4 + (5 : Int32)), .retAddr 0, .retAddr 0] [] (sm_hp r102.2) [] rfl (sm_on) ?_
                                  refine j_goto hC (tgt := 23) dL_law_1248 rfl ?_
                                  exact sm_At.room (by omega) (by omega) (ih (v4 + (5 : Int32)) r102.2 hf)
                                · replace hf := sm_iff hc hf
                                  refine j_blk hC bL_law_614 [.retAddr 1, .ref 0, .ref 72, .ref 107, .int v4, .retAddr 0, .retAddr 0] [.int (0 : Int32)] (sm_hp r102.2) [] rfl (sm_on) ?_
                                  cases hf
                              · replace hf := sm_iff hc96 hf
                                by_cases hc103 : ((xs (v4).toNatClampNeg) &&& (63 : Int32)) = (13 : Int32)
                                · replace hf := sm_ift hc103 hf
                                  refine j_tableIn hC (off := 577) (tgt := 616) dL_law_39 (by rw [hc103]; decide) (by rw [hc103]; decide) (by rw [hc103]; rfl) rfl ?_
                                  refine j_blk hC bL_law_616 [.retAddr 1, .ref 0, .ref 72, .ref 107, .int v4, .retAddr 0, .retAddr 0] [.int (v4 + (1 : Int32)), .retAddr 1, .ref 0] (sm_hp m) [] rfl (sm_on) ?_
                                  replace hf := sm_ck hf
                                  obtain ⟨q104, hf⟩ := hf
                                  refine j_sld hC hS hbl hbb dL_law_622 q104 ?_
                                  replace hf := sm_bd hf
                                  obtain ⟨r106, q105, hf⟩ := hf
                                  refine j_callV hC [.int (xs (v4 + (1 : Int32)).toNatClampNeg)] [] (tX11_look (xs (v4 + (1 : Int32)).toNatClampNeg) m r106 q105) (cvL_87 rfl) dL_law_623 rfl rfl (by decide) (by decide) rfl (Nat.le_of_ble_eq_true rfl) ?_
                                  show sm_At p l e room_1 s m₀ args below meth c b ba D dA _ _ _ _ _ 626 [.retAddr 1, .ref 0, .ref 72, .ref 107, .int v4, .retAddr 0, .retAddr 0] [.int r106.1] (sm_hp r106.2)
                                  refine j_blk hC bL_law_626 [.retAddr 1, .ref 0, .ref 72, .ref 107, .int v4, .retAddr 0, .retAddr 0] [.int (v4 + (1 : Int32)), .retAddr 1, .ref 72, .int r106.1] (sm_hp r106.2) [] rfl (sm_on) ?_
                                  replace hf := sm_ck hf
                                  obtain ⟨q107, hf⟩ := hf
                                  refine j_sld hC hS hbl hbb dL_law_632 q107 ?_
                                  replace hf := sm_bd hf
                                  obtain ⟨r109, q108, hf⟩ := hf
                                  refine j_callV hC [.int (xs (v4 + (1 : Int32)).toNatClampNeg)] [.int r106.1] (tX12_look (xs (v4 + (1 : Int32)).toNatClampNeg) r106.2 r109 q108) (cvL_90 rfl) dL_law_633 rfl rfl (by decide) (by decide) rfl (Nat.le_of_ble_eq_true rfl) ?_
                                  show sm_At p l e room_1 s m₀ args below meth c b ba D dA _ _ _ _ _ 636 [.retAddr 1, .ref 0, .ref 72, .ref 107, .int v4, .retAddr 0, .retAddr 0] [.int r109.1, .int r106.1] (sm_hp r109.2)
                                  refine j_icmp_eq hC (tgt := 1245) dL_law_636 rfl (fun hc => ?_) (fun hc => ?_)
                                  · replace hf := sm_ift hc hf
                                    refine j_blk hC bL_law_1245 [.retAddr 1, .ref 0, .ref 72, .ref 107, .int (v4 + (5 : Int32)), .retAddr 0, .retAddr 0] [] (sm_hp r109.2) [] rfl (sm_on) ?_
                                    refine j_goto hC (tgt := 23) dL_law_1248 rfl ?_
                                    exact sm_At.room (by omega) (by omega) (ih (v4 + (5 : Int32)) r109.2 hf)
                                  · replace hf := sm_iff hc hf
                                    refine j_blk hC bL_law_639 [.retAddr 1, .ref 0, .ref 72, .ref 107, .int v4, .retAddr 0, .retAddr 0] [.int (0 : Int32)] (sm_hp r109.2) [] rfl (sm_on) ?_
                                    cases hf
                                · replace hf := sm_iff hc103 hf
                                  by_cases hc110 : ((xs (v4).toNatClampNeg) &&& (63 : Int32)) = (14 : Int32)
                                  · replace hf := sm_ift hc110 hf
                                    refine j_tableIn hC (off := 602) (tgt := 641) dL_law_39 (by rw [hc110]; decide) (by rw [hc110]; decide) (by rw [hc110]; rfl) rfl ?_
                                    refine j_blk hC bL_law_641 [.retAddr 1, .ref 0, .ref 72, .ref 107, .int v4, .retAddr 0, .retAddr 0] [.int (v4 + (1 : Int32)), .retAddr 1, .ref 0] (sm_hp m) [] rfl (sm_on) ?_
                                    replace hf := sm_ck hf
                                    obtain ⟨q111, hf⟩ := hf
                                    refine j_sld hC hS hbl hbb dL_law_647 q111 ?_
                                    replace hf := sm_bd hf
                                    obtain ⟨r113, q112, hf⟩ := hf
                                    refine j_callV hC [.int (xs (v4 + (1 : Int32)).toNatClampNeg)] [] (tX11_meets (xs (v4 + (1 : Int32)).toNatClampNeg) m r113 q112) (cvL_91 rfl) dL_law_648 rfl rfl (by decide) (by decide) rfl (Nat.le_of_ble_eq_true rfl) ?_
                                    show sm_At p l e room_1 s m₀ args below meth c b ba D dA _ _ _ _ _ 651 [.retAddr 1, .ref 0, .ref 72, .ref 107, .int v4, .retAddr 0, .retAddr 0] [.int r113.1] (sm_hp r113.2)
                                    refine j_blk hC bL_law_651 [.retAddr 1, .ref 0, .ref 72, .ref 107, .int v4, .retAddr 0, .retAddr 0] [.int (v4 + (1 : Int32)), .retAddr 1, .ref 72, .int r113.1] (sm_hp r113.2) [] rfl (sm_on) ?_
                                    replace hf := sm_ck hf
                                    obtain ⟨q114, hf⟩ := hf
                                    refine j_sld hC hS hbl hbb dL_law_657 q114 ?_
                                    replace hf := sm_bd hf
                                    obtain ⟨r116, q115, hf⟩ := hf
                                    refine j_callV hC [.int (xs (v4 + (1 : Int32)).toNatClampNeg)] [.int r113.1] (tX12_meets (xs (v4 + (1 : Int32)).toNatClampNeg) r113.2 r116 q115) (cvL_94 rfl) dL_law_658 rfl rfl (by decide) (by decide) rfl (Nat.le_of_ble_eq_true rfl) ?_
                                    show sm_At p l e room_1 s m₀ args below meth c b ba D dA _ _ _ _ _ 661 [.retAddr 1, .ref 0, .ref 72, .ref 107, .int v4, .retAddr 0, .retAddr 0] [.int r116.1, .int r113.1] (sm_hp r116.2)
                                    refine j_icmp_eq hC (tgt := 1245) dL_law_661 rfl (fun hc => ?_) (fun hc => ?_)
                                    · replace hf := sm_ift hc hf
                                      refine j_blk hC bL_law_1245 [.retAddr 1, .ref 0, .ref 72, .ref 107, .int (v4 + (5 : Int32)), .retAddr 0, .retAddr 0] [] (sm_hp r116.2) [] rfl (sm_on) ?_
                                      refine j_goto hC (tgt := 23) dL_law_1248 rfl ?_
                                      exact sm_At.room (by omega) (by omega) (ih (v4 + (5 : Int32)) r116.2 hf)
                                    · replace hf := sm_iff hc hf
                                      refine j_blk hC bL_law_664 [.retAddr 1, .ref 0, .ref 72, .ref 107, .int v4, .retAddr 0, .retAddr 0] [.int (0 : Int32)] (sm_hp r116.2) [] rfl (sm_on) ?_
                                      cases hf
                                  · replace hf := sm_iff hc110 hf
                                    by_cases hc117 : ((xs (v4).toNatClampNeg) &&& (63 : Int32)) = (15 : Int32)
                                    · replace hf := sm_ift hc117 hf
                                      refine j_tableIn hC (off := 627) (tgt := 666) dL_law_39 (by rw [hc117]; decide) (by rw [hc117]; decide) (by rw [hc117]; rfl) rfl ?_
                                      refine j_blk hC bL_law_666 [.retAddr 1, .ref 0, .ref 72, .ref 107, .int v4, .retAddr 0, .retAddr 0] [.ref 0] (sm_hp m) [] rfl (sm_on) ?_
                                      replace hf := sm_bd hf
                                      obtain ⟨r119, q118, hf⟩ := hf
                                      refine j_callV hC [] [] (tX11_apart m r119 q118) (cvL_95 rfl) dL_law_667 rfl rfl (by decide) (by decide) rfl (Nat.le_of_ble_eq_true rfl) ?_
                                      show sm_At p l e room_1 s m₀ args below meth c b ba D dA _ _ _ _ _ 670 [.retAddr 1, .ref 0, .ref 72, .ref 107, .int v4, .retAddr 0, .retAddr 0] [.int r119.1] (sm_hp r119.2)
                                      refine j_blk hC bL_law_670 [.retAddr 1, .ref 0, .ref 72, .ref 107, .int v4, .retAddr 0, .retAddr 0] [.ref 72, .int r119.1] (sm_hp r119.2) [] rfl (sm_on) ?_
                                      replace hf := sm_bd hf
                                      obtain ⟨r121, q120, hf⟩ := hf
                                      refine j_callV hC [] [.int r119.1] (tX12_apart r119.2 r121 q120) (cvL_98 rfl) dL_law_671 rfl rfl (by decide) (by decide) rfl (Nat.le_of_ble_eq_true rfl) ?_
                                      show sm_At p l e room_1 s m₀ args below meth c b ba D dA _ _ _ _ _ 674 [.retAddr 1, .ref 0, .ref 72, .ref 107, .int v4, .retAddr 0, .retAddr 0] [.int r121.1, .int r119.1] (sm_hp r121.2)
                                      refine j_icmp_eq hC (tgt := 1245) dL_law_674 rfl (fun hc => ?_) (fun hc => ?_)
                                      · replace hf := sm_ift hc hf
                                        refine j_blk hC bL_law_1245 [.retAddr 1, .ref 0, .ref 72, .ref 107, .int (v4 + (5 : Int32)), .retAddr 0, .retAddr 0] [] (sm_hp r121.2) [] rfl (sm_on) ?_
                                        refine j_goto hC (tgt := 23) dL_law_1248 rfl ?_
                                        exact sm_At.room (by omega) (by omega) (ih (v4 + (5 : Int32)) r121.2 hf)
                                      · replace hf := sm_iff hc hf
                                        refine j_blk hC bL_law_677 [.retAddr 1, .ref 0, .ref 72, .ref 107, .int v4, .retAddr 0, .retAddr 0] [.int (0 : Int32)] (sm_hp r121.2) [] rfl (sm_on) ?_
                                        cases hf
                                    · replace hf := sm_iff hc117 hf
                                      by_cases hc122 : ((xs (v4).toNatClampNeg) &&& (63 : Int32)) = (16 : Int32)
                                      · replace hf := sm_ift hc122 hf
                                        refine j_tableIn hC (off := 640) (tgt := 679) dL_law_39 (by rw [hc122]; decide) (by rw [hc122]; decide) (by rw [hc122]; rfl) rfl ?_
                                        refine j_blk hC bL_law_679 [.retAddr 1, .ref 0, .ref 72, .ref 107, .int v4, .retAddr 0, .retAddr 0] [.int (v4 + (1 : Int32)), .retAddr 1, .ref 0] (sm_hp m) [] rfl (sm_on) ?_
                                        replace hf := sm_ck hf
                                        obtain ⟨q123, hf⟩ := hf
                                        refine j_sld hC hS hbl hbb dL_law_685 q123 ?_
                                        replace hf := sm_bd hf
                                        obtain ⟨r125, q124, hf⟩ := hf
                                        refine j_callV hC [.int (xs (v4 + (1 : Int32)).toNatClampNeg)] [] (tX11_season (xs (v4 + (1 : Int32)).toNatClampNeg) m r125 q124) (cvL_99 rfl) dL_law_686 rfl rfl (by decide) (by decide) rfl (Nat.le_of_ble_eq_true rfl) ?_
                                        show sm_At p l e room_1 s m₀ args below meth c b ba D dA _ _ _ _ _ 689 [.retAddr 1, .ref 0, .ref 72, .ref 107, .int v4, .retAddr 0, .retAddr 0] [.int r125.1] (sm_hp r125.2)
                                        refine j_blk hC bL_law_689 [.retAddr 1, .ref 0, .ref 72, .ref 107, .int v4, .retAddr 0, .retAddr 0] [.int (v4 + (1 : Int32)), .retAddr 1, .ref 72, .int r125.1] (sm_hp r125.2) [] rfl (sm_on) ?_
                                        replace hf := sm_ck hf
                                        obtain ⟨q126, hf⟩ := hf
                                        refine j_sld hC hS hbl hbb dL_law_695 q126 ?_
                                        replace hf := sm_bd hf
                                        obtain ⟨r128, q127, hf⟩ := hf
                                        refine j_callV hC [.int (xs (v4 + (1 : Int32)).toNatClampNeg)] [.int r125.1] (tX12_season (xs (v4 + (1 : Int32)).toNatClampNeg) r125.2 r128 q127) (cvL_102 rfl) dL_law_696 rfl rfl (by decide) (by decide) rfl (Nat.le_of_ble_eq_true rfl) ?_
                                        show sm_At p l e room_1 s m₀ args below meth c b ba D dA _ _ _ _ _ 699 [.retAddr 1, .ref 0, .ref 72, .ref 107, .int v4, .retAddr 0, .retAddr 0] [.int r128.1, .int r125.1] (sm_hp r128.2)
                                        refine j_icmp_eq hC (tgt := 1245) dL_law_699 rfl (fun hc => ?_) (fun hc => ?_)
                                        · replace hf := sm_ift hc hf
                                          refine j_blk hC bL_law_1245 [.retAddr 1, .ref 0, .ref 72, .ref 107, .int (v4 + (5 : Int32)), .retAddr 0, .retAddr 0] [] (sm_hp r128.2) [] rfl (sm_on) ?_
                                          refine j_goto hC (tgt := 23) dL_law_1248 rfl ?_
                                          exact sm_At.room (by omega) (by omega) (ih (v4 + (5 : Int32)) r128.2 hf)
                                        · replace hf := sm_iff hc hf
                                          refine j_blk hC bL_law_702 [.retAddr 1, .ref 0, .ref 72, .ref 107, .int v4, .retAddr 0, .retAddr 0] [.int (0 : Int32)] (sm_hp r128.2) [] rfl (sm_on) ?_
                                          cases hf
                                      · replace hf := sm_iff hc122 hf
                                        by_cases hc129 : ((xs (v4).toNatClampNeg) &&& (63 : Int32)) = (17 : Int32)
                                        · replace hf := sm_ift hc129 hf
                                          refine j_tableIn hC (off := 665) (tgt := 704) dL_law_39 (by rw [hc129]; decide) (by rw [hc129]; decide) (by rw [hc129]; rfl) rfl ?_
                                          refine j_blk hC bL_law_704 [.retAddr 1, .ref 0, .ref 72, .ref 107, .int v4, .retAddr 0, .retAddr 0] [.ref 0] (sm_hp m) [] rfl (sm_on) ?_
                                          replace hf := sm_bd hf
                                          obtain ⟨r131, q130, hf⟩ := hf
                                          refine j_callV hC [] [] (tX11_odd m r131 q130) (cvL_103 rfl) dL_law_705 rfl rfl (by decide) (by decide) rfl (Nat.le_of_ble_eq_true rfl) ?_
                                          show sm_At p l e room_1 s m₀ args below meth c b ba D dA _ _ _ _ _ 708 [.retAddr 1, .ref 0, .ref 72, .ref 107, .int v4, .retAddr 0, .retAddr 0] [.int r131.1] (sm_hp r131.2)
                                          refine j_blk hC bL_law_708 [.retAddr 1, .ref 0, .ref 72, .ref 107, .int v4, .retAddr 0, .retAddr 0] [.ref 72, .int r131.1] (sm_hp r131.2) [] rfl (sm_on) ?_
                                          replace hf := sm_bd hf
                                          obtain ⟨r133, q132, hf⟩ := hf
                                          refine j_callV hC [] [.int r131.1] (tX12_odd r131.2 r133 q132) (cvL_106 rfl) dL_law_709 rfl rfl (by decide) (by decide) rfl (Nat.le_of_ble_eq_true rfl) ?_
                                          show sm_At p l e room_1 s m₀ args below meth c b ba D dA _ _ _ _ _ 712 [.retAddr 1, .ref 0, .ref 72, .ref 107, .int v4, .retAddr 0, .retAddr 0] [.int r133.1, .int r131.1] (sm_hp r133.2)
                                          refine j_icmp_eq hC (tgt := 1245) dL_law_712 rfl (fun hc => ?_) (fun hc => ?_)
                                          · replace hf := sm_ift hc hf
                                            refine j_blk hC bL_law_1245 [.retAddr 1, .ref 0, .ref 72, .ref 107, .int (v4 + (5 : Int32)), .retAddr 0, .retAddr 0] [] (sm_hp r133.2) [] rfl (sm_on) ?_
                                            refine j_goto hC (tgt := 23) dL_law_1248 rfl ?_
                                            exact sm_At.room (by omega) (by omega) (ih (v4 + (5 : Int32)) r133.2 hf)
                                          · replace hf := sm_iff hc hf
                                            refine j_blk hC bL_law_715 [.retAddr 1, .ref 0, .ref 72, .ref 107, .int v4, .retAddr 0, .retAddr 0] [.int (0 : Int32)] (sm_hp r133.2) [] rfl (sm_on) ?_
                                            cases hf
                                        · replace hf := sm_iff hc129 hf
                                          by_cases hc134 : ((xs (v4).toNatClampNeg) &&& (63 : Int32)) = (18 : Int32)
                                          · replace hf := sm_ift hc134 hf
                                            refine j_tableIn hC (off := 678) (tgt := 717) dL_law_39 (by rw [hc134]; decide) (by rw [hc134]; decide) (by rw [hc134]; rfl) rfl ?_
                                            refine j_blk hC bL_law_717 [.retAddr 1, .ref 0, .ref 72, .ref 107, .int v4, .retAddr 0, .retAddr 0] [.ref 0] (sm_hp m) [] rfl (sm_on) ?_
                                            replace hf := sm_bd hf
                                            obtain ⟨r136, q135, hf⟩ := hf
                                            refine j_callV hC [] [] (tX11_men m r136 q135) (cvL_107 rfl) dL_law_718 rfl rfl (by decide) (by decide) rfl (Nat.le_of_ble_eq_true rfl) ?_
                                            show sm_At p l e room_1 s m₀ args below meth c b ba D dA _ _ _ _ _ 721 [.retAddr 1, .ref 0, .ref 72, .ref 107, .int v4, .retAddr 0, .retAddr 0] [.int r136.1] (sm_hp r136.2)
                                            refine j_blk hC bL_law_721 [.retAddr 1, .ref 0, .ref 72, .ref 107, .int v4, .retAddr 0, .retAddr 0] [.ref 72, .int r136.1] (sm_hp r136.2) [] rfl (sm_on) ?_
                                            replace hf := sm_bd hf
                                            obtain ⟨r138, q137, hf⟩ := hf
                                            refine j_callV hC [] [.int r136.1] (tX12_men r136.2 r138 q137) (cvL_110 rfl) dL_law_722 rfl rfl (by decide) (by decide) rfl (Nat.le_of_ble_eq_true rfl) ?_
                                            show sm_At p l e room_1 s m₀ args below meth c b ba D dA _ _ _ _ _ 725 [.retAddr 1, .ref 0, .ref 72, .ref 107, .int v4, .retAddr 0, .retAddr 0] [.int r138.1, .int r136.1] (sm_hp r138.2)
                                            refine j_icmp_eq hC (tgt := 1245) dL_law_725 rfl (fun hc => ?_) (fun hc => ?_)
                                            · replace hf := sm_ift hc hf
                                              refine j_blk hC bL_law_1245 [.retAddr 1, .ref 0, .ref 72, .ref 107, .int (v4 + (5 : Int32)), .retAddr 0, .retAddr 0] [] (sm_hp r138.2) [] rfl (sm_on) ?_
                                              refine j_goto hC (tgt := 23) dL_law_1248 rfl ?_
                                              exact sm_At.room (by omega) (by omega) (ih (v4 + (5 : Int32)) r138.2 hf)
                                            · replace hf := sm_iff hc hf
                                              refine j_blk hC bL_law_728 [.retAddr 1, .ref 0, .ref 72, .ref 107, .int v4, .retAddr 0, .retAddr 0] [.int (0 : Int32)] (sm_hp r138.2) [] rfl (sm_on) ?_
                                              cases hf
                                          · replace hf := sm_iff hc134 hf
                                            by_cases hc139 : ((xs (v4).toNatClampNeg) &&& (63 : Int32)) = (19 : Int32)
                                            · replace hf := sm_ift hc139 hf
                                              refine j_tableIn hC (off := 691) (tgt := 730) dL_law_39 (by rw [hc139]; decide) (by rw [hc139]; decide) (by rw [hc139]; rfl) rfl ?_
                                              refine j_blk hC bL_law_730 [.retAddr 1, .ref 0, .ref 72, .ref 107, .int v4, .retAddr 0, .retAddr 0] [.int (v4 + (1 : Int32)), .retAddr 1, .ref 0] (sm_hp m) [] rfl (sm_on) ?_
                                              replace hf := sm_ck hf
                                              obtain ⟨q140, hf⟩ := hf
                                              refine j_sld hC hS hbl hbb dL_law_736 q140 ?_
                                              replace hf := sm_bd hf
                                              obtain ⟨r142, q141, hf⟩ := hf
                                              refine j_callV hC [.int (xs (v4 + (1 : Int32)).toNatClampNeg)] [] (tX11_trail (xs (v4 + (1 : Int32)).toNatClampNeg) m r142 q141) (cvL_111 rfl) dL_law_737 rfl rfl (by decide) (by decide) rfl (Nat.le_of_ble_eq_true rfl) ?_
                                              show sm_At p l e room_1 s m₀ args below meth c b ba D dA _ _ _ _ _ 740 [.retAddr 1, .ref 0, .ref 72, .ref 107, .int v4, .retAddr 0, .retAddr 0] [.int r142.1] (sm_hp r142.2)
                                              refine j_blk hC bL_law_740 [.retAddr 1, .ref 0, .ref 72, .ref 107, .int v4, .retAddr 0, .retAddr 0] [.int (v4 + (1 : Int32)), .retAddr 1, .ref 72, .int r142.1] (sm_hp r142.2) [] rfl (sm_on) ?_
                                              replace hf := sm_ck hf
                                              obtain ⟨q143, hf⟩ := hf
                                              refine j_sld hC hS hbl hbb dL_law_746 q143 ?_
                                              replace hf := sm_bd hf
                                              obtain ⟨r145, q144, hf⟩ := hf
                                              refine j_callV hC [.int (xs (v4 + (1 : Int32)).toNatClampNeg)] [.int r142.1] (tX12_trail (xs (v4 + (1 : Int32)).toNatClampNeg) r142.2 r145 q144) (cvL_114 rfl) dL_law_747 rfl rfl (by decide) (by decide) rfl (Nat.le_of_ble_eq_true rfl) ?_
                                              show sm_At p l e room_1 s m₀ args below meth c b ba D dA _ _ _ _ _ 750 [.retAddr 1, .ref 0, .ref 72, .ref 107, .int v4, .retAddr 0, .retAddr 0] [.int r145.1, .int r142.1] (sm_hp r145.2)
                                              refine j_icmp_eq hC (tgt := 1245) dL_law_750 rfl (fun hc => ?_) (fun hc => ?_)
                                              · replace hf := sm_ift hc hf
                                                refine j_blk hC bL_law_1245 [.retAddr 1, .ref 0, .ref 72, .ref 107, .int (v4 + (5 : Int32)), .retAddr 0, .retAddr 0] [] (sm_hp r145.2) [] rfl (sm_on) ?_
                                                refine j_goto hC (tgt := 23) dL_law_1248 rfl ?_
                                                exact sm_At.room (by omega) (by omega) (ih (v4 + (5 : Int32)) r145.2 hf)
                                              · replace hf := sm_iff hc hf
                                                refine j_blk hC bL_law_753 [.retAddr 1, .ref 0, .ref 72, .ref 107, .int v4, .retAddr 0, .retAddr 0] [.int (0 : Int32)] (sm_hp r145.2) [] rfl (sm_on) ?_
                                                cases hf
                                            · replace hf := sm_iff hc139 hf
                                              by_cases hc146 : ((xs (v4).toNatClampNeg) &&& (63 : Int32)) = (20 : Int32)
                                              · replace hf := sm_ift hc146 hf
                                                refine j_tableIn hC (off := 716) (tgt := 755) dL_law_39 (by rw [hc146]; decide) (by rw [hc146]; decide) (by rw [hc146]; rfl) rfl ?_
                                                refine j_blk hC bL_law_755 [.retAddr 1, .ref 0, .ref 72, .ref 107, .int v4, .retAddr 0, .retAddr 0] [.ref 0] (sm_hp m) [] rfl (sm_on) ?_
                                                replace hf := sm_bd hf
                                                obtain ⟨r148, q147, hf⟩ := hf
                                                refine j_callV hC [] [] (tX11_round m r148 q147) (cvL_115 rfl) dL_law_756 rfl rfl (by decide) (by decide) rfl (Nat.le_of_ble_eq_true rfl) ?_
                                                show sm_At p l e room_1 s m₀ args below meth c b ba D dA _ _ _ _ _ 759 [.retAddr 1, .ref 0, .ref 72, .ref 107, .int v4, .retAddr 0, .retAddr 0] [.int r148.1] (sm_hp r148.2)
                                                refine j_blk hC bL_law_759 [.retAddr 1, .ref 0, .ref 72, .ref 107, .int v4, .retAddr 0, .retAddr 0] [.ref 72, .int r148.1] (sm_hp r148.2) [] rfl (sm_on) ?_
                                                replace hf := sm_bd hf
                                                obtain ⟨r150, q149, hf⟩ := hf
                                                refine j_callV hC [] [.int r148.1] (tX12_round r148.2 r150 q149) (cvL_118 rfl) dL_law_760 rfl rfl (by decide) (by decide) rfl (Nat.le_of_ble_eq_true rfl) ?_
                                                show sm_At p l e room_1 s m₀ args below meth c b ba D dA _ _ _ _ _ 763 [.retAddr 1, .ref 0, .ref 72, .ref 107, .int v4, .retAddr 0, .retAddr 0] [.int r150.1, .int r148.1] (sm_hp r150.2)
                                                refine j_icmp_eq hC (tgt := 1245) dL_law_763 rfl (fun hc => ?_) (fun hc => ?_)
                                                · replace hf := sm_ift hc hf
                                                  refine j_blk hC bL_law_1245 [.retAddr 1, .ref 0, .ref 72, .ref 107, .int (v4 + (5 : Int32)), .retAddr 0, .retAddr 0] [] (sm_hp r150.2) [] rfl (sm_on) ?_
                                                  refine j_goto hC (tgt := 23) dL_law_1248 rfl ?_
                                                  exact sm_At.room (by omega) (by omega) (ih (v4 + (5 : Int32)) r150.2 hf)
                                                · replace hf := sm_iff hc hf
                                                  refine j_blk hC bL_law_766 [.retAddr 1, .ref 0, .ref 72, .ref 107, .int v4, .retAddr 0, .retAddr 0] [.int (0 : Int32)] (sm_hp r150.2) [] rfl (sm_on) ?_
                                                  cases hf
                                              · replace hf := sm_iff hc146 hf
                                                by_cases hc151 : ((xs (v4).toNatClampNeg) &&& (63 : Int32)) = (21 : Int32)
                                                · replace hf := sm_ift hc151 hf
                                                  refine j_tableIn hC (off := 729) (tgt := 768) dL_law_39 (by rw [hc151]; decide) (by rw [hc151]; decide) (by rw [hc151]; rfl) rfl ?_
                                                  refine j_blk hC bL_law_768 [.retAddr 1, .ref 0, .ref 72, .ref 107, .int v4, .retAddr 0, .retAddr 0] [.ref 0] (sm_hp m) [] rfl (sm_on) ?_
                                                  replace hf := sm_bd hf
                                                  obtain ⟨r153, q152, hf⟩ := hf
                                                  refine j_callV hC [] [] (tX11_closed m r153 q152) (cvL_119 rfl) dL_law_769 rfl rfl (by decide) (by decide) rfl (Nat.le_of_ble_eq_true rfl) ?_
                                                  show sm_At p l e room_1 s m₀ args below meth c b ba D dA _ _ _ _ _ 772 [.retAddr 1, .ref 0, .ref 72, .ref 107, .int v4, .retAddr 0, .retAddr 0] [.int r153.1] (sm_hp r153.2)
                                                  refine j_blk hC bL_law_772 [.retAddr 1, .ref 0, .ref 72, .ref 107, .int v4, .retAddr 0, .retAddr 0] [.ref 72, .int r153.1] (sm_hp r153.2) [] rfl (sm_on) ?_
                                                  replace hf := sm_bd hf
                                                  obtain ⟨r155, q154, hf⟩ := hf
                                                  refine j_callV hC [] [.int r153.1] (tX12_closed r153.2 r155 q154) (cvL_122 rfl) dL_law_773 rfl rfl (by decide) (by decide) rfl (Nat.le_of_ble_eq_true rfl) ?_
                                                  show sm_At p l e room_1 s m₀ args below meth c b ba D dA _ _ _ _ _ 776 [.retAddr 1, .ref 0, .ref 72, .ref 107, .int v4, .retAddr 0, .retAddr 0] [.int r155.1, .int r153.1] (sm_hp r155.2)
                                                  refine j_icmp_eq hC (tgt := 1245) dL_law_776 rfl (fun hc => ?_) (fun hc => ?_)
                                                  · replace hf := sm_ift hc hf
                                                    refine j_blk hC bL_law_1245 [.retAddr 1, .ref 0, .ref 72, .ref 107, .int (v4 + (5 : Int32)), .retAddr 0, .retAddr 0] [] (sm_hp r155.2) [] rfl (sm_on) ?_
                                                    refine j_goto hC (tgt := 23) dL_law_1248 rfl ?_
                                                    exact sm_At.room (by omega) (by omega) (ih (v4 + (5 : Int32)) r155.2 hf)
                                                  · replace hf := sm_iff hc hf
                                                    refine j_blk hC bL_law_779 [.retAddr 1, .ref 0, .ref 72, .ref 107, .int v4, .retAddr 0, .retAddr 0] [.int (0 : Int32)] (sm_hp r155.2) [] rfl (sm_on) ?_
                                                    cases hf
                                                · replace hf := sm_iff hc151 hf
                                                  by_cases hc156 : ((xs (v4).toNatClampNeg) &&& (63 : Int32)) = (22 : Int32)
                                                  · replace hf := sm_ift hc156 hf
                                                    refine j_tableIn hC (off := 742) (tgt := 781) dL_law_39 (by rw [hc156]; decide) (by rw [hc156]; decide) (by rw [hc156]; rfl) rfl ?_
                                                    refine j_blk hC bL_law_781 [.retAddr 1, .ref 0, .ref 72, .ref 107, .int v4, .retAddr 0, .retAddr 0] [.ref 0] (sm_hp m) [] rfl (sm_on) ?_
                                                    replace hf := sm_bd hf
                                                    obtain ⟨r158, q157, hf⟩ := hf
                                                    refine j_callV hC [] [] (tX11_open m r158 q157) (cvL_123 rfl) dL_law_782 rfl rfl (by decide) (by decide) rfl (Nat.le_of_ble_eq_true rfl) ?_
                                                    show sm_At p l e room_1 s m₀ args below meth c b ba D dA _ _ _ _ _ 785 [.retAddr 1, .ref 0, .ref 72, .ref 107, .int v4, .retAddr 0, .retAddr 0] [.int r158.1] (sm_hp r158.2)
                                                    refine j_blk hC bL_law_785 [.retAddr 1, .ref 0, .ref 72, .ref 107, .int v4, .retAddr 0, .retAddr 0] [.ref 72, .int r158.1] (sm_hp r158.2) [] rfl (sm_on) ?_
                                                    replace hf := sm_bd hf
                                                    obtain ⟨r160, q159, hf⟩ := hf
                                                    refine j_callV hC [] [.int r158.1] (tX12_open r158.2 r160 q159) (cvL_126 rfl) dL_law_786 rfl rfl (by decide) (by decide) rfl (Nat.le_of_ble_eq_true rfl) ?_
                                                    show sm_At p l e room_1 s m₀ args below meth c b ba D dA _ _ _ _ _ 789 [.retAddr 1, .ref 0, .ref 72, .ref 107, .int v4, .retAddr 0, .retAddr 0] [.int r160.1, .int r158.1] (sm_hp r160.2)
                                                    refine j_icmp_eq hC (tgt := 1245) dL_law_789 rfl (fun hc => ?_) (fun hc => ?_)
                                                    · replace hf := sm_ift hc hf
                                                      refine j_blk hC bL_law_1245 [.retAddr 1, .ref 0, .ref 72, .ref 107, .int (v4 + (5 : Int32)), .retAddr 0, .retAddr 0] [] (sm_hp r160.2) [] rfl (sm_on) ?_
                                                      refine j_goto hC (tgt := 23) dL_law_1248 rfl ?_
                                                      exact sm_At.room (by omega) (by omega) (ih (v4 + (5 : Int32)) r160.2 hf)
                                                    · replace hf := sm_iff hc hf
                                                      refine j_blk hC bL_law_792 [.retAddr 1, .ref 0, .ref 72, .ref 107, .int v4, .retAddr 0, .retAddr 0] [.int (0 : Int32)] (sm_hp r160.2) [] rfl (sm_on) ?_
                                                      cases hf
                                                  · replace hf := sm_iff hc156 hf
                                                    by_cases hc161 : ((xs (v4).toNatClampNeg) &&& (63 : Int32)) = (23 : Int32)
                                                    · replace hf := sm_ift hc161 hf
                                                      refine j_tableIn hC (off := 755) (tgt := 794) dL_law_39 (by rw [hc161]; decide) (by rw [hc161]; decide) (by rw [hc161]; rfl) rfl ?_
                                                      refine j_blk hC bL_law_794 [.retAddr 1, .ref 0, .ref 72, .ref 107, .int v4, .retAddr 0, .retAddr 0] [.int (v4 + (1 : Int32)), .retAddr 1, .ref 0] (sm_hp m) [] rfl (sm_on) ?_
                                                      replace hf := sm_ck hf
                                                      obtain ⟨q162, hf⟩ := hf
                                                      refine j_sld hC hS hbl hbb dL_law_800 q162 ?_
                                                      refine j_blk hC bL_law_801 [.retAddr 1, .ref 0, .ref 72, .ref 107, .int v4, .retAddr 0, .retAddr 0] [.int (v4 + (2 : Int32)), .retAddr 1, .int (xs (v4 + (1 : Int32)).toNatClampNeg), .ref 0] (sm_hp m) [] rfl (sm_on) ?_
                                                      replace hf := sm_ck hf
                                                      obtain ⟨q163, hf⟩ := hf
                                                      refine j_sld hC hS hbl hbb dL_law_806 q163 ?_
                                                      replace hf := sm_bd hf
                                                      obtain ⟨r165, q164, hf⟩ := hf
                                                      refine j_callV hC [.int (xs (v4 + (1 : Int32)).toNatClampNeg), .int (xs (v4 + (2 : Int32)).toNatClampNeg)] [] (tX11_most (xs (v4 + (1 : Int32)).toNatClampNeg) (xs (v4 + (2 : Int32)).toNatClampNeg) m r165 q164) (cvL_127 rfl) dL_law_807 rfl rfl (by decide) (by decide) rfl (Nat.le_of_ble_eq_true rfl) ?_
                                                      show sm_At p l e room_1 s m₀ args below meth c b ba D dA _ _ _ _ _ 810 [.retAddr 1, .ref 0, .ref 72, .ref 107, .int v4, .retAddr 0, .retAddr 0] [.int r165.1] (sm_hp r165.2)
                                                      refine j_blk hC bL_law_810 [.retAddr 1, .ref 0, .ref 72, .ref 107, .int v4, .retAddr 0, .retAddr 0] [.int (v4 + (1 : Int32)), .retAddr 1, .ref 72, .int r165.1] (sm_hp r165.2) [] rfl (sm_on) ?_
                                                      replace hf := sm_ck hf
                                                      obtain ⟨q166, hf⟩ := hf
                                                      refine j_sld hC hS hbl hbb dL_law_816 q166 ?_
                                                      refine j_blk hC bL_law_817 [.retAddr 1, .ref 0, .ref 72, .ref 107, .int v4, .retAddr 0, .retAddr 0] [.int (v4 + (2 : Int32)), .retAddr 1, .int (xs (v4 + (1 : Int32)).toNatClampNeg), .ref 72, .int r165.1] (sm_hp r165.2) [] rfl (sm_on) ?_
                                                      replace hf := sm_ck hf
                                                      obtain ⟨q167, hf⟩ := hf
                                                      refine j_sld hC hS hbl hbb dL_law_822 q167 ?_
                                                      replace hf := sm_bd hf
                                                      obtain ⟨r169, q168, hf⟩ := hf
                                                      refine j_callV hC [.int (xs (v4 + (1 : Int32)).toNatClampNeg), .int (xs (v4 + (2 : Int32)).toNatClampNeg)] [.int r165.1] (tX12_most (xs (v4 + (1 : Int32)).toNatClampNeg) (xs (v4 + (2 : Int32)).toNatClampNeg) r165.2 r169 q168) (cvL_130 rfl) dL_law_823 rfl rfl (by decide) (by decide) rfl (Nat.le_of_ble_eq_true rfl) ?_
                                                      show sm_At p l e room_1 s m₀ args below meth c b ba D dA _ _ _ _ _ 826 [.retAddr 1, .ref 0, .ref 72, .ref 107, .int v4, .retAddr 0, .retAddr 0] [.int r169.1, .int r165.1] (sm_hp r169.2)
                                                      refine j_icmp_eq hC (tgt := 1245) dL_law_826 rfl (fun hc => ?_) (fun hc => ?_)
                                                      · replace hf := sm_ift hc hf
                                                        refine j_blk hC bL_law_1245 [.retAddr 1, .ref 0, .ref 72, .ref 107, .int (v4 + (5 : Int32)), .retAddr 0, .retAddr 0] [] (sm_hp r169.2) [] rfl (sm_on) ?_
                                                        refine j_goto hC (tgt := 23) dL_law_1248 rfl ?_
                                                        exact sm_At.room (by omega) (by omega) (ih (v4 + (5 : Int32)) r169.2 hf)
                                                      · replace hf := sm_iff hc hf
                                                        refine j_blk hC bL_law_829 [.retAddr 1, .ref 0, .ref 72, .ref 107, .int v4, .retAddr 0, .retAddr 0] [.int (0 : Int32)] (sm_hp r169.2) [] rfl (sm_on) ?_
                                                        cases hf
                                                    · replace hf := sm_iff hc161 hf
                                                      by_cases hc170 : ((xs (v4).toNatClampNeg) &&& (63 : Int32)) = (24 : Int32)
                                                      · replace hf := sm_ift hc170 hf
                                                        refine j_tableIn hC (off := 792) (tgt := 831) dL_law_39 (by rw [hc170]; decide) (by rw [hc170]; decide) (by rw [hc170]; rfl) rfl ?_
                                                        refine j_blk hC bL_law_831 [.retAddr 1, .ref 0, .ref 72, .ref 107, .int v4, .retAddr 0, .retAddr 0] [.int (v4 + (1 : Int32)), .retAddr 1, .ref 0] (sm_hp m) [] rfl (sm_on) ?_
                                                        replace hf := sm_ck hf
                                                        obtain ⟨q171, hf⟩ := hf
                                                        refine j_sld hC hS hbl hbb dL_law_837 q171 ?_
                                                        refine j_blk hC bL_law_838 [.retAddr 1, .ref 0, .ref 72, .ref 107, .int v4, .retAddr 0, .retAddr 0] [.int (v4 + (2 : Int32)), .retAddr 1, .int (xs (v4 + (1 : Int32)).toNatClampNeg), .ref 0] (sm_hp m) [] rfl (sm_on) ?_
                                                        replace hf := sm_ck hf
                                                        obtain ⟨q172, hf⟩ := hf
                                                        refine j_sld hC hS hbl hbb dL_law_843 q172 ?_
                                                        replace hf := sm_bd hf
                                                        obtain ⟨r174, q173, hf⟩ := hf
                                                        refine j_callV hC [.int (xs (v4 + (1 : Int32)).toNatClampNeg), .int (xs (v4 + (2 : Int32)).toNatClampNeg)] [] (tX11_home (xs (v4 + (1 : Int32)).toNatClampNeg) (xs (v4 + (2 : Int32)).toNatClampNeg) m r174 q173) (cvL_131 rfl) dL_law_844 rfl rfl (by decide) (by decide) rfl (Nat.le_of_ble_eq_true rfl) ?_
                                                        show sm_At p l e room_1 s m₀ args below meth c b ba D dA _ _ _ _ _ 847 [.retAddr 1, .ref 0, .ref 72, .ref 107, .int v4, .retAddr 0, .retAddr 0] [.int r174.1] (sm_hp r174.2)
                                                        refine j_blk hC bL_law_847 [.retAddr 1, .ref 0, .ref 72, .ref 107, .int v4, .retAddr 0, .retAddr 0] [.int (v4 + (1 : Int32)), .retAddr 1, .ref 72, .int r174.1] (sm_hp r174.2) [] rfl (sm_on) ?_
                                                        replace hf := sm_ck hf
                                                        obtain ⟨q175, hf⟩ := hf
                                                        refine j_sld hC hS hbl hbb dL_law_853 q175 ?_
                                                        refine j_blk hC bL_law_854 [.retAddr 1, .ref 0, .ref 72, .ref 107, .int v4, .retAddr 0, .retAddr 0] [.int (v4 + (2 : Int32)), .retAddr 1, .int (xs (v4 + (1 : Int32)).toNatClampNeg), .ref 72, .int r174.1] (sm_hp r174.2) [] rfl (sm_on) ?_
                                                        replace hf := sm_ck hf
                                                        obtain ⟨q176, hf⟩ := hf
                                                        refine j_sld hC hS hbl hbb dL_law_859 q176 ?_
                                                        replace hf := sm_bd hf
                                                        obtain ⟨r178, q177, hf⟩ := hf
                                                        refine j_callV hC [.int (xs (v4 + (1 : Int32)).toNatClampNeg), .int (xs (v4 + (2 : Int32)).toNatClampNeg)] [.int r174.1] (tX12_home (xs (v4 + (1 : Int32)).toNatClampNeg) (xs (v4 + (2 : Int32)).toNatClampNeg) r174.2 r178 q177) (cvL_134 rfl) dL_law_860 rfl rfl (by decide) (by decide) rfl (Nat.le_of_ble_eq_true rfl) ?_
                                                        show sm_At p l e room_1 s m₀ args below meth c b ba D dA _ _ _ _ _ 863 [.retAddr 1, .ref 0, .ref 72, .ref 107, .int v4, .retAddr 0, .retAddr 0] [.int r178.1, .int r174.1] (sm_hp r178.2)
                                                        refine j_icmp_eq hC (tgt := 1245) dL_law_863 rfl (fun hc => ?_) (fun hc => ?_)
                                                        · replace hf := sm_ift hc hf
                                                          refine j_blk hC bL_law_1245 [.retAddr 1, .ref 0, .ref 72, .ref 107, .int (v4 + (5 : Int32)), .retAddr 0, .retAddr 0] [] (sm_hp r178.2) [] rfl (sm_on) ?_
                                                          refine j_goto hC (tgt := 23) dL_law_1248 rfl ?_
                                                          exact sm_At.room (by omega) (by omega) (ih (v4 + (5 : Int32)) r178.2 hf)
                                                        · replace hf := sm_iff hc hf
                                                          refine j_blk hC bL_law_866 [.retAddr 1, .ref 0, .ref 72, .ref 107, .int v4, .retAddr 0, .retAddr 0] [.int (0 : Int32)] (sm_hp r178.2) [] rfl (sm_on) ?_
                                                          cases hf
                                                      · replace hf := sm_iff hc170 hf
                                                        by_cases hc179 : ((xs (v4).toNatClampNeg) &&& (63 : Int32)) = (25 : Int32)
                                                        · replace hf := sm_ift hc179 hf
                                                          refine j_tableIn hC (off := 829) (tgt := 868) dL_law_39 (by rw [hc179]; decide) (by rw [hc179]; decide) (by rw [hc179]; rfl) rfl ?_
                                                          refine j_blk hC bL_law_868 [.retAddr 1, .ref 0, .ref 72, .ref 107, .int v4, .retAddr 0, .retAddr 0] [.int (v4 + (1 : Int32)), .retAddr 1, .ref 0] (sm_hp m) [] rfl (sm_on) ?_
                                                          replace hf := sm_ck hf
                                                          obtain ⟨q180, hf⟩ := hf
                                                          refine j_sld hC hS hbl hbb dL_law_874 q180 ?_
                                                          refine j_blk hC bL_law_875 [.retAddr 1, .ref 0, .ref 72, .ref 107, .int v4, .retAddr 0, .retAddr 0] [.int (v4 + (2 : Int32)), .retAddr 1, .int (xs (v4 + (1 : Int32)).toNatClampNeg), .ref 0] (sm_hp m) [] rfl (sm_on) ?_
                                                          replace hf := sm_ck hf
                                                          obtain ⟨q181, hf⟩ := hf
                                                          refine j_sld hC hS hbl hbb dL_law_880 q181 ?_
                                                          replace hf := sm_bd hf
                                                          obtain ⟨r183, q182, hf⟩ := hf
                                                          refine j_callV hC [.int (xs (v4 + (1 : Int32)).toNatClampNeg), .int (xs (v4 + (2 : Int32)).toNatClampNeg)] [] (tX11_soon (xs (v4 + (1 : Int32)).toNatClampNeg) (xs (v4 + (2 : Int32)).toNatClampNeg) m r183 q182) (cvL_135 rfl) dL_law_881 rfl rfl (by decide) (by decide) rfl (Nat.le_of_ble_eq_true rfl) ?_
                                                          show sm_At p l e room_1 s m₀ args below meth c b ba D dA _ _ _ _ _ 884 [.retAddr 1, .ref 0, .ref 72, .ref 107, .int v4, .retAddr 0, .retAddr 0] [.int r183.1] (sm_hp r183.2)
                                                          refine j_blk hC bL_law_884 [.retAddr 1, .ref 0, .ref 72, .ref 107, .int v4, .retAddr 0, .retAddr 0] [.int (v4 + (1 : Int32)), .retAddr 1, .ref 72, .int r183.1] (sm_hp r183.2) [] rfl (sm_on) ?_
                                                          replace hf := sm_ck hf
                                                          obtain ⟨q184, hf⟩ := hf
                                                          refine j_sld hC hS hbl hbb dL_law_890 q184 ?_
                                                          refine j_blk hC bL_law_891 [.retAddr 1, .ref 0, .ref 72, .ref 107, .int v4, .retAddr 0, .retAddr 0] [.int (v4 + (2 : Int32)), .retAddr 1, .int (xs (v4 + (1 : Int32)).toNatClampNeg), .ref 72, .int r183.1] (sm_hp r183.2) [] rfl (sm_on) ?_
                                                          replace hf := sm_ck hf
                                                          obtain ⟨q185, hf⟩ := hf
                                                          refine j_sld hC hS hbl hbb dL_law_896 q185 ?_
                                                          replace hf := sm_bd hf
                                                          obtain ⟨r187, q186, hf⟩ := hf
                                                          refine j_callV hC [.int (xs (v4 + (1 : Int32)).toNatClampNeg), .int (xs (v4 + (2 : Int32)).toNatClampNeg)] [.int r183.1] (tX12_soon (xs (v4 + (1 : Int32)).toNatClampNeg) (xs (v4 + (2 : Int32)).toNatClampNeg) r183.2 r187 q186) (cvL_138 rfl) dL_law_897 rfl rfl (by decide) (by decide) rfl (Nat.le_of_ble_eq_true rfl) ?_
                                                          show sm_At p l e room_1 s m₀ args below meth c b ba D dA _ _ _ _ _ 900 [.retAddr 1, .ref 0, .ref 72, .ref 107, .int v4, .retAddr 0, .retAddr 0] [.int r187.1, .int r183.1] (sm_hp r187.2)
                                                          refine j_icmp_eq hC (tgt := 1245) dL_law_900 rfl (fun hc => ?_) (fun hc => ?_)
                                                          · replace hf := sm_ift hc hf
                                                            refine j_blk hC bL_law_1245 [.retAddr 1, .ref 0, .ref 72, .ref 107, .int (v4 + (5 : Int32)), .retAddr 0, .retAddr 0] [] (sm_hp r187.2) [] rfl (sm_on) ?_
                                                            refine j_goto hC (tgt := 23) dL_law_1248 rfl ?_
                                                            exact sm_At.room (by omega) (by omega) (ih (v4 + (5 : Int32)) r187.2 hf)
                                                          · replace hf := sm_iff hc hf
                                                            refine j_blk hC bL_law_903 [.retAddr 1, .ref 0, .ref 72, .ref 107, .int v4, .retAddr 0, .retAddr 0] [.int (0 : Int32)] (sm_hp r187.2) [] rfl (sm_on) ?_
                                                            cases hf
                                                        · replace hf := sm_iff hc179 hf
                                                          by_cases hc188 : ((xs (v4).toNatClampNeg) &&& (63 : Int32)) = (26 : Int32)
                                                          · replace hf := sm_ift hc188 hf
                                                            refine j_tableIn hC (off := 866) (tgt := 905) dL_law_39 (by rw [hc188]; decide) (by rw [hc188]; decide) (by rw [hc188]; rfl) rfl ?_
                                                            refine j_blk hC bL_law_905 [.retAddr 1, .ref 0, .ref 72, .ref 107, .int v4, .retAddr 0, .retAddr 0] [.ref 0] (sm_hp m) [] rfl (sm_on) ?_
                                                            replace hf := sm_bd hf
                                                            obtain ⟨r190, q189, hf⟩ := hf
                                                            refine j_callV hC [] [] (tX11_bridges m r190 q189) (cvL_139 rfl) dL_law_906 rfl rfl (by decide) (by decide) rfl (Nat.le_of_ble_eq_true rfl) ?_
                                                            show sm_At p l e room_1 s m₀ args below meth c b ba D dA _ _ _ _ _ 909 [.retAddr 1, .ref 0, .ref 72, .ref 107, .int v4, .retAddr 0, .retAddr 0] [.int r190] (sm_hp m)
                                                            refine j_blk hC bL_law_909 [.retAddr 1, .ref 0, .ref 72, .ref 107, .int v4, .retAddr 0, .retAddr 0] [.ref 72, .int r190] (sm_hp m) [] rfl (sm_on) ?_
                                                            replace hf := sm_bd hf
                                                            obtain ⟨r192, q191, hf⟩ := hf
                                                            refine j_callV hC [] [.int r190] (tX12_bridges m r192 q191) (cvL_142 rfl) dL_law_910 rfl rfl (by decide) (by decide) rfl (Nat.le_of_ble_eq_true rfl) ?_
                                                            show sm_At p l e room_1 s m₀ args below meth c b ba D dA _ _ _ _ _ 913 [.retAddr 1, .ref 0, .ref 72, .ref 107, .int v4, .retAddr 0, .retAddr 0] [.int r192.1, .int r190] (sm_hp r192.2)
                                                            refine j_icmp_eq hC (tgt := 1245) dL_law_913 rfl (fun hc => ?_) (fun hc => ?_)
                                                            · replace hf := sm_ift hc hf
                                                              refine j_blk hC bL_law_1245 [.retAddr 1, .ref 0, .ref 72, .ref 107, .int (v4 + (5 : Int32)), .retAddr 0, .retAddr 0] [] (sm_hp r192.2) [] rfl (sm_on) ?_
                                                              refine j_goto hC (tgt := 23) dL_law_1248 rfl ?_
                                                              exact sm_At.room (by omega) (by omega) (ih (v4 + (5 : Int32)) r192.2 hf)
                                                            · replace hf := sm_iff hc hf
                                                              refine j_blk hC bL_law_916 [.retAddr 1, .ref 0, .ref 72, .ref 107, .int v4, .retAddr 0, .retAddr 0] [.int (0 : Int32)] (sm_hp r192.2) [] rfl (sm_on) ?_
                                                              cases hf
                                                          · replace hf := sm_iff hc188 hf
                                                            by_cases hc193 : ((xs (v4).toNatClampNeg) &&& (63 : Int32)) = (27 : Int32)
                                                            · replace hf := sm_ift hc193 hf
                                                              refine j_tableIn hC (off := 879) (tgt := 918) dL_law_39 (by rw [hc193]; decide) (by rw [hc193]; decide) (by rw [hc193]; rfl) rfl ?_
                                                              refine j_blk hC bL_law_918 [.retAddr 1, .ref 0, .ref 72, .ref 107, .int v4, .retAddr 0, .retAddr 0] [.int (v4 + (1 : Int32)), .retAddr 1, .ref 0] (sm_hp m) [] rfl (sm_on) ?_
                                                              replace hf := sm_ck hf
                                                              obtain ⟨q194, hf⟩ := hf
                                                              refine j_sld hC hS hbl hbb dL_law_924 q194 ?_
                                                              refine j_blk hC bL_law_925 [.retAddr 1, .ref 0, .ref 72, .ref 107, .int v4, .retAddr 0, .retAddr 0] [.ref 107, .int (xs (v4 + (1 : Int32)).toNatClampNeg), .ref 0] (sm_hp m) [] rfl (sm_on) ?_
                                                              replace hf := sm_bd hf
                                                              obtain ⟨r195, q196, hf⟩ := hf
                                                              refine sm_At.room (rc' := n + 1) (rs' := 6 * n + 6) (by omega) (by omega) ?_
                                                              refine jm_callH (n := 3) [.ref 0, .int (xs (v4 + (1 : Int32)).toNatClampNeg), .ref 107] [] (tL_reach hl (xs (v4 + (1 : Int32)).toNatClampNeg) m r195 q196) hC hX ⟨by decide, by decide, by decide +kernel⟩ wmL_143 wsL_reach wIL wcwL_reach dL_law_926 rfl rfl (by decide) (by decide) (Nat.le_of_ble_eq_true rfl) ?_
                                                              show sm_At p l e room_1 s m₀ args below meth c b ba D dA _ _ _ _ _ 929 [.retAddr 1, .ref 0, .ref 72, .ref 107, .int v4, .retAddr 0, .retAddr 0] [.int r195.1] (sm_hp r195.2)
                                                              refine j_blk hC bL_law_929 [.retAddr 1, .ref 0, .ref 72, .ref 107, .int v4, .int r195.1, .retAddr 0] [.int (v4 + (1 : Int32)), .retAddr 1, .ref 72] (sm_hp r195.2) [] rfl (sm_on) ?_
                                                              replace hf := sm_ck hf
                                                              obtain ⟨q197, hf⟩ := hf
                                                              refine j_sld hC hS hbl hbb dL_law_937 q197 ?_
                                                              replace hf := sm_bd hf
                                                              obtain ⟨r199, q198, hf⟩ := hf
                                                              refine j_callV hC [.int (xs (v4 + (1 : Int32)).toNatClampNeg)] [] (tX12_reach (xs (v4 + (1 : Int32)).toNatClampNeg) r195.2 r199 q198) (cvL_146 rfl) dL_law_938 rfl rfl (by decide) (by decide) rfl (Nat.le_of_ble_eq_true rfl) ?_
                                                              show sm_At p l e room_1 s m₀ args below meth c b ba D dA _ _ _ _ _ 941 [.retAddr 1, .ref 0, .ref 72, .ref 107, .int v4, .int r195.1, .retAddr 0] [.int r199.1] (sm_hp r199.2)
                                                              refine j_blk hC bL_law_941 [.retAddr 1, .ref 0, .ref 72, .ref 107, .int v4, .int r195.1, .int r199.1] [.ref 72] (sm_hp r199.2) [] rfl (sm_on) ?_
                                                              replace hf := sm_bd hf
                                                              obtain ⟨r201, q200, hf⟩ := hf
                                                              refine j_callV hC [] [] (tX12_thrown r199.2 r201 q200) (cvL_46 rfl) dL_law_944 rfl rfl (by decide) (by decide) rfl (Nat.le_of_ble_eq_true rfl) ?_
                                                              show sm_At p l e room_1 s m₀ args below meth c b ba D dA _ _ _ _ _ 947 [.retAddr 1, .ref 0, .ref 72, .ref 107, .int v4, .int r195.1, .int r199.1] [.int r201] (sm_hp r199.2)
                                                              refine j_blk hC bL_law_947 [.retAddr 1, .ref 0, .ref 72, .ref 107, .int v4, .int r195.1, .int r199.1] [.int r195.1, .int r201] (sm_hp r199.2) [] rfl (sm_on) ?_
                                                              refine j_icmp_eq hC (tgt := 954) dL_law_949 rfl (fun hc => ?_) (fun hc => ?_)
                                                              · replace hf := sm_ift hc hf
                                                                refine j_blk hC bL_law_954 [.retAddr 1, .ref 0, .ref 72, .ref 107, .int v4, .int r195.1, .int r199.1] [.int r195.1] (sm_hp r199.2) [] rfl (sm_on) ?_
                                                                refine j_if_ne hC (tgt := 971) dL_law_956 rfl (fun hc => ?_) (fun hc => ?_)
                                                                · replace hf := sm_iff hc hf
                                                                  refine j_goto hC (tgt := 1245) dL_law_971 rfl ?_
                                                                  refine j_blk hC bL_law_1245 [.retAddr 1, .ref 0, .ref 72, .ref 107, .int (v4 + (5 : Int32)), .int r195.1, .int r199.1] [] (sm_hp r199.2) [] rfl (sm_on) ?_
                                                                  refine j_goto hC (tgt := 23) dL_law_1248 rfl ?_
                                                                  refine j_wk hC [true, true, true, true, true, false, false] ?_
                                                                  exact sm_At.room (by omega) (by omega) (ih (v4 + (5 : Int32)) r199.2 hf)
                                                                · replace hf := sm_ift hc hf
                                                                  refine j_blk hC bL_law_959 [.retAddr 1, .ref 0, .ref 72, .ref 107, .int v4, .int r195.1, .int r199.1] [.int (lg_cmp (r199.2.2 107 0) (r199.1).toInt64)] (sm_hp r199.2) [((0 : Int32), 1)] rfl (sm_oc (by decide) (sm_on)) ?_
                                                                  refine j_if_eq hC (tgt := 971) dL_law_966 rfl (fun hc => ?_) (fun hc => ?_)
                                                                  · replace hf := sm_ift hc hf
                                                                    refine j_goto hC (tgt := 1245) dL_law_971 rfl ?_
                                                                    refine j_blk hC bL_law_1245 [.retAddr 1, .ref 0, .ref 72, .ref 107, .int (v4 + (5 : Int32)), .int r195.1, .int r199.1] [] (sm_hp r199.2) [] rfl (sm_on) ?_
                                                                    refine j_goto hC (tgt := 23) dL_law_1248 rfl ?_
                                                                    refine j_wk hC [true, true, true, true, true, false, false] ?_
                                                                    exact sm_At.room (by omega) (by omega) (ih (v4 + (5 : Int32)) r199.2 hf)
                                                                  · replace hf := sm_iff hc hf
                                                                    refine j_blk hC bL_law_969 [.retAddr 1, .ref 0, .ref 72, .ref 107, .int v4, .int r195.1, .int r199.1] [.int (0 : Int32)] (sm_hp r199.2) [] rfl (sm_on) ?_
                                                                    cases hf
                                                              · replace hf := sm_iff hc hf
                                                                refine j_blk hC bL_law_952 [.retAddr 1, .ref 0, .ref 72, .ref 107, .int v4, .int r195.1, .int r199.1] [.int (0 : Int32)] (sm_hp r199.2) [] rfl (sm_on) ?_
                                                                cases hf
                                                            · replace hf := sm_iff hc193 hf
                                                              by_cases hc202 : ((xs (v4).toNatClampNeg) &&& (63 : Int32)) = (28 : Int32)
                                                              · replace hf := sm_ift hc202 hf
                                                                refine j_tableIn hC (off := 935) (tgt := 974) dL_law_39 (by rw [hc202]; decide) (by rw [hc202]; decide) (by rw [hc202]; rfl) rfl ?_
                                                                refine j_blk hC bL_law_974 [.retAddr 1, .ref 0, .ref 72, .ref 107, .int v4, .retAddr 0, .retAddr 0] [.int (v4 + (1 : Int32)), .retAddr 1, .ref 0] (sm_hp m) [] rfl (sm_on) ?_
                                                                replace hf := sm_ck hf
                                                                obtain ⟨q203, hf⟩ := hf
                                                                refine j_sld hC hS hbl hbb dL_law_980 q203 ?_
                                                                replace hf := sm_bd hf
                                                                obtain ⟨r205, q204, hf⟩ := hf
                                                                refine j_callV hC [.int (xs (v4 + (1 : Int32)).toNatClampNeg)] [] (tX11_gates (xs (v4 + (1 : Int32)).toNatClampNeg) m r205 q204) (cvL_147 rfl) dL_law_981 rfl rfl (by decide) (by decide) rfl (Nat.le_of_ble_eq_true rfl) ?_
                                                                show sm_At p l e room_1 s m₀ args below meth c b ba D dA _ _ _ _ _ 984 [.retAddr 1, .ref 0, .ref 72, .ref 107, .int v4, .retAddr 0, .retAddr 0] [.int r205.1] (sm_hp r205.2)
                                                                refine j_blk hC bL_law_984 [.retAddr 1, .ref 0, .ref 72, .ref 107, .int v4, .retAddr 0, .retAddr 0] [.int (v4 + (1 : Int32)), .retAddr 1, .ref 72, .int r205.1] (sm_hp r205.2) [] rfl (sm_on) ?_
                                                                replace hf := sm_ck hf
                                                                obtain ⟨q206, hf⟩ := hf
                                                                refine j_sld hC hS hbl hbb dL_law_990 q206 ?_
                                                                replace hf := sm_bd hf
                                                                obtain ⟨r208, q207, hf⟩ := hf
                                                                refine j_callV hC [.int (xs (v4 + (1 : Int32)).toNatClampNeg)] [.int r205.1] (tX12_gates (xs (v4 + (1 : Int32)).toNatClampNeg) r205.2 r208 q207) (cvL_150 rfl) dL_law_991 rfl rfl (by decide) (by decide) rfl (Nat.le_of_ble_eq_true rfl) ?_
                                                                show sm_At p l e room_1 s m₀ args below meth c b ba D dA _ _ _ _ _ 994 [.retAddr 1, .ref 0, .ref 72, .ref 107, .int v4, .retAddr 0, .retAddr 0] [.int r208.1, .int r205.1] (sm_hp r208.2)
                                                                refine j_icmp_eq hC (tgt := 1245) dL_law_994 rfl (fun hc => ?_) (fun hc => ?_)
                                                                · replace hf := sm_ift hc hf
                                                                  refine j_blk hC bL_law_1245 [.retAddr 1, .ref 0, .ref 72, .ref 107, .int (v4 + (5 : Int32)), .retAddr 0, .retAddr 0] [] (sm_hp r208.2) [] rfl (sm_on) ?_
                                                                  refine j_goto hC (tgt := 23) dL_law_1248 rfl ?_
                                                                  exact sm_At.room (by omega) (by omega) (ih (v4 + (5 : Int32)) r208.2 hf)
                                                                · replace hf := sm_iff hc hf
                                                                  refine j_blk hC bL_law_997 [.retAddr 1, .ref 0, .ref 72, .ref 107, .int v4, .retAddr 0, .retAddr 0] [.int (0 : Int32)] (sm_hp r208.2) [] rfl (sm_on) ?_
                                                                  cases hf
                                                              · replace hf := sm_iff hc202 hf
                                                                by_cases hc209 : ((xs (v4).toNatClampNeg) &&& (63 : Int32)) = (29 : Int32)
                                                                · replace hf := sm_ift hc209 hf
                                                                  refine j_tableIn hC (off := 960) (tgt := 999) dL_law_39 (by rw [hc209]; decide) (by rw [hc209]; decide) (by rw [hc209]; rfl) rfl ?_
                                                                  refine j_blk hC bL_law_999 [.retAddr 1, .ref 0, .ref 72, .ref 107, .int v4, .retAddr 0, .retAddr 0] [.int (v4 + (1 : Int32)), .retAddr 1, .ref 0] (sm_hp m) [] rfl (sm_on) ?_
                                                                  replace hf := sm_ck hf
                                                                  obtain ⟨q210, hf⟩ := hf
                                                                  refine j_sld hC hS hbl hbb dL_law_1005 q210 ?_
                                                                  refine j_blk hC bL_law_1006 [.retAddr 1, .ref 0, .ref 72, .ref 107, .int v4, .retAddr 0, .retAddr 0] [.int (v4 + (2 : Int32)), .retAddr 1, .int (xs (v4 + (1 : Int32)).toNatClampNeg), .ref 0] (sm_hp m) [] rfl (sm_on) ?_
                                                                  replace hf := sm_ck hf
                                                                  obtain ⟨q211, hf⟩ := hf
                                                                  refine j_sld hC hS hbl hbb dL_law_1011 q211 ?_
                                                                  replace hf := sm_bd hf
                                                                  obtain ⟨r213, q212, hf⟩ := hf
                                                                  refine j_callV hC [.int (xs (v4 + (1 : Int32)).toNatClampNeg), .int (xs (v4 + (2 : Int32)).toNatClampNeg)] [] (tX11_heard (xs (v4 + (1 : Int32)).toNatClampNeg) (xs (v4 + (2 : Int32)).toNatClampNeg) m r213 q212) (cvL_151 rfl) dL_law_1012 rfl rfl (by decide) (by decide) rfl (Nat.le_of_ble_eq_true rfl) ?_
                                                                  show sm_At p l e room_1 s m₀ args below meth c b ba D dA _ _ _ _ _ 1015 [.retAddr 1, .ref 0, .ref 72, .ref 107, .int v4, .retAddr 0, .retAddr 0] [.int r213.1] (sm_hp r213.2)
                                                                  refine j_blk hC bL_law_1015 [.retAddr 1, .ref 0, .ref 72, .ref 107, .int v4, .retAddr 0, .retAddr 0] [.int (v4 + (1 : Int32)), .retAddr 1, .ref 72, .int r213.1] (sm_hp r213.2) [] rfl (sm_on) ?_
                                                                  replace hf := sm_ck hf
                                                                  obtain ⟨q214, hf⟩ := hf
                                                                  refine j_sld hC hS hbl hbb dL_law_1021 q214 ?_
                                                                  refine j_blk hC bL_law_1022 [.retAddr 1, .ref 0, .ref 72, .ref 107, .int v4, .retAddr 0, .retAddr 0] [.int (v4 + (2 : Int32)), .retAddr 1, .int (xs (v4 + (1 : Int32)).toNatClampNeg), .ref 72, .int r213.1] (sm_hp r213.2) [] rfl (sm_on) ?_
                                                                  replace hf := sm_ck hf
                                                                  obtain ⟨q215, hf⟩ := hf
                                                                  refine j_sld hC hS hbl hbb dL_law_1027 q215 ?_
                                                                  replace hf := sm_bd hf
                                                                  obtain ⟨r217, q216, hf⟩ := hf
                                                                  refine j_callV hC [.int (xs (v4 + (1 : Int32)).toNatClampNeg), .int (xs (v4 + (2 : Int32)).toNatClampNeg)] [.int r213.1] (tX12_heard (xs (v4 + (1 : Int32)).toNatClampNeg) (xs (v4 + (2 : Int32)).toNatClampNeg) r213.2 r217 q216) (cvL_154 rfl) dL_law_1028 rfl rfl (by decide) (by decide) rfl (Nat.le_of_ble_eq_true rfl) ?_
                                                                  show sm_At p l e room_1 s m₀ args below meth c b ba D dA _ _ _ _ _ 1031 [.retAddr 1, .ref 0, .ref 72, .ref 107, .int v4, .retAddr 0, .retAddr 0] [.int r217.1, .int r213.1] (sm_hp r217.2)
                                                                  refine j_icmp_eq hC (tgt := 1245) dL_law_1031 rfl (fun hc => ?_) (fun hc => ?_)
                                                                  · replace hf := sm_ift hc hf
                                                                    refine j_blk hC bL_law_1245 [.retAddr 1, .ref 0, .ref 72, .ref 107, .int (v4 + (5 : Int32)), .retAddr 0, .retAddr 0] [] (sm_hp r217.2) [] rfl (sm_on) ?_
                                                                    refine j_goto hC (tgt := 23) dL_law_1248 rfl ?_
                                                                    exact sm_At.room (by omega) (by omega) (ih (v4 + (5 : Int32)) r217.2 hf)
                                                                  · replace hf := sm_iff hc hf
                                                                    refine j_blk hC bL_law_1034 [.retAddr 1, .ref 0, .ref 72, .ref 107, .int v4, .retAddr 0, .retAddr 0] [.int (0 : Int32)] (sm_hp r217.2) [] rfl (sm_on) ?_
                                                                    cases hf
                                                                · replace hf := sm_iff hc209 hf
                                                                  by_cases hc218 : ((xs (v4).toNatClampNeg) &&& (63 : Int32)) = (30 : Int32)
                                                                  · replace hf := sm_ift hc218 hf
                                                                    refine j_tableIn hC (off := 997) (tgt := 1036) dL_law_39 (by rw [hc218]; decide) (by rw [hc218]; decide) (by rw [hc218]; rfl) rfl ?_
                                                                    refine j_blk hC bL_law_1036 [.retAddr 1, .ref 0, .ref 72, .ref 107, .int v4, .retAddr 0, .retAddr 0] [.ref 0] (sm_hp m) [] rfl (sm_on) ?_
                                                                    replace hf := sm_bd hf
                                                                    obtain ⟨r220, q219, hf⟩ := hf
                                                                    refine j_callV hC [] [] (tX11_forget m r220 q219) (cvL_155 rfl) dL_law_1037 rfl rfl (by decide) (by decide) rfl (Nat.le_of_ble_eq_true rfl) ?_
                                                                    show sm_At p l e room_1 s m₀ args below meth c b ba D dA _ _ _ _ _ 1040 [.retAddr 1, .ref 0, .ref 72, .ref 107, .int v4, .retAddr 0, .retAddr 0] [.int r220.1] (sm_hp r220.2)
                                                                    refine j_blk hC bL_law_1040 [.retAddr 1, .ref 0, .ref 72, .ref 107, .int v4, .retAddr 0, .retAddr 0] [.ref 72, .int r220.1] (sm_hp r220.2) [] rfl (sm_on) ?_
                                                                    replace hf := sm_bd hf
                                                                    obtain ⟨r222, q221, hf⟩ := hf
                                                                    refine j_callV hC [] [.int r220.1] (tX12_forget r220.2 r222 q221) (cvL_158 rfl) dL_law_1041 rfl rfl (by decide) (by decide) rfl (Nat.le_of_ble_eq_true rfl) ?_
                                                                    show sm_At p l e room_1 s m₀ args below meth c b ba D dA _ _ _ _ _ 1044 [.retAddr 1, .ref 0, .ref 72, .ref 107, .int v4, .retAddr 0, .retAddr 0] [.int r222.1, .int r220.1] (sm_hp r222.2)
                                                                    refine j_icmp_eq hC (tgt := 1245) dL_law_1044 rfl (fun hc => ?_) (fun hc => ?_)
                                                                    · replace hf := sm_ift hc hf
                                                                      refine j_blk hC bL_law_1245 [.retAddr 1, .ref 0, .ref 72, .ref 107, .int (v4 + (5 : Int32)), .retAddr 0, .retAddr 0] [] (sm_hp r222.2) [] rfl (sm_on) ?_
                                                                      refine j_goto hC (tgt := 23) dL_law_1248 rfl ?_
                                                                      exact sm_At.room (by omega) (by omega) (ih (v4 + (5 : Int32)) r222.2 hf)
                                                                    · replace hf := sm_iff hc hf
                                                                      refine j_blk hC bL_law_1047 [.retAddr 1, .ref 0, .ref 72, .ref 107, .int v4, .retAddr 0, .retAddr 0] [.int (0 : Int32)] (sm_hp r222.2) [] rfl (sm_on) ?_
                                                                      cases hf
                                                                  · replace hf := sm_iff hc218 hf
                                                                    by_cases hc223 : ((xs (v4).toNatClampNeg) &&& (63 : Int32)) = (31 : Int32)
                                                                    · replace hf := sm_ift hc223 hf
                                                                      refine j_tableIn hC (off := 1010) (tgt := 1049) dL_law_39 (by rw [hc223]; decide) (by rw [hc223]; decide) (by rw [hc223]; rfl) rfl ?_
                                                                      refine j_blk hC bL_law_1049 [.retAddr 1, .ref 0, .ref 72, .ref 107, .int v4, .retAddr 0, .retAddr 0] [.ref 0] (sm_hp m) [] rfl (sm_on) ?_
                                                                      replace hf := sm_bd hf
                                                                      obtain ⟨r225, q224, hf⟩ := hf
                                                                      refine j_callV hC [] [] (tX11_lands m r225 q224) (cvL_159 rfl) dL_law_1050 rfl rfl (by decide) (by decide) rfl (Nat.le_of_ble_eq_true rfl) ?_
                                                                      show sm_At p l e room_1 s m₀ args below meth c b ba D dA _ _ _ _ _ 1053 [.retAddr 1, .ref 0, .ref 72, .ref 107, .int v4, .retAddr 0, .retAddr 0] [.int r225.1] (sm_hp r225.2)
                                                                      refine j_blk hC bL_law_1053 [.retAddr 1, .ref 0, .ref 72, .ref 107, .int v4, .retAddr 0, .retAddr 0] [.ref 72, .int r225.1] (sm_hp r225.2) [] rfl (sm_on) ?_
                                                                      replace hf := sm_bd hf
                                                                      obtain ⟨r227, q226, hf⟩ := hf
                                                                      refine j_callV hC [] [.int r225.1] (tX12_lands r225.2 r227 q226) (cvL_162 rfl) dL_law_1054 rfl rfl (by decide) (by decide) rfl (Nat.le_of_ble_eq_true rfl) ?_
                                                                      show sm_At p l e room_1 s m₀ args below meth c b ba D dA _ _ _ _ _ 1057 [.retAddr 1, .ref 0, .ref 72, .ref 107, .int v4, .retAddr 0, .retAddr 0] [.int r227.1, .int r225.1] (sm_hp r227.2)
                                                                      refine j_icmp_eq hC (tgt := 1245) dL_law_1057 rfl (fun hc => ?_) (fun hc => ?_)
                                                                      · replace hf := sm_ift hc hf
                                                                        refine j_blk hC bL_law_1245 [.retAddr 1, .ref 0, .ref 72, .ref 107, .int (v4 + (5 : Int32)), .retAddr 0, .retAddr 0] [] (sm_hp r227.2) [] rfl (sm_on) ?_
                                                                        refine j_goto hC (tgt := 23) dL_law_1248 rfl ?_
                                                                        exact sm_At.room (by omega) (by omega) (ih (v4 + (5 : Int32)) r227.2 hf)
                                                                      · replace hf := sm_iff hc hf
                                                                        refine j_blk hC bL_law_1060 [.retAddr 1, .ref 0, .ref 72, .ref 107, .int v4, .retAddr 0, .retAddr 0] [.int (0 : Int32)] (sm_hp r227.2) [] rfl (sm_on) ?_
                                                                        cases hf
                                                                    · replace hf := sm_iff hc223 hf
                                                                      by_cases hc228 : ((xs (v4).toNatClampNeg) &&& (63 : Int32)) = (32 : Int32)
                                                                      · replace hf := sm_ift hc228 hf
                                                                        refine j_tableIn hC (off := 1023) (tgt := 1062) dL_law_39 (by rw [hc228]; decide) (by rw [hc228]; decide) (by rw [hc228]; rfl) rfl ?_
                                                                        refine j_blk hC bL_law_1062 [.retAddr 1, .ref 0, .ref 72, .ref 107, .int v4, .retAddr 0, .retAddr 0] [.ref 0] (sm_hp m) [] rfl (sm_on) ?_
                                                                        replace hf := sm_bd hf
                                                                        obtain ⟨r230, q229, hf⟩ := hf
                                                                        refine j_callV hC [] [] (tX11_sure m r230 q229) (cvL_163 rfl) dL_law_1063 rfl rfl (by decide) (by decide) rfl (Nat.le_of_ble_eq_true rfl) ?_
                                                                        show sm_At p l e room_1 s m₀ args below meth c b ba D dA _ _ _ _ _ 1066 [.retAddr 1, .ref 0, .ref 72, .ref 107, .int v4, .retAddr 0, .retAddr 0] [.int r230.1] (sm_hp r230.2)
                                                                        refine j_blk hC bL_law_1066 [.retAddr 1, .ref 0, .ref 72, .ref 107, .int v4, .retAddr 0, .retAddr 0] [.ref 72, .int r230.1] (sm_hp r230.2) [] rfl (sm_on) ?_
                                                                        replace hf := sm_bd hf
                                                                        obtain ⟨r232, q231, hf⟩ := hf
                                                                        refine j_callV hC [] [.int r230.1] (tX12_sure r230.2 r232 q231) (cvL_166 rfl) dL_law_1067 rfl rfl (by decide) (by decide) rfl (Nat.le_of_ble_eq_true rfl) ?_
                                                                        show sm_At p l e room_1 s m₀ args below meth c b ba D dA _ _ _ _ _ 1070 [.retAddr 1, .ref 0, .ref 72, .ref 107, .int v4, .retAddr 0, .retAddr 0] [.int r232.1, .int r230.1] (sm_hp r232.2)
                                                                        refine j_icmp_eq hC (tgt := 1245) dL_law_1070 rfl (fun hc => ?_) (fun hc => ?_)
                                                                        · replace hf := sm_ift hc hf
                                                                          refine j_blk hC bL_law_1245 [.retAddr 1, .ref 0, .ref 72, .ref 107, .int (v4 + (5 : Int32)), .retAddr 0, .retAddr 0] [] (sm_hp r232.2) [] rfl (sm_on) ?_
                                                                          refine j_goto hC (tgt := 23) dL_law_1248 rfl ?_
                                                                          exact sm_At.room (by omega) (by omega) (ih (v4 + (5 : Int32)) r232.2 hf)
                                                                        · replace hf := sm_iff hc hf
                                                                          refine j_blk hC bL_law_1073 [.retAddr 1, .ref 0, .ref 72, .ref 107, .int v4, .retAddr 0, .retAddr 0] [.int (0 : Int32)] (sm_hp r232.2) [] rfl (sm_on) ?_
                                                                          cases hf
                                                                      · replace hf := sm_iff hc228 hf
                                                                        by_cases hc233 : ((xs (v4).toNatClampNeg) &&& (63 : Int32)) = (33 : Int32)
                                                                        · replace hf := sm_ift hc233 hf
                                                                          refine j_tableIn hC (off := 1036) (tgt := 1075) dL_law_39 (by rw [hc233]; decide) (by rw [hc233]; decide) (by rw [hc233]; rfl) rfl ?_
                                                                          refine j_blk hC bL_law_1075 [.retAddr 1, .ref 0, .ref 72, .ref 107, .int v4, .retAddr 0, .retAddr 0] [.ref 0] (sm_hp m) [] rfl (sm_on) ?_
                                                                          replace hf := sm_bd hf
                                                                          obtain ⟨r235, q234, hf⟩ := hf
                                                                          refine j_callV hC [] [] (tX11_next m r235 q234) (cvL_167 rfl) dL_law_1076 rfl rfl (by decide) (by decide) rfl (Nat.le_of_ble_eq_true rfl) ?_
                                                                          show sm_At p l e room_1 s m₀ args below meth c b ba D dA _ _ _ _ _ 1079 [.retAddr 1, .ref 0, .ref 72, .ref 107, .int v4, .retAddr 0, .retAddr 0] [.int r235.1] (sm_hp r235.2)
                                                                          refine j_blk hC bL_law_1079 [.retAddr 1, .ref 0, .ref 72, .ref 107, .int v4, .retAddr 0, .retAddr 0] [.ref 72, .int r235.1] (sm_hp r235.2) [] rfl (sm_on) ?_
                                                                          replace hf := sm_bd hf
                                                                          obtain ⟨r237, q236, hf⟩ := hf
                                                                          refine j_callV hC [] [.int r235.1] (tX12_next r235.2 r237 q236) (cvL_170 rfl) dL_law_1080 rfl rfl (by decide) (by decide) rfl (Nat.le_of_ble_eq_true rfl) ?_
                                                                          show sm_At p l e room_1 s m₀ args below meth c b ba D dA _ _ _ _ _ 1083 [.retAddr 1, .ref 0, .ref 72, .ref 107, .int v4, .retAddr 0, .retAddr 0] [.int r237.1, .int r235.1] (sm_hp r237.2)
                                                                          refine j_icmp_eq hC (tgt := 1245) dL_law_1083 rfl (fun hc => ?_) (fun hc => ?_)
                                                                          · replace hf := sm_ift hc hf
                                                                            refine j_blk hC bL_law_1245 [.retAddr 1, .ref 0, .ref 72, .ref 107, .int (v4 + (5 : Int32)), .retAddr 0, .retAddr 0] [] (sm_hp r237.2) [] rfl (sm_on) ?_
                                                                            refine j_goto hC (tgt := 23) dL_law_1248 rfl ?_
                                                                            exact sm_At.room (by omega) (by omega) (ih (v4 + (5 : Int32)) r237.2 hf)
                                                                          · replace hf := sm_iff hc hf
                                                                            refine j_blk hC bL_law_1086 [.retAddr 1, .ref 0, .ref 72, .ref 107, .int v4, .retAddr 0, .retAddr 0] [.int (0 : Int32)] (sm_hp r237.2) [] rfl (sm_on) ?_
                                                                            cases hf
                                                                        · replace hf := sm_iff hc233 hf
                                                                          by_cases hc238 : ((xs (v4).toNatClampNeg) &&& (63 : Int32)) = (34 : Int32)
                                                                          · replace hf := sm_ift hc238 hf
                                                                            refine j_tableIn hC (off := 1049) (tgt := 1088) dL_law_39 (by rw [hc238]; decide) (by rw [hc238]; decide) (by rw [hc238]; rfl) rfl ?_
                                                                            refine j_blk hC bL_law_1088 [.retAddr 1, .ref 0, .ref 72, .ref 107, .int v4, .retAddr 0, .retAddr 0] [.ref 0] (sm_hp m) [] rfl (sm_on) ?_
                                                                            replace hf := sm_bd hf
                                                                            obtain ⟨r240, q239, hf⟩ := hf
                                                                            refine j_callV hC [] [] (tX11_lies m r240 q239) (cvL_171 rfl) dL_law_1089 rfl rfl (by decide) (by decide) rfl (Nat.le_of_ble_eq_true rfl) ?_
                                                                            show sm_At p l e room_1 s m₀ args below meth c b ba D dA _ _ _ _ _ 1092 [.retAddr 1, .ref 0, .ref 72, .ref 107, .int v4, .retAddr 0, .retAddr 0] [.int r240.1] (sm_hp r240.2)
                                                                            refine j_blk hC bL_law_1092 [.retAddr 1, .ref 0, .ref 72, .ref 107, .int v4, .retAddr 0, .retAddr 0] [.ref 72, .int r240.1] (sm_hp r240.2) [] rfl (sm_on) ?_
                                                                            replace hf := sm_bd hf
                                                                            obtain ⟨r242, q241, hf⟩ := hf
                                                                            refine j_callV hC [] [.int r240.1] (tX12_lies r240.2 r242 q241) (cvL_174 rfl) dL_law_1093 rfl rfl (by decide) (by decide) rfl (Nat.le_of_ble_eq_true rfl) ?_
                                                                            show sm_At p l e room_1 s m₀ args below meth c b ba D dA _ _ _ _ _ 1096 [.retAddr 1, .ref 0, .ref 72, .ref 107, .int v4, .retAddr 0, .retAddr 0] [.int r242.1, .int r240.1] (sm_hp r242.2)
                                                                            refine j_icmp_eq hC (tgt := 1245) dL_law_1096 rfl (fun hc => ?_) (fun hc => ?_)
                                                                            · replace hf := sm_ift hc hf
                                                                              refine j_blk hC bL_law_1245 [.retAddr 1, .ref 0, .ref 72, .ref 107, .int (v4 + (5 : Int32)), .retAddr 0, .retAddr 0] [] (sm_hp r242.2) [] rfl (sm_on) ?_
                                                                              refine j_goto hC (tgt := 23) dL_law_1248 rfl ?_
                                                                              exact sm_At.room (by omega) (by omega) (ih (v4 + (5 : Int32)) r242.2 hf)
                                                                            · replace hf := sm_iff hc hf
                                                                              refine j_blk hC bL_law_1099 [.retAddr 1, .ref 0, .ref 72, .ref 107, .int v4, .retAddr 0, .retAddr 0] [.int (0 : Int32)] (sm_hp r242.2) [] rfl (sm_on) ?_
                                                                              cases hf
                                                                          · replace hf := sm_iff hc238 hf
                                                                            by_cases hc243 : ((xs (v4).toNatClampNeg) &&& (63 : Int32)) = (35 : Int32)
                                                                            · replace hf := sm_ift hc243 hf
                                                                              refine j_tableIn hC (off := 1062) (tgt := 1101) dL_law_39 (by rw [hc243]; decide) (by rw [hc243]; decide) (by rw [hc243]; rfl) rfl ?_
                                                                              refine j_blk hC bL_law_1101 [.retAddr 1, .ref 0, .ref 72, .ref 107, .int v4, .retAddr 0, .retAddr 0] [.ref 0] (sm_hp m) [] rfl (sm_on) ?_
                                                                              replace hf := sm_bd hf
                                                                              obtain ⟨r245, q244, hf⟩ := hf
                                                                              refine j_callV hC [] [] (tX11_quarrel m r245 q244) (cvL_175 rfl) dL_law_1102 rfl rfl (by decide) (by decide) rfl (Nat.le_of_ble_eq_true rfl) ?_
                                                                              show sm_At p l e room_1 s m₀ args below meth c b ba D dA _ _ _ _ _ 1105 [.retAddr 1, .ref 0, .ref 72, .ref 107, .int v4, .retAddr 0, .retAddr 0] [.int r245.1] (sm_hp r245.2)
                                                                              refine j_blk hC bL_law_1105 [.retAddr 1, .ref 0, .ref 72, .ref 107, .int v4, .retAddr 0, .retAddr 0] [.ref 72, .int r245.1] (sm_hp r245.2) [] rfl (sm_on) ?_
                                                                              replace hf := sm_bd hf
                                                                              obtain ⟨r247, q246, hf⟩ := hf
                                                                              refine j_callV hC [] [.int r245.1] (tX12_quarrel r245.2 r247 q246) (cvL_178 rfl) dL_law_1106 rfl rfl (by decide) (by decide) rfl (Nat.le_of_ble_eq_true rfl) ?_
                                                                              show sm_At p l e room_1 s m₀ args below meth c b ba D dA _ _ _ _ _ 1109 [.retAddr 1, .ref 0, .ref 72, .ref 107, .int v4, .retAddr 0, .retAddr 0] [.int r247.1, .int r245.1] (sm_hp r247.2)
                                                                              refine j_icmp_eq hC (tgt := 1245) dL_law_1109 rfl (fun hc => ?_) (fun hc => ?_)
                                                                              · replace hf := sm_ift hc hf
                                                                                refine j_blk hC bL_law_1245 [.retAddr 1, .ref 0, .ref 72, .ref 107, .int (v4 + (5 : Int32)), .retAddr 0, .retAddr 0] [] (sm_hp r247.2) [] rfl (sm_on) ?_
                                                                                refine j_goto hC (tgt := 23) dL_law_1248 rfl ?_
                                                                                exact sm_At.room (by omega) (by omega) (ih (v4 + (5 : Int32)) r247.2 hf)
                                                                              · replace hf := sm_iff hc hf
                                                                                refine j_blk hC bL_law_1112 [.retAddr 1, .ref 0, .ref 72, .ref 107, .int v4, .retAddr 0, .retAddr 0] [.int (0 : Int32)] (sm_hp r247.2) [] rfl (sm_on) ?_
                                                                                cases hf
                                                                            · replace hf := sm_iff hc243 hf
                                                                              by_cases hc248 : ((xs (v4).toNatClampNeg) &&& (63 : Int32)) = (36 : Int32)
                                                                              · replace hf := sm_ift hc248 hf
                                                                                refine j_tableIn hC (off := 1075) (tgt := 1114) dL_law_39 (by rw [hc248]; decide) (by rw [hc248]; decide) (by rw [hc248]; rfl) rfl ?_
                                                                                refine j_blk hC bL_law_1114 [.retAddr 1, .ref 0, .ref 72, .ref 107, .int v4, .retAddr 0, .retAddr 0] [.int (v4 + (1 : Int32)), .retAddr 1, .ref 0] (sm_hp m) [] rfl (sm_on) ?_
                                                                                replace hf := sm_ck hf
                                                                                obtain ⟨q249, hf⟩ := hf
                                                                                refine j_sld hC hS hbl hbb dL_law_1120 q249 ?_
                                                                                replace hf := sm_bd hf
                                                                                obtain ⟨r251, q250, hf⟩ := hf
                                                                                refine j_callV hC [.int (xs (v4 + (1 : Int32)).toNatClampNeg)] [] (tX11_keep (xs (v4 + (1 : Int32)).toNatClampNeg) m r251 q250) (cvL_179 rfl) dL_law_1121 rfl rfl (by decide) (by decide) rfl (Nat.le_of_ble_eq_true rfl) ?_
                                                                                show sm_At p l e room_1 s m₀ args below meth c b ba D dA _ _ _ _ _ 1124 [.retAddr 1, .ref 0, .ref 72, .ref 107, .int v4, .retAddr 0, .retAddr 0] [.int r251.1] (sm_hp r251.2)
                                                                                refine j_blk hC bL_law_1124 [.retAddr 1, .ref 0, .ref 72, .ref 107, .int v4, .retAddr 0, .retAddr 0] [.int (v4 + (1 : Int32)), .retAddr 1, .ref 72, .int r251.1] (sm_hp r251.2) [] rfl (sm_on) ?_
                                                                                replace hf := sm_ck hf
                                                                                obtain ⟨q252, hf⟩ := hf
                                                                                refine j_sld hC hS hbl hbb dL_law_1130 q252 ?_
                                                                                replace hf := sm_bd hf
                                                                                obtain ⟨r254, q253, hf⟩ := hf
                                                                                refine j_callV hC [.int (xs (v4 + (1 : Int32)).toNatClampNeg)] [.int r251.1] (tX12_keep (xs (v4 + (1 : Int32)).toNatClampNeg) r251.2 r254 q253) (cvL_182 rfl) dL_law_1131 rfl rfl (by decide) (by decide) rfl (Nat.le_of_ble_eq_true rfl) ?_
                                                                                show sm_At p l e room_1 s m₀ args below meth c b ba D dA _ _ _ _ _ 1134 [.retAddr 1, .ref 0, .ref 72, .ref 107, .int v4, .retAddr 0, .retAddr 0] [.int r254.1, .int r251.1] (sm_hp r254.2)
                                                                                refine j_icmp_eq hC (tgt := 1245) dL_law_1134 rfl (fun hc => ?_) (fun hc => ?_)
                                                                                · replace hf := sm_ift hc hf
                                                                                  refine j_blk hC bL_law_1245 [.retAddr 1, .ref 0, .ref 72, .ref 107, .int (v4 + (5 : Int32)), .retAddr 0, .retAddr 0] [] (sm_hp r254.2) [] rfl (sm_on) ?_
                                                                                  refine j_goto hC (tgt := 23) dL_law_1248 rfl ?_
                                                                                  exact sm_At.room (by omega) (by omega) (ih (v4 + (5 : Int32)) r254.2 hf)
                                                                                · replace hf := sm_iff hc hf
                                                                                  refine j_blk hC bL_law_1137 [.retAddr 1, .ref 0, .ref 72, .ref 107, .int v4, .retAddr 0, .retAddr 0] [.int (0 : Int32)] (sm_hp r254.2) [] rfl (sm_on) ?_
                                                                                  cases hf
                                                                              · replace hf := sm_iff hc248 hf
                                                                                by_cases hc255 : ((xs (v4).toNatClampNeg) &&& (63 : Int32)) = (37 : Int32)
                                                                                · replace hf := sm_ift hc255 hf
                                                                                  refine j_tableIn hC (off := 1100) (tgt := 1139) dL_law_39 (by rw [hc255]; decide) (by rw [hc255]; decide) (by rw [hc255]; rfl) rfl ?_
                                                                                  refine j_blk hC bL_law_1139 [.retAddr 1, .ref 0, .ref 72, .ref 107, .int v4, .retAddr 0, .retAddr 0] [.int (v4 + (1 : Int32)), .retAddr 1, .ref 0] (sm_hp m) [] rfl (sm_on) ?_
                                                                                  replace hf := sm_ck hf
                                                                                  obtain ⟨q256, hf⟩ := hf
                                                                                  refine j_sld hC hS hbl hbb dL_law_1145 q256 ?_
                                                                                  replace hf := sm_bd hf
                                                                                  obtain ⟨r258, q257, hf⟩ := hf
                                                                                  refine j_callV hC [.int (xs (v4 + (1 : Int32)).toNatClampNeg)] [] (tX11_again (xs (v4 + (1 : Int32)).toNatClampNeg) m r258 q257) (cvL_183 rfl) dL_law_1146 rfl rfl (by decide) (by decide) rfl (Nat.le_of_ble_eq_true rfl) ?_
                                                                                  show sm_At p l e room_1 s m₀ args below meth c b ba D dA _ _ _ _ _ 1149 [.retAddr 1, .ref 0, .ref 72, .ref 107, .int v4, .retAddr 0, .retAddr 0] [.int r258.1] (sm_hp r258.2)
                                                                                  refine j_blk hC bL_law_1149 [.retAddr 1, .ref 0, .ref 72, .ref 107, .int v4, .retAddr 0, .retAddr 0] [.int (v4 + (1 : Int32)), .retAddr 1, .ref 72, .int r258.1] (sm_hp r258.2) [] rfl (sm_on) ?_
                                                                                  replace hf := sm_ck hf
                                                                                  obtain ⟨q259, hf⟩ := hf
                                                                                  refine j_sld hC hS hbl hbb dL_law_1155 q259 ?_
                                                                                  replace hf := sm_bd hf
                                                                                  obtain ⟨r261, q260, hf⟩ := hf
                                                                                  refine j_callV hC [.int (xs (v4 + (1 : Int32)).toNatClampNeg)] [.int r258.1] (tX12_again (xs (v4 + (1 : Int32)).toNatClampNeg) r258.2 r261 q260) (cvL_186 rfl) dL_law_1156 rfl rfl (by decide) (by decide) rfl (Nat.le_of_ble_eq_true rfl) ?_
                                                                                  show sm_At p l e room_1 s m₀ args below meth c b ba D dA _ _ _ _ _ 1159 [.retAddr 1, .ref 0, .ref 72, .ref 107, .int v4, .retAddr 0, .retAddr 0] [.int r261.1, .int r258.1] (sm_hp r261.2)
                                                                                  refine j_icmp_eq hC (tgt := 1245) dL_law_1159 rfl (fun hc => ?_) (fun hc => ?_)
                                                                                  · replace hf := sm_ift hc hf
                                                                                    refine j_blk hC bL_law_1245 [.retAddr 1, .ref 0, .ref 72, .ref 107, .int (v4 + (5 : Int32)), .retAddr 0, .retAddr 0] [] (sm_hp r261.2) [] rfl (sm_on) ?_
                                                                                    refine j_goto hC (tgt := 23) dL_law_1248 rfl ?_
                                                                                    exact sm_At.room (by omega) (by omega) (ih (v4 + (5 : Int32)) r261.2 hf)
                                                                                  · replace hf := sm_iff hc hf
                                                                                    refine j_blk hC bL_law_1162 [.retAddr 1, .ref 0, .ref 72, .ref 107, .int v4, .retAddr 0, .retAddr 0] [.int (0 : Int32)] (sm_hp r261.2) [] rfl (sm_on) ?_
                                                                                    cases hf
                                                                                · replace hf := sm_iff hc255 hf
                                                                                  by_cases hc262 : ((xs (v4).toNatClampNeg) &&& (63 : Int32)) = (38 : Int32)
                                                                                  · replace hf := sm_ift hc262 hf
                                                                                    refine j_tableIn hC (off := 1125) (tgt := 1164) dL_law_39 (by rw [hc262]; decide) (by rw [hc262]; decide) (by rw [hc262]; rfl) rfl ?_
                                                                                    refine j_blk hC bL_law_1164 [.retAddr 1, .ref 0, .ref 72, .ref 107, .int v4, .retAddr 0, .retAddr 0] [.int (v4 + (1 : Int32)), .retAddr 1, .ref 0] (sm_hp m) [] rfl (sm_on) ?_
                                                                                    replace hf := sm_ck hf
                                                                                    obtain ⟨q263, hf⟩ := hf
                                                                                    refine j_sld hC hS hbl hbb dL_law_1170 q263 ?_
                                                                                    replace hf := sm_bd hf
                                                                                    obtain ⟨r265, q264, hf⟩ := hf
                                                                                    refine j_callV hC [.int (xs (v4 + (1 : Int32)).toNatClampNeg)] [] (tX11_count (xs (v4 + (1 : Int32)).toNatClampNeg) m r265 q264) (cvL_187 rfl) dL_law_1171 rfl rfl (by decide) (by decide) rfl (Nat.le_of_ble_eq_true rfl) ?_
                                                                                    show sm_At p l e room_1 s m₀ args below meth c b ba D dA _ _ _ _ _ 1174 [.retAddr 1, .ref 0, .ref 72, .ref 107, .int v4, .retAddr 0, .retAddr 0] [.int r265] (sm_hp m)
                                                                                    refine j_blk hC bL_law_1174 [.retAddr 1, .ref 0, .ref 72, .ref 107, .int v4, .retAddr 0, .retAddr 0] [.int (v4 + (1 : Int32)), .retAddr 1, .ref 72, .int r265] (sm_hp m) [] rfl (sm_on) ?_
                                                                                    replace hf := sm_ck hf
                                                                                    obtain ⟨q266, hf⟩ := hf
                                                                                    refine j_sld hC hS hbl hbb dL_law_1180 q266 ?_
                                                                                    replace hf := sm_bd hf
                                                                                    obtain ⟨r268, q267, hf⟩ := hf
                                                                                    refine j_callV hC [.int (xs (v4 + (1 : Int32)).toNatClampNeg)] [.int r265] (tX12_count (xs (v4 + (1 : Int32)).toNatClampNeg) m r268 q267) (cvL_190 rfl) dL_law_1181 rfl rfl (by decide) (by decide) rfl (Nat.le_of_ble_eq_true rfl) ?_
                                                                                    show sm_At p l e room_1 s m₀ args below meth c b ba D dA _ _ _ _ _ 1184 [.retAddr 1, .ref 0, .ref 72, .ref 107, .int v4, .retAddr 0, .retAddr 0] [.int r268.1, .int r265] (sm_hp r268.2)
                                                                                    refine j_icmp_eq hC (tgt := 1245) dL_law_1184 rfl (fun hc => ?_) (fun hc => ?_)
                                                                                    · replace hf := sm_ift hc hf
                                                                                      refine j_blk hC bL_law_1245 [.retAddr 1, .ref 0, .ref 72, .ref 107, .int (v4 + (5 : Int32)), .retAddr 0, .retAddr 0] [] (sm_hp r268.2) [] rfl (sm_on) ?_
                                                                                      refine j_goto hC (tgt := 23) dL_law_1248 rfl ?_
                                                                                      exact sm_At.room (by omega) (by omega) (ih (v4 + (5 : Int32)) r268.2 hf)
                                                                                    · replace hf := sm_iff hc hf
                                                                                      refine j_blk hC bL_law_1187 [.retAddr 1, .ref 0, .ref 72, .ref 107, .int v4, .retAddr 0, .retAddr 0] [.int (0 : Int32)] (sm_hp r268.2) [] rfl (sm_on) ?_
                                                                                      cases hf
                                                                                  · replace hf := sm_iff hc262 hf
                                                                                    by_cases hc269 : ((xs (v4).toNatClampNeg) &&& (63 : Int32)) = (39 : Int32)
                                                                                    · replace hf := sm_ift hc269 hf
                                                                                      refine j_tableIn hC (off := 1150) (tgt := 1189) dL_law_39 (by rw [hc269]; decide) (by rw [hc269]; decide) (by rw [hc269]; rfl) rfl ?_
                                                                                      refine j_blk hC bL_law_1189 [.retAddr 1, .ref 0, .ref 72, .ref 107, .int v4, .retAddr 0, .retAddr 0] [.int (v4 + (1 : Int32)), .retAddr 1, .ref 0] (sm_hp m) [] rfl (sm_on) ?_
                                                                                      replace hf := sm_ck hf
                                                                                      obtain ⟨q270, hf⟩ := hf
                                                                                      refine j_sld hC hS hbl hbb dL_law_1195 q270 ?_
                                                                                      refine j_blk hC bL_law_1196 [.retAddr 1, .ref 0, .ref 72, .ref 107, .int v4, .retAddr 0, .retAddr 0] [.ref 107, .int (xs (v4 + (1 : Int32)).toNatClampNeg), .ref 0] (sm_hp m) [] rfl (sm_on) ?_
                                                                                      replace hf := sm_bd hf
                                                                                      obtain ⟨r271, q272, hf⟩ := hf
                                                                                      refine sm_At.room (rc' := n + 1) (rs' := 6 * n + 6) (by omega) (by omega) ?_
                                                                                      refine jm_callH (n := 3) [.ref 0, .int (xs (v4 + (1 : Int32)).toNatClampNeg), .ref 107] [] (tL_row hl (xs (v4 + (1 : Int32)).toNatClampNeg) m r271 q272) hC hX ⟨by decide, by decide, by decide +kernel⟩ wmL_191 wsL_row wIL wcwL_row dL_law_1197 rfl rfl (by decide) (by decide) (Nat.le_of_ble_eq_true rfl) ?_
                                                                                      show sm_At p l e room_1 s m₀ args below meth c b ba D dA _ _ _ _ _ 1200 [.retAddr 1, .ref 0, .ref 72, .ref 107, .int v4, .retAddr 0, .retAddr 0] [.int r271.1] (sm_hp r271.2)
                                                                                      refine j_blk hC bL_law_1200 [.retAddr 1, .ref 0, .ref 72, .ref 107, .int v4, .int r271.1, .retAddr 0] [.int (v4 + (1 : Int32)), .retAddr 1, .ref 72] (sm_hp r271.2) [] rfl (sm_on) ?_
                                                                                      replace hf := sm_ck hf
                                                                                      obtain ⟨q273, hf⟩ := hf
                                                                                      refine j_sld hC hS hbl hbb dL_law_1208 q273 ?_
                                                                                      replace hf := sm_bd hf
                                                                                      obtain ⟨r275, q274, hf⟩ := hf
                                                                                      refine j_callV hC [.int (xs (v4 + (1 : Int32)).toNatClampNeg)] [] (tX12_row (xs (v4 + (1 : Int32)).toNatClampNeg) r271.2 r275 q274) (cvL_193 rfl) dL_law_1209 rfl rfl (by decide) (by decide) rfl (Nat.le_of_ble_eq_true rfl) ?_
                                                                                      show sm_At p l e room_1 s m₀ args below meth c b ba D dA _ _ _ _ _ 1212 [.retAddr 1, .ref 0, .ref 72, .ref 107, .int v4, .int r271.1, .retAddr 0] [.int r275.1] (sm_hp r275.2)
                                                                                      refine j_blk hC bL_law_1212 [.retAddr 1, .ref 0, .ref 72, .ref 107, .int v4, .int r271.1, .int r275.1] [.ref 72] (sm_hp r275.2) [] rfl (sm_on) ?_
                                                                                      replace hf := sm_bd hf
                                                                                      obtain ⟨r277, q276, hf⟩ := hf
                                                                                      refine j_callV hC [] [] (tX12_thrown r275.2 r277 q276) (cvL_46 rfl) dL_law_1215 rfl rfl (by decide) (by decide) rfl (Nat.le_of_ble_eq_true rfl) ?_
                                                                                      show sm_At p l e room_1 s m₀ args below meth c b ba D dA _ _ _ _ _ 1218 [.retAddr 1, .ref 0, .ref 72, .ref 107, .int v4, .int r271.1, .int r275.1] [.int r277] (sm_hp r275.2)
                                                                                      refine j_blk hC bL_law_1218 [.retAddr 1, .ref 0, .ref 72, .ref 107, .int v4, .int r271.1, .int r275.1] [.int r271.1, .int r277] (sm_hp r275.2) [] rfl (sm_on) ?_
                                                                                      refine j_icmp_eq hC (tgt := 1225) dL_law_1220 rfl (fun hc => ?_) (fun hc => ?_)
                                                                                      · replace hf := sm_ift hc hf
                                                                                        refine j_blk hC bL_law_1225 [.retAddr 1, .ref 0, .ref 72, .ref 107, .int v4, .int r271.1, .int r275.1] [.int r271.1] (sm_hp r275.2) [] rfl (sm_on) ?_
                                                                                        refine j_if_ne hC (tgt := 1242) dL_law_1227 rfl (fun hc => ?_) (fun hc => ?_)
                                                                                        · replace hf := sm_iff hc hf
                                                                                          refine j_goto hC (tgt := 1245) dL_law_1242 rfl ?_
                                                                                          refine j_blk hC bL_law_1245 [.retAddr 1, .ref 0, .ref 72, .ref 107, .int (v4 + (5 : Int32)), .int r271.1, .int r275.1] [] (sm_hp r275.2) [] rfl (sm_on) ?_
                                                                                          refine j_goto hC (tgt := 23) dL_law_1248 rfl ?_
                                                                                          refine j_wk hC [true, true, true, true, true, false, false] ?_
                                                                                          exact sm_At.room (by omega) (by omega) (ih (v4 + (5 : Int32)) r275.2 hf)
                                                                                        · replace hf := sm_ift hc hf
                                                                                          refine j_blk hC bL_law_1230 [.retAddr 1, .ref 0, .ref 72, .ref 107, .int v4, .int r271.1, .int r275.1] [.int (lg_cmp (r275.2.2 107 0) (r275.1).toInt64)] (sm_hp r275.2) [((0 : Int32), 1)] rfl (sm_oc (by decide) (sm_on)) ?_
                                                                                          refine j_if_eq hC (tgt := 1242) dL_law_1237 rfl (fun hc => ?_) (fun hc => ?_)
                                                                                          · replace hf := sm_ift hc hf
                                                                                            refine j_goto hC (tgt := 1245) dL_law_1242 rfl ?_
                                                                                            refine j_blk hC bL_law_1245 [.retAddr 1, .ref 0, .ref 72, .ref 107, .int (v4 + (5 : Int32)), .int r271.1, .int r275.1] [] (sm_hp r275.2) [] rfl (sm_on) ?_
                                                                                            refine j_goto hC (tgt := 23) dL_law_1248 rfl ?_
                                                                                            refine j_wk hC [true, true, true, true, true, false, false] ?_
                                                                                            exact sm_At.room (by omega) (by omega) (ih (v4 + (5 : Int32)) r275.2 hf)
                                                                                          · replace hf := sm_iff hc hf
                                                                                            refine j_blk hC bL_law_1240 [.retAddr 1, .ref 0, .ref 72, .ref 107, .int v4, .int r271.1, .int r275.1] [.int (0 : Int32)] (sm_hp r275.2) [] rfl (sm_on) ?_
                                                                                            cases hf
                                                                                      · replace hf := sm_iff hc hf
                                                                                        refine j_blk hC bL_law_1223 [.retAddr 1, .ref 0, .ref 72, .ref 107, .int v4, .int r271.1, .int r275.1] [.int (0 : Int32)] (sm_hp r275.2) [] rfl (sm_on) ?_
                                                                                        cases hf
                                                                                    · replace hf := sm_iff hc269 hf
                                                                                      refine j_tableOut hC (tgt := 1245) dL_law_39 (sm_tab (n := 39) [(0 : Int32), (1 : Int32), (2 : Int32), (3 : Int32), (4 : Int32), (5 : Int32), (6 : Int32), (7 : Int32), (8 : Int32), (9 : Int32), (10 : Int32), (11 : Int32), (12 : Int32), (13 : Int32), (14 : Int32), (15 : Int32), (16 : Int32), (17 : Int32), (18 : Int32), (19 : Int32), (20 : Int32), (21 : Int32), (22 : Int32), (23 : Int32), (24 : Int32), (25 : Int32), (26 : Int32), (27 : Int32), (28 : Int32), (29 : Int32), (30 : Int32), (31 : Int32), (32 : Int32), (33 : Int32), (34 : Int32), (35 : Int32), (36 : Int32), (37 : Int32), (38 : Int32), (39 : Int32)] (by decide) (List.forall_mem_cons.mpr ⟨hc2, List.forall_mem_cons.mpr ⟨hc9, List.forall_mem_cons.mpr ⟨hc16, List.forall_mem_cons.mpr ⟨hc21, List.forall_mem_cons.mpr ⟨hc32, List.forall_mem_cons.mpr ⟨hc41, List.forall_mem_cons.mpr ⟨hc52, List.forall_mem_cons.mpr ⟨hc65, List.forall_mem_cons.mpr ⟨hc72, List.forall_mem_cons.mpr ⟨hc79, List.forall_mem_cons.mpr ⟨hc84, List.forall_mem_cons.mpr ⟨hc91, List.forall_mem_cons.mpr ⟨hc96, List.forall_mem_cons.mpr ⟨hc103, List.forall_mem_cons.mpr ⟨hc110, List.forall_mem_cons.mpr ⟨hc117, List.forall_mem_cons.mpr ⟨hc122, List.forall_mem_cons.mpr ⟨hc129, List.forall_mem_cons.mpr ⟨hc134, List.forall_mem_cons.mpr ⟨hc139, List.forall_mem_cons.mpr ⟨hc146, List.forall_mem_cons.mpr ⟨hc151, List.forall_mem_cons.mpr ⟨hc156, List.forall_mem_cons.mpr ⟨hc161, List.forall_mem_cons.mpr ⟨hc170, List.forall_mem_cons.mpr ⟨hc179, List.forall_mem_cons.mpr ⟨hc188, List.forall_mem_cons.mpr ⟨hc193, List.forall_mem_cons.mpr ⟨hc202, List.forall_mem_cons.mpr ⟨hc209, List.forall_mem_cons.mpr ⟨hc218, List.forall_mem_cons.mpr ⟨hc223, List.forall_mem_cons.mpr ⟨hc228, List.forall_mem_cons.mpr ⟨hc233, List.forall_mem_cons.mpr ⟨hc238, List.forall_mem_cons.mpr ⟨hc243, List.forall_mem_cons.mpr ⟨hc248, List.forall_mem_cons.mpr ⟨hc255, List.forall_mem_cons.mpr ⟨hc262, List.forall_mem_cons.mpr ⟨hc269, fun _ h => absurd h List.not_mem_nil⟩⟩⟩⟩⟩⟩⟩⟩⟩⟩⟩⟩⟩⟩⟩⟩⟩⟩⟩⟩⟩⟩⟩⟩⟩⟩⟩⟩⟩⟩⟩⟩⟩⟩⟩⟩⟩⟩⟩⟩)) rfl ?_
                                                                                      refine j_blk hC bL_law_1245 [.retAddr 1, .ref 0, .ref 72, .ref 107, .int (v4 + (5 : Int32)), .retAddr 0, .retAddr 0] [] (sm_hp m) [] rfl (sm_on) ?_
                                                                                      refine j_goto hC (tgt := 23) dL_law_1248 rfl ?_
                                                                                      exact sm_At.room (by omega) (by omega) (ih (v4 + (5 : Int32)) m hf)
