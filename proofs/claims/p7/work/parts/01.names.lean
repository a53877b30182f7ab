theorem sm_wide : True := by
  have _h := @Jvm.Stand.multianewarray2F
  trivial
-- ===== PART A: goes FIRST, ahead of the names: the tables' words, and 'selects' of the private methods out of them =====
/-- a private method of a class that the tables say can be made, by its rows of tables_1 -/
def lw_okq (q : MethodName × Nat) : Prop := (q.1.cls ≠ "java/lang/invoke/MethodHandle" ∧ q.1.cls ≠ "java/lang/invoke/VarHandle") ∧ Cond.instantiable q.1.cls q.2 ∈ tables_1 ∧ Cond.privateMethod q.1 ∈ tables_1 ∧ Cond.instanceMethod q.1 ∈ tables_1
theorem lw_p0 : lw_okq (⟨"NoHedgeTwice$Text", "readLine", "(LNoHedgeTwice$Land;)Z"⟩, 6) := ⟨⟨by decide +kernel, by decide +kernel⟩, List.mem_of_getElem? (i := 29) (by decide +kernel), List.mem_of_getElem? (i := 414) (by decide +kernel), List.mem_of_getElem? (i := 415) (by decide +kernel)⟩
theorem lw_p1 : lw_okq (⟨"NoHedgeTwice$Text", "signAt", "()I"⟩, 6) := ⟨⟨by decide +kernel, by decide +kernel⟩, List.mem_of_getElem? (i := 29) (by decide +kernel), List.mem_of_getElem? (i := 418) (by decide +kernel), List.mem_of_getElem? (i := 419) (by decide +kernel)⟩
theorem lw_p2 : lw_okq (⟨"NoHedgeTwice$Text", "readCorner", "(LNoHedgeTwice$Land;)Z"⟩, 6) := ⟨⟨by decide +kernel, by decide +kernel⟩, List.mem_of_getElem? (i := 29) (by decide +kernel), List.mem_of_getElem? (i := 422) (by decide +kernel), List.mem_of_getElem? (i := 423) (by decide +kernel)⟩
theorem lw_p3 : lw_okq (⟨"NoHedgeTwice$Text", "digit", "(I)I"⟩, 6) := ⟨⟨by decide +kernel, by decide +kernel⟩, List.mem_of_getElem? (i := 29) (by decide +kernel), List.mem_of_getElem? (i := 426) (by decide +kernel), List.mem_of_getElem? (i := 427) (by decide +kernel)⟩
theorem lw_p4 : lw_okq (⟨"NoHedgeTwice$Text", "readHedge", "(LNoHedgeTwice$Land;)Z"⟩, 6) := ⟨⟨by decide +kernel, by decide +kernel⟩, List.mem_of_getElem? (i := 29) (by decide +kernel), List.mem_of_getElem? (i := 430) (by decide +kernel), List.mem_of_getElem? (i := 431) (by decide +kernel)⟩
theorem lw_p5 : lw_okq (⟨"NoHedgeTwice$Text", "cornerLetter", "(I)I"⟩, 6) := ⟨⟨by decide +kernel, by decide +kernel⟩, List.mem_of_getElem? (i := 29) (by decide +kernel), List.mem_of_getElem? (i := 434) (by decide +kernel), List.mem_of_getElem? (i := 435) (by decide +kernel)⟩
theorem lw_p6 : lw_okq (⟨"NoHedgeTwice$Text", "longDigits", "()I"⟩, 6) := ⟨⟨by decide +kernel, by decide +kernel⟩, List.mem_of_getElem? (i := 29) (by decide +kernel), List.mem_of_getElem? (i := 438) (by decide +kernel), List.mem_of_getElem? (i := 439) (by decide +kernel)⟩
theorem lw_p7 : lw_okq (⟨"NoHedgeTwice$Text", "skip", "(C)Z"⟩, 6) := ⟨⟨by decide +kernel, by decide +kernel⟩, List.mem_of_getElem? (i := 29) (by decide +kernel), List.mem_of_getElem? (i := 442) (by decide +kernel), List.mem_of_getElem? (i := 443) (by decide +kernel)⟩
theorem lw_p8 : lw_okq (⟨"NoHedgeTwice$Text", "marked", "(CI)I"⟩, 6) := ⟨⟨by decide +kernel, by decide +kernel⟩, List.mem_of_getElem? (i := 29) (by decide +kernel), List.mem_of_getElem? (i := 446) (by decide +kernel), List.mem_of_getElem? (i := 447) (by decide +kernel)⟩
theorem lw_p9 : lw_okq (⟨"NoHedgeTwice", "setDigit", "([III)I"⟩, 13) := ⟨⟨by decide +kernel, by decide +kernel⟩, List.mem_of_getElem? (i := 21) (by decide +kernel), List.mem_of_getElem? (i := 469) (by decide +kernel), List.mem_of_getElem? (i := 470) (by decide +kernel)⟩
theorem lw_p10 : lw_okq (⟨"NoHedgeTwice", "setNights", "(I)I"⟩, 13) := ⟨⟨by decide +kernel, by decide +kernel⟩, List.mem_of_getElem? (i := 21) (by decide +kernel), List.mem_of_getElem? (i := 477) (by decide +kernel), List.mem_of_getElem? (i := 478) (by decide +kernel)⟩
theorem lw_p11 : lw_okq (⟨"NoHedgeTwice", "setFrost", "(I)I"⟩, 13) := ⟨⟨by decide +kernel, by decide +kernel⟩, List.mem_of_getElem? (i := 21) (by decide +kernel), List.mem_of_getElem? (i := 481) (by decide +kernel), List.mem_of_getElem? (i := 482) (by decide +kernel)⟩
theorem lw_p12 : lw_okq (⟨"NoHedgeTwice", "scheduleBoth", "()Z"⟩, 13) := ⟨⟨by decide +kernel, by decide +kernel⟩, List.mem_of_getElem? (i := 21) (by decide +kernel), List.mem_of_getElem? (i := 608) (by decide +kernel), List.mem_of_getElem? (i := 609) (by decide +kernel)⟩
theorem lw_p13 : lw_okq (⟨"NoHedgeTwice", "walkersCorner", "()I"⟩, 13) := ⟨⟨by decide +kernel, by decide +kernel⟩, List.mem_of_getElem? (i := 21) (by decide +kernel), List.mem_of_getElem? (i := 640) (by decide +kernel), List.mem_of_getElem? (i := 641) (by decide +kernel)⟩
theorem lw_p14 : lw_okq (⟨"NoHedgeTwice$Land", "holdsAll", "(II)Z"⟩, 14) := ⟨⟨by decide +kernel, by decide +kernel⟩, List.mem_of_getElem? (i := 57) (by decide +kernel), List.mem_of_getElem? (i := 685) (by decide +kernel), List.mem_of_getElem? (i := 686) (by decide +kernel)⟩
theorem lw_p15 : lw_okq (⟨"NoHedgeTwice$Rounds", "sortEnds", "(LNoHedgeTwice$Land;)V"⟩, 3) := ⟨⟨by decide +kernel, by decide +kernel⟩, List.mem_of_getElem? (i := 214) (by decide +kernel), List.mem_of_getElem? (i := 716) (by decide +kernel), List.mem_of_getElem? (i := 717) (by decide +kernel)⟩
def lw_privs_1 : List (MethodName × Nat) := [(⟨"NoHedgeTwice$Text", "readLine", "(LNoHedgeTwice$Land;)Z"⟩, 6), (⟨"NoHedgeTwice$Text", "signAt", "()I"⟩, 6), (⟨"NoHedgeTwice$Text", "readCorner", "(LNoHedgeTwice$Land;)Z"⟩, 6), (⟨"NoHedgeTwice$Text", "digit", "(I)I"⟩, 6), (⟨"NoHedgeTwice$Text", "readHedge", "(LNoHedgeTwice$Land;)Z"⟩, 6), (⟨"NoHedgeTwice$Text", "cornerLetter", "(I)I"⟩, 6), (⟨"NoHedgeTwice$Text", "longDigits", "()I"⟩, 6), (⟨"NoHedgeTwice$Text", "skip", "(C)Z"⟩, 6), (⟨"NoHedgeTwice$Text", "marked", "(CI)I"⟩, 6), (⟨"NoHedgeTwice", "setDigit", "([III)I"⟩, 13), (⟨"NoHedgeTwice", "setNights", "(I)I"⟩, 13), (⟨"NoHedgeTwice", "setFrost", "(I)I"⟩, 13), (⟨"NoHedgeTwice", "scheduleBoth", "()Z"⟩, 13), (⟨"NoHedgeTwice", "walkersCorner", "()I"⟩, 13), (⟨"NoHedgeTwice$Land", "holdsAll", "(II)Z"⟩, 14), (⟨"NoHedgeTwice$Rounds", "sortEnds", "(LNoHedgeTwice$Land;)V"⟩, 3)]
theorem lw_r1 : ∀ q ∈ lw_privs_1, lw_okq q := List.forall_mem_cons.mpr ⟨lw_p0, List.forall_mem_cons.mpr ⟨lw_p1, List.forall_mem_cons.mpr ⟨lw_p2, List.forall_mem_cons.mpr ⟨lw_p3, List.forall_mem_cons.mpr ⟨lw_p4, List.forall_mem_cons.mpr ⟨lw_p5, List.forall_mem_cons.mpr ⟨lw_p6, List.forall_mem_cons.mpr ⟨lw_p7, List.forall_mem_cons.mpr ⟨lw_p8, List.forall_mem_cons.mpr ⟨lw_p9, List.forall_mem_cons.mpr ⟨lw_p10, List.forall_mem_cons.mpr ⟨lw_p11, List.forall_mem_cons.mpr ⟨lw_p12, List.forall_mem_cons.mpr ⟨lw_p13, List.forall_mem_cons.mpr ⟨lw_p14, List.forall_mem_cons.mpr ⟨lw_p15, fun _ h => absurd h List.not_mem_nil⟩⟩⟩⟩⟩⟩⟩⟩⟩⟩⟩⟩⟩⟩⟩⟩
theorem lw_p16 : lw_okq (⟨"NoHedgeTwice$Rounds", "isBalanced", "(LNoHedgeTwice$Land;I)Z"⟩, 3) := ⟨⟨by decide +kernel, by decide +kernel⟩, List.mem_of_getElem? (i := 214) (by decide +kernel), List.mem_of_getElem? (i := 721) (by decide +kernel), List.mem_of_getElem? (i := 722) (by decide +kernel)⟩
theorem lw_p17 : lw_okq (⟨"NoHedgeTwice$Rounds", "costOf", "(LNoHedgeTwice$Land;II)I"⟩, 3) := ⟨⟨by decide +kernel, by decide +kernel⟩, List.mem_of_getElem? (i := 214) (by decide +kernel), List.mem_of_getElem? (i := 740) (by decide +kernel), List.mem_of_getElem? (i := 741) (by decide +kernel)⟩
theorem lw_p18 : lw_okq (⟨"NoHedgeTwice$Rounds", "costWithPair", "(LNoHedgeTwice$Land;IIII)I"⟩, 3) := ⟨⟨by decide +kernel, by decide +kernel⟩, List.mem_of_getElem? (i := 214) (by decide +kernel), List.mem_of_getElem? (i := 752) (by decide +kernel), List.mem_of_getElem? (i := 753) (by decide +kernel)⟩
theorem lw_p19 : lw_okq (⟨"NoHedgeTwice$Rounds", "tellPairs", "(LNoHedgeTwice$Land;IILNoHedgeTwice$Row;)V"⟩, 3) := ⟨⟨by decide +kernel, by decide +kernel⟩, List.mem_of_getElem? (i := 214) (by decide +kernel), List.mem_of_getElem? (i := 765) (by decide +kernel), List.mem_of_getElem? (i := 766) (by decide +kernel)⟩
theorem lw_p20 : lw_okq (⟨"NoHedgeTwice$Rounds", "partnerOf", "(LNoHedgeTwice$Land;III)I"⟩, 3) := ⟨⟨by decide +kernel, by decide +kernel⟩, List.mem_of_getElem? (i := 214) (by decide +kernel), List.mem_of_getElem? (i := 769) (by decide +kernel), List.mem_of_getElem? (i := 770) (by decide +kernel)⟩
theorem lw_p21 : lw_okq (⟨"NoHedgeTwice", "mostWorth", "(IIZ)I"⟩, 13) := ⟨⟨by decide +kernel, by decide +kernel⟩, List.mem_of_getElem? (i := 21) (by decide +kernel), List.mem_of_getElem? (i := 782) (by decide +kernel), List.mem_of_getElem? (i := 783) (by decide +kernel)⟩
theorem lw_p22 : lw_okq (⟨"NoHedgeTwice$Trips", "extend", "(LNoHedgeTwice$Land;III)V"⟩, 2) := ⟨⟨by decide +kernel, by decide +kernel⟩, List.mem_of_getElem? (i := 247) (by decide +kernel), List.mem_of_getElem? (i := 797) (by decide +kernel), List.mem_of_getElem? (i := 798) (by decide +kernel)⟩
theorem lw_p23 : lw_okq (⟨"NoHedgeTwice$GateWalk", "layPaths", "(LNoHedgeTwice$Land;)V"⟩, 7) := ⟨⟨by decide +kernel, by decide +kernel⟩, List.mem_of_getElem? (i := 262) (by decide +kernel), List.mem_of_getElem? (i := 842) (by decide +kernel), List.mem_of_getElem? (i := 843) (by decide +kernel)⟩
theorem lw_p24 : lw_okq (⟨"NoHedgeTwice$GateWalk", "shortenPaths", "(LNoHedgeTwice$Land;)V"⟩, 7) := ⟨⟨by decide +kernel, by decide +kernel⟩, List.mem_of_getElem? (i := 262) (by decide +kernel), List.mem_of_getElem? (i := 849) (by decide +kernel), List.mem_of_getElem? (i := 850) (by decide +kernel)⟩
theorem lw_p25 : lw_okq (⟨"NoHedgeTwice$GateWalk", "numberInPart", "(I)V"⟩, 7) := ⟨⟨by decide +kernel, by decide +kernel⟩, List.mem_of_getElem? (i := 262) (by decide +kernel), List.mem_of_getElem? (i := 853) (by decide +kernel), List.mem_of_getElem? (i := 854) (by decide +kernel)⟩
theorem lw_p26 : lw_okq (⟨"NoHedgeTwice$GateWalk", "partAfter", "(LNoHedgeTwice$Land;II)I"⟩, 7) := ⟨⟨by decide +kernel, by decide +kernel⟩, List.mem_of_getElem? (i := 262) (by decide +kernel), List.mem_of_getElem? (i := 861) (by decide +kernel), List.mem_of_getElem? (i := 862) (by decide +kernel)⟩
theorem lw_p27 : lw_okq (⟨"NoHedgeTwice$GateWalk", "placeOf", "(II)I"⟩, 7) := ⟨⟨by decide +kernel, by decide +kernel⟩, List.mem_of_getElem? (i := 262) (by decide +kernel), List.mem_of_getElem? (i := 866) (by decide +kernel), List.mem_of_getElem? (i := 867) (by decide +kernel)⟩
theorem lw_p28 : lw_okq (⟨"NoHedgeTwice$GateWalk", "bestOn", "(LNoHedgeTwice$Land;II)I"⟩, 7) := ⟨⟨by decide +kernel, by decide +kernel⟩, List.mem_of_getElem? (i := 262) (by decide +kernel), List.mem_of_getElem? (i := 870) (by decide +kernel), List.mem_of_getElem? (i := 871) (by decide +kernel)⟩
theorem lw_p29 : lw_okq (⟨"NoHedgeTwice$GateWalk", "minutesBy", "(LNoHedgeTwice$Land;IIII)I"⟩, 7) := ⟨⟨by decide +kernel, by decide +kernel⟩, List.mem_of_getElem? (i := 262) (by decide +kernel), List.mem_of_getElem? (i := 874) (by decide +kernel), List.mem_of_getElem? (i := 875) (by decide +kernel)⟩
theorem lw_p30 : lw_okq (⟨"NoHedgeTwice$GateWalk", "endsOfBest", "(LNoHedgeTwice$Land;III)I"⟩, 7) := ⟨⟨by decide +kernel, by decide +kernel⟩, List.mem_of_getElem? (i := 262) (by decide +kernel), List.mem_of_getElem? (i := 886) (by decide +kernel), List.mem_of_getElem? (i := 887) (by decide +kernel)⟩
theorem lw_p31 : lw_okq (⟨"NoHedgeTwice$Ears", "all", "()I"⟩, 6) := ⟨⟨by decide +kernel, by decide +kernel⟩, List.mem_of_getElem? (i := 294) (by decide +kernel), List.mem_of_getElem? (i := 911) (by decide +kernel), List.mem_of_getElem? (i := 912) (by decide +kernel)⟩
def lw_privs_2 : List (MethodName × Nat) := [(⟨"NoHedgeTwice$Rounds", "isBalanced", "(LNoHedgeTwice$Land;I)Z"⟩, 3), (⟨"NoHedgeTwice$Rounds", "costOf", "(LNoHedgeTwice$Land;II)I"⟩, 3), (⟨"NoHedgeTwice$Rounds", "costWithPair", "(LNoHedgeTwice$Land;IIII)I"⟩, 3), (⟨"NoHedgeTwice$Rounds", "tellPairs", "(LNoHedgeTwice$Land;IILNoHedgeTwice$Row;)V"⟩, 3), (⟨"NoHedgeTwice$Rounds", "partnerOf", "(LNoHedgeTwice$Land;III)I"⟩, 3), (⟨"NoHedgeTwice", "mostWorth", "(IIZ)I"⟩, 13), (⟨"NoHedgeTwice$Trips", "extend", "(LNoHedgeTwice$Land;III)V"⟩, 2), (⟨"NoHedgeTwice$GateWalk", "layPaths", "(LNoHedgeTwice$Land;)V"⟩, 7), (⟨"NoHedgeTwice$GateWalk", "shortenPaths", "(LNoHedgeTwice$Land;)V"⟩, 7), (⟨"NoHedgeTwice$GateWalk", "numberInPart", "(I)V"⟩, 7), (⟨"NoHedgeTwice$GateWalk", "partAfter", "(LNoHedgeTwice$Land;II)I"⟩, 7), (⟨"NoHedgeTwice$GateWalk", "placeOf", "(II)I"⟩, 7), (⟨"NoHedgeTwice$GateWalk", "bestOn", "(LNoHedgeTwice$Land;II)I"⟩, 7), (⟨"NoHedgeTwice$GateWalk", "minutesBy", "(LNoHedgeTwice$Land;IIII)I"⟩, 7), (⟨"NoHedgeTwice$GateWalk", "endsOfBest", "(LNoHedgeTwice$Land;III)I"⟩, 7), (⟨"NoHedgeTwice$Ears", "all", "()I"⟩, 6)]
theorem lw_r2 : ∀ q ∈ lw_privs_2, lw_okq q := List.forall_mem_cons.mpr ⟨lw_p16, List.forall_mem_cons.mpr ⟨lw_p17, List.forall_mem_cons.mpr ⟨lw_p18, List.forall_mem_cons.mpr ⟨lw_p19, List.forall_mem_cons.mpr ⟨lw_p20, List.forall_mem_cons.mpr ⟨lw_p21, List.forall_mem_cons.mpr ⟨lw_p22, List.forall_mem_cons.mpr ⟨lw_p23, List.forall_mem_cons.mpr ⟨lw_p24, List.forall_mem_cons.mpr ⟨lw_p25, List.forall_mem_cons.mpr ⟨lw_p26, List.forall_mem_cons.mpr ⟨lw_p27, List.forall_mem_cons.mpr ⟨lw_p28, List.forall_mem_cons.mpr ⟨lw_p29, List.forall_mem_cons.mpr ⟨lw_p30, List.forall_mem_cons.mpr ⟨lw_p31, fun _ h => absurd h List.not_mem_nil⟩⟩⟩⟩⟩⟩⟩⟩⟩⟩⟩⟩⟩⟩⟩⟩
theorem lw_p32 : lw_okq (⟨"NoHedgeTwice$Ears", "allHold", "(LNoHedgeTwice$Land;II)Z"⟩, 6) := ⟨⟨by decide +kernel, by decide +kernel⟩, List.mem_of_getElem? (i := 294) (by decide +kernel), List.mem_of_getElem? (i := 915) (by decide +kernel), List.mem_of_getElem? (i := 916) (by decide +kernel)⟩
theorem lw_p33 : lw_okq (⟨"NoHedgeTwice$Ears", "isLie", "(LNoHedgeTwice$Land;II)Z"⟩, 6) := ⟨⟨by decide +kernel, by decide +kernel⟩, List.mem_of_getElem? (i := 294) (by decide +kernel), List.mem_of_getElem? (i := 919) (by decide +kernel), List.mem_of_getElem? (i := 920) (by decide +kernel)⟩
theorem lw_p34 : lw_okq (⟨"NoHedgeTwice$Ears", "isFound", "(I)Z"⟩, 6) := ⟨⟨by decide +kernel, by decide +kernel⟩, List.mem_of_getElem? (i := 294) (by decide +kernel), List.mem_of_getElem? (i := 941) (by decide +kernel), List.mem_of_getElem? (i := 942) (by decide +kernel)⟩
theorem lw_p35 : lw_okq (⟨"NoHedgeTwice$Ears", "liesOf", "(LNoHedgeTwice$Land;I)I"⟩, 6) := ⟨⟨by decide +kernel, by decide +kernel⟩, List.mem_of_getElem? (i := 294) (by decide +kernel), List.mem_of_getElem? (i := 963) (by decide +kernel), List.mem_of_getElem? (i := 964) (by decide +kernel)⟩
theorem lw_p36 : lw_okq (⟨"NoHedgeTwice$Ears", "hasWay", "(LNoHedgeTwice$Land;I)Z"⟩, 6) := ⟨⟨by decide +kernel, by decide +kernel⟩, List.mem_of_getElem? (i := 294) (by decide +kernel), List.mem_of_getElem? (i := 976) (by decide +kernel), List.mem_of_getElem? (i := 977) (by decide +kernel)⟩
theorem lw_p37 : lw_okq (⟨"java/lang/Throwable", "fillInStackTrace", "(I)Ljava/lang/Throwable;"⟩, 6) := ⟨⟨by decide +kernel, by decide +kernel⟩, List.mem_of_getElem? (i := 1040) (by decide +kernel), List.mem_of_getElem? (i := 1038) (by decide +kernel), List.mem_of_getElem? (i := 1039) (by decide +kernel)⟩
theorem lw_p38 : lw_okq (⟨"NoHedgeTwiceModel", "begins", "(I)I"⟩, 57) := ⟨⟨by decide +kernel, by decide +kernel⟩, List.mem_of_getElem? (i := 1104) (by decide +kernel), List.mem_of_getElem? (i := 1102) (by decide +kernel), List.mem_of_getElem? (i := 1103) (by decide +kernel)⟩
theorem lw_p39 : lw_okq (⟨"NoHedgeTwiceModel", "isAt", "(I)Z"⟩, 57) := ⟨⟨by decide +kernel, by decide +kernel⟩, List.mem_of_getElem? (i := 1104) (by decide +kernel), List.mem_of_getElem? (i := 1108) (by decide +kernel), List.mem_of_getElem? (i := 1109) (by decide +kernel)⟩
theorem lw_p40 : lw_okq (⟨"NoHedgeTwiceModel", "readsCorner", "()Z"⟩, 57) := ⟨⟨by decide +kernel, by decide +kernel⟩, List.mem_of_getElem? (i := 1104) (by decide +kernel), List.mem_of_getElem? (i := 1112) (by decide +kernel), List.mem_of_getElem? (i := 1113) (by decide +kernel)⟩
theorem lw_p41 : lw_okq (⟨"NoHedgeTwiceModel", "takes", "(I)Z"⟩, 57) := ⟨⟨by decide +kernel, by decide +kernel⟩, List.mem_of_getElem? (i := 1104) (by decide +kernel), List.mem_of_getElem? (i := 1116) (by decide +kernel), List.mem_of_getElem? (i := 1117) (by decide +kernel)⟩
theorem lw_p42 : lw_okq (⟨"NoHedgeTwiceModel", "digit", "(I)I"⟩, 57) := ⟨⟨by decide +kernel, by decide +kernel⟩, List.mem_of_getElem? (i := 1104) (by decide +kernel), List.mem_of_getElem? (i := 1123) (by decide +kernel), List.mem_of_getElem? (i := 1124) (by decide +kernel)⟩
theorem lw_p43 : lw_okq (⟨"NoHedgeTwiceModel", "isDigit", "()Z"⟩, 57) := ⟨⟨by decide +kernel, by decide +kernel⟩, List.mem_of_getElem? (i := 1104) (by decide +kernel), List.mem_of_getElem? (i := 1127) (by decide +kernel), List.mem_of_getElem? (i := 1128) (by decide +kernel)⟩
theorem lw_p44 : lw_okq (⟨"NoHedgeTwiceModel", "readsHedge", "()Z"⟩, 57) := ⟨⟨by decide +kernel, by decide +kernel⟩, List.mem_of_getElem? (i := 1104) (by decide +kernel), List.mem_of_getElem? (i := 1133) (by decide +kernel), List.mem_of_getElem? (i := 1134) (by decide +kernel)⟩
theorem lw_p45 : lw_okq (⟨"NoHedgeTwiceModel", "cornerBut", "(I)I"⟩, 57) := ⟨⟨by decide +kernel, by decide +kernel⟩, List.mem_of_getElem? (i := 1104) (by decide +kernel), List.mem_of_getElem? (i := 1137) (by decide +kernel), List.mem_of_getElem? (i := 1138) (by decide +kernel)⟩
theorem lw_p46 : lw_okq (⟨"NoHedgeTwiceModel", "number", "(II)I"⟩, 57) := ⟨⟨by decide +kernel, by decide +kernel⟩, List.mem_of_getElem? (i := 1104) (by decide +kernel), List.mem_of_getElem? (i := 1141) (by decide +kernel), List.mem_of_getElem? (i := 1142) (by decide +kernel)⟩
theorem lw_p47 : lw_okq (⟨"NoHedgeTwiceModel", "faultOf", "(IIZ)I"⟩, 57) := ⟨⟨by decide +kernel, by decide +kernel⟩, List.mem_of_getElem? (i := 1104) (by decide +kernel), List.mem_of_getElem? (i := 1145) (by decide +kernel), List.mem_of_getElem? (i := 1146) (by decide +kernel)⟩
def lw_privs_3 : List (MethodName × Nat) := [(⟨"NoHedgeTwice$Ears", "allHold", "(LNoHedgeTwice$Land;II)Z"⟩, 6), (⟨"NoHedgeTwice$Ears", "isLie", "(LNoHedgeTwice$Land;II)Z"⟩, 6), (⟨"NoHedgeTwice$Ears", "isFound", "(I)Z"⟩, 6), (⟨"NoHedgeTwice$Ears", "liesOf", "(LNoHedgeTwice$Land;I)I"⟩, 6), (⟨"NoHedgeTwice$Ears", "hasWay", "(LNoHedgeTwice$Land;I)Z"⟩, 6), (⟨"java/lang/Throwable", "fillInStackTrace", "(I)Ljava/lang/Throwable;"⟩, 6), (⟨"NoHedgeTwiceModel", "begins", "(I)I"⟩, 57), (⟨"NoHedgeTwiceModel", "isAt", "(I)Z"⟩, 57), (⟨"NoHedgeTwiceModel", "readsCorner", "()Z"⟩, 57), (⟨"NoHedgeTwiceModel", "takes", "(I)Z"⟩, 57), (⟨"NoHedgeTwiceModel", "digit", "(I)I"⟩, 57), (⟨"NoHedgeTwiceModel", "isDigit", "()Z"⟩, 57), (⟨"NoHedgeTwiceModel", "readsHedge", "()Z"⟩, 57), (⟨"NoHedgeTwiceModel", "cornerBut", "(I)I"⟩, 57), (⟨"NoHedgeTwiceModel", "number", "(II)I"⟩, 57), (⟨"NoHedgeTwiceModel", "faultOf", "(IIZ)I"⟩, 57)]
theorem lw_r3 : ∀ q ∈ lw_privs_3, lw_okq q := List.forall_mem_cons.mpr ⟨lw_p32, List.forall_mem_cons.mpr ⟨lw_p33, List.forall_mem_cons.mpr ⟨lw_p34, List.forall_mem_cons.mpr ⟨lw_p35, List.forall_mem_cons.mpr ⟨lw_p36, List.forall_mem_cons.mpr ⟨lw_p37, List.forall_mem_cons.mpr ⟨lw_p38, List.forall_mem_cons.mpr ⟨lw_p39, List.forall_mem_cons.mpr ⟨lw_p40, List.forall_mem_cons.mpr ⟨lw_p41, List.forall_mem_cons.mpr ⟨lw_p42, List.forall_mem_cons.mpr ⟨lw_p43, List.forall_mem_cons.mpr ⟨lw_p44, List.forall_mem_cons.mpr ⟨lw_p45, List.forall_mem_cons.mpr ⟨lw_p46, List.forall_mem_cons.mpr ⟨lw_p47, fun _ h => absurd h List.not_mem_nil⟩⟩⟩⟩⟩⟩⟩⟩⟩⟩⟩⟩⟩⟩⟩⟩
theorem lw_p48 : lw_okq (⟨"NoHedgeTwiceModel", "isHedge", "(I)Z"⟩, 57) := ⟨⟨by decide +kernel, by decide +kernel⟩, List.mem_of_getElem? (i := 1104) (by decide +kernel), List.mem_of_getElem? (i := 1153) (by decide +kernel), List.mem_of_getElem? (i := 1154) (by decide +kernel)⟩
theorem lw_p49 : lw_okq (⟨"NoHedgeTwiceModel", "refuse", "()I"⟩, 57) := ⟨⟨by decide +kernel, by decide +kernel⟩, List.mem_of_getElem? (i := 1104) (by decide +kernel), List.mem_of_getElem? (i := 1158) (by decide +kernel), List.mem_of_getElem? (i := 1159) (by decide +kernel)⟩
theorem lw_p50 : lw_okq (⟨"NoHedgeTwiceModel", "isFresh", "(II)Z"⟩, 57) := ⟨⟨by decide +kernel, by decide +kernel⟩, List.mem_of_getElem? (i := 1104) (by decide +kernel), List.mem_of_getElem? (i := 1165) (by decide +kernel), List.mem_of_getElem? (i := 1166) (by decide +kernel)⟩
theorem lw_p51 : lw_okq (⟨"NoHedgeTwiceModel", "isCorner", "(I)Z"⟩, 57) := ⟨⟨by decide +kernel, by decide +kernel⟩, List.mem_of_getElem? (i := 1104) (by decide +kernel), List.mem_of_getElem? (i := 1176) (by decide +kernel), List.mem_of_getElem? (i := 1177) (by decide +kernel)⟩
theorem lw_p52 : lw_okq (⟨"NoHedgeTwiceModel", "grassOf", "(II)I"⟩, 57) := ⟨⟨by decide +kernel, by decide +kernel⟩, List.mem_of_getElem? (i := 1104) (by decide +kernel), List.mem_of_getElem? (i := 1180) (by decide +kernel), List.mem_of_getElem? (i := 1181) (by decide +kernel)⟩
theorem lw_p53 : lw_okq (⟨"NoHedgeTwiceModel", "whyNot", "(I)I"⟩, 57) := ⟨⟨by decide +kernel, by decide +kernel⟩, List.mem_of_getElem? (i := 1104) (by decide +kernel), List.mem_of_getElem? (i := 1202) (by decide +kernel), List.mem_of_getElem? (i := 1203) (by decide +kernel)⟩
theorem lw_p54 : lw_okq (⟨"NoHedgeTwiceModel", "isEnd", "(II)Z"⟩, 57) := ⟨⟨by decide +kernel, by decide +kernel⟩, List.mem_of_getElem? (i := 1104) (by decide +kernel), List.mem_of_getElem? (i := 1206) (by decide +kernel), List.mem_of_getElem? (i := 1207) (by decide +kernel)⟩
theorem lw_p55 : lw_okq (⟨"NoHedgeTwiceModel", "minutesFrom", "(II)I"⟩, 57) := ⟨⟨by decide +kernel, by decide +kernel⟩, List.mem_of_getElem? (i := 1104) (by decide +kernel), List.mem_of_getElem? (i := 1213) (by decide +kernel), List.mem_of_getElem? (i := 1214) (by decide +kernel)⟩
theorem lw_p56 : lw_okq (⟨"NoHedgeTwiceModel", "putsBy", "(I)V"⟩, 57) := ⟨⟨by decide +kernel, by decide +kernel⟩, List.mem_of_getElem? (i := 1104) (by decide +kernel), List.mem_of_getElem? (i := 1217) (by decide +kernel), List.mem_of_getElem? (i := 1218) (by decide +kernel)⟩
theorem lw_p57 : lw_okq (⟨"NoHedgeTwiceModel", "walks", "(I)I"⟩, 57) := ⟨⟨by decide +kernel, by decide +kernel⟩, List.mem_of_getElem? (i := 1104) (by decide +kernel), List.mem_of_getElem? (i := 1221) (by decide +kernel), List.mem_of_getElem? (i := 1222) (by decide +kernel)⟩
theorem lw_p58 : lw_okq (⟨"NoHedgeTwiceModel", "endOf", "(II)I"⟩, 57) := ⟨⟨by decide +kernel, by decide +kernel⟩, List.mem_of_getElem? (i := 1104) (by decide +kernel), List.mem_of_getElem? (i := 1225) (by decide +kernel), List.mem_of_getElem? (i := 1226) (by decide +kernel)⟩
theorem lw_p59 : lw_okq (⟨"NoHedgeTwiceModel", "canNow", "()I"⟩, 57) := ⟨⟨by decide +kernel, by decide +kernel⟩, List.mem_of_getElem? (i := 1104) (by decide +kernel), List.mem_of_getElem? (i := 1245) (by decide +kernel), List.mem_of_getElem? (i := 1246) (by decide +kernel)⟩
theorem lw_p60 : lw_okq (⟨"NoHedgeTwiceModel", "enters", "(I)V"⟩, 57) := ⟨⟨by decide +kernel, by decide +kernel⟩, List.mem_of_getElem? (i := 1104) (by decide +kernel), List.mem_of_getElem? (i := 1253) (by decide +kernel), List.mem_of_getElem? (i := 1254) (by decide +kernel)⟩
theorem lw_p61 : lw_okq (⟨"NoHedgeTwiceModel", "putsWalker", "()V"⟩, 57) := ⟨⟨by decide +kernel, by decide +kernel⟩, List.mem_of_getElem? (i := 1104) (by decide +kernel), List.mem_of_getElem? (i := 1261) (by decide +kernel), List.mem_of_getElem? (i := 1262) (by decide +kernel)⟩
theorem lw_p62 : lw_okq (⟨"NoHedgeTwiceModel", "putsBack", "()V"⟩, 57) := ⟨⟨by decide +kernel, by decide +kernel⟩, List.mem_of_getElem? (i := 1104) (by decide +kernel), List.mem_of_getElem? (i := 1265) (by decide +kernel), List.mem_of_getElem? (i := 1266) (by decide +kernel)⟩
theorem lw_p63 : lw_okq (⟨"NoHedgeTwiceModel", "meetsBy", "(I)I"⟩, 57) := ⟨⟨by decide +kernel, by decide +kernel⟩, List.mem_of_getElem? (i := 1104) (by decide +kernel), List.mem_of_getElem? (i := 1273) (by decide +kernel), List.mem_of_getElem? (i := 1274) (by decide +kernel)⟩
def lw_privs_4 : List (MethodName × Nat) := [(⟨"NoHedgeTwiceModel", "isHedge", "(I)Z"⟩, 57), (⟨"NoHedgeTwiceModel", "refuse", "()I"⟩, 57), (⟨"NoHedgeTwiceModel", "isFresh", "(II)Z"⟩, 57), (⟨"NoHedgeTwiceModel", "isCorner", "(I)Z"⟩, 57), (⟨"NoHedgeTwiceModel", "grassOf", "(II)I"⟩, 57), (⟨"NoHedgeTwiceModel", "whyNot", "(I)I"⟩, 57), (⟨"NoHedgeTwiceModel", "isEnd", "(II)Z"⟩, 57), (⟨"NoHedgeTwiceModel", "minutesFrom", "(II)I"⟩, 57), (⟨"NoHedgeTwiceModel", "putsBy", "(I)V"⟩, 57), (⟨"NoHedgeTwiceModel", "walks", "(I)I"⟩, 57), (⟨"NoHedgeTwiceModel", "endOf", "(II)I"⟩, 57), (⟨"NoHedgeTwiceModel", "canNow", "()I"⟩, 57), (⟨"NoHedgeTwiceModel", "enters", "(I)V"⟩, 57), (⟨"NoHedgeTwiceModel", "putsWalker", "()V"⟩, 57), (⟨"NoHedgeTwiceModel", "putsBack", "()V"⟩, 57), (⟨"NoHedgeTwiceModel", "meetsBy", "(I)I"⟩, 57)]
theorem lw_r4 : ∀ q ∈ lw_privs_4, lw_okq q := List.forall_mem_cons.mpr ⟨lw_p48, List.forall_mem_cons.mpr ⟨lw_p49, List.forall_mem_cons.mpr ⟨lw_p50, List.forall_mem_cons.mpr ⟨lw_p51, List.forall_mem_cons.mpr ⟨lw_p52, List.forall_mem_cons.mpr ⟨lw_p53, List.forall_mem_cons.mpr ⟨lw_p54, List.forall_mem_cons.mpr ⟨lw_p55, List.forall_mem_cons.mpr ⟨lw_p56, List.forall_mem_cons.mpr ⟨lw_p57, List.forall_mem_cons.mpr ⟨lw_p58, List.forall_mem_cons.mpr ⟨lw_p59, List.forall_mem_cons.mpr ⟨lw_p60, List.forall_mem_cons.mpr ⟨lw_p61, List.forall_mem_cons.mpr ⟨lw_p62, List.forall_mem_cons.mpr ⟨lw_p63, fun _ h => absurd h List.not_mem_nil⟩⟩⟩⟩⟩⟩⟩⟩⟩⟩⟩⟩⟩⟩⟩⟩
theorem lw_p64 : lw_okq (⟨"NoHedgeTwiceModel", "cornerOf", "(III)I"⟩, 57) := ⟨⟨by decide +kernel, by decide +kernel⟩, List.mem_of_getElem? (i := 1104) (by decide +kernel), List.mem_of_getElem? (i := 1277) (by decide +kernel), List.mem_of_getElem? (i := 1278) (by decide +kernel)⟩
theorem lw_p65 : lw_okq (⟨"NoHedgeTwiceModel", "sleeps", "()Z"⟩, 57) := ⟨⟨by decide +kernel, by decide +kernel⟩, List.mem_of_getElem? (i := 1104) (by decide +kernel), List.mem_of_getElem? (i := 1290) (by decide +kernel), List.mem_of_getElem? (i := 1291) (by decide +kernel)⟩
theorem lw_p66 : lw_okq (⟨"NoHedgeTwiceModel", "allHedges", "()I"⟩, 57) := ⟨⟨by decide +kernel, by decide +kernel⟩, List.mem_of_getElem? (i := 1104) (by decide +kernel), List.mem_of_getElem? (i := 1298) (by decide +kernel), List.mem_of_getElem? (i := 1299) (by decide +kernel)⟩
theorem lw_p67 : lw_okq (⟨"NoHedgeTwiceModel", "oddOf", "(I)I"⟩, 57) := ⟨⟨by decide +kernel, by decide +kernel⟩, List.mem_of_getElem? (i := 1104) (by decide +kernel), List.mem_of_getElem? (i := 1302) (by decide +kernel), List.mem_of_getElem? (i := 1303) (by decide +kernel)⟩
theorem lw_p68 : lw_okq (⟨"NoHedgeTwiceModel", "parts", "(I)V"⟩, 57) := ⟨⟨by decide +kernel, by decide +kernel⟩, List.mem_of_getElem? (i := 1104) (by decide +kernel), List.mem_of_getElem? (i := 1311) (by decide +kernel), List.mem_of_getElem? (i := 1312) (by decide +kernel)⟩
theorem lw_p69 : lw_okq (⟨"NoHedgeTwiceModel", "partOfHedges", "(II)I"⟩, 57) := ⟨⟨by decide +kernel, by decide +kernel⟩, List.mem_of_getElem? (i := 1104) (by decide +kernel), List.mem_of_getElem? (i := 1315) (by decide +kernel), List.mem_of_getElem? (i := 1316) (by decide +kernel)⟩
theorem lw_p70 : lw_okq (⟨"NoHedgeTwiceModel", "canTrail", "(II)Z"⟩, 57) := ⟨⟨by decide +kernel, by decide +kernel⟩, List.mem_of_getElem? (i := 1104) (by decide +kernel), List.mem_of_getElem? (i := 1323) (by decide +kernel), List.mem_of_getElem? (i := 1324) (by decide +kernel)⟩
theorem lw_p71 : lw_okq (⟨"NoHedgeTwiceModel", "hangTogether", "()Z"⟩, 57) := ⟨⟨by decide +kernel, by decide +kernel⟩, List.mem_of_getElem? (i := 1104) (by decide +kernel), List.mem_of_getElem? (i := 1331) (by decide +kernel), List.mem_of_getElem? (i := 1332) (by decide +kernel)⟩
theorem lw_p72 : lw_okq (⟨"NoHedgeTwiceModel", "isEven", "(I)Z"⟩, 57) := ⟨⟨by decide +kernel, by decide +kernel⟩, List.mem_of_getElem? (i := 1104) (by decide +kernel), List.mem_of_getElem? (i := 1335) (by decide +kernel), List.mem_of_getElem? (i := 1336) (by decide +kernel)⟩
theorem lw_p73 : lw_okq (⟨"NoHedgeTwiceModel", "pairsBy", "(I)I"⟩, 57) := ⟨⟨by decide +kernel, by decide +kernel⟩, List.mem_of_getElem? (i := 1104) (by decide +kernel), List.mem_of_getElem? (i := 1343) (by decide +kernel), List.mem_of_getElem? (i := 1344) (by decide +kernel)⟩
theorem lw_p74 : lw_okq (⟨"NoHedgeTwiceModel", "couples", "(III)V"⟩, 57) := ⟨⟨by decide +kernel, by decide +kernel⟩, List.mem_of_getElem? (i := 1104) (by decide +kernel), List.mem_of_getElem? (i := 1347) (by decide +kernel), List.mem_of_getElem? (i := 1348) (by decide +kernel)⟩
theorem lw_p75 : lw_okq (⟨"NoHedgeTwiceModel", "isLessRow", "()Z"⟩, 57) := ⟨⟨by decide +kernel, by decide +kernel⟩, List.mem_of_getElem? (i := 1104) (by decide +kernel), List.mem_of_getElem? (i := 1351) (by decide +kernel), List.mem_of_getElem? (i := 1352) (by decide +kernel)⟩
theorem lw_p76 : lw_okq (⟨"NoHedgeTwiceModel", "mostBy", "(III)I"⟩, 57) := ⟨⟨by decide +kernel, by decide +kernel⟩, List.mem_of_getElem? (i := 1104) (by decide +kernel), List.mem_of_getElem? (i := 1367) (by decide +kernel), List.mem_of_getElem? (i := 1368) (by decide +kernel)⟩
theorem lw_p77 : lw_okq (⟨"NoHedgeTwiceModel", "laysOut", "(I)V"⟩, 57) := ⟨⟨by decide +kernel, by decide +kernel⟩, List.mem_of_getElem? (i := 1104) (by decide +kernel), List.mem_of_getElem? (i := 1371) (by decide +kernel), List.mem_of_getElem? (i := 1372) (by decide +kernel)⟩
theorem lw_p78 : lw_okq (⟨"NoHedgeTwiceModel", "soonest", "(II)I"⟩, 57) := ⟨⟨by decide +kernel, by decide +kernel⟩, List.mem_of_getElem? (i := 1104) (by decide +kernel), List.mem_of_getElem? (i := 1376) (by decide +kernel), List.mem_of_getElem? (i := 1377) (by decide +kernel)⟩
theorem lw_p79 : lw_okq (⟨"NoHedgeTwiceModel", "worthOf", "(I)I"⟩, 57) := ⟨⟨by decide +kernel, by decide +kernel⟩, List.mem_of_getElem? (i := 1104) (by decide +kernel), List.mem_of_getElem? (i := 1380) (by decide +kernel), List.mem_of_getElem? (i := 1381) (by decide +kernel)⟩
def lw_privs_5 : List (MethodName × Nat) := [(⟨"NoHedgeTwiceModel", "cornerOf", "(III)I"⟩, 57), (⟨"NoHedgeTwiceModel", "sleeps", "()Z"⟩, 57), (⟨"NoHedgeTwiceModel", "allHedges", "()I"⟩, 57), (⟨"NoHedgeTwiceModel", "oddOf", "(I)I"⟩, 57), (⟨"NoHedgeTwiceModel", "parts", "(I)V"⟩, 57), (⟨"NoHedgeTwiceModel", "partOfHedges", "(II)I"⟩, 57), (⟨"NoHedgeTwiceModel", "canTrail", "(II)Z"⟩, 57), (⟨"NoHedgeTwiceModel", "hangTogether", "()Z"⟩, 57), (⟨"NoHedgeTwiceModel", "isEven", "(I)Z"⟩, 57), (⟨"NoHedgeTwiceModel", "pairsBy", "(I)I"⟩, 57), (⟨"NoHedgeTwiceModel", "couples", "(III)V"⟩, 57), (⟨"NoHedgeTwiceModel", "isLessRow", "()Z"⟩, 57), (⟨"NoHedgeTwiceModel", "mostBy", "(III)I"⟩, 57), (⟨"NoHedgeTwiceModel", "laysOut", "(I)V"⟩, 57), (⟨"NoHedgeTwiceModel", "soonest", "(II)I"⟩, 57), (⟨"NoHedgeTwiceModel", "worthOf", "(I)I"⟩, 57)]
theorem lw_r5 : ∀ q ∈ lw_privs_5, lw_okq q := List.forall_mem_cons.mpr ⟨lw_p64, List.forall_mem_cons.mpr ⟨lw_p65, List.forall_mem_cons.mpr ⟨lw_p66, List.forall_mem_cons.mpr ⟨lw_p67, List.forall_mem_cons.mpr ⟨lw_p68, List.forall_mem_cons.mpr ⟨lw_p69, List.forall_mem_cons.mpr ⟨lw_p70, List.forall_mem_cons.mpr ⟨lw_p71, List.forall_mem_cons.mpr ⟨lw_p72, List.forall_mem_cons.mpr ⟨lw_p73, List.forall_mem_cons.mpr ⟨lw_p74, List.forall_mem_cons.mpr ⟨lw_p75, List.forall_mem_cons.mpr ⟨lw_p76, List.forall_mem_cons.mpr ⟨lw_p77, List.forall_mem_cons.mpr ⟨lw_p78, List.forall_mem_cons.mpr ⟨lw_p79, fun _ h => absurd h List.not_mem_nil⟩⟩⟩⟩⟩⟩⟩⟩⟩⟩⟩⟩⟩⟩⟩⟩
theorem lw_p80 : lw_okq (⟨"NoHedgeTwiceModel", "laysOutGates", "()V"⟩, 57) := ⟨⟨by decide +kernel, by decide +kernel⟩, List.mem_of_getElem? (i := 1104) (by decide +kernel), List.mem_of_getElem? (i := 1406) (by decide +kernel), List.mem_of_getElem? (i := 1407) (by decide +kernel)⟩
theorem lw_p81 : lw_okq (⟨"NoHedgeTwiceModel", "measures", "()V"⟩, 57) := ⟨⟨by decide +kernel, by decide +kernel⟩, List.mem_of_getElem? (i := 1104) (by decide +kernel), List.mem_of_getElem? (i := 1410) (by decide +kernel), List.mem_of_getElem? (i := 1411) (by decide +kernel)⟩
theorem lw_p82 : lw_okq (⟨"NoHedgeTwiceModel", "shortens", "(III)V"⟩, 57) := ⟨⟨by decide +kernel, by decide +kernel⟩, List.mem_of_getElem? (i := 1104) (by decide +kernel), List.mem_of_getElem? (i := 1414) (by decide +kernel), List.mem_of_getElem? (i := 1415) (by decide +kernel)⟩
theorem lw_p83 : lw_okq (⟨"NoHedgeTwiceModel", "gateBest", "(III)I"⟩, 57) := ⟨⟨by decide +kernel, by decide +kernel⟩, List.mem_of_getElem? (i := 1104) (by decide +kernel), List.mem_of_getElem? (i := 1418) (by decide +kernel), List.mem_of_getElem? (i := 1419) (by decide +kernel)⟩
theorem lw_p84 : lw_okq (⟨"NoHedgeTwiceModel", "gateBy", "(IIII)I"⟩, 57) := ⟨⟨by decide +kernel, by decide +kernel⟩, List.mem_of_getElem? (i := 1104) (by decide +kernel), List.mem_of_getElem? (i := 1422) (by decide +kernel), List.mem_of_getElem? (i := 1423) (by decide +kernel)⟩
theorem lw_p85 : lw_okq (⟨"NoHedgeTwiceModel", "isOnWay", "(III)Z"⟩, 57) := ⟨⟨by decide +kernel, by decide +kernel⟩, List.mem_of_getElem? (i := 1104) (by decide +kernel), List.mem_of_getElem? (i := 1426) (by decide +kernel), List.mem_of_getElem? (i := 1427) (by decide +kernel)⟩
theorem lw_p86 : lw_okq (⟨"NoHedgeTwiceModel", "goesThrough", "(I)V"⟩, 57) := ⟨⟨by decide +kernel, by decide +kernel⟩, List.mem_of_getElem? (i := 1104) (by decide +kernel), List.mem_of_getElem? (i := 1430) (by decide +kernel), List.mem_of_getElem? (i := 1431) (by decide +kernel)⟩
theorem lw_p87 : lw_okq (⟨"NoHedgeTwiceModel", "comesTo", "(II)V"⟩, 57) := ⟨⟨by decide +kernel, by decide +kernel⟩, List.mem_of_getElem? (i := 1104) (by decide +kernel), List.mem_of_getElem? (i := 1434) (by decide +kernel), List.mem_of_getElem? (i := 1435) (by decide +kernel)⟩
theorem lw_p88 : lw_okq (⟨"NoHedgeTwiceModel", "wrongOf", "(I)I"⟩, 57) := ⟨⟨by decide +kernel, by decide +kernel⟩, List.mem_of_getElem? (i := 1104) (by decide +kernel), List.mem_of_getElem? (i := 1451) (by decide +kernel), List.mem_of_getElem? (i := 1452) (by decide +kernel)⟩
theorem lw_p89 : lw_okq (⟨"NoHedgeTwiceModel", "over", "(II)I"⟩, 57) := ⟨⟨by decide +kernel, by decide +kernel⟩, List.mem_of_getElem? (i := 1104) (by decide +kernel), List.mem_of_getElem? (i := 1455) (by decide +kernel), List.mem_of_getElem? (i := 1456) (by decide +kernel)⟩
theorem lw_p90 : lw_okq (⟨"NoHedgeTwiceModel", "holds", "(I)Z"⟩, 57) := ⟨⟨by decide +kernel, by decide +kernel⟩, List.mem_of_getElem? (i := 1104) (by decide +kernel), List.mem_of_getElem? (i := 1481) (by decide +kernel), List.mem_of_getElem? (i := 1482) (by decide +kernel)⟩
def lw_privs_6 : List (MethodName × Nat) := [(⟨"NoHedgeTwiceModel", "laysOutGates", "()V"⟩, 57), (⟨"NoHedgeTwiceModel", "measures", "()V"⟩, 57), (⟨"NoHedgeTwiceModel", "shortens", "(III)V"⟩, 57), (⟨"NoHedgeTwiceModel", "gateBest", "(III)I"⟩, 57), (⟨"NoHedgeTwiceModel", "gateBy", "(IIII)I"⟩, 57), (⟨"NoHedgeTwiceModel", "isOnWay", "(III)Z"⟩, 57), (⟨"NoHedgeTwiceModel", "goesThrough", "(I)V"⟩, 57), (⟨"NoHedgeTwiceModel", "comesTo", "(II)V"⟩, 57), (⟨"NoHedgeTwiceModel", "wrongOf", "(I)I"⟩, 57), (⟨"NoHedgeTwiceModel", "over", "(II)I"⟩, 57), (⟨"NoHedgeTwiceModel", "holds", "(I)Z"⟩, 57)]
theorem lw_r6 : ∀ q ∈ lw_privs_6, lw_okq q := List.forall_mem_cons.mpr ⟨lw_p80, List.forall_mem_cons.mpr ⟨lw_p81, List.forall_mem_cons.mpr ⟨lw_p82, List.forall_mem_cons.mpr ⟨lw_p83, List.forall_mem_cons.mpr ⟨lw_p84, List.forall_mem_cons.mpr ⟨lw_p85, List.forall_mem_cons.mpr ⟨lw_p86, List.forall_mem_cons.mpr ⟨lw_p87, List.forall_mem_cons.mpr ⟨lw_p88, List.forall_mem_cons.mpr ⟨lw_p89, List.forall_mem_cons.mpr ⟨lw_p90, fun _ h => absurd h List.not_mem_nil⟩⟩⟩⟩⟩⟩⟩⟩⟩⟩⟩
def lw_privs : List (MethodName × Nat) := lw_privs_1 ++ (lw_privs_2 ++ (lw_privs_3 ++ (lw_privs_4 ++ (lw_privs_5 ++ (lw_privs_6)))))
def lw_tbl : List Cond := k2_sels lw_privs ++ tables_1
theorem lw_privs_ok : ∀ q ∈ lw_privs, lw_okq q := by
  show ∀ q ∈ lw_privs_1 ++ (lw_privs_2 ++ (lw_privs_3 ++ (lw_privs_4 ++ (lw_privs_5 ++ (lw_privs_6))))), lw_okq q
  exact List.forall_mem_append.mpr ⟨lw_r1, List.forall_mem_append.mpr ⟨lw_r2, List.forall_mem_append.mpr ⟨lw_r3, List.forall_mem_append.mpr ⟨lw_r4, List.forall_mem_append.mpr ⟨lw_r5, lw_r6⟩⟩⟩⟩⟩
def RX0 : String := "NoHedgeTwice$Ears"
def TX0 : u_T := fun k => match k with
  | 0 => ("NoHedgeTwice$Ears", "count", "I", false)
  | 1 => ("NoHedgeTwice$Ears", "leastWay", "I", false)
  | 2 => ("NoHedgeTwice$Ears", "holding", "[J", true)
  | 3 => ("NoHedgeTwice$Ears", "hedge", "[I", true)
  | 4 => ("NoHedgeTwice$Ears", "cows", "[I", true)
  | _ => ("NoHedgeTwice$Ears", "tally", "[I", true)
def tyX0 : Nat → FieldType := fun k => match k with
  | 0 => .int
  | 1 => .int
  | 2 => .array .long
  | 3 => .array .int
  | 4 => .array .int
  | _ => .array .int
theorem nmX0 : ∀ a, a < 6 → ∀ b, b < 6 → a ≠ b → (TX0 a).2.1 ≠ (TX0 b).2.1 := by decide +kernel
theorem tyX0_ok : ∀ k, k < 6 → parseFieldDescriptor (TX0 k).2.2.1 = some (tyX0 k) := by decide +kernel
def RX1 : String := "NoHedgeTwice$GateWalk"
def TX1 : u_T := fun k => match k with
  | 0 => ("NoHedgeTwice$GateWalk", "gateHedge", "[I", true)
  | 1 => ("NoHedgeTwice$GateWalk", "gateCount", "I", false)
  | 2 => ("NoHedgeTwice$GateWalk", "stride", "I", false)
  | 3 => ("NoHedgeTwice$GateWalk", "part", "[I", true)
  | 4 => ("NoHedgeTwice$GateWalk", "rank", "[I", true)
  | 5 => ("NoHedgeTwice$GateWalk", "path", "[[I", true)
  | _ => ("NoHedgeTwice$GateWalk", "fewest", "LNoHedgeTwice$Numbers;", true)
def tyX1 : Nat → FieldType := fun k => match k with
  | 0 => .array .int
  | 1 => .int
  | 2 => .int
  | 3 => .array .int
  | 4 => .array .int
  | 5 => .array (.array .int)
  | _ => .object "NoHedgeTwice$Numbers"
theorem nmX1 : ∀ a, a < 7 → ∀ b, b < 7 → a ≠ b → (TX1 a).2.1 ≠ (TX1 b).2.1 := by decide +kernel
theorem tyX1_ok : ∀ k, k < 7 → parseFieldDescriptor (TX1 k).2.2.1 = some (tyX1 k) := by decide +kernel
def RX2 : String := "NoHedgeTwice$Land"
def TX2 : u_T := fun k => match k with
  | 0 => ("NoHedgeTwice$Land", "corners", "I", false)
  | 1 => ("NoHedgeTwice$Land", "hedges", "I", false)
  | 2 => ("NoHedgeTwice$Land", "nights", "I", false)
  | 3 => ("NoHedgeTwice$Land", "frost", "I", false)
  | 4 => ("NoHedgeTwice$Land", "x", "[I", true)
  | 5 => ("NoHedgeTwice$Land", "y", "[I", true)
  | 6 => ("NoHedgeTwice$Land", "first", "[I", true)
  | 7 => ("NoHedgeTwice$Land", "second", "[I", true)
  | 8 => ("NoHedgeTwice$Land", "minutes", "[I", true)
  | 9 => ("NoHedgeTwice$Land", "left", "[I", true)
  | 10 => ("NoHedgeTwice$Land", "right", "[I", true)
  | 11 => ("NoHedgeTwice$Land", "worth", "[I", true)
  | 12 => ("NoHedgeTwice$Land", "wind", "[I", true)
  | _ => ("NoHedgeTwice$Land", "gate", "[Z", true)
def tyX2 : Nat → FieldType := fun k => match k with
  | 0 => .int
  | 1 => .int
  | 2 => .int
  | 3 => .int
  | 4 => .array .int
  | 5 => .array .int
  | 6 => .array .int
  | 7 => .array .int
  | 8 => .array .int
  | 9 => .array .int
  | 10 => .array .int
  | 11 => .array .int
  | 12 => .array .int
  | _ => .array .boolean
theorem nmX2 : ∀ a, a < 14 → ∀ b, b < 14 → a ≠ b → (TX2 a).2.1 ≠ (TX2 b).2.1 := by decide +kernel
theorem tyX2_ok : ∀ k, k < 14 → parseFieldDescriptor (TX2 k).2.2.1 = some (tyX2 k) := by decide +kernel
def RX3 : String := "NoHedgeTwice$Numbers"
def TX3 : u_T := fun k => match k with
  | 0 => ("NoHedgeTwice$Numbers", "places", "I", true)
  | _ => ("NoHedgeTwice$Numbers", "fours", "[J", true)
def tyX3 : Nat → FieldType := fun k => match k with
  | 0 => .int
  | _ => .array .long
theorem nmX3 : ∀ a, a < 2 → ∀ b, b < 2 → a ≠ b → (TX3 a).2.1 ≠ (TX3 b).2.1 := by decide +kernel
theorem tyX3_ok : ∀ k, k < 2 → parseFieldDescriptor (TX3 k).2.2.1 = some (tyX3 k) := by decide +kernel
def RX4 : String := "NoHedgeTwice$Rounds"
def TX4 : u_T := fun k => match k with
  | 0 => ("NoHedgeTwice$Rounds", "outward", "[I", true)
  | 1 => ("NoHedgeTwice$Rounds", "inward", "[I", true)
  | _ => ("NoHedgeTwice$Rounds", "pairCost", "LNoHedgeTwice$Numbers;", true)
def tyX4 : Nat → FieldType := fun k => match k with
  | 0 => .array .int
  | 1 => .array .int
  | _ => .object "NoHedgeTwice$Numbers"
theorem nmX4 : ∀ a, a < 3 → ∀ b, b < 3 → a ≠ b → (TX4 a).2.1 ≠ (TX4 b).2.1 := by decide +kernel
theorem tyX4_ok : ∀ k, k < 3 → parseFieldDescriptor (TX4 k).2.2.1 = some (tyX4 k) := by decide +kernel
def RX5 : String := "NoHedgeTwice$Row"
def TX5 : u_T := fun k => match k with
  | 0 => ("NoHedgeTwice$Row", "numbers", "[I", true)
  | _ => ("NoHedgeTwice$Row", "count", "I", false)
def tyX5 : Nat → FieldType := fun k => match k with
  | 0 => .array .int
  | _ => .int
theorem nmX5 : ∀ a, a < 2 → ∀ b, b < 2 → a ≠ b → (TX5 a).2.1 ≠ (TX5 b).2.1 := by decide +kernel
theorem tyX5_ok : ∀ k, k < 2 → parseFieldDescriptor (TX5 k).2.2.1 = some (tyX5 k) := by decide +kernel
def RX6 : String := "NoHedgeTwice$Spot"
def TX6 : u_T := fun k => match k with
  | 0 => ("NoHedgeTwice$Spot", "corner", "I", false)
  | 1 => ("NoHedgeTwice$Spot", "time", "I", false)
  | _ => ("NoHedgeTwice$Spot", "lastDay", "[I", true)
def tyX6 : Nat → FieldType := fun k => match k with
  | 0 => .int
  | 1 => .int
  | _ => .array .int
theorem nmX6 : ∀ a, a < 3 → ∀ b, b < 3 → a ≠ b → (TX6 a).2.1 ≠ (TX6 b).2.1 := by decide +kernel
theorem tyX6_ok : ∀ k, k < 3 → parseFieldDescriptor (TX6 k).2.2.1 = some (tyX6 k) := by decide +kernel
def RX7 : String := "NoHedgeTwice$Steps"
def TX7 : u_T := fun k => match k with
  | 0 => ("NoHedgeTwice$Steps", "count", "I", false)
  | 1 => ("NoHedgeTwice$Steps", "top", "I", false)
  | 2 => ("NoHedgeTwice$Steps", "hedge", "[I", true)
  | 3 => ("NoHedgeTwice$Steps", "corner", "[I", true)
  | 4 => ("NoHedgeTwice$Steps", "time", "[I", true)
  | _ => ("NoHedgeTwice$Steps", "lastDay", "[I", true)
def tyX7 : Nat → FieldType := fun k => match k with
  | 0 => .int
  | 1 => .int
  | 2 => .array .int
  | 3 => .array .int
  | 4 => .array .int
  | _ => .array .int
theorem nmX7 : ∀ a, a < 6 → ∀ b, b < 6 → a ≠ b → (TX7 a).2.1 ≠ (TX7 b).2.1 := by decide +kernel
theorem tyX7_ok : ∀ k, k < 6 → parseFieldDescriptor (TX7 k).2.2.1 = some (tyX7 k) := by decide +kernel
def RX8 : String := "NoHedgeTwice$Text"
def TX8 : u_T := fun k => match k with
  | 0 => ("NoHedgeTwice$Text", "signs", "[C", true)
  | 1 => ("NoHedgeTwice$Text", "length", "I", false)
  | 2 => ("NoHedgeTwice$Text", "at", "I", false)
  | 3 => ("NoHedgeTwice$Text", "limit", "I", false)
  | 4 => ("NoHedgeTwice$Text", "corners", "I", false)
  | _ => ("NoHedgeTwice$Text", "hedges", "I", false)
def tyX8 : Nat → FieldType := fun k => match k with
  | 0 => .array .char
  | 1 => .int
  | 2 => .int
  | 3 => .int
  | 4 => .int
  | _ => .int
theorem nmX8 : ∀ a, a < 6 → ∀ b, b < 6 → a ≠ b → (TX8 a).2.1 ≠ (TX8 b).2.1 := by decide +kernel
theorem tyX8_ok : ∀ k, k < 6 → parseFieldDescriptor (TX8 k).2.2.1 = some (tyX8 k) := by decide +kernel
def RX9 : String := "NoHedgeTwice$Tour"
def TX9 : u_T := fun k => match k with
  | 0 => ("NoHedgeTwice$Tour", "laid", "Z", false)
  | 1 => ("NoHedgeTwice$Tour", "start", "I", false)
  | 2 => ("NoHedgeTwice$Tour", "steps", "I", false)
  | 3 => ("NoHedgeTwice$Tour", "hedges", "[I", true)
  | 4 => ("NoHedgeTwice$Tour", "corner", "[I", true)
  | _ => ("NoHedgeTwice$Tour", "minute", "[I", true)
def tyX9 : Nat → FieldType := fun k => match k with
  | 0 => .boolean
  | 1 => .int
  | 2 => .int
  | 3 => .array .int
  | 4 => .array .int
  | _ => .array .int
theorem nmX9 : ∀ a, a < 6 → ∀ b, b < 6 → a ≠ b → (TX9 a).2.1 ≠ (TX9 b).2.1 := by decide +kernel
theorem tyX9_ok : ∀ k, k < 6 → parseFieldDescriptor (TX9 k).2.2.1 = some (tyX9 k) := by decide +kernel
def RX10 : String := "NoHedgeTwice$Trips"
def TX10 : u_T := fun k => match k with
  | 0 => ("NoHedgeTwice$Trips", "fewest", "LNoHedgeTwice$Numbers;", true)
  | _ => ("NoHedgeTwice$Trips", "sets", "I", false)
def tyX10 : Nat → FieldType := fun k => match k with
  | 0 => .object "NoHedgeTwice$Numbers"
  | _ => .int
theorem nmX10 : ∀ a, a < 2 → ∀ b, b < 2 → a ≠ b → (TX10 a).2.1 ≠ (TX10 b).2.1 := by decide +kernel
theorem tyX10_ok : ∀ k, k < 2 → parseFieldDescriptor (TX10 k).2.2.1 = some (tyX10 k) := by decide +kernel
def RX11 : String := "NoHedgeTwice"
def TX11 : u_T := fun k => match k with
  | 0 => ("NoHedgeTwice", "text", "LNoHedgeTwice$Text;", true)
  | 1 => ("NoHedgeTwice", "ground", "LNoHedgeTwice$Land;", true)
  | 2 => ("NoHedgeTwice", "told", "LNoHedgeTwice$Row;", true)
  | 3 => ("NoHedgeTwice", "walker", "LNoHedgeTwice$Spot;", true)
  | 4 => ("NoHedgeTwice", "scout", "LNoHedgeTwice$Spot;", true)
  | 5 => ("NoHedgeTwice", "steps", "LNoHedgeTwice$Steps;", true)
  | 6 => ("NoHedgeTwice", "tours", "[LNoHedgeTwice$Tour;", true)
  | 7 => ("NoHedgeTwice", "rounds", "LNoHedgeTwice$Rounds;", true)
  | 8 => ("NoHedgeTwice", "trips", "LNoHedgeTwice$Trips;", true)
  | 9 => ("NoHedgeTwice", "gateWalk", "LNoHedgeTwice$GateWalk;", true)
  | 10 => ("NoHedgeTwice", "ears", "LNoHedgeTwice$Ears;", true)
  | 11 => ("NoHedgeTwice", "kept", "[LNoHedgeTwice$Spot;", true)
  | _ => ("NoHedgeTwice", "isKept", "[Z", true)
def tyX11 : Nat → FieldType := fun k => match k with
  | 0 => .object "NoHedgeTwice$Text"
  | 1 => .object "NoHedgeTwice$Land"
  | 2 => .object "NoHedgeTwice$Row"
  | 3 => .object "NoHedgeTwice$Spot"
  | 4 => .object "NoHedgeTwice$Spot"
  | 5 => .object "NoHedgeTwice$Steps"
  | 6 => .array (.object "NoHedgeTwice$Tour")
  | 7 => .object "NoHedgeTwice$Rounds"
  | 8 => .object "NoHedgeTwice$Trips"
  | 9 => .object "NoHedgeTwice$GateWalk"
  | 10 => .object "NoHedgeTwice$Ears"
  | 11 => .array (.object "NoHedgeTwice$Spot")
  | _ => .array .boolean
theorem nmX11 : ∀ a, a < 13 → ∀ b, b < 13 → a ≠ b → (TX11 a).2.1 ≠ (TX11 b).2.1 := by decide +kernel
theorem tyX11_ok : ∀ k, k < 13 → parseFieldDescriptor (TX11 k).2.2.1 = some (tyX11 k) := by decide +kernel
def RX12 : String := "NoHedgeTwiceModel"
def TX12 : u_T := fun k => match k with
  | 0 => ("NoHedgeTwiceModel", "thrown", "I", false)
  | 1 => ("NoHedgeTwiceModel", "rows", "I", false)
  | 2 => ("NoHedgeTwiceModel", "row", "[I", true)
  | 3 => ("NoHedgeTwiceModel", "corners", "I", false)
  | 4 => ("NoHedgeTwiceModel", "x", "[I", true)
  | 5 => ("NoHedgeTwiceModel", "y", "[I", true)
  | 6 => ("NoHedgeTwiceModel", "hedges", "I", false)
  | 7 => ("NoHedgeTwiceModel", "one", "[I", true)
  | 8 => ("NoHedgeTwiceModel", "other", "[I", true)
  | 9 => ("NoHedgeTwiceModel", "lengths", "[I", true)
  | 10 => ("NoHedgeTwiceModel", "left", "[I", true)
  | 11 => ("NoHedgeTwiceModel", "right", "[I", true)
  | 12 => ("NoHedgeTwiceModel", "worth", "[I", true)
  | 13 => ("NoHedgeTwiceModel", "wind", "[I", true)
  | 14 => ("NoHedgeTwiceModel", "gates", "I", false)
  | 15 => ("NoHedgeTwiceModel", "nights", "I", false)
  | 16 => ("NoHedgeTwiceModel", "frost", "I", false)
  | 17 => ("NoHedgeTwiceModel", "here", "I", false)
  | 18 => ("NoHedgeTwiceModel", "time", "I", false)
  | 19 => ("NoHedgeTwiceModel", "last", "[I", true)
  | 20 => ("NoHedgeTwiceModel", "tape", "[I", true)
  | 21 => ("NoHedgeTwiceModel", "taped", "I", false)
  | 22 => ("NoHedgeTwiceModel", "at", "I", false)
  | 23 => ("NoHedgeTwiceModel", "to", "I", false)
  | 24 => ("NoHedgeTwiceModel", "readCorners", "I", false)
  | 25 => ("NoHedgeTwiceModel", "readHedges", "I", false)
  | 26 => ("NoHedgeTwiceModel", "readGates", "I", false)
  | 27 => ("NoHedgeTwiceModel", "undos", "I", false)
  | 28 => ("NoHedgeTwiceModel", "undoHedge", "[I", true)
  | 29 => ("NoHedgeTwiceModel", "undoHere", "[I", true)
  | 30 => ("NoHedgeTwiceModel", "undoTime", "[I", true)
  | 31 => ("NoHedgeTwiceModel", "undoLast", "[I", true)
  | 32 => ("NoHedgeTwiceModel", "tourFrom", "[I", true)
  | 33 => ("NoHedgeTwiceModel", "tourLong", "[I", true)
  | 34 => ("NoHedgeTwiceModel", "tourHedge", "[I", true)
  | 35 => ("NoHedgeTwiceModel", "readTour", "[I", true)
  | 36 => ("NoHedgeTwiceModel", "byHere", "I", false)
  | 37 => ("NoHedgeTwiceModel", "byTime", "I", false)
  | 38 => ("NoHedgeTwiceModel", "byLast", "[I", true)
  | 39 => ("NoHedgeTwiceModel", "endMinute", "I", false)
  | 40 => ("NoHedgeTwiceModel", "part", "[I", true)
  | 41 => ("NoHedgeTwiceModel", "comes", "[I", true)
  | 42 => ("NoHedgeTwiceModel", "pairsMany", "I", false)
  | 43 => ("NoHedgeTwiceModel", "pairs", "[I", true)
  | 44 => ("NoHedgeTwiceModel", "bestPairs", "[I", true)
  | 45 => ("NoHedgeTwiceModel", "bestMany", "I", false)
  | 46 => ("NoHedgeTwiceModel", "bestGrass", "I", false)
  | 47 => ("NoHedgeTwiceModel", "least", "[I", true)
  | 48 => ("NoHedgeTwiceModel", "far", "[I", true)
  | 49 => ("NoHedgeTwiceModel", "cost", "[I", true)
  | 50 => ("NoHedgeTwiceModel", "costThen", "[I", true)
  | 51 => ("NoHedgeTwiceModel", "heards", "I", false)
  | 52 => ("NoHedgeTwiceModel", "heardHedge", "[I", true)
  | 53 => ("NoHedgeTwiceModel", "heardCows", "[I", true)
  | 54 => ("NoHedgeTwiceModel", "ways", "[I", true)
  | 55 => ("NoHedgeTwiceModel", "isKept", "[Z", true)
  | _ => ("NoHedgeTwiceModel", "kept", "[I", true)
def tyX12 : Nat → FieldType := fun k => match k with
  | 0 => .int
  | 1 => .int
  | 2 => .array .int
  | 3 => .int
  | 4 => .array .int
  | 5 => .array .int
  | 6 => .int
  | 7 => .array .int
  | 8 => .array .int
  | 9 => .array .int
  | 10 => .array .int
  | 11 => .array .int
  | 12 => .array .int
  | 13 => .array .int
  | 14 => .int
  | 15 => .int
  | 16 => .int
  | 17 => .int
  | 18 => .int
  | 19 => .array .int
  | 20 => .array .int
  | 21 => .int
  | 22 => .int
  | 23 => .int
  | 24 => .int
  | 25 => .int
  | 26 => .int
  | 27 => .int
  | 28 => .array .int
  | 29 => .array .int
  | 30 => .array .int
  | 31 => .array .int
  | 32 => .array .int
  | 33 => .array .int
  | 34 => .array .int
  | 35 => .array .int
  | 36 => .int
  | 37 => .int
  | 38 => .array .int
  | 39 => .int
  | 40 => .array .int
  | 41 => .array .int
  | 42 => .int
  | 43 => .array .int
  | 44 => .array .int
  | 45 => .int
  | 46 => .int
  | 47 => .array .int
  | 48 => .array .int
  | 49 => .array .int
  | 50 => .array .int
  | 51 => .int
  | 52 => .array .int
  | 53 => .array .int
  | 54 => .array .int
  | 55 => .array .boolean
  | _ => .array .int
theorem nmX12 : ∀ a, a < 57 → ∀ b, b < 57 → a ≠ b → (TX12 a).2.1 ≠ (TX12 b).2.1 := by decide +kernel
theorem tyX12_ok : ∀ k, k < 57 → parseFieldDescriptor (TX12 k).2.2.1 = some (tyX12 k) := by decide +kernel
abbrev vwCl : List vw_C := [(RX0, TX0, 6), (RX1, TX1, 7), (RX2, TX2, 14), (RX3, TX3, 2), (RX4, TX4, 3), (RX5, TX5, 2), (RX6, TX6, 3), (RX7, TX7, 6), (RX8, TX8, 6), (RX9, TX9, 6), (RX10, TX10, 2), (RX11, TX11, 13), (RX12, TX12, 57)]
def RJ6 : String := "java/lang/Integer"
def RJ9 : String := "java/lang/Math"
def RJ0 : String := "java/lang/String"
def RL : String := "NoHedgeTwiceLaw"
abbrev cX0_init : ByteArray := prog_2_method_1_code
def yX0_init : MethodName := ⟨RX0, "<init>", "()V"⟩
abbrev cX0_hear : ByteArray := prog_2_method_2_code
def yX0_hear : MethodName := ⟨RX0, "hear", "(II)Z"⟩
abbrev cX0_cowsIn : ByteArray := prog_2_method_3_code
def yX0_cowsIn : MethodName := ⟨RX0, "cowsIn", "(II)I"⟩
abbrev cX0_asDigits : ByteArray := prog_2_method_4_code
def yX0_asDigits : MethodName := ⟨RX0, "asDigits", "(I)I"⟩
abbrev cX0_cowsOver : ByteArray := prog_2_method_5_code
def yX0_cowsOver : MethodName := ⟨RX0, "cowsOver", "(LNoHedgeTwice$Land;II)I"⟩
abbrev cX0_isLie : ByteArray := prog_2_method_6_code
def yX0_isLie : MethodName := ⟨RX0, "isLie", "(LNoHedgeTwice$Land;II)Z"⟩
abbrev cX0_liesOf : ByteArray := prog_2_method_7_code
def yX0_liesOf : MethodName := ⟨RX0, "liesOf", "(LNoHedgeTwice$Land;I)I"⟩
abbrev cX0_allHold : ByteArray := prog_2_method_8_code
def yX0_allHold : MethodName := ⟨RX0, "allHold", "(LNoHedgeTwice$Land;II)Z"⟩
abbrev cX0_all : ByteArray := prog_2_method_9_code
def yX0_all : MethodName := ⟨RX0, "all", "()I"⟩
abbrev cX0_findWays : ByteArray := prog_2_method_10_code
def yX0_findWays : MethodName := ⟨RX0, "findWays", "(LNoHedgeTwice$Land;)I"⟩
abbrev cX0_isFound : ByteArray := prog_2_method_11_code
def yX0_isFound : MethodName := ⟨RX0, "isFound", "(I)Z"⟩
abbrev cX0_differences : ByteArray := prog_2_method_12_code
def yX0_differences : MethodName := ⟨RX0, "differences", "()I"⟩
abbrev cX0_mostLeft : ByteArray := prog_2_method_13_code
def yX0_mostLeft : MethodName := ⟨RX0, "mostLeft", "(LNoHedgeTwice$Land;I)I"⟩
abbrev cX0_fewestLies : ByteArray := prog_2_method_14_code
def yX0_fewestLies : MethodName := ⟨RX0, "fewestLies", "(LNoHedgeTwice$Land;)I"⟩
abbrev cX0_hasWay : ByteArray := prog_2_method_15_code
def yX0_hasWay : MethodName := ⟨RX0, "hasWay", "(LNoHedgeTwice$Land;I)Z"⟩
abbrev cX0_firstWithoutWays : ByteArray := prog_2_method_16_code
def yX0_firstWithoutWays : MethodName := ⟨RX0, "firstWithoutWays", "(LNoHedgeTwice$Land;)I"⟩
abbrev cX0_firstAgainst : ByteArray := prog_2_method_17_code
def yX0_firstAgainst : MethodName := ⟨RX0, "firstAgainst", "(LNoHedgeTwice$Land;I)I"⟩
abbrev cX1_init : ByteArray := prog_3_method_1_code
def yX1_init : MethodName := ⟨RX1, "<init>", "()V"⟩
abbrev cX1_prepare : ByteArray := prog_3_method_2_code
def yX1_prepare : MethodName := ⟨RX1, "prepare", "(LNoHedgeTwice$Land;)V"⟩
abbrev cX1_layPaths : ByteArray := prog_3_method_3_code
def yX1_layPaths : MethodName := ⟨RX1, "layPaths", "(LNoHedgeTwice$Land;)V"⟩
abbrev cX1_shortenPaths : ByteArray := prog_3_method_4_code
def yX1_shortenPaths : MethodName := ⟨RX1, "shortenPaths", "(LNoHedgeTwice$Land;)V"⟩
abbrev cX1_numberInPart : ByteArray := prog_3_method_5_code
def yX1_numberInPart : MethodName := ⟨RX1, "numberInPart", "(I)V"⟩
abbrev cX1_partAfter : ByteArray := prog_3_method_6_code
def yX1_partAfter : MethodName := ⟨RX1, "partAfter", "(LNoHedgeTwice$Land;II)I"⟩
abbrev cX1_fewestMinutes : ByteArray := prog_3_method_7_code
def yX1_fewestMinutes : MethodName := ⟨RX1, "fewestMinutes", "(LNoHedgeTwice$Land;I)I"⟩
abbrev cX1_placeOf : ByteArray := prog_3_method_8_code
def yX1_placeOf : MethodName := ⟨RX1, "placeOf", "(II)I"⟩
abbrev cX1_bestOn : ByteArray := prog_3_method_9_code
def yX1_bestOn : MethodName := ⟨RX1, "bestOn", "(LNoHedgeTwice$Land;II)I"⟩
abbrev cX1_minutesBy : ByteArray := prog_3_method_10_code
def yX1_minutesBy : MethodName := ⟨RX1, "minutesBy", "(LNoHedgeTwice$Land;IIII)I"⟩
abbrev cX1_tellLeastOrder : ByteArray := prog_3_method_11_code
def yX1_tellLeastOrder : MethodName := ⟨RX1, "tellLeastOrder", "(LNoHedgeTwice$Land;ILNoHedgeTwice$Row;)V"⟩
abbrev cX1_endsOfBest : ByteArray := prog_3_method_12_code
def yX1_endsOfBest : MethodName := ⟨RX1, "endsOfBest", "(LNoHedgeTwice$Land;III)I"⟩
abbrev cX2_init : ByteArray := prog_4_method_1_code
def yX2_init : MethodName := ⟨RX2, "<init>", "()V"⟩
abbrev cX2_hasCorner : ByteArray := prog_4_method_2_code
def yX2_hasCorner : MethodName := ⟨RX2, "hasCorner", "(I)Z"⟩
abbrev cX2_hasHedge : ByteArray := prog_4_method_3_code
def yX2_hasHedge : MethodName := ⟨RX2, "hasHedge", "(I)Z"⟩
abbrev cX2_touches : ByteArray := prog_4_method_4_code
def yX2_touches : MethodName := ⟨RX2, "touches", "(II)Z"⟩
abbrev cX2_otherEnd : ByteArray := prog_4_method_5_code
def yX2_otherEnd : MethodName := ⟨RX2, "otherEnd", "(II)I"⟩
abbrev cX2_minutesFrom : ByteArray := prog_4_method_6_code
def yX2_minutesFrom : MethodName := ⟨RX2, "minutesFrom", "(II)I"⟩
abbrev cX2_grassBetween : ByteArray := prog_4_method_7_code
def yX2_grassBetween : MethodName := ⟨RX2, "grassBetween", "(II)I"⟩
abbrev cX2_everyHedge : ByteArray := prog_4_method_8_code
def yX2_everyHedge : MethodName := ⟨RX2, "everyHedge", "()I"⟩
abbrev cX2_endsOf : ByteArray := prog_4_method_9_code
def yX2_endsOf : MethodName := ⟨RX2, "endsOf", "(I)I"⟩
abbrev cX2_worthOf : ByteArray := prog_4_method_10_code
def yX2_worthOf : MethodName := ⟨RX2, "worthOf", "(I)I"⟩
abbrev cX2_oddCorners : ByteArray := prog_4_method_11_code
def yX2_oddCorners : MethodName := ⟨RX2, "oddCorners", "(I)I"⟩
abbrev cX2_hanging : ByteArray := prog_4_method_12_code
def yX2_hanging : MethodName := ⟨RX2, "hanging", "(II)I"⟩
abbrev cX2_hangsTogether : ByteArray := prog_4_method_13_code
def yX2_hangsTogether : MethodName := ⟨RX2, "hangsTogether", "()Z"⟩
abbrev cX2_holdsAll : ByteArray := prog_4_method_14_code
def yX2_holdsAll : MethodName := ⟨RX2, "holdsAll", "(II)Z"⟩
abbrev cX2_isTrail : ByteArray := prog_4_method_15_code
def yX2_isTrail : MethodName := ⟨RX2, "isTrail", "(II)Z"⟩
abbrev cX3_init : ByteArray := prog_5_method_1_code
def yX3_init : MethodName := ⟨RX3, "<init>", "(I)V"⟩
abbrev cX3_fillWithForever : ByteArray := prog_5_method_2_code
def yX3_fillWithForever : MethodName := ⟨RX3, "fillWithForever", "(I)V"⟩
abbrev cX3_at : ByteArray := prog_5_method_3_code
def yX3_at : MethodName := ⟨RX3, "at", "(I)I"⟩
abbrev cX3_put : ByteArray := prog_5_method_4_code
def yX3_put : MethodName := ⟨RX3, "put", "(II)V"⟩
abbrev cX4_init : ByteArray := prog_6_method_1_code
def yX4_init : MethodName := ⟨RX4, "<init>", "()V"⟩
abbrev cX4_leastTrail : ByteArray := prog_6_method_2_code
def yX4_leastTrail : MethodName := ⟨RX4, "leastTrail", "(LNoHedgeTwice$Land;ILNoHedgeTwice$Row;)I"⟩
abbrev cX4_leastStep : ByteArray := prog_6_method_3_code
def yX4_leastStep : MethodName := ⟨RX4, "leastStep", "(LNoHedgeTwice$Land;II)I"⟩
abbrev cX4_windOf : ByteArray := prog_6_method_4_code
def yX4_windOf : MethodName := ⟨RX4, "windOf", "(LNoHedgeTwice$Land;I)I"⟩
abbrev cX4_cheapestTurns : ByteArray := prog_6_method_5_code
def yX4_cheapestTurns : MethodName := ⟨RX4, "cheapestTurns", "(LNoHedgeTwice$Land;)I"⟩
abbrev cX4_sortEnds : ByteArray := prog_6_method_6_code
def yX4_sortEnds : MethodName := ⟨RX4, "sortEnds", "(LNoHedgeTwice$Land;)V"⟩
abbrev cX4_isBalanced : ByteArray := prog_6_method_7_code
def yX4_isBalanced : MethodName := ⟨RX4, "isBalanced", "(LNoHedgeTwice$Land;I)Z"⟩
abbrev cX4_leastGrass : ByteArray := prog_6_method_8_code
def yX4_leastGrass : MethodName := ⟨RX4, "leastGrass", "(LNoHedgeTwice$Land;ILNoHedgeTwice$Row;)I"⟩
abbrev cX4_costOf : ByteArray := prog_6_method_9_code
def yX4_costOf : MethodName := ⟨RX4, "costOf", "(LNoHedgeTwice$Land;II)I"⟩
abbrev cX4_lowestOf : ByteArray := prog_6_method_10_code
def yX4_lowestOf : MethodName := ⟨RX4, "lowestOf", "(I)I"⟩
abbrev cX4_costWithPair : ByteArray := prog_6_method_11_code
def yX4_costWithPair : MethodName := ⟨RX4, "costWithPair", "(LNoHedgeTwice$Land;IIII)I"⟩
abbrev cX4_tellPairs : ByteArray := prog_6_method_12_code
def yX4_tellPairs : MethodName := ⟨RX4, "tellPairs", "(LNoHedgeTwice$Land;IILNoHedgeTwice$Row;)V"⟩
abbrev cX4_partnerOf : ByteArray := prog_6_method_13_code
def yX4_partnerOf : MethodName := ⟨RX4, "partnerOf", "(LNoHedgeTwice$Land;III)I"⟩
abbrev cX5_init : ByteArray := prog_7_method_1_code
def yX5_init : MethodName := ⟨RX5, "<init>", "()V"⟩
abbrev cX5_clear : ByteArray := prog_7_method_2_code
def yX5_clear : MethodName := ⟨RX5, "clear", "()V"⟩
abbrev cX5_add : ByteArray := prog_7_method_3_code
def yX5_add : MethodName := ⟨RX5, "add", "(I)V"⟩
abbrev cX5_tell : ByteArray := prog_7_method_4_code
def yX5_tell : MethodName := ⟨RX5, "tell", "(I)V"⟩
abbrev cX6_init : ByteArray := prog_8_method_1_code
def yX6_init : MethodName := ⟨RX6, "<init>", "()V"⟩
abbrev cX6_beginAt : ByteArray := prog_8_method_2_code
def yX6_beginAt : MethodName := ⟨RX6, "beginAt", "(I)V"⟩
abbrev cX6_copyFrom : ByteArray := prog_8_method_3_code
def yX6_copyFrom : MethodName := ⟨RX6, "copyFrom", "(LNoHedgeTwice$Spot;)V"⟩
abbrev cX6_day : ByteArray := prog_8_method_4_code
def yX6_day : MethodName := ⟨RX6, "day", "()I"⟩
abbrev cX6_isLight : ByteArray := prog_8_method_5_code
def yX6_isLight : MethodName := ⟨RX6, "isLight", "()Z"⟩
abbrev cX6_isFresh : ByteArray := prog_8_method_6_code
def yX6_isFresh : MethodName := ⟨RX6, "isFresh", "(LNoHedgeTwice$Land;I)Z"⟩
abbrev cX6_whyNot : ByteArray := prog_8_method_7_code
def yX6_whyNot : MethodName := ⟨RX6, "whyNot", "(LNoHedgeTwice$Land;I)I"⟩
abbrev cX6_step : ByteArray := prog_8_method_8_code
def yX6_step : MethodName := ⟨RX6, "step", "(LNoHedgeTwice$Land;I)I"⟩
abbrev cX6_dearest : ByteArray := prog_8_method_9_code
def yX6_dearest : MethodName := ⟨RX6, "dearest", "(LNoHedgeTwice$Land;)I"⟩
abbrev cX6_toNextDay : ByteArray := prog_8_method_10_code
def yX6_toNextDay : MethodName := ⟨RX6, "toNextDay", "(LNoHedgeTwice$Land;)Z"⟩
abbrev cX7_init : ByteArray := prog_9_method_1_code
def yX7_init : MethodName := ⟨RX7, "<init>", "()V"⟩
abbrev cX7_remember : ByteArray := prog_9_method_2_code
def yX7_remember : MethodName := ⟨RX7, "remember", "(LNoHedgeTwice$Spot;I)V"⟩
abbrev cX7_takeBack : ByteArray := prog_9_method_3_code
def yX7_takeBack : MethodName := ⟨RX7, "takeBack", "(LNoHedgeTwice$Spot;)Z"⟩
abbrev cX8_init : ByteArray := prog_10_method_1_code
def yX8_init : MethodName := ⟨RX8, "<init>", "()V"⟩
abbrev cX8_append : ByteArray := prog_10_method_2_code
def yX8_append : MethodName := ⟨RX8, "append", "(I)Z"⟩
abbrev cX8_readLines : ByteArray := prog_10_method_3_code
def yX8_readLines : MethodName := ⟨RX8, "readLines", "(LNoHedgeTwice$Land;)I"⟩
abbrev cX8_readLine : ByteArray := prog_10_method_4_code
def yX8_readLine : MethodName := ⟨RX8, "readLine", "(LNoHedgeTwice$Land;)Z"⟩
abbrev cX8_readCorner : ByteArray := prog_10_method_5_code
def yX8_readCorner : MethodName := ⟨RX8, "readCorner", "(LNoHedgeTwice$Land;)Z"⟩
abbrev cX8_readHedge : ByteArray := prog_10_method_6_code
def yX8_readHedge : MethodName := ⟨RX8, "readHedge", "(LNoHedgeTwice$Land;)Z"⟩
abbrev cX8_signAt : ByteArray := prog_10_method_7_code
def yX8_signAt : MethodName := ⟨RX8, "signAt", "()I"⟩
abbrev cX8_skip : ByteArray := prog_10_method_8_code
def yX8_skip : MethodName := ⟨RX8, "skip", "(C)Z"⟩
abbrev cX8_digit : ByteArray := prog_10_method_9_code
def yX8_digit : MethodName := ⟨RX8, "digit", "(I)I"⟩
abbrev cX8_cornerLetter : ByteArray := prog_10_method_10_code
def yX8_cornerLetter : MethodName := ⟨RX8, "cornerLetter", "(I)I"⟩
abbrev cX8_longDigits : ByteArray := prog_10_method_11_code
def yX8_longDigits : MethodName := ⟨RX8, "longDigits", "()I"⟩
abbrev cX8_marked : ByteArray := prog_10_method_12_code
def yX8_marked : MethodName := ⟨RX8, "marked", "(CI)I"⟩
abbrev cX9_init : ByteArray := prog_11_method_1_code
def yX9_init : MethodName := ⟨RX9, "<init>", "()V"⟩
abbrev cX9_firstBad : ByteArray := prog_11_method_2_code
def yX9_firstBad : MethodName := ⟨RX9, "firstBad", "(LNoHedgeTwice$Land;[CI)I"⟩
abbrev cX9_lay : ByteArray := prog_11_method_3_code
def yX9_lay : MethodName := ⟨RX9, "lay", "([CI)V"⟩
abbrev cX9_bits : ByteArray := prog_11_method_4_code
def yX9_bits : MethodName := ⟨RX9, "bits", "()I"⟩
abbrev cX9_schedule : ByteArray := prog_11_method_5_code
def yX9_schedule : MethodName := ⟨RX9, "schedule", "(LNoHedgeTwice$Land;)I"⟩
abbrev cX9_firstMeeting : ByteArray := prog_11_method_6_code
def yX9_firstMeeting : MethodName := ⟨RX9, "firstMeeting", "(LNoHedgeTwice$Tour;LNoHedgeTwice$Tour;I)I"⟩
abbrev cX9_minuteOfBoth : ByteArray := prog_11_method_7_code
def yX9_minuteOfBoth : MethodName := ⟨RX9, "minuteOfBoth", "(LNoHedgeTwice$Tour;ILNoHedgeTwice$Tour;II)I"⟩
abbrev cX10_init : ByteArray := prog_12_method_1_code
def yX10_init : MethodName := ⟨RX10, "<init>", "()V"⟩
abbrev cX10_explore : ByteArray := prog_12_method_2_code
def yX10_explore : MethodName := ⟨RX10, "explore", "(LNoHedgeTwice$Land;II)V"⟩
abbrev cX10_extend : ByteArray := prog_12_method_3_code
def yX10_extend : MethodName := ⟨RX10, "extend", "(LNoHedgeTwice$Land;III)V"⟩
abbrev cX10_minutesOf : ByteArray := prog_12_method_4_code
def yX10_minutesOf : MethodName := ⟨RX10, "minutesOf", "(I)I"⟩
abbrev cX10_dearest : ByteArray := prog_12_method_5_code
def yX10_dearest : MethodName := ⟨RX10, "dearest", "(LNoHedgeTwice$Land;IZ)I"⟩
abbrev cX10_quickest : ByteArray := prog_12_method_6_code
def yX10_quickest : MethodName := ⟨RX10, "quickest", "(LNoHedgeTwice$Land;I)I"⟩
abbrev cX11_init : ByteArray := prog_1_method_1_code
def yX11_init : MethodName := ⟨RX11, "<init>", "()V"⟩
abbrev cX11_sign : ByteArray := prog_1_method_2_code
def yX11_sign : MethodName := ⟨RX11, "sign", "(I)I"⟩
abbrev cX11_end : ByteArray := prog_1_method_3_code
def yX11_end : MethodName := ⟨RX11, "end", "(I)Z"⟩
abbrev cX11_land : ByteArray := prog_1_method_4_code
def yX11_land : MethodName := ⟨RX11, "land", "()I"⟩
abbrev cX11_hedge : ByteArray := prog_1_method_5_code
def yX11_hedge : MethodName := ⟨RX11, "hedge", "(II)I"⟩
abbrev cX11_grass : ByteArray := prog_1_method_6_code
def yX11_grass : MethodName := ⟨RX11, "grass", "(II)I"⟩
abbrev cX11_set : ByteArray := prog_1_method_7_code
def yX11_set : MethodName := ⟨RX11, "set", "(III)I"⟩
abbrev cX11_setDigit : ByteArray := prog_1_method_8_code
def yX11_setDigit : MethodName := ⟨RX11, "setDigit", "([III)I"⟩
abbrev cX11_setNights : ByteArray := prog_1_method_9_code
def yX11_setNights : MethodName := ⟨RX11, "setNights", "(I)I"⟩
abbrev cX11_setFrost : ByteArray := prog_1_method_10_code
def yX11_setFrost : MethodName := ⟨RX11, "setFrost", "(I)I"⟩
abbrev cX11_sheet : ByteArray := prog_1_method_11_code
def yX11_sheet : MethodName := ⟨RX11, "sheet", "(IIII)I"⟩
abbrev cX11_sheetEntry : ByteArray := prog_1_method_12_code
def yX11_sheetEntry : MethodName := ⟨RX11, "sheetEntry", "(II)I"⟩
abbrev cX11_walk : ByteArray := prog_1_method_13_code
def yX11_walk : MethodName := ⟨RX11, "walk", "(I)I"⟩
abbrev cX11_rest : ByteArray := prog_1_method_14_code
def yX11_rest : MethodName := ⟨RX11, "rest", "(I)I"⟩
abbrev cX11_undo : ByteArray := prog_1_method_15_code
def yX11_undo : MethodName := ⟨RX11, "undo", "()I"⟩
abbrev cX11_go : ByteArray := prog_1_method_16_code
def yX11_go : MethodName := ⟨RX11, "go", "(I)Z"⟩
abbrev cX11_can : ByteArray := prog_1_method_17_code
def yX11_can : MethodName := ⟨RX11, "can", "()I"⟩
abbrev cX11_tour : ByteArray := prog_1_method_18_code
def yX11_tour : MethodName := ⟨RX11, "tour", "(I)I"⟩
abbrev cX11_look : ByteArray := prog_1_method_19_code
def yX11_look : MethodName := ⟨RX11, "look", "(I)I"⟩
abbrev cX11_meets : ByteArray := prog_1_method_20_code
def yX11_meets : MethodName := ⟨RX11, "meets", "(I)I"⟩
abbrev cX11_apart : ByteArray := prog_1_method_21_code
def yX11_apart : MethodName := ⟨RX11, "apart", "()I"⟩
abbrev cX11_scheduleBoth : ByteArray := prog_1_method_22_code
def yX11_scheduleBoth : MethodName := ⟨RX11, "scheduleBoth", "()Z"⟩
abbrev cX11_season : ByteArray := prog_1_method_23_code
def yX11_season : MethodName := ⟨RX11, "season", "(I)I"⟩
abbrev cX11_walkersCorner : ByteArray := prog_1_method_24_code
def yX11_walkersCorner : MethodName := ⟨RX11, "walkersCorner", "()I"⟩
abbrev cX11_odd : ByteArray := prog_1_method_25_code
def yX11_odd : MethodName := ⟨RX11, "odd", "()I"⟩
abbrev cX11_men : ByteArray := prog_1_method_26_code
def yX11_men : MethodName := ⟨RX11, "men", "()I"⟩
abbrev cX11_trail : ByteArray := prog_1_method_27_code
def yX11_trail : MethodName := ⟨RX11, "trail", "(I)I"⟩
abbrev cX11_round : ByteArray := prog_1_method_28_code
def yX11_round : MethodName := ⟨RX11, "round", "()I"⟩
abbrev cX11_closed : ByteArray := prog_1_method_29_code
def yX11_closed : MethodName := ⟨RX11, "closed", "()I"⟩
abbrev cX11_open : ByteArray := prog_1_method_30_code
def yX11_open : MethodName := ⟨RX11, "open", "()I"⟩
abbrev cX11_most : ByteArray := prog_1_method_31_code
def yX11_most : MethodName := ⟨RX11, "most", "(II)I"⟩
abbrev cX11_home : ByteArray := prog_1_method_32_code
def yX11_home : MethodName := ⟨RX11, "home", "(II)I"⟩
abbrev cX11_mostWorth : ByteArray := prog_1_method_33_code
def yX11_mostWorth : MethodName := ⟨RX11, "mostWorth", "(IIZ)I"⟩
abbrev cX11_soon : ByteArray := prog_1_method_34_code
def yX11_soon : MethodName := ⟨RX11, "soon", "(II)I"⟩
abbrev cX11_bridges : ByteArray := prog_1_method_35_code
def yX11_bridges : MethodName := ⟨RX11, "bridges", "()I"⟩
abbrev cX11_reach : ByteArray := prog_1_method_36_code
def yX11_reach : MethodName := ⟨RX11, "reach", "(I)I"⟩
abbrev cX11_gates : ByteArray := prog_1_method_37_code
def yX11_gates : MethodName := ⟨RX11, "gates", "(I)I"⟩
abbrev cX11_heard : ByteArray := prog_1_method_38_code
def yX11_heard : MethodName := ⟨RX11, "heard", "(II)I"⟩
abbrev cX11_forget : ByteArray := prog_1_method_39_code
def yX11_forget : MethodName := ⟨RX11, "forget", "()I"⟩
abbrev cX11_lands : ByteArray := prog_1_method_40_code
def yX11_lands : MethodName := ⟨RX11, "lands", "()I"⟩
abbrev cX11_sure : ByteArray := prog_1_method_41_code
def yX11_sure : MethodName := ⟨RX11, "sure", "()I"⟩
abbrev cX11_next : ByteArray := prog_1_method_42_code
def yX11_next : MethodName := ⟨RX11, "next", "()I"⟩
abbrev cX11_lies : ByteArray := prog_1_method_43_code
def yX11_lies : MethodName := ⟨RX11, "lies", "()I"⟩
abbrev cX11_quarrel : ByteArray := prog_1_method_44_code
def yX11_quarrel : MethodName := ⟨RX11, "quarrel", "()I"⟩
abbrev cX11_keep : ByteArray := prog_1_method_45_code
def yX11_keep : MethodName := ⟨RX11, "keep", "(I)Z"⟩
abbrev cX11_again : ByteArray := prog_1_method_46_code
def yX11_again : MethodName := ⟨RX11, "again", "(I)Z"⟩
abbrev cX11_count : ByteArray := prog_1_method_47_code
def yX11_count : MethodName := ⟨RX11, "count", "(I)I"⟩
abbrev cX11_row : ByteArray := prog_1_method_48_code
def yX11_row : MethodName := ⟨RX11, "row", "(I)I"⟩
abbrev cX12_refuse : ByteArray := prog_14_method_2_code
def yX12_refuse : MethodName := ⟨RX12, "refuse", "()I"⟩
abbrev cX12_in : ByteArray := prog_14_method_3_code
def yX12_in : MethodName := ⟨RX12, "in", "(JJJ)Z"⟩
abbrev cX12_has : ByteArray := prog_14_method_4_code
def yX12_has : MethodName := ⟨RX12, "has", "(II)Z"⟩
abbrev cX12_flag : ByteArray := prog_14_method_5_code
def yX12_flag : MethodName := ⟨RX12, "flag", "(Z)I"⟩
abbrev cX12_enters : ByteArray := prog_14_method_6_code
def yX12_enters : MethodName := ⟨RX12, "enters", "(I)V"⟩
abbrev cX12_isCorner : ByteArray := prog_14_method_7_code
def yX12_isCorner : MethodName := ⟨RX12, "isCorner", "(I)Z"⟩
abbrev cX12_isHedge : ByteArray := prog_14_method_8_code
def yX12_isHedge : MethodName := ⟨RX12, "isHedge", "(I)Z"⟩
abbrev cX12_sign : ByteArray := prog_14_method_9_code
def yX12_sign : MethodName := ⟨RX12, "sign", "(I)I"⟩
abbrev cX12_end : ByteArray := prog_14_method_10_code
def yX12_end : MethodName := ⟨RX12, "end", "(I)Z"⟩
abbrev cX12_begins : ByteArray := prog_14_method_11_code
def yX12_begins : MethodName := ⟨RX12, "begins", "(I)I"⟩
abbrev cX12_takes : ByteArray := prog_14_method_12_code
def yX12_takes : MethodName := ⟨RX12, "takes", "(I)Z"⟩
abbrev cX12_isDigit : ByteArray := prog_14_method_13_code
def yX12_isDigit : MethodName := ⟨RX12, "isDigit", "()Z"⟩
abbrev cX12_digit : ByteArray := prog_14_method_14_code
def yX12_digit : MethodName := ⟨RX12, "digit", "(I)I"⟩
abbrev cX12_number : ByteArray := prog_14_method_15_code
def yX12_number : MethodName := ⟨RX12, "number", "(II)I"⟩
abbrev cX12_faultOf : ByteArray := prog_14_method_16_code
def yX12_faultOf : MethodName := ⟨RX12, "faultOf", "(IIZ)I"⟩
abbrev cX12_readsCorner : ByteArray := prog_14_method_17_code
def yX12_readsCorner : MethodName := ⟨RX12, "readsCorner", "()Z"⟩
abbrev cX12_cornerBut : ByteArray := prog_14_method_18_code
def yX12_cornerBut : MethodName := ⟨RX12, "cornerBut", "(I)I"⟩
abbrev cX12_readsHedge : ByteArray := prog_14_method_19_code
def yX12_readsHedge : MethodName := ⟨RX12, "readsHedge", "()Z"⟩
abbrev cX12_isAt : ByteArray := prog_14_method_20_code
def yX12_isAt : MethodName := ⟨RX12, "isAt", "(I)Z"⟩
abbrev cX12_land : ByteArray := prog_14_method_21_code
def yX12_land : MethodName := ⟨RX12, "land", "()I"⟩
abbrev cX12_dayOf : ByteArray := prog_14_method_22_code
def yX12_dayOf : MethodName := ⟨RX12, "dayOf", "(I)I"⟩
abbrev cX12_isLight : ByteArray := prog_14_method_23_code
def yX12_isLight : MethodName := ⟨RX12, "isLight", "(I)Z"⟩
abbrev cX12_isFresh : ByteArray := prog_14_method_24_code
def yX12_isFresh : MethodName := ⟨RX12, "isFresh", "(II)Z"⟩
abbrev cX12_hedge : ByteArray := prog_14_method_25_code
def yX12_hedge : MethodName := ⟨RX12, "hedge", "(II)I"⟩
abbrev cX12_grassOf : ByteArray := prog_14_method_26_code
def yX12_grassOf : MethodName := ⟨RX12, "grassOf", "(II)I"⟩
abbrev cX12_grass : ByteArray := prog_14_method_27_code
def yX12_grass : MethodName := ⟨RX12, "grass", "(II)I"⟩
abbrev cX12_set : ByteArray := prog_14_method_28_code
def yX12_set : MethodName := ⟨RX12, "set", "(III)I"⟩
abbrev cX12_sheet : ByteArray := prog_14_method_29_code
def yX12_sheet : MethodName := ⟨RX12, "sheet", "(IIII)I"⟩
abbrev cX12_minutesFrom : ByteArray := prog_14_method_30_code
def yX12_minutesFrom : MethodName := ⟨RX12, "minutesFrom", "(II)I"⟩
abbrev cX12_isEnd : ByteArray := prog_14_method_31_code
def yX12_isEnd : MethodName := ⟨RX12, "isEnd", "(II)Z"⟩
abbrev cX12_endOf : ByteArray := prog_14_method_32_code
def yX12_endOf : MethodName := ⟨RX12, "endOf", "(II)I"⟩
abbrev cX12_whyNot : ByteArray := prog_14_method_33_code
def yX12_whyNot : MethodName := ⟨RX12, "whyNot", "(I)I"⟩
abbrev cX12_putsBy : ByteArray := prog_14_method_34_code
def yX12_putsBy : MethodName := ⟨RX12, "putsBy", "(I)V"⟩
abbrev cX12_walks : ByteArray := prog_14_method_35_code
def yX12_walks : MethodName := ⟨RX12, "walks", "(I)I"⟩
abbrev cX12_walk : ByteArray := prog_14_method_36_code
def yX12_walk : MethodName := ⟨RX12, "walk", "(I)I"⟩
abbrev cX12_rest : ByteArray := prog_14_method_37_code
def yX12_rest : MethodName := ⟨RX12, "rest", "(I)I"⟩
abbrev cX12_undo : ByteArray := prog_14_method_38_code
def yX12_undo : MethodName := ⟨RX12, "undo", "()I"⟩
abbrev cX12_go : ByteArray := prog_14_method_39_code
def yX12_go : MethodName := ⟨RX12, "go", "(I)Z"⟩
abbrev cX12_canNow : ByteArray := prog_14_method_40_code
def yX12_canNow : MethodName := ⟨RX12, "canNow", "()I"⟩
abbrev cX12_can : ByteArray := prog_14_method_41_code
def yX12_can : MethodName := ⟨RX12, "can", "()I"⟩
abbrev cX12_tour : ByteArray := prog_14_method_42_code
def yX12_tour : MethodName := ⟨RX12, "tour", "(I)I"⟩
abbrev cX12_putsWalker : ByteArray := prog_14_method_43_code
def yX12_putsWalker : MethodName := ⟨RX12, "putsWalker", "()V"⟩
abbrev cX12_putsBack : ByteArray := prog_14_method_44_code
def yX12_putsBack : MethodName := ⟨RX12, "putsBack", "()V"⟩
abbrev cX12_look : ByteArray := prog_14_method_45_code
def yX12_look : MethodName := ⟨RX12, "look", "(I)I"⟩
abbrev cX12_cornerOf : ByteArray := prog_14_method_46_code
def yX12_cornerOf : MethodName := ⟨RX12, "cornerOf", "(III)I"⟩
abbrev cX12_meetsBy : ByteArray := prog_14_method_47_code
def yX12_meetsBy : MethodName := ⟨RX12, "meetsBy", "(I)I"⟩
abbrev cX12_meets : ByteArray := prog_14_method_48_code
def yX12_meets : MethodName := ⟨RX12, "meets", "(I)I"⟩
abbrev cX12_apart : ByteArray := prog_14_method_49_code
def yX12_apart : MethodName := ⟨RX12, "apart", "()I"⟩
abbrev cX12_sleeps : ByteArray := prog_14_method_50_code
def yX12_sleeps : MethodName := ⟨RX12, "sleeps", "()Z"⟩
abbrev cX12_season : ByteArray := prog_14_method_51_code
def yX12_season : MethodName := ⟨RX12, "season", "(I)I"⟩
abbrev cX12_parts : ByteArray := prog_14_method_52_code
def yX12_parts : MethodName := ⟨RX12, "parts", "(I)V"⟩
abbrev cX12_allHedges : ByteArray := prog_14_method_53_code
def yX12_allHedges : MethodName := ⟨RX12, "allHedges", "()I"⟩
abbrev cX12_oddOf : ByteArray := prog_14_method_54_code
def yX12_oddOf : MethodName := ⟨RX12, "oddOf", "(I)I"⟩
abbrev cX12_odd : ByteArray := prog_14_method_55_code
def yX12_odd : MethodName := ⟨RX12, "odd", "()I"⟩
abbrev cX12_partOfHedges : ByteArray := prog_14_method_56_code
def yX12_partOfHedges : MethodName := ⟨RX12, "partOfHedges", "(II)I"⟩
abbrev cX12_men : ByteArray := prog_14_method_57_code
def yX12_men : MethodName := ⟨RX12, "men", "()I"⟩
abbrev cX12_canTrail : ByteArray := prog_14_method_58_code
def yX12_canTrail : MethodName := ⟨RX12, "canTrail", "(II)Z"⟩
abbrev cX12_trail : ByteArray := prog_14_method_59_code
def yX12_trail : MethodName := ⟨RX12, "trail", "(I)I"⟩
abbrev cX12_hangTogether : ByteArray := prog_14_method_60_code
def yX12_hangTogether : MethodName := ⟨RX12, "hangTogether", "()Z"⟩
abbrev cX12_isEven : ByteArray := prog_14_method_61_code
def yX12_isEven : MethodName := ⟨RX12, "isEven", "(I)Z"⟩
abbrev cX12_round : ByteArray := prog_14_method_62_code
def yX12_round : MethodName := ⟨RX12, "round", "()I"⟩
abbrev cX12_isLessRow : ByteArray := prog_14_method_63_code
def yX12_isLessRow : MethodName := ⟨RX12, "isLessRow", "()Z"⟩
abbrev cX12_couples : ByteArray := prog_14_method_64_code
def yX12_couples : MethodName := ⟨RX12, "couples", "(III)V"⟩
abbrev cX12_pairsBy : ByteArray := prog_14_method_65_code
def yX12_pairsBy : MethodName := ⟨RX12, "pairsBy", "(I)I"⟩
abbrev cX12_closed : ByteArray := prog_14_method_66_code
def yX12_closed : MethodName := ⟨RX12, "closed", "()I"⟩
abbrev cX12_open : ByteArray := prog_14_method_67_code
def yX12_open : MethodName := ⟨RX12, "open", "()I"⟩
abbrev cX12_laysOut : ByteArray := prog_14_method_68_code
def yX12_laysOut : MethodName := ⟨RX12, "laysOut", "(I)V"⟩
abbrev cX12_worthOf : ByteArray := prog_14_method_69_code
def yX12_worthOf : MethodName := ⟨RX12, "worthOf", "(I)I"⟩
abbrev cX12_soonest : ByteArray := prog_14_method_70_code
def yX12_soonest : MethodName := ⟨RX12, "soonest", "(II)I"⟩
abbrev cX12_mostBy : ByteArray := prog_14_method_71_code
def yX12_mostBy : MethodName := ⟨RX12, "mostBy", "(III)I"⟩
abbrev cX12_most : ByteArray := prog_14_method_72_code
def yX12_most : MethodName := ⟨RX12, "most", "(II)I"⟩
abbrev cX12_home : ByteArray := prog_14_method_73_code
def yX12_home : MethodName := ⟨RX12, "home", "(II)I"⟩
abbrev cX12_soon : ByteArray := prog_14_method_74_code
def yX12_soon : MethodName := ⟨RX12, "soon", "(II)I"⟩
abbrev cX12_bridges : ByteArray := prog_14_method_75_code
def yX12_bridges : MethodName := ⟨RX12, "bridges", "()I"⟩
abbrev cX12_reach : ByteArray := prog_14_method_76_code
def yX12_reach : MethodName := ⟨RX12, "reach", "(I)I"⟩
abbrev cX12_measures : ByteArray := prog_14_method_77_code
def yX12_measures : MethodName := ⟨RX12, "measures", "()V"⟩
abbrev cX12_shortens : ByteArray := prog_14_method_78_code
def yX12_shortens : MethodName := ⟨RX12, "shortens", "(III)V"⟩
abbrev cX12_gateBy : ByteArray := prog_14_method_79_code
def yX12_gateBy : MethodName := ⟨RX12, "gateBy", "(IIII)I"⟩
abbrev cX12_gateBest : ByteArray := prog_14_method_80_code
def yX12_gateBest : MethodName := ⟨RX12, "gateBest", "(III)I"⟩
abbrev cX12_laysOutGates : ByteArray := prog_14_method_81_code
def yX12_laysOutGates : MethodName := ⟨RX12, "laysOutGates", "()V"⟩
abbrev cX12_gates : ByteArray := prog_14_method_82_code
def yX12_gates : MethodName := ⟨RX12, "gates", "(I)I"⟩
abbrev cX12_isOnWay : ByteArray := prog_14_method_83_code
def yX12_isOnWay : MethodName := ⟨RX12, "isOnWay", "(III)Z"⟩
abbrev cX12_goesThrough : ByteArray := prog_14_method_84_code
def yX12_goesThrough : MethodName := ⟨RX12, "goesThrough", "(I)V"⟩
abbrev cX12_comesTo : ByteArray := prog_14_method_85_code
def yX12_comesTo : MethodName := ⟨RX12, "comesTo", "(II)V"⟩
abbrev cX12_heard : ByteArray := prog_14_method_86_code
def yX12_heard : MethodName := ⟨RX12, "heard", "(II)I"⟩
abbrev cX12_forget : ByteArray := prog_14_method_87_code
def yX12_forget : MethodName := ⟨RX12, "forget", "()I"⟩
abbrev cX12_cowsOf : ByteArray := prog_14_method_88_code
def yX12_cowsOf : MethodName := ⟨RX12, "cowsOf", "(II)I"⟩
abbrev cX12_over : ByteArray := prog_14_method_89_code
def yX12_over : MethodName := ⟨RX12, "over", "(II)I"⟩
abbrev cX12_wrongOf : ByteArray := prog_14_method_90_code
def yX12_wrongOf : MethodName := ⟨RX12, "wrongOf", "(I)I"⟩
abbrev cX12_digitsOf : ByteArray := prog_14_method_91_code
def yX12_digitsOf : MethodName := ⟨RX12, "digitsOf", "(I)I"⟩
abbrev cX12_lands : ByteArray := prog_14_method_92_code
def yX12_lands : MethodName := ⟨RX12, "lands", "()I"⟩
abbrev cX12_sure : ByteArray := prog_14_method_93_code
def yX12_sure : MethodName := ⟨RX12, "sure", "()I"⟩
abbrev cX12_next : ByteArray := prog_14_method_94_code
def yX12_next : MethodName := ⟨RX12, "next", "()I"⟩
abbrev cX12_lies : ByteArray := prog_14_method_95_code
def yX12_lies : MethodName := ⟨RX12, "lies", "()I"⟩
abbrev cX12_holds : ByteArray := prog_14_method_96_code
def yX12_holds : MethodName := ⟨RX12, "holds", "(I)Z"⟩
abbrev cX12_quarrel : ByteArray := prog_14_method_97_code
def yX12_quarrel : MethodName := ⟨RX12, "quarrel", "()I"⟩
abbrev cX12_keep : ByteArray := prog_14_method_98_code
def yX12_keep : MethodName := ⟨RX12, "keep", "(I)Z"⟩
abbrev cX12_again : ByteArray := prog_14_method_99_code
def yX12_again : MethodName := ⟨RX12, "again", "(I)Z"⟩
abbrev cX12_count : ByteArray := prog_14_method_100_code
def yX12_count : MethodName := ⟨RX12, "count", "(I)I"⟩
abbrev cX12_init : ByteArray := prog_14_method_101_code
def yX12_init : MethodName := ⟨RX12, "<init>", "()V"⟩
abbrev cX12_row : ByteArray := prog_14_method_102_code
def yX12_row : MethodName := ⟨RX12, "row", "(I)I"⟩
abbrev cJ6_numberOfTrailingZeros_0f7a4 : ByteArray := prog_17_method_48_code
def yJ6_numberOfTrailingZeros_0f7a4 : MethodName := ⟨RJ6, "numberOfTrailingZeros", "(I)I"⟩
abbrev cJ6_bitCount_0f7a4 : ByteArray := prog_17_method_49_code
def yJ6_bitCount_0f7a4 : MethodName := ⟨RJ6, "bitCount", "(I)I"⟩
abbrev cL_hedge : ByteArray := method_3_code
def yL_hedge : MethodName := ⟨RL, "hedge", "(LNoHedgeTwice;II[J)I"⟩
abbrev cL_reach : ByteArray := method_4_code
def yL_reach : MethodName := ⟨RL, "reach", "(LNoHedgeTwice;I[J)I"⟩
abbrev cL_row : ByteArray := method_5_code
def yL_row : MethodName := ⟨RL, "row", "(LNoHedgeTwice;I[J)I"⟩
abbrev cL_law : ByteArray := code
def yL_law : MethodName := ⟨RL, "law", "([I)Z"⟩
def sm_fty : Nat → Nat → Nat := fun c k => match c with
  | 0 => cond (Nat.beq k 2) 9 (cond (Nat.beq k 3) 9 (cond (Nat.beq k 4) 9 (cond (Nat.beq k 5) 9 0)))
  | 1 => cond (Nat.beq k 0) 9 (cond (Nat.beq k 3) 9 (cond (Nat.beq k 4) 9 (cond (Nat.beq k 5) 9 (cond (Nat.beq k 6) 9 0))))
  | 2 => cond (Nat.beq k 4) 9 (cond (Nat.beq k 5) 9 (cond (Nat.beq k 6) 9 (cond (Nat.beq k 7) 9 (cond (Nat.beq k 8) 9 (cond (Nat.beq k 9) 9 (cond (Nat.beq k 10) 9 (cond (Nat.beq k 11) 9 (cond (Nat.beq k 12) 9 (cond (Nat.beq k 13) 9 0)))))))))
  | 3 => cond (Nat.beq k 1) 9 0
  | 4 => cond (Nat.beq k 0) 9 (cond (Nat.beq k 1) 9 (cond (Nat.beq k 2) 9 0))
  | 5 => cond (Nat.beq k 0) 9 0
  | 6 => cond (Nat.beq k 2) 9 0
  | 7 => cond (Nat.beq k 2) 9 (cond (Nat.beq k 3) 9 (cond (Nat.beq k 4) 9 (cond (Nat.beq k 5) 9 0)))
  | 8 => cond (Nat.beq k 0) 9 0
  | 9 => cond (Nat.beq k 3) 9 (cond (Nat.beq k 4) 9 (cond (Nat.beq k 5) 9 0))
  | 10 => cond (Nat.beq k 0) 9 0
  | 11 => cond (Nat.beq k 0) 9 (cond (Nat.beq k 1) 9 (cond (Nat.beq k 2) 9 (cond (Nat.beq k 3) 9 (cond (Nat.beq k 4) 9 (cond (Nat.beq k 5) 9 (cond (Nat.beq k 6) 9 (cond (Nat.beq k 7) 9 (cond (Nat.beq k 8) 9 (cond (Nat.beq k 9) 9 (cond (Nat.beq k 10) 9 (cond (Nat.beq k 11) 9 (cond (Nat.beq k 12) 9 0))))))))))))
  | 12 => cond (Nat.beq k 2) 9 (cond (Nat.beq k 4) 9 (cond (Nat.beq k 5) 9 (cond (Nat.beq k 7) 9 (cond (Nat.beq k 8) 9 (cond (Nat.beq k 9) 9 (cond (Nat.beq k 10) 9 (cond (Nat.beq k 11) 9 (cond (Nat.beq k 12) 9 (cond (Nat.beq k 13) 9 (cond (Nat.beq k 19) 9 (cond (Nat.beq k 20) 9 (cond (Nat.beq k 28) 9 (cond (Nat.beq k 29) 9 (cond (Nat.beq k 30) 9 (cond (Nat.beq k 31) 9 (cond (Nat.beq k 32) 9 (cond (Nat.beq k 33) 9 (cond (Nat.beq k 34) 9 (cond (Nat.beq k 35) 9 (cond (Nat.beq k 38) 9 (cond (Nat.beq k 40) 9 (cond (Nat.beq k 41) 9 (cond (Nat.beq k 43) 9 (cond (Nat.beq k 44) 9 (cond (Nat.beq k 47) 9 (cond (Nat.beq k 48) 9 (cond (Nat.beq k 49) 9 (cond (Nat.beq k 50) 9 (cond (Nat.beq k 52) 9 (cond (Nat.beq k 53) 9 (cond (Nat.beq k 54) 9 (cond (Nat.beq k 55) 9 (cond (Nat.beq k 56) 9 0)))))))))))))))))))))))))))))))))
  | _ => 0
/-- kinds of arrays: their tags, their elements -/
def sm_tags : List (Nat × FieldType) := [(100, .int), (101, .long), (102, .char), (103, .boolean), (150, .array .int), (160, .object "NoHedgeTwice$Tour"), (161, .object "NoHedgeTwice$Spot")]
def sm_ao : List String := ["NoHedgeTwice$Tour", "NoHedgeTwice$Spot"]
abbrev mX0_init : MethodName × ByteArray × Nat × Option FieldType := (yX0_init, cX0_init, 1, none)
abbrev mX0_hear : MethodName × ByteArray × Nat × Option FieldType := (yX0_hear, cX0_hear, 3, some .boolean)
abbrev mX0_cowsIn : MethodName × ByteArray × Nat × Option FieldType := (yX0_cowsIn, cX0_cowsIn, 2, some .int)
abbrev mX0_asDigits : MethodName × ByteArray × Nat × Option FieldType := (yX0_asDigits, cX0_asDigits, 3, some .int)
abbrev mX0_cowsOver : MethodName × ByteArray × Nat × Option FieldType := (yX0_cowsOver, cX0_cowsOver, 3, some .int)
abbrev mX0_isLie : MethodName × ByteArray × Nat × Option FieldType := (yX0_isLie, cX0_isLie, 4, some .boolean)
abbrev mX0_liesOf : MethodName × ByteArray × Nat × Option FieldType := (yX0_liesOf, cX0_liesOf, 5, some .int)
abbrev mX0_allHold : MethodName × ByteArray × Nat × Option FieldType := (yX0_allHold, cX0_allHold, 5, some .boolean)
abbrev mX0_all : MethodName × ByteArray × Nat × Option FieldType := (yX0_all, cX0_all, 1, some .int)
abbrev mX0_findWays : MethodName × ByteArray × Nat × Option FieldType := (yX0_findWays, cX0_findWays, 4, some .int)
abbrev mX0_isFound : MethodName × ByteArray × Nat × Option FieldType := (yX0_isFound, cX0_isFound, 2, some .boolean)
abbrev mX0_differences : MethodName × ByteArray × Nat × Option FieldType := (yX0_differences, cX0_differences, 3, some .int)
abbrev mX0_mostLeft : MethodName × ByteArray × Nat × Option FieldType := (yX0_mostLeft, cX0_mostLeft, 6, some .int)
abbrev mX0_fewestLies : MethodName × ByteArray × Nat × Option FieldType := (yX0_fewestLies, cX0_fewestLies, 6, some .int)
abbrev mX0_hasWay : MethodName × ByteArray × Nat × Option FieldType := (yX0_hasWay, cX0_hasWay, 4, some .boolean)
abbrev mX0_firstWithoutWays : MethodName × ByteArray × Nat × Option FieldType := (yX0_firstWithoutWays, cX0_firstWithoutWays, 3, some .int)
abbrev mX0_firstAgainst : MethodName × ByteArray × Nat × Option FieldType := (yX0_firstAgainst, cX0_firstAgainst, 4, some .int)
abbrev mX1_init : MethodName × ByteArray × Nat × Option FieldType := (yX1_init, cX1_init, 1, none)
abbrev mX1_prepare : MethodName × ByteArray × Nat × Option FieldType := (yX1_prepare, cX1_prepare, 3, none)
abbrev mX1_layPaths : MethodName × ByteArray × Nat × Option FieldType := (yX1_layPaths, cX1_layPaths, 5, none)
abbrev mX1_shortenPaths : MethodName × ByteArray × Nat × Option FieldType := (yX1_shortenPaths, cX1_shortenPaths, 5, none)
abbrev mX1_numberInPart : MethodName × ByteArray × Nat × Option FieldType := (yX1_numberInPart, cX1_numberInPart, 3, none)
abbrev mX1_partAfter : MethodName × ByteArray × Nat × Option FieldType := (yX1_partAfter, cX1_partAfter, 7, some .int)
abbrev mX1_fewestMinutes : MethodName × ByteArray × Nat × Option FieldType := (yX1_fewestMinutes, cX1_fewestMinutes, 7, some .int)
abbrev mX1_placeOf : MethodName × ByteArray × Nat × Option FieldType := (yX1_placeOf, cX1_placeOf, 3, some .int)
abbrev mX1_bestOn : MethodName × ByteArray × Nat × Option FieldType := (yX1_bestOn, cX1_bestOn, 7, some .int)
abbrev mX1_minutesBy : MethodName × ByteArray × Nat × Option FieldType := (yX1_minutesBy, cX1_minutesBy, 8, some .int)
abbrev mX1_tellLeastOrder : MethodName × ByteArray × Nat × Option FieldType := (yX1_tellLeastOrder, cX1_tellLeastOrder, 10, none)
abbrev mX1_endsOfBest : MethodName × ByteArray × Nat × Option FieldType := (yX1_endsOfBest, cX1_endsOfBest, 9, some .int)
abbrev mX2_init : MethodName × ByteArray × Nat × Option FieldType := (yX2_init, cX2_init, 1, none)
abbrev mX2_hasCorner : MethodName × ByteArray × Nat × Option FieldType := (yX2_hasCorner, cX2_hasCorner, 2, some .boolean)
abbrev mX2_hasHedge : MethodName × ByteArray × Nat × Option FieldType := (yX2_hasHedge, cX2_hasHedge, 2, some .boolean)
abbrev mX2_touches : MethodName × ByteArray × Nat × Option FieldType := (yX2_touches, cX2_touches, 3, some .boolean)
abbrev mX2_otherEnd : MethodName × ByteArray × Nat × Option FieldType := (yX2_otherEnd, cX2_otherEnd, 3, some .int)
abbrev mX2_minutesFrom : MethodName × ByteArray × Nat × Option FieldType := (yX2_minutesFrom, cX2_minutesFrom, 3, some .int)
abbrev mX2_grassBetween : MethodName × ByteArray × Nat × Option FieldType := (yX2_grassBetween, cX2_grassBetween, 3, some .int)
abbrev mX2_everyHedge : MethodName × ByteArray × Nat × Option FieldType := (yX2_everyHedge, cX2_everyHedge, 1, some .int)
abbrev mX2_endsOf : MethodName × ByteArray × Nat × Option FieldType := (yX2_endsOf, cX2_endsOf, 2, some .int)
abbrev mX2_worthOf : MethodName × ByteArray × Nat × Option FieldType := (yX2_worthOf, cX2_worthOf, 4, some .int)
abbrev mX2_oddCorners : MethodName × ByteArray × Nat × Option FieldType := (yX2_oddCorners, cX2_oddCorners, 4, some .int)
abbrev mX2_hanging : MethodName × ByteArray × Nat × Option FieldType := (yX2_hanging, cX2_hanging, 7, some .int)
abbrev mX2_hangsTogether : MethodName × ByteArray × Nat × Option FieldType := (yX2_hangsTogether, cX2_hangsTogether, 1, some .boolean)
abbrev mX2_holdsAll : MethodName × ByteArray × Nat × Option FieldType := (yX2_holdsAll, cX2_holdsAll, 4, some .boolean)
abbrev mX2_isTrail : MethodName × ByteArray × Nat × Option FieldType := (yX2_isTrail, cX2_isTrail, 5, some .boolean)
abbrev mX3_init : MethodName × ByteArray × Nat × Option FieldType := (yX3_init, cX3_init, 2, none)
abbrev mX3_fillWithForever : MethodName × ByteArray × Nat × Option FieldType := (yX3_fillWithForever, cX3_fillWithForever, 3, none)
abbrev mX3_at : MethodName × ByteArray × Nat × Option FieldType := (yX3_at, cX3_at, 2, some .int)
abbrev mX3_put : MethodName × ByteArray × Nat × Option FieldType := (yX3_put, cX3_put, 6, none)
abbrev mX4_init : MethodName × ByteArray × Nat × Option FieldType := (yX4_init, cX4_init, 1, none)
abbrev mX4_leastTrail : MethodName × ByteArray × Nat × Option FieldType := (yX4_leastTrail, cX4_leastTrail, 9, some .int)
abbrev mX4_leastStep : MethodName × ByteArray × Nat × Option FieldType := (yX4_leastStep, cX4_leastStep, 4, some .int)
abbrev mX4_windOf : MethodName × ByteArray × Nat × Option FieldType := (yX4_windOf, cX4_windOf, 5, some .int)
abbrev mX4_cheapestTurns : MethodName × ByteArray × Nat × Option FieldType := (yX4_cheapestTurns, cX4_cheapestTurns, 6, some .int)
abbrev mX4_sortEnds : MethodName × ByteArray × Nat × Option FieldType := (yX4_sortEnds, cX4_sortEnds, 3, none)
abbrev mX4_isBalanced : MethodName × ByteArray × Nat × Option FieldType := (yX4_isBalanced, cX4_isBalanced, 6, some .boolean)
abbrev mX4_leastGrass : MethodName × ByteArray × Nat × Option FieldType := (yX4_leastGrass, cX4_leastGrass, 7, some .int)
abbrev mX4_costOf : MethodName × ByteArray × Nat × Option FieldType := (yX4_costOf, cX4_costOf, 8, some .int)
abbrev mX4_lowestOf : MethodName × ByteArray × Nat × Option FieldType := (yX4_lowestOf, cX4_lowestOf, 2, some .int)
abbrev mX4_costWithPair : MethodName × ByteArray × Nat × Option FieldType := (yX4_costWithPair, cX4_costWithPair, 7, some .int)
abbrev mX4_tellPairs : MethodName × ByteArray × Nat × Option FieldType := (yX4_tellPairs, cX4_tellPairs, 9, none)
abbrev mX4_partnerOf : MethodName × ByteArray × Nat × Option FieldType := (yX4_partnerOf, cX4_partnerOf, 7, some .int)
abbrev mX5_init : MethodName × ByteArray × Nat × Option FieldType := (yX5_init, cX5_init, 1, none)
abbrev mX5_clear : MethodName × ByteArray × Nat × Option FieldType := (yX5_clear, cX5_clear, 1, none)
abbrev mX5_add : MethodName × ByteArray × Nat × Option FieldType := (yX5_add, cX5_add, 2, none)
abbrev mX5_tell : MethodName × ByteArray × Nat × Option FieldType := (yX5_tell, cX5_tell, 2, none)
abbrev mX6_init : MethodName × ByteArray × Nat × Option FieldType := (yX6_init, cX6_init, 2, none)
abbrev mX6_beginAt : MethodName × ByteArray × Nat × Option FieldType := (yX6_beginAt, cX6_beginAt, 3, none)
abbrev mX6_copyFrom : MethodName × ByteArray × Nat × Option FieldType := (yX6_copyFrom, cX6_copyFrom, 3, none)
abbrev mX6_day : MethodName × ByteArray × Nat × Option FieldType := (yX6_day, cX6_day, 1, some .int)
abbrev mX6_isLight : MethodName × ByteArray × Nat × Option FieldType := (yX6_isLight, cX6_isLight, 1, some .boolean)
abbrev mX6_isFresh : MethodName × ByteArray × Nat × Option FieldType := (yX6_isFresh, cX6_isFresh, 3, some .boolean)
abbrev mX6_whyNot : MethodName × ByteArray × Nat × Option FieldType := (yX6_whyNot, cX6_whyNot, 3, some .int)
abbrev mX6_step : MethodName × ByteArray × Nat × Option FieldType := (yX6_step, cX6_step, 4, some .int)
abbrev mX6_dearest : MethodName × ByteArray × Nat × Option FieldType := (yX6_dearest, cX6_dearest, 5, some .int)
abbrev mX6_toNextDay : MethodName × ByteArray × Nat × Option FieldType := (yX6_toNextDay, cX6_toNextDay, 3, some .boolean)
abbrev mX7_init : MethodName × ByteArray × Nat × Option FieldType := (yX7_init, cX7_init, 1, none)
abbrev mX7_remember : MethodName × ByteArray × Nat × Option FieldType := (yX7_remember, cX7_remember, 3, none)
abbrev mX7_takeBack : MethodName × ByteArray × Nat × Option FieldType := (yX7_takeBack, cX7_takeBack, 2, some .boolean)
abbrev mX8_init : MethodName × ByteArray × Nat × Option FieldType := (yX8_init, cX8_init, 1, none)
abbrev mX8_append : MethodName × ByteArray × Nat × Option FieldType := (yX8_append, cX8_append, 3, some .boolean)
abbrev mX8_readLines : MethodName × ByteArray × Nat × Option FieldType := (yX8_readLines, cX8_readLines, 4, some .int)
abbrev mX8_readLine : MethodName × ByteArray × Nat × Option FieldType := (yX8_readLine, cX8_readLine, 2, some .boolean)
abbrev mX8_readCorner : MethodName × ByteArray × Nat × Option FieldType := (yX8_readCorner, cX8_readCorner, 4, some .boolean)
abbrev mX8_readHedge : MethodName × ByteArray × Nat × Option FieldType := (yX8_readHedge, cX8_readHedge, 9, some .boolean)
abbrev mX8_signAt : MethodName × ByteArray × Nat × Option FieldType := (yX8_signAt, cX8_signAt, 1, some .int)
abbrev mX8_skip : MethodName × ByteArray × Nat × Option FieldType := (yX8_skip, cX8_skip, 2, some .boolean)
abbrev mX8_digit : MethodName × ByteArray × Nat × Option FieldType := (yX8_digit, cX8_digit, 3, some .int)
abbrev mX8_cornerLetter : MethodName × ByteArray × Nat × Option FieldType := (yX8_cornerLetter, cX8_cornerLetter, 3, some .int)
abbrev mX8_longDigits : MethodName × ByteArray × Nat × Option FieldType := (yX8_longDigits, cX8_longDigits, 3, some .int)
abbrev mX8_marked : MethodName × ByteArray × Nat × Option FieldType := (yX8_marked, cX8_marked, 3, some .int)
abbrev mX9_init : MethodName × ByteArray × Nat × Option FieldType := (yX9_init, cX9_init, 1, none)
abbrev mX9_firstBad : MethodName × ByteArray × Nat × Option FieldType := (yX9_firstBad, cX9_firstBad, 6, some .int)
abbrev mX9_lay : MethodName × ByteArray × Nat × Option FieldType := (yX9_lay, cX9_lay, 4, none)
abbrev mX9_bits : MethodName × ByteArray × Nat × Option FieldType := (yX9_bits, cX9_bits, 3, some .int)
abbrev mX9_schedule : MethodName × ByteArray × Nat × Option FieldType := (yX9_schedule, cX9_schedule, 4, some .int)
abbrev mX9_firstMeeting : MethodName × ByteArray × Nat × Option FieldType := (yX9_firstMeeting, cX9_firstMeeting, 8, some .int)
abbrev mX9_minuteOfBoth : MethodName × ByteArray × Nat × Option FieldType := (yX9_minuteOfBoth, cX9_minuteOfBoth, 9, some .int)
abbrev mX10_init : MethodName × ByteArray × Nat × Option FieldType := (yX10_init, cX10_init, 1, none)
abbrev mX10_explore : MethodName × ByteArray × Nat × Option FieldType := (yX10_explore, cX10_explore, 6, none)
abbrev mX10_extend : MethodName × ByteArray × Nat × Option FieldType := (yX10_extend, cX10_extend, 11, none)
abbrev mX10_minutesOf : MethodName × ByteArray × Nat × Option FieldType := (yX10_minutesOf, cX10_minutesOf, 2, some .int)
abbrev mX10_dearest : MethodName × ByteArray × Nat × Option FieldType := (yX10_dearest, cX10_dearest, 9, some .int)
abbrev mX10_quickest : MethodName × ByteArray × Nat × Option FieldType := (yX10_quickest, cX10_quickest, 7, some .int)
abbrev mX11_init : MethodName × ByteArray × Nat × Option FieldType := (yX11_init, cX11_init, 2, none)
abbrev mX11_sign : MethodName × ByteArray × Nat × Option FieldType := (yX11_sign, cX11_sign, 2, some .int)
abbrev mX11_end : MethodName × ByteArray × Nat × Option FieldType := (yX11_end, cX11_end, 2, some .boolean)
abbrev mX11_land : MethodName × ByteArray × Nat × Option FieldType := (yX11_land, cX11_land, 2, some .int)
abbrev mX11_hedge : MethodName × ByteArray × Nat × Option FieldType := (yX11_hedge, cX11_hedge, 3, some .int)
abbrev mX11_grass : MethodName × ByteArray × Nat × Option FieldType := (yX11_grass, cX11_grass, 3, some .int)
abbrev mX11_set : MethodName × ByteArray × Nat × Option FieldType := (yX11_set, cX11_set, 4, some .int)
abbrev mX11_setDigit : MethodName × ByteArray × Nat × Option FieldType := (yX11_setDigit, cX11_setDigit, 5, some .int)
abbrev mX11_setNights : MethodName × ByteArray × Nat × Option FieldType := (yX11_setNights, cX11_setNights, 3, some .int)
abbrev mX11_setFrost : MethodName × ByteArray × Nat × Option FieldType := (yX11_setFrost, cX11_setFrost, 3, some .int)
abbrev mX11_sheet : MethodName × ByteArray × Nat × Option FieldType := (yX11_sheet, cX11_sheet, 9, some .int)
abbrev mX11_sheetEntry : MethodName × ByteArray × Nat × Option FieldType := (yX11_sheetEntry, cX11_sheetEntry, 3, some .int)
abbrev mX11_walk : MethodName × ByteArray × Nat × Option FieldType := (yX11_walk, cX11_walk, 3, some .int)
abbrev mX11_rest : MethodName × ByteArray × Nat × Option FieldType := (yX11_rest, cX11_rest, 2, some .int)
abbrev mX11_undo : MethodName × ByteArray × Nat × Option FieldType := (yX11_undo, cX11_undo, 1, some .int)
abbrev mX11_go : MethodName × ByteArray × Nat × Option FieldType := (yX11_go, cX11_go, 2, some .boolean)
abbrev mX11_can : MethodName × ByteArray × Nat × Option FieldType := (yX11_can, cX11_can, 3, some .int)
abbrev mX11_tour : MethodName × ByteArray × Nat × Option FieldType := (yX11_tour, cX11_tour, 6, some .int)
abbrev mX11_look : MethodName × ByteArray × Nat × Option FieldType := (yX11_look, cX11_look, 8, some .int)
abbrev mX11_meets : MethodName × ByteArray × Nat × Option FieldType := (yX11_meets, cX11_meets, 3, some .int)
abbrev mX11_apart : MethodName × ByteArray × Nat × Option FieldType := (yX11_apart, cX11_apart, 2, some .int)
abbrev mX11_scheduleBoth : MethodName × ByteArray × Nat × Option FieldType := (yX11_scheduleBoth, cX11_scheduleBoth, 1, some .boolean)
abbrev mX11_season : MethodName × ByteArray × Nat × Option FieldType := (yX11_season, cX11_season, 8, some .int)
abbrev mX11_walkersCorner : MethodName × ByteArray × Nat × Option FieldType := (yX11_walkersCorner, cX11_walkersCorner, 1, some .int)
abbrev mX11_odd : MethodName × ByteArray × Nat × Option FieldType := (yX11_odd, cX11_odd, 2, some .int)
abbrev mX11_men : MethodName × ByteArray × Nat × Option FieldType := (yX11_men, cX11_men, 7, some .int)
abbrev mX11_trail : MethodName × ByteArray × Nat × Option FieldType := (yX11_trail, cX11_trail, 2, some .int)
abbrev mX11_round : MethodName × ByteArray × Nat × Option FieldType := (yX11_round, cX11_round, 5, some .int)
abbrev mX11_closed : MethodName × ByteArray × Nat × Option FieldType := (yX11_closed, cX11_closed, 1, some .int)
abbrev mX11_open : MethodName × ByteArray × Nat × Option FieldType := (yX11_open, cX11_open, 2, some .int)
abbrev mX11_most : MethodName × ByteArray × Nat × Option FieldType := (yX11_most, cX11_most, 3, some .int)
abbrev mX11_home : MethodName × ByteArray × Nat × Option FieldType := (yX11_home, cX11_home, 3, some .int)
abbrev mX11_mostWorth : MethodName × ByteArray × Nat × Option FieldType := (yX11_mostWorth, cX11_mostWorth, 5, some .int)
abbrev mX11_soon : MethodName × ByteArray × Nat × Option FieldType := (yX11_soon, cX11_soon, 4, some .int)
abbrev mX11_bridges : MethodName × ByteArray × Nat × Option FieldType := (yX11_bridges, cX11_bridges, 4, some .int)
abbrev mX11_reach : MethodName × ByteArray × Nat × Option FieldType := (yX11_reach, cX11_reach, 4, some .int)
abbrev mX11_gates : MethodName × ByteArray × Nat × Option FieldType := (yX11_gates, cX11_gates, 3, some .int)
abbrev mX11_heard : MethodName × ByteArray × Nat × Option FieldType := (yX11_heard, cX11_heard, 3, some .int)
abbrev mX11_forget : MethodName × ByteArray × Nat × Option FieldType := (yX11_forget, cX11_forget, 1, some .int)
abbrev mX11_lands : MethodName × ByteArray × Nat × Option FieldType := (yX11_lands, cX11_lands, 2, some .int)
abbrev mX11_sure : MethodName × ByteArray × Nat × Option FieldType := (yX11_sure, cX11_sure, 5, some .int)
abbrev mX11_next : MethodName × ByteArray × Nat × Option FieldType := (yX11_next, cX11_next, 6, some .int)
abbrev mX11_lies : MethodName × ByteArray × Nat × Option FieldType := (yX11_lies, cX11_lies, 2, some .int)
abbrev mX11_quarrel : MethodName × ByteArray × Nat × Option FieldType := (yX11_quarrel, cX11_quarrel, 2, some .int)
abbrev mX11_keep : MethodName × ByteArray × Nat × Option FieldType := (yX11_keep, cX11_keep, 2, some .boolean)
abbrev mX11_again : MethodName × ByteArray × Nat × Option FieldType := (yX11_again, cX11_again, 2, some .boolean)
abbrev mX11_count : MethodName × ByteArray × Nat × Option FieldType := (yX11_count, cX11_count, 2, some .int)
abbrev mX11_row : MethodName × ByteArray × Nat × Option FieldType := (yX11_row, cX11_row, 2, some .int)
abbrev mX12_refuse : MethodName × ByteArray × Nat × Option FieldType := (yX12_refuse, cX12_refuse, 1, some .int)
abbrev mX12_in : MethodName × ByteArray × Nat × Option FieldType := (yX12_in, cX12_in, 6, some .boolean)
abbrev mX12_has : MethodName × ByteArray × Nat × Option FieldType := (yX12_has, cX12_has, 2, some .boolean)
abbrev mX12_flag : MethodName × ByteArray × Nat × Option FieldType := (yX12_flag, cX12_flag, 1, some .int)
abbrev mX12_enters : MethodName × ByteArray × Nat × Option FieldType := (yX12_enters, cX12_enters, 2, none)
abbrev mX12_isCorner : MethodName × ByteArray × Nat × Option FieldType := (yX12_isCorner, cX12_isCorner, 2, some .boolean)
abbrev mX12_isHedge : MethodName × ByteArray × Nat × Option FieldType := (yX12_isHedge, cX12_isHedge, 2, some .boolean)
abbrev mX12_sign : MethodName × ByteArray × Nat × Option FieldType := (yX12_sign, cX12_sign, 3, some .int)
abbrev mX12_end : MethodName × ByteArray × Nat × Option FieldType := (yX12_end, cX12_end, 2, some .boolean)
abbrev mX12_begins : MethodName × ByteArray × Nat × Option FieldType := (yX12_begins, cX12_begins, 3, some .int)
abbrev mX12_takes : MethodName × ByteArray × Nat × Option FieldType := (yX12_takes, cX12_takes, 3, some .boolean)
abbrev mX12_isDigit : MethodName × ByteArray × Nat × Option FieldType := (yX12_isDigit, cX12_isDigit, 1, some .boolean)
abbrev mX12_digit : MethodName × ByteArray × Nat × Option FieldType := (yX12_digit, cX12_digit, 2, some .int)
abbrev mX12_number : MethodName × ByteArray × Nat × Option FieldType := (yX12_number, cX12_number, 4, some .int)
abbrev mX12_faultOf : MethodName × ByteArray × Nat × Option FieldType := (yX12_faultOf, cX12_faultOf, 5, some .int)
abbrev mX12_readsCorner : MethodName × ByteArray × Nat × Option FieldType := (yX12_readsCorner, cX12_readsCorner, 3, some .boolean)
abbrev mX12_cornerBut : MethodName × ByteArray × Nat × Option FieldType := (yX12_cornerBut, cX12_cornerBut, 2, some .int)
abbrev mX12_readsHedge : MethodName × ByteArray × Nat × Option FieldType := (yX12_readsHedge, cX12_readsHedge, 2, some .boolean)
abbrev mX12_isAt : MethodName × ByteArray × Nat × Option FieldType := (yX12_isAt, cX12_isAt, 2, some .boolean)
abbrev mX12_land : MethodName × ByteArray × Nat × Option FieldType := (yX12_land, cX12_land, 6, some .int)
abbrev mX12_dayOf : MethodName × ByteArray × Nat × Option FieldType := (yX12_dayOf, cX12_dayOf, 1, some .int)
abbrev mX12_isLight : MethodName × ByteArray × Nat × Option FieldType := (yX12_isLight, cX12_isLight, 1, some .boolean)
abbrev mX12_isFresh : MethodName × ByteArray × Nat × Option FieldType := (yX12_isFresh, cX12_isFresh, 3, some .boolean)
abbrev mX12_hedge : MethodName × ByteArray × Nat × Option FieldType := (yX12_hedge, cX12_hedge, 3, some .int)
abbrev mX12_grassOf : MethodName × ByteArray × Nat × Option FieldType := (yX12_grassOf, cX12_grassOf, 3, some .int)
abbrev mX12_grass : MethodName × ByteArray × Nat × Option FieldType := (yX12_grass, cX12_grass, 3, some .int)
abbrev mX12_set : MethodName × ByteArray × Nat × Option FieldType := (yX12_set, cX12_set, 6, some .int)
abbrev mX12_sheet : MethodName × ByteArray × Nat × Option FieldType := (yX12_sheet, cX12_sheet, 9, some .int)
abbrev mX12_minutesFrom : MethodName × ByteArray × Nat × Option FieldType := (yX12_minutesFrom, cX12_minutesFrom, 3, some .int)
abbrev mX12_isEnd : MethodName × ByteArray × Nat × Option FieldType := (yX12_isEnd, cX12_isEnd, 3, some .boolean)
abbrev mX12_endOf : MethodName × ByteArray × Nat × Option FieldType := (yX12_endOf, cX12_endOf, 3, some .int)
abbrev mX12_whyNot : MethodName × ByteArray × Nat × Option FieldType := (yX12_whyNot, cX12_whyNot, 2, some .int)
abbrev mX12_putsBy : MethodName × ByteArray × Nat × Option FieldType := (yX12_putsBy, cX12_putsBy, 3, none)
abbrev mX12_walks : MethodName × ByteArray × Nat × Option FieldType := (yX12_walks, cX12_walks, 3, some .int)
abbrev mX12_walk : MethodName × ByteArray × Nat × Option FieldType := (yX12_walk, cX12_walk, 3, some .int)
abbrev mX12_rest : MethodName × ByteArray × Nat × Option FieldType := (yX12_rest, cX12_rest, 2, some .int)
abbrev mX12_undo : MethodName × ByteArray × Nat × Option FieldType := (yX12_undo, cX12_undo, 1, some .int)
abbrev mX12_go : MethodName × ByteArray × Nat × Option FieldType := (yX12_go, cX12_go, 3, some .boolean)
abbrev mX12_canNow : MethodName × ByteArray × Nat × Option FieldType := (yX12_canNow, cX12_canNow, 3, some .int)
abbrev mX12_can : MethodName × ByteArray × Nat × Option FieldType := (yX12_can, cX12_can, 1, some .int)
abbrev mX12_tour : MethodName × ByteArray × Nat × Option FieldType := (yX12_tour, cX12_tour, 11, some .int)
abbrev mX12_putsWalker : MethodName × ByteArray × Nat × Option FieldType := (yX12_putsWalker, cX12_putsWalker, 2, none)
abbrev mX12_putsBack : MethodName × ByteArray × Nat × Option FieldType := (yX12_putsBack, cX12_putsBack, 2, none)
abbrev mX12_look : MethodName × ByteArray × Nat × Option FieldType := (yX12_look, cX12_look, 8, some .int)
abbrev mX12_cornerOf : MethodName × ByteArray × Nat × Option FieldType := (yX12_cornerOf, cX12_cornerOf, 9, some .int)
abbrev mX12_meetsBy : MethodName × ByteArray × Nat × Option FieldType := (yX12_meetsBy, cX12_meetsBy, 5, some .int)
abbrev mX12_meets : MethodName × ByteArray × Nat × Option FieldType := (yX12_meets, cX12_meets, 3, some .int)
abbrev mX12_apart : MethodName × ByteArray × Nat × Option FieldType := (yX12_apart, cX12_apart, 2, some .int)
abbrev mX12_sleeps : MethodName × ByteArray × Nat × Option FieldType := (yX12_sleeps, cX12_sleeps, 2, some .boolean)
abbrev mX12_season : MethodName × ByteArray × Nat × Option FieldType := (yX12_season, cX12_season, 9, some .int)
abbrev mX12_parts : MethodName × ByteArray × Nat × Option FieldType := (yX12_parts, cX12_parts, 5, none)
abbrev mX12_allHedges : MethodName × ByteArray × Nat × Option FieldType := (yX12_allHedges, cX12_allHedges, 1, some .int)
abbrev mX12_oddOf : MethodName × ByteArray × Nat × Option FieldType := (yX12_oddOf, cX12_oddOf, 4, some .int)
abbrev mX12_odd : MethodName × ByteArray × Nat × Option FieldType := (yX12_odd, cX12_odd, 2, some .int)
abbrev mX12_partOfHedges : MethodName × ByteArray × Nat × Option FieldType := (yX12_partOfHedges, cX12_partOfHedges, 5, some .int)
abbrev mX12_men : MethodName × ByteArray × Nat × Option FieldType := (yX12_men, cX12_men, 5, some .int)
abbrev mX12_canTrail : MethodName × ByteArray × Nat × Option FieldType := (yX12_canTrail, cX12_canTrail, 4, some .boolean)
abbrev mX12_trail : MethodName × ByteArray × Nat × Option FieldType := (yX12_trail, cX12_trail, 6, some .int)
abbrev mX12_hangTogether : MethodName × ByteArray × Nat × Option FieldType := (yX12_hangTogether, cX12_hangTogether, 3, some .boolean)
abbrev mX12_isEven : MethodName × ByteArray × Nat × Option FieldType := (yX12_isEven, cX12_isEven, 4, some .boolean)
abbrev mX12_round : MethodName × ByteArray × Nat × Option FieldType := (yX12_round, cX12_round, 6, some .int)
abbrev mX12_isLessRow : MethodName × ByteArray × Nat × Option FieldType := (yX12_isLessRow, cX12_isLessRow, 2, some .boolean)
abbrev mX12_couples : MethodName × ByteArray × Nat × Option FieldType := (yX12_couples, cX12_couples, 7, none)
abbrev mX12_pairsBy : MethodName × ByteArray × Nat × Option FieldType := (yX12_pairsBy, cX12_pairsBy, 4, some .int)
abbrev mX12_closed : MethodName × ByteArray × Nat × Option FieldType := (yX12_closed, cX12_closed, 1, some .int)
abbrev mX12_open : MethodName × ByteArray × Nat × Option FieldType := (yX12_open, cX12_open, 1, some .int)
abbrev mX12_laysOut : MethodName × ByteArray × Nat × Option FieldType := (yX12_laysOut, cX12_laysOut, 7, none)
abbrev mX12_worthOf : MethodName × ByteArray × Nat × Option FieldType := (yX12_worthOf, cX12_worthOf, 4, some .int)
abbrev mX12_soonest : MethodName × ByteArray × Nat × Option FieldType := (yX12_soonest, cX12_soonest, 5, some .int)
abbrev mX12_mostBy : MethodName × ByteArray × Nat × Option FieldType := (yX12_mostBy, cX12_mostBy, 10, some .int)
abbrev mX12_most : MethodName × ByteArray × Nat × Option FieldType := (yX12_most, cX12_most, 3, some .int)
abbrev mX12_home : MethodName × ByteArray × Nat × Option FieldType := (yX12_home, cX12_home, 3, some .int)
abbrev mX12_soon : MethodName × ByteArray × Nat × Option FieldType := (yX12_soon, cX12_soon, 6, some .int)
abbrev mX12_bridges : MethodName × ByteArray × Nat × Option FieldType := (yX12_bridges, cX12_bridges, 3, some .int)
abbrev mX12_reach : MethodName × ByteArray × Nat × Option FieldType := (yX12_reach, cX12_reach, 5, some .int)
abbrev mX12_measures : MethodName × ByteArray × Nat × Option FieldType := (yX12_measures, cX12_measures, 4, none)
abbrev mX12_shortens : MethodName × ByteArray × Nat × Option FieldType := (yX12_shortens, cX12_shortens, 4, none)
abbrev mX12_gateBy : MethodName × ByteArray × Nat × Option FieldType := (yX12_gateBy, cX12_gateBy, 6, some .int)
abbrev mX12_gateBest : MethodName × ByteArray × Nat × Option FieldType := (yX12_gateBest, cX12_gateBest, 4, some .int)
abbrev mX12_laysOutGates : MethodName × ByteArray × Nat × Option FieldType := (yX12_laysOutGates, cX12_laysOutGates, 5, none)
abbrev mX12_gates : MethodName × ByteArray × Nat × Option FieldType := (yX12_gates, cX12_gates, 5, some .int)
abbrev mX12_isOnWay : MethodName × ByteArray × Nat × Option FieldType := (yX12_isOnWay, cX12_isOnWay, 6, some .boolean)
abbrev mX12_goesThrough : MethodName × ByteArray × Nat × Option FieldType := (yX12_goesThrough, cX12_goesThrough, 3, none)
abbrev mX12_comesTo : MethodName × ByteArray × Nat × Option FieldType := (yX12_comesTo, cX12_comesTo, 3, none)
abbrev mX12_heard : MethodName × ByteArray × Nat × Option FieldType := (yX12_heard, cX12_heard, 3, some .int)
abbrev mX12_forget : MethodName × ByteArray × Nat × Option FieldType := (yX12_forget, cX12_forget, 1, some .int)
abbrev mX12_cowsOf : MethodName × ByteArray × Nat × Option FieldType := (yX12_cowsOf, cX12_cowsOf, 2, some .int)
abbrev mX12_over : MethodName × ByteArray × Nat × Option FieldType := (yX12_over, cX12_over, 3, some .int)
abbrev mX12_wrongOf : MethodName × ByteArray × Nat × Option FieldType := (yX12_wrongOf, cX12_wrongOf, 4, some .int)
abbrev mX12_digitsOf : MethodName × ByteArray × Nat × Option FieldType := (yX12_digitsOf, cX12_digitsOf, 3, some .int)
abbrev mX12_lands : MethodName × ByteArray × Nat × Option FieldType := (yX12_lands, cX12_lands, 4, some .int)
abbrev mX12_sure : MethodName × ByteArray × Nat × Option FieldType := (yX12_sure, cX12_sure, 5, some .int)
abbrev mX12_next : MethodName × ByteArray × Nat × Option FieldType := (yX12_next, cX12_next, 6, some .int)
abbrev mX12_lies : MethodName × ByteArray × Nat × Option FieldType := (yX12_lies, cX12_lies, 5, some .int)
abbrev mX12_holds : MethodName × ByteArray × Nat × Option FieldType := (yX12_holds, cX12_holds, 3, some .boolean)
abbrev mX12_quarrel : MethodName × ByteArray × Nat × Option FieldType := (yX12_quarrel, cX12_quarrel, 4, some .int)
abbrev mX12_keep : MethodName × ByteArray × Nat × Option FieldType := (yX12_keep, cX12_keep, 4, some .boolean)
abbrev mX12_again : MethodName × ByteArray × Nat × Option FieldType := (yX12_again, cX12_again, 4, some .boolean)
abbrev mX12_count : MethodName × ByteArray × Nat × Option FieldType := (yX12_count, cX12_count, 2, some .int)
abbrev mX12_init : MethodName × ByteArray × Nat × Option FieldType := (yX12_init, cX12_init, 1, none)
abbrev mX12_row : MethodName × ByteArray × Nat × Option FieldType := (yX12_row, cX12_row, 2, some .int)
abbrev mJ6_numberOfTrailingZeros_0f7a4 : MethodName × ByteArray × Nat × Option FieldType := (yJ6_numberOfTrailingZeros_0f7a4, cJ6_numberOfTrailingZeros_0f7a4, 2, some .int)
abbrev mJ6_bitCount_0f7a4 : MethodName × ByteArray × Nat × Option FieldType := (yJ6_bitCount_0f7a4, cJ6_bitCount_0f7a4, 1, some .int)
