-- ===== PART A: goes FIRST, ahead of the names: the tables' words, and 'selects' of the private methods out of them =====
/-- a private method of a class that the tables say can be made, by its rows of tables_1 -/
def lw_okq (q : MethodName × Nat) : Prop := (q.1.cls ≠ "java/lang/invoke/MethodHandle" ∧ q.1.cls ≠ "java/lang/invoke/VarHandle") ∧ Cond.instantiable q.1.cls q.2 ∈ tables_1 ∧ Cond.privateMethod q.1 ∈ tables_1 ∧ Cond.instanceMethod q.1 ∈ tables_1
theorem lw_p0 : lw_okq (⟨"SpanKinds$Reader", "begin", "()V"⟩, 14) := ⟨⟨by decide +kernel, by decide +kernel⟩, List.mem_of_getElem? (i := 29) (by decide +kernel), List.mem_of_getElem? (i := 532) (by decide +kernel), List.mem_of_getElem? (i := 533) (by decide +kernel)⟩
theorem lw_p1 : lw_okq (⟨"SpanKinds$Reader", "next", "()V"⟩, 14) := ⟨⟨by decide +kernel, by decide +kernel⟩, List.mem_of_getElem? (i := 29) (by decide +kernel), List.mem_of_getElem? (i := 537) (by decide +kernel), List.mem_of_getElem? (i := 538) (by decide +kernel)⟩
theorem lw_p2 : lw_okq (⟨"SpanKinds$Reader", "readLine", "()Z"⟩, 14) := ⟨⟨by decide +kernel, by decide +kernel⟩, List.mem_of_getElem? (i := 29) (by decide +kernel), List.mem_of_getElem? (i := 551) (by decide +kernel), List.mem_of_getElem? (i := 552) (by decide +kernel)⟩
theorem lw_p3 : lw_okq (⟨"SpanKinds$Reader", "isWord", "(Ljava/lang/String;)Z"⟩, 14) := ⟨⟨by decide +kernel, by decide +kernel⟩, List.mem_of_getElem? (i := 29) (by decide +kernel), List.mem_of_getElem? (i := 556) (by decide +kernel), List.mem_of_getElem? (i := 557) (by decide +kernel)⟩
theorem lw_p4 : lw_okq (⟨"SpanKinds$Reader", "readSpace", "()Z"⟩, 14) := ⟨⟨by decide +kernel, by decide +kernel⟩, List.mem_of_getElem? (i := 29) (by decide +kernel), List.mem_of_getElem? (i := 608) (by decide +kernel), List.mem_of_getElem? (i := 609) (by decide +kernel)⟩
theorem lw_p5 : lw_okq (⟨"SpanKinds$Reader", "failed", "(I)Z"⟩, 14) := ⟨⟨by decide +kernel, by decide +kernel⟩, List.mem_of_getElem? (i := 29) (by decide +kernel), List.mem_of_getElem? (i := 612) (by decide +kernel), List.mem_of_getElem? (i := 613) (by decide +kernel)⟩
theorem lw_p6 : lw_okq (⟨"SpanKinds$Reader", "readNumber", "(II)Z"⟩, 14) := ⟨⟨by decide +kernel, by decide +kernel⟩, List.mem_of_getElem? (i := 29) (by decide +kernel), List.mem_of_getElem? (i := 616) (by decide +kernel), List.mem_of_getElem? (i := 617) (by decide +kernel)⟩
theorem lw_p7 : lw_okq (⟨"SpanKinds$Reader", "readStop", "()Z"⟩, 14) := ⟨⟨by decide +kernel, by decide +kernel⟩, List.mem_of_getElem? (i := 29) (by decide +kernel), List.mem_of_getElem? (i := 620) (by decide +kernel), List.mem_of_getElem? (i := 621) (by decide +kernel)⟩
theorem lw_p8 : lw_okq (⟨"SpanKinds$Reader", "readRegisters", "()Z"⟩, 14) := ⟨⟨by decide +kernel, by decide +kernel⟩, List.mem_of_getElem? (i := 29) (by decide +kernel), List.mem_of_getElem? (i := 625) (by decide +kernel), List.mem_of_getElem? (i := 626) (by decide +kernel)⟩
theorem lw_p9 : lw_okq (⟨"SpanKinds$Reader", "readDefault", "()Z"⟩, 14) := ⟨⟨by decide +kernel, by decide +kernel⟩, List.mem_of_getElem? (i := 29) (by decide +kernel), List.mem_of_getElem? (i := 630) (by decide +kernel), List.mem_of_getElem? (i := 631) (by decide +kernel)⟩
theorem lw_p10 : lw_okq (⟨"SpanKinds$Reader", "kindHere", "()I"⟩, 14) := ⟨⟨by decide +kernel, by decide +kernel⟩, List.mem_of_getElem? (i := 29) (by decide +kernel), List.mem_of_getElem? (i := 634) (by decide +kernel), List.mem_of_getElem? (i := 635) (by decide +kernel)⟩
theorem lw_p11 : lw_okq (⟨"SpanKinds$Reader", "readFixed", "()Z"⟩, 14) := ⟨⟨by decide +kernel, by decide +kernel⟩, List.mem_of_getElem? (i := 29) (by decide +kernel), List.mem_of_getElem? (i := 644) (by decide +kernel), List.mem_of_getElem? (i := 645) (by decide +kernel)⟩
theorem lw_p12 : lw_okq (⟨"SpanKinds$Reader", "fixedStops", "(I)Z"⟩, 14) := ⟨⟨by decide +kernel, by decide +kernel⟩, List.mem_of_getElem? (i := 29) (by decide +kernel), List.mem_of_getElem? (i := 652) (by decide +kernel), List.mem_of_getElem? (i := 653) (by decide +kernel)⟩
theorem lw_p13 : lw_okq (⟨"SpanKinds$Reader", "readSpan", "()Z"⟩, 14) := ⟨⟨by decide +kernel, by decide +kernel⟩, List.mem_of_getElem? (i := 29) (by decide +kernel), List.mem_of_getElem? (i := 657) (by decide +kernel), List.mem_of_getElem? (i := 658) (by decide +kernel)⟩
theorem lw_p14 : lw_okq (⟨"SpanKinds$Reader", "readRegister", "()Z"⟩, 14) := ⟨⟨by decide +kernel, by decide +kernel⟩, List.mem_of_getElem? (i := 29) (by decide +kernel), List.mem_of_getElem? (i := 666) (by decide +kernel), List.mem_of_getElem? (i := 667) (by decide +kernel)⟩
theorem lw_p15 : lw_okq (⟨"SpanKinds$Reader", "readPage", "()Z"⟩, 14) := ⟨⟨by decide +kernel, by decide +kernel⟩, List.mem_of_getElem? (i := 29) (by decide +kernel), List.mem_of_getElem? (i := 688) (by decide +kernel), List.mem_of_getElem? (i := 689) (by decide +kernel)⟩
def lw_privs_1 : List (MethodName × Nat) := [(⟨"SpanKinds$Reader", "begin", "()V"⟩, 14), (⟨"SpanKinds$Reader", "next", "()V"⟩, 14), (⟨"SpanKinds$Reader", "readLine", "()Z"⟩, 14), (⟨"SpanKinds$Reader", "isWord", "(Ljava/lang/String;)Z"⟩, 14), (⟨"SpanKinds$Reader", "readSpace", "()Z"⟩, 14), (⟨"SpanKinds$Reader", "failed", "(I)Z"⟩, 14), (⟨"SpanKinds$Reader", "readNumber", "(II)Z"⟩, 14), (⟨"SpanKinds$Reader", "readStop", "()Z"⟩, 14), (⟨"SpanKinds$Reader", "readRegisters", "()Z"⟩, 14), (⟨"SpanKinds$Reader", "readDefault", "()Z"⟩, 14), (⟨"SpanKinds$Reader", "kindHere", "()I"⟩, 14), (⟨"SpanKinds$Reader", "readFixed", "()Z"⟩, 14), (⟨"SpanKinds$Reader", "fixedStops", "(I)Z"⟩, 14), (⟨"SpanKinds$Reader", "readSpan", "()Z"⟩, 14), (⟨"SpanKinds$Reader", "readRegister", "()Z"⟩, 14), (⟨"SpanKinds$Reader", "readPage", "()Z"⟩, 14)]
theorem lw_r1 : ∀ q ∈ lw_privs_1, lw_okq q := List.forall_mem_cons.mpr ⟨lw_p0, List.forall_mem_cons.mpr ⟨lw_p1, List.forall_mem_cons.mpr ⟨lw_p2, List.forall_mem_cons.mpr ⟨lw_p3, List.forall_mem_cons.mpr ⟨lw_p4, List.forall_mem_cons.mpr ⟨lw_p5, List.forall_mem_cons.mpr ⟨lw_p6, List.forall_mem_cons.mpr ⟨lw_p7, List.forall_mem_cons.mpr ⟨lw_p8, List.forall_mem_cons.mpr ⟨lw_p9, List.forall_mem_cons.mpr ⟨lw_p10, List.forall_mem_cons.mpr ⟨lw_p11, List.forall_mem_cons.mpr ⟨lw_p12, List.forall_mem_cons.mpr ⟨lw_p13, List.forall_mem_cons.mpr ⟨lw_p14, List.forall_mem_cons.mpr ⟨lw_p15, fun _ h => absurd h List.not_mem_nil⟩⟩⟩⟩⟩⟩⟩⟩⟩⟩⟩⟩⟩⟩⟩⟩
theorem lw_p16 : lw_okq (⟨"SpanKinds", "startAnew", "()V"⟩, 19) := ⟨⟨by decide +kernel, by decide +kernel⟩, List.mem_of_getElem? (i := 21) (by decide +kernel), List.mem_of_getElem? (i := 697) (by decide +kernel), List.mem_of_getElem? (i := 698) (by decide +kernel)⟩
theorem lw_p17 : lw_okq (⟨"SpanKinds", "forgetAll", "()V"⟩, 19) := ⟨⟨by decide +kernel, by decide +kernel⟩, List.mem_of_getElem? (i := 21) (by decide +kernel), List.mem_of_getElem? (i := 701) (by decide +kernel), List.mem_of_getElem? (i := 702) (by decide +kernel)⟩
theorem lw_p18 : lw_okq (⟨"SpanKinds", "forgetKinds", "()V"⟩, 19) := ⟨⟨by decide +kernel, by decide +kernel⟩, List.mem_of_getElem? (i := 21) (by decide +kernel), List.mem_of_getElem? (i := 705) (by decide +kernel), List.mem_of_getElem? (i := 706) (by decide +kernel)⟩
theorem lw_p19 : lw_okq (⟨"SpanKinds", "wantedDone", "()V"⟩, 19) := ⟨⟨by decide +kernel, by decide +kernel⟩, List.mem_of_getElem? (i := 21) (by decide +kernel), List.mem_of_getElem? (i := 722) (by decide +kernel), List.mem_of_getElem? (i := 723) (by decide +kernel)⟩
theorem lw_p20 : lw_okq (⟨"SpanKinds", "kindsDone", "()V"⟩, 19) := ⟨⟨by decide +kernel, by decide +kernel⟩, List.mem_of_getElem? (i := 21) (by decide +kernel), List.mem_of_getElem? (i := 750) (by decide +kernel), List.mem_of_getElem? (i := 751) (by decide +kernel)⟩
theorem lw_p21 : lw_okq (⟨"SpanKinds", "planNow", "()LSpanKinds$Blocks;"⟩, 19) := ⟨⟨by decide +kernel, by decide +kernel⟩, List.mem_of_getElem? (i := 21) (by decide +kernel), List.mem_of_getElem? (i := 778) (by decide +kernel), List.mem_of_getElem? (i := 779) (by decide +kernel)⟩
theorem lw_p22 : lw_okq (⟨"SpanKinds$Tree", "joinAlike", "(LSpanKinds$Store;)V"⟩, 13) := ⟨⟨by decide +kernel, by decide +kernel⟩, List.mem_of_getElem? (i := 291) (by decide +kernel), List.mem_of_getElem? (i := 803) (by decide +kernel), List.mem_of_getElem? (i := 804) (by decide +kernel)⟩
theorem lw_p23 : lw_okq (⟨"SpanKinds$Tree", "grow", "(III)I"⟩, 13) := ⟨⟨by decide +kernel, by decide +kernel⟩, List.mem_of_getElem? (i := 291) (by decide +kernel), List.mem_of_getElem? (i := 811) (by decide +kernel), List.mem_of_getElem? (i := 812) (by decide +kernel)⟩
theorem lw_p24 : lw_okq (⟨"SpanKinds$Planner", "weighWithin", "(II)V"⟩, 7) := ⟨⟨by decide +kernel, by decide +kernel⟩, List.mem_of_getElem? (i := 285) (by decide +kernel), List.mem_of_getElem? (i := 815) (by decide +kernel), List.mem_of_getElem? (i := 816) (by decide +kernel)⟩
theorem lw_p25 : lw_okq (⟨"SpanKinds$Planner", "byHalves", "(II)I"⟩, 7) := ⟨⟨by decide +kernel, by decide +kernel⟩, List.mem_of_getElem? (i := 285) (by decide +kernel), List.mem_of_getElem? (i := 819) (by decide +kernel), List.mem_of_getElem? (i := 820) (by decide +kernel)⟩
theorem lw_p26 : lw_okq (⟨"SpanKinds$Planner", "byItself", "(II)I"⟩, 7) := ⟨⟨by decide +kernel, by decide +kernel⟩, List.mem_of_getElem? (i := 285) (by decide +kernel), List.mem_of_getElem? (i := 830) (by decide +kernel), List.mem_of_getElem? (i := 831) (by decide +kernel)⟩
theorem lw_p27 : lw_okq (⟨"SpanKinds$Planner", "layWithin", "(III)V"⟩, 7) := ⟨⟨by decide +kernel, by decide +kernel⟩, List.mem_of_getElem? (i := 285) (by decide +kernel), List.mem_of_getElem? (i := 836) (by decide +kernel), List.mem_of_getElem? (i := 837) (by decide +kernel)⟩
theorem lw_p28 : lw_okq (⟨"SpanKinds$Planner", "layItself", "(III)I"⟩, 7) := ⟨⟨by decide +kernel, by decide +kernel⟩, List.mem_of_getElem? (i := 285) (by decide +kernel), List.mem_of_getElem? (i := 840) (by decide +kernel), List.mem_of_getElem? (i := 841) (by decide +kernel)⟩
theorem lw_p29 : lw_okq (⟨"SpanKinds", "piecesNow", "()LSpanKinds$Pieces;"⟩, 19) := ⟨⟨by decide +kernel, by decide +kernel⟩, List.mem_of_getElem? (i := 21) (by decide +kernel), List.mem_of_getElem? (i := 865) (by decide +kernel), List.mem_of_getElem? (i := 866) (by decide +kernel)⟩
theorem lw_p30 : lw_okq (⟨"SpanKinds$Pieces", "joinRuns", "()V"⟩, 9) := ⟨⟨by decide +kernel, by decide +kernel⟩, List.mem_of_getElem? (i := 243) (by decide +kernel), List.mem_of_getElem? (i := 907) (by decide +kernel), List.mem_of_getElem? (i := 908) (by decide +kernel)⟩
theorem lw_p31 : lw_okq (⟨"SpanKinds$Pieces", "mends", "(III)Z"⟩, 9) := ⟨⟨by decide +kernel, by decide +kernel⟩, List.mem_of_getElem? (i := 243) (by decide +kernel), List.mem_of_getElem? (i := 923) (by decide +kernel), List.mem_of_getElem? (i := 924) (by decide +kernel)⟩
def lw_privs_2 : List (MethodName × Nat) := [(⟨"SpanKinds", "startAnew", "()V"⟩, 19), (⟨"SpanKinds", "forgetAll", "()V"⟩, 19), (⟨"SpanKinds", "forgetKinds", "()V"⟩, 19), (⟨"SpanKinds", "wantedDone", "()V"⟩, 19), (⟨"SpanKinds", "kindsDone", "()V"⟩, 19), (⟨"SpanKinds", "planNow", "()LSpanKinds$Blocks;"⟩, 19), (⟨"SpanKinds$Tree", "joinAlike", "(LSpanKinds$Store;)V"⟩, 13), (⟨"SpanKinds$Tree", "grow", "(III)I"⟩, 13), (⟨"SpanKinds$Planner", "weighWithin", "(II)V"⟩, 7), (⟨"SpanKinds$Planner", "byHalves", "(II)I"⟩, 7), (⟨"SpanKinds$Planner", "byItself", "(II)I"⟩, 7), (⟨"SpanKinds$Planner", "layWithin", "(III)V"⟩, 7), (⟨"SpanKinds$Planner", "layItself", "(III)I"⟩, 7), (⟨"SpanKinds", "piecesNow", "()LSpanKinds$Pieces;"⟩, 19), (⟨"SpanKinds$Pieces", "joinRuns", "()V"⟩, 9), (⟨"SpanKinds$Pieces", "mends", "(III)Z"⟩, 9)]
theorem lw_r2 : ∀ q ∈ lw_privs_2, lw_okq q := List.forall_mem_cons.mpr ⟨lw_p16, List.forall_mem_cons.mpr ⟨lw_p17, List.forall_mem_cons.mpr ⟨lw_p18, List.forall_mem_cons.mpr ⟨lw_p19, List.forall_mem_cons.mpr ⟨lw_p20, List.forall_mem_cons.mpr ⟨lw_p21, List.forall_mem_cons.mpr ⟨lw_p22, List.forall_mem_cons.mpr ⟨lw_p23, List.forall_mem_cons.mpr ⟨lw_p24, List.forall_mem_cons.mpr ⟨lw_p25, List.forall_mem_cons.mpr ⟨lw_p26, List.forall_mem_cons.mpr ⟨lw_p27, List.forall_mem_cons.mpr ⟨lw_p28, List.forall_mem_cons.mpr ⟨lw_p29, List.forall_mem_cons.mpr ⟨lw_p30, List.forall_mem_cons.mpr ⟨lw_p31, fun _ h => absurd h List.not_mem_nil⟩⟩⟩⟩⟩⟩⟩⟩⟩⟩⟩⟩⟩⟩⟩⟩
theorem lw_p32 : lw_okq (⟨"SpanKinds", "pagedNow", "()LSpanKinds$Blocks;"⟩, 19) := ⟨⟨by decide +kernel, by decide +kernel⟩, List.mem_of_getElem? (i := 21) (by decide +kernel), List.mem_of_getElem? (i := 932) (by decide +kernel), List.mem_of_getElem? (i := 933) (by decide +kernel)⟩
theorem lw_p33 : lw_okq (⟨"SpanKinds$Planner", "weighAbovePages", "(I)V"⟩, 7) := ⟨⟨by decide +kernel, by decide +kernel⟩, List.mem_of_getElem? (i := 285) (by decide +kernel), List.mem_of_getElem? (i := 940) (by decide +kernel), List.mem_of_getElem? (i := 941) (by decide +kernel)⟩
theorem lw_p34 : lw_okq (⟨"SpanKinds$Planner", "byPages", "(II)I"⟩, 7) := ⟨⟨by decide +kernel, by decide +kernel⟩, List.mem_of_getElem? (i := 285) (by decide +kernel), List.mem_of_getElem? (i := 944) (by decide +kernel), List.mem_of_getElem? (i := 945) (by decide +kernel)⟩
theorem lw_p35 : lw_okq (⟨"SpanKinds$Planner", "choosePageKinds", "(I)V"⟩, 7) := ⟨⟨by decide +kernel, by decide +kernel⟩, List.mem_of_getElem? (i := 285) (by decide +kernel), List.mem_of_getElem? (i := 954) (by decide +kernel), List.mem_of_getElem? (i := 955) (by decide +kernel)⟩
theorem lw_p36 : lw_okq (⟨"SpanKinds$Planner", "layAbovePages", "(III)V"⟩, 7) := ⟨⟨by decide +kernel, by decide +kernel⟩, List.mem_of_getElem? (i := 285) (by decide +kernel), List.mem_of_getElem? (i := 959) (by decide +kernel), List.mem_of_getElem? (i := 960) (by decide +kernel)⟩
theorem lw_p37 : lw_okq (⟨"SpanKinds$Planner", "layPage", "(III)V"⟩, 7) := ⟨⟨by decide +kernel, by decide +kernel⟩, List.mem_of_getElem? (i := 285) (by decide +kernel), List.mem_of_getElem? (i := 963) (by decide +kernel), List.mem_of_getElem? (i := 964) (by decide +kernel)⟩
theorem lw_p38 : lw_okq (⟨"SpanKinds$Planner", "layHalvesAbovePages", "(III)V"⟩, 7) := ⟨⟨by decide +kernel, by decide +kernel⟩, List.mem_of_getElem? (i := 285) (by decide +kernel), List.mem_of_getElem? (i := 967) (by decide +kernel), List.mem_of_getElem? (i := 968) (by decide +kernel)⟩
theorem lw_p39 : lw_okq (⟨"SpanKinds", "fillerNow", "()LSpanKinds$Filler;"⟩, 19) := ⟨⟨by decide +kernel, by decide +kernel⟩, List.mem_of_getElem? (i := 21) (by decide +kernel), List.mem_of_getElem? (i := 1115) (by decide +kernel), List.mem_of_getElem? (i := 1116) (by decide +kernel)⟩
theorem lw_p40 : lw_okq (⟨"SpanKinds$Filler", "weigh", "(II)V"⟩, 3) := ⟨⟨by decide +kernel, by decide +kernel⟩, List.mem_of_getElem? (i := 1119) (by decide +kernel), List.mem_of_getElem? (i := 1142) (by decide +kernel), List.mem_of_getElem? (i := 1143) (by decide +kernel)⟩
theorem lw_p41 : lw_okq (⟨"SpanKinds$Filler", "asItIs", "(III)I"⟩, 3) := ⟨⟨by decide +kernel, by decide +kernel⟩, List.mem_of_getElem? (i := 1119) (by decide +kernel), List.mem_of_getElem? (i := 1153) (by decide +kernel), List.mem_of_getElem? (i := 1154) (by decide +kernel)⟩
theorem lw_p42 : lw_okq (⟨"SpanKinds$Filler", "bestByHalves", "(III)I"⟩, 3) := ⟨⟨by decide +kernel, by decide +kernel⟩, List.mem_of_getElem? (i := 1119) (by decide +kernel), List.mem_of_getElem? (i := 1157) (by decide +kernel), List.mem_of_getElem? (i := 1158) (by decide +kernel)⟩
theorem lw_p43 : lw_okq (⟨"SpanKinds$Filler", "byItself", "(III)I"⟩, 3) := ⟨⟨by decide +kernel, by decide +kernel⟩, List.mem_of_getElem? (i := 1119) (by decide +kernel), List.mem_of_getElem? (i := 1166) (by decide +kernel), List.mem_of_getElem? (i := 1167) (by decide +kernel)⟩
theorem lw_p44 : lw_okq (⟨"SpanKinds$Filler", "layWithin", "(IIII)V"⟩, 3) := ⟨⟨by decide +kernel, by decide +kernel⟩, List.mem_of_getElem? (i := 1119) (by decide +kernel), List.mem_of_getElem? (i := 1183) (by decide +kernel), List.mem_of_getElem? (i := 1184) (by decide +kernel)⟩
theorem lw_p45 : lw_okq (⟨"SpanKinds$Filler", "layAlike", "(IIIIII)V"⟩, 3) := ⟨⟨by decide +kernel, by decide +kernel⟩, List.mem_of_getElem? (i := 1119) (by decide +kernel), List.mem_of_getElem? (i := 1187) (by decide +kernel), List.mem_of_getElem? (i := 1188) (by decide +kernel)⟩
theorem lw_p46 : lw_okq (⟨"SpanKinds$Filler", "firstKind", "(III)I"⟩, 3) := ⟨⟨by decide +kernel, by decide +kernel⟩, List.mem_of_getElem? (i := 1119) (by decide +kernel), List.mem_of_getElem? (i := 1191) (by decide +kernel), List.mem_of_getElem? (i := 1192) (by decide +kernel)⟩
theorem lw_p47 : lw_okq (⟨"SpanKinds$Filler", "byHalves", "(IIII)I"⟩, 3) := ⟨⟨by decide +kernel, by decide +kernel⟩, List.mem_of_getElem? (i := 1119) (by decide +kernel), List.mem_of_getElem? (i := 1196) (by decide +kernel), List.mem_of_getElem? (i := 1197) (by decide +kernel)⟩
def lw_privs_3 : List (MethodName × Nat) := [(⟨"SpanKinds", "pagedNow", "()LSpanKinds$Blocks;"⟩, 19), (⟨"SpanKinds$Planner", "weighAbovePages", "(I)V"⟩, 7), (⟨"SpanKinds$Planner", "byPages", "(II)I"⟩, 7), (⟨"SpanKinds$Planner", "choosePageKinds", "(I)V"⟩, 7), (⟨"SpanKinds$Planner", "layAbovePages", "(III)V"⟩, 7), (⟨"SpanKinds$Planner", "layPage", "(III)V"⟩, 7), (⟨"SpanKinds$Planner", "layHalvesAbovePages", "(III)V"⟩, 7), (⟨"SpanKinds", "fillerNow", "()LSpanKinds$Filler;"⟩, 19), (⟨"SpanKinds$Filler", "weigh", "(II)V"⟩, 3), (⟨"SpanKinds$Filler", "asItIs", "(III)I"⟩, 3), (⟨"SpanKinds$Filler", "bestByHalves", "(III)I"⟩, 3), (⟨"SpanKinds$Filler", "byItself", "(III)I"⟩, 3), (⟨"SpanKinds$Filler", "layWithin", "(IIII)V"⟩, 3), (⟨"SpanKinds$Filler", "layAlike", "(IIIIII)V"⟩, 3), (⟨"SpanKinds$Filler", "firstKind", "(III)I"⟩, 3), (⟨"SpanKinds$Filler", "byHalves", "(IIII)I"⟩, 3)]
theorem lw_r3 : ∀ q ∈ lw_privs_3, lw_okq q := List.forall_mem_cons.mpr ⟨lw_p32, List.forall_mem_cons.mpr ⟨lw_p33, List.forall_mem_cons.mpr ⟨lw_p34, List.forall_mem_cons.mpr ⟨lw_p35, List.forall_mem_cons.mpr ⟨lw_p36, List.forall_mem_cons.mpr ⟨lw_p37, List.forall_mem_cons.mpr ⟨lw_p38, List.forall_mem_cons.mpr ⟨lw_p39, List.forall_mem_cons.mpr ⟨lw_p40, List.forall_mem_cons.mpr ⟨lw_p41, List.forall_mem_cons.mpr ⟨lw_p42, List.forall_mem_cons.mpr ⟨lw_p43, List.forall_mem_cons.mpr ⟨lw_p44, List.forall_mem_cons.mpr ⟨lw_p45, List.forall_mem_cons.mpr ⟨lw_p46, List.forall_mem_cons.mpr ⟨lw_p47, fun _ h => absurd h List.not_mem_nil⟩⟩⟩⟩⟩⟩⟩⟩⟩⟩⟩⟩⟩⟩⟩⟩
theorem lw_p48 : lw_okq (⟨"SpanKinds$Pieces", "gained", "(II)I"⟩, 9) := ⟨⟨by decide +kernel, by decide +kernel⟩, List.mem_of_getElem? (i := 243) (by decide +kernel), List.mem_of_getElem? (i := 1216) (by decide +kernel), List.mem_of_getElem? (i := 1217) (by decide +kernel)⟩
theorem lw_p49 : lw_okq (⟨"SpanKinds", "changeNow", "()LSpanKinds$Change;"⟩, 19) := ⟨⟨by decide +kernel, by decide +kernel⟩, List.mem_of_getElem? (i := 21) (by decide +kernel), List.mem_of_getElem? (i := 1241) (by decide +kernel), List.mem_of_getElem? (i := 1242) (by decide +kernel)⟩
theorem lw_p50 : lw_okq (⟨"SpanKinds$Change", "countSteps", "(LSpanKinds$Store;LSpanKinds$Blocks;)V"⟩, 13) := ⟨⟨by decide +kernel, by decide +kernel⟩, List.mem_of_getElem? (i := 400) (by decide +kernel), List.mem_of_getElem? (i := 1249) (by decide +kernel), List.mem_of_getElem? (i := 1250) (by decide +kernel)⟩
theorem lw_p51 : lw_okq (⟨"SpanKinds$Change", "cutPieces", "(LSpanKinds$Store;LSpanKinds$Blocks;)V"⟩, 13) := ⟨⟨by decide +kernel, by decide +kernel⟩, List.mem_of_getElem? (i := 400) (by decide +kernel), List.mem_of_getElem? (i := 1261) (by decide +kernel), List.mem_of_getElem? (i := 1262) (by decide +kernel)⟩
theorem lw_p52 : lw_okq (⟨"SpanKinds$Change", "placeSteps", "(LSpanKinds$Store;LSpanKinds$Blocks;)V"⟩, 13) := ⟨⟨by decide +kernel, by decide +kernel⟩, List.mem_of_getElem? (i := 400) (by decide +kernel), List.mem_of_getElem? (i := 1268) (by decide +kernel), List.mem_of_getElem? (i := 1269) (by decide +kernel)⟩
theorem lw_p53 : lw_okq (⟨"SpanKinds$Change", "place", "(IIII)V"⟩, 13) := ⟨⟨by decide +kernel, by decide +kernel⟩, List.mem_of_getElem? (i := 400) (by decide +kernel), List.mem_of_getElem? (i := 1272) (by decide +kernel), List.mem_of_getElem? (i := 1273) (by decide +kernel)⟩
theorem lw_p54 : lw_okq (⟨"SpanKinds$Change", "kindBehind", "(II)I"⟩, 13) := ⟨⟨by decide +kernel, by decide +kernel⟩, List.mem_of_getElem? (i := 400) (by decide +kernel), List.mem_of_getElem? (i := 1279) (by decide +kernel), List.mem_of_getElem? (i := 1280) (by decide +kernel)⟩
theorem lw_p55 : lw_okq (⟨"SpanKinds$Change", "allGoes", "()I"⟩, 13) := ⟨⟨by decide +kernel, by decide +kernel⟩, List.mem_of_getElem? (i := 400) (by decide +kernel), List.mem_of_getElem? (i := 1283) (by decide +kernel), List.mem_of_getElem? (i := 1284) (by decide +kernel)⟩
theorem lw_p56 : lw_okq (⟨"SpanKinds$Change", "allSteps", "()I"⟩, 13) := ⟨⟨by decide +kernel, by decide +kernel⟩, List.mem_of_getElem? (i := 400) (by decide +kernel), List.mem_of_getElem? (i := 1288) (by decide +kernel), List.mem_of_getElem? (i := 1289) (by decide +kernel)⟩
theorem lw_p57 : lw_okq (⟨"SpanKinds$Change", "finds", "(II)Z"⟩, 13) := ⟨⟨by decide +kernel, by decide +kernel⟩, List.mem_of_getElem? (i := 400) (by decide +kernel), List.mem_of_getElem? (i := 1292) (by decide +kernel), List.mem_of_getElem? (i := 1293) (by decide +kernel)⟩
theorem lw_p58 : lw_okq (⟨"SpanKinds$Change", "hasRoom", "(I)Z"⟩, 13) := ⟨⟨by decide +kernel, by decide +kernel⟩, List.mem_of_getElem? (i := 400) (by decide +kernel), List.mem_of_getElem? (i := 1296) (by decide +kernel), List.mem_of_getElem? (i := 1297) (by decide +kernel)⟩
theorem lw_p59 : lw_okq (⟨"SpanKinds$Change", "isDeadEnd", "(I)Z"⟩, 13) := ⟨⟨by decide +kernel, by decide +kernel⟩, List.mem_of_getElem? (i := 400) (by decide +kernel), List.mem_of_getElem? (i := 1301) (by decide +kernel), List.mem_of_getElem? (i := 1302) (by decide +kernel)⟩
theorem lw_p60 : lw_okq (⟨"SpanKinds$Change", "isSafe", "(I)Z"⟩, 13) := ⟨⟨by decide +kernel, by decide +kernel⟩, List.mem_of_getElem? (i := 400) (by decide +kernel), List.mem_of_getElem? (i := 1305) (by decide +kernel), List.mem_of_getElem? (i := 1306) (by decide +kernel)⟩
theorem lw_p61 : lw_okq (⟨"SpanKinds", "hasKept", "(I)Z"⟩, 19) := ⟨⟨by decide +kernel, by decide +kernel⟩, List.mem_of_getElem? (i := 21) (by decide +kernel), List.mem_of_getElem? (i := 1349) (by decide +kernel), List.mem_of_getElem? (i := 1350) (by decide +kernel)⟩
theorem lw_p62 : lw_okq (⟨"SpanKinds", "otherKinds", "(LSpanKinds$Store;Z)I"⟩, 19) := ⟨⟨by decide +kernel, by decide +kernel⟩, List.mem_of_getElem? (i := 21) (by decide +kernel), List.mem_of_getElem? (i := 1353) (by decide +kernel), List.mem_of_getElem? (i := 1354) (by decide +kernel)⟩
theorem lw_p63 : lw_okq (⟨"SpanKinds", "cutBoth", "(LSpanKinds$Store;)V"⟩, 19) := ⟨⟨by decide +kernel, by decide +kernel⟩, List.mem_of_getElem? (i := 21) (by decide +kernel), List.mem_of_getElem? (i := 1357) (by decide +kernel), List.mem_of_getElem? (i := 1358) (by decide +kernel)⟩
def lw_privs_4 : List (MethodName × Nat) := [(⟨"SpanKinds$Pieces", "gained", "(II)I"⟩, 9), (⟨"SpanKinds", "changeNow", "()LSpanKinds$Change;"⟩, 19), (⟨"SpanKinds$Change", "countSteps", "(LSpanKinds$Store;LSpanKinds$Blocks;)V"⟩, 13), (⟨"SpanKinds$Change", "cutPieces", "(LSpanKinds$Store;LSpanKinds$Blocks;)V"⟩, 13), (⟨"SpanKinds$Change", "placeSteps", "(LSpanKinds$Store;LSpanKinds$Blocks;)V"⟩, 13), (⟨"SpanKinds$Change", "place", "(IIII)V"⟩, 13), (⟨"SpanKinds$Change", "kindBehind", "(II)I"⟩, 13), (⟨"SpanKinds$Change", "allGoes", "()I"⟩, 13), (⟨"SpanKinds$Change", "allSteps", "()I"⟩, 13), (⟨"SpanKinds$Change", "finds", "(II)Z"⟩, 13), (⟨"SpanKinds$Change", "hasRoom", "(I)Z"⟩, 13), (⟨"SpanKinds$Change", "isDeadEnd", "(I)Z"⟩, 13), (⟨"SpanKinds$Change", "isSafe", "(I)Z"⟩, 13), (⟨"SpanKinds", "hasKept", "(I)Z"⟩, 19), (⟨"SpanKinds", "otherKinds", "(LSpanKinds$Store;Z)I"⟩, 19), (⟨"SpanKinds", "cutBoth", "(LSpanKinds$Store;)V"⟩, 19)]
theorem lw_r4 : ∀ q ∈ lw_privs_4, lw_okq q := List.forall_mem_cons.mpr ⟨lw_p48, List.forall_mem_cons.mpr ⟨lw_p49, List.forall_mem_cons.mpr ⟨lw_p50, List.forall_mem_cons.mpr ⟨lw_p51, List.forall_mem_cons.mpr ⟨lw_p52, List.forall_mem_cons.mpr ⟨lw_p53, List.forall_mem_cons.mpr ⟨lw_p54, List.forall_mem_cons.mpr ⟨lw_p55, List.forall_mem_cons.mpr ⟨lw_p56, List.forall_mem_cons.mpr ⟨lw_p57, List.forall_mem_cons.mpr ⟨lw_p58, List.forall_mem_cons.mpr ⟨lw_p59, List.forall_mem_cons.mpr ⟨lw_p60, List.forall_mem_cons.mpr ⟨lw_p61, List.forall_mem_cons.mpr ⟨lw_p62, List.forall_mem_cons.mpr ⟨lw_p63, fun _ h => absurd h List.not_mem_nil⟩⟩⟩⟩⟩⟩⟩⟩⟩⟩⟩⟩⟩⟩⟩⟩
theorem lw_p64 : lw_okq (⟨"SpanKinds", "otherWanted", "(LSpanKinds$Store;)I"⟩, 19) := ⟨⟨by decide +kernel, by decide +kernel⟩, List.mem_of_getElem? (i := 21) (by decide +kernel), List.mem_of_getElem? (i := 1365) (by decide +kernel), List.mem_of_getElem? (i := 1366) (by decide +kernel)⟩
theorem lw_p65 : lw_okq (⟨"SpanKindsModel", "clearBank", "(I)V"⟩, 52) := ⟨⟨by decide +kernel, by decide +kernel⟩, List.mem_of_getElem? (i := 1378) (by decide +kernel), List.mem_of_getElem? (i := 1385) (by decide +kernel), List.mem_of_getElem? (i := 1386) (by decide +kernel)⟩
theorem lw_p66 : lw_okq (⟨"SpanKindsModel", "startAnew", "()V"⟩, 52) := ⟨⟨by decide +kernel, by decide +kernel⟩, List.mem_of_getElem? (i := 1378) (by decide +kernel), List.mem_of_getElem? (i := 1389) (by decide +kernel), List.mem_of_getElem? (i := 1390) (by decide +kernel)⟩
theorem lw_p67 : lw_okq (⟨"SpanKindsModel", "readAll", "(I)V"⟩, 52) := ⟨⟨by decide +kernel, by decide +kernel⟩, List.mem_of_getElem? (i := 1378) (by decide +kernel), List.mem_of_getElem? (i := 1562) (by decide +kernel), List.mem_of_getElem? (i := 1563) (by decide +kernel)⟩
theorem lw_p68 : lw_okq (⟨"SpanKindsModel", "scan", "()V"⟩, 52) := ⟨⟨by decide +kernel, by decide +kernel⟩, List.mem_of_getElem? (i := 1378) (by decide +kernel), List.mem_of_getElem? (i := 1566) (by decide +kernel), List.mem_of_getElem? (i := 1567) (by decide +kernel)⟩
theorem lw_p69 : lw_okq (⟨"SpanKindsModel", "isBlank", "(I)Z"⟩, 52) := ⟨⟨by decide +kernel, by decide +kernel⟩, List.mem_of_getElem? (i := 1378) (by decide +kernel), List.mem_of_getElem? (i := 1570) (by decide +kernel), List.mem_of_getElem? (i := 1571) (by decide +kernel)⟩
theorem lw_p70 : lw_okq (⟨"SpanKindsModel", "signAt", "(I)I"⟩, 52) := ⟨⟨by decide +kernel, by decide +kernel⟩, List.mem_of_getElem? (i := 1378) (by decide +kernel), List.mem_of_getElem? (i := 1574) (by decide +kernel), List.mem_of_getElem? (i := 1575) (by decide +kernel)⟩
theorem lw_p71 : lw_okq (⟨"SpanKindsModel", "scanWord", "()V"⟩, 52) := ⟨⟨by decide +kernel, by decide +kernel⟩, List.mem_of_getElem? (i := 1378) (by decide +kernel), List.mem_of_getElem? (i := 1581) (by decide +kernel), List.mem_of_getElem? (i := 1582) (by decide +kernel)⟩
theorem lw_p72 : lw_okq (⟨"SpanKindsModel", "isSame", "(II)Z"⟩, 52) := ⟨⟨by decide +kernel, by decide +kernel⟩, List.mem_of_getElem? (i := 1378) (by decide +kernel), List.mem_of_getElem? (i := 1585) (by decide +kernel), List.mem_of_getElem? (i := 1586) (by decide +kernel)⟩
theorem lw_p73 : lw_okq (⟨"SpanKindsModel", "scanNumber", "()V"⟩, 52) := ⟨⟨by decide +kernel, by decide +kernel⟩, List.mem_of_getElem? (i := 1378) (by decide +kernel), List.mem_of_getElem? (i := 1592) (by decide +kernel), List.mem_of_getElem? (i := 1593) (by decide +kernel)⟩
theorem lw_p74 : lw_okq (⟨"SpanKindsModel", "readLine", "(I)V"⟩, 52) := ⟨⟨by decide +kernel, by decide +kernel⟩, List.mem_of_getElem? (i := 1378) (by decide +kernel), List.mem_of_getElem? (i := 1597) (by decide +kernel), List.mem_of_getElem? (i := 1598) (by decide +kernel)⟩
theorem lw_p75 : lw_okq (⟨"SpanKindsModel", "isWord", "(I)Z"⟩, 52) := ⟨⟨by decide +kernel, by decide +kernel⟩, List.mem_of_getElem? (i := 1378) (by decide +kernel), List.mem_of_getElem? (i := 1601) (by decide +kernel), List.mem_of_getElem? (i := 1602) (by decide +kernel)⟩
theorem lw_p76 : lw_okq (⟨"SpanKindsModel", "isOnce", "(I)Z"⟩, 52) := ⟨⟨by decide +kernel, by decide +kernel⟩, List.mem_of_getElem? (i := 1378) (by decide +kernel), List.mem_of_getElem? (i := 1605) (by decide +kernel), List.mem_of_getElem? (i := 1606) (by decide +kernel)⟩
theorem lw_p77 : lw_okq (⟨"SpanKindsModel", "fail", "(I)V"⟩, 52) := ⟨⟨by decide +kernel, by decide +kernel⟩, List.mem_of_getElem? (i := 1378) (by decide +kernel), List.mem_of_getElem? (i := 1609) (by decide +kernel), List.mem_of_getElem? (i := 1610) (by decide +kernel)⟩
theorem lw_p78 : lw_okq (⟨"SpanKindsModel", "numeral", "(II)I"⟩, 52) := ⟨⟨by decide +kernel, by decide +kernel⟩, List.mem_of_getElem? (i := 1378) (by decide +kernel), List.mem_of_getElem? (i := 1613) (by decide +kernel), List.mem_of_getElem? (i := 1614) (by decide +kernel)⟩
theorem lw_p79 : lw_okq (⟨"SpanKindsModel", "kindTold", "()I"⟩, 52) := ⟨⟨by decide +kernel, by decide +kernel⟩, List.mem_of_getElem? (i := 1378) (by decide +kernel), List.mem_of_getElem? (i := 1620) (by decide +kernel), List.mem_of_getElem? (i := 1621) (by decide +kernel)⟩
def lw_privs_5 : List (MethodName × Nat) := [(⟨"SpanKinds", "otherWanted", "(LSpanKinds$Store;)I"⟩, 19), (⟨"SpanKindsModel", "clearBank", "(I)V"⟩, 52), (⟨"SpanKindsModel", "startAnew", "()V"⟩, 52), (⟨"SpanKindsModel", "readAll", "(I)V"⟩, 52), (⟨"SpanKindsModel", "scan", "()V"⟩, 52), (⟨"SpanKindsModel", "isBlank", "(I)Z"⟩, 52), (⟨"SpanKindsModel", "signAt", "(I)I"⟩, 52), (⟨"SpanKindsModel", "scanWord", "()V"⟩, 52), (⟨"SpanKindsModel", "isSame", "(II)Z"⟩, 52), (⟨"SpanKindsModel", "scanNumber", "()V"⟩, 52), (⟨"SpanKindsModel", "readLine", "(I)V"⟩, 52), (⟨"SpanKindsModel", "isWord", "(I)Z"⟩, 52), (⟨"SpanKindsModel", "isOnce", "(I)Z"⟩, 52), (⟨"SpanKindsModel", "fail", "(I)V"⟩, 52), (⟨"SpanKindsModel", "numeral", "(II)I"⟩, 52), (⟨"SpanKindsModel", "kindTold", "()I"⟩, 52)]
theorem lw_r5 : ∀ q ∈ lw_privs_5, lw_okq q := List.forall_mem_cons.mpr ⟨lw_p64, List.forall_mem_cons.mpr ⟨lw_p65, List.forall_mem_cons.mpr ⟨lw_p66, List.forall_mem_cons.mpr ⟨lw_p67, List.forall_mem_cons.mpr ⟨lw_p68, List.forall_mem_cons.mpr ⟨lw_p69, List.forall_mem_cons.mpr ⟨lw_p70, List.forall_mem_cons.mpr ⟨lw_p71, List.forall_mem_cons.mpr ⟨lw_p72, List.forall_mem_cons.mpr ⟨lw_p73, List.forall_mem_cons.mpr ⟨lw_p74, List.forall_mem_cons.mpr ⟨lw_p75, List.forall_mem_cons.mpr ⟨lw_p76, List.forall_mem_cons.mpr ⟨lw_p77, List.forall_mem_cons.mpr ⟨lw_p78, List.forall_mem_cons.mpr ⟨lw_p79, fun _ h => absurd h List.not_mem_nil⟩⟩⟩⟩⟩⟩⟩⟩⟩⟩⟩⟩⟩⟩⟩⟩
theorem lw_p80 : lw_okq (⟨"SpanKindsModel", "isKindWord", "()Z"⟩, 52) := ⟨⟨by decide +kernel, by decide +kernel⟩, List.mem_of_getElem? (i := 1378) (by decide +kernel), List.mem_of_getElem? (i := 1624) (by decide +kernel), List.mem_of_getElem? (i := 1625) (by decide +kernel)⟩
theorem lw_p81 : lw_okq (⟨"SpanKindsModel", "readFixed", "(I)V"⟩, 52) := ⟨⟨by decide +kernel, by decide +kernel⟩, List.mem_of_getElem? (i := 1378) (by decide +kernel), List.mem_of_getElem? (i := 1628) (by decide +kernel), List.mem_of_getElem? (i := 1629) (by decide +kernel)⟩
theorem lw_p82 : lw_okq (⟨"SpanKindsModel", "isStop", "()Z"⟩, 52) := ⟨⟨by decide +kernel, by decide +kernel⟩, List.mem_of_getElem? (i := 1378) (by decide +kernel), List.mem_of_getElem? (i := 1632) (by decide +kernel), List.mem_of_getElem? (i := 1633) (by decide +kernel)⟩
theorem lw_p83 : lw_okq (⟨"SpanKindsModel", "readSpan", "(I)V"⟩, 52) := ⟨⟨by decide +kernel, by decide +kernel⟩, List.mem_of_getElem? (i := 1378) (by decide +kernel), List.mem_of_getElem? (i := 1636) (by decide +kernel), List.mem_of_getElem? (i := 1637) (by decide +kernel)⟩
theorem lw_p84 : lw_okq (⟨"SpanKindsModel", "spaceOf", "(I)I"⟩, 52) := ⟨⟨by decide +kernel, by decide +kernel⟩, List.mem_of_getElem? (i := 1378) (by decide +kernel), List.mem_of_getElem? (i := 1640) (by decide +kernel), List.mem_of_getElem? (i := 1641) (by decide +kernel)⟩
theorem lw_p85 : lw_okq (⟨"SpanKindsModel", "readRegister", "(I)V"⟩, 52) := ⟨⟨by decide +kernel, by decide +kernel⟩, List.mem_of_getElem? (i := 1378) (by decide +kernel), List.mem_of_getElem? (i := 1644) (by decide +kernel), List.mem_of_getElem? (i := 1645) (by decide +kernel)⟩
theorem lw_p86 : lw_okq (⟨"SpanKindsModel", "emptyIn", "(I)I"⟩, 52) := ⟨⟨by decide +kernel, by decide +kernel⟩, List.mem_of_getElem? (i := 1378) (by decide +kernel), List.mem_of_getElem? (i := 1648) (by decide +kernel), List.mem_of_getElem? (i := 1649) (by decide +kernel)⟩
theorem lw_p87 : lw_okq (⟨"SpanKindsModel", "readPage", "(I)V"⟩, 52) := ⟨⟨by decide +kernel, by decide +kernel⟩, List.mem_of_getElem? (i := 1378) (by decide +kernel), List.mem_of_getElem? (i := 1655) (by decide +kernel), List.mem_of_getElem? (i := 1656) (by decide +kernel)⟩
theorem lw_p88 : lw_okq (⟨"SpanKindsModel", "isAddress", "(I)Z"⟩, 52) := ⟨⟨by decide +kernel, by decide +kernel⟩, List.mem_of_getElem? (i := 1378) (by decide +kernel), List.mem_of_getElem? (i := 1667) (by decide +kernel), List.mem_of_getElem? (i := 1668) (by decide +kernel)⟩
theorem lw_p89 : lw_okq (⟨"SpanKindsModel", "addresses", "()I"⟩, 52) := ⟨⟨by decide +kernel, by decide +kernel⟩, List.mem_of_getElem? (i := 1378) (by decide +kernel), List.mem_of_getElem? (i := 1671) (by decide +kernel), List.mem_of_getElem? (i := 1672) (by decide +kernel)⟩
theorem lw_p90 : lw_okq (⟨"SpanKindsModel", "wantedAt", "(I)I"⟩, 52) := ⟨⟨by decide +kernel, by decide +kernel⟩, List.mem_of_getElem? (i := 1378) (by decide +kernel), List.mem_of_getElem? (i := 1675) (by decide +kernel), List.mem_of_getElem? (i := 1676) (by decide +kernel)⟩
theorem lw_p91 : lw_okq (⟨"SpanKindsModel", "kindAt", "(I)I"⟩, 52) := ⟨⟨by decide +kernel, by decide +kernel⟩, List.mem_of_getElem? (i := 1378) (by decide +kernel), List.mem_of_getElem? (i := 1683) (by decide +kernel), List.mem_of_getElem? (i := 1684) (by decide +kernel)⟩
theorem lw_p92 : lw_okq (⟨"SpanKindsModel", "kindWithout", "(II)I"⟩, 52) := ⟨⟨by decide +kernel, by decide +kernel⟩, List.mem_of_getElem? (i := 1378) (by decide +kernel), List.mem_of_getElem? (i := 1687) (by decide +kernel), List.mem_of_getElem? (i := 1688) (by decide +kernel)⟩
theorem lw_p93 : lw_okq (⟨"SpanKindsModel", "isFixed", "(I)Z"⟩, 52) := ⟨⟨by decide +kernel, by decide +kernel⟩, List.mem_of_getElem? (i := 1378) (by decide +kernel), List.mem_of_getElem? (i := 1691) (by decide +kernel), List.mem_of_getElem? (i := 1692) (by decide +kernel)⟩
theorem lw_p94 : lw_okq (⟨"SpanKindsModel", "setAt", "(II)I"⟩, 52) := ⟨⟨by decide +kernel, by decide +kernel⟩, List.mem_of_getElem? (i := 1378) (by decide +kernel), List.mem_of_getElem? (i := 1695) (by decide +kernel), List.mem_of_getElem? (i := 1696) (by decide +kernel)⟩
theorem lw_p95 : lw_okq (⟨"SpanKindsModel", "registersNow", "()I"⟩, 52) := ⟨⟨by decide +kernel, by decide +kernel⟩, List.mem_of_getElem? (i := 1378) (by decide +kernel), List.mem_of_getElem? (i := 1699) (by decide +kernel), List.mem_of_getElem? (i := 1700) (by decide +kernel)⟩
def lw_privs_6 : List (MethodName × Nat) := [(⟨"SpanKindsModel", "isKindWord", "()Z"⟩, 52), (⟨"SpanKindsModel", "readFixed", "(I)V"⟩, 52), (⟨"SpanKindsModel", "isStop", "()Z"⟩, 52), (⟨"SpanKindsModel", "readSpan", "(I)V"⟩, 52), (⟨"SpanKindsModel", "spaceOf", "(I)I"⟩, 52), (⟨"SpanKindsModel", "readRegister", "(I)V"⟩, 52), (⟨"SpanKindsModel", "emptyIn", "(I)I"⟩, 52), (⟨"SpanKindsModel", "readPage", "(I)V"⟩, 52), (⟨"SpanKindsModel", "isAddress", "(I)Z"⟩, 52), (⟨"SpanKindsModel", "addresses", "()I"⟩, 52), (⟨"SpanKindsModel", "wantedAt", "(I)I"⟩, 52), (⟨"SpanKindsModel", "kindAt", "(I)I"⟩, 52), (⟨"SpanKindsModel", "kindWithout", "(II)I"⟩, 52), (⟨"SpanKindsModel", "isFixed", "(I)Z"⟩, 52), (⟨"SpanKindsModel", "setAt", "(II)I"⟩, 52), (⟨"SpanKindsModel", "registersNow", "()I"⟩, 52)]
theorem lw_r6 : ∀ q ∈ lw_privs_6, lw_okq q := List.forall_mem_cons.mpr ⟨lw_p80, List.forall_mem_cons.mpr ⟨lw_p81, List.forall_mem_cons.mpr ⟨lw_p82, List.forall_mem_cons.mpr ⟨lw_p83, List.forall_mem_cons.mpr ⟨lw_p84, List.forall_mem_cons.mpr ⟨lw_p85, List.forall_mem_cons.mpr ⟨lw_p86, List.forall_mem_cons.mpr ⟨lw_p87, List.forall_mem_cons.mpr ⟨lw_p88, List.forall_mem_cons.mpr ⟨lw_p89, List.forall_mem_cons.mpr ⟨lw_p90, List.forall_mem_cons.mpr ⟨lw_p91, List.forall_mem_cons.mpr ⟨lw_p92, List.forall_mem_cons.mpr ⟨lw_p93, List.forall_mem_cons.mpr ⟨lw_p94, List.forall_mem_cons.mpr ⟨lw_p95, fun _ h => absurd h List.not_mem_nil⟩⟩⟩⟩⟩⟩⟩⟩⟩⟩⟩⟩⟩⟩⟩⟩
theorem lw_p96 : lw_okq (⟨"SpanKindsModel", "hasIt", "(II)Z"⟩, 52) := ⟨⟨by decide +kernel, by decide +kernel⟩, List.mem_of_getElem? (i := 1378) (by decide +kernel), List.mem_of_getElem? (i := 1703) (by decide +kernel), List.mem_of_getElem? (i := 1704) (by decide +kernel)⟩
theorem lw_p97 : lw_okq (⟨"SpanKindsModel", "sizeOf", "(I)I"⟩, 52) := ⟨⟨by decide +kernel, by decide +kernel⟩, List.mem_of_getElem? (i := 1378) (by decide +kernel), List.mem_of_getElem? (i := 1707) (by decide +kernel), List.mem_of_getElem? (i := 1708) (by decide +kernel)⟩
theorem lw_p98 : lw_okq (⟨"SpanKindsModel", "baseOf", "(I)I"⟩, 52) := ⟨⟨by decide +kernel, by decide +kernel⟩, List.mem_of_getElem? (i := 1378) (by decide +kernel), List.mem_of_getElem? (i := 1711) (by decide +kernel), List.mem_of_getElem? (i := 1712) (by decide +kernel)⟩
theorem lw_p99 : lw_okq (⟨"SpanKindsModel", "kindOf", "(I)I"⟩, 52) := ⟨⟨by decide +kernel, by decide +kernel⟩, List.mem_of_getElem? (i := 1378) (by decide +kernel), List.mem_of_getElem? (i := 1715) (by decide +kernel), List.mem_of_getElem? (i := 1716) (by decide +kernel)⟩
theorem lw_p100 : lw_okq (⟨"SpanKindsModel", "together", "(I)I"⟩, 52) := ⟨⟨by decide +kernel, by decide +kernel⟩, List.mem_of_getElem? (i := 1378) (by decide +kernel), List.mem_of_getElem? (i := 1719) (by decide +kernel), List.mem_of_getElem? (i := 1720) (by decide +kernel)⟩
theorem lw_p101 : lw_okq (⟨"SpanKindsModel", "seenAt", "(I)I"⟩, 52) := ⟨⟨by decide +kernel, by decide +kernel⟩, List.mem_of_getElem? (i := 1378) (by decide +kernel), List.mem_of_getElem? (i := 1727) (by decide +kernel), List.mem_of_getElem? (i := 1728) (by decide +kernel)⟩
theorem lw_p102 : lw_okq (⟨"SpanKindsModel", "pages", "()I"⟩, 52) := ⟨⟨by decide +kernel, by decide +kernel⟩, List.mem_of_getElem? (i := 1378) (by decide +kernel), List.mem_of_getElem? (i := 1741) (by decide +kernel), List.mem_of_getElem? (i := 1742) (by decide +kernel)⟩
theorem lw_p103 : lw_okq (⟨"SpanKindsModel", "isSet", "(I)Z"⟩, 52) := ⟨⟨by decide +kernel, by decide +kernel⟩, List.mem_of_getElem? (i := 1378) (by decide +kernel), List.mem_of_getElem? (i := 1757) (by decide +kernel), List.mem_of_getElem? (i := 1758) (by decide +kernel)⟩
theorem lw_p104 : lw_okq (⟨"SpanKindsModel", "isRegister", "(I)Z"⟩, 52) := ⟨⟨by decide +kernel, by decide +kernel⟩, List.mem_of_getElem? (i := 1378) (by decide +kernel), List.mem_of_getElem? (i := 1761) (by decide +kernel), List.mem_of_getElem? (i := 1762) (by decide +kernel)⟩
theorem lw_p105 : lw_okq (⟨"SpanKindsModel", "runMany", "()I"⟩, 52) := ⟨⟨by decide +kernel, by decide +kernel⟩, List.mem_of_getElem? (i := 1378) (by decide +kernel), List.mem_of_getElem? (i := 1769) (by decide +kernel), List.mem_of_getElem? (i := 1770) (by decide +kernel)⟩
theorem lw_p106 : lw_okq (⟨"SpanKindsModel", "runEnd", "(I)I"⟩, 52) := ⟨⟨by decide +kernel, by decide +kernel⟩, List.mem_of_getElem? (i := 1378) (by decide +kernel), List.mem_of_getElem? (i := 1773) (by decide +kernel), List.mem_of_getElem? (i := 1774) (by decide +kernel)⟩
theorem lw_p107 : lw_okq (⟨"SpanKindsModel", "isMended", "(II)Z"⟩, 52) := ⟨⟨by decide +kernel, by decide +kernel⟩, List.mem_of_getElem? (i := 1378) (by decide +kernel), List.mem_of_getElem? (i := 1789) (by decide +kernel), List.mem_of_getElem? (i := 1790) (by decide +kernel)⟩
theorem lw_p108 : lw_okq (⟨"SpanKindsModel", "isAll", "(III)Z"⟩, 52) := ⟨⟨by decide +kernel, by decide +kernel⟩, List.mem_of_getElem? (i := 1378) (by decide +kernel), List.mem_of_getElem? (i := 1800) (by decide +kernel), List.mem_of_getElem? (i := 1801) (by decide +kernel)⟩
theorem lw_p109 : lw_okq (⟨"SpanKindsModel", "addedCost", "()I"⟩, 52) := ⟨⟨by decide +kernel, by decide +kernel⟩, List.mem_of_getElem? (i := 1378) (by decide +kernel), List.mem_of_getElem? (i := 1812) (by decide +kernel), List.mem_of_getElem? (i := 1813) (by decide +kernel)⟩
theorem lw_p110 : lw_okq (⟨"SpanKindsModel", "layWants", "(I)V"⟩, 52) := ⟨⟨by decide +kernel, by decide +kernel⟩, List.mem_of_getElem? (i := 1378) (by decide +kernel), List.mem_of_getElem? (i := 1816) (by decide +kernel), List.mem_of_getElem? (i := 1817) (by decide +kernel)⟩
theorem lw_p111 : lw_okq (⟨"SpanKindsModel", "costBy", "(I)I"⟩, 52) := ⟨⟨by decide +kernel, by decide +kernel⟩, List.mem_of_getElem? (i := 1378) (by decide +kernel), List.mem_of_getElem? (i := 1820) (by decide +kernel), List.mem_of_getElem? (i := 1821) (by decide +kernel)⟩
def lw_privs_7 : List (MethodName × Nat) := [(⟨"SpanKindsModel", "hasIt", "(II)Z"⟩, 52), (⟨"SpanKindsModel", "sizeOf", "(I)I"⟩, 52), (⟨"SpanKindsModel", "baseOf", "(I)I"⟩, 52), (⟨"SpanKindsModel", "kindOf", "(I)I"⟩, 52), (⟨"SpanKindsModel", "together", "(I)I"⟩, 52), (⟨"SpanKindsModel", "seenAt", "(I)I"⟩, 52), (⟨"SpanKindsModel", "pages", "()I"⟩, 52), (⟨"SpanKindsModel", "isSet", "(I)Z"⟩, 52), (⟨"SpanKindsModel", "isRegister", "(I)Z"⟩, 52), (⟨"SpanKindsModel", "runMany", "()I"⟩, 52), (⟨"SpanKindsModel", "runEnd", "(I)I"⟩, 52), (⟨"SpanKindsModel", "isMended", "(II)Z"⟩, 52), (⟨"SpanKindsModel", "isAll", "(III)Z"⟩, 52), (⟨"SpanKindsModel", "addedCost", "()I"⟩, 52), (⟨"SpanKindsModel", "layWants", "(I)V"⟩, 52), (⟨"SpanKindsModel", "costBy", "(I)I"⟩, 52)]
theorem lw_r7 : ∀ q ∈ lw_privs_7, lw_okq q := List.forall_mem_cons.mpr ⟨lw_p96, List.forall_mem_cons.mpr ⟨lw_p97, List.forall_mem_cons.mpr ⟨lw_p98, List.forall_mem_cons.mpr ⟨lw_p99, List.forall_mem_cons.mpr ⟨lw_p100, List.forall_mem_cons.mpr ⟨lw_p101, List.forall_mem_cons.mpr ⟨lw_p102, List.forall_mem_cons.mpr ⟨lw_p103, List.forall_mem_cons.mpr ⟨lw_p104, List.forall_mem_cons.mpr ⟨lw_p105, List.forall_mem_cons.mpr ⟨lw_p106, List.forall_mem_cons.mpr ⟨lw_p107, List.forall_mem_cons.mpr ⟨lw_p108, List.forall_mem_cons.mpr ⟨lw_p109, List.forall_mem_cons.mpr ⟨lw_p110, List.forall_mem_cons.mpr ⟨lw_p111, fun _ h => absurd h List.not_mem_nil⟩⟩⟩⟩⟩⟩⟩⟩⟩⟩⟩⟩⟩⟩⟩⟩
theorem lw_p112 : lw_okq (⟨"SpanKindsModel", "layFewest", "(I)V"⟩, 52) := ⟨⟨by decide +kernel, by decide +kernel⟩, List.mem_of_getElem? (i := 1378) (by decide +kernel), List.mem_of_getElem? (i := 1824) (by decide +kernel), List.mem_of_getElem? (i := 1825) (by decide +kernel)⟩
theorem lw_p113 : lw_okq (⟨"SpanKindsModel", "isRight", "(III)Z"⟩, 52) := ⟨⟨by decide +kernel, by decide +kernel⟩, List.mem_of_getElem? (i := 1378) (by decide +kernel), List.mem_of_getElem? (i := 1831) (by decide +kernel), List.mem_of_getElem? (i := 1832) (by decide +kernel)⟩
theorem lw_p114 : lw_okq (⟨"SpanKindsModel", "kindBy", "(I)I"⟩, 52) := ⟨⟨by decide +kernel, by decide +kernel⟩, List.mem_of_getElem? (i := 1378) (by decide +kernel), List.mem_of_getElem? (i := 1835) (by decide +kernel), List.mem_of_getElem? (i := 1836) (by decide +kernel)⟩
theorem lw_p115 : lw_okq (⟨"SpanKindsModel", "both", "([III)I"⟩, 52) := ⟨⟨by decide +kernel, by decide +kernel⟩, List.mem_of_getElem? (i := 1378) (by decide +kernel), List.mem_of_getElem? (i := 1839) (by decide +kernel), List.mem_of_getElem? (i := 1840) (by decide +kernel)⟩
theorem lw_p116 : lw_okq (⟨"SpanKindsModel", "layPlan", "()V"⟩, 52) := ⟨⟨by decide +kernel, by decide +kernel⟩, List.mem_of_getElem? (i := 1378) (by decide +kernel), List.mem_of_getElem? (i := 1859) (by decide +kernel), List.mem_of_getElem? (i := 1860) (by decide +kernel)⟩
theorem lw_p117 : lw_okq (⟨"SpanKindsModel", "waits", "(II)V"⟩, 52) := ⟨⟨by decide +kernel, by decide +kernel⟩, List.mem_of_getElem? (i := 1378) (by decide +kernel), List.mem_of_getElem? (i := 1863) (by decide +kernel), List.mem_of_getElem? (i := 1864) (by decide +kernel)⟩
theorem lw_p118 : lw_okq (⟨"SpanKindsModel", "layWaiting", "(II)V"⟩, 52) := ⟨⟨by decide +kernel, by decide +kernel⟩, List.mem_of_getElem? (i := 1378) (by decide +kernel), List.mem_of_getElem? (i := 1867) (by decide +kernel), List.mem_of_getElem? (i := 1868) (by decide +kernel)⟩
theorem lw_p119 : lw_okq (⟨"SpanKindsModel", "layBy", "([IIIIZ)V"⟩, 52) := ⟨⟨by decide +kernel, by decide +kernel⟩, List.mem_of_getElem? (i := 1378) (by decide +kernel), List.mem_of_getElem? (i := 1871) (by decide +kernel), List.mem_of_getElem? (i := 1872) (by decide +kernel)⟩
theorem lw_p120 : lw_okq (⟨"SpanKindsModel", "layBlock", "(II)V"⟩, 52) := ⟨⟨by decide +kernel, by decide +kernel⟩, List.mem_of_getElem? (i := 1378) (by decide +kernel), List.mem_of_getElem? (i := 1875) (by decide +kernel), List.mem_of_getElem? (i := 1876) (by decide +kernel)⟩
theorem lw_p121 : lw_okq (⟨"SpanKindsModel", "baseAt", "(I)I"⟩, 52) := ⟨⟨by decide +kernel, by decide +kernel⟩, List.mem_of_getElem? (i := 1378) (by decide +kernel), List.mem_of_getElem? (i := 1879) (by decide +kernel), List.mem_of_getElem? (i := 1880) (by decide +kernel)⟩
theorem lw_p122 : lw_okq (⟨"SpanKindsModel", "sizeAt", "(I)I"⟩, 52) := ⟨⟨by decide +kernel, by decide +kernel⟩, List.mem_of_getElem? (i := 1378) (by decide +kernel), List.mem_of_getElem? (i := 1883) (by decide +kernel), List.mem_of_getElem? (i := 1884) (by decide +kernel)⟩
theorem lw_p123 : lw_okq (⟨"SpanKindsModel", "blockOf", "(II)I"⟩, 52) := ⟨⟨by decide +kernel, by decide +kernel⟩, List.mem_of_getElem? (i := 1378) (by decide +kernel), List.mem_of_getElem? (i := 1887) (by decide +kernel), List.mem_of_getElem? (i := 1888) (by decide +kernel)⟩
theorem lw_p124 : lw_okq (⟨"SpanKindsModel", "layPagedPlan", "()V"⟩, 52) := ⟨⟨by decide +kernel, by decide +kernel⟩, List.mem_of_getElem? (i := 1378) (by decide +kernel), List.mem_of_getElem? (i := 1895) (by decide +kernel), List.mem_of_getElem? (i := 1896) (by decide +kernel)⟩
theorem lw_p125 : lw_okq (⟨"SpanKindsModel", "layPageFewest", "()V"⟩, 52) := ⟨⟨by decide +kernel, by decide +kernel⟩, List.mem_of_getElem? (i := 1378) (by decide +kernel), List.mem_of_getElem? (i := 1899) (by decide +kernel), List.mem_of_getElem? (i := 1900) (by decide +kernel)⟩
theorem lw_p126 : lw_okq (⟨"SpanKindsModel", "layPage", "(II)V"⟩, 52) := ⟨⟨by decide +kernel, by decide +kernel⟩, List.mem_of_getElem? (i := 1378) (by decide +kernel), List.mem_of_getElem? (i := 1906) (by decide +kernel), List.mem_of_getElem? (i := 1907) (by decide +kernel)⟩
theorem lw_p127 : lw_okq (⟨"SpanKindsModel", "pageNode", "(I)I"⟩, 52) := ⟨⟨by decide +kernel, by decide +kernel⟩, List.mem_of_getElem? (i := 1378) (by decide +kernel), List.mem_of_getElem? (i := 1910) (by decide +kernel), List.mem_of_getElem? (i := 1911) (by decide +kernel)⟩
def lw_privs_8 : List (MethodName × Nat) := [(⟨"SpanKindsModel", "layFewest", "(I)V"⟩, 52), (⟨"SpanKindsModel", "isRight", "(III)Z"⟩, 52), (⟨"SpanKindsModel", "kindBy", "(I)I"⟩, 52), (⟨"SpanKindsModel", "both", "([III)I"⟩, 52), (⟨"SpanKindsModel", "layPlan", "()V"⟩, 52), (⟨"SpanKindsModel", "waits", "(II)V"⟩, 52), (⟨"SpanKindsModel", "layWaiting", "(II)V"⟩, 52), (⟨"SpanKindsModel", "layBy", "([IIIIZ)V"⟩, 52), (⟨"SpanKindsModel", "layBlock", "(II)V"⟩, 52), (⟨"SpanKindsModel", "baseAt", "(I)I"⟩, 52), (⟨"SpanKindsModel", "sizeAt", "(I)I"⟩, 52), (⟨"SpanKindsModel", "blockOf", "(II)I"⟩, 52), (⟨"SpanKindsModel", "layPagedPlan", "()V"⟩, 52), (⟨"SpanKindsModel", "layPageFewest", "()V"⟩, 52), (⟨"SpanKindsModel", "layPage", "(II)V"⟩, 52), (⟨"SpanKindsModel", "pageNode", "(I)I"⟩, 52)]
theorem lw_r8 : ∀ q ∈ lw_privs_8, lw_okq q := List.forall_mem_cons.mpr ⟨lw_p112, List.forall_mem_cons.mpr ⟨lw_p113, List.forall_mem_cons.mpr ⟨lw_p114, List.forall_mem_cons.mpr ⟨lw_p115, List.forall_mem_cons.mpr ⟨lw_p116, List.forall_mem_cons.mpr ⟨lw_p117, List.forall_mem_cons.mpr ⟨lw_p118, List.forall_mem_cons.mpr ⟨lw_p119, List.forall_mem_cons.mpr ⟨lw_p120, List.forall_mem_cons.mpr ⟨lw_p121, List.forall_mem_cons.mpr ⟨lw_p122, List.forall_mem_cons.mpr ⟨lw_p123, List.forall_mem_cons.mpr ⟨lw_p124, List.forall_mem_cons.mpr ⟨lw_p125, List.forall_mem_cons.mpr ⟨lw_p126, List.forall_mem_cons.mpr ⟨lw_p127, fun _ h => absurd h List.not_mem_nil⟩⟩⟩⟩⟩⟩⟩⟩⟩⟩⟩⟩⟩⟩⟩⟩
theorem lw_p128 : lw_okq (⟨"SpanKindsModel", "ownPages", "()I"⟩, 52) := ⟨⟨by decide +kernel, by decide +kernel⟩, List.mem_of_getElem? (i := 1378) (by decide +kernel), List.mem_of_getElem? (i := 1914) (by decide +kernel), List.mem_of_getElem? (i := 1915) (by decide +kernel)⟩
theorem lw_p129 : lw_okq (⟨"SpanKindsModel", "layAllMost", "(I)I"⟩, 52) := ⟨⟨by decide +kernel, by decide +kernel⟩, List.mem_of_getElem? (i := 1378) (by decide +kernel), List.mem_of_getElem? (i := 1930) (by decide +kernel), List.mem_of_getElem? (i := 1931) (by decide +kernel)⟩
theorem lw_p130 : lw_okq (⟨"SpanKindsModel", "layMost", "(III)V"⟩, 52) := ⟨⟨by decide +kernel, by decide +kernel⟩, List.mem_of_getElem? (i := 1378) (by decide +kernel), List.mem_of_getElem? (i := 1934) (by decide +kernel), List.mem_of_getElem? (i := 1935) (by decide +kernel)⟩
theorem lw_p131 : lw_okq (⟨"SpanKindsModel", "rightIn", "(II)I"⟩, 52) := ⟨⟨by decide +kernel, by decide +kernel⟩, List.mem_of_getElem? (i := 1378) (by decide +kernel), List.mem_of_getElem? (i := 1938) (by decide +kernel), List.mem_of_getElem? (i := 1939) (by decide +kernel)⟩
theorem lw_p132 : lw_okq (⟨"SpanKindsModel", "laySet", "(I)V"⟩, 52) := ⟨⟨by decide +kernel, by decide +kernel⟩, List.mem_of_getElem? (i := 1378) (by decide +kernel), List.mem_of_getElem? (i := 1949) (by decide +kernel), List.mem_of_getElem? (i := 1950) (by decide +kernel)⟩
theorem lw_p133 : lw_okq (⟨"SpanKindsModel", "waitsWith", "(III)V"⟩, 52) := ⟨⟨by decide +kernel, by decide +kernel⟩, List.mem_of_getElem? (i := 1378) (by decide +kernel), List.mem_of_getElem? (i := 1953) (by decide +kernel), List.mem_of_getElem? (i := 1954) (by decide +kernel)⟩
theorem lw_p134 : lw_okq (⟨"SpanKindsModel", "laySetAt", "(III)V"⟩, 52) := ⟨⟨by decide +kernel, by decide +kernel⟩, List.mem_of_getElem? (i := 1378) (by decide +kernel), List.mem_of_getElem? (i := 1957) (by decide +kernel), List.mem_of_getElem? (i := 1958) (by decide +kernel)⟩
theorem lw_p135 : lw_okq (⟨"SpanKindsModel", "mostAt", "(III)I"⟩, 52) := ⟨⟨by decide +kernel, by decide +kernel⟩, List.mem_of_getElem? (i := 1378) (by decide +kernel), List.mem_of_getElem? (i := 1961) (by decide +kernel), List.mem_of_getElem? (i := 1962) (by decide +kernel)⟩
theorem lw_p136 : lw_okq (⟨"SpanKindsModel", "isTaken", "(III)Z"⟩, 52) := ⟨⟨by decide +kernel, by decide +kernel⟩, List.mem_of_getElem? (i := 1378) (by decide +kernel), List.mem_of_getElem? (i := 1977) (by decide +kernel), List.mem_of_getElem? (i := 1978) (by decide +kernel)⟩
theorem lw_p137 : lw_okq (⟨"SpanKindsModel", "gain", "(III)I"⟩, 52) := ⟨⟨by decide +kernel, by decide +kernel⟩, List.mem_of_getElem? (i := 1378) (by decide +kernel), List.mem_of_getElem? (i := 1981) (by decide +kernel), List.mem_of_getElem? (i := 1982) (by decide +kernel)⟩
theorem lw_p138 : lw_okq (⟨"SpanKindsModel", "layChange", "()Z"⟩, 52) := ⟨⟨by decide +kernel, by decide +kernel⟩, List.mem_of_getElem? (i := 1378) (by decide +kernel), List.mem_of_getElem? (i := 1989) (by decide +kernel), List.mem_of_getElem? (i := 1990) (by decide +kernel)⟩
theorem lw_p139 : lw_okq (⟨"SpanKindsModel", "laySteps", "()V"⟩, 52) := ⟨⟨by decide +kernel, by decide +kernel⟩, List.mem_of_getElem? (i := 1378) (by decide +kernel), List.mem_of_getElem? (i := 1993) (by decide +kernel), List.mem_of_getElem? (i := 1994) (by decide +kernel)⟩
theorem lw_p140 : lw_okq (⟨"SpanKindsModel", "isInPlan", "(I)Z"⟩, 52) := ⟨⟨by decide +kernel, by decide +kernel⟩, List.mem_of_getElem? (i := 1378) (by decide +kernel), List.mem_of_getElem? (i := 1997) (by decide +kernel), List.mem_of_getElem? (i := 1998) (by decide +kernel)⟩
theorem lw_p141 : lw_okq (⟨"SpanKindsModel", "isInRegisters", "(I)Z"⟩, 52) := ⟨⟨by decide +kernel, by decide +kernel⟩, List.mem_of_getElem? (i := 1378) (by decide +kernel), List.mem_of_getElem? (i := 2001) (by decide +kernel), List.mem_of_getElem? (i := 2002) (by decide +kernel)⟩
theorem lw_p142 : lw_okq (⟨"SpanKindsModel", "layEdges", "()V"⟩, 52) := ⟨⟨by decide +kernel, by decide +kernel⟩, List.mem_of_getElem? (i := 1378) (by decide +kernel), List.mem_of_getElem? (i := 2005) (by decide +kernel), List.mem_of_getElem? (i := 2006) (by decide +kernel)⟩
theorem lw_p143 : lw_okq (⟨"SpanKindsModel", "addEdge", "(I)V"⟩, 52) := ⟨⟨by decide +kernel, by decide +kernel⟩, List.mem_of_getElem? (i := 1378) (by decide +kernel), List.mem_of_getElem? (i := 2009) (by decide +kernel), List.mem_of_getElem? (i := 2010) (by decide +kernel)⟩
def lw_privs_9 : List (MethodName × Nat) := [(⟨"SpanKindsModel", "ownPages", "()I"⟩, 52), (⟨"SpanKindsModel", "layAllMost", "(I)I"⟩, 52), (⟨"SpanKindsModel", "layMost", "(III)V"⟩, 52), (⟨"SpanKindsModel", "rightIn", "(II)I"⟩, 52), (⟨"SpanKindsModel", "laySet", "(I)V"⟩, 52), (⟨"SpanKindsModel", "waitsWith", "(III)V"⟩, 52), (⟨"SpanKindsModel", "laySetAt", "(III)V"⟩, 52), (⟨"SpanKindsModel", "mostAt", "(III)I"⟩, 52), (⟨"SpanKindsModel", "isTaken", "(III)Z"⟩, 52), (⟨"SpanKindsModel", "gain", "(III)I"⟩, 52), (⟨"SpanKindsModel", "layChange", "()Z"⟩, 52), (⟨"SpanKindsModel", "laySteps", "()V"⟩, 52), (⟨"SpanKindsModel", "isInPlan", "(I)Z"⟩, 52), (⟨"SpanKindsModel", "isInRegisters", "(I)Z"⟩, 52), (⟨"SpanKindsModel", "layEdges", "()V"⟩, 52), (⟨"SpanKindsModel", "addEdge", "(I)V"⟩, 52)]
theorem lw_r9 : ∀ q ∈ lw_privs_9, lw_okq q := List.forall_mem_cons.mpr ⟨lw_p128, List.forall_mem_cons.mpr ⟨lw_p129, List.forall_mem_cons.mpr ⟨lw_p130, List.forall_mem_cons.mpr ⟨lw_p131, List.forall_mem_cons.mpr ⟨lw_p132, List.forall_mem_cons.mpr ⟨lw_p133, List.forall_mem_cons.mpr ⟨lw_p134, List.forall_mem_cons.mpr ⟨lw_p135, List.forall_mem_cons.mpr ⟨lw_p136, List.forall_mem_cons.mpr ⟨lw_p137, List.forall_mem_cons.mpr ⟨lw_p138, List.forall_mem_cons.mpr ⟨lw_p139, List.forall_mem_cons.mpr ⟨lw_p140, List.forall_mem_cons.mpr ⟨lw_p141, List.forall_mem_cons.mpr ⟨lw_p142, List.forall_mem_cons.mpr ⟨lw_p143, fun _ h => absurd h List.not_mem_nil⟩⟩⟩⟩⟩⟩⟩⟩⟩⟩⟩⟩⟩⟩⟩⟩
theorem lw_p144 : lw_okq (⟨"SpanKindsModel", "canStep", "(II)Z"⟩, 52) := ⟨⟨by decide +kernel, by decide +kernel⟩, List.mem_of_getElem? (i := 1378) (by decide +kernel), List.mem_of_getElem? (i := 2013) (by decide +kernel), List.mem_of_getElem? (i := 2014) (by decide +kernel)⟩
theorem lw_p145 : lw_okq (⟨"SpanKindsModel", "emptyBehind", "(I)I"⟩, 52) := ⟨⟨by decide +kernel, by decide +kernel⟩, List.mem_of_getElem? (i := 1378) (by decide +kernel), List.mem_of_getElem? (i := 2017) (by decide +kernel), List.mem_of_getElem? (i := 2018) (by decide +kernel)⟩
theorem lw_p146 : lw_okq (⟨"SpanKindsModel", "isSafe", "(I)Z"⟩, 52) := ⟨⟨by decide +kernel, by decide +kernel⟩, List.mem_of_getElem? (i := 1378) (by decide +kernel), List.mem_of_getElem? (i := 2021) (by decide +kernel), List.mem_of_getElem? (i := 2022) (by decide +kernel)⟩
theorem lw_p147 : lw_okq (⟨"SpanKindsModel", "kindBehind", "(II)I"⟩, 52) := ⟨⟨by decide +kernel, by decide +kernel⟩, List.mem_of_getElem? (i := 1378) (by decide +kernel), List.mem_of_getElem? (i := 2025) (by decide +kernel), List.mem_of_getElem? (i := 2026) (by decide +kernel)⟩
theorem lw_p148 : lw_okq (⟨"SpanKindsModel", "isGone", "(II)Z"⟩, 52) := ⟨⟨by decide +kernel, by decide +kernel⟩, List.mem_of_getElem? (i := 1378) (by decide +kernel), List.mem_of_getElem? (i := 2029) (by decide +kernel), List.mem_of_getElem? (i := 2030) (by decide +kernel)⟩
theorem lw_p149 : lw_okq (⟨"SpanKindsModel", "orderAt", "(I)I"⟩, 52) := ⟨⟨by decide +kernel, by decide +kernel⟩, List.mem_of_getElem? (i := 1378) (by decide +kernel), List.mem_of_getElem? (i := 2037) (by decide +kernel), List.mem_of_getElem? (i := 2038) (by decide +kernel)⟩
theorem lw_p150 : lw_okq (⟨"SpanKindsModel", "keepAct", "()V"⟩, 52) := ⟨⟨by decide +kernel, by decide +kernel⟩, List.mem_of_getElem? (i := 1378) (by decide +kernel), List.mem_of_getElem? (i := 2049) (by decide +kernel), List.mem_of_getElem? (i := 2050) (by decide +kernel)⟩
theorem lw_p151 : lw_okq (⟨"SpanKindsModel", "becomes", "(II)I"⟩, 52) := ⟨⟨by decide +kernel, by decide +kernel⟩, List.mem_of_getElem? (i := 1378) (by decide +kernel), List.mem_of_getElem? (i := 2061) (by decide +kernel), List.mem_of_getElem? (i := 2062) (by decide +kernel)⟩
theorem lw_p152 : lw_okq (⟨"SpanKindsModel", "setOne", "(IIII)V"⟩, 52) := ⟨⟨by decide +kernel, by decide +kernel⟩, List.mem_of_getElem? (i := 1378) (by decide +kernel), List.mem_of_getElem? (i := 2077) (by decide +kernel), List.mem_of_getElem? (i := 2078) (by decide +kernel)⟩
theorem lw_p153 : lw_okq (⟨"SpanKindsModel", "setAll", "()I"⟩, 52) := ⟨⟨by decide +kernel, by decide +kernel⟩, List.mem_of_getElem? (i := 1378) (by decide +kernel), List.mem_of_getElem? (i := 2089) (by decide +kernel), List.mem_of_getElem? (i := 2090) (by decide +kernel)⟩
theorem lw_p154 : lw_okq (⟨"SpanKindsModel", "swapAll", "()V"⟩, 52) := ⟨⟨by decide +kernel, by decide +kernel⟩, List.mem_of_getElem? (i := 1378) (by decide +kernel), List.mem_of_getElem? (i := 2114) (by decide +kernel), List.mem_of_getElem? (i := 2115) (by decide +kernel)⟩
theorem lw_p155 : lw_okq (⟨"SpanKindsModel", "setMany", "()I"⟩, 52) := ⟨⟨by decide +kernel, by decide +kernel⟩, List.mem_of_getElem? (i := 1378) (by decide +kernel), List.mem_of_getElem? (i := 2134) (by decide +kernel), List.mem_of_getElem? (i := 2135) (by decide +kernel)⟩
theorem lw_p156 : lw_okq (⟨"SpanKindsModel", "pagesSet", "()I"⟩, 52) := ⟨⟨by decide +kernel, by decide +kernel⟩, List.mem_of_getElem? (i := 1378) (by decide +kernel), List.mem_of_getElem? (i := 2138) (by decide +kernel), List.mem_of_getElem? (i := 2139) (by decide +kernel)⟩
def lw_privs_10 : List (MethodName × Nat) := [(⟨"SpanKindsModel", "canStep", "(II)Z"⟩, 52), (⟨"SpanKindsModel", "emptyBehind", "(I)I"⟩, 52), (⟨"SpanKindsModel", "isSafe", "(I)Z"⟩, 52), (⟨"SpanKindsModel", "kindBehind", "(II)I"⟩, 52), (⟨"SpanKindsModel", "isGone", "(II)Z"⟩, 52), (⟨"SpanKindsModel", "orderAt", "(I)I"⟩, 52), (⟨"SpanKindsModel", "keepAct", "()V"⟩, 52), (⟨"SpanKindsModel", "becomes", "(II)I"⟩, 52), (⟨"SpanKindsModel", "setOne", "(IIII)V"⟩, 52), (⟨"SpanKindsModel", "setAll", "()I"⟩, 52), (⟨"SpanKindsModel", "swapAll", "()V"⟩, 52), (⟨"SpanKindsModel", "setMany", "()I"⟩, 52), (⟨"SpanKindsModel", "pagesSet", "()I"⟩, 52)]
theorem lw_r10 : ∀ q ∈ lw_privs_10, lw_okq q := List.forall_mem_cons.mpr ⟨lw_p144, List.forall_mem_cons.mpr ⟨lw_p145, List.forall_mem_cons.mpr ⟨lw_p146, List.forall_mem_cons.mpr ⟨lw_p147, List.forall_mem_cons.mpr ⟨lw_p148, List.forall_mem_cons.mpr ⟨lw_p149, List.forall_mem_cons.mpr ⟨lw_p150, List.forall_mem_cons.mpr ⟨lw_p151, List.forall_mem_cons.mpr ⟨lw_p152, List.forall_mem_cons.mpr ⟨lw_p153, List.forall_mem_cons.mpr ⟨lw_p154, List.forall_mem_cons.mpr ⟨lw_p155, List.forall_mem_cons.mpr ⟨lw_p156, fun _ h => absurd h List.not_mem_nil⟩⟩⟩⟩⟩⟩⟩⟩⟩⟩⟩⟩⟩
def lw_privs : List (MethodName × Nat) := lw_privs_1 ++ (lw_privs_2 ++ (lw_privs_3 ++ (lw_privs_4 ++ (lw_privs_5 ++ (lw_privs_6 ++ (lw_privs_7 ++ (lw_privs_8 ++ (lw_privs_9 ++ (lw_privs_10)))))))))
def lw_tbl : List Cond := k2_sels lw_privs ++ tables_1
theorem lw_privs_ok : ∀ q ∈ lw_privs, lw_okq q := by
  show ∀ q ∈ lw_privs_1 ++ (lw_privs_2 ++ (lw_privs_3 ++ (lw_privs_4 ++ (lw_privs_5 ++ (lw_privs_6 ++ (lw_privs_7 ++ (lw_privs_8 ++ (lw_privs_9 ++ (lw_privs_10))))))))), lw_okq q
  exact List.forall_mem_append.mpr ⟨lw_r1, List.forall_mem_append.mpr ⟨lw_r2, List.forall_mem_append.mpr ⟨lw_r3, List.forall_mem_append.mpr ⟨lw_r4, List.forall_mem_append.mpr ⟨lw_r5, List.forall_mem_append.mpr ⟨lw_r6, List.forall_mem_append.mpr ⟨lw_r7, List.forall_mem_append.mpr ⟨lw_r8, List.forall_mem_append.mpr ⟨lw_r9, lw_r10⟩⟩⟩⟩⟩⟩⟩⟩⟩
def RX0 : String := "SpanKinds$Blocks"
def TX0 : u_T := fun k => match k with
  | 0 => ("SpanKinds$Blocks", "base", "[I", true)
  | 1 => ("SpanKinds$Blocks", "size", "[I", true)
  | 2 => ("SpanKinds$Blocks", "kind", "[I", true)
  | _ => ("SpanKinds$Blocks", "count", "I", false)
def tyX0 : Nat → FieldType := fun k => match k with
  | 0 => .array .int
  | 1 => .array .int
  | 2 => .array .int
  | _ => .int
abbrev wsX00 : List Cond := u_ws RX0 TX0 4
theorem nmX0 : ∀ a, a < 4 → ∀ b, b < 4 → a ≠ b → (TX0 a).2.1 ≠ (TX0 b).2.1 := by decide +kernel
theorem tyX0_ok : ∀ k, k < 4 → parseFieldDescriptor (TX0 k).2.2.1 = some (tyX0 k) := by decide +kernel
abbrev cX0_init : ByteArray := prog_2_method_1_code
def yX0_init : MethodName := ⟨RX0, "<init>", "(I)V"⟩
abbrev cX0_add : ByteArray := prog_2_method_2_code
def yX0_add : MethodName := ⟨RX0, "add", "(III)V"⟩
abbrev cX0_tell : ByteArray := prog_2_method_3_code
def yX0_tell : MethodName := ⟨RX0, "tell", "(II)I"⟩
def RX1 : String := "SpanKinds$Change"
def TX1 : u_T := fun k => match k with
  | 0 => ("SpanKinds$Change", "goes", "I", false)
  | 1 => ("SpanKinds$Change", "comes", "I", false)
  | 2 => ("SpanKinds$Change", "workable", "Z", false)
  | 3 => ("SpanKinds$Change", "safe", "Z", false)
  | 4 => ("SpanKinds$Change", "inOrder", "[I", true)
  | 5 => ("SpanKinds$Change", "edges", "LSpanKinds$Edges;", true)
  | 6 => ("SpanKinds$Change", "stepsOver", "[I", true)
  | 7 => ("SpanKinds$Change", "firstKind", "[I", true)
  | 8 => ("SpanKinds$Change", "lastKind", "[I", true)
  | 9 => ("SpanKinds$Change", "deadEnds", "[J", true)
  | 10 => ("SpanKinds$Change", "fixed", "I", false)
  | 11 => ("SpanKinds$Change", "preferred", "I", false)
  | _ => ("SpanKinds$Change", "empty", "I", false)
def tyX1 : Nat → FieldType := fun k => match k with
  | 0 => .int
  | 1 => .int
  | 2 => .boolean
  | 3 => .boolean
  | 4 => .array .int
  | 5 => .object "SpanKinds$Edges"
  | 6 => .array .int
  | 7 => .array .int
  | 8 => .array .int
  | 9 => .array .long
  | 10 => .int
  | 11 => .int
  | _ => .int
abbrev wsX10 : List Cond := u_ws RX1 TX1 13
theorem nmX1 : ∀ a, a < 13 → ∀ b, b < 13 → a ≠ b → (TX1 a).2.1 ≠ (TX1 b).2.1 := by decide +kernel
theorem tyX1_ok : ∀ k, k < 13 → parseFieldDescriptor (TX1 k).2.2.1 = some (tyX1 k) := by decide +kernel
abbrev cX1_init : ByteArray := prog_3_method_1_code
def yX1_init : MethodName := ⟨RX1, "<init>", "()V"⟩
abbrev cX1_make : ByteArray := prog_3_method_2_code
def yX1_make : MethodName := ⟨RX1, "make", "(LSpanKinds$Store;LSpanKinds$Blocks;)V"⟩
abbrev cX1_hasStep : ByteArray := prog_3_method_3_code
def yX1_hasStep : MethodName := ⟨RX1, "hasStep", "(I)Z"⟩
abbrev cX1_stirredBy : ByteArray := prog_3_method_4_code
def yX1_stirredBy : MethodName := ⟨RX1, "stirredBy", "(I)I"⟩
abbrev cX1_countSteps : ByteArray := prog_3_method_5_code
def yX1_countSteps : MethodName := ⟨RX1, "countSteps", "(LSpanKinds$Store;LSpanKinds$Blocks;)V"⟩
abbrev cX1_stays : ByteArray := prog_3_method_6_code
def yX1_stays : MethodName := ⟨RX1, "stays", "(LSpanKinds$Store;ILSpanKinds$Blocks;)Z"⟩
abbrev cX1_isThere : ByteArray := prog_3_method_7_code
def yX1_isThere : MethodName := ⟨RX1, "isThere", "(LSpanKinds$Store;LSpanKinds$Blocks;I)Z"⟩
abbrev cX1_isSame : ByteArray := prog_3_method_8_code
def yX1_isSame : MethodName := ⟨RX1, "isSame", "(LSpanKinds$Store;ILSpanKinds$Blocks;I)Z"⟩
abbrev cX1_cutPieces : ByteArray := prog_3_method_9_code
def yX1_cutPieces : MethodName := ⟨RX1, "cutPieces", "(LSpanKinds$Store;LSpanKinds$Blocks;)V"⟩
abbrev cX1_placeSteps : ByteArray := prog_3_method_10_code
def yX1_placeSteps : MethodName := ⟨RX1, "placeSteps", "(LSpanKinds$Store;LSpanKinds$Blocks;)V"⟩
abbrev cX1_place : ByteArray := prog_3_method_11_code
def yX1_place : MethodName := ⟨RX1, "place", "(IIII)V"⟩
abbrev cX1_allSteps : ByteArray := prog_3_method_12_code
def yX1_allSteps : MethodName := ⟨RX1, "allSteps", "()I"⟩
abbrev cX1_allGoes : ByteArray := prog_3_method_13_code
def yX1_allGoes : MethodName := ⟨RX1, "allGoes", "()I"⟩
abbrev cX1_kindBehind : ByteArray := prog_3_method_14_code
def yX1_kindBehind : MethodName := ⟨RX1, "kindBehind", "(II)I"⟩
abbrev cX1_isSafe : ByteArray := prog_3_method_15_code
def yX1_isSafe : MethodName := ⟨RX1, "isSafe", "(I)Z"⟩
abbrev cX1_hasRoom : ByteArray := prog_3_method_16_code
def yX1_hasRoom : MethodName := ⟨RX1, "hasRoom", "(I)Z"⟩
abbrev cX1_finds : ByteArray := prog_3_method_17_code
def yX1_finds : MethodName := ⟨RX1, "finds", "(II)Z"⟩
abbrev cX1_isDeadEnd : ByteArray := prog_3_method_18_code
def yX1_isDeadEnd : MethodName := ⟨RX1, "isDeadEnd", "(I)Z"⟩
def RX2 : String := "SpanKinds$Edges"
def TX2 : u_T := fun k => match k with
  | 0 => ("SpanKinds$Edges", "at", "[I", true)
  | _ => ("SpanKinds$Edges", "count", "I", false)
def tyX2 : Nat → FieldType := fun k => match k with
  | 0 => .array .int
  | _ => .int
abbrev wsX20 : List Cond := u_ws RX2 TX2 2
theorem nmX2 : ∀ a, a < 2 → ∀ b, b < 2 → a ≠ b → (TX2 a).2.1 ≠ (TX2 b).2.1 := by decide +kernel
theorem tyX2_ok : ∀ k, k < 2 → parseFieldDescriptor (TX2 k).2.2.1 = some (tyX2 k) := by decide +kernel
abbrev cX2_init : ByteArray := prog_4_method_1_code
def yX2_init : MethodName := ⟨RX2, "<init>", "(I)V"⟩
abbrev cX2_begin : ByteArray := prog_4_method_2_code
def yX2_begin : MethodName := ⟨RX2, "begin", "(I)V"⟩
abbrev cX2_cut : ByteArray := prog_4_method_3_code
def yX2_cut : MethodName := ⟨RX2, "cut", "(I)V"⟩
abbrev cX2_cutSpans : ByteArray := prog_4_method_4_code
def yX2_cutSpans : MethodName := ⟨RX2, "cutSpans", "(LSpanKinds$Store;)V"⟩
abbrev cX2_cutRegisters : ByteArray := prog_4_method_5_code
def yX2_cutRegisters : MethodName := ⟨RX2, "cutRegisters", "(LSpanKinds$Store;)V"⟩
abbrev cX2_cutParts : ByteArray := prog_4_method_6_code
def yX2_cutParts : MethodName := ⟨RX2, "cutParts", "(LSpanKinds$Store;)V"⟩
abbrev cX2_cutPages : ByteArray := prog_4_method_7_code
def yX2_cutPages : MethodName := ⟨RX2, "cutPages", "(LSpanKinds$Store;)V"⟩
def RX3 : String := "SpanKinds$Filler"
def TX3 : u_T := fun k => match k with
  | 0 => ("SpanKinds$Filler", "tree", "LSpanKinds$Tree;", true)
  | 1 => ("SpanKinds$Filler", "most", "[I", true)
  | _ => ("SpanKinds$Filler", "laid", "LSpanKinds$Blocks;", false)
def tyX3 : Nat → FieldType := fun k => match k with
  | 0 => .object "SpanKinds$Tree"
  | 1 => .array .int
  | _ => .object "SpanKinds$Blocks"
abbrev wsX30 : List Cond := u_ws RX3 TX3 3
theorem nmX3 : ∀ a, a < 3 → ∀ b, b < 3 → a ≠ b → (TX3 a).2.1 ≠ (TX3 b).2.1 := by decide +kernel
theorem tyX3_ok : ∀ k, k < 3 → parseFieldDescriptor (TX3 k).2.2.1 = some (tyX3 k) := by decide +kernel
abbrev cX3_init : ByteArray := prog_5_method_1_code
def yX3_init : MethodName := ⟨RX3, "<init>", "()V"⟩
abbrev cX3_make : ByteArray := prog_5_method_2_code
def yX3_make : MethodName := ⟨RX3, "make", "(LSpanKinds$Store;)V"⟩
abbrev cX3_mostRight : ByteArray := prog_5_method_3_code
def yX3_mostRight : MethodName := ⟨RX3, "mostRight", "(I)I"⟩
abbrev cX3_layBest : ByteArray := prog_5_method_4_code
def yX3_layBest : MethodName := ⟨RX3, "layBest", "(ILSpanKinds$Blocks;)V"⟩
abbrev cX3_cell : ByteArray := prog_5_method_5_code
def yX3_cell : MethodName := ⟨RX3, "cell", "(III)I"⟩
abbrev cX3_weigh : ByteArray := prog_5_method_6_code
def yX3_weigh : MethodName := ⟨RX3, "weigh", "(II)V"⟩
abbrev cX3_asItIs : ByteArray := prog_5_method_7_code
def yX3_asItIs : MethodName := ⟨RX3, "asItIs", "(III)I"⟩
abbrev cX3_byItself : ByteArray := prog_5_method_8_code
def yX3_byItself : MethodName := ⟨RX3, "byItself", "(III)I"⟩
abbrev cX3_bestByHalves : ByteArray := prog_5_method_9_code
def yX3_bestByHalves : MethodName := ⟨RX3, "bestByHalves", "(III)I"⟩
abbrev cX3_byHalves : ByteArray := prog_5_method_10_code
def yX3_byHalves : MethodName := ⟨RX3, "byHalves", "(IIII)I"⟩
abbrev cX3_layWithin : ByteArray := prog_5_method_11_code
def yX3_layWithin : MethodName := ⟨RX3, "layWithin", "(IIII)V"⟩
abbrev cX3_layAlike : ByteArray := prog_5_method_12_code
def yX3_layAlike : MethodName := ⟨RX3, "layAlike", "(IIIIII)V"⟩
abbrev cX3_firstKind : ByteArray := prog_5_method_13_code
def yX3_firstKind : MethodName := ⟨RX3, "firstKind", "(III)I"⟩
def RX4 : String := "SpanKinds$History"
def TX4 : u_T := fun k => match k with
  | 0 => ("SpanKinds$History", "ring", "[LSpanKinds$Store;", true)
  | 1 => ("SpanKinds$History", "oldest", "I", false)
  | 2 => ("SpanKinds$History", "behind", "I", false)
  | _ => ("SpanKinds$History", "ahead", "I", false)
def tyX4 : Nat → FieldType := fun k => match k with
  | 0 => .array (.object "SpanKinds$Store")
  | 1 => .int
  | 2 => .int
  | _ => .int
abbrev wsX40 : List Cond := u_ws RX4 TX4 4
theorem nmX4 : ∀ a, a < 4 → ∀ b, b < 4 → a ≠ b → (TX4 a).2.1 ≠ (TX4 b).2.1 := by decide +kernel
theorem tyX4_ok : ∀ k, k < 4 → parseFieldDescriptor (TX4 k).2.2.1 = some (tyX4 k) := by decide +kernel
abbrev cX4_init : ByteArray := prog_6_method_1_code
def yX4_init : MethodName := ⟨RX4, "<init>", "()V"⟩
abbrev cX4_begin : ByteArray := prog_6_method_2_code
def yX4_begin : MethodName := ⟨RX4, "begin", "(LSpanKinds$Store;)V"⟩
abbrev cX4_note : ByteArray := prog_6_method_3_code
def yX4_note : MethodName := ⟨RX4, "note", "(LSpanKinds$Store;)V"⟩
abbrev cX4_goBack : ByteArray := prog_6_method_4_code
def yX4_goBack : MethodName := ⟨RX4, "goBack", "(LSpanKinds$Store;)Z"⟩
abbrev cX4_goOn : ByteArray := prog_6_method_5_code
def yX4_goOn : MethodName := ⟨RX4, "goOn", "(LSpanKinds$Store;)Z"⟩
abbrev cX4_current : ByteArray := prog_6_method_6_code
def yX4_current : MethodName := ⟨RX4, "current", "()LSpanKinds$Store;"⟩
def RX5 : String := "SpanKinds$Pieces"
def TX5 : u_T := fun k => match k with
  | 0 => ("SpanKinds$Pieces", "edges", "LSpanKinds$Edges;", true)
  | 1 => ("SpanKinds$Pieces", "wanted", "[I", true)
  | 2 => ("SpanKinds$Pieces", "kind", "[I", true)
  | 3 => ("SpanKinds$Pieces", "gain", "[I", true)
  | 4 => ("SpanKinds$Pieces", "runStart", "[I", true)
  | 5 => ("SpanKinds$Pieces", "runKind", "[I", true)
  | 6 => ("SpanKinds$Pieces", "count", "I", false)
  | 7 => ("SpanKinds$Pieces", "runs", "I", false)
  | _ => ("SpanKinds$Pieces", "fixed", "I", false)
def tyX5 : Nat → FieldType := fun k => match k with
  | 0 => .object "SpanKinds$Edges"
  | 1 => .array .int
  | 2 => .array .int
  | 3 => .array .int
  | 4 => .array .int
  | 5 => .array .int
  | 6 => .int
  | 7 => .int
  | _ => .int
abbrev wsX50 : List Cond := u_ws RX5 TX5 9
theorem nmX5 : ∀ a, a < 9 → ∀ b, b < 9 → a ≠ b → (TX5 a).2.1 ≠ (TX5 b).2.1 := by decide +kernel
theorem tyX5_ok : ∀ k, k < 9 → parseFieldDescriptor (TX5 k).2.2.1 = some (tyX5 k) := by decide +kernel
abbrev cX5_init : ByteArray := prog_7_method_1_code
def yX5_init : MethodName := ⟨RX5, "<init>", "()V"⟩
abbrev cX5_make : ByteArray := prog_7_method_2_code
def yX5_make : MethodName := ⟨RX5, "make", "(LSpanKinds$Store;)V"⟩
abbrev cX5_joinRuns : ByteArray := prog_7_method_3_code
def yX5_joinRuns : MethodName := ⟨RX5, "joinRuns", "()V"⟩
abbrev cX5_startOf : ByteArray := prog_7_method_4_code
def yX5_startOf : MethodName := ⟨RX5, "startOf", "(I)I"⟩
abbrev cX5_lengthOf : ByteArray := prog_7_method_5_code
def yX5_lengthOf : MethodName := ⟨RX5, "lengthOf", "(I)I"⟩
abbrev cX5_pieceFrom : ByteArray := prog_7_method_6_code
def yX5_pieceFrom : MethodName := ⟨RX5, "pieceFrom", "(II)I"⟩
abbrev cX5_wrongOnes : ByteArray := prog_7_method_7_code
def yX5_wrongOnes : MethodName := ⟨RX5, "wrongOnes", "(II)I"⟩
abbrev cX5_firstWrong : ByteArray := prog_7_method_8_code
def yX5_firstWrong : MethodName := ⟨RX5, "firstWrong", "(I)I"⟩
abbrev cX5_clashing : ByteArray := prog_7_method_9_code
def yX5_clashing : MethodName := ⟨RX5, "clashing", "()I"⟩
abbrev cX5_mendingKind : ByteArray := prog_7_method_10_code
def yX5_mendingKind : MethodName := ⟨RX5, "mendingKind", "(I)I"⟩
abbrev cX5_mends : ByteArray := prog_7_method_11_code
def yX5_mends : MethodName := ⟨RX5, "mends", "(III)Z"⟩
abbrev cX5_idleWithout : ByteArray := prog_7_method_12_code
def yX5_idleWithout : MethodName := ⟨RX5, "idleWithout", "(LSpanKinds$Store;I)I"⟩
abbrev cX5_gainWithout : ByteArray := prog_7_method_13_code
def yX5_gainWithout : MethodName := ⟨RX5, "gainWithout", "(LSpanKinds$Store;I)I"⟩
abbrev cX5_gained : ByteArray := prog_7_method_14_code
def yX5_gained : MethodName := ⟨RX5, "gained", "(II)I"⟩
abbrev cX5_weighBesides : ByteArray := prog_7_method_15_code
def yX5_weighBesides : MethodName := ⟨RX5, "weighBesides", "(LSpanKinds$Store;I)V"⟩
abbrev cX5_gainWithin : ByteArray := prog_7_method_16_code
def yX5_gainWithin : MethodName := ⟨RX5, "gainWithin", "(III)I"⟩
abbrev cX5_firstBlock : ByteArray := prog_7_method_17_code
def yX5_firstBlock : MethodName := ⟨RX5, "firstBlock", "(II)I"⟩
def RX6 : String := "SpanKinds$Planner"
def TX6 : u_T := fun k => match k with
  | 0 => ("SpanKinds$Planner", "tree", "LSpanKinds$Tree;", true)
  | 1 => ("SpanKinds$Planner", "fewest", "[I", true)
  | 2 => ("SpanKinds$Planner", "chosen", "[I", true)
  | 3 => ("SpanKinds$Planner", "least", "[I", true)
  | 4 => ("SpanKinds$Planner", "overOthers", "Z", false)
  | 5 => ("SpanKinds$Planner", "laid", "LSpanKinds$Blocks;", false)
  | _ => ("SpanKinds$Planner", "pageKinds", "[I", false)
def tyX6 : Nat → FieldType := fun k => match k with
  | 0 => .object "SpanKinds$Tree"
  | 1 => .array .int
  | 2 => .array .int
  | 3 => .array .int
  | 4 => .boolean
  | 5 => .object "SpanKinds$Blocks"
  | _ => .array .int
abbrev wsX60 : List Cond := u_ws RX6 TX6 7
theorem nmX6 : ∀ a, a < 7 → ∀ b, b < 7 → a ≠ b → (TX6 a).2.1 ≠ (TX6 b).2.1 := by decide +kernel
theorem tyX6_ok : ∀ k, k < 7 → parseFieldDescriptor (TX6 k).2.2.1 = some (tyX6 k) := by decide +kernel
abbrev cX6_init : ByteArray := prog_8_method_1_code
def yX6_init : MethodName := ⟨RX6, "<init>", "()V"⟩
abbrev cX6_fewestAdded : ByteArray := prog_8_method_2_code
def yX6_fewestAdded : MethodName := ⟨RX6, "fewestAdded", "(LSpanKinds$Store;)I"⟩
abbrev cX6_fewestOver : ByteArray := prog_8_method_3_code
def yX6_fewestOver : MethodName := ⟨RX6, "fewestOver", "(LSpanKinds$Store;I)I"⟩
abbrev cX6_layPlan : ByteArray := prog_8_method_4_code
def yX6_layPlan : MethodName := ⟨RX6, "layPlan", "(LSpanKinds$Store;LSpanKinds$Blocks;)V"⟩
abbrev cX6_layPagedPlan : ByteArray := prog_8_method_5_code
def yX6_layPagedPlan : MethodName := ⟨RX6, "layPagedPlan", "(LSpanKinds$Store;LSpanKinds$Blocks;[I)V"⟩
abbrev cX6_weighWithin : ByteArray := prog_8_method_6_code
def yX6_weighWithin : MethodName := ⟨RX6, "weighWithin", "(II)V"⟩
abbrev cX6_weighAbovePages : ByteArray := prog_8_method_7_code
def yX6_weighAbovePages : MethodName := ⟨RX6, "weighAbovePages", "(I)V"⟩
abbrev cX6_byHalves : ByteArray := prog_8_method_8_code
def yX6_byHalves : MethodName := ⟨RX6, "byHalves", "(II)I"⟩
abbrev cX6_byPages : ByteArray := prog_8_method_9_code
def yX6_byPages : MethodName := ⟨RX6, "byPages", "(II)I"⟩
abbrev cX6_byItself : ByteArray := prog_8_method_10_code
def yX6_byItself : MethodName := ⟨RX6, "byItself", "(II)I"⟩
abbrev cX6_choosePageKinds : ByteArray := prog_8_method_11_code
def yX6_choosePageKinds : MethodName := ⟨RX6, "choosePageKinds", "(I)V"⟩
abbrev cX6_layWithin : ByteArray := prog_8_method_12_code
def yX6_layWithin : MethodName := ⟨RX6, "layWithin", "(III)V"⟩
abbrev cX6_layItself : ByteArray := prog_8_method_13_code
def yX6_layItself : MethodName := ⟨RX6, "layItself", "(III)I"⟩
abbrev cX6_layAbovePages : ByteArray := prog_8_method_14_code
def yX6_layAbovePages : MethodName := ⟨RX6, "layAbovePages", "(III)V"⟩
abbrev cX6_layHalvesAbovePages : ByteArray := prog_8_method_15_code
def yX6_layHalvesAbovePages : MethodName := ⟨RX6, "layHalvesAbovePages", "(III)V"⟩
abbrev cX6_layPage : ByteArray := prog_8_method_16_code
def yX6_layPage : MethodName := ⟨RX6, "layPage", "(III)V"⟩
def RX7 : String := "SpanKinds$Reader"
def TX7 : u_T := fun k => match k with
  | 0 => ("SpanKinds$Reader", "tape", "[I", true)
  | 1 => ("SpanKinds$Reader", "length", "I", false)
  | 2 => ("SpanKinds$Reader", "fault", "I", false)
  | 3 => ("SpanKinds$Reader", "place", "I", false)
  | 4 => ("SpanKinds$Reader", "read", "LSpanKinds$Store;", true)
  | 5 => ("SpanKinds$Reader", "at", "I", false)
  | 6 => ("SpanKinds$Reader", "start", "I", false)
  | 7 => ("SpanKinds$Reader", "type", "I", false)
  | 8 => ("SpanKinds$Reader", "number", "I", false)
  | 9 => ("SpanKinds$Reader", "spaceTold", "Z", false)
  | 10 => ("SpanKinds$Reader", "registersTold", "Z", false)
  | 11 => ("SpanKinds$Reader", "defaultTold", "Z", false)
  | 12 => ("SpanKinds$Reader", "fixedTold", "Z", false)
  | _ => ("SpanKinds$Reader", "headEnded", "Z", false)
def tyX7 : Nat → FieldType := fun k => match k with
  | 0 => .array .int
  | 1 => .int
  | 2 => .int
  | 3 => .int
  | 4 => .object "SpanKinds$Store"
  | 5 => .int
  | 6 => .int
  | 7 => .int
  | 8 => .int
  | 9 => .boolean
  | 10 => .boolean
  | 11 => .boolean
  | 12 => .boolean
  | _ => .boolean
abbrev wsX70 : List Cond := u_ws RX7 TX7 14
theorem nmX7 : ∀ a, a < 14 → ∀ b, b < 14 → a ≠ b → (TX7 a).2.1 ≠ (TX7 b).2.1 := by decide +kernel
theorem tyX7_ok : ∀ k, k < 14 → parseFieldDescriptor (TX7 k).2.2.1 = some (tyX7 k) := by decide +kernel
abbrev cX7_init : ByteArray := prog_9_method_1_code
def yX7_init : MethodName := ⟨RX7, "<init>", "()V"⟩
abbrev cX7_append : ByteArray := prog_9_method_2_code
def yX7_append : MethodName := ⟨RX7, "append", "(I)V"⟩
abbrev cX7_readAll : ByteArray := prog_9_method_3_code
def yX7_readAll : MethodName := ⟨RX7, "readAll", "()Z"⟩
abbrev cX7_begin : ByteArray := prog_9_method_4_code
def yX7_begin : MethodName := ⟨RX7, "begin", "()V"⟩
abbrev cX7_readLine : ByteArray := prog_9_method_5_code
def yX7_readLine : MethodName := ⟨RX7, "readLine", "()Z"⟩
abbrev cX7_readSpace : ByteArray := prog_9_method_6_code
def yX7_readSpace : MethodName := ⟨RX7, "readSpace", "()Z"⟩
abbrev cX7_readRegisters : ByteArray := prog_9_method_7_code
def yX7_readRegisters : MethodName := ⟨RX7, "readRegisters", "()Z"⟩
abbrev cX7_readDefault : ByteArray := prog_9_method_8_code
def yX7_readDefault : MethodName := ⟨RX7, "readDefault", "()Z"⟩
abbrev cX7_readFixed : ByteArray := prog_9_method_9_code
def yX7_readFixed : MethodName := ⟨RX7, "readFixed", "()Z"⟩
abbrev cX7_fixedStops : ByteArray := prog_9_method_10_code
def yX7_fixedStops : MethodName := ⟨RX7, "fixedStops", "(I)Z"⟩
abbrev cX7_readSpan : ByteArray := prog_9_method_11_code
def yX7_readSpan : MethodName := ⟨RX7, "readSpan", "()Z"⟩
abbrev cX7_readRegister : ByteArray := prog_9_method_12_code
def yX7_readRegister : MethodName := ⟨RX7, "readRegister", "()Z"⟩
abbrev cX7_readPage : ByteArray := prog_9_method_13_code
def yX7_readPage : MethodName := ⟨RX7, "readPage", "()Z"⟩
abbrev cX7_readNumber : ByteArray := prog_9_method_14_code
def yX7_readNumber : MethodName := ⟨RX7, "readNumber", "(II)Z"⟩
abbrev cX7_readStop : ByteArray := prog_9_method_15_code
def yX7_readStop : MethodName := ⟨RX7, "readStop", "()Z"⟩
abbrev cX7_kindHere : ByteArray := prog_9_method_16_code
def yX7_kindHere : MethodName := ⟨RX7, "kindHere", "()I"⟩
abbrev cX7_failed : ByteArray := prog_9_method_17_code
def yX7_failed : MethodName := ⟨RX7, "failed", "(I)Z"⟩
abbrev cX7_next : ByteArray := prog_9_method_18_code
def yX7_next : MethodName := ⟨RX7, "next", "()V"⟩
abbrev cX7_isWord : ByteArray := prog_9_method_19_code
def yX7_isWord : MethodName := ⟨RX7, "isWord", "(Ljava/lang/String;)Z"⟩
abbrev cX7_isLetter : ByteArray := prog_9_method_20_code
def yX7_isLetter : MethodName := ⟨RX7, "isLetter", "(I)Z"⟩
abbrev cX7_isDigit : ByteArray := prog_9_method_21_code
def yX7_isDigit : MethodName := ⟨RX7, "isDigit", "(I)Z"⟩
def RX8 : String := "SpanKinds$Store"
def TX8 : u_T := fun k => match k with
  | 0 => ("SpanKinds$Store", "addresses", "I", false)
  | 1 => ("SpanKinds$Store", "registers", "I", false)
  | 2 => ("SpanKinds$Store", "preferred", "I", false)
  | 3 => ("SpanKinds$Store", "spans", "I", false)
  | 4 => ("SpanKinds$Store", "fixed", "I", false)
  | 5 => ("SpanKinds$Store", "from", "[I", true)
  | 6 => ("SpanKinds$Store", "to", "[I", true)
  | 7 => ("SpanKinds$Store", "spanKind", "[I", true)
  | 8 => ("SpanKinds$Store", "partKind", "[I", true)
  | 9 => ("SpanKinds$Store", "base", "[I", true)
  | 10 => ("SpanKinds$Store", "size", "[I", true)
  | 11 => ("SpanKinds$Store", "blockKind", "[I", true)
  | _ => ("SpanKinds$Store", "pageKind", "[I", true)
def tyX8 : Nat → FieldType := fun k => match k with
  | 0 => .int
  | 1 => .int
  | 2 => .int
  | 3 => .int
  | 4 => .int
  | 5 => .array .int
  | 6 => .array .int
  | 7 => .array .int
  | 8 => .array .int
  | 9 => .array .int
  | 10 => .array .int
  | 11 => .array .int
  | _ => .array .int
abbrev wsX80 : List Cond := u_ws RX8 TX8 13
theorem nmX8 : ∀ a, a < 13 → ∀ b, b < 13 → a ≠ b → (TX8 a).2.1 ≠ (TX8 b).2.1 := by decide +kernel
theorem tyX8_ok : ∀ k, k < 13 → parseFieldDescriptor (TX8 k).2.2.1 = some (tyX8 k) := by decide +kernel
abbrev cX8_init : ByteArray := prog_10_method_1_code
def yX8_init : MethodName := ⟨RX8, "<init>", "()V"⟩
abbrev cX8_wipe : ByteArray := prog_10_method_2_code
def yX8_wipe : MethodName := ⟨RX8, "wipe", "()V"⟩
abbrev cX8_copyFrom : ByteArray := prog_10_method_3_code
def yX8_copyFrom : MethodName := ⟨RX8, "copyFrom", "(LSpanKinds$Store;)V"⟩
abbrev cX8_pages : ByteArray := prog_10_method_4_code
def yX8_pages : MethodName := ⟨RX8, "pages", "()I"⟩
abbrev cX8_hasAddress : ByteArray := prog_10_method_5_code
def yX8_hasAddress : MethodName := ⟨RX8, "hasAddress", "(I)Z"⟩
abbrev cX8_hasPart : ByteArray := prog_10_method_6_code
def yX8_hasPart : MethodName := ⟨RX8, "hasPart", "(I)Z"⟩
abbrev cX8_hasPage : ByteArray := prog_10_method_7_code
def yX8_hasPage : MethodName := ⟨RX8, "hasPage", "(I)Z"⟩
abbrev cX8_hasRegister : ByteArray := prog_10_method_8_code
def yX8_hasRegister : MethodName := ⟨RX8, "hasRegister", "(I)Z"⟩
abbrev cX8_isSet : ByteArray := prog_10_method_9_code
def yX8_isSet : MethodName := ⟨RX8, "isSet", "(I)Z"⟩
abbrev cX8_countSet : ByteArray := prog_10_method_10_code
def yX8_countSet : MethodName := ⟨RX8, "countSet", "()I"⟩
abbrev cX8_fits : ByteArray := prog_10_method_11_code
def yX8_fits : MethodName := ⟨RX8, "fits", "(II)Z"⟩
abbrev cX8_holderOf : ByteArray := prog_10_method_12_code
def yX8_holderOf : MethodName := ⟨RX8, "holderOf", "(II)I"⟩
abbrev cX8_put : ByteArray := prog_10_method_13_code
def yX8_put : MethodName := ⟨RX8, "put", "(IIII)V"⟩
abbrev cX8_putAll : ByteArray := prog_10_method_14_code
def yX8_putAll : MethodName := ⟨RX8, "putAll", "(LSpanKinds$Blocks;)V"⟩
abbrev cX8_addSpan : ByteArray := prog_10_method_15_code
def yX8_addSpan : MethodName := ⟨RX8, "addSpan", "(III)V"⟩
abbrev cX8_dropSpan : ByteArray := prog_10_method_16_code
def yX8_dropSpan : MethodName := ⟨RX8, "dropSpan", "(I)V"⟩
abbrev cX8_wantedAt : ByteArray := prog_10_method_17_code
def yX8_wantedAt : MethodName := ⟨RX8, "wantedAt", "(II)I"⟩
abbrev cX8_kindsOver : ByteArray := prog_10_method_18_code
def yX8_kindsOver : MethodName := ⟨RX8, "kindsOver", "(II)I"⟩
abbrev cX8_kindAt : ByteArray := prog_10_method_19_code
def yX8_kindAt : MethodName := ⟨RX8, "kindAt", "(II)I"⟩
abbrev cX8_seenAs : ByteArray := prog_10_method_20_code
def yX8_seenAs : MethodName := ⟨RX8, "seenAs", "(II)I"⟩
def RX9 : String := "SpanKinds$Tree"
def TX9 : u_T := fun k => match k with
  | 0 => ("SpanKinds$Tree", "base", "[I", true)
  | 1 => ("SpanKinds$Tree", "size", "[I", true)
  | 2 => ("SpanKinds$Tree", "upper", "[I", true)
  | 3 => ("SpanKinds$Tree", "next", "[I", true)
  | 4 => ("SpanKinds$Tree", "want", "[I", true)
  | 5 => ("SpanKinds$Tree", "count", "I", false)
  | 6 => ("SpanKinds$Tree", "preferred", "I", false)
  | 7 => ("SpanKinds$Tree", "fixed", "I", false)
  | 8 => ("SpanKinds$Tree", "edges", "LSpanKinds$Edges;", true)
  | 9 => ("SpanKinds$Tree", "cutAt", "[I", true)
  | 10 => ("SpanKinds$Tree", "cutWant", "[I", true)
  | 11 => ("SpanKinds$Tree", "cuts", "I", false)
  | _ => ("SpanKinds$Tree", "cut", "I", false)
def tyX9 : Nat → FieldType := fun k => match k with
  | 0 => .array .int
  | 1 => .array .int
  | 2 => .array .int
  | 3 => .array .int
  | 4 => .array .int
  | 5 => .int
  | 6 => .int
  | 7 => .int
  | 8 => .object "SpanKinds$Edges"
  | 9 => .array .int
  | 10 => .array .int
  | 11 => .int
  | _ => .int
abbrev wsX90 : List Cond := u_ws RX9 TX9 13
theorem nmX9 : ∀ a, a < 13 → ∀ b, b < 13 → a ≠ b → (TX9 a).2.1 ≠ (TX9 b).2.1 := by decide +kernel
theorem tyX9_ok : ∀ k, k < 13 → parseFieldDescriptor (TX9 k).2.2.1 = some (tyX9 k) := by decide +kernel
abbrev cX9_init : ByteArray := prog_11_method_1_code
def yX9_init : MethodName := ⟨RX9, "<init>", "()V"⟩
abbrev cX9_make : ByteArray := prog_11_method_2_code
def yX9_make : MethodName := ⟨RX9, "make", "(LSpanKinds$Store;I)V"⟩
abbrev cX9_joinAlike : ByteArray := prog_11_method_3_code
def yX9_joinAlike : MethodName := ⟨RX9, "joinAlike", "(LSpanKinds$Store;)V"⟩
abbrev cX9_grow : ByteArray := prog_11_method_4_code
def yX9_grow : MethodName := ⟨RX9, "grow", "(III)I"⟩
abbrev cX9_open : ByteArray := prog_11_method_5_code
def yX9_open : MethodName := ⟨RX9, "open", "(I)I"⟩
abbrev cX9_isRight : ByteArray := prog_11_method_6_code
def yX9_isRight : MethodName := ⟨RX9, "isRight", "(III)Z"⟩
abbrev cX9_pageKindFor : ByteArray := prog_11_method_7_code
def yX9_pageKindFor : MethodName := ⟨RX9, "pageKindFor", "(II)I"⟩
def RX10 : String := "SpanKinds"
def TX10 : u_T := fun k => match k with
  | 0 => ("SpanKinds", "reader", "LSpanKinds$Reader;", true)
  | 1 => ("SpanKinds", "now", "LSpanKinds$Store;", true)
  | 2 => ("SpanKinds", "history", "LSpanKinds$History;", true)
  | 3 => ("SpanKinds", "boxes", "[LSpanKinds$Store;", true)
  | 4 => ("SpanKinds", "kept", "[Z", true)
  | 5 => ("SpanKinds", "both", "LSpanKinds$Edges;", true)
  | 6 => ("SpanKinds", "pieces", "LSpanKinds$Pieces;", true)
  | 7 => ("SpanKinds", "planner", "LSpanKinds$Planner;", true)
  | 8 => ("SpanKinds", "planned", "LSpanKinds$Blocks;", true)
  | 9 => ("SpanKinds", "plannedWithPages", "LSpanKinds$Blocks;", true)
  | 10 => ("SpanKinds", "pagesFor", "[I", true)
  | 11 => ("SpanKinds", "bestOnes", "LSpanKinds$Blocks;", true)
  | 12 => ("SpanKinds", "changing", "LSpanKinds$Change;", true)
  | 13 => ("SpanKinds", "filler", "LSpanKinds$Filler;", false)
  | 14 => ("SpanKinds", "piecesStand", "Z", false)
  | 15 => ("SpanKinds", "planStands", "Z", false)
  | 16 => ("SpanKinds", "pagedStands", "Z", false)
  | 17 => ("SpanKinds", "fillerStands", "Z", false)
  | _ => ("SpanKinds", "changeStands", "Z", false)
def tyX10 : Nat → FieldType := fun k => match k with
  | 0 => .object "SpanKinds$Reader"
  | 1 => .object "SpanKinds$Store"
  | 2 => .object "SpanKinds$History"
  | 3 => .array (.object "SpanKinds$Store")
  | 4 => .array .boolean
  | 5 => .object "SpanKinds$Edges"
  | 6 => .object "SpanKinds$Pieces"
  | 7 => .object "SpanKinds$Planner"
  | 8 => .object "SpanKinds$Blocks"
  | 9 => .object "SpanKinds$Blocks"
  | 10 => .array .int
  | 11 => .object "SpanKinds$Blocks"
  | 12 => .object "SpanKinds$Change"
  | 13 => .object "SpanKinds$Filler"
  | 14 => .boolean
  | 15 => .boolean
  | 16 => .boolean
  | 17 => .boolean
  | _ => .boolean
abbrev wsX100 : List Cond := u_ws RX10 TX10 19
theorem nmX10 : ∀ a, a < 19 → ∀ b, b < 19 → a ≠ b → (TX10 a).2.1 ≠ (TX10 b).2.1 := by decide +kernel
theorem tyX10_ok : ∀ k, k < 19 → parseFieldDescriptor (TX10 k).2.2.1 = some (tyX10 k) := by decide +kernel
abbrev cX10_init : ByteArray := prog_1_method_1_code
def yX10_init : MethodName := ⟨RX10, "<init>", "()V"⟩
abbrev cX10_feed : ByteArray := prog_1_method_2_code
def yX10_feed : MethodName := ⟨RX10, "feed", "(IIIII)I"⟩
abbrev cX10_end : ByteArray := prog_1_method_3_code
def yX10_end : MethodName := ⟨RX10, "end", "(I)I"⟩
abbrev cX10_store : ByteArray := prog_1_method_4_code
def yX10_store : MethodName := ⟨RX10, "store", "()I"⟩
abbrev cX10_fault : ByteArray := prog_1_method_5_code
def yX10_fault : MethodName := ⟨RX10, "fault", "(I)I"⟩
abbrev cX10_span : ByteArray := prog_1_method_6_code
def yX10_span : MethodName := ⟨RX10, "span", "(III)I"⟩
abbrev cX10_drop : ByteArray := prog_1_method_7_code
def yX10_drop : MethodName := ⟨RX10, "drop", "(I)I"⟩
abbrev cX10_prefer : ByteArray := prog_1_method_8_code
def yX10_prefer : MethodName := ⟨RX10, "prefer", "(I)I"⟩
abbrev cX10_fix : ByteArray := prog_1_method_9_code
def yX10_fix : MethodName := ⟨RX10, "fix", "(II)I"⟩
abbrev cX10_set : ByteArray := prog_1_method_10_code
def yX10_set : MethodName := ⟨RX10, "set", "(IIII)Z"⟩
abbrev cX10_clear : ByteArray := prog_1_method_11_code
def yX10_clear : MethodName := ⟨RX10, "clear", "(I)Z"⟩
abbrev cX10_lay : ByteArray := prog_1_method_12_code
def yX10_lay : MethodName := ⟨RX10, "lay", "()I"⟩
abbrev cX10_page : ByteArray := prog_1_method_13_code
def yX10_page : MethodName := ⟨RX10, "page", "(II)I"⟩
abbrev cX10_mend : ByteArray := prog_1_method_14_code
def yX10_mend : MethodName := ⟨RX10, "mend", "()I"⟩
abbrev cX10_layAll : ByteArray := prog_1_method_15_code
def yX10_layAll : MethodName := ⟨RX10, "layAll", "()I"⟩
abbrev cX10_tidy : ByteArray := prog_1_method_16_code
def yX10_tidy : MethodName := ⟨RX10, "tidy", "()I"⟩
abbrev cX10_undo : ByteArray := prog_1_method_17_code
def yX10_undo : MethodName := ⟨RX10, "undo", "()Z"⟩
abbrev cX10_redo : ByteArray := prog_1_method_18_code
def yX10_redo : MethodName := ⟨RX10, "redo", "()Z"⟩
abbrev cX10_told : ByteArray := prog_1_method_19_code
def yX10_told : MethodName := ⟨RX10, "told", "(II)I"⟩
abbrev cX10_register : ByteArray := prog_1_method_20_code
def yX10_register : MethodName := ⟨RX10, "register", "(II)I"⟩
abbrev cX10_part : ByteArray := prog_1_method_21_code
def yX10_part : MethodName := ⟨RX10, "part", "(I)I"⟩
abbrev cX10_wanted : ByteArray := prog_1_method_22_code
def yX10_wanted : MethodName := ⟨RX10, "wanted", "(I)I"⟩
abbrev cX10_kind : ByteArray := prog_1_method_23_code
def yX10_kind : MethodName := ⟨RX10, "kind", "(I)I"⟩
abbrev cX10_run : ByteArray := prog_1_method_24_code
def yX10_run : MethodName := ⟨RX10, "run", "(II)I"⟩
abbrev cX10_paged : ByteArray := prog_1_method_25_code
def yX10_paged : MethodName := ⟨RX10, "paged", "(I)I"⟩
abbrev cX10_seen : ByteArray := prog_1_method_26_code
def yX10_seen : MethodName := ⟨RX10, "seen", "(I)I"⟩
abbrev cX10_strange : ByteArray := prog_1_method_27_code
def yX10_strange : MethodName := ⟨RX10, "strange", "(I)I"⟩
abbrev cX10_mendable : ByteArray := prog_1_method_28_code
def yX10_mendable : MethodName := ⟨RX10, "mendable", "(I)I"⟩
abbrev cX10_withPages : ByteArray := prog_1_method_29_code
def yX10_withPages : MethodName := ⟨RX10, "withPages", "(I)I"⟩
abbrev cX10_pagedPlan : ByteArray := prog_1_method_30_code
def yX10_pagedPlan : MethodName := ⟨RX10, "pagedPlan", "(II)I"⟩
abbrev cX10_pageFor : ByteArray := prog_1_method_31_code
def yX10_pageFor : MethodName := ⟨RX10, "pageFor", "(I)I"⟩
abbrev cX10_wrong : ByteArray := prog_1_method_32_code
def yX10_wrong : MethodName := ⟨RX10, "wrong", "(I)I"⟩
abbrev cX10_cost : ByteArray := prog_1_method_33_code
def yX10_cost : MethodName := ⟨RX10, "cost", "(I)I"⟩
abbrev cX10_plan : ByteArray := prog_1_method_34_code
def yX10_plan : MethodName := ⟨RX10, "plan", "(II)I"⟩
abbrev cX10_byDefault : ByteArray := prog_1_method_35_code
def yX10_byDefault : MethodName := ⟨RX10, "byDefault", "(I)I"⟩
abbrev cX10_bestDefault : ByteArray := prog_1_method_36_code
def yX10_bestDefault : MethodName := ⟨RX10, "bestDefault", "()I"⟩
abbrev cX10_most : ByteArray := prog_1_method_37_code
def yX10_most : MethodName := ⟨RX10, "most", "(I)I"⟩
abbrev cX10_bestSet : ByteArray := prog_1_method_38_code
def yX10_bestSet : MethodName := ⟨RX10, "bestSet", "(III)I"⟩
abbrev cX10_idle : ByteArray := prog_1_method_39_code
def yX10_idle : MethodName := ⟨RX10, "idle", "(I)I"⟩
abbrev cX10_without : ByteArray := prog_1_method_40_code
def yX10_without : MethodName := ⟨RX10, "without", "(I)I"⟩
abbrev cX10_besides : ByteArray := prog_1_method_41_code
def yX10_besides : MethodName := ⟨RX10, "besides", "(III)I"⟩
abbrev cX10_change : ByteArray := prog_1_method_42_code
def yX10_change : MethodName := ⟨RX10, "change", "(I)I"⟩
abbrev cX10_order : ByteArray := prog_1_method_43_code
def yX10_order : MethodName := ⟨RX10, "order", "(I)I"⟩
abbrev cX10_stir : ByteArray := prog_1_method_44_code
def yX10_stir : MethodName := ⟨RX10, "stir", "(I)I"⟩
abbrev cX10_block : ByteArray := prog_1_method_45_code
def yX10_block : MethodName := ⟨RX10, "block", "(II)I"⟩
abbrev cX10_bits : ByteArray := prog_1_method_46_code
def yX10_bits : MethodName := ⟨RX10, "bits", "(I)I"⟩
abbrev cX10_image : ByteArray := prog_1_method_47_code
def yX10_image : MethodName := ⟨RX10, "image", "(I)I"⟩
abbrev cX10_differs : ByteArray := prog_1_method_48_code
def yX10_differs : MethodName := ⟨RX10, "differs", "(II)I"⟩
abbrev cX10_back : ByteArray := prog_1_method_49_code
def yX10_back : MethodName := ⟨RX10, "back", "(I)I"⟩
abbrev cX10_about : ByteArray := prog_1_method_50_code
def yX10_about : MethodName := ⟨RX10, "about", "(I)I"⟩
abbrev cX10_startAnew : ByteArray := prog_1_method_51_code
def yX10_startAnew : MethodName := ⟨RX10, "startAnew", "()V"⟩
abbrev cX10_wantedDone : ByteArray := prog_1_method_52_code
def yX10_wantedDone : MethodName := ⟨RX10, "wantedDone", "()V"⟩
abbrev cX10_kindsDone : ByteArray := prog_1_method_53_code
def yX10_kindsDone : MethodName := ⟨RX10, "kindsDone", "()V"⟩
abbrev cX10_forgetAll : ByteArray := prog_1_method_54_code
def yX10_forgetAll : MethodName := ⟨RX10, "forgetAll", "()V"⟩
abbrev cX10_forgetKinds : ByteArray := prog_1_method_55_code
def yX10_forgetKinds : MethodName := ⟨RX10, "forgetKinds", "()V"⟩
abbrev cX10_piecesNow : ByteArray := prog_1_method_56_code
def yX10_piecesNow : MethodName := ⟨RX10, "piecesNow", "()LSpanKinds$Pieces;"⟩
abbrev cX10_planNow : ByteArray := prog_1_method_57_code
def yX10_planNow : MethodName := ⟨RX10, "planNow", "()LSpanKinds$Blocks;"⟩
abbrev cX10_pagedNow : ByteArray := prog_1_method_58_code
def yX10_pagedNow : MethodName := ⟨RX10, "pagedNow", "()LSpanKinds$Blocks;"⟩
abbrev cX10_fillerNow : ByteArray := prog_1_method_59_code
def yX10_fillerNow : MethodName := ⟨RX10, "fillerNow", "()LSpanKinds$Filler;"⟩
abbrev cX10_changeNow : ByteArray := prog_1_method_60_code
def yX10_changeNow : MethodName := ⟨RX10, "changeNow", "()LSpanKinds$Change;"⟩
abbrev cX10_hasKept : ByteArray := prog_1_method_61_code
def yX10_hasKept : MethodName := ⟨RX10, "hasKept", "(I)Z"⟩
abbrev cX10_cutBoth : ByteArray := prog_1_method_62_code
def yX10_cutBoth : MethodName := ⟨RX10, "cutBoth", "(LSpanKinds$Store;)V"⟩
abbrev cX10_otherKinds : ByteArray := prog_1_method_63_code
def yX10_otherKinds : MethodName := ⟨RX10, "otherKinds", "(LSpanKinds$Store;Z)I"⟩
abbrev cX10_otherWanted : ByteArray := prog_1_method_64_code
def yX10_otherWanted : MethodName := ⟨RX10, "otherWanted", "(LSpanKinds$Store;)I"⟩
abbrev cX10_isKind : ByteArray := prog_1_method_65_code
def yX10_isKind : MethodName := ⟨RX10, "isKind", "(I)Z"⟩
abbrev cX10_pick : ByteArray := prog_1_method_66_code
def yX10_pick : MethodName := ⟨RX10, "pick", "(IIII)I"⟩
abbrev cX10_owned : ByteArray := prog_1_method_67_code
def yX10_owned : MethodName := ⟨RX10, "owned", "([II)I"⟩
abbrev cX10_onesBelow : ByteArray := prog_1_method_68_code
def yX10_onesBelow : MethodName := ⟨RX10, "onesBelow", "(I)I"⟩
abbrev cX10_together : ByteArray := prog_1_method_69_code
def yX10_together : MethodName := ⟨RX10, "together", "(II)I"⟩
abbrev cX10_pageKindInTurn : ByteArray := prog_1_method_70_code
def yX10_pageKindInTurn : MethodName := ⟨RX10, "pageKindInTurn", "(I)I"⟩
def RX11 : String := "SpanKindsModel"
def TX11 : u_T := fun k => match k with
  | 0 => ("SpanKindsModel", "all", "[I", true)
  | 1 => ("SpanKindsModel", "space", "[I", true)
  | 2 => ("SpanKindsModel", "registers", "[I", true)
  | 3 => ("SpanKindsModel", "fixed", "[I", true)
  | 4 => ("SpanKindsModel", "told", "[I", true)
  | 5 => ("SpanKindsModel", "bank", "I", false)
  | 6 => ("SpanKindsModel", "tape", "[B", true)
  | 7 => ("SpanKindsModel", "taped", "I", false)
  | 8 => ("SpanKindsModel", "length", "I", false)
  | 9 => ("SpanKindsModel", "next", "I", false)
  | 10 => ("SpanKindsModel", "at", "I", false)
  | 11 => ("SpanKindsModel", "token", "I", false)
  | 12 => ("SpanKindsModel", "number", "I", false)
  | 13 => ("SpanKindsModel", "word", "I", false)
  | 14 => ("SpanKindsModel", "found", "I", false)
  | 15 => ("SpanKindsModel", "foundAt", "I", false)
  | 16 => ("SpanKindsModel", "fault", "I", false)
  | 17 => ("SpanKindsModel", "faultAt", "I", false)
  | 18 => ("SpanKindsModel", "letters", "[B", true)
  | 19 => ("SpanKindsModel", "seenWords", "I", false)
  | 20 => ("SpanKindsModel", "isBehind", "Z", false)
  | 21 => ("SpanKindsModel", "wants", "[I", true)
  | 22 => ("SpanKindsModel", "fewest", "[I", true)
  | 23 => ("SpanKindsModel", "added", "[I", true)
  | 24 => ("SpanKindsModel", "pageFewest", "[I", true)
  | 25 => ("SpanKindsModel", "defaultNow", "I", false)
  | 26 => ("SpanKindsModel", "waitsNode", "[I", true)
  | 27 => ("SpanKindsModel", "waitsAbove", "[I", true)
  | 28 => ("SpanKindsModel", "planBase", "[I", true)
  | 29 => ("SpanKindsModel", "planSize", "[I", true)
  | 30 => ("SpanKindsModel", "planKind", "[I", true)
  | 31 => ("SpanKindsModel", "pageKind", "[I", true)
  | 32 => ("SpanKindsModel", "waiting", "I", false)
  | 33 => ("SpanKindsModel", "planMany", "I", false)
  | 34 => ("SpanKindsModel", "most", "[I", true)
  | 35 => ("SpanKindsModel", "waitsMany", "[I", true)
  | 36 => ("SpanKindsModel", "step", "[I", true)
  | 37 => ("SpanKindsModel", "edges", "[I", true)
  | 38 => ("SpanKindsModel", "canEnd", "[Z", true)
  | 39 => ("SpanKindsModel", "stepMany", "I", false)
  | 40 => ("SpanKindsModel", "goMany", "I", false)
  | 41 => ("SpanKindsModel", "edgeMany", "I", false)
  | 42 => ("SpanKindsModel", "doneAhead", "I", false)
  | 43 => ("SpanKindsModel", "tidied", "[I", true)
  | 44 => ("SpanKindsModel", "kindNow", "[I", true)
  | 45 => ("SpanKindsModel", "wantedNow", "[I", true)
  | 46 => ("SpanKindsModel", "aside", "[I", true)
  | 47 => ("SpanKindsModel", "was", "[I", true)
  | 48 => ("SpanKindsModel", "boxAll", "[I", true)
  | 49 => ("SpanKindsModel", "isBoxed", "[Z", true)
  | 50 => ("SpanKindsModel", "acts", "I", false)
  | _ => ("SpanKindsModel", "undone", "I", false)
def tyX11 : Nat → FieldType := fun k => match k with
  | 0 => .array .int
  | 1 => .array .int
  | 2 => .array .int
  | 3 => .array .int
  | 4 => .array .int
  | 5 => .int
  | 6 => .array .byte
  | 7 => .int
  | 8 => .int
  | 9 => .int
  | 10 => .int
  | 11 => .int
  | 12 => .int
  | 13 => .int
  | 14 => .int
  | 15 => .int
  | 16 => .int
  | 17 => .int
  | 18 => .array .byte
  | 19 => .int
  | 20 => .boolean
  | 21 => .array .int
  | 22 => .array .int
  | 23 => .array .int
  | 24 => .array .int
  | 25 => .int
  | 26 => .array .int
  | 27 => .array .int
  | 28 => .array .int
  | 29 => .array .int
  | 30 => .array .int
  | 31 => .array .int
  | 32 => .int
  | 33 => .int
  | 34 => .array .int
  | 35 => .array .int
  | 36 => .array .int
  | 37 => .array .int
  | 38 => .array .boolean
  | 39 => .int
  | 40 => .int
  | 41 => .int
  | 42 => .int
  | 43 => .array .int
  | 44 => .array .int
  | 45 => .array .int
  | 46 => .array .int
  | 47 => .array .int
  | 48 => .array .int
  | 49 => .array .boolean
  | 50 => .int
  | _ => .int
abbrev wsX110 : List Cond := u_ws RX11 TX11 52
theorem nmX11 : ∀ a, a < 52 → ∀ b, b < 52 → a ≠ b → (TX11 a).2.1 ≠ (TX11 b).2.1 := by decide +kernel
theorem tyX11_ok : ∀ k, k < 52 → parseFieldDescriptor (TX11 k).2.2.1 = some (tyX11 k) := by decide +kernel
abbrev cX11_init : ByteArray := prog_13_method_1_code
def yX11_init : MethodName := ⟨RX11, "<init>", "()V"⟩
abbrev cX11_isIn : ByteArray := prog_13_method_2_code
def yX11_isIn : MethodName := ⟨RX11, "isIn", "(III)Z"⟩
abbrev cX11_less : ByteArray := prog_13_method_3_code
def yX11_less : MethodName := ⟨RX11, "less", "(II)I"⟩
abbrev cX11_more : ByteArray := prog_13_method_4_code
def yX11_more : MethodName := ⟨RX11, "more", "(II)I"⟩
abbrev cX11_clearBank : ByteArray := prog_13_method_5_code
def yX11_clearBank : MethodName := ⟨RX11, "clearBank", "(I)V"⟩
abbrev cX11_feed : ByteArray := prog_13_method_6_code
def yX11_feed : MethodName := ⟨RX11, "feed", "(IIIII)I"⟩
abbrev cX11_end : ByteArray := prog_13_method_7_code
def yX11_end : MethodName := ⟨RX11, "end", "(I)I"⟩
abbrev cX11_signAt : ByteArray := prog_13_method_8_code
def yX11_signAt : MethodName := ⟨RX11, "signAt", "(I)I"⟩
abbrev cX11_isLetter : ByteArray := prog_13_method_9_code
def yX11_isLetter : MethodName := ⟨RX11, "isLetter", "(I)Z"⟩
abbrev cX11_isDigit : ByteArray := prog_13_method_10_code
def yX11_isDigit : MethodName := ⟨RX11, "isDigit", "(I)Z"⟩
abbrev cX11_isBlank : ByteArray := prog_13_method_11_code
def yX11_isBlank : MethodName := ⟨RX11, "isBlank", "(I)Z"⟩
abbrev cX11_scan : ByteArray := prog_13_method_12_code
def yX11_scan : MethodName := ⟨RX11, "scan", "()V"⟩
abbrev cX11_scanWord : ByteArray := prog_13_method_13_code
def yX11_scanWord : MethodName := ⟨RX11, "scanWord", "()V"⟩
abbrev cX11_isSame : ByteArray := prog_13_method_14_code
def yX11_isSame : MethodName := ⟨RX11, "isSame", "(II)Z"⟩
abbrev cX11_scanNumber : ByteArray := prog_13_method_15_code
def yX11_scanNumber : MethodName := ⟨RX11, "scanNumber", "()V"⟩
abbrev cX11_fail : ByteArray := prog_13_method_16_code
def yX11_fail : MethodName := ⟨RX11, "fail", "(I)V"⟩
abbrev cX11_isWord : ByteArray := prog_13_method_17_code
def yX11_isWord : MethodName := ⟨RX11, "isWord", "(I)Z"⟩
abbrev cX11_isKindWord : ByteArray := prog_13_method_18_code
def yX11_isKindWord : MethodName := ⟨RX11, "isKindWord", "()Z"⟩
abbrev cX11_isStop : ByteArray := prog_13_method_19_code
def yX11_isStop : MethodName := ⟨RX11, "isStop", "()Z"⟩
abbrev cX11_numeral : ByteArray := prog_13_method_20_code
def yX11_numeral : MethodName := ⟨RX11, "numeral", "(II)I"⟩
abbrev cX11_kindTold : ByteArray := prog_13_method_21_code
def yX11_kindTold : MethodName := ⟨RX11, "kindTold", "()I"⟩
abbrev cX11_readAll : ByteArray := prog_13_method_22_code
def yX11_readAll : MethodName := ⟨RX11, "readAll", "(I)V"⟩
abbrev cX11_isOnce : ByteArray := prog_13_method_23_code
def yX11_isOnce : MethodName := ⟨RX11, "isOnce", "(I)Z"⟩
abbrev cX11_spaceOf : ByteArray := prog_13_method_24_code
def yX11_spaceOf : MethodName := ⟨RX11, "spaceOf", "(I)I"⟩
abbrev cX11_readLine : ByteArray := prog_13_method_25_code
def yX11_readLine : MethodName := ⟨RX11, "readLine", "(I)V"⟩
abbrev cX11_readFixed : ByteArray := prog_13_method_26_code
def yX11_readFixed : MethodName := ⟨RX11, "readFixed", "(I)V"⟩
abbrev cX11_readSpan : ByteArray := prog_13_method_27_code
def yX11_readSpan : MethodName := ⟨RX11, "readSpan", "(I)V"⟩
abbrev cX11_emptyIn : ByteArray := prog_13_method_28_code
def yX11_emptyIn : MethodName := ⟨RX11, "emptyIn", "(I)I"⟩
abbrev cX11_isBlock : ByteArray := prog_13_method_29_code
def yX11_isBlock : MethodName := ⟨RX11, "isBlock", "(III)Z"⟩
abbrev cX11_readRegister : ByteArray := prog_13_method_30_code
def yX11_readRegister : MethodName := ⟨RX11, "readRegister", "(I)V"⟩
abbrev cX11_readPage : ByteArray := prog_13_method_31_code
def yX11_readPage : MethodName := ⟨RX11, "readPage", "(I)V"⟩
abbrev cX11_store : ByteArray := prog_13_method_32_code
def yX11_store : MethodName := ⟨RX11, "store", "()I"⟩
abbrev cX11_fault : ByteArray := prog_13_method_33_code
def yX11_fault : MethodName := ⟨RX11, "fault", "(I)I"⟩
abbrev cX11_startAnew : ByteArray := prog_13_method_34_code
def yX11_startAnew : MethodName := ⟨RX11, "startAnew", "()V"⟩
abbrev cX11_addresses : ByteArray := prog_13_method_35_code
def yX11_addresses : MethodName := ⟨RX11, "addresses", "()I"⟩
abbrev cX11_pages : ByteArray := prog_13_method_36_code
def yX11_pages : MethodName := ⟨RX11, "pages", "()I"⟩
abbrev cX11_isAddress : ByteArray := prog_13_method_37_code
def yX11_isAddress : MethodName := ⟨RX11, "isAddress", "(I)Z"⟩
abbrev cX11_isKind : ByteArray := prog_13_method_38_code
def yX11_isKind : MethodName := ⟨RX11, "isKind", "(I)Z"⟩
abbrev cX11_registersNow : ByteArray := prog_13_method_39_code
def yX11_registersNow : MethodName := ⟨RX11, "registersNow", "()I"⟩
abbrev cX11_isRegister : ByteArray := prog_13_method_40_code
def yX11_isRegister : MethodName := ⟨RX11, "isRegister", "(I)Z"⟩
abbrev cX11_baseOf : ByteArray := prog_13_method_41_code
def yX11_baseOf : MethodName := ⟨RX11, "baseOf", "(I)I"⟩
abbrev cX11_sizeOf : ByteArray := prog_13_method_42_code
def yX11_sizeOf : MethodName := ⟨RX11, "sizeOf", "(I)I"⟩
abbrev cX11_kindOf : ByteArray := prog_13_method_43_code
def yX11_kindOf : MethodName := ⟨RX11, "kindOf", "(I)I"⟩
abbrev cX11_isSet : ByteArray := prog_13_method_44_code
def yX11_isSet : MethodName := ⟨RX11, "isSet", "(I)Z"⟩
abbrev cX11_isFixed : ByteArray := prog_13_method_45_code
def yX11_isFixed : MethodName := ⟨RX11, "isFixed", "(I)Z"⟩
abbrev cX11_wantedAt : ByteArray := prog_13_method_46_code
def yX11_wantedAt : MethodName := ⟨RX11, "wantedAt", "(I)I"⟩
abbrev cX11_together : ByteArray := prog_13_method_47_code
def yX11_together : MethodName := ⟨RX11, "together", "(I)I"⟩
abbrev cX11_hasIt : ByteArray := prog_13_method_48_code
def yX11_hasIt : MethodName := ⟨RX11, "hasIt", "(II)Z"⟩
abbrev cX11_kindWithout : ByteArray := prog_13_method_49_code
def yX11_kindWithout : MethodName := ⟨RX11, "kindWithout", "(II)I"⟩
abbrev cX11_setAt : ByteArray := prog_13_method_50_code
def yX11_setAt : MethodName := ⟨RX11, "setAt", "(II)I"⟩
abbrev cX11_kindAt : ByteArray := prog_13_method_51_code
def yX11_kindAt : MethodName := ⟨RX11, "kindAt", "(I)I"⟩
abbrev cX11_seenAs : ByteArray := prog_13_method_52_code
def yX11_seenAs : MethodName := ⟨RX11, "seenAs", "(II)I"⟩
abbrev cX11_seenAt : ByteArray := prog_13_method_53_code
def yX11_seenAt : MethodName := ⟨RX11, "seenAt", "(I)I"⟩
abbrev cX11_wanted : ByteArray := prog_13_method_54_code
def yX11_wanted : MethodName := ⟨RX11, "wanted", "(I)I"⟩
abbrev cX11_kind : ByteArray := prog_13_method_55_code
def yX11_kind : MethodName := ⟨RX11, "kind", "(I)I"⟩
abbrev cX11_seen : ByteArray := prog_13_method_56_code
def yX11_seen : MethodName := ⟨RX11, "seen", "(I)I"⟩
abbrev cX11_paged : ByteArray := prog_13_method_57_code
def yX11_paged : MethodName := ⟨RX11, "paged", "(I)I"⟩
abbrev cX11_part : ByteArray := prog_13_method_58_code
def yX11_part : MethodName := ⟨RX11, "part", "(I)I"⟩
abbrev cX11_told : ByteArray := prog_13_method_59_code
def yX11_told : MethodName := ⟨RX11, "told", "(II)I"⟩
abbrev cX11_register : ByteArray := prog_13_method_60_code
def yX11_register : MethodName := ⟨RX11, "register", "(II)I"⟩
abbrev cX11_runMany : ByteArray := prog_13_method_61_code
def yX11_runMany : MethodName := ⟨RX11, "runMany", "()I"⟩
abbrev cX11_run : ByteArray := prog_13_method_62_code
def yX11_run : MethodName := ⟨RX11, "run", "(II)I"⟩
abbrev cX11_runEnd : ByteArray := prog_13_method_63_code
def yX11_runEnd : MethodName := ⟨RX11, "runEnd", "(I)I"⟩
abbrev cX11_strange : ByteArray := prog_13_method_64_code
def yX11_strange : MethodName := ⟨RX11, "strange", "(I)I"⟩
abbrev cX11_wrong : ByteArray := prog_13_method_65_code
def yX11_wrong : MethodName := ⟨RX11, "wrong", "(I)I"⟩
abbrev cX11_mendable : ByteArray := prog_13_method_66_code
def yX11_mendable : MethodName := ⟨RX11, "mendable", "(I)I"⟩
abbrev cX11_isMended : ByteArray := prog_13_method_67_code
def yX11_isMended : MethodName := ⟨RX11, "isMended", "(II)Z"⟩
abbrev cX11_block : ByteArray := prog_13_method_68_code
def yX11_block : MethodName := ⟨RX11, "block", "(II)I"⟩
abbrev cX11_isAll : ByteArray := prog_13_method_69_code
def yX11_isAll : MethodName := ⟨RX11, "isAll", "(III)Z"⟩
abbrev cX11_bits : ByteArray := prog_13_method_70_code
def yX11_bits : MethodName := ⟨RX11, "bits", "(I)I"⟩
abbrev cX11_sizeAt : ByteArray := prog_13_method_71_code
def yX11_sizeAt : MethodName := ⟨RX11, "sizeAt", "(I)I"⟩
abbrev cX11_baseAt : ByteArray := prog_13_method_72_code
def yX11_baseAt : MethodName := ⟨RX11, "baseAt", "(I)I"⟩
abbrev cX11_layWants : ByteArray := prog_13_method_73_code
def yX11_layWants : MethodName := ⟨RX11, "layWants", "(I)V"⟩
abbrev cX11_madeBy : ByteArray := prog_13_method_74_code
def yX11_madeBy : MethodName := ⟨RX11, "madeBy", "(II)I"⟩
abbrev cX11_aboveAt : ByteArray := prog_13_method_75_code
def yX11_aboveAt : MethodName := ⟨RX11, "aboveAt", "(I)I"⟩
abbrev cX11_kindBy : ByteArray := prog_13_method_76_code
def yX11_kindBy : MethodName := ⟨RX11, "kindBy", "(I)I"⟩
abbrev cX11_isRight : ByteArray := prog_13_method_77_code
def yX11_isRight : MethodName := ⟨RX11, "isRight", "(III)Z"⟩
abbrev cX11_both : ByteArray := prog_13_method_78_code
def yX11_both : MethodName := ⟨RX11, "both", "([III)I"⟩
abbrev cX11_layFewest : ByteArray := prog_13_method_79_code
def yX11_layFewest : MethodName := ⟨RX11, "layFewest", "(I)V"⟩
abbrev cX11_costBy : ByteArray := prog_13_method_80_code
def yX11_costBy : MethodName := ⟨RX11, "costBy", "(I)I"⟩
abbrev cX11_addedCost : ByteArray := prog_13_method_81_code
def yX11_addedCost : MethodName := ⟨RX11, "addedCost", "()I"⟩
abbrev cX11_cost : ByteArray := prog_13_method_82_code
def yX11_cost : MethodName := ⟨RX11, "cost", "(I)I"⟩
abbrev cX11_byDefault : ByteArray := prog_13_method_83_code
def yX11_byDefault : MethodName := ⟨RX11, "byDefault", "(I)I"⟩
abbrev cX11_bestDefault : ByteArray := prog_13_method_84_code
def yX11_bestDefault : MethodName := ⟨RX11, "bestDefault", "()I"⟩
abbrev cX11_waits : ByteArray := prog_13_method_85_code
def yX11_waits : MethodName := ⟨RX11, "waits", "(II)V"⟩
abbrev cX11_layBlock : ByteArray := prog_13_method_86_code
def yX11_layBlock : MethodName := ⟨RX11, "layBlock", "(II)V"⟩
abbrev cX11_layBy : ByteArray := prog_13_method_87_code
def yX11_layBy : MethodName := ⟨RX11, "layBy", "([IIIIZ)V"⟩
abbrev cX11_layWaiting : ByteArray := prog_13_method_88_code
def yX11_layWaiting : MethodName := ⟨RX11, "layWaiting", "(II)V"⟩
abbrev cX11_layPlan : ByteArray := prog_13_method_89_code
def yX11_layPlan : MethodName := ⟨RX11, "layPlan", "()V"⟩
abbrev cX11_blockOf : ByteArray := prog_13_method_90_code
def yX11_blockOf : MethodName := ⟨RX11, "blockOf", "(II)I"⟩
abbrev cX11_plan : ByteArray := prog_13_method_91_code
def yX11_plan : MethodName := ⟨RX11, "plan", "(II)I"⟩
abbrev cX11_triedKind : ByteArray := prog_13_method_92_code
def yX11_triedKind : MethodName := ⟨RX11, "triedKind", "(I)I"⟩
abbrev cX11_pageNode : ByteArray := prog_13_method_93_code
def yX11_pageNode : MethodName := ⟨RX11, "pageNode", "(I)I"⟩
abbrev cX11_layPageFewest : ByteArray := prog_13_method_94_code
def yX11_layPageFewest : MethodName := ⟨RX11, "layPageFewest", "()V"⟩
abbrev cX11_layPage : ByteArray := prog_13_method_95_code
def yX11_layPage : MethodName := ⟨RX11, "layPage", "(II)V"⟩
abbrev cX11_layPagedPlan : ByteArray := prog_13_method_96_code
def yX11_layPagedPlan : MethodName := ⟨RX11, "layPagedPlan", "()V"⟩
abbrev cX11_ownPages : ByteArray := prog_13_method_97_code
def yX11_ownPages : MethodName := ⟨RX11, "ownPages", "()I"⟩
abbrev cX11_withPages : ByteArray := prog_13_method_98_code
def yX11_withPages : MethodName := ⟨RX11, "withPages", "(I)I"⟩
abbrev cX11_pagedPlan : ByteArray := prog_13_method_99_code
def yX11_pagedPlan : MethodName := ⟨RX11, "pagedPlan", "(II)I"⟩
abbrev cX11_pageFor : ByteArray := prog_13_method_100_code
def yX11_pageFor : MethodName := ⟨RX11, "pageFor", "(I)I"⟩
abbrev cX11_rightIn : ByteArray := prog_13_method_101_code
def yX11_rightIn : MethodName := ⟨RX11, "rightIn", "(II)I"⟩
abbrev cX11_layMost : ByteArray := prog_13_method_102_code
def yX11_layMost : MethodName := ⟨RX11, "layMost", "(III)V"⟩
abbrev cX11_layAllMost : ByteArray := prog_13_method_103_code
def yX11_layAllMost : MethodName := ⟨RX11, "layAllMost", "(I)I"⟩
abbrev cX11_most : ByteArray := prog_13_method_104_code
def yX11_most : MethodName := ⟨RX11, "most", "(I)I"⟩
abbrev cX11_mostAt : ByteArray := prog_13_method_105_code
def yX11_mostAt : MethodName := ⟨RX11, "mostAt", "(III)I"⟩
abbrev cX11_waitsWith : ByteArray := prog_13_method_106_code
def yX11_waitsWith : MethodName := ⟨RX11, "waitsWith", "(III)V"⟩
abbrev cX11_laySet : ByteArray := prog_13_method_107_code
def yX11_laySet : MethodName := ⟨RX11, "laySet", "(I)V"⟩
abbrev cX11_laySetAt : ByteArray := prog_13_method_108_code
def yX11_laySetAt : MethodName := ⟨RX11, "laySetAt", "(III)V"⟩
abbrev cX11_bestSet : ByteArray := prog_13_method_109_code
def yX11_bestSet : MethodName := ⟨RX11, "bestSet", "(III)I"⟩
abbrev cX11_idle : ByteArray := prog_13_method_110_code
def yX11_idle : MethodName := ⟨RX11, "idle", "(I)I"⟩
abbrev cX11_without : ByteArray := prog_13_method_111_code
def yX11_without : MethodName := ⟨RX11, "without", "(I)I"⟩
abbrev cX11_isTaken : ByteArray := prog_13_method_112_code
def yX11_isTaken : MethodName := ⟨RX11, "isTaken", "(III)Z"⟩
abbrev cX11_gain : ByteArray := prog_13_method_113_code
def yX11_gain : MethodName := ⟨RX11, "gain", "(III)I"⟩
abbrev cX11_besides : ByteArray := prog_13_method_114_code
def yX11_besides : MethodName := ⟨RX11, "besides", "(III)I"⟩
abbrev cX11_isInPlan : ByteArray := prog_13_method_115_code
def yX11_isInPlan : MethodName := ⟨RX11, "isInPlan", "(I)Z"⟩
abbrev cX11_isInRegisters : ByteArray := prog_13_method_116_code
def yX11_isInRegisters : MethodName := ⟨RX11, "isInRegisters", "(I)Z"⟩
abbrev cX11_addEdge : ByteArray := prog_13_method_117_code
def yX11_addEdge : MethodName := ⟨RX11, "addEdge", "(I)V"⟩
abbrev cX11_laySteps : ByteArray := prog_13_method_118_code
def yX11_laySteps : MethodName := ⟨RX11, "laySteps", "()V"⟩
abbrev cX11_layEdges : ByteArray := prog_13_method_119_code
def yX11_layEdges : MethodName := ⟨RX11, "layEdges", "()V"⟩
abbrev cX11_kindBehind : ByteArray := prog_13_method_120_code
def yX11_kindBehind : MethodName := ⟨RX11, "kindBehind", "(II)I"⟩
abbrev cX11_isGone : ByteArray := prog_13_method_121_code
def yX11_isGone : MethodName := ⟨RX11, "isGone", "(II)Z"⟩
abbrev cX11_isSafe : ByteArray := prog_13_method_122_code
def yX11_isSafe : MethodName := ⟨RX11, "isSafe", "(I)Z"⟩
abbrev cX11_emptyBehind : ByteArray := prog_13_method_123_code
def yX11_emptyBehind : MethodName := ⟨RX11, "emptyBehind", "(I)I"⟩
abbrev cX11_canStep : ByteArray := prog_13_method_124_code
def yX11_canStep : MethodName := ⟨RX11, "canStep", "(II)Z"⟩
abbrev cX11_layChange : ByteArray := prog_13_method_125_code
def yX11_layChange : MethodName := ⟨RX11, "layChange", "()Z"⟩
abbrev cX11_change : ByteArray := prog_13_method_126_code
def yX11_change : MethodName := ⟨RX11, "change", "(I)I"⟩
abbrev cX11_orderAt : ByteArray := prog_13_method_127_code
def yX11_orderAt : MethodName := ⟨RX11, "orderAt", "(I)I"⟩
abbrev cX11_order : ByteArray := prog_13_method_128_code
def yX11_order : MethodName := ⟨RX11, "order", "(I)I"⟩
abbrev cX11_stir : ByteArray := prog_13_method_129_code
def yX11_stir : MethodName := ⟨RX11, "stir", "(I)I"⟩
abbrev cX11_span : ByteArray := prog_13_method_130_code
def yX11_span : MethodName := ⟨RX11, "span", "(III)I"⟩
abbrev cX11_drop : ByteArray := prog_13_method_131_code
def yX11_drop : MethodName := ⟨RX11, "drop", "(I)I"⟩
abbrev cX11_becomes : ByteArray := prog_13_method_132_code
def yX11_becomes : MethodName := ⟨RX11, "becomes", "(II)I"⟩
abbrev cX11_prefer : ByteArray := prog_13_method_133_code
def yX11_prefer : MethodName := ⟨RX11, "prefer", "(I)I"⟩
abbrev cX11_fix : ByteArray := prog_13_method_134_code
def yX11_fix : MethodName := ⟨RX11, "fix", "(II)I"⟩
abbrev cX11_page : ByteArray := prog_13_method_135_code
def yX11_page : MethodName := ⟨RX11, "page", "(II)I"⟩
abbrev cX11_setOne : ByteArray := prog_13_method_136_code
def yX11_setOne : MethodName := ⟨RX11, "setOne", "(IIII)V"⟩
abbrev cX11_set : ByteArray := prog_13_method_137_code
def yX11_set : MethodName := ⟨RX11, "set", "(IIII)Z"⟩
abbrev cX11_clear : ByteArray := prog_13_method_138_code
def yX11_clear : MethodName := ⟨RX11, "clear", "(I)Z"⟩
abbrev cX11_setAll : ByteArray := prog_13_method_139_code
def yX11_setAll : MethodName := ⟨RX11, "setAll", "()I"⟩
abbrev cX11_lay : ByteArray := prog_13_method_140_code
def yX11_lay : MethodName := ⟨RX11, "lay", "()I"⟩
abbrev cX11_layAll : ByteArray := prog_13_method_141_code
def yX11_layAll : MethodName := ⟨RX11, "layAll", "()I"⟩
abbrev cX11_mend : ByteArray := prog_13_method_142_code
def yX11_mend : MethodName := ⟨RX11, "mend", "()I"⟩
abbrev cX11_tidy : ByteArray := prog_13_method_143_code
def yX11_tidy : MethodName := ⟨RX11, "tidy", "()I"⟩
abbrev cX11_differs : ByteArray := prog_13_method_144_code
def yX11_differs : MethodName := ⟨RX11, "differs", "(II)I"⟩
abbrev cX11_keepAct : ByteArray := prog_13_method_145_code
def yX11_keepAct : MethodName := ⟨RX11, "keepAct", "()V"⟩
abbrev cX11_swapAll : ByteArray := prog_13_method_146_code
def yX11_swapAll : MethodName := ⟨RX11, "swapAll", "()V"⟩
abbrev cX11_undo : ByteArray := prog_13_method_147_code
def yX11_undo : MethodName := ⟨RX11, "undo", "()Z"⟩
abbrev cX11_redo : ByteArray := prog_13_method_148_code
def yX11_redo : MethodName := ⟨RX11, "redo", "()Z"⟩
abbrev cX11_image : ByteArray := prog_13_method_149_code
def yX11_image : MethodName := ⟨RX11, "image", "(I)I"⟩
abbrev cX11_back : ByteArray := prog_13_method_150_code
def yX11_back : MethodName := ⟨RX11, "back", "(I)I"⟩
abbrev cX11_setMany : ByteArray := prog_13_method_151_code
def yX11_setMany : MethodName := ⟨RX11, "setMany", "()I"⟩
abbrev cX11_pagesSet : ByteArray := prog_13_method_152_code
def yX11_pagesSet : MethodName := ⟨RX11, "pagesSet", "()I"⟩
abbrev cX11_about : ByteArray := prog_13_method_153_code
def yX11_about : MethodName := ⟨RX11, "about", "(I)I"⟩
def RJ6 : String := "java/lang/Integer"
def TJ6 : u_T := fun k => match k with
  | _ => ("", "", "", false)
def tyJ6 : Nat → FieldType := fun k => match k with
  | _ => .int
abbrev wsJ60 : List Cond := u_ws RJ6 TJ6 0
theorem nmJ6 : ∀ a, a < 0 → ∀ b, b < 0 → a ≠ b → (TJ6 a).2.1 ≠ (TJ6 b).2.1 := by decide +kernel
theorem tyJ6_ok : ∀ k, k < 0 → parseFieldDescriptor (TJ6 k).2.2.1 = some (tyJ6 k) := by decide +kernel
abbrev cJ6_numberOfTrailingZeros_0f7a4 : ByteArray := prog_14_method_48_code
def yJ6_numberOfTrailingZeros_0f7a4 : MethodName := ⟨RJ6, "numberOfTrailingZeros", "(I)I"⟩
abbrev cJ6_bitCount_0f7a4 : ByteArray := prog_14_method_49_code
def yJ6_bitCount_0f7a4 : MethodName := ⟨RJ6, "bitCount", "(I)I"⟩
def RJ9 : String := "java/lang/Math"
def TJ9 : u_T := fun k => match k with
  | _ => ("", "", "", false)
def tyJ9 : Nat → FieldType := fun k => match k with
  | _ => .int
abbrev wsJ90 : List Cond := u_ws RJ9 TJ9 0
theorem nmJ9 : ∀ a, a < 0 → ∀ b, b < 0 → a ≠ b → (TJ9 a).2.1 ≠ (TJ9 b).2.1 := by decide +kernel
theorem tyJ9_ok : ∀ k, k < 0 → parseFieldDescriptor (TJ9 k).2.2.1 = some (tyJ9 k) := by decide +kernel
abbrev cJ9_max_7cf53 : ByteArray := prog_15_method_65_code
def yJ9_max_7cf53 : MethodName := ⟨RJ9, "max", "(II)I"⟩
abbrev cJ9_min_7cf53 : ByteArray := prog_15_method_69_code
def yJ9_min_7cf53 : MethodName := ⟨RJ9, "min", "(II)I"⟩
def RJ0 : String := "java/lang/String"
def TJ0 : u_T := fun k => match k with
  | _ => ("", "", "", false)
def tyJ0 : Nat → FieldType := fun k => match k with
  | _ => .int
abbrev wsJ00 : List Cond := u_ws RJ0 TJ0 0
theorem nmJ0 : ∀ a, a < 0 → ∀ b, b < 0 → a ≠ b → (TJ0 a).2.1 ≠ (TJ0 b).2.1 := by decide +kernel
theorem tyJ0_ok : ∀ k, k < 0 → parseFieldDescriptor (TJ0 k).2.2.1 = some (tyJ0 k) := by decide +kernel
abbrev cJ0_length_8abf5 : ByteArray := prog_16_method_54_code
def yJ0_length_8abf5 : MethodName := ⟨RJ0, "length", "()I"⟩
abbrev cJ0_charAt_5068e : ByteArray := prog_16_method_56_code
def yJ0_charAt_5068e : MethodName := ⟨RJ0, "charAt", "(I)C"⟩
abbrev cJ0_coder_7d493 : ByteArray := prog_16_method_152_code
def yJ0_coder_7d493 : MethodName := ⟨RJ0, "coder", "()B"⟩
abbrev cJ0_isLatin1_aae02 : ByteArray := prog_16_method_154_code
def yJ0_isLatin1_aae02 : MethodName := ⟨RJ0, "isLatin1", "()Z"⟩
abbrev cJ0_checkIndex_df160 : ByteArray := prog_16_method_155_code
def yJ0_checkIndex_df160 : MethodName := ⟨RJ0, "checkIndex", "(II)V"⟩
def RJ1 : String := "java/lang/StringLatin1"
def TJ1 : u_T := fun k => match k with
  | _ => ("", "", "", false)
def tyJ1 : Nat → FieldType := fun k => match k with
  | _ => .int
abbrev wsJ10 : List Cond := u_ws RJ1 TJ1 0
theorem nmJ1 : ∀ a, a < 0 → ∀ b, b < 0 → a ≠ b → (TJ1 a).2.1 ≠ (TJ1 b).2.1 := by decide +kernel
theorem tyJ1_ok : ∀ k, k < 0 → parseFieldDescriptor (TJ1 k).2.2.1 = some (tyJ1 k) := by decide +kernel
abbrev cJ1_charAt_3b067 : ByteArray := prog_17_method_2_code
def yJ1_charAt_3b067 : MethodName := ⟨RJ1, "charAt", "([BI)C"⟩
def RJ2 : String := "java/lang/StringUTF16"
def TJ2 : u_T := fun k => match k with
  | _ => ("", "", "", false)
def tyJ2 : Nat → FieldType := fun k => match k with
  | _ => .int
abbrev wsJ20 : List Cond := u_ws RJ2 TJ2 0
theorem nmJ2 : ∀ a, a < 0 → ∀ b, b < 0 → a ≠ b → (TJ2 a).2.1 ≠ (TJ2 b).2.1 := by decide +kernel
theorem tyJ2_ok : ∀ k, k < 0 → parseFieldDescriptor (TJ2 k).2.2.1 = some (tyJ2 k) := by decide +kernel
abbrev cJ2_getChar_3b067 : ByteArray := prog_18_method_5_code
def yJ2_getChar_3b067 : MethodName := ⟨RJ2, "getChar", "([BI)C"⟩
abbrev cJ2_length_9d52b : ByteArray := prog_18_method_6_code
def yJ2_length_9d52b : MethodName := ⟨RJ2, "length", "([B)I"⟩
abbrev cJ2_charAt_3b067 : ByteArray := prog_18_method_83_code
def yJ2_charAt_3b067 : MethodName := ⟨RJ2, "charAt", "([BI)C"⟩
abbrev cJ2_checkIndex_2214a : ByteArray := prog_18_method_91_code
def yJ2_checkIndex_2214a : MethodName := ⟨RJ2, "checkIndex", "(I[B)V"⟩
def RJ10 : String := "java/lang/System"
def TJ10 : u_T := fun k => match k with
  | _ => ("", "", "", false)
def tyJ10 : Nat → FieldType := fun k => match k with
  | _ => .int
abbrev wsJ100 : List Cond := u_ws RJ10 TJ10 0
theorem nmJ10 : ∀ a, a < 0 → ∀ b, b < 0 → a ≠ b → (TJ10 a).2.1 ≠ (TJ10 b).2.1 := by decide +kernel
theorem tyJ10_ok : ∀ k, k < 0 → parseFieldDescriptor (TJ10 k).2.2.1 = some (tyJ10 k) := by decide +kernel
def RJ3 : String := "jdk/internal/util/Preconditions"
def TJ3 : u_T := fun k => match k with
  | _ => ("", "", "", false)
def tyJ3 : Nat → FieldType := fun k => match k with
  | _ => .int
abbrev wsJ30 : List Cond := u_ws RJ3 TJ3 0
theorem nmJ3 : ∀ a, a < 0 → ∀ b, b < 0 → a ≠ b → (TJ3 a).2.1 ≠ (TJ3 b).2.1 := by decide +kernel
theorem tyJ3_ok : ∀ k, k < 0 → parseFieldDescriptor (TJ3 k).2.2.1 = some (tyJ3 k) := by decide +kernel
abbrev cJ3_checkIndex_8e157 : ByteArray := prog_20_method_11_code
def yJ3_checkIndex_8e157 : MethodName := ⟨RJ3, "checkIndex", "(IILjava/util/function/BiFunction;)I"⟩
def RL : String := "SpanKindsLaw"
abbrev cL_law : ByteArray := code
def yL_law : MethodName := ⟨RL, "law", "([I)Z"⟩
abbrev vwCl : List vw_C := [(RX0, TX0, 4), (RX1, TX1, 13), (RX2, TX2, 2), (RX3, TX3, 3), (RX4, TX4, 4), (RX5, TX5, 9), (RX6, TX6, 7), (RX7, TX7, 14), (RX8, TX8, 13), (RX9, TX9, 13), (RX10, TX10, 19), (RX11, TX11, 52)]
