section
-- ===== PART A: goes FIRST, ahead of the names: the tables' words, and 'selects' of the private methods out of them =====
/-- a private method of a class that the tables say can be made, by its rows of tables_1 -/
def lw_okq (q : MethodName × Nat) : Prop := (q.1.cls ≠ "java/lang/invoke/MethodHandle" ∧ q.1.cls ≠ "java/lang/invoke/VarHandle") ∧ Cond.instantiable q.1.cls q.2 ∈ tables_1 ∧ Cond.privateMethod q.1 ∈ tables_1 ∧ Cond.instanceMethod q.1 ∈ tables_1
theorem lw_p0 : lw_okq (⟨"SpanLayers$Span", "gapByFirst", "(LSpanLayers$Span;I)I"⟩, 6) := ⟨⟨by decide +kernel, by decide +kernel⟩, List.mem_of_getElem? (i := 36) (by decide +kernel), List.mem_of_getElem? (i := 346) (by decide +kernel), List.mem_of_getElem? (i := 347) (by decide +kernel)⟩
theorem lw_p1 : lw_okq (⟨"SpanLayers$Span", "gapBySecond", "(LSpanLayers$Span;I)I"⟩, 6) := ⟨⟨by decide +kernel, by decide +kernel⟩, List.mem_of_getElem? (i := 36) (by decide +kernel), List.mem_of_getElem? (i := 354) (by decide +kernel), List.mem_of_getElem? (i := 355) (by decide +kernel)⟩
theorem lw_p2 : lw_okq (⟨"SpanLayers$Index", "countCovering", "(LSpanLayers$Span;)I"⟩, 2) := ⟨⟨by decide +kernel, by decide +kernel⟩, List.mem_of_getElem? (i := 29) (by decide +kernel), List.mem_of_getElem? (i := 398) (by decide +kernel), List.mem_of_getElem? (i := 399) (by decide +kernel)⟩
theorem lw_p3 : lw_okq (⟨"SpanLayers$Index", "countCovered", "(LSpanLayers$Span;)I"⟩, 2) := ⟨⟨by decide +kernel, by decide +kernel⟩, List.mem_of_getElem? (i := 29) (by decide +kernel), List.mem_of_getElem? (i := 402) (by decide +kernel), List.mem_of_getElem? (i := 403) (by decide +kernel)⟩
theorem lw_p4 : lw_okq (⟨"SpanLayers$Span", "lieAhead", "(LSpanLayers$Span;)I"⟩, 6) := ⟨⟨by decide +kernel, by decide +kernel⟩, List.mem_of_getElem? (i := 36) (by decide +kernel), List.mem_of_getElem? (i := 428) (by decide +kernel), List.mem_of_getElem? (i := 429) (by decide +kernel)⟩
theorem lw_p5 : lw_okq (⟨"SpanLayers", "countOpen", "()I"⟩, 12) := ⟨⟨by decide +kernel, by decide +kernel⟩, List.mem_of_getElem? (i := 21) (by decide +kernel), List.mem_of_getElem? (i := 490) (by decide +kernel), List.mem_of_getElem? (i := 491) (by decide +kernel)⟩
theorem lw_p6 : lw_okq (⟨"SpanLayers$Coverage", "sumOfPieces", "()I"⟩, 4) := ⟨⟨by decide +kernel, by decide +kernel⟩, List.mem_of_getElem? (i := 98) (by decide +kernel), List.mem_of_getElem? (i := 532) (by decide +kernel), List.mem_of_getElem? (i := 533) (by decide +kernel)⟩
theorem lw_p7 : lw_okq (⟨"SpanLayers$Coverage", "sumOfHoles", "()I"⟩, 4) := ⟨⟨by decide +kernel, by decide +kernel⟩, List.mem_of_getElem? (i := 98) (by decide +kernel), List.mem_of_getElem? (i := 540) (by decide +kernel), List.mem_of_getElem? (i := 541) (by decide +kernel)⟩
theorem lw_p8 : lw_okq (⟨"SpanLayers$Coverage", "greatestHole", "()I"⟩, 4) := ⟨⟨by decide +kernel, by decide +kernel⟩, List.mem_of_getElem? (i := 98) (by decide +kernel), List.mem_of_getElem? (i := 544) (by decide +kernel), List.mem_of_getElem? (i := 545) (by decide +kernel)⟩
theorem lw_p9 : lw_okq (⟨"SpanLayers$Index", "higherOf", "(III)I"⟩, 2) := ⟨⟨by decide +kernel, by decide +kernel⟩, List.mem_of_getElem? (i := 29) (by decide +kernel), List.mem_of_getElem? (i := 577) (by decide +kernel), List.mem_of_getElem? (i := 578) (by decide +kernel)⟩
theorem lw_p10 : lw_okq (⟨"SpanLayers$Condition", "readEither", "(LSpanLayers$Tape;LSpanLayers$Index;I)I"⟩, 0) := ⟨⟨by decide +kernel, by decide +kernel⟩, List.mem_of_getElem? (i := 167) (by decide +kernel), List.mem_of_getElem? (i := 647) (by decide +kernel), List.mem_of_getElem? (i := 648) (by decide +kernel)⟩
theorem lw_p11 : lw_okq (⟨"SpanLayers$Condition", "readBoth", "(LSpanLayers$Tape;LSpanLayers$Index;I)I"⟩, 0) := ⟨⟨by decide +kernel, by decide +kernel⟩, List.mem_of_getElem? (i := 167) (by decide +kernel), List.mem_of_getElem? (i := 651) (by decide +kernel), List.mem_of_getElem? (i := 652) (by decide +kernel)⟩
theorem lw_p12 : lw_okq (⟨"SpanLayers$Condition", "readFactor", "(LSpanLayers$Tape;LSpanLayers$Index;I)I"⟩, 0) := ⟨⟨by decide +kernel, by decide +kernel⟩, List.mem_of_getElem? (i := 167) (by decide +kernel), List.mem_of_getElem? (i := 655) (by decide +kernel), List.mem_of_getElem? (i := 656) (by decide +kernel)⟩
theorem lw_p13 : lw_okq (⟨"SpanLayers$Tape", "letter", "()I"⟩, 4) := ⟨⟨by decide +kernel, by decide +kernel⟩, List.mem_of_getElem? (i := 146) (by decide +kernel), List.mem_of_getElem? (i := 663) (by decide +kernel), List.mem_of_getElem? (i := 664) (by decide +kernel)⟩
theorem lw_p14 : lw_okq (⟨"SpanLayers$Condition", "readPlain", "(LSpanLayers$Tape;LSpanLayers$Index;I)I"⟩, 0) := ⟨⟨by decide +kernel, by decide +kernel⟩, List.mem_of_getElem? (i := 167) (by decide +kernel), List.mem_of_getElem? (i := 672) (by decide +kernel), List.mem_of_getElem? (i := 673) (by decide +kernel)⟩
theorem lw_p15 : lw_okq (⟨"SpanLayers$Tape", "isSame", "(ILjava/lang/String;II)Z"⟩, 4) := ⟨⟨by decide +kernel, by decide +kernel⟩, List.mem_of_getElem? (i := 146) (by decide +kernel), List.mem_of_getElem? (i := 741) (by decide +kernel), List.mem_of_getElem? (i := 742) (by decide +kernel)⟩
def lw_privs_1 : List (MethodName × Nat) := [(⟨"SpanLayers$Span", "gapByFirst", "(LSpanLayers$Span;I)I"⟩, 6), (⟨"SpanLayers$Span", "gapBySecond", "(LSpanLayers$Span;I)I"⟩, 6), (⟨"SpanLayers$Index", "countCovering", "(LSpanLayers$Span;)I"⟩, 2), (⟨"SpanLayers$Index", "countCovered", "(LSpanLayers$Span;)I"⟩, 2), (⟨"SpanLayers$Span", "lieAhead", "(LSpanLayers$Span;)I"⟩, 6), (⟨"SpanLayers", "countOpen", "()I"⟩, 12), (⟨"SpanLayers$Coverage", "sumOfPieces", "()I"⟩, 4), (⟨"SpanLayers$Coverage", "sumOfHoles", "()I"⟩, 4), (⟨"SpanLayers$Coverage", "greatestHole", "()I"⟩, 4), (⟨"SpanLayers$Index", "higherOf", "(III)I"⟩, 2), (⟨"SpanLayers$Condition", "readEither", "(LSpanLayers$Tape;LSpanLayers$Index;I)I"⟩, 0), (⟨"SpanLayers$Condition", "readBoth", "(LSpanLayers$Tape;LSpanLayers$Index;I)I"⟩, 0), (⟨"SpanLayers$Condition", "readFactor", "(LSpanLayers$Tape;LSpanLayers$Index;I)I"⟩, 0), (⟨"SpanLayers$Tape", "letter", "()I"⟩, 4), (⟨"SpanLayers$Condition", "readPlain", "(LSpanLayers$Tape;LSpanLayers$Index;I)I"⟩, 0), (⟨"SpanLayers$Tape", "isSame", "(ILjava/lang/String;II)Z"⟩, 4)]
theorem lw_r1 : ∀ q ∈ lw_privs_1, lw_okq q := List.forall_mem_cons.mpr ⟨lw_p0, List.forall_mem_cons.mpr ⟨lw_p1, List.forall_mem_cons.mpr ⟨lw_p2, List.forall_mem_cons.mpr ⟨lw_p3, List.forall_mem_cons.mpr ⟨lw_p4, List.forall_mem_cons.mpr ⟨lw_p5, List.forall_mem_cons.mpr ⟨lw_p6, List.forall_mem_cons.mpr ⟨lw_p7, List.forall_mem_cons.mpr ⟨lw_p8, List.forall_mem_cons.mpr ⟨lw_p9, List.forall_mem_cons.mpr ⟨lw_p10, List.forall_mem_cons.mpr ⟨lw_p11, List.forall_mem_cons.mpr ⟨lw_p12, List.forall_mem_cons.mpr ⟨lw_p13, List.forall_mem_cons.mpr ⟨lw_p14, List.forall_mem_cons.mpr ⟨lw_p15, fun _ h => absurd h List.not_mem_nil⟩⟩⟩⟩⟩⟩⟩⟩⟩⟩⟩⟩⟩⟩⟩⟩
theorem lw_p16 : lw_okq (⟨"SpanLayers$Change", "readStep", "(LSpanLayers$Tape;I)V"⟩, 4) := ⟨⟨by decide +kernel, by decide +kernel⟩, List.mem_of_getElem? (i := 174) (by decide +kernel), List.mem_of_getElem? (i := 785) (by decide +kernel), List.mem_of_getElem? (i := 786) (by decide +kernel)⟩
theorem lw_p17 : lw_okq (⟨"SpanLayers$Change", "changeOne", "(LSpanLayers$Span;)V"⟩, 4) := ⟨⟨by decide +kernel, by decide +kernel⟩, List.mem_of_getElem? (i := 174) (by decide +kernel), List.mem_of_getElem? (i := 805) (by decide +kernel), List.mem_of_getElem? (i := 806) (by decide +kernel)⟩
theorem lw_p18 : lw_okq (⟨"SpanLayers$Paper", "write", "(I)V"⟩, 2) := ⟨⟨by decide +kernel, by decide +kernel⟩, List.mem_of_getElem? (i := 212) (by decide +kernel), List.mem_of_getElem? (i := 852) (by decide +kernel), List.mem_of_getElem? (i := 853) (by decide +kernel)⟩
theorem lw_p19 : lw_okq (⟨"SpanLayers$Paper", "writePart", "(LSpanLayers$Span;)V"⟩, 2) := ⟨⟨by decide +kernel, by decide +kernel⟩, List.mem_of_getElem? (i := 212) (by decide +kernel), List.mem_of_getElem? (i := 856) (by decide +kernel), List.mem_of_getElem? (i := 857) (by decide +kernel)⟩
theorem lw_p20 : lw_okq (⟨"SpanLayers$Paper", "writeNumber", "(I)V"⟩, 2) := ⟨⟨by decide +kernel, by decide +kernel⟩, List.mem_of_getElem? (i := 212) (by decide +kernel), List.mem_of_getElem? (i := 860) (by decide +kernel), List.mem_of_getElem? (i := 861) (by decide +kernel)⟩
theorem lw_p21 : lw_okq (⟨"SpanLayersModel", "leastOut", "()I"⟩, 50) := ⟨⟨by decide +kernel, by decide +kernel⟩, List.mem_of_getElem? (i := 935) (by decide +kernel), List.mem_of_getElem? (i := 1106) (by decide +kernel), List.mem_of_getElem? (i := 1107) (by decide +kernel)⟩
theorem lw_p22 : lw_okq (⟨"SpanLayersModel", "comes", "(IIII)V"⟩, 50) := ⟨⟨by decide +kernel, by decide +kernel⟩, List.mem_of_getElem? (i := 935) (by decide +kernel), List.mem_of_getElem? (i := 1110) (by decide +kernel), List.mem_of_getElem? (i := 1111) (by decide +kernel)⟩
theorem lw_p23 : lw_okq (⟨"SpanLayersModel", "isHere", "(I)Z"⟩, 50) := ⟨⟨by decide +kernel, by decide +kernel⟩, List.mem_of_getElem? (i := 935) (by decide +kernel), List.mem_of_getElem? (i := 1126) (by decide +kernel), List.mem_of_getElem? (i := 1127) (by decide +kernel)⟩
theorem lw_p24 : lw_okq (⟨"SpanLayersModel", "manyIn", "()I"⟩, 50) := ⟨⟨by decide +kernel, by decide +kernel⟩, List.mem_of_getElem? (i := 935) (by decide +kernel), List.mem_of_getElem? (i := 1130) (by decide +kernel), List.mem_of_getElem? (i := 1131) (by decide +kernel)⟩
theorem lw_p25 : lw_okq (⟨"SpanLayersModel", "layLayers", "()V"⟩, 50) := ⟨⟨by decide +kernel, by decide +kernel⟩, List.mem_of_getElem? (i := 935) (by decide +kernel), List.mem_of_getElem? (i := 1139) (by decide +kernel), List.mem_of_getElem? (i := 1140) (by decide +kernel)⟩
theorem lw_p26 : lw_okq (⟨"SpanLayersModel", "covers", "(II)Z"⟩, 50) := ⟨⟨by decide +kernel, by decide +kernel⟩, List.mem_of_getElem? (i := 935) (by decide +kernel), List.mem_of_getElem? (i := 1143) (by decide +kernel), List.mem_of_getElem? (i := 1144) (by decide +kernel)⟩
theorem lw_p27 : lw_okq (⟨"SpanLayersModel", "lengthOf", "(I)I"⟩, 50) := ⟨⟨by decide +kernel, by decide +kernel⟩, List.mem_of_getElem? (i := 935) (by decide +kernel), List.mem_of_getElem? (i := 1147) (by decide +kernel), List.mem_of_getElem? (i := 1148) (by decide +kernel)⟩
theorem lw_p28 : lw_okq (⟨"SpanLayersModel", "countOf", "(II)I"⟩, 50) := ⟨⟨by decide +kernel, by decide +kernel⟩, List.mem_of_getElem? (i := 935) (by decide +kernel), List.mem_of_getElem? (i := 1151) (by decide +kernel), List.mem_of_getElem? (i := 1152) (by decide +kernel)⟩
theorem lw_p29 : lw_okq (⟨"SpanLayersModel", "meets", "(II)Z"⟩, 50) := ⟨⟨by decide +kernel, by decide +kernel⟩, List.mem_of_getElem? (i := 935) (by decide +kernel), List.mem_of_getElem? (i := 1155) (by decide +kernel), List.mem_of_getElem? (i := 1156) (by decide +kernel)⟩
theorem lw_p30 : lw_okq (⟨"SpanLayersModel", "howOf", "(II)I"⟩, 50) := ⟨⟨by decide +kernel, by decide +kernel⟩, List.mem_of_getElem? (i := 935) (by decide +kernel), List.mem_of_getElem? (i := 1163) (by decide +kernel), List.mem_of_getElem? (i := 1164) (by decide +kernel)⟩
theorem lw_p31 : lw_okq (⟨"SpanLayersModel", "plainHow", "(II)I"⟩, 50) := ⟨⟨by decide +kernel, by decide +kernel⟩, List.mem_of_getElem? (i := 935) (by decide +kernel), List.mem_of_getElem? (i := 1167) (by decide +kernel), List.mem_of_getElem? (i := 1168) (by decide +kernel)⟩
def lw_privs_2 : List (MethodName × Nat) := [(⟨"SpanLayers$Change", "readStep", "(LSpanLayers$Tape;I)V"⟩, 4), (⟨"SpanLayers$Change", "changeOne", "(LSpanLayers$Span;)V"⟩, 4), (⟨"SpanLayers$Paper", "write", "(I)V"⟩, 2), (⟨"SpanLayers$Paper", "writePart", "(LSpanLayers$Span;)V"⟩, 2), (⟨"SpanLayers$Paper", "writeNumber", "(I)V"⟩, 2), (⟨"SpanLayersModel", "leastOut", "()I"⟩, 50), (⟨"SpanLayersModel", "comes", "(IIII)V"⟩, 50), (⟨"SpanLayersModel", "isHere", "(I)Z"⟩, 50), (⟨"SpanLayersModel", "manyIn", "()I"⟩, 50), (⟨"SpanLayersModel", "layLayers", "()V"⟩, 50), (⟨"SpanLayersModel", "covers", "(II)Z"⟩, 50), (⟨"SpanLayersModel", "lengthOf", "(I)I"⟩, 50), (⟨"SpanLayersModel", "countOf", "(II)I"⟩, 50), (⟨"SpanLayersModel", "meets", "(II)Z"⟩, 50), (⟨"SpanLayersModel", "howOf", "(II)I"⟩, 50), (⟨"SpanLayersModel", "plainHow", "(II)I"⟩, 50)]
theorem lw_r2 : ∀ q ∈ lw_privs_2, lw_okq q := List.forall_mem_cons.mpr ⟨lw_p16, List.forall_mem_cons.mpr ⟨lw_p17, List.forall_mem_cons.mpr ⟨lw_p18, List.forall_mem_cons.mpr ⟨lw_p19, List.forall_mem_cons.mpr ⟨lw_p20, List.forall_mem_cons.mpr ⟨lw_p21, List.forall_mem_cons.mpr ⟨lw_p22, List.forall_mem_cons.mpr ⟨lw_p23, List.forall_mem_cons.mpr ⟨lw_p24, List.forall_mem_cons.mpr ⟨lw_p25, List.forall_mem_cons.mpr ⟨lw_p26, List.forall_mem_cons.mpr ⟨lw_p27, List.forall_mem_cons.mpr ⟨lw_p28, List.forall_mem_cons.mpr ⟨lw_p29, List.forall_mem_cons.mpr ⟨lw_p30, List.forall_mem_cons.mpr ⟨lw_p31, fun _ h => absurd h List.not_mem_nil⟩⟩⟩⟩⟩⟩⟩⟩⟩⟩⟩⟩⟩⟩⟩⟩
theorem lw_p32 : lw_okq (⟨"SpanLayersModel", "metBits", "(II)I"⟩, 50) := ⟨⟨by decide +kernel, by decide +kernel⟩, List.mem_of_getElem? (i := 935) (by decide +kernel), List.mem_of_getElem? (i := 1175) (by decide +kernel), List.mem_of_getElem? (i := 1176) (by decide +kernel)⟩
theorem lw_p33 : lw_okq (⟨"SpanLayersModel", "layOrder", "(I)V"⟩, 50) := ⟨⟨by decide +kernel, by decide +kernel⟩, List.mem_of_getElem? (i := 935) (by decide +kernel), List.mem_of_getElem? (i := 1183) (by decide +kernel), List.mem_of_getElem? (i := 1184) (by decide +kernel)⟩
theorem lw_p34 : lw_okq (⟨"SpanLayersModel", "aheadOf", "(II)I"⟩, 50) := ⟨⟨by decide +kernel, by decide +kernel⟩, List.mem_of_getElem? (i := 935) (by decide +kernel), List.mem_of_getElem? (i := 1187) (by decide +kernel), List.mem_of_getElem? (i := 1188) (by decide +kernel)⟩
theorem lw_p35 : lw_okq (⟨"SpanLayersModel", "isAhead", "(III)Z"⟩, 50) := ⟨⟨by decide +kernel, by decide +kernel⟩, List.mem_of_getElem? (i := 935) (by decide +kernel), List.mem_of_getElem? (i := 1191) (by decide +kernel), List.mem_of_getElem? (i := 1192) (by decide +kernel)⟩
theorem lw_p36 : lw_okq (⟨"SpanLayersModel", "first", "(II)I"⟩, 50) := ⟨⟨by decide +kernel, by decide +kernel⟩, List.mem_of_getElem? (i := 935) (by decide +kernel), List.mem_of_getElem? (i := 1195) (by decide +kernel), List.mem_of_getElem? (i := 1196) (by decide +kernel)⟩
theorem lw_p37 : lw_okq (⟨"SpanLayersModel", "second", "(II)I"⟩, 50) := ⟨⟨by decide +kernel, by decide +kernel⟩, List.mem_of_getElem? (i := 935) (by decide +kernel), List.mem_of_getElem? (i := 1202) (by decide +kernel), List.mem_of_getElem? (i := 1203) (by decide +kernel)⟩
theorem lw_p38 : lw_okq (⟨"SpanLayersModel", "has", "(II)Z"⟩, 50) := ⟨⟨by decide +kernel, by decide +kernel⟩, List.mem_of_getElem? (i := 935) (by decide +kernel), List.mem_of_getElem? (i := 1212) (by decide +kernel), List.mem_of_getElem? (i := 1213) (by decide +kernel)⟩
theorem lw_p39 : lw_okq (⟨"SpanLayersModel", "isPair", "(III)Z"⟩, 50) := ⟨⟨by decide +kernel, by decide +kernel⟩, List.mem_of_getElem? (i := 935) (by decide +kernel), List.mem_of_getElem? (i := 1225) (by decide +kernel), List.mem_of_getElem? (i := 1226) (by decide +kernel)⟩
theorem lw_p40 : lw_okq (⟨"SpanLayersModel", "opens", "()I"⟩, 50) := ⟨⟨by decide +kernel, by decide +kernel⟩, List.mem_of_getElem? (i := 935) (by decide +kernel), List.mem_of_getElem? (i := 1247) (by decide +kernel), List.mem_of_getElem? (i := 1248) (by decide +kernel)⟩
theorem lw_p41 : lw_okq (⟨"SpanLayersModel", "isBehindTold", "(II)Z"⟩, 50) := ⟨⟨by decide +kernel, by decide +kernel⟩, List.mem_of_getElem? (i := 935) (by decide +kernel), List.mem_of_getElem? (i := 1259) (by decide +kernel), List.mem_of_getElem? (i := 1260) (by decide +kernel)⟩
theorem lw_p42 : lw_okq (⟨"SpanLayersModel", "layRuns", "(Z)V"⟩, 50) := ⟨⟨by decide +kernel, by decide +kernel⟩, List.mem_of_getElem? (i := 935) (by decide +kernel), List.mem_of_getElem? (i := 1271) (by decide +kernel), List.mem_of_getElem? (i := 1272) (by decide +kernel)⟩
theorem lw_p43 : lw_okq (⟨"SpanLayersModel", "layDepths", "()V"⟩, 50) := ⟨⟨by decide +kernel, by decide +kernel⟩, List.mem_of_getElem? (i := 935) (by decide +kernel), List.mem_of_getElem? (i := 1275) (by decide +kernel), List.mem_of_getElem? (i := 1276) (by decide +kernel)⟩
theorem lw_p44 : lw_okq (⟨"SpanLayersModel", "greatestHigh", "()I"⟩, 50) := ⟨⟨by decide +kernel, by decide +kernel⟩, List.mem_of_getElem? (i := 935) (by decide +kernel), List.mem_of_getElem? (i := 1279) (by decide +kernel), List.mem_of_getElem? (i := 1280) (by decide +kernel)⟩
theorem lw_p45 : lw_okq (⟨"SpanLayersModel", "leastLow", "()I"⟩, 50) := ⟨⟨by decide +kernel, by decide +kernel⟩, List.mem_of_getElem? (i := 935) (by decide +kernel), List.mem_of_getElem? (i := 1283) (by decide +kernel), List.mem_of_getElem? (i := 1284) (by decide +kernel)⟩
theorem lw_p46 : lw_okq (⟨"SpanLayersModel", "runPlaces", "()I"⟩, 50) := ⟨⟨by decide +kernel, by decide +kernel⟩, List.mem_of_getElem? (i := 935) (by decide +kernel), List.mem_of_getElem? (i := 1287) (by decide +kernel), List.mem_of_getElem? (i := 1288) (by decide +kernel)⟩
theorem lw_p47 : lw_okq (⟨"SpanLayersModel", "greatestRun", "()I"⟩, 50) := ⟨⟨by decide +kernel, by decide +kernel⟩, List.mem_of_getElem? (i := 935) (by decide +kernel), List.mem_of_getElem? (i := 1291) (by decide +kernel), List.mem_of_getElem? (i := 1292) (by decide +kernel)⟩
def lw_privs_3 : List (MethodName × Nat) := [(⟨"SpanLayersModel", "metBits", "(II)I"⟩, 50), (⟨"SpanLayersModel", "layOrder", "(I)V"⟩, 50), (⟨"SpanLayersModel", "aheadOf", "(II)I"⟩, 50), (⟨"SpanLayersModel", "isAhead", "(III)Z"⟩, 50), (⟨"SpanLayersModel", "first", "(II)I"⟩, 50), (⟨"SpanLayersModel", "second", "(II)I"⟩, 50), (⟨"SpanLayersModel", "has", "(II)Z"⟩, 50), (⟨"SpanLayersModel", "isPair", "(III)Z"⟩, 50), (⟨"SpanLayersModel", "opens", "()I"⟩, 50), (⟨"SpanLayersModel", "isBehindTold", "(II)Z"⟩, 50), (⟨"SpanLayersModel", "layRuns", "(Z)V"⟩, 50), (⟨"SpanLayersModel", "layDepths", "()V"⟩, 50), (⟨"SpanLayersModel", "greatestHigh", "()I"⟩, 50), (⟨"SpanLayersModel", "leastLow", "()I"⟩, 50), (⟨"SpanLayersModel", "runPlaces", "()I"⟩, 50), (⟨"SpanLayersModel", "greatestRun", "()I"⟩, 50)]
theorem lw_r3 : ∀ q ∈ lw_privs_3, lw_okq q := List.forall_mem_cons.mpr ⟨lw_p32, List.forall_mem_cons.mpr ⟨lw_p33, List.forall_mem_cons.mpr ⟨lw_p34, List.forall_mem_cons.mpr ⟨lw_p35, List.forall_mem_cons.mpr ⟨lw_p36, List.forall_mem_cons.mpr ⟨lw_p37, List.forall_mem_cons.mpr ⟨lw_p38, List.forall_mem_cons.mpr ⟨lw_p39, List.forall_mem_cons.mpr ⟨lw_p40, List.forall_mem_cons.mpr ⟨lw_p41, List.forall_mem_cons.mpr ⟨lw_p42, List.forall_mem_cons.mpr ⟨lw_p43, List.forall_mem_cons.mpr ⟨lw_p44, List.forall_mem_cons.mpr ⟨lw_p45, List.forall_mem_cons.mpr ⟨lw_p46, List.forall_mem_cons.mpr ⟨lw_p47, fun _ h => absurd h List.not_mem_nil⟩⟩⟩⟩⟩⟩⟩⟩⟩⟩⟩⟩⟩⟩⟩⟩
theorem lw_p48 : lw_okq (⟨"SpanLayersModel", "onesOf", "(I)I"⟩, 50) := ⟨⟨by decide +kernel, by decide +kernel⟩, List.mem_of_getElem? (i := 935) (by decide +kernel), List.mem_of_getElem? (i := 1299) (by decide +kernel), List.mem_of_getElem? (i := 1300) (by decide +kernel)⟩
theorem lw_p49 : lw_okq (⟨"SpanLayersModel", "deepestOf", "(I)I"⟩, 50) := ⟨⟨by decide +kernel, by decide +kernel⟩, List.mem_of_getElem? (i := 935) (by decide +kernel), List.mem_of_getElem? (i := 1316) (by decide +kernel), List.mem_of_getElem? (i := 1317) (by decide +kernel)⟩
theorem lw_p50 : lw_okq (⟨"SpanLayersModel", "numberAt", "(II)I"⟩, 50) := ⟨⟨by decide +kernel, by decide +kernel⟩, List.mem_of_getElem? (i := 935) (by decide +kernel), List.mem_of_getElem? (i := 1320) (by decide +kernel), List.mem_of_getElem? (i := 1321) (by decide +kernel)⟩
theorem lw_p51 : lw_okq (⟨"SpanLayersModel", "layTaken", "()V"⟩, 50) := ⟨⟨by decide +kernel, by decide +kernel⟩, List.mem_of_getElem? (i := 935) (by decide +kernel), List.mem_of_getElem? (i := 1328) (by decide +kernel), List.mem_of_getElem? (i := 1329) (by decide +kernel)⟩
theorem lw_p52 : lw_okq (⟨"SpanLayersModel", "groupOf", "(I)I"⟩, 50) := ⟨⟨by decide +kernel, by decide +kernel⟩, List.mem_of_getElem? (i := 935) (by decide +kernel), List.mem_of_getElem? (i := 1344) (by decide +kernel), List.mem_of_getElem? (i := 1345) (by decide +kernel)⟩
theorem lw_p53 : lw_okq (⟨"SpanLayersModel", "groupBits", "(I)I"⟩, 50) := ⟨⟨by decide +kernel, by decide +kernel⟩, List.mem_of_getElem? (i := 935) (by decide +kernel), List.mem_of_getElem? (i := 1348) (by decide +kernel), List.mem_of_getElem? (i := 1349) (by decide +kernel)⟩
theorem lw_p54 : lw_okq (⟨"SpanLayersModel", "weightOf", "(I)I"⟩, 50) := ⟨⟨by decide +kernel, by decide +kernel⟩, List.mem_of_getElem? (i := 935) (by decide +kernel), List.mem_of_getElem? (i := 1352) (by decide +kernel), List.mem_of_getElem? (i := 1353) (by decide +kernel)⟩
theorem lw_p55 : lw_okq (⟨"SpanLayersModel", "readCondition", "()I"⟩, 50) := ⟨⟨by decide +kernel, by decide +kernel⟩, List.mem_of_getElem? (i := 935) (by decide +kernel), List.mem_of_getElem? (i := 1369) (by decide +kernel), List.mem_of_getElem? (i := 1370) (by decide +kernel)⟩
theorem lw_p56 : lw_okq (⟨"SpanLayersModel", "readFactor", "()V"⟩, 50) := ⟨⟨by decide +kernel, by decide +kernel⟩, List.mem_of_getElem? (i := 935) (by decide +kernel), List.mem_of_getElem? (i := 1373) (by decide +kernel), List.mem_of_getElem? (i := 1374) (by decide +kernel)⟩
theorem lw_p57 : lw_okq (⟨"SpanLayersModel", "here", "()I"⟩, 50) := ⟨⟨by decide +kernel, by decide +kernel⟩, List.mem_of_getElem? (i := 935) (by decide +kernel), List.mem_of_getElem? (i := 1377) (by decide +kernel), List.mem_of_getElem? (i := 1378) (by decide +kernel)⟩
theorem lw_p58 : lw_okq (⟨"SpanLayersModel", "waitFor", "(I)V"⟩, 50) := ⟨⟨by decide +kernel, by decide +kernel⟩, List.mem_of_getElem? (i := 935) (by decide +kernel), List.mem_of_getElem? (i := 1381) (by decide +kernel), List.mem_of_getElem? (i := 1382) (by decide +kernel)⟩
theorem lw_p59 : lw_okq (⟨"SpanLayersModel", "readTest", "()V"⟩, 50) := ⟨⟨by decide +kernel, by decide +kernel⟩, List.mem_of_getElem? (i := 935) (by decide +kernel), List.mem_of_getElem? (i := 1385) (by decide +kernel), List.mem_of_getElem? (i := 1386) (by decide +kernel)⟩
theorem lw_p60 : lw_okq (⟨"SpanLayersModel", "testWordHere", "()I"⟩, 50) := ⟨⟨by decide +kernel, by decide +kernel⟩, List.mem_of_getElem? (i := 935) (by decide +kernel), List.mem_of_getElem? (i := 1389) (by decide +kernel), List.mem_of_getElem? (i := 1390) (by decide +kernel)⟩
theorem lw_p61 : lw_okq (⟨"SpanLayersModel", "wordHere", "()J"⟩, 50) := ⟨⟨by decide +kernel, by decide +kernel⟩, List.mem_of_getElem? (i := 935) (by decide +kernel), List.mem_of_getElem? (i := 1393) (by decide +kernel), List.mem_of_getElem? (i := 1394) (by decide +kernel)⟩
theorem lw_p62 : lw_okq (⟨"SpanLayersModel", "passWord", "()V"⟩, 50) := ⟨⟨by decide +kernel, by decide +kernel⟩, List.mem_of_getElem? (i := 935) (by decide +kernel), List.mem_of_getElem? (i := 1404) (by decide +kernel), List.mem_of_getElem? (i := 1405) (by decide +kernel)⟩
theorem lw_p63 : lw_okq (⟨"SpanLayersModel", "readSigned", "(I)I"⟩, 50) := ⟨⟨by decide +kernel, by decide +kernel⟩, List.mem_of_getElem? (i := 935) (by decide +kernel), List.mem_of_getElem? (i := 1408) (by decide +kernel), List.mem_of_getElem? (i := 1409) (by decide +kernel)⟩
def lw_privs_4 : List (MethodName × Nat) := [(⟨"SpanLayersModel", "onesOf", "(I)I"⟩, 50), (⟨"SpanLayersModel", "deepestOf", "(I)I"⟩, 50), (⟨"SpanLayersModel", "numberAt", "(II)I"⟩, 50), (⟨"SpanLayersModel", "layTaken", "()V"⟩, 50), (⟨"SpanLayersModel", "groupOf", "(I)I"⟩, 50), (⟨"SpanLayersModel", "groupBits", "(I)I"⟩, 50), (⟨"SpanLayersModel", "weightOf", "(I)I"⟩, 50), (⟨"SpanLayersModel", "readCondition", "()I"⟩, 50), (⟨"SpanLayersModel", "readFactor", "()V"⟩, 50), (⟨"SpanLayersModel", "here", "()I"⟩, 50), (⟨"SpanLayersModel", "waitFor", "(I)V"⟩, 50), (⟨"SpanLayersModel", "readTest", "()V"⟩, 50), (⟨"SpanLayersModel", "testWordHere", "()I"⟩, 50), (⟨"SpanLayersModel", "wordHere", "()J"⟩, 50), (⟨"SpanLayersModel", "passWord", "()V"⟩, 50), (⟨"SpanLayersModel", "readSigned", "(I)I"⟩, 50)]
theorem lw_r4 : ∀ q ∈ lw_privs_4, lw_okq q := List.forall_mem_cons.mpr ⟨lw_p48, List.forall_mem_cons.mpr ⟨lw_p49, List.forall_mem_cons.mpr ⟨lw_p50, List.forall_mem_cons.mpr ⟨lw_p51, List.forall_mem_cons.mpr ⟨lw_p52, List.forall_mem_cons.mpr ⟨lw_p53, List.forall_mem_cons.mpr ⟨lw_p54, List.forall_mem_cons.mpr ⟨lw_p55, List.forall_mem_cons.mpr ⟨lw_p56, List.forall_mem_cons.mpr ⟨lw_p57, List.forall_mem_cons.mpr ⟨lw_p58, List.forall_mem_cons.mpr ⟨lw_p59, List.forall_mem_cons.mpr ⟨lw_p60, List.forall_mem_cons.mpr ⟨lw_p61, List.forall_mem_cons.mpr ⟨lw_p62, List.forall_mem_cons.mpr ⟨lw_p63, fun _ h => absurd h List.not_mem_nil⟩⟩⟩⟩⟩⟩⟩⟩⟩⟩⟩⟩⟩⟩⟩⟩
theorem lw_p64 : lw_okq (⟨"SpanLayersModel", "goesOn", "(I)Z"⟩, 50) := ⟨⟨by decide +kernel, by decide +kernel⟩, List.mem_of_getElem? (i := 935) (by decide +kernel), List.mem_of_getElem? (i := 1412) (by decide +kernel), List.mem_of_getElem? (i := 1413) (by decide +kernel)⟩
theorem lw_p65 : lw_okq (⟨"SpanLayersModel", "readFigures", "(I)I"⟩, 50) := ⟨⟨by decide +kernel, by decide +kernel⟩, List.mem_of_getElem? (i := 935) (by decide +kernel), List.mem_of_getElem? (i := 1416) (by decide +kernel), List.mem_of_getElem? (i := 1417) (by decide +kernel)⟩
theorem lw_p66 : lw_okq (⟨"SpanLayersModel", "doneIs", "(I)V"⟩, 50) := ⟨⟨by decide +kernel, by decide +kernel⟩, List.mem_of_getElem? (i := 935) (by decide +kernel), List.mem_of_getElem? (i := 1422) (by decide +kernel), List.mem_of_getElem? (i := 1423) (by decide +kernel)⟩
theorem lw_p67 : lw_okq (⟨"SpanLayersModel", "readsOn", "()Z"⟩, 50) := ⟨⟨by decide +kernel, by decide +kernel⟩, List.mem_of_getElem? (i := 935) (by decide +kernel), List.mem_of_getElem? (i := 1426) (by decide +kernel), List.mem_of_getElem? (i := 1427) (by decide +kernel)⟩
theorem lw_p68 : lw_okq (⟨"SpanLayersModel", "popsWhile", "(II)V"⟩, 50) := ⟨⟨by decide +kernel, by decide +kernel⟩, List.mem_of_getElem? (i := 935) (by decide +kernel), List.mem_of_getElem? (i := 1430) (by decide +kernel), List.mem_of_getElem? (i := 1431) (by decide +kernel)⟩
theorem lw_p69 : lw_okq (⟨"SpanLayersModel", "heldBits", "()I"⟩, 50) := ⟨⟨by decide +kernel, by decide +kernel⟩, List.mem_of_getElem? (i := 935) (by decide +kernel), List.mem_of_getElem? (i := 1434) (by decide +kernel), List.mem_of_getElem? (i := 1435) (by decide +kernel)⟩
theorem lw_p70 : lw_okq (⟨"SpanLayersModel", "holds", "(I)Z"⟩, 50) := ⟨⟨by decide +kernel, by decide +kernel⟩, List.mem_of_getElem? (i := 935) (by decide +kernel), List.mem_of_getElem? (i := 1438) (by decide +kernel), List.mem_of_getElem? (i := 1439) (by decide +kernel)⟩
theorem lw_p71 : lw_okq (⟨"SpanLayersModel", "isTest", "(II)Z"⟩, 50) := ⟨⟨by decide +kernel, by decide +kernel⟩, List.mem_of_getElem? (i := 935) (by decide +kernel), List.mem_of_getElem? (i := 1442) (by decide +kernel), List.mem_of_getElem? (i := 1443) (by decide +kernel)⟩
theorem lw_p72 : lw_okq (⟨"SpanLayersModel", "numberOf", "(II)I"⟩, 50) := ⟨⟨by decide +kernel, by decide +kernel⟩, List.mem_of_getElem? (i := 935) (by decide +kernel), List.mem_of_getElem? (i := 1446) (by decide +kernel), List.mem_of_getElem? (i := 1447) (by decide +kernel)⟩
theorem lw_p73 : lw_okq (⟨"SpanLayersModel", "readChange", "()I"⟩, 50) := ⟨⟨by decide +kernel, by decide +kernel⟩, List.mem_of_getElem? (i := 935) (by decide +kernel), List.mem_of_getElem? (i := 1462) (by decide +kernel), List.mem_of_getElem? (i := 1463) (by decide +kernel)⟩
theorem lw_p74 : lw_okq (⟨"SpanLayersModel", "readStep", "()V"⟩, 50) := ⟨⟨by decide +kernel, by decide +kernel⟩, List.mem_of_getElem? (i := 935) (by decide +kernel), List.mem_of_getElem? (i := 1466) (by decide +kernel), List.mem_of_getElem? (i := 1467) (by decide +kernel)⟩
theorem lw_p75 : lw_okq (⟨"SpanLayersModel", "stepWordHere", "()I"⟩, 50) := ⟨⟨by decide +kernel, by decide +kernel⟩, List.mem_of_getElem? (i := 935) (by decide +kernel), List.mem_of_getElem? (i := 1470) (by decide +kernel), List.mem_of_getElem? (i := 1471) (by decide +kernel)⟩
theorem lw_p76 : lw_okq (⟨"SpanLayersModel", "wants", "(I)V"⟩, 50) := ⟨⟨by decide +kernel, by decide +kernel⟩, List.mem_of_getElem? (i := 935) (by decide +kernel), List.mem_of_getElem? (i := 1474) (by decide +kernel), List.mem_of_getElem? (i := 1475) (by decide +kernel)⟩
theorem lw_p77 : lw_okq (⟨"SpanLayersModel", "readNotLess", "(I)I"⟩, 50) := ⟨⟨by decide +kernel, by decide +kernel⟩, List.mem_of_getElem? (i := 935) (by decide +kernel), List.mem_of_getElem? (i := 1478) (by decide +kernel), List.mem_of_getElem? (i := 1479) (by decide +kernel)⟩
theorem lw_p78 : lw_okq (⟨"SpanLayersModel", "changes", "(I)V"⟩, 50) := ⟨⟨by decide +kernel, by decide +kernel⟩, List.mem_of_getElem? (i := 935) (by decide +kernel), List.mem_of_getElem? (i := 1482) (by decide +kernel), List.mem_of_getElem? (i := 1483) (by decide +kernel)⟩
theorem lw_p79 : lw_okq (⟨"SpanLayersModel", "doesStep", "(I)V"⟩, 50) := ⟨⟨by decide +kernel, by decide +kernel⟩, List.mem_of_getElem? (i := 935) (by decide +kernel), List.mem_of_getElem? (i := 1486) (by decide +kernel), List.mem_of_getElem? (i := 1487) (by decide +kernel)⟩
def lw_privs_5 : List (MethodName × Nat) := [(⟨"SpanLayersModel", "goesOn", "(I)Z"⟩, 50), (⟨"SpanLayersModel", "readFigures", "(I)I"⟩, 50), (⟨"SpanLayersModel", "doneIs", "(I)V"⟩, 50), (⟨"SpanLayersModel", "readsOn", "()Z"⟩, 50), (⟨"SpanLayersModel", "popsWhile", "(II)V"⟩, 50), (⟨"SpanLayersModel", "heldBits", "()I"⟩, 50), (⟨"SpanLayersModel", "holds", "(I)Z"⟩, 50), (⟨"SpanLayersModel", "isTest", "(II)Z"⟩, 50), (⟨"SpanLayersModel", "numberOf", "(II)I"⟩, 50), (⟨"SpanLayersModel", "readChange", "()I"⟩, 50), (⟨"SpanLayersModel", "readStep", "()V"⟩, 50), (⟨"SpanLayersModel", "stepWordHere", "()I"⟩, 50), (⟨"SpanLayersModel", "wants", "(I)V"⟩, 50), (⟨"SpanLayersModel", "readNotLess", "(I)I"⟩, 50), (⟨"SpanLayersModel", "changes", "(I)V"⟩, 50), (⟨"SpanLayersModel", "doesStep", "(I)V"⟩, 50)]
theorem lw_r5 : ∀ q ∈ lw_privs_5, lw_okq q := List.forall_mem_cons.mpr ⟨lw_p64, List.forall_mem_cons.mpr ⟨lw_p65, List.forall_mem_cons.mpr ⟨lw_p66, List.forall_mem_cons.mpr ⟨lw_p67, List.forall_mem_cons.mpr ⟨lw_p68, List.forall_mem_cons.mpr ⟨lw_p69, List.forall_mem_cons.mpr ⟨lw_p70, List.forall_mem_cons.mpr ⟨lw_p71, List.forall_mem_cons.mpr ⟨lw_p72, List.forall_mem_cons.mpr ⟨lw_p73, List.forall_mem_cons.mpr ⟨lw_p74, List.forall_mem_cons.mpr ⟨lw_p75, List.forall_mem_cons.mpr ⟨lw_p76, List.forall_mem_cons.mpr ⟨lw_p77, List.forall_mem_cons.mpr ⟨lw_p78, List.forall_mem_cons.mpr ⟨lw_p79, fun _ h => absurd h List.not_mem_nil⟩⟩⟩⟩⟩⟩⟩⟩⟩⟩⟩⟩⟩⟩⟩⟩
theorem lw_p80 : lw_okq (⟨"SpanLayersModel", "readPart", "()V"⟩, 50) := ⟨⟨by decide +kernel, by decide +kernel⟩, List.mem_of_getElem? (i := 935) (by decide +kernel), List.mem_of_getElem? (i := 1497) (by decide +kernel), List.mem_of_getElem? (i := 1498) (by decide +kernel)⟩
theorem lw_p81 : lw_okq (⟨"SpanLayersModel", "writes", "(I)V"⟩, 50) := ⟨⟨by decide +kernel, by decide +kernel⟩, List.mem_of_getElem? (i := 935) (by decide +kernel), List.mem_of_getElem? (i := 1505) (by decide +kernel), List.mem_of_getElem? (i := 1506) (by decide +kernel)⟩
theorem lw_p82 : lw_okq (⟨"SpanLayersModel", "writesNumber", "(I)V"⟩, 50) := ⟨⟨by decide +kernel, by decide +kernel⟩, List.mem_of_getElem? (i := 935) (by decide +kernel), List.mem_of_getElem? (i := 1509) (by decide +kernel), List.mem_of_getElem? (i := 1510) (by decide +kernel)⟩
theorem lw_p83 : lw_okq (⟨"SpanLayersModel", "layerMany", "()I"⟩, 50) := ⟨⟨by decide +kernel, by decide +kernel⟩, List.mem_of_getElem? (i := 935) (by decide +kernel), List.mem_of_getElem? (i := 1521) (by decide +kernel), List.mem_of_getElem? (i := 1522) (by decide +kernel)⟩
theorem lw_p84 : lw_okq (⟨"SpanLayersModel", "sumOf", "(Z)I"⟩, 50) := ⟨⟨by decide +kernel, by decide +kernel⟩, List.mem_of_getElem? (i := 935) (by decide +kernel), List.mem_of_getElem? (i := 1525) (by decide +kernel), List.mem_of_getElem? (i := 1526) (by decide +kernel)⟩
def lw_privs_6 : List (MethodName × Nat) := [(⟨"SpanLayersModel", "readPart", "()V"⟩, 50), (⟨"SpanLayersModel", "writes", "(I)V"⟩, 50), (⟨"SpanLayersModel", "writesNumber", "(I)V"⟩, 50), (⟨"SpanLayersModel", "layerMany", "()I"⟩, 50), (⟨"SpanLayersModel", "sumOf", "(Z)I"⟩, 50)]
theorem lw_r6 : ∀ q ∈ lw_privs_6, lw_okq q := List.forall_mem_cons.mpr ⟨lw_p80, List.forall_mem_cons.mpr ⟨lw_p81, List.forall_mem_cons.mpr ⟨lw_p82, List.forall_mem_cons.mpr ⟨lw_p83, List.forall_mem_cons.mpr ⟨lw_p84, fun _ h => absurd h List.not_mem_nil⟩⟩⟩⟩⟩
def lw_privs : List (MethodName × Nat) := lw_privs_1 ++ (lw_privs_2 ++ (lw_privs_3 ++ (lw_privs_4 ++ (lw_privs_5 ++ (lw_privs_6)))))
def lw_tbl : List Cond := k2_sels lw_privs ++ tables_1
theorem lw_privs_ok : ∀ q ∈ lw_privs, lw_okq q := by
  show ∀ q ∈ lw_privs_1 ++ (lw_privs_2 ++ (lw_privs_3 ++ (lw_privs_4 ++ (lw_privs_5 ++ (lw_privs_6))))), lw_okq q
  exact List.forall_mem_append.mpr ⟨lw_r1, List.forall_mem_append.mpr ⟨lw_r2, List.forall_mem_append.mpr ⟨lw_r3, List.forall_mem_append.mpr ⟨lw_r4, List.forall_mem_append.mpr ⟨lw_r5, lw_r6⟩⟩⟩⟩⟩
-- ===== end of PART A; then your names; then what follows =====
end
section
/-! classes and their fields, cells by kinds (printed by wip/whole/gen/names.py) -/
def sl_T0 : List Cond := lw_tbl.filter goodWord
theorem sl_in1 {w : Cond} (i : Nat) (h : lw_tbl[i]? = some w) (hg : goodWord w = true) : w ∈ sl_T0 := List.mem_filter.mpr ⟨List.mem_of_getElem? h, hg⟩
theorem sl_inL {ws : List Cond} (ps : List Nat) (h : ws = ps.filterMap (fun i => lw_tbl[i]?)) (hg : ws.all goodWord = true) : ∀ w ∈ ws, w ∈ sl_T0 := by
  intro w hw
  have hg1 := List.all_eq_true.mp hg w hw
  rw [h] at hw
  obtain ⟨i, -, hi⟩ := List.mem_filterMap.mp hw
  exact sl_in1 i hi hg1
theorem sl_T0_good {w : Cond} (h : w ∈ sl_T0) : goodWord w = true := (List.mem_filter.mp h).2
theorem sl_T0_tbl {w : Cond} (h : w ∈ sl_T0) : w ∈ lw_tbl := (List.mem_filter.mp h).1
def sl_R0 : String := "SpanLayers$Change"
def sl_F0 : u_T := fun k => match k with
  | 0 => ("SpanLayers$Change", "kinds", "[I", true)
  | 1 => ("SpanLayers$Change", "firsts", "[I", true)
  | 2 => ("SpanLayers$Change", "seconds", "[I", true)
  | _ => ("SpanLayers$Change", "count", "I", false)
def sl_t0 : Nat → FieldType := fun k => match k with
  | 0 => .array .int
  | 1 => .array .int
  | 2 => .array .int
  | _ => .int
theorem sl_nm0 : ∀ a, a < 4 → ∀ b, b < 4 → a ≠ b → (sl_F0 a).2.1 ≠ (sl_F0 b).2.1 := by decide +kernel
theorem sl_ty0 : ∀ k, k < 4 → parseFieldDescriptor (sl_F0 k).2.2.1 = some (sl_t0 k) := by decide +kernel
theorem sl_i0 : ∀ w ∈ u_ws sl_R0 sl_F0 4, w ∈ sl_T0 := sl_inL [268, 270, 272, 274] (by decide +kernel) (by decide +kernel)
def sl_R1 : String := "SpanLayers$Choice"
def sl_F1 : u_T := fun k => match k with
  | 0 => ("SpanLayers$Choice", "numbers", "[I", true)
  | 1 => ("SpanLayers$Choice", "highs", "[I", true)
  | 2 => ("SpanLayers$Choice", "count", "I", false)
  | _ => ("SpanLayers$Choice", "best", "[I", true)
def sl_t1 : Nat → FieldType := fun k => match k with
  | 0 => .array .int
  | 1 => .array .int
  | 2 => .int
  | _ => .array .int
theorem sl_nm1 : ∀ a, a < 4 → ∀ b, b < 4 → a ≠ b → (sl_F1 a).2.1 ≠ (sl_F1 b).2.1 := by decide +kernel
theorem sl_ty1 : ∀ k, k < 4 → parseFieldDescriptor (sl_F1 k).2.2.1 = some (sl_t1 k) := by decide +kernel
theorem sl_i1 : ∀ w ∈ u_ws sl_R1 sl_F1 4, w ∈ sl_T0 := sl_inL [219, 221, 223, 225] (by decide +kernel) (by decide +kernel)
def sl_R2 : String := "SpanLayers$Condition"
def sl_F2 : u_T := fun k => match k with
  | _ => ("", "", "", false)
def sl_t2 : Nat → FieldType := fun k => match k with
  | _ => .int
theorem sl_nm2 : ∀ a, a < 0 → ∀ b, b < 0 → a ≠ b → (sl_F2 a).2.1 ≠ (sl_F2 b).2.1 := by decide +kernel
theorem sl_ty2 : ∀ k, k < 0 → parseFieldDescriptor (sl_F2 k).2.2.1 = some (sl_t2 k) := by decide +kernel
theorem sl_i2 : ∀ w ∈ u_ws sl_R2 sl_F2 0, w ∈ sl_T0 := sl_inL [] (by decide +kernel) (by decide +kernel)
def sl_R3 : String := "SpanLayers$Coverage"
def sl_F3 : u_T := fun k => match k with
  | 0 => ("SpanLayers$Coverage", "first", "[I", true)
  | 1 => ("SpanLayers$Coverage", "last", "[I", true)
  | 2 => ("SpanLayers$Coverage", "spans", "[I", true)
  | _ => ("SpanLayers$Coverage", "pieces", "I", false)
def sl_t3 : Nat → FieldType := fun k => match k with
  | 0 => .array .int
  | 1 => .array .int
  | 2 => .array .int
  | _ => .int
theorem sl_nm3 : ∀ a, a < 4 → ∀ b, b < 4 → a ≠ b → (sl_F3 a).2.1 ≠ (sl_F3 b).2.1 := by decide +kernel
theorem sl_ty3 : ∀ k, k < 4 → parseFieldDescriptor (sl_F3 k).2.2.1 = some (sl_t3 k) := by decide +kernel
theorem sl_i3 : ∀ w ∈ u_ws sl_R3 sl_F3 4, w ∈ sl_T0 := sl_inL [196, 198, 200, 202] (by decide +kernel) (by decide +kernel)
def sl_R4 : String := "SpanLayers$Cursor"
def sl_F4 : u_T := fun k => match k with
  | 0 => ("SpanLayers$Cursor", "isOpen", "Z", false)
  | 1 => ("SpanLayers$Cursor", "order", "I", false)
  | 2 => ("SpanLayers$Cursor", "hasTold", "Z", false)
  | _ => ("SpanLayers$Cursor", "last", "LSpanLayers$Span;", true)
def sl_t4 : Nat → FieldType := fun k => match k with
  | 0 => .boolean
  | 1 => .int
  | 2 => .boolean
  | _ => .object "SpanLayers$Span"
theorem sl_nm4 : ∀ a, a < 4 → ∀ b, b < 4 → a ≠ b → (sl_F4 a).2.1 ≠ (sl_F4 b).2.1 := by decide +kernel
theorem sl_ty4 : ∀ k, k < 4 → parseFieldDescriptor (sl_F4 k).2.2.1 = some (sl_t4 k) := by decide +kernel
theorem sl_i4 : ∀ w ∈ u_ws sl_R4 sl_F4 4, w ∈ sl_T0 := sl_inL [330, 332, 334, 336] (by decide +kernel) (by decide +kernel)
def sl_R5 : String := "SpanLayers$Index"
def sl_F5 : u_T := fun k => match k with
  | 0 => ("SpanLayers$Index", "spans", "[LSpanLayers$Span;", true)
  | _ => ("SpanLayers$Index", "sorted", "[LSpanLayers$Span;", true)
def sl_t5 : Nat → FieldType := fun k => match k with
  | 0 => .array (.object "SpanLayers$Span")
  | _ => .array (.object "SpanLayers$Span")
theorem sl_nm5 : ∀ a, a < 2 → ∀ b, b < 2 → a ≠ b → (sl_F5 a).2.1 ≠ (sl_F5 b).2.1 := by decide +kernel
theorem sl_ty5 : ∀ k, k < 2 → parseFieldDescriptor (sl_F5 k).2.2.1 = some (sl_t5 k) := by decide +kernel
theorem sl_i5 : ∀ w ∈ u_ws sl_R5 sl_F5 2, w ∈ sl_T0 := sl_inL [177, 179] (by decide +kernel) (by decide +kernel)
def sl_R6 : String := "SpanLayers$Paper"
def sl_F6 : u_T := fun k => match k with
  | 0 => ("SpanLayers$Paper", "bytes", "[I", true)
  | _ => ("SpanLayers$Paper", "used", "I", false)
def sl_t6 : Nat → FieldType := fun k => match k with
  | 0 => .array .int
  | _ => .int
theorem sl_nm6 : ∀ a, a < 2 → ∀ b, b < 2 → a ≠ b → (sl_F6 a).2.1 ≠ (sl_F6 b).2.1 := by decide +kernel
theorem sl_ty6 : ∀ k, k < 2 → parseFieldDescriptor (sl_F6 k).2.2.1 = some (sl_t6 k) := by decide +kernel
theorem sl_i6 : ∀ w ∈ u_ws sl_R6 sl_F6 2, w ∈ sl_T0 := sl_inL [306, 308] (by decide +kernel) (by decide +kernel)
def sl_R7 : String := "SpanLayers$Parts"
def sl_F7 : u_T := fun k => match k with
  | 0 => ("SpanLayers$Parts", "lows", "[I", true)
  | 1 => ("SpanLayers$Parts", "highs", "[I", true)
  | 2 => ("SpanLayers$Parts", "weights", "[I", true)
  | _ => ("SpanLayers$Parts", "count", "I", false)
def sl_t7 : Nat → FieldType := fun k => match k with
  | 0 => .array .int
  | 1 => .array .int
  | 2 => .array .int
  | _ => .int
theorem sl_nm7 : ∀ a, a < 4 → ∀ b, b < 4 → a ≠ b → (sl_F7 a).2.1 ≠ (sl_F7 b).2.1 := by decide +kernel
theorem sl_ty7 : ∀ k, k < 4 → parseFieldDescriptor (sl_F7 k).2.2.1 = some (sl_t7 k) := by decide +kernel
theorem sl_i7 : ∀ w ∈ u_ws sl_R7 sl_F7 4, w ∈ sl_T0 := sl_inL [287, 289, 291, 293] (by decide +kernel) (by decide +kernel)
def sl_R8 : String := "SpanLayers$Row"
def sl_F8 : u_T := fun k => match k with
  | 0 => ("SpanLayers$Row", "places", "[I", true)
  | 1 => ("SpanLayers$Row", "isHeld", "Z", false)
  | _ => ("SpanLayers$Row", "size", "I", false)
def sl_t8 : Nat → FieldType := fun k => match k with
  | 0 => .array .int
  | 1 => .boolean
  | _ => .int
theorem sl_nm8 : ∀ a, a < 3 → ∀ b, b < 3 → a ≠ b → (sl_F8 a).2.1 ≠ (sl_F8 b).2.1 := by decide +kernel
theorem sl_ty8 : ∀ k, k < 3 → parseFieldDescriptor (sl_F8 k).2.2.1 = some (sl_t8 k) := by decide +kernel
theorem sl_i8 : ∀ w ∈ u_ws sl_R8 sl_F8 3, w ∈ sl_T0 := sl_inL [349, 351, 353] (by decide +kernel) (by decide +kernel)
def sl_R9 : String := "SpanLayers$Span"
def sl_F9 : u_T := fun k => match k with
  | 0 => ("SpanLayers$Span", "number", "I", false)
  | 1 => ("SpanLayers$Span", "isIn", "Z", false)
  | 2 => ("SpanLayers$Span", "low", "I", false)
  | 3 => ("SpanLayers$Span", "high", "I", false)
  | 4 => ("SpanLayers$Span", "weight", "I", false)
  | _ => ("SpanLayers$Span", "layer", "I", false)
def sl_t9 : Nat → FieldType := fun k => match k with
  | 0 => .int
  | 1 => .boolean
  | 2 => .int
  | 3 => .int
  | 4 => .int
  | _ => .int
theorem sl_nm9 : ∀ a, a < 6 → ∀ b, b < 6 → a ≠ b → (sl_F9 a).2.1 ≠ (sl_F9 b).2.1 := by decide +kernel
theorem sl_ty9 : ∀ k, k < 6 → parseFieldDescriptor (sl_F9 k).2.2.1 = some (sl_t9 k) := by decide +kernel
theorem sl_i9 : ∀ w ∈ u_ws sl_R9 sl_F9 6, w ∈ sl_T0 := sl_inL [154, 156, 158, 160, 162, 164] (by decide +kernel) (by decide +kernel)
def sl_R10 : String := "SpanLayers$Tape"
def sl_F10 : u_T := fun k => match k with
  | 0 => ("SpanLayers$Tape", "bytes", "[I", true)
  | 1 => ("SpanLayers$Tape", "used", "I", false)
  | 2 => ("SpanLayers$Tape", "at", "I", false)
  | _ => ("SpanLayers$Tape", "fault", "I", false)
def sl_t10 : Nat → FieldType := fun k => match k with
  | 0 => .array .int
  | 1 => .int
  | 2 => .int
  | _ => .int
theorem sl_nm10 : ∀ a, a < 4 → ∀ b, b < 4 → a ≠ b → (sl_F10 a).2.1 ≠ (sl_F10 b).2.1 := by decide +kernel
theorem sl_ty10 : ∀ k, k < 4 → parseFieldDescriptor (sl_F10 k).2.2.1 = some (sl_t10 k) := by decide +kernel
theorem sl_i10 : ∀ w ∈ u_ws sl_R10 sl_F10 4, w ∈ sl_T0 := sl_inL [242, 244, 246, 248] (by decide +kernel) (by decide +kernel)
def sl_R11 : String := "SpanLayers"
def sl_F11 : u_T := fun k => match k with
  | 0 => ("SpanLayers", "index", "LSpanLayers$Index;", true)
  | 1 => ("SpanLayers", "coverage", "LSpanLayers$Coverage;", true)
  | 2 => ("SpanLayers", "choice", "LSpanLayers$Choice;", true)
  | 3 => ("SpanLayers", "cursors", "[LSpanLayers$Cursor;", true)
  | 4 => ("SpanLayers", "tape", "LSpanLayers$Tape;", true)
  | 5 => ("SpanLayers", "condition", "LSpanLayers$Condition;", true)
  | 6 => ("SpanLayers", "steps", "LSpanLayers$Change;", true)
  | 7 => ("SpanLayers", "parts", "LSpanLayers$Parts;", true)
  | 8 => ("SpanLayers", "sheet", "LSpanLayers$Paper;", true)
  | 9 => ("SpanLayers", "rows", "[LSpanLayers$Row;", true)
  | 10 => ("SpanLayers", "kept", "LSpanLayers$Index;", true)
  | _ => ("SpanLayers", "isKept", "Z", false)
def sl_t11 : Nat → FieldType := fun k => match k with
  | 0 => .object "SpanLayers$Index"
  | 1 => .object "SpanLayers$Coverage"
  | 2 => .object "SpanLayers$Choice"
  | 3 => .array (.object "SpanLayers$Cursor")
  | 4 => .object "SpanLayers$Tape"
  | 5 => .object "SpanLayers$Condition"
  | 6 => .object "SpanLayers$Change"
  | 7 => .object "SpanLayers$Parts"
  | 8 => .object "SpanLayers$Paper"
  | 9 => .array (.object "SpanLayers$Row")
  | 10 => .object "SpanLayers$Index"
  | _ => .boolean
theorem sl_nm11 : ∀ a, a < 12 → ∀ b, b < 12 → a ≠ b → (sl_F11 a).2.1 ≠ (sl_F11 b).2.1 := by decide +kernel
theorem sl_ty11 : ∀ k, k < 12 → parseFieldDescriptor (sl_F11 k).2.2.1 = some (sl_t11 k) := by decide +kernel
theorem sl_i11 : ∀ w ∈ u_ws sl_R11 sl_F11 12, w ∈ sl_T0 := sl_inL [368, 370, 372, 374, 376, 378, 380, 382, 384, 386, 388, 390] (by decide +kernel) (by decide +kernel)
def sl_R12 : String := "SpanLayersModel"
def sl_F12 : u_T := fun k => match k with
  | 0 => ("SpanLayersModel", "lows", "[I", true)
  | 1 => ("SpanLayersModel", "highs", "[I", true)
  | 2 => ("SpanLayersModel", "weights", "[I", true)
  | 3 => ("SpanLayersModel", "isIn", "[I", true)
  | 4 => ("SpanLayersModel", "layers", "[I", true)
  | 5 => ("SpanLayersModel", "thrown", "I", false)
  | 6 => ("SpanLayersModel", "ordered", "[I", true)
  | 7 => ("SpanLayersModel", "orders", "[I", true)
  | 8 => ("SpanLayersModel", "toldOf", "[I", true)
  | 9 => ("SpanLayersModel", "toldFirst", "[I", true)
  | 10 => ("SpanLayersModel", "toldSecond", "[I", true)
  | 11 => ("SpanLayersModel", "depths", "[I", true)
  | 12 => ("SpanLayersModel", "loads", "[I", true)
  | 13 => ("SpanLayersModel", "runs", "I", false)
  | 14 => ("SpanLayersModel", "runFrom", "[I", true)
  | 15 => ("SpanLayersModel", "runTo", "[I", true)
  | 16 => ("SpanLayersModel", "many0", "I", false)
  | 17 => ("SpanLayersModel", "taken", "[I", true)
  | 18 => ("SpanLayersModel", "bests", "[I", true)
  | 19 => ("SpanLayersModel", "tape", "[I", true)
  | 20 => ("SpanLayersModel", "size", "I", false)
  | 21 => ("SpanLayersModel", "place0", "I", false)
  | 22 => ("SpanLayersModel", "isBad", "Z", false)
  | 23 => ("SpanLayersModel", "done0", "I", false)
  | 24 => ("SpanLayersModel", "doneWhat", "[I", true)
  | 25 => ("SpanLayersModel", "testWord", "[I", true)
  | 26 => ("SpanLayersModel", "testSign", "[I", true)
  | 27 => ("SpanLayersModel", "testNumber", "[I", true)
  | 28 => ("SpanLayersModel", "waiting", "I", false)
  | 29 => ("SpanLayersModel", "waits", "[I", true)
  | 30 => ("SpanLayersModel", "brackets", "I", false)
  | 31 => ("SpanLayersModel", "held0", "[Z", true)
  | 32 => ("SpanLayersModel", "steps", "I", false)
  | 33 => ("SpanLayersModel", "stepWhat", "[I", true)
  | 34 => ("SpanLayersModel", "stepA", "[I", true)
  | 35 => ("SpanLayersModel", "stepB", "[I", true)
  | 36 => ("SpanLayersModel", "lowNow", "I", false)
  | 37 => ("SpanLayersModel", "highNow", "I", false)
  | 38 => ("SpanLayersModel", "weightNow", "I", false)
  | 39 => ("SpanLayersModel", "parts", "I", false)
  | 40 => ("SpanLayersModel", "partLow", "[I", true)
  | 41 => ("SpanLayersModel", "partHigh", "[I", true)
  | 42 => ("SpanLayersModel", "partWeight", "[I", true)
  | 43 => ("SpanLayersModel", "paper0", "[I", true)
  | 44 => ("SpanLayersModel", "paperSize", "I", false)
  | 45 => ("SpanLayersModel", "holdsList", "[Z", true)
  | 46 => ("SpanLayersModel", "listMany", "[I", true)
  | 47 => ("SpanLayersModel", "listed", "[I", true)
  | 48 => ("SpanLayersModel", "hasImage", "Z", false)
  | _ => ("SpanLayersModel", "imaged", "[I", true)
def sl_t12 : Nat → FieldType := fun k => match k with
  | 0 => .array .int
  | 1 => .array .int
  | 2 => .array .int
  | 3 => .array .int
  | 4 => .array .int
  | 5 => .int
  | 6 => .array .int
  | 7 => .array .int
  | 8 => .array .int
  | 9 => .array .int
  | 10 => .array .int
  | 11 => .array .int
  | 12 => .array .int
  | 13 => .int
  | 14 => .array .int
  | 15 => .array .int
  | 16 => .int
  | 17 => .array .int
  | 18 => .array .int
  | 19 => .array .int
  | 20 => .int
  | 21 => .int
  | 22 => .boolean
  | 23 => .int
  | 24 => .array .int
  | 25 => .array .int
  | 26 => .array .int
  | 27 => .array .int
  | 28 => .int
  | 29 => .array .int
  | 30 => .int
  | 31 => .array .boolean
  | 32 => .int
  | 33 => .array .int
  | 34 => .array .int
  | 35 => .array .int
  | 36 => .int
  | 37 => .int
  | 38 => .int
  | 39 => .int
  | 40 => .array .int
  | 41 => .array .int
  | 42 => .array .int
  | 43 => .array .int
  | 44 => .int
  | 45 => .array .boolean
  | 46 => .array .int
  | 47 => .array .int
  | 48 => .boolean
  | _ => .array .int
theorem sl_nm12 : ∀ a, a < 50 → ∀ b, b < 50 → a ≠ b → (sl_F12 a).2.1 ≠ (sl_F12 b).2.1 := by decide +kernel
theorem sl_ty12 : ∀ k, k < 50 → parseFieldDescriptor (sl_F12 k).2.2.1 = some (sl_t12 k) := by decide +kernel
theorem sl_i12 : ∀ w ∈ u_ws sl_R12 sl_F12 50, w ∈ sl_T0 := sl_inL [1075, 1077, 1079, 1081, 1083, 1085, 1087, 1089, 1091, 1093, 1095, 1097, 1099, 1101, 1103, 1105, 1107, 1109, 1111, 1113, 1115, 1117, 1119, 1121, 1123, 1125, 1127, 1129, 1131, 1133, 1135, 1137, 1139, 1141, 1143, 1145, 1147, 1149, 1151, 1153, 1155, 1157, 1159, 1161, 1163, 1165, 1167, 1169, 1171, 1173] (by decide +kernel) (by decide +kernel)
abbrev sl_cl : List vw_C := [(sl_R0, sl_F0, 4), (sl_R1, sl_F1, 4), (sl_R2, sl_F2, 0), (sl_R3, sl_F3, 4), (sl_R4, sl_F4, 4), (sl_R5, sl_F5, 2), (sl_R6, sl_F6, 2), (sl_R7, sl_F7, 4), (sl_R8, sl_F8, 3), (sl_R9, sl_F9, 6), (sl_R10, sl_F10, 4), (sl_R11, sl_F11, 12), (sl_R12, sl_F12, 50)]
def sl_N : Nat := 139
def sl_kinds : List Nat := [11, 5, 22, 23, 9, 9, 9, 9, 9, 9, 9, 9, 9, 9, 9, 9, 9, 9, 9, 9, 9, 9, 9, 9, 9, 9, 9, 9, 9, 9, 9, 9, 9, 9, 3, 20, 20, 20, 1, 20, 20, 20, 24, 10, 20, 2, 0, 20, 20, 20, 7, 20, 20, 20, 6, 20, 25, 5, 22, 23, 9, 9, 9, 9, 9, 9, 9, 9, 9, 9, 9, 9, 9, 9, 9, 9, 9, 9, 9, 9, 9, 9, 9, 9, 9, 9, 9, 9, 9, 9, 4, 9, 4, 9, 4, 9, 8, 20, 8, 20, 8, 20, 8, 20, 12, 20, 20, 20, 20, 20, 20, 20, 20, 20, 20, 20, 20, 20, 20, 20, 20, 20, 20, 20, 20, 20, 20, 21, 20, 20, 20, 20, 20, 20, 20, 21, 20, 20, 20]
def sl_lens : List Nat := [0, 0, 30, 30, 0, 0, 0, 0, 0, 0, 0, 0, 0, 0, 0, 0, 0, 0, 0, 0, 0, 0, 0, 0, 0, 0, 0, 0, 0, 0, 0, 0, 0, 0, 0, 30, 30, 30, 0, 30, 30, 31, 3, 0, 80, 0, 0, 5, 5, 5, 0, 20, 20, 20, 0, 360, 4, 0, 30, 30, 0, 0, 0, 0, 0, 0, 0, 0, 0, 0, 0, 0, 0, 0, 0, 0, 0, 0, 0, 0, 0, 0, 0, 0, 0, 0, 0, 0, 0, 0, 0, 0, 0, 0, 0, 0, 0, 40, 0, 40, 0, 40, 0, 40, 0, 30, 30, 30, 30, 30, 30, 3, 3, 3, 3, 1000, 1000, 31, 31, 30, 1001, 80, 90, 90, 90, 90, 90, 90, 5, 5, 5, 27, 27, 27, 400, 4, 4, 160, 120]
def sl_ft : List (List (Nat × Nat × Nat)) := [[(2, 20, 1), (2, 20, 2), (2, 20, 3), (0, 0, 0)], [(2, 20, 1), (2, 20, 2), (0, 0, 0), (2, 20, 3)], [], [(2, 20, 1), (2, 20, 2), (2, 20, 3), (0, 0, 0)], [(1, 0, 0), (0, 0, 0), (1, 0, 0), (2, 9, 1)], [(2, 22, 1), (2, 23, 2)], [(2, 20, 1), (0, 0, 0)], [(2, 20, 1), (2, 20, 2), (2, 20, 3), (0, 0, 0)], [(2, 20, 1), (1, 0, 0), (0, 0, 0)], [(0, 0, 0), (1, 0, 0), (0, 0, 0), (0, 0, 0), (0, 0, 0), (0, 0, 0)], [(2, 20, 1), (0, 0, 0), (0, 0, 0), (0, 0, 0)], [(2, 5, 1), (2, 3, 34), (2, 1, 38), (2, 24, 42), (2, 10, 43), (2, 2, 45), (2, 0, 46), (2, 7, 50), (2, 6, 54), (2, 25, 56), (2, 5, 57), (1, 0, 0)], [(2, 20, 1), (2, 20, 2), (2, 20, 3), (2, 20, 4), (2, 20, 5), (0, 0, 0), (2, 20, 6), (2, 20, 7), (2, 20, 8), (2, 20, 9), (2, 20, 10), (2, 20, 11), (2, 20, 12), (0, 0, 0), (2, 20, 13), (2, 20, 14), (0, 0, 0), (2, 20, 15), (2, 20, 16), (2, 20, 17), (0, 0, 0), (0, 0, 0), (1, 0, 0), (0, 0, 0), (2, 20, 18), (2, 20, 19), (2, 20, 20), (2, 20, 21), (0, 0, 0), (2, 20, 22), (0, 0, 0), (2, 21, 23), (0, 0, 0), (2, 20, 24), (2, 20, 25), (2, 20, 26), (0, 0, 0), (0, 0, 0), (0, 0, 0), (0, 0, 0), (2, 20, 27), (2, 20, 28), (2, 20, 29), (2, 20, 30), (0, 0, 0), (2, 21, 31), (2, 20, 32), (2, 20, 33), (1, 0, 0), (2, 20, 34)]]
def sl_nest : List (String × Nat × MethodName × String) := [("SpanLayers", 18, ⟨"SpanLayers$Coverage", "<init>", "()V"⟩, "SpanLayers"), ("SpanLayers", 25, ⟨"SpanLayers$Choice", "<init>", "()V"⟩, "SpanLayers"), ("SpanLayers", 38, ⟨"SpanLayers$Tape", "<init>", "()V"⟩, "SpanLayers"), ("SpanLayers", 45, ⟨"SpanLayers$Condition", "<init>", "()V"⟩, "SpanLayers"), ("SpanLayers", 52, ⟨"SpanLayers$Change", "<init>", "()V"⟩, "SpanLayers"), ("SpanLayers", 59, ⟨"SpanLayers$Parts", "<init>", "()V"⟩, "SpanLayers"), ("SpanLayers", 66, ⟨"SpanLayers$Paper", "<init>", "()V"⟩, "SpanLayers"), ("SpanLayers", 80, ⟨"SpanLayers$Cursor", "<init>", "()V"⟩, "SpanLayers"), ("SpanLayers", 81, ⟨"SpanLayers$Row", "<init>", "()V"⟩, "SpanLayers"), ("SpanLayers$Index", 27, ⟨"SpanLayers", "isBelow", "(II)Z"⟩, "SpanLayers"), ("SpanLayers$Index", 45, ⟨"SpanLayers", "isOfSet", "(II)Z"⟩, "SpanLayers"), ("SpanLayers$Tape", 25, ⟨"SpanLayers", "isBelow", "(II)Z"⟩, "SpanLayers"), ("SpanLayers$Change", 70, ⟨"SpanLayers", "isOfSet", "(II)Z"⟩, "SpanLayers"), ("SpanLayers$Row", 23, ⟨"SpanLayers", "isBelow", "(II)Z"⟩, "SpanLayers")]
theorem sl_nest_tbl : ∀ q ∈ sl_nest, Cond.methodLinkNest q.1 q.2.1 q.2.2.1 q.2.2.2 ∈ lw_tbl := List.forall_mem_cons.mpr ⟨List.mem_of_getElem? (i := 184) (by decide +kernel), List.forall_mem_cons.mpr ⟨List.mem_of_getElem? (i := 208) (by decide +kernel), List.forall_mem_cons.mpr ⟨List.mem_of_getElem? (i := 232) (by decide +kernel), List.forall_mem_cons.mpr ⟨List.mem_of_getElem? (i := 253) (by decide +kernel), List.forall_mem_cons.mpr ⟨List.mem_of_getElem? (i := 260) (by decide +kernel), List.forall_mem_cons.mpr ⟨List.mem_of_getElem? (i := 279) (by decide +kernel), List.forall_mem_cons.mpr ⟨List.mem_of_getElem? (i := 298) (by decide +kernel), List.forall_mem_cons.mpr ⟨List.mem_of_getElem? (i := 314) (by decide +kernel), List.forall_mem_cons.mpr ⟨List.mem_of_getElem? (i := 340) (by decide +kernel), List.forall_mem_cons.mpr ⟨List.mem_of_getElem? (i := 417) (by decide +kernel), List.forall_mem_cons.mpr ⟨List.mem_of_getElem? (i := 465) (by decide +kernel), List.forall_mem_cons.mpr ⟨List.mem_of_getElem? (i := 751) (by decide +kernel), List.forall_mem_cons.mpr ⟨List.mem_of_getElem? (i := 888) (by decide +kernel), List.forall_mem_cons.mpr ⟨List.mem_of_getElem? (i := 991) (by decide +kernel), fun _ h => absurd h List.not_mem_nil⟩⟩⟩⟩⟩⟩⟩⟩⟩⟩⟩⟩⟩⟩
end
section
/-! THE SMALL MACHINE: values (int, long, reference by class and number, null), memory by cells and places, the world of all cells -/
abbrev sl_V : Type := Int32 ⊕ (Int64 ⊕ Option (Nat × Nat))
abbrev sl_M : Type := Nat → Nat → Int32
abbrev sl_L : Type := List (Option sl_V)
abbrev sl_Qt : Type := Option sl_V → sl_M → Prop
abbrev sl_PT : Type := List sl_V → sl_M → sl_Qt → Prop
abbrev sl_It : Type := sl_L → List sl_V → sl_M → Prop
abbrev sl_Ent : Type := Nat × Instr × Nat × Int32 × List Nat × List (Int32 × Nat) × Bool
abbrev sl_Ct : Type := Nat × Nat × Nat × sl_PT
/-- launch, class ids, slots of fields, classes of arrays, first address of the world, addresses of what lies outside it (90: texts, 92: their bytes) -/
abbrev sl_G : Type := Launch × (Nat → ClassId) × (Nat → Nat → Nat) × (Nat → ClassId) × Nat × (Nat → Nat → Nat)
def sl_kd (o : Nat) : Nat := sl_kinds.getD o 99
def sl_len (o : Nat) : Nat := sl_lens.getD o 0
def sl_fi (c k : Nat) : Nat × Nat × Nat := (sl_ft.getD c []).getD k (9, 0, 0)
def sl_nf (c : Nat) : Nat := (sl_ft.getD c []).length
def sl_bz (x : Int32) : Int32 := if x = 0 then 0 else 1
def sl_up (μ : sl_M) (o k : Nat) (v : Int32) : sl_M := fun o' k' => if o' = o ∧ k' = k then v else μ o' k'
def sl_gD (g : sl_G) : va_G := (g.2.1, g.2.2.1)
def sl_ca (g : sl_G) : Nat → ClassId := g.2.2.2.1
def sl_b (g : sl_G) : Nat := g.2.2.2.2.1
def sl_gs (g : sl_G) : Nat → Nat → Nat := g.2.2.2.2.2
def sl_A (g : sl_G) : Nat → Prop := fun q => sl_b g ≤ q
def sl_ad (g : sl_G) (c o : Nat) : Nat := if c < 90 then sl_b g + o else if c < 93 then sl_gs g c o else o
def sl_tv (g : sl_G) : sl_V → Value
  | .inl x => .int x
  | .inr (.inl x) => .long x
  | .inr (.inr none) => .null
  | .inr (.inr (some q)) => .ref (sl_ad g q.1 q.2)
def sl_wk : sl_V → Prop
  | .inr (.inr (some q)) => q.1 < 90 → sl_kd q.2 = q.1
  | _ => True
def sl_rf (f : Nat → Option Nat) : (Nat → Int32) ⊕ (Nat → Int64) ⊕ (Nat → UInt32) ⊕ (Nat → UInt64) ⊕ (Nat → Option Nat) := .inr (.inr (.inr (.inr f)))
def sl_fv (g : sl_G) (μ : sl_M) (c o k : Nat) : Value := match sl_fi c k with
  | (0, _, _) => .int (μ o k)
  | (1, _, _) => .int (sl_bz (μ o k))
  | (_, _, off) => .ref (sl_b g + (o + off))
def sl_E (g : sl_G) (μ : sl_M) (o : Nat) : va_E := match sl_kd o with
  | 20 => .inl (sl_ca g 0, sl_len o, .inl (μ o))
  | 21 => .inl (sl_ca g 1, sl_len o, .inl (fun i => sl_bz (μ o i)))
  | 22 => .inl (sl_ca g 2, sl_len o, sl_rf (fun i => some (sl_b g + (o + 2 + i))))
  | 23 => .inl (sl_ca g 2, sl_len o, sl_rf (fun i => some (sl_b g + (μ o i).toNatClampNeg)))
  | 24 => .inl (sl_ca g 3, sl_len o, sl_rf (fun i => some (sl_b g + (o + 48 + 2 * i))))
  | 25 => .inl (sl_ca g 4, sl_len o, sl_rf (fun i => some (sl_b g + (o + 40 + 2 * i))))
  | c => .inr (c, (List.range (sl_nf c)).map (sl_fv g μ c o))
def sl_wl (g : sl_G) (μ : sl_M) : va_W := (List.range sl_N).map (fun o => (sl_b g + o, sl_E g μ o))
def sl_Wd (g : sl_G) (μ : sl_M) (H : Heap) : Prop := va_P (sl_gD g) sl_cl (sl_wl g μ) H
def sl_tys (g : sl_G) : List (ClassId × FieldType) := [(sl_ca g 0, .int), (sl_ca g 1, .boolean), (sl_ca g 2, .object sl_R9), (sl_ca g 3, .object sl_R4), (sl_ca g 4, .object sl_R8)]
theorem sl_kd_lt {o : Nat} (h : sl_kd o ≠ 99) : o < sl_N := by
  rcases Nat.lt_or_ge o sl_N with q | q
  · exact q
  · refine absurd ?_ h
    unfold sl_kd
    rw [List.getD_eq_getElem?_getD, List.getElem?_eq_none (show sl_kinds.length ≤ o from Nat.le_trans (show sl_kinds.length ≤ sl_N by decide +kernel) q)]
    rfl
theorem sl_wl_get (g : sl_G) (μ : sl_M) {o : Nat} (h : o < sl_N) : (sl_wl g μ)[o]? = some (sl_b g + o, sl_E g μ o) := by
  unfold sl_wl
  rw [List.getElem?_map, List.getElem?_range h]
  rfl
theorem sl_wl_len (g : sl_G) (μ : sl_M) : (sl_wl g μ).length = sl_N := by
  unfold sl_wl
  rw [List.length_map, List.length_range]
theorem sl_wl_inv {g : sl_G} {μ : sl_M} {o : Nat} {q : Nat × va_E} (h : (sl_wl g μ)[o]? = some q) : o < sl_N ∧ q = (sl_b g + o, sl_E g μ o) := by
  have h1 : o < (sl_wl g μ).length := (List.getElem?_eq_some_iff.mp h).1
  rw [sl_wl_len] at h1
  rw [sl_wl_get g μ h1] at h
  exact ⟨h1, (Option.some.inj h).symm⟩
theorem sl_wl_D (g : sl_G) (μ : sl_M) : va_D (sl_A g) (sl_wl g μ) := by
  refine ⟨fun i j p q hi hj hpq => ?_, fun k q hk => ?_⟩
  · obtain ⟨-, rfl⟩ := sl_wl_inv hi
    obtain ⟨-, rfl⟩ := sl_wl_inv hj
    exact Nat.add_left_cancel hpq
  · obtain ⟨-, rfl⟩ := sl_wl_inv hk
    exact Nat.le_add_right _ _
theorem sl_E_congr {g : sl_G} {μ μ' : sl_M} {o : Nat} (h : μ' o = μ o) : sl_E g μ' o = sl_E g μ o := by
  unfold sl_E sl_fv
  rw [h]
theorem sl_wl_set {g : sl_G} {μ μ' : sl_M} {o : Nat} {e : va_E} (ho : o < sl_N) (he : sl_E g μ' o = e) (hr : ∀ o', o' ≠ o → μ' o' = μ o') : (sl_wl g μ).set o (sl_b g + o, e) = sl_wl g μ' := by
  apply List.ext_getElem?
  intro i
  rw [List.getElem?_set]
  by_cases hi : o = i
  · subst hi
    rw [if_pos rfl, if_pos (by rw [sl_wl_len]; exact ho), sl_wl_get g μ' ho, he]
  · rw [if_neg hi]
    rcases Nat.lt_or_ge i sl_N with q | q
    · rw [sl_wl_get g μ q, sl_wl_get g μ' q, sl_E_congr (hr i (fun h => hi h.symm))]
    · rw [List.getElem?_eq_none (by rw [sl_wl_len]; exact q), List.getElem?_eq_none (by rw [sl_wl_len]; exact q)]
theorem sl_up_row {μ : sl_M} {o k : Nat} {v : Int32} {o' : Nat} (h : o' ≠ o) : sl_up μ o k v o' = μ o' := by
  funext k'
  unfold sl_up
  rw [if_neg (fun q => h q.1)]
theorem sl_up_at {μ : sl_M} {o k : Nat} {v : Int32} : sl_up μ o k v o = upd (μ o) k v := by
  funext k'
  unfold sl_up upd
  by_cases h : k' = k
  · rw [if_pos ⟨rfl, h⟩, if_pos h]
  · rw [if_neg (fun q => h q.2), if_neg h]
/-! locals -/
def sl_nth : sl_L → Nat → Option sl_V
  | [], _ => none
  | a :: _, 0 => a
  | _ :: l, n + 1 => sl_nth l n
def sl_get (cst lv : sl_L) (i : Nat) : Option sl_V := match sl_nth cst i with
  | some v => some v
  | none => sl_nth lv i
def sl_set : sl_L → Nat → Option sl_V → sl_L
  | [], _, _ => []
  | _ :: l, 0, v => v :: l
  | a :: l, n + 1, v => a :: sl_set l n v
def sl_isJ : Option sl_V → Bool
  | some (.inr (.inl _)) => true
  | _ => false
/-- what is left of a long whose second half is written -/
def sl_kill : Option sl_V → Option sl_V
  | some (.inr (.inl _)) => none
  | v => v
def sl_kl : sl_L → Nat → sl_L
  | [], _ => []
  | a :: l, 0 => a :: l
  | a :: l, 1 => sl_kill a :: l
  | a :: l, n + 2 => a :: sl_kl l (n + 1)
def sl_sto (lv : sl_L) (i : Nat) (v : Option sl_V) : sl_L := sl_set (sl_kl lv i) i v
/-- whether a place may be written: it is no constant one, no constant long begins just ahead of it -/
def sl_wr (cst : sl_L) (i : Nat) : Bool := (sl_nth cst i).isNone && (match i with
  | 0 => true
  | j + 1 => !(sl_isJ (sl_nth cst j)))
def sl_lh (g : sl_G) (ls : Array Slot) (nL : Nat) (cst lv : sl_L) : Prop := ls.size = nL ∧ lv_wf ls ∧ ∀ (i : Nat) (v : sl_V), sl_get cst lv i = some v → ls[i]? = some (.val (sl_tv g v))
def sl_prs (g : sl_G) (cst lv : sl_L) (nL : Nat) : List (Nat × Value) := (List.range nL).filterMap (fun i => (sl_get cst lv i).map (fun v => (i, sl_tv g v)))
theorem sl_nth_set {l : sl_L} {i : Nat} {v : Option sl_V} {j : Nat} (h : j ≠ i) : sl_nth (sl_set l i v) j = sl_nth l j := by
  induction l generalizing i j with
  | nil => rfl
  | cons a l ih =>
    cases i with
    | zero =>
      cases j with
      | zero => exact absurd rfl h
      | succ j => rfl
    | succ i =>
      cases j with
      | zero => rfl
      | succ j => exact ih (fun q => h (by rw [q]))
theorem sl_nth_set_self {l : sl_L} {i : Nat} {v : Option sl_V} {w : sl_V} (h : sl_nth (sl_set l i v) i = some w) : v = some w := by
  induction l generalizing i with
  | nil => cases h
  | cons a l ih =>
    cases i with
    | zero => exact h
    | succ i => exact ih h
theorem sl_nth_kl : ∀ (l : sl_L) (i j : Nat), sl_nth (sl_kl l i) j = if j + 1 = i then sl_kill (sl_nth l j) else sl_nth l j := by
  intro l
  induction l with
  | nil =>
    intro i j
    show none = if j + 1 = i then sl_kill none else none
    split <;> rfl
  | cons a l ih =>
    intro i j
    match i with
    | 0 => rw [if_neg (by omega)]; rfl
    | 1 =>
      match j with
      | 0 => rfl
      | j + 1 => rw [if_neg (by omega)]; rfl
    | n + 2 =>
      match j with
      | 0 => rw [if_neg (by omega)]; rfl
      | j + 1 =>
        show sl_nth (sl_kl l (n + 1)) j = _
        rw [ih (n + 1) j]
        by_cases e : j + 1 = n + 1
        · rw [if_pos e, if_pos (by omega)]; rfl
        · rw [if_neg e, if_neg (by omega)]; rfl
theorem sl_kill_some {v : Option sl_V} {w : sl_V} (h : sl_kill v = some w) : v = some w ∧ sl_isJ (some w) = false := by
  match v, h with
  | some (.inl x), h => cases h; exact ⟨rfl, rfl⟩
  | some (.inr (.inr x)), h => cases h; exact ⟨rfl, rfl⟩
theorem sl_sto_get {cst lv : sl_L} {i j : Nat} {v : Option sl_V} {w : sl_V} (hw : sl_wr cst i = true) (hji : j ≠ i) (h : sl_get cst (sl_sto lv i v) j = some w) : sl_get cst lv j = some w ∧ (j + 1 = i → sl_isJ (some w) = false) := by
  unfold sl_wr at hw
  rw [Bool.and_eq_true] at hw
  unfold sl_get at h ⊢
  cases hc : sl_nth cst j with
  | some u =>
    rw [hc] at h
    simp only at h ⊢
    refine ⟨h, fun e => ?_⟩
    subst e
    have h2 := hw.2
    simp only [hc] at h2
    rw [← h]
    simpa using h2
  | none =>
    rw [hc] at h
    simp only at h ⊢
    unfold sl_sto at h
    rw [sl_nth_set hji, sl_nth_kl] at h
    by_cases e : j + 1 = i
    · rw [if_pos e] at h
      obtain ⟨h1, h2⟩ := sl_kill_some h
      exact ⟨h1, fun _ => h2⟩
    · rw [if_neg e] at h
      exact ⟨h, fun q => absurd q e⟩
theorem sl_sto_self {cst lv : sl_L} {i : Nat} {v : Option sl_V} {w : sl_V} (hw : sl_wr cst i = true) (h : sl_get cst (sl_sto lv i v) i = some w) : v = some w := by
  unfold sl_wr at hw
  rw [Bool.and_eq_true] at hw
  have hc : sl_nth cst i = none := Option.isNone_iff_eq_none.mp hw.1
  unfold sl_get at h
  rw [hc] at h
  exact sl_nth_set_self h
theorem sl_lh.has {g : sl_G} {ls : Array Slot} {nL : Nat} {cst lv : sl_L} (h : sl_lh g ls nL cst lv) : lv_has ls nL (sl_prs g cst lv nL) := by
  refine ⟨h.1, h.2.1, fun q hq => ?_⟩
  obtain ⟨i, -, hi⟩ := List.mem_filterMap.mp hq
  cases hg : sl_get cst lv i with
  | none => rw [hg] at hi; cases hi
  | some v =>
    rw [hg] at hi
    cases hi
    exact h.2.2 i v hg
theorem sl_prs_mem {g : sl_G} {cst lv : sl_L} {nL i : Nat} {v : sl_V} (hi : i < nL) (h : sl_get cst lv i = some v) : (i, sl_tv g v) ∈ sl_prs g cst lv nL :=
  List.mem_filterMap.mpr ⟨i, List.mem_range.mpr hi, by rw [h]; rfl⟩
theorem sl_tv_cat {g : sl_G} {v : sl_V} : (sl_tv g v).category = 2 ↔ sl_isJ (some v) = true := by
  match v with
  | .inl x => exact ⟨(fun h => by cases h), (fun h => by cases h)⟩
  | .inr (.inl x) => exact ⟨fun _ => rfl, fun _ => rfl⟩
  | .inr (.inr none) => exact ⟨(fun h => by cases h), (fun h => by cases h)⟩
  | .inr (.inr (some q)) => exact ⟨(fun h => by cases h), (fun h => by cases h)⟩
theorem sl_lh.store {g : sl_G} {ls ls' : Array Slot} {nL : Nat} {cst lv : sl_L} {i : Nat} {v : sl_V} (h : sl_lh g ls nL cst lv) (hw : sl_wr cst i = true)
    (h' : lv_has ls' nL ((i, sl_tv g v) :: (sl_prs g cst lv nL).filter (fun q => !(q.1 == i) && !(q.1 + 1 == i && q.2.category == 2)))) : sl_lh g ls' nL cst (sl_sto lv i (some v)) := by
  refine ⟨h'.1, h'.2.1, fun j w hj => ?_⟩
  by_cases hji : j = i
  · subst hji
    have hv := sl_sto_self hw hj
    cases hv
    exact h'.2.2 _ List.mem_cons_self
  · obtain ⟨hj2, hj3⟩ := sl_sto_get hw hji hj
    have hlt : j < nL := by
      have := h.2.2 j w hj2
      rw [← h.1]
      exact (Array.getElem?_eq_some_iff.mp this).1
    refine h'.2.2 (j, sl_tv g w) (List.mem_cons_of_mem _ (List.mem_filter.mpr ⟨sl_prs_mem hlt hj2, ?_⟩))
    have n1 : (j == i) = false := by simp [hji]
    have n2 : (j + 1 == i && (sl_tv g w).category == 2) = false := by
      by_cases e : j + 1 = i
      · have h4 : ¬ (sl_tv g w).category = 2 := fun q => by rw [sl_tv_cat.mp q] at hj3; exact absurd (hj3 e) (by decide)
        simp [h4]
      · simp [e]
    simp [n1, n2]
theorem sl_lh.store2 {g : sl_G} {ls ls' : Array Slot} {nL : Nat} {cst lv : sl_L} {i : Nat} {v : sl_V} (h : sl_lh g ls nL cst lv) (hw : sl_wr cst i = true) (hw2 : sl_nth cst (i + 1) = none)
    (h' : lv_has ls' nL ((i, sl_tv g v) :: (sl_prs g cst lv nL).filter (fun q => !(q.1 == i) && (!(q.1 == i + 1) && !(q.1 + 1 == i && q.2.category == 2))))) : sl_lh g ls' nL cst (sl_set (sl_sto lv i (some v)) (i + 1) none) := by
  refine ⟨h'.1, h'.2.1, fun j w hj => ?_⟩
  by_cases hj1 : j = i + 1
  · subst hj1
    unfold sl_get at hj
    rw [hw2] at hj
    have hv := sl_nth_set_self hj
    cases hv
  have hj : sl_get cst (sl_sto lv i (some v)) j = some w := by
    unfold sl_get at hj ⊢
    rw [sl_nth_set hj1] at hj
    exact hj
  by_cases hji : j = i
  · subst hji
    have hv := sl_sto_self hw hj
    cases hv
    exact h'.2.2 _ List.mem_cons_self
  · obtain ⟨hj2, hj3⟩ := sl_sto_get hw hji hj
    have hlt : j < nL := by
      have := h.2.2 j w hj2
      rw [← h.1]
      exact (Array.getElem?_eq_some_iff.mp this).1
    refine h'.2.2 (j, sl_tv g w) (List.mem_cons_of_mem _ (List.mem_filter.mpr ⟨sl_prs_mem hlt hj2, ?_⟩))
    have n1 : (j == i) = false := by simp [hji]
    have n3 : (j == i + 1) = false := by simp [hj1]
    have n2 : (j + 1 == i && (sl_tv g w).category == 2) = false := by
      by_cases e : j + 1 = i
      · have h4 : ¬ (sl_tv g w).category = 2 := fun q => by rw [sl_tv_cat.mp q] at hj3; exact absurd (hj3 e) (by decide)
        simp [h4]
      · simp [e]
    simp [n1, n2, n3]
end
section
/-! THE WP OF A METHOD'S CODE over the small machine: what must hold at an instruction so that the method comes to Q -/
def sl_pop : Nat → List sl_V → List sl_V → Option (List sl_V × List sl_V)
  | 0, acc, st => some (acc, st)
  | n + 1, acc, v :: st => sl_pop n (v :: acc) st
  | _ + 1, _, [] => none
def sl_ctg : sl_V → Nat
  | .inr (.inl _) => 2
  | _ => 1
def sl_cat : List sl_V → Nat
  | [] => 0
  | v :: l => sl_ctg v + sl_cat l
def sl_recv (kind ci : Nat) (as : List sl_V) : Bool := match kind with
  | 0 => (match as with
    | .inr (.inr (some q)) :: _ => q.1 == ci
    | _ => false)
  | _ => true
def sl_ifc (c : ClassFile.Cond) (x y : Int32) (A B : Prop) : Prop := match c with
  | .eq => (x = y → A) ∧ (¬ x = y → B)
  | .ne => (x = y → B) ∧ (¬ x = y → A)
  | .lt => (x < y → A) ∧ (¬ x < y → B)
  | .ge => (x < y → B) ∧ (¬ x < y → A)
  | .gt => (x ≤ y → B) ∧ (¬ x ≤ y → A)
  | .le => (x ≤ y → A) ∧ (¬ x ≤ y → B)
def sl_sw (v : Int32) (D : Prop) (J : Nat → Prop) : List (Int32 × Nat) → Prop
  | [] => D
  | q :: r => (v = q.1 → J q.2) ∧ (¬ v = q.1 → sl_sw v D J r)
def sl_look (pc : Nat) : List (Nat × sl_It) → Option sl_It
  | [] => none
  | q :: r => if q.1 = pc then some q.2 else sl_look pc r
def sl_find (t : Nat) : List sl_Ent → List sl_Ent
  | [] => []
  | e :: r => if e.1 = t then e :: r else sl_find t r
def sl_ldr (cst lv : sl_L) (i : Nat) (K : sl_V → Prop) : Prop := match sl_get cst lv i with
  | some (.inr (.inr r)) => K (.inr (.inr r))
  | _ => False
def sl_ldi (cst lv : sl_L) (i : Nat) (K : sl_V → Prop) : Prop := match sl_get cst lv i with
  | some (.inl r) => K (.inl r)
  | _ => False
def sl_ldj (cst lv : sl_L) (i : Nat) (K : sl_V → Prop) : Prop := match sl_get cst lv i with
  | some (.inr (.inl r)) => K (.inr (.inl r))
  | _ => False
def sl_sti (cst lv : sl_L) (i : Nat) (nm : List Nat) (st : List sl_V) (K : sl_L → List sl_V → Prop) : Prop := match st with
  | .inl v :: st' => if sl_wr cst i = true then (match nm with
    | [] => K (sl_sto lv i (some (.inl v))) st'
    | _ => ∀ v', v' = v → K (sl_sto lv i (some (.inl v'))) st') else False
  | _ => False
def sl_str (cst lv : sl_L) (i : Nat) (st : List sl_V) (K : sl_L → List sl_V → Prop) : Prop := match st with
  | .inr (.inr v) :: st' => if sl_wr cst i = true then K (sl_sto lv i (some (.inr (.inr v)))) st' else False
  | _ => False
def sl_stj (cst lv : sl_L) (i : Nat) (st : List sl_V) (K : sl_L → List sl_V → Prop) : Prop := match st with
  | .inr (.inl v) :: st' => if sl_wr cst i = true then (if (sl_nth cst (i + 1)).isNone = true then K (sl_set (sl_sto lv i (some (.inr (.inl v)))) (i + 1) none) st' else False) else False
  | _ => False
def sl_bin (f : Int32 → Int32 → Int32) (st : List sl_V) (K : List sl_V → Prop) : Prop := match st with
  | .inl y :: .inl x :: st' => K (.inl (f x y) :: st')
  | _ => False
def sl_bij (f : Int64 → Int64 → Int64) (st : List sl_V) (K : List sl_V → Prop) : Prop := match st with
  | .inr (.inl y) :: .inr (.inl x) :: st' => K (.inr (.inl (f x y)) :: st')
  | _ => False
def sl_call (ct : List sl_Ct) (j : Nat) (st : List sl_V) (μ : sl_M) (K : List sl_V → sl_M → Prop) : Prop := match ct[j]? with
  | some q => (match sl_pop q.1 [] st with
    | some w => if sl_cat w.2 ≤ 8 then (if sl_recv q.2.1 q.2.2.1 w.1 = true then q.2.2.2 w.1 μ (fun r μ' => K (r.toList ++ w.2) μ') else False) else False
    | none => False)
  | none => False
def sl_getf (d : List Nat) (st : List sl_V) (μ : sl_M) (K : List sl_V → Prop) : Prop := match d, st with
  | [c, k, ty, rc, off], .inr (.inr (some q)) :: st' => if q.1 = c then (match ty with
    | 0 => K (.inl (μ q.2 k) :: st')
    | 1 => K (.inl (sl_bz (μ q.2 k)) :: st')
    | _ => K (.inr (.inr (some (rc, q.2 + off))) :: st')) else False
  | _, _ => False
def sl_putf (d : List Nat) (st : List sl_V) (μ : sl_M) (K : List sl_V → sl_M → Prop) : Prop := match d, st with
  | [c, k, ty], .inl v :: .inr (.inr (some q)) :: st' => if q.1 = c then (match ty with
    | 0 => ∀ μ', μ' = sl_up μ q.2 k v → K st' μ'
    | _ => sl_bz v = v ∧ ∀ μ', μ' = sl_up μ q.2 k v → K st' μ') else False
  | _, _ => False
def sl_ald (st : List sl_V) (μ : sl_M) (K : List sl_V → Prop) : Prop := match st with
  | .inl i :: .inr (.inr (some q)) :: st' => if q.1 = 20 then vp_in i (sl_len q.2) ∧ K (.inl (μ q.2 i.toNatClampNeg) :: st') else False
  | _ => False
def sl_ast (st : List sl_V) (μ : sl_M) (K : List sl_V → sl_M → Prop) : Prop := match st with
  | .inl v :: .inl i :: .inr (.inr (some q)) :: st' => if q.1 = 20 then vp_in i (sl_len q.2) ∧ ∀ μ', μ' = sl_up μ q.2 i.toNatClampNeg v → K st' μ' else False
  | _ => False
def sl_zld (st : List sl_V) (μ : sl_M) (K : List sl_V → Prop) : Prop := match st with
  | .inl i :: .inr (.inr (some q)) :: st' => if q.1 = 21 then vp_in i (sl_len q.2) ∧ K (.inl (sl_bz (μ q.2 i.toNatClampNeg)) :: st') else False
  | _ => False
def sl_zst (st : List sl_V) (μ : sl_M) (K : List sl_V → sl_M → Prop) : Prop := match st with
  | .inl v :: .inl i :: .inr (.inr (some q)) :: st' => if q.1 = 21 then vp_in i (sl_len q.2) ∧ sl_bz v = v ∧ ∀ μ', μ' = sl_up μ q.2 i.toNatClampNeg v → K st' μ' else False
  | _ => False
def sl_rld (st : List sl_V) (μ : sl_M) (K : List sl_V → Prop) : Prop := match st with
  | .inl i :: .inr (.inr (some q)) :: st' => (match q.1 with
    | 22 => vp_in i (sl_len q.2) ∧ K (.inr (.inr (some (9, q.2 + 2 + i.toNatClampNeg))) :: st')
    | 23 => vp_in i (sl_len q.2) ∧ sl_kd (μ q.2 i.toNatClampNeg).toNatClampNeg = 9 ∧ K (.inr (.inr (some (9, (μ q.2 i.toNatClampNeg).toNatClampNeg))) :: st')
    | 24 => vp_in i (sl_len q.2) ∧ K (.inr (.inr (some (4, q.2 + 48 + 2 * i.toNatClampNeg))) :: st')
    | 25 => vp_in i (sl_len q.2) ∧ K (.inr (.inr (some (8, q.2 + 40 + 2 * i.toNatClampNeg))) :: st')
    | _ => False)
  | _ => False
def sl_rst (st : List sl_V) (μ : sl_M) (K : List sl_V → sl_M → Prop) : Prop := match st with
  | .inr (.inr (some w)) :: .inl i :: .inr (.inr (some q)) :: st' => if q.1 = 23 then (if w.1 = 9 then vp_in i (sl_len q.2) ∧ ∀ μ', μ' = sl_up μ q.2 i.toNatClampNeg (nI w.2) → K st' μ' else False) else False
  | _ => False
def sl_nul (st : List sl_V) (A B : List sl_V → Prop) : Prop := match st with
  | .inr (.inr none) :: st' => A st'
  | .inr (.inr (some _)) :: st' => B st'
  | _ => False
def sl_step (Q : sl_Qt) (ct : List sl_Ct) (cst : sl_L) (ins : Instr) (x : Int32) (d : List Nat) (sw : List (Int32 × Nat)) (K : sl_It) (J : Nat → sl_It) : sl_It := fun lv st μ => match ins with
  | .iconst _ => K lv (.inl x :: st) μ
  | .bipush _ => K lv (.inl x :: st) μ
  | .sipush _ => K lv (.inl x :: st) μ
  | .ldc _ => (match d with
    | [] => K lv (.inl x :: st) μ
    | o :: _ => K lv (.inr (.inr (some (90, o))) :: st) μ)
  | .ldc_w _ => K lv (.inl x :: st) μ
  | .lconst _ => K lv (.inr (.inl x.toInt64) :: st) μ
  | .ldc2_w _ => K lv (.inr (.inl x.toInt64) :: st) μ
  | .aconst_null => K lv (.inr (.inr none) :: st) μ
  | .iload i => sl_ldi cst lv i (fun v => K lv (v :: st) μ)
  | .iload_n _ => sl_ldi cst lv (d.headD 0) (fun v => K lv (v :: st) μ)
  | .lload i => sl_ldj cst lv i (fun v => K lv (v :: st) μ)
  | .lload_n _ => sl_ldj cst lv (d.headD 0) (fun v => K lv (v :: st) μ)
  | .aload i => sl_ldr cst lv i (fun v => K lv (v :: st) μ)
  | .aload_n _ => sl_ldr cst lv (d.headD 0) (fun v => K lv (v :: st) μ)
  | .istore i => sl_sti cst lv i d.tail st (fun lv st => K lv st μ)
  | .istore_n _ => sl_sti cst lv (d.headD 0) d.tail st (fun lv st => K lv st μ)
  | .lstore i => sl_stj cst lv i st (fun lv st => K lv st μ)
  | .lstore_n _ => sl_stj cst lv (d.headD 0) st (fun lv st => K lv st μ)
  | .astore i => sl_str cst lv i st (fun lv st => K lv st μ)
  | .astore_n _ => sl_str cst lv (d.headD 0) st (fun lv st => K lv st μ)
  | .iinc i _ => sl_ldi cst lv i (fun v => sl_bin (· + ·) [.inl x, v] (fun w => sl_sti cst lv i [] w (fun lv _ => K lv st μ)))
  | .iadd => sl_bin (· + ·) st (fun st => K lv st μ)
  | .isub => sl_bin (· - ·) st (fun st => K lv st μ)
  | .imul => sl_bin (· * ·) st (fun st => K lv st μ)
  | .iand => sl_bin (· &&& ·) st (fun st => K lv st μ)
  | .ior => sl_bin (· ||| ·) st (fun st => K lv st μ)
  | .ixor => sl_bin (· ^^^ ·) st (fun st => K lv st μ)
  | .ishl => sl_bin (fun x y => x <<< (y &&& 31)) st (fun st => K lv st μ)
  | .ishr => sl_bin (fun x y => x >>> (y &&& 31)) st (fun st => K lv st μ)
  | .iushr => sl_bin (fun x y => (x.toUInt32 >>> (y.toUInt32 &&& Int32.toUInt32 31)).toInt32) st (fun st => K lv st μ)
  | .idiv => (match st with
    | .inl y :: .inl x :: st' => ¬ y = 0 ∧ K lv (.inl (x / y) :: st') μ
    | _ => False)
  | .irem => (match st with
    | .inl y :: .inl x :: st' => ¬ y = 0 ∧ K lv (.inl (x - x / y * y) :: st') μ
    | _ => False)
  | .ineg => (match st with
    | .inl x :: st' => K lv (.inl (-x) :: st') μ
    | _ => False)
  | .ladd => sl_bij (· + ·) st (fun st => K lv st μ)
  | .lsub => sl_bij (· - ·) st (fun st => K lv st μ)
  | .lmul => sl_bij (· * ·) st (fun st => K lv st μ)
  | .i2l => (match st with
    | .inl x :: st' => K lv (.inr (.inl x.toInt64) :: st') μ
    | _ => False)
  | .lcmp => (match st with
    | .inr (.inl y) :: .inr (.inl x) :: st' => K lv (.inl (lg_cmp x y) :: st') μ
    | _ => False)
  | .dup => (match st with
    | .inl v :: st' => K lv (.inl v :: .inl v :: st') μ
    | .inr (.inr v) :: st' => K lv (.inr (.inr v) :: .inr (.inr v) :: st') μ
    | _ => False)
  | .dup2 => (match st with
    | .inl v :: .inr (.inr w) :: st' => K lv (.inl v :: .inr (.inr w) :: .inl v :: .inr (.inr w) :: st') μ
    | _ => False)
  | .pop => (match st with
    | .inl _ :: st' => K lv st' μ
    | _ => False)
  | .ifCond c _ => (match st with
    | .inl v :: st' => sl_ifc c v 0 (J (d.headD 0) lv st' μ) (K lv st' μ)
    | _ => False)
  | .if_icmp c _ => (match st with
    | .inl w :: .inl v :: st' => sl_ifc c v w (J (d.headD 0) lv st' μ) (K lv st' μ)
    | _ => False)
  | .ifnull _ => sl_nul st (fun st => J (d.headD 0) lv st μ) (fun st => K lv st μ)
  | .ifnonnull _ => sl_nul st (fun st => K lv st μ) (fun st => J (d.headD 0) lv st μ)
  | .goto _ => J (d.headD 0) lv st μ
  | .tableswitch _ _ _ _ => (match st with
    | .inl v :: st' => sl_sw v (J (d.headD 0) lv st' μ) (fun t => J t lv st' μ) sw
    | _ => False)
  | .lookupswitch _ _ => (match st with
    | .inl v :: st' => sl_sw v (J (d.headD 0) lv st' μ) (fun t => J t lv st' μ) sw
    | _ => False)
  | .ireturn => (match d, st with
    | [], [.inl v] => Q (some (.inl v)) μ
    | _ :: _, [.inl v] => sl_bz v = v ∧ Q (some (.inl v)) μ
    | _, _ => False)
  | .lreturn => (match st with
    | [.inr (.inl v)] => Q (some (.inr (.inl v))) μ
    | _ => False)
  | .areturn => (match st with
    | [.inr (.inr v)] => Q (some (.inr (.inr v))) μ
    | _ => False)
  | .return_ => (match st with
    | [] => Q none μ
    | _ => False)
  | .getfield _ => sl_getf d st μ (fun st => K lv st μ)
  | .putfield _ => sl_putf d st μ (fun st μ => K lv st μ)
  | .iaload => sl_ald st μ (fun st => K lv st μ)
  | .iastore => sl_ast st μ (fun st μ => K lv st μ)
  | .baload => sl_zld st μ (fun st => K lv st μ)
  | .bastore => sl_zst st μ (fun st μ => K lv st μ)
  | .aaload => sl_rld st μ (fun st => K lv st μ)
  | .aastore => sl_rst st μ (fun st μ => K lv st μ)
  | .invokevirtual _ => sl_call ct (d.headD 0) st μ (fun st μ => K lv st μ)
  | .invokestatic _ => sl_call ct (d.headD 0) st μ (fun st μ => K lv st μ)
  | _ => False
def sl_wp (cd : List sl_Ent) (ct : List sl_Ct) (cst : sl_L) (Q : sl_Qt) (cuts : List (Nat × sl_It)) : Nat → Bool → List sl_Ent → sl_It
  | 0, _, _ => fun _ _ _ => False
  | _ + 1, _, [] => fun _ _ _ => False
  | n + 1, chk, e :: es => fun lv st μ => match (if (chk && e.2.2.2.2.2.2) = true then sl_look e.1 cuts else none) with
    | some I => I lv st μ
    | none => sl_step Q ct cst e.2.1 e.2.2.2.1 e.2.2.2.2.1 e.2.2.2.2.2.1 (sl_wp cd ct cst Q cuts n true es) (fun t => sl_wp cd ct cst Q cuts n true (sl_find t cd)) lv st μ
end
section
/-! SOUNDNESS of the small machine's wp over the machine itself -/
def sl_sl : List Nat := [36, 34]
def sl_sb : List (List Int32) := [[108, 111, 119, 32, 104, 105, 103, 104, 32, 119, 101, 105, 103, 104, 116, 32, 108, 101, 110, 103, 116, 104, 32, 110, 117, 109, 98, 101, 114, 32, 108, 97, 121, 101, 114, 32], [115, 104, 105, 102, 116, 32, 103, 114, 111, 119, 32, 99, 108, 105, 112, 32, 109, 105, 114, 114, 111, 114, 32, 116, 105, 109, 101, 115, 32, 104, 101, 97, 112, 32]]
def sl_s0 : String := "low high weight length number layer "
def sl_s1 : String := "shift grow clip mirror times heap "
def sl_own (o : Nat) : String := if o = 0 then sl_R2 else sl_R0
def sl_six (o : Nat) : Nat := if o = 0 then 47 else 38
def sl_stx (o : Nat) : String := if o = 0 then sl_s0 else sl_s1
/-- what lies outside the world: the two texts, a static of String's -/
def sl_Z (g : sl_G) (U : State) : Prop := vk_S 2 sl_sl sl_sb (sl_gs g 90) (sl_gs g 92) (sl_A g) U U.heap ∧ (∀ o, o < 2 → vk_R (sl_own o) (sl_six o) (sl_stx o) (sl_gs g 90 o) U) ∧ va_Z "java/lang/String" "COMPACT_STRINGS" "Z" (.int 1) (sl_A g) U U.heap ∧ va_Zq "jdk/internal/util/Preconditions" "SIOOBE_FORMATTER" "Ljava/util/function/BiFunction;" (sl_A g) U U.heap ∧ ∀ q ∈ sl_nest, va_Nw (.methodLinkNest q.1 q.2.1 q.2.2.1 q.2.2.2) U
def sl_K (g : sl_G) (U : State) : Prop := va_K (sl_gD g) sl_cl (sl_tys g) U ∧ sl_Z g U
theorem sl_K.go {g : sl_G} {s U : State} {locs : List Loc} (h : sl_K g s) (hS : va_S (sl_A g) s.heap U.heap locs) (hW : s.WarmedH U.vm) : sl_K g U :=
  ⟨va_K.moved hW.alike h.1, vk_S.moved hW.alike (h.2.1.kept hS.2.1), fun o ho => vk_R.warm hW (h.2.2.1 o ho), va_Z.moved hW.alike (h.2.2.2.1.kept hS.2.1), va_Zq.moved hW.alike (h.2.2.2.2.1.kept hS.2.1), fun q hq => va_Nw.warmM hW (h.2.2.2.2.2 q hq)⟩
abbrev sl_X : Type := Program × Env × Room × State × MethodId × Array Value × List Frame × Method × Code × Nat × Nat × (State → Prop)
def sl_Vw (g : sl_G) (X : sl_X) (nL : Nat) (cst : sl_L) (pc : Nat) (lv : sl_L) (st : List sl_V) (μ : sl_M) : Prop := match X with
  | (p, e, R, s, m, args, below, meth, c, cells, slots, Qp) => ∀ (H : Heap) (locs : List Loc) (ls : Array Slot), sl_Wd g μ H → va_S (sl_A g) s.heap H locs → sl_lh g ls nL cst lv → W p g.1 e R s m args below meth c H locs cells slots Qp (F0 m pc ls (st.map (sl_tv g)))
def sl_rmok (R : Room) (h cells slots : Nat) : Prop := h ≤ R.frames ∧ 64 * h ≤ R.locals ∧ cells ≤ R.cells ∧ slots ≤ R.slots
def sl_Fx (g : sl_G) (X : sl_X) (own : String) (cc : ByteArray) (nL h : Nat) : Prop := match X with
  | (p, _, R, s, m, args, _, _, c, cells, slots, _) => p.tables.exec = Jvm.exec ∧ c.code = cc ∧ c.maxLocals = nL ∧ s.vm.findClass own = some m.cls ∧ (∀ w ∈ sl_T0, w.before args s = true) ∧ sl_K g s ∧ sl_rmok R h cells slots
def sl_Qc (g : sl_G) (Q : sl_Qt) : Array Value → State → Outcome → State → Prop := fun _ st oc t => (∃ (r : Option sl_V) (μ' : sl_M), oc = .returned (r.map (sl_tv g)) ∧ (∀ v, r = some v → sl_wk v) ∧ Q r μ' ∧ sl_Wd g μ' t.heap) ∧ va_F (sl_A g) st t
def sl_Rt (g : sl_G) (X : sl_X) (rt : Option FieldType) (Q : sl_Qt) : Prop := match X with
  | (_, _, _, s, _, args, below, meth, _, cells, slots, Qp) => meth.sig.returnType = rt ∧ meth.locks = false ∧ Qp = MQ below (sl_Qc g Q) args s cells slots (sl_A g)
def sl_rm (h : Nat) : Room := { frames := h, cells := 0, slots := 0, locals := 64 * h }
def sl_Met (g : sl_G) (y : MethodName) (bytes : ByteArray) (maxL : Nat) (ret : Option FieldType) (h : Nat) (As : List sl_V) (μ : sl_M) (Q : sl_Qt) : Prop :=
  Met g.1 y (Cond.code y bytes maxL ret :: sl_T0) (sl_rm h) (va_Pc (As.map (sl_tv g)) (fun U => sl_Wd g μ U.heap ∧ sl_K g U)) (sl_Qc g Q) 0 0 (sl_A g)
def sl_Snd (g : sl_G) (y : MethodName) (bytes : ByteArray) (maxL : Nat) (ret : Option FieldType) (h : Nat) (pt : sl_PT) : Prop := ∀ (As : List sl_V) (μ : sl_M) (Q : sl_Qt), (∀ v ∈ As, sl_wk v) → pt As μ Q → sl_Met g y bytes maxL ret h As μ Q
def sl_ins (kind idx : Nat) : Instr := match kind with
  | 0 => .invokevirtual idx
  | _ => .invokestatic idx
def sl_CallS (g : sl_G) (own : String) (idx kind ci h n : Nat) (pt : sl_PT) : Prop :=
  ∀ (p : Program) (e : Env) (R : Room) (s : State) (m : MethodId) (args : Array Value) (below : List Frame) (meth : Method) (c : Code) (cells slots : Nat) (Qp : State → Prop) (cc : ByteArray) (nL : Nat), sl_Fx g (p, e, R, s, m, args, below, meth, c, cells, slots, Qp) own cc nL h →
  ∀ (pc : Nat), decode cc pc = .ok (sl_ins kind idx, 3) → ∀ (μ : sl_M) (H : Heap) (locs : List Loc) (ls : Array Slot) (As : List sl_V) (rest : List Value) (Q' : sl_Qt), As.length = n → (∀ v ∈ As, sl_wk v) → sl_recv kind ci As = true → sl_Wd g μ H → va_S (sl_A g) s.heap H locs → ls.size = nL → (rest.map fun v => v.category).sum ≤ 8 → pt As μ Q' →
  (∀ (r : Option sl_V) (μ' : sl_M) (H1 : Heap) (locs1 : List Loc), Q' r μ' → (∀ v, r = some v → sl_wk v) → sl_Wd g μ' H1 → va_S (sl_A g) s.heap H1 locs1 → W p g.1 e R s m args below meth c H1 locs1 cells slots Qp (F0 m (pc + 3) ls ((r.map (sl_tv g)).toList ++ rest))) →
  W p g.1 e R s m args below meth c H locs cells slots Qp (F0 m pc ls ((As.map (sl_tv g)).reverse ++ rest))
/-- a call goes on: from its run, by its contract -/
theorem sl_goes {g : sl_G} {p : Program} {e : Env} {R : Room} {s : State} {m : MethodId} {args : Array Value} {below : List Frame} {meth : Method} {c : Code} {H : Heap} {locs : List Loc} {cells slots : Nat} {Qp : State → Prop} {pc : Nat} {ls : Array Slot} {st0 rest : List Value} {a : Array Value} {Q' : sl_Qt}
    (hr : va_Run p g.1 e R s m args below meth c H locs cells slots 0 0 (F0 m pc ls st0) rest (sl_Qc g Q' a) (sl_A g)) (hS : va_S (sl_A g) s.heap H locs)
    (kk : ∀ (r : Option sl_V) (μ' : sl_M) (H1 : Heap) (locs1 : List Loc), Q' r μ' → (∀ v, r = some v → sl_wk v) → sl_Wd g μ' H1 → va_S (sl_A g) s.heap H1 locs1 → W p g.1 e R s m args below meth c H1 locs1 cells slots Qp (F0 m (pc + 3) ls ((r.map (sl_tv g)).toList ++ rest))) : W p g.1 e R s m args below meth c H locs cells slots Qp (F0 m pc ls st0) := by
  intro T hT X
  obtain ⟨v, st₀, t, T', L, h0, X', hL, e1, e2, ⟨⟨r, μ', hv, hw, hq, hd⟩, hz, hk⟩, st⟩ := hr T hT X
  cases hv
  rw [h0] at hz hk
  obtain ⟨t2, a1, b1⟩ := kk r μ' T'.heap (locs ++ L) hq hw (by rw [e1]; exact hd)
    ⟨Nat.le_trans hS.1 (by rw [e1]; exact hz), fun q h1 h2 => by rw [e1, hk q (Nat.lt_of_lt_of_le h1 hS.1) h2]; exact hS.2.1 q h1 h2, fun q hq => by
      rcases List.mem_append.mp hq with h | h
      · exact hS.2.2 q h
      · exact hL q h⟩ T' rfl X'
  exact ⟨t2, st t2 a1, b1⟩
theorem sl_blind {g : sl_G} {av : List Value} {μ : sl_M} : FrameBlind (va_Pc av (fun U => sl_Wd g μ U.heap ∧ sl_K g U)) := by
  intro a U gg mk q
  obtain ⟨q1, q2, q3, q4, q5, q6, q7, q8⟩ := q
  exact ⟨q1, q2, va_K.moved (u := U) (U := U.calling gg mk a) (Vm.Alike.refl U.vm) q3, vk_S.moved (u := U) (U := U.calling gg mk a) (Vm.Alike.refl U.vm) q4, fun o ho => vk_R.same (u := U) (U := U.calling gg mk a) rfl (q5 o ho), va_Z.moved (u := U) (U := U.calling gg mk a) (Vm.Alike.refl U.vm) q6, va_Zq.moved (u := U) (U := U.calling gg mk a) (Vm.Alike.refl U.vm) q7, fun z hz => va_Nw.same (u := U) (U := U.calling gg mk a) rfl rfl (q8 z hz)⟩
theorem sl_goodIn {y : MethodName} {bytes : ByteArray} {maxL : Nat} {ret : Option FieldType} (h : Cond.code y bytes maxL ret ∈ sl_T0) : GoodIn sl_T0 (Cond.code y bytes maxL ret :: sl_T0) := by
  intro w hw
  rcases List.mem_cons.mp hw with rfl | hw
  · exact ⟨h, good_of_word (sl_T0_good h)⟩
  · exact ⟨hw, good_of_word (sl_T0_good hw)⟩
theorem sl_callV {g : sl_G} {own : String} {idx ci h h' n N maxL : Nat} {T : u_T} {y : MethodName} {bytes : ByteArray} {ret : Option FieldType} {pt : sl_PT} (hs : sl_Snd g y bytes maxL ret h' pt) (hh : h' + 1 ≤ h) (hm : maxL ≤ 40)
    (w1 : Cond.methodLink own idx y ∈ sl_T0) (w2 : Cond.instanceMethod y ∈ sl_T0) (w3 : Cond.selects y.cls y y ∈ sl_T0) (w4 : Cond.initialized y.cls ∈ sl_T0) (w5 : Cond.code y bytes maxL ret ∈ sl_T0)
    (hd : y.cls ≠ "java/lang/invoke/MethodHandle" ∧ y.cls ≠ "java/lang/invoke/VarHandle" ∧ (parseMethodDescriptor y.desc).map (fun d => d.parameters.length) = some n) (hcl : sl_cl[ci]? = some (y.cls, T, N)) (hci : ci < 20) : sl_CallS g own idx 0 ci h (n + 1) pt := by
  intro p e R s m args below meth c cells slots Qp cc nL F pc hdec μ H locs ls As rest Q' hn hw hrc hWd hS hsz hcat hpt kk
  obtain ⟨hx, hb, hml, hown, hts, hK, hf, hl, hc, hsl⟩ := F
  match As, hn, hw, hrc, hpt with
  | .inr (.inr (some q)) :: As', hn, hw, hrc, hpt =>
    obtain ⟨c0, o⟩ := q
    have hc0 : c0 = ci := by simpa [sl_recv] using hrc
    subst hc0
    have hkd : sl_kd o = c0 := hw _ List.mem_cons_self (show c0 < 90 by omega)
    have ho : o < sl_N := sl_kd_lt (by rw [hkd]; omega)
    have had : sl_tv g (.inr (.inr (some (c0, o)))) = .ref (sl_b g + o) := by
      show Value.ref (sl_ad g c0 o) = _
      unfold sl_ad
      rw [if_pos (show c0 < 90 by omega)]
    have hE : sl_E g μ o = .inr (c0, (List.range (sl_nf c0)).map (sl_fv g μ c0 o)) := by
      unfold sl_E
      rw [hkd]
      have h20 : c0 ≠ 20 := by omega
      have h21 : c0 ≠ 21 := by omega
      have h22 : c0 ≠ 22 := by omega
      have h23 : c0 ≠ 23 := by omega
      have h24 : c0 ≠ 24 := by omega
      have h25 : c0 ≠ 25 := by omega
      split <;> first | (exact absurd rfl ‹_›) | contradiction | rfl
    have hget := sl_wl_get g μ ho
    rw [hE] at hget
    have hcw : CallW R s args own y.cls idx y bytes maxL ret (Cond.code y bytes maxL ret :: sl_T0) (sl_rm h') 0 0 n := by
      refine ⟨callB_of n hts (sl_goodIn w5) rfl rfl rfl (hts _ w4) (hts _ w1) hd ⟨?_, ?_⟩, hts _ w2, hts _ w3⟩
      · show h' + 1 ≤ R.frames
        omega
      · show 8 + (maxL + 11) + 64 * h' ≤ R.locals
        omega
    have hstk : ((.inr (.inr (some (c0, o))) :: As').map (sl_tv g)).reverse ++ rest = (As'.map (sl_tv g)).reverse ++ .ref (sl_b g + o) :: rest := by
      rw [List.map_cons, List.reverse_cons, had, List.append_assoc]
      rfl
    rw [hstk]
    refine sl_goes (va_runV (As := As'.map (sl_tv g)) (rest := rest) (C := y.cls) ⟨hx, hb, hml, hown, hts⟩ (hs _ μ Q' hw hpt) hcw ⟨sl_blind, va_recv hK.1 hWd hcl hget, fun U hU hWm => ⟨by rw [List.map_cons, had], by rw [hU]; exact hWd, sl_K.go (U := U) (locs := locs) hK (by rw [hU]; exact hS) hWm⟩⟩ rfl (by rw [List.length_map]; exact Nat.succ.inj hn) hsz rfl (lv_room hcat) hdec ⟨hc, hsl⟩) hS kk
  | [], hn, hw, hrc, hpt => cases hrc
  | .inl _ :: _, hn, hw, hrc, hpt => cases hrc
  | .inr (.inl _) :: _, hn, hw, hrc, hpt => cases hrc
  | .inr (.inr none) :: _, hn, hw, hrc, hpt => cases hrc
theorem sl_callS {g : sl_G} {own : String} {idx h h' n maxL : Nat} {y : MethodName} {bytes : ByteArray} {ret : Option FieldType} {pt : sl_PT} (hs : sl_Snd g y bytes maxL ret h' pt) (hh : h' + 1 ≤ h) (hm : maxL ≤ 40)
    (w1 : Cond.methodLink own idx y ∈ sl_T0) (w2 : Cond.static y ∈ sl_T0) (w4 : Cond.initialized y.cls ∈ sl_T0) (w5 : Cond.code y bytes maxL ret ∈ sl_T0)
    (hd : y.cls ≠ "java/lang/invoke/MethodHandle" ∧ y.cls ≠ "java/lang/invoke/VarHandle" ∧ (parseMethodDescriptor y.desc).map (fun d => d.parameters.length) = some n) : sl_CallS g own idx 1 0 h n pt := by
  intro p e R s m args below meth c cells slots Qp cc nL F pc hdec μ H locs ls As rest Q' hn hw hrc hWd hS hsz hcat hpt kk
  obtain ⟨hx, hb, hml, hown, hts, hK, hf, hl, hc, hsl⟩ := F
  have hcw : CallB R s args own idx y bytes maxL ret (Cond.code y bytes maxL ret :: sl_T0) (sl_rm h') 0 0 n ∧ (Cond.static y).before args s = true := by
    refine ⟨callB_of n hts (sl_goodIn w5) rfl rfl rfl (hts _ w4) (hts _ w1) hd ⟨?_, ?_⟩, hts _ w2⟩
    · show h' + 1 ≤ R.frames
      omega
    · show 8 + (maxL + 11) + 64 * h' ≤ R.locals
      omega
  refine sl_goes (va_runS (As := As.map (sl_tv g)) (rest := rest) ⟨hx, hb, hml, hown, hts⟩ (hs _ μ Q' hw hpt) hcw ⟨sl_blind, fun U hU hWm => ⟨rfl, by rw [hU]; exact hWd, sl_K.go (U := U) (locs := locs) hK (by rw [hU]; exact hS) hWm⟩⟩ rfl (by rw [List.length_map]; exact hn) hsz rfl (lv_room hcat) hdec ⟨hc, hsl⟩) hS kk
theorem sl_callN {g : sl_G} {own host : String} {idx h h' n maxL : Nat} {y : MethodName} {bytes : ByteArray} {ret : Option FieldType} {pt : sl_PT} (hs : sl_Snd g y bytes maxL ret h' pt) (hh : h' + 1 ≤ h) (hm : maxL ≤ 40)
    (w1 : (own, idx, y, host) ∈ sl_nest) (w2 : Cond.static y ∈ sl_T0) (w4 : Cond.initialized y.cls ∈ sl_T0) (w5 : Cond.code y bytes maxL ret ∈ sl_T0)
    (hd : y.cls ≠ "java/lang/invoke/MethodHandle" ∧ y.cls ≠ "java/lang/invoke/VarHandle" ∧ (parseMethodDescriptor y.desc).map (fun d => d.parameters.length) = some n) : sl_CallS g own idx 1 0 h n pt := by
  intro p e R s m args below meth c cells slots Qp cc nL F pc hdec μ H locs ls As rest Q' hn hw hrc hWd hS hsz hcat hpt kk
  obtain ⟨hx, hb, hml, hown, hts, hK, hf, hl, hc, hsl⟩ := F
  have hcw : va_CN R s args own idx y host bytes maxL ret (Cond.code y bytes maxL ret :: sl_T0) (sl_rm h') 0 0 n ∧ (Cond.static y).before args s = true ∧ True := by
    refine ⟨va_cnB n hts (sl_goodIn w5) rfl rfl rfl (hK.2.2.2.2.2 _ w1) (hts _ w4) hd ⟨?_, ?_⟩, hts _ w2, trivial⟩
    · show h' + 1 ≤ R.frames
      omega
    · show 8 + (maxL + 11) + 64 * h' ≤ R.locals
      omega
  refine sl_goes (va_runSN (As := As.map (sl_tv g)) (rest := rest) ⟨hx, hb, hml, hown, hts⟩ (hs _ μ Q' hw hpt) hcw ⟨sl_blind, fun U hU hWm => ⟨rfl, by rw [hU]; exact hWd, sl_K.go (U := U) (locs := locs) hK (by rw [hU]; exact hS) hWm⟩⟩ rfl (by rw [List.length_map]; exact hn) hsz rfl (lv_room hcat) hdec ⟨hc, hsl⟩) hS kk
end
section
/-! the tables' check of an instruction, and its step -/
def sl_tsOK (pc : Nat) : Int → List Int → List (Int32 × Nat) → Bool
  | _, [], [] => true
  | lo, o :: os, q :: r => decide (q.1.toInt = lo) && (decide ((pc : Int) + o = (q.2 : Int)) && sl_tsOK pc (lo + 1) os r)
  | _, _, _ => false
def sl_lsOK (pc : Nat) : List (Int × Int) → List (Int32 × Nat) → Bool
  | [], [] => true
  | a :: os, q :: r => decide (q.1.toInt = a.1) && (decide ((pc : Int) + a.2 = (q.2 : Int)) && sl_lsOK pc os r)
  | _, _ => false
/-- the links of a class: fields (index, class, place), ints and longs (index, value) -/
abbrev sl_Lk : Type := List (Nat × Nat × Nat) × List (Nat × Int32) × List (Nat × Int32)
def sl_LkOK (own : String) (lk : sl_Lk) : Prop := (∀ q ∈ lk.1, ∃ (C : String) (T : u_T) (N : Nat) (t0 : Nat → FieldType), sl_cl[q.2.1]? = some (C, T, N) ∧ q.2.2 < N ∧ (T q.2.2).1 = C ∧ Cond.fieldLink own q.1 C (T q.2.2).2.1 (T q.2.2).2.2.1 ∈ sl_T0 ∧ (∀ w ∈ u_ws C T N, w ∈ sl_T0) ∧ (∀ k, k < N → parseFieldDescriptor (T k).2.2.1 = some (t0 k)) ∧ (∀ a, a < N → ∀ b, b < N → a ≠ b → (T a).2.1 ≠ (T b).2.1)) ∧ (∀ q ∈ lk.2.1, Cond.constant own q.1 q.2 ∈ sl_T0) ∧ ∀ q ∈ lk.2.2, Cond.constantLong own q.1 q.2.toInt64 ∈ sl_T0
/-- a field that may be written: its kind agrees with its descriptor, it isn't final -/
def sl_pfOK (c k ty : Nat) : Bool := match sl_cl[c]? with
  | some q => (q.2.1 k).2.2.2 == false && (match ty with
    | 0 => (q.2.1 k).2.2.1 == "I"
    | 1 => (q.2.1 k).2.2.1 == "Z"
    | _ => false)
  | none => false
def sl_okE (own : String) (nL : Nat) (rt : Option FieldType) (lk : sl_Lk) (cx : List (Nat × Nat)) (e : sl_Ent) : Bool := match e with
  | (pc, ins, len, x, d, sw, _) => match ins with
    | .iconst n => decide (Int32.ofInt n = x) && decide (len = 1)
    | .bipush n => decide ((Int8.ofInt n).toInt32 = x) && decide (len = 2)
    | .sipush n => decide ((Int16.ofInt n).toInt32 = x) && decide (len = 3)
    | .ldc i => decide (len = 2) && (match d with
      | [] => lk.2.1.contains (i, x)
      | o :: _ => decide (o < 2) && (decide (own = sl_own o) && decide (i = sl_six o)))
    | .ldc_w i => decide (len = 3) && lk.2.1.contains (i, x)
    | .lconst n => decide (Int64.ofNat (n : Nat) = x.toInt64) && decide (len = 1)
    | .ldc2_w i => decide (len = 3) && lk.2.2.contains (i, x)
    | .iload _ => decide (len = 2)
    | .lload _ => decide (len = 2)
    | .aload _ => decide (len = 2)
    | .iload_n k => decide (len = 1) && decide ((k : Nat) = d.headD 0)
    | .lload_n k => decide (len = 1) && decide ((k : Nat) = d.headD 0)
    | .aload_n k => decide (len = 1) && decide ((k : Nat) = d.headD 0)
    | .istore i => decide (len = 2) && decide (i < nL)
    | .lstore i => decide (len = 2) && decide (i + 1 < nL)
    | .astore i => decide (len = 2) && decide (i < nL)
    | .istore_n k => decide (len = 1) && (decide ((k : Nat) = d.headD 0) && decide (d.headD 0 < nL))
    | .lstore_n k => decide (len = 1) && (decide ((k : Nat) = d.headD 0) && decide (d.headD 0 + 1 < nL))
    | .astore_n k => decide (len = 1) && (decide ((k : Nat) = d.headD 0) && decide (d.headD 0 < nL))
    | .iinc i n => decide (len = 3) && (decide (Int32.ofInt n = x) && decide (i < nL))
    | .ifCond _ off => decide (len = 3) && decide ((pc : Int) + off = ((d.headD 0 : Nat) : Int))
    | .if_icmp _ off => decide (len = 3) && decide ((pc : Int) + off = ((d.headD 0 : Nat) : Int))
    | .ifnull off => decide (len = 3) && decide ((pc : Int) + off = ((d.headD 0 : Nat) : Int))
    | .ifnonnull off => decide (len = 3) && decide ((pc : Int) + off = ((d.headD 0 : Nat) : Int))
    | .goto off => decide (len = 3) && decide ((pc : Int) + off = ((d.headD 0 : Nat) : Int))
    | .tableswitch dflt lo hi offs => decide ((pc : Int) + dflt = ((d.headD 0 : Nat) : Int)) && (decide (hi + 1 = lo + (offs.toList.length : Int)) && sl_tsOK pc lo offs.toList sw)
    | .lookupswitch dflt ps => decide ((pc : Int) + dflt = ((d.headD 0 : Nat) : Int)) && ((ps.toList.zip (ps.toList.drop 1)).all (fun (a, next) => a.1 < next.1) && sl_lsOK pc ps.toList sw)
    | .ireturn => decide (len = 1) && (match d with
      | [] => decide (rt = some .int)
      | _ => decide (rt = some .boolean))
    | .lreturn => decide (len = 1) && decide (rt = some .long)
    | .areturn => decide (len = 1) && (match rt with
      | some (.object _) => true
      | _ => false)
    | .return_ => decide (len = 1) && decide (rt = none)
    | .getfield i => decide (len = 3) && (match d with
      | [c, k, ty, rc, off] => lk.1.contains (i, c, k) && (decide (sl_fi c k = (ty, rc, off)) && (decide (c < 20) && (decide (k < sl_nf c) && decide (rc < 90))))
      | _ => false)
    | .putfield i => decide (len = 3) && (match d with
      | [c, k, ty] => lk.1.contains (i, c, k) && (decide ((sl_fi c k).1 = ty) && (sl_pfOK c k ty && (decide (c < 20) && decide (k < sl_nf c))))
      | _ => false)
    | .invokevirtual i => decide (len = 3) && decide (cx[d.headD 0]? = some (i, 0))
    | .invokestatic i => decide (len = 3) && decide (cx[d.headD 0]? = some (i, 1))
    | _ => decide (len = 1)
def sl_HC (g : sl_G) (own : String) (h : Nat) (ct : List sl_Ct) (cx : List (Nat × Nat)) : Prop := ∀ (j : Nat) (q : sl_Ct), ct[j]? = some q → ∃ idx : Nat, cx[j]? = some (idx, q.2.1) ∧ sl_CallS g own idx q.2.1 q.2.2.1 h q.1 q.2.2.2
theorem sl_HC_nil (g : sl_G) (own : String) (h : Nat) : sl_HC g own h [] [] := fun j q hq => by simp at hq
theorem sl_HC_cons {g : sl_G} {own : String} {h : Nat} {ct : List sl_Ct} {cx : List (Nat × Nat)} {idx kind ci n : Nat} {pt : sl_PT} (h1 : sl_CallS g own idx kind ci h n pt) (h2 : sl_HC g own h ct cx) : sl_HC g own h ((n, kind, ci, pt) :: ct) ((idx, kind) :: cx) := by
  intro j q hq
  cases j with
  | zero =>
    simp at hq
    subst hq
    exact ⟨idx, rfl, h1⟩
  | succ j =>
    obtain ⟨i, a, b⟩ := h2 j q (by simpa using hq)
    exact ⟨i, by simpa using a, b⟩
theorem sl_pop_spec : ∀ (n : Nat) (acc st as st' : List sl_V), sl_pop n acc st = some (as, st') → acc.reverse ++ st = as.reverse ++ st' ∧ as.length = acc.length + n ∧ (∀ v ∈ as, v ∈ acc ∨ v ∈ st) ∧ ∀ v ∈ st', v ∈ st := by
  intro n
  induction n with
  | zero =>
    intro acc st as st' h
    cases h
    exact ⟨rfl, rfl, fun v h => Or.inl h, fun v h => h⟩
  | succ n ih =>
    intro acc st as st' h
    cases st with
    | nil => cases h
    | cons v st =>
      obtain ⟨h1, h2, h3, h4⟩ := ih (v :: acc) st as st' h
      refine ⟨by rw [← h1]; simp, by rw [h2]; simp; omega, fun w hw => ?_, fun w hw => List.mem_cons_of_mem _ (h4 w hw)⟩
      rcases h3 w hw with h | h
      · rcases List.mem_cons.mp h with rfl | h
        · exact Or.inr List.mem_cons_self
        · exact Or.inl h
      · exact Or.inr (List.mem_cons_of_mem _ h)
theorem sl_cat_map (g : sl_G) (st : List sl_V) : (List.map (fun v => v.category) (st.map (sl_tv g))).sum = sl_cat st := by
  induction st with
  | nil => rfl
  | cons v st ih =>
    have hv : (sl_tv g v).category = sl_ctg v := by
      match v with
      | .inl x => rfl
      | .inr (.inl x) => rfl
      | .inr (.inr none) => rfl
      | .inr (.inr (some q)) => rfl
    simp only [List.map_cons, List.sum_cons, sl_cat]
    rw [ih, hv]
theorem sl_ts_spec {pc : Nat} {v : Int32} {D : Prop} {J : Nat → Prop} : ∀ (os : List Int) (sw : List (Int32 × Nat)) (lo : Int), sl_tsOK pc lo os sw = true → sl_sw v D J sw → (∃ (i : Nat) (o : Int) (t : Nat), os[i]? = some o ∧ v.toInt = lo + (i : Int) ∧ (pc : Int) + o = (t : Int) ∧ J t) ∨ ((v.toInt < lo ∨ lo + (os.length : Int) ≤ v.toInt) ∧ D) := by
  intro os
  induction os with
  | nil =>
    intro sw lo h1 h2
    cases sw with
    | nil => exact Or.inr ⟨by simp; omega, h2⟩
    | cons q r => cases h1
  | cons o os ih =>
    intro sw lo h1 h2
    cases sw with
    | nil => cases h1
    | cons q r =>
      simp only [sl_tsOK, Bool.and_eq_true, decide_eq_true_eq] at h1
      obtain ⟨e1, e2, e3⟩ := h1
      by_cases hv : v = q.1
      · exact Or.inl ⟨0, o, q.2, rfl, by rw [hv, e1]; simp, e2, h2.1 hv⟩
      · have hne : ¬ v.toInt = lo := fun h => hv (Int32.toInt_inj.mp (h.trans e1.symm))
        rcases ih r (lo + 1) e3 (h2.2 hv) with ⟨i, o', t, g1, g2, g3, g4⟩ | ⟨g1, g2⟩
        · exact Or.inl ⟨i + 1, o', t, by simpa using g1, by rw [g2]; push_cast; omega, g3, g4⟩
        · refine Or.inr ⟨?_, g2⟩
          simp only [List.length_cons]
          push_cast
          rcases g1 with g1 | g1
          · left; omega
          · right; omega
theorem sl_ls_spec {pc : Nat} {v : Int32} {D : Prop} {J : Nat → Prop} {dflt : Int} {t0 : Nat} (h0 : (pc : Int) + dflt = (t0 : Int)) (hD : D → J t0) : ∀ (os : List (Int × Int)) (sw : List (Int32 × Nat)), sl_lsOK pc os sw = true → sl_sw v D J sw → ∃ (o : Int) (t : Nat), Op.lookupswitch.offset os dflt v.toInt = o ∧ (pc : Int) + o = (t : Int) ∧ J t := by
  intro os
  induction os with
  | nil =>
    intro sw h1 h2
    cases sw with
    | nil => exact ⟨dflt, t0, rfl, h0, hD h2⟩
    | cons q r => cases h1
  | cons o os ih =>
    intro sw h1 h2
    cases sw with
    | nil => cases h1
    | cons q r =>
      obtain ⟨a, o⟩ := o
      simp only [sl_lsOK, Bool.and_eq_true, decide_eq_true_eq] at h1
      obtain ⟨e1, e2, e3⟩ := h1
      by_cases hv : v = q.1
      · refine ⟨o, q.2, ?_, e2, h2.1 hv⟩
        rw [Op.lookupswitch.offset_cons, if_pos (by rw [hv, e1])]
      · obtain ⟨o', t, g1, g2, g3⟩ := ih r e3 (h2.2 hv)
        exact ⟨o', t, by rw [lv_osw hv e1]; exact g1, g2, g3⟩
end
section
/-! each instruction's step -/
def sl_wkL (lv : sl_L) : Prop := ∀ (i : Nat) (v : sl_V), sl_nth lv i = some v → sl_wk v
def sl_wkS (st : List sl_V) : Prop := ∀ v ∈ st, sl_wk v
theorem sl_wkS.cons {v : sl_V} {st : List sl_V} (h : sl_wk v) (hs : sl_wkS st) : sl_wkS (v :: st) := fun w hw => by
  rcases List.mem_cons.mp hw with rfl | hw
  · exact h
  · exact hs w hw
theorem sl_wkS.tl {v : sl_V} {st : List sl_V} (hs : sl_wkS (v :: st)) : sl_wkS st := fun w hw => hs w (List.mem_cons_of_mem _ hw)
theorem sl_wkS.hd {v : sl_V} {st : List sl_V} (hs : sl_wkS (v :: st)) : sl_wk v := hs v List.mem_cons_self
theorem sl_wkL.set {lv : sl_L} {i : Nat} {v : Option sl_V} (h : sl_wkL lv) (hv : ∀ w, v = some w → sl_wk w) : sl_wkL (sl_set lv i v) := by
  intro j w hj
  by_cases e : j = i
  · subst e
    exact hv w (sl_nth_set_self hj)
  · rw [sl_nth_set e] at hj
    exact h j w hj
theorem sl_wkL.sto {lv : sl_L} {i : Nat} {v : Option sl_V} (h : sl_wkL lv) (hv : ∀ w, v = some w → sl_wk w) : sl_wkL (sl_sto lv i v) := by
  refine sl_wkL.set (lv := sl_kl lv i) (fun j w hj => ?_) hv
  rw [sl_nth_kl] at hj
  split at hj
  · exact h j w (sl_kill_some hj).1
  · exact h j w hj
theorem sl_get_wk {cst lv : sl_L} {i : Nat} {v : sl_V} (hc : sl_wkL cst) (hl : sl_wkL lv) (h : sl_get cst lv i = some v) : sl_wk v := by
  unfold sl_get at h
  cases e : sl_nth cst i with
  | none => rw [e] at h; exact hl i v h
  | some w =>
    rw [e] at h
    obtain rfl := Option.some.inj h
    exact hc i w e
theorem sl_ldi_inv {cst lv : sl_L} {i : Nat} {K : sl_V → Prop} (h : sl_ldi cst lv i K) : ∃ r, sl_get cst lv i = some (.inl r) ∧ K (.inl r) := by
  unfold sl_ldi at h
  split at h
  next r e => exact ⟨r, e, h⟩
  next => exact h.elim
theorem sl_ldj_inv {cst lv : sl_L} {i : Nat} {K : sl_V → Prop} (h : sl_ldj cst lv i K) : ∃ r, sl_get cst lv i = some (.inr (.inl r)) ∧ K (.inr (.inl r)) := by
  unfold sl_ldj at h
  split at h
  next r e => exact ⟨r, e, h⟩
  next => exact h.elim
theorem sl_ldr_inv {cst lv : sl_L} {i : Nat} {K : sl_V → Prop} (h : sl_ldr cst lv i K) : ∃ r, sl_get cst lv i = some (.inr (.inr r)) ∧ K (.inr (.inr r)) := by
  unfold sl_ldr at h
  split at h
  next r e => exact ⟨r, e, h⟩
  next => exact h.elim
theorem sl_sti_inv {cst lv : sl_L} {i : Nat} {nm : List Nat} {st : List sl_V} {K : sl_L → List sl_V → Prop} (h : sl_sti cst lv i nm st K) : ∃ v st', st = .inl v :: st' ∧ sl_wr cst i = true ∧ K (sl_sto lv i (some (.inl v))) st' := by
  unfold sl_sti at h
  split at h
  next v st' =>
    split at h
    next hw =>
      refine ⟨v, st', rfl, hw, ?_⟩
      split at h
      · exact h
      · exact h v rfl
    next => exact h.elim
  next => exact h.elim
theorem sl_str_inv {cst lv : sl_L} {i : Nat} {st : List sl_V} {K : sl_L → List sl_V → Prop} (h : sl_str cst lv i st K) : ∃ v st', st = .inr (.inr v) :: st' ∧ sl_wr cst i = true ∧ K (sl_sto lv i (some (.inr (.inr v)))) st' := by
  unfold sl_str at h
  split at h
  next v st' =>
    split at h
    next hw => exact ⟨v, st', rfl, hw, h⟩
    next => exact h.elim
  next => exact h.elim
theorem sl_stj_inv {cst lv : sl_L} {i : Nat} {st : List sl_V} {K : sl_L → List sl_V → Prop} (h : sl_stj cst lv i st K) : ∃ v st', st = .inr (.inl v) :: st' ∧ sl_wr cst i = true ∧ sl_nth cst (i + 1) = none ∧ K (sl_set (sl_sto lv i (some (.inr (.inl v)))) (i + 1) none) st' := by
  unfold sl_stj at h
  split at h
  next v st' =>
    split at h
    next hw =>
      split at h
      next hw2 => exact ⟨v, st', rfl, hw, Option.isNone_iff_eq_none.mp hw2, h⟩
      next => exact h.elim
    next => exact h.elim
  next => exact h.elim
theorem sl_bin_inv {f : Int32 → Int32 → Int32} {st : List sl_V} {K : List sl_V → Prop} (h : sl_bin f st K) : ∃ x y st', st = .inl y :: .inl x :: st' ∧ K (.inl (f x y) :: st') := by
  unfold sl_bin at h
  split at h
  next y x st' => exact ⟨x, y, st', rfl, h⟩
  next => exact h.elim
theorem sl_bij_inv {f : Int64 → Int64 → Int64} {st : List sl_V} {K : List sl_V → Prop} (h : sl_bij f st K) : ∃ x y st', st = .inr (.inl y) :: .inr (.inl x) :: st' ∧ K (.inr (.inl (f x y)) :: st') := by
  unfold sl_bij at h
  split at h
  next y x st' => exact ⟨x, y, st', rfl, h⟩
  next => exact h.elim
theorem sl_call_inv {ct : List sl_Ct} {j : Nat} {st : List sl_V} {μ : sl_M} {K : List sl_V → sl_M → Prop} (h : sl_call ct j st μ K) : ∃ q as st', ct[j]? = some q ∧ sl_pop q.1 [] st = some (as, st') ∧ sl_cat st' ≤ 8 ∧ sl_recv q.2.1 q.2.2.1 as = true ∧ q.2.2.2 as μ (fun r μ' => K (r.toList ++ st') μ') := by
  unfold sl_call at h
  split at h
  next q e =>
    split at h
    next w e2 =>
      split at h
      next h8 =>
        split at h
        next hr => exact ⟨q, w.1, w.2, e, e2, h8, hr, h⟩
        next => exact h.elim
      next => exact h.elim
    next => exact h.elim
  next => exact h.elim
theorem sl_bz_fit {v : Int32} (h : sl_bz v = v) : v = 0 ∨ v = 1 := by
  unfold sl_bz at h
  split at h
  · exact Or.inl h.symm
  · exact Or.inr h.symm
theorem sl_bz_nar {v : Int32} (h : sl_bz v = v) : narrow .boolean (.int v) = .int v ∧ fits .boolean (.int v) = true ∧ vp_nar .boolean v = v := by
  rcases sl_bz_fit h with rfl | rfl
  · exact ⟨rfl, rfl, rfl⟩
  · exact ⟨rfl, rfl, rfl⟩
theorem sl_refT : (List.range sl_N).all (fun o => (List.range (sl_nf (sl_kd o))).all (fun k => decide ((sl_fi (sl_kd o) k).1 < 2) || decide (sl_kd (o + (sl_fi (sl_kd o) k).2.2) = (sl_fi (sl_kd o) k).2.1))) = true := by decide +kernel
theorem sl_ref_kd {o c k ty rc off : Nat} (hc : sl_kd o = c) (hc20 : c < 20) (hk : k < sl_nf c) (hf : sl_fi c k = (ty, rc, off)) (ht : ¬ ty < 2) : sl_kd (o + off) = rc := by
  have ho : o < sl_N := sl_kd_lt (by rw [hc]; omega)
  have h1 := List.all_eq_true.mp (List.all_eq_true.mp sl_refT o (List.mem_range.mpr ho)) k (List.mem_range.mpr (by rw [hc]; exact hk))
  rw [hc, hf] at h1
  simp only [Bool.or_eq_true, decide_eq_true_eq] at h1
  rcases h1 with h1 | h1
  · exact absurd h1 ht
  · exact h1
theorem sl_arT : (List.range sl_N).all (fun o => (List.range (sl_len o)).all (fun i => (decide (sl_kd o ≠ 22) || decide (sl_kd (o + 2 + i) = 9)) && ((decide (sl_kd o ≠ 24) || decide (sl_kd (o + 48 + 2 * i) = 4)) && (decide (sl_kd o ≠ 25) || decide (sl_kd (o + 40 + 2 * i) = 8))))) = true := by decide +kernel
theorem sl_ar_kd {o i : Nat} (hi : i < sl_len o) (ho : o < sl_N) : (sl_kd o = 22 → sl_kd (o + 2 + i) = 9) ∧ (sl_kd o = 24 → sl_kd (o + 48 + 2 * i) = 4) ∧ (sl_kd o = 25 → sl_kd (o + 40 + 2 * i) = 8) := by
  have h1 := List.all_eq_true.mp (List.all_eq_true.mp sl_arT o (List.mem_range.mpr ho)) i (List.mem_range.mpr hi)
  simp only [Bool.and_eq_true, Bool.or_eq_true, decide_eq_true_eq] at h1
  obtain ⟨h1, h2, h3⟩ := h1
  exact ⟨fun q => h1.elim (fun z => absurd q z) id, fun q => h2.elim (fun z => absurd q z) id, fun q => h3.elim (fun z => absurd q z) id⟩
theorem sl_E_obj (g : sl_G) (μ : sl_M) {o c : Nat} (hkd : sl_kd o = c) (hc : c < 20) : sl_E g μ o = .inr (c, (List.range (sl_nf c)).map (sl_fv g μ c o)) := by
  unfold sl_E
  rw [hkd]
  split <;> first | omega | rfl
theorem sl_in_lt {i : Int32} {n : Nat} (h : vp_in i n) : i.toNatClampNeg < n := Nat.not_le.mp fun q => h (Or.inr q)
theorem sl_flds_set {g : sl_G} {μ : sl_M} {c o k : Nat} {v : Int32} (hv : sl_fv g (sl_up μ o k v) c o k = .int v) : ((List.range (sl_nf c)).map (sl_fv g μ c o)).set k (.int v) = (List.range (sl_nf c)).map (sl_fv g (sl_up μ o k v) c o) := by
  apply List.ext_getElem?
  intro j
  rw [List.getElem?_set]
  by_cases hj : k = j
  · subst hj
    rw [if_pos rfl]
    by_cases hl : k < sl_nf c
    · rw [if_pos (by simpa using hl), List.getElem?_map, List.getElem?_range hl]
      show _ = some (sl_fv g (sl_up μ o k v) c o k)
      rw [hv]
    · rw [if_neg (by simpa using hl), List.getElem?_eq_none (by simpa using Nat.le_of_not_lt hl)]
  · rw [if_neg hj, List.getElem?_map, List.getElem?_map]
    by_cases hl : j < sl_nf c
    · rw [List.getElem?_range hl]
      have e : sl_up μ o k v o j = μ o j := by
        unfold sl_up
        rw [if_neg (fun q => hj q.2.symm)]
      show some (sl_fv g μ c o j) = some (sl_fv g (sl_up μ o k v) c o j)
      unfold sl_fv
      rw [e]
    · rw [List.getElem?_eq_none (by simpa using Nat.le_of_not_lt hl)]
      rfl
theorem sl_fv_0 {g : sl_G} {μ : sl_M} {c o k : Nat} (h : (sl_fi c k).1 = 0) : sl_fv g μ c o k = .int (μ o k) := by
  unfold sl_fv
  generalize sl_fi c k = q at h ⊢
  obtain ⟨a, b, d⟩ := q
  simp only at h
  subst h
  rfl
theorem sl_fv_1 {g : sl_G} {μ : sl_M} {c o k : Nat} (h : (sl_fi c k).1 = 1) : sl_fv g μ c o k = .int (sl_bz (μ o k)) := by
  unfold sl_fv
  generalize sl_fi c k = q at h ⊢
  obtain ⟨a, b, d⟩ := q
  simp only at h
  subst h
  rfl
theorem sl_tv_ref {g : sl_G} {c o : Nat} (h : c < 90) : sl_tv g (.inr (.inr (some (c, o)))) = .ref (sl_b g + o) := by
  show Value.ref (sl_ad g c o) = _
  unfold sl_ad
  rw [if_pos h]
section STEP
variable {g : sl_G} {X : sl_X} {own : String} {cc : ByteArray} {nL hh : Nat} {rt : Option FieldType} {Q : sl_Qt} {lk : sl_Lk} {cx : List (Nat × Nat)} {ct : List sl_Ct} {cst : sl_L} {pc : Nat} {lv : sl_L} {st : List sl_V} {μ : sl_M}
theorem sl_s_getf (F : sl_Fx g X own cc nL hh) (HL : sl_LkOK own lk) (ws : sl_wkS st) {i : Nat} {d : List Nat} (hdec : decode cc pc = .ok (.getfield i, 3)) (hok : (match d with
      | [c, k, ty, rc, off] => lk.1.contains (i, c, k) && (decide (sl_fi c k = (ty, rc, off)) && (decide (c < 20) && (decide (k < sl_nf c) && decide (rc < 90))))
      | _ => false) = true) {K : List sl_V → Prop} (h : sl_getf d st μ K) (hK : ∀ st', sl_wkS st' → K st' → sl_Vw g X nL cst (pc + 3) lv st' μ) : sl_Vw g X nL cst pc lv st μ := by
  unfold sl_getf at h
  split at h
  next c k ty rc off q st' =>
    obtain ⟨c0, o⟩ := q
    split at h
    next hc0 =>
      simp only at hc0
      subst hc0
      simp only [Bool.and_eq_true, decide_eq_true_eq] at hok
      obtain ⟨hm, hfi, hc20, hknf, hrc⟩ := hok
      obtain ⟨C, T, N, t0, q1, q2, q3, q4, q5, q6, q7⟩ := HL.1 _ (List.contains_iff_mem.mp hm)
      simp only at q1 q2 q3 q4 q5 q6 q7
      have hkd : sl_kd o = c0 := ws.hd (show c0 < 90 by omega)
      have ho : o < sl_N := sl_kd_lt (by rw [hkd]; omega)
      have hget := sl_wl_get g μ ho
      rw [sl_E_obj g μ hkd hc20] at hget
      obtain ⟨p, e, R, s, m, args, below, meth, c, cells, slots, Qp⟩ := X
      intro H locs ls hW hS hl
      obtain ⟨hx, hb, hml, hown, hts, hK0, hrm⟩ := id F
      have key : ∀ (v : sl_V), sl_wk v → sl_fv g μ c0 o k = sl_tv g v → K (v :: st') → W p g.1 e R s m args below meth c H locs cells slots Qp (F0 m pc ls ((Sum.inr (Sum.inr (some (c0, o))) :: st').map (sl_tv g))) := by
        intro v hv he hk
        rw [List.map_cons, sl_tv_ref (show c0 < 90 by omega)]
        exact va_get (C := C) (T := T) (N := N) (v := sl_tv g v) hx hb hts q5 hown hK0.1 hW o hget q1 k q2 (hts _ q4) (fun x hx => by rw [q3] at hx; exact hx) (by rw [List.getElem?_map, List.getElem?_range hknf]; show some (sl_fv g μ c0 o k) = _; rw [he]) hdec (hK _ (ws.tl.cons hv) hk H locs ls hW hS hl)
      split at h
      next => exact key (.inl _) trivial (by unfold sl_fv; rw [hfi]; rfl) h
      next => exact key (.inl _) trivial (by unfold sl_fv; rw [hfi]; rfl) h
      next h0 h1 =>
        have hty : ¬ ty < 2 := by
          intro hlt
          have : ty = 0 ∨ ty = 1 := by omega
          rcases this with e | e
          · exact h0 e
          · exact h1 e
        refine key (.inr (.inr (some (rc, o + off)))) (fun _ => sl_ref_kd hkd hc20 hknf hfi hty) ?_ h
        rw [sl_tv_ref hrc]
        unfold sl_fv
        rw [hfi]
        split
        next e => exact absurd (congrArg Prod.fst e) h0
        next e => exact absurd (congrArg Prod.fst e) h1
        next => 
          rename_i e
          cases e
          rfl
    next => exact h.elim
  next => exact h.elim
theorem sl_s_putf (F : sl_Fx g X own cc nL hh) (HL : sl_LkOK own lk) (ws : sl_wkS st) {i : Nat} {d : List Nat} (hdec : decode cc pc = .ok (.putfield i, 3)) (hok : (match d with
      | [c, k, ty] => lk.1.contains (i, c, k) && (decide ((sl_fi c k).1 = ty) && (sl_pfOK c k ty && (decide (c < 20) && decide (k < sl_nf c))))
      | _ => false) = true) {K : List sl_V → sl_M → Prop} (h : sl_putf d st μ K) (hK : ∀ st' μ', sl_wkS st' → K st' μ' → sl_Vw g X nL cst (pc + 3) lv st' μ') : sl_Vw g X nL cst pc lv st μ := by
  unfold sl_putf at h
  split at h
  next c k ty v q st' =>
    obtain ⟨c0, o⟩ := q
    split at h
    next hc0 =>
      simp only at hc0
      subst hc0
      simp only [Bool.and_eq_true, decide_eq_true_eq] at hok
      obtain ⟨hm, hfi, hpf, hc20, hknf⟩ := hok
      obtain ⟨C, T, N, t0, q1, q2, q3, q4, q5, q6, q7⟩ := HL.1 _ (List.contains_iff_mem.mp hm)
      simp only at q1 q2 q3 q4 q5 q6 q7
      have hkd : sl_kd o = c0 := ws.tl.hd (show c0 < 90 by omega)
      have ho : o < sl_N := sl_kd_lt (by rw [hkd]; omega)
      have hget := sl_wl_get g μ ho
      rw [sl_E_obj g μ hkd hc20] at hget
      obtain ⟨p, e, R, s, m, args, below, meth, c, cells, slots, Qp⟩ := X
      intro H locs ls hW hS hl
      obtain ⟨hx, hb, hml, hown, hts, hK0, hrm⟩ := id F
      unfold sl_pfOK at hpf
      rw [q1] at hpf
      simp only [Bool.and_eq_true, beq_iff_eq] at hpf
      obtain ⟨hfin, hty⟩ := hpf
      have key : ∀ (ft : FieldType), parseFieldDescriptor (T k).2.2.1 = some ft → narrow ft (.int v) = .int v → fits ft (.int v) = true → sl_fv g (sl_up μ o k v) c0 o k = .int v → K st' (sl_up μ o k v) → W p g.1 e R s m args below meth c H locs cells slots Qp (F0 m pc ls ((Sum.inl v :: Sum.inr (Sum.inr (some (c0, o))) :: st').map (sl_tv g))) := by
        intro ft h1 h2 h3 h4 hk
        rw [List.map_cons, List.map_cons, sl_tv_ref (show c0 < 90 by omega)]
        refine va_put (C := C) (T := T) (N := N) (v := .int v) hx hb hts q5 t0 q6 q7 hown hK0.1 hW (sl_wl_D g μ) hS o hget q1 k q2 (hts _ q4) (fun x hx => by rw [q3] at hx; exact hx) hfin h1 h2 h3 (by simpa using hknf) hdec (fun H1 locs1 hP1 hD1 hS1 => ?_)
        refine hK _ _ ws.tl.tl hk H1 locs1 ls ?_ hS1 hl
        unfold sl_Wd
        rw [← sl_wl_set (g := g) (μ := μ) (μ' := sl_up μ o k v) ho (e := .inr (c0, ((List.range (sl_nf c0)).map (sl_fv g μ c0 o)).set k (.int v))) (by rw [sl_E_obj g _ hkd hc20, sl_flds_set h4]) (fun o' h => sl_up_row h)]
        exact hP1
      have hup : sl_up μ o k v o k = v := by
        unfold sl_up
        rw [if_pos ⟨rfl, rfl⟩]
      split at h
      next =>
        rw [show (0 : Nat) = 0 from rfl] at hty
        have hd : (T k).2.2.1 = "I" := by simpa using hty
        refine key .int (by rw [hd]; decide +kernel) rfl rfl ?_ (h _ rfl)
        rw [sl_fv_0 hfi, hup]
      next h0 =>
        have hd : ty = 1 ∧ (T k).2.2.1 = "Z" := by
          split at hty
          next => exact absurd rfl h0
          next => exact ⟨rfl, by simpa using hty⟩
          next => cases hty
        obtain ⟨rfl, hd⟩ := hd
        obtain ⟨hbz, h⟩ := h
        obtain ⟨n1, n2, n3⟩ := sl_bz_nar hbz
        refine key .boolean (by rw [hd]; decide +kernel) n1 n2 ?_ (h _ rfl)
        rw [sl_fv_1 hfi, hup, hbz]
    next => exact h.elim
  next => exact h.elim
theorem sl_s_ald (F : sl_Fx g X own cc nL hh) (ws : sl_wkS st) (hdec : decode cc pc = .ok (.iaload, 1)) {K : List sl_V → Prop} (h : sl_ald st μ K) (hK : ∀ st', sl_wkS st' → K st' → sl_Vw g X nL cst (pc + 1) lv st' μ) : sl_Vw g X nL cst pc lv st μ := by
  unfold sl_ald at h
  split at h
  next i q st' =>
    obtain ⟨c0, o⟩ := q
    split at h
    next hc0 =>
      simp only at hc0
      subst hc0
      obtain ⟨hin, h⟩ := h
      have hkd : sl_kd o = 20 := ws.tl.hd (show 20 < 90 by omega)
      have ho : o < sl_N := sl_kd_lt (by rw [hkd]; omega)
      have hget := sl_wl_get g μ ho
      rw [show sl_E g μ o = .inl (sl_ca g 0, sl_len o, .inl (μ o)) by unfold sl_E; rw [hkd]; rfl] at hget
      obtain ⟨p, e, R, s, m, args, below, meth, c, cells, slots, Qp⟩ := X
      intro H locs ls hW hS hl
      obtain ⟨hx, hb, hml, hown, hts, hK0, hrm⟩ := id F
      rw [List.map_cons, List.map_cons, sl_tv_ref (show 20 < 90 by omega)]
      exact va_iald hx hb hK0.1 hW o 0 hget rfl hin hdec (hK (.inl (μ o i.toNatClampNeg) :: st') (sl_wkS.cons trivial ws.tl.tl) h H locs ls hW hS hl)
    next => exact h.elim
  next => exact h.elim
theorem sl_s_ast (F : sl_Fx g X own cc nL hh) (ws : sl_wkS st) (hdec : decode cc pc = .ok (.iastore, 1)) {K : List sl_V → sl_M → Prop} (h : sl_ast st μ K) (hK : ∀ st' μ', sl_wkS st' → K st' μ' → sl_Vw g X nL cst (pc + 1) lv st' μ') : sl_Vw g X nL cst pc lv st μ := by
  unfold sl_ast at h
  split at h
  next v i q st' =>
    obtain ⟨c0, o⟩ := q
    split at h
    next hc0 =>
      simp only at hc0
      subst hc0
      obtain ⟨hin, h⟩ := h
      have hkd : sl_kd o = 20 := ws.tl.tl.hd (show 20 < 90 by omega)
      have ho : o < sl_N := sl_kd_lt (by rw [hkd]; omega)
      have hget := sl_wl_get g μ ho
      rw [show sl_E g μ o = .inl (sl_ca g 0, sl_len o, .inl (μ o)) by unfold sl_E; rw [hkd]; rfl] at hget
      obtain ⟨p, e, R, s, m, args, below, meth, c, cells, slots, Qp⟩ := X
      intro H locs ls hW hS hl
      obtain ⟨hx, hb, hml, hown, hts, hK0, hrm⟩ := id F
      rw [List.map_cons, List.map_cons, List.map_cons, sl_tv_ref (show 20 < 90 by omega)]
      refine va_iast hx hb hK0.1 hW (sl_wl_D g μ) hS o 0 hget rfl hin hdec (fun H1 locs1 hP1 hD1 hS1 => ?_)
      refine hK _ _ ws.tl.tl.tl (h _ rfl) H1 locs1 ls ?_ hS1 hl
      unfold sl_Wd
      rw [← sl_wl_set (g := g) (μ := μ) (μ' := sl_up μ o i.toNatClampNeg v) ho (e := .inl (sl_ca g 0, sl_len o, .inl (upd (μ o) i.toNatClampNeg v))) (by unfold sl_E; rw [hkd]; simp only [sl_up_at]) (fun o' h => sl_up_row h)]
      exact hP1
    next => exact h.elim
  next => exact h.elim
theorem sl_s_zld (F : sl_Fx g X own cc nL hh) (ws : sl_wkS st) (hdec : decode cc pc = .ok (.baload, 1)) {K : List sl_V → Prop} (h : sl_zld st μ K) (hK : ∀ st', sl_wkS st' → K st' → sl_Vw g X nL cst (pc + 1) lv st' μ) : sl_Vw g X nL cst pc lv st μ := by
  unfold sl_zld at h
  split at h
  next i q st' =>
    obtain ⟨c0, o⟩ := q
    split at h
    next hc0 =>
      simp only at hc0
      subst hc0
      obtain ⟨hin, h⟩ := h
      have hkd : sl_kd o = 21 := ws.tl.hd (show 21 < 90 by omega)
      have ho : o < sl_N := sl_kd_lt (by rw [hkd]; omega)
      have hget := sl_wl_get g μ ho
      rw [show sl_E g μ o = .inl (sl_ca g 1, sl_len o, .inl (fun i => sl_bz (μ o i))) by unfold sl_E; rw [hkd]; rfl] at hget
      obtain ⟨p, e, R, s, m, args, below, meth, c, cells, slots, Qp⟩ := X
      intro H locs ls hW hS hl
      obtain ⟨hx, hb, hml, hown, hts, hK0, hrm⟩ := id F
      rw [List.map_cons, List.map_cons, sl_tv_ref (show 21 < 90 by omega)]
      exact va_zald hx hb hK0.1 hW o 1 hget rfl hin hdec (hK (.inl (sl_bz (μ o i.toNatClampNeg)) :: st') (sl_wkS.cons trivial ws.tl.tl) h H locs ls hW hS hl)
    next => exact h.elim
  next => exact h.elim
theorem sl_s_zst (F : sl_Fx g X own cc nL hh) (ws : sl_wkS st) (hdec : decode cc pc = .ok (.bastore, 1)) {K : List sl_V → sl_M → Prop} (h : sl_zst st μ K) (hK : ∀ st' μ', sl_wkS st' → K st' μ' → sl_Vw g X nL cst (pc + 1) lv st' μ') : sl_Vw g X nL cst pc lv st μ := by
  unfold sl_zst at h
  split at h
  next v i q st' =>
    obtain ⟨c0, o⟩ := q
    split at h
    next hc0 =>
      simp only at hc0
      subst hc0
      obtain ⟨hin, hbz, h⟩ := h
      have hkd : sl_kd o = 21 := ws.tl.tl.hd (show 21 < 90 by omega)
      have ho : o < sl_N := sl_kd_lt (by rw [hkd]; omega)
      have hget := sl_wl_get g μ ho
      rw [show sl_E g μ o = .inl (sl_ca g 1, sl_len o, .inl (fun i => sl_bz (μ o i))) by unfold sl_E; rw [hkd]; rfl] at hget
      obtain ⟨p, e, R, s, m, args, below, meth, c, cells, slots, Qp⟩ := X
      intro H locs ls hW hS hl
      obtain ⟨hx, hb, hml, hown, hts, hK0, hrm⟩ := id F
      rw [List.map_cons, List.map_cons, List.map_cons, sl_tv_ref (show 21 < 90 by omega)]
      refine va_zast hx hb hK0.1 hW (sl_wl_D g μ) hS o 1 hget rfl hin hdec (fun H1 locs1 hP1 hD1 hS1 => ?_)
      refine hK _ _ ws.tl.tl.tl (h _ rfl) H1 locs1 ls ?_ hS1 hl
      unfold sl_Wd
      have hf : (fun j => sl_bz (sl_up μ o i.toNatClampNeg v o j)) = upd (fun j => sl_bz (μ o j)) i.toNatClampNeg (vp_nar .boolean v) := by
        funext j
        rw [sl_up_at]
        unfold upd
        split
        · rw [(sl_bz_nar hbz).2.2, hbz]
        · rfl
      rw [← sl_wl_set (g := g) (μ := μ) (μ' := sl_up μ o i.toNatClampNeg v) ho (e := .inl (sl_ca g 1, sl_len o, .inl (upd (fun j => sl_bz (μ o j)) i.toNatClampNeg (vp_nar .boolean v)))) (by unfold sl_E; rw [hkd]; simp only [hf]) (fun o' h => sl_up_row h)]
      exact hP1
    next => exact h.elim
  next => exact h.elim
theorem sl_s_rld (F : sl_Fx g X own cc nL hh) (ws : sl_wkS st) (hdec : decode cc pc = .ok (.aaload, 1)) {K : List sl_V → Prop} (h : sl_rld st μ K) (hK : ∀ st', sl_wkS st' → K st' → sl_Vw g X nL cst (pc + 1) lv st' μ) : sl_Vw g X nL cst pc lv st μ := by
  unfold sl_rld at h
  split at h
  next i q st' =>
    obtain ⟨c0, o⟩ := q
    have key : ∀ (t0 c1 t : Nat) (C : String) (f : Nat → Option Nat), c0 < 90 → c0 ≠ 99 → c1 < 90 → vp_in i (sl_len o) → (sl_kd o = c0 → sl_E g μ o = .inl (sl_ca g t0, sl_len o, sl_rf f)) → (sl_tys g)[t0]? = some (sl_ca g t0, .object C) → f i.toNatClampNeg = some (sl_b g + t) → (sl_kd o = c0 → o < sl_N → sl_kd t = c1) → K (.inr (.inr (some (c1, t))) :: st') → sl_Vw g X nL cst pc lv (.inl i :: .inr (.inr (some (c0, o))) :: st') μ := by
      intro t0 c1 t C f hc0 hc9 hc1 hin hE hty hf hkt hk
      have hkd : sl_kd o = c0 := ws.tl.hd hc0
      have ho : o < sl_N := sl_kd_lt (by rw [hkd]; exact hc9)
      have hget := sl_wl_get g μ ho
      rw [hE hkd] at hget
      obtain ⟨p, e, R, s, m, args, below, meth, c, cells, slots, Qp⟩ := X
      intro H locs ls hW hS hl
      obtain ⟨hx, hb, hml, hown, hts, hK0, hrm⟩ := id F
      rw [List.map_cons, List.map_cons, sl_tv_ref hc0]
      refine va_aldq (C := C) hx hb hK0.1 hW o t0 hget hty hin hdec ?_
      rw [hf]
      have := hK (.inr (.inr (some (c1, t))) :: st') (sl_wkS.cons (fun _ => hkt hkd ho) ws.tl.tl) hk H locs ls hW hS hl
      rw [List.map_cons, sl_tv_ref hc1] at this
      exact this
    simp only at h
    split at h
    next => exact key 2 9 (o + 2 + i.toNatClampNeg) sl_R9 (fun i => some (sl_b g + (o + 2 + i))) (by omega) (by omega) (by omega) h.1 (fun hkd => by unfold sl_E; rw [hkd]; rfl) rfl rfl (fun hkd ho => (sl_ar_kd (sl_in_lt h.1) ho).1 hkd) h.2
    next => exact key 2 9 _ sl_R9 (fun i => some (sl_b g + (μ o i).toNatClampNeg)) (by omega) (by omega) (by omega) h.1 (fun hkd => by unfold sl_E; rw [hkd]; rfl) rfl rfl (fun _ _ => h.2.1) h.2.2
    next => exact key 3 4 (o + 48 + 2 * i.toNatClampNeg) sl_R4 (fun i => some (sl_b g + (o + 48 + 2 * i))) (by omega) (by omega) (by omega) h.1 (fun hkd => by unfold sl_E; rw [hkd]; rfl) rfl rfl (fun hkd ho => (sl_ar_kd (sl_in_lt h.1) ho).2.1 hkd) h.2
    next => exact key 4 8 (o + 40 + 2 * i.toNatClampNeg) sl_R8 (fun i => some (sl_b g + (o + 40 + 2 * i))) (by omega) (by omega) (by omega) h.1 (fun hkd => by unfold sl_E; rw [hkd]; rfl) rfl rfl (fun hkd ho => (sl_ar_kd (sl_in_lt h.1) ho).2.2 hkd) h.2
    next => exact h.elim
  next => exact h.elim
theorem sl_s_rst (F : sl_Fx g X own cc nL hh) (ws : sl_wkS st) (hdec : decode cc pc = .ok (.aastore, 1)) {K : List sl_V → sl_M → Prop} (h : sl_rst st μ K) (hK : ∀ st' μ', sl_wkS st' → K st' μ' → sl_Vw g X nL cst (pc + 1) lv st' μ') : sl_Vw g X nL cst pc lv st μ := by
  unfold sl_rst at h
  split at h
  next w i q st' =>
    obtain ⟨c0, o⟩ := q
    obtain ⟨c1, t⟩ := w
    split at h
    next hc0 =>
      split at h
      next hc1 =>
        simp only at hc0 hc1
        subst hc0
        subst hc1
        obtain ⟨hin, h⟩ := h
        have hkd : sl_kd o = 23 := ws.tl.tl.hd (show 23 < 90 by omega)
        have ho : o < sl_N := sl_kd_lt (by rw [hkd]; omega)
        have hkt : sl_kd t = 9 := ws.hd (show 9 < 90 by omega)
        have ht : t < sl_N := sl_kd_lt (by rw [hkt]; omega)
        have hget := sl_wl_get g μ ho
        rw [show sl_E g μ o = .inl (sl_ca g 2, sl_len o, sl_rf (fun i => some (sl_b g + (μ o i).toNatClampNeg))) by unfold sl_E; rw [hkd]; rfl] at hget
        have hgt := sl_wl_get g μ ht
        rw [sl_E_obj g μ hkt (by omega)] at hgt
        obtain ⟨p, e, R, s, m, args, below, meth, c, cells, slots, Qp⟩ := X
        intro H locs ls hW hS hl
        obtain ⟨hx, hb, hml, hown, hts, hK0, hrm⟩ := id F
        rw [List.map_cons, List.map_cons, List.map_cons, sl_tv_ref (show 23 < 90 by omega), sl_tv_ref (show 9 < 90 by omega)]
        refine va_astq (r := (sl_R9, sl_F9, 6)) hx hb hK0.1 hW (sl_wl_D g μ) hS o 2 t 9 hget rfl hgt rfl hin hdec (fun H1 locs1 hP1 hD1 hS1 => ?_)
        refine hK _ _ ws.tl.tl.tl (h _ rfl) H1 locs1 ls ?_ hS1 hl
        unfold sl_Wd
        have hnt : (nI t).toNatClampNeg = t := nI_clamp (Nat.lt_trans ht (by decide))
        have hf : (fun j => some (sl_b g + (sl_up μ o i.toNatClampNeg (nI t) o j).toNatClampNeg)) = va_up (fun j => some (sl_b g + (μ o j).toNatClampNeg)) i.toNatClampNeg (some (sl_b g + t)) := by
          funext j
          rw [sl_up_at]
          unfold upd va_up
          split
          · rw [hnt]
          · rfl
        rw [← sl_wl_set (g := g) (μ := μ) (μ' := sl_up μ o i.toNatClampNeg (nI t)) ho (e := .inl (sl_ca g 2, sl_len o, sl_rf (va_up (fun j => some (sl_b g + (μ o j).toNatClampNeg)) i.toNatClampNeg (some (sl_b g + t))))) (by unfold sl_E; rw [hkd]; simp only [hf]) (fun o' h => sl_up_row h)]
        exact hP1
      next => exact h.elim
    next => exact h.elim
  next => exact h.elim
end STEP
end
section
/-! a step of any instruction, runs, cuts, methods -/
theorem sl_wkS.ci {x : Int32} {st : List sl_V} (hs : sl_wkS st) : sl_wkS (.inl x :: st) := sl_wkS.cons (v := .inl x) trivial hs
theorem sl_wkS.cj {x : Int64} {st : List sl_V} (hs : sl_wkS st) : sl_wkS (.inr (.inl x) :: st) := sl_wkS.cons (v := .inr (.inl x)) trivial hs
section RUN
variable {g : sl_G} {X : sl_X} {own : String} {cc : ByteArray} {nL hh : Nat} {rt : Option FieldType} {Q : sl_Qt} {lk : sl_Lk} {cx : List (Nat × Nat)} {ct : List sl_Ct} {cst : sl_L} {pc : Nat} {lv : sl_L} {st : List sl_V} {μ : sl_M}
theorem sl_s_call (F : sl_Fx g X own cc nL hh) (HC : sl_HC g own hh ct cx) (ws : sl_wkS st) {kind idx j : Nat} (hdec : decode cc pc = .ok (sl_ins kind idx, 3)) (hj : cx[j]? = some (idx, kind)) {K : List sl_V → sl_M → Prop} (h : sl_call ct j st μ K) (hK : ∀ st' μ', sl_wkS st' → K st' μ' → sl_Vw g X nL cst (pc + 3) lv st' μ') : sl_Vw g X nL cst pc lv st μ := by
  obtain ⟨q, as, st', h1, h2, h3, h4, h5⟩ := sl_call_inv h
  obtain ⟨idx', e1, e2⟩ := HC j q h1
  have e3 : (idx', q.2.1) = (idx, kind) := Option.some.inj (e1.symm.trans hj)
  cases e3
  obtain ⟨p1, p2, p3, p4⟩ := sl_pop_spec _ _ _ _ _ h2
  simp only [List.reverse_nil, List.nil_append] at p1
  obtain ⟨p, e, R, s, m, args, below, meth, c, cells, slots, Qp⟩ := X
  intro H locs ls hW hS hl
  subst p1
  rw [List.map_append, List.map_reverse]
  refine e2 p e R s m args below meth c cells slots Qp cc nL F pc hdec μ H locs ls as (st'.map (sl_tv g)) _ (by rw [p2]; simp) (fun v hv => ws v ((p3 v hv).elim (fun z => absurd z List.not_mem_nil) id)) h4 hW hS hl.1 (by rw [sl_cat_map]; exact h3) h5 ?_
  intro r μ' H1 locs1 hq hw hW1 hS1
  have := hK (r.toList ++ st') μ' (fun v hv => by
    rcases List.mem_append.mp hv with z | z
    · exact hw v (by cases r with | none => cases z | some w => simp at z; rw [z])
    · exact ws v (List.mem_append_right _ z)) hq H1 locs1 ls hW1 hS1 hl
  rw [List.map_append] at this
  have e4 : (Option.map (sl_tv g) r).toList = List.map (sl_tv g) r.toList := by cases r <;> rfl
  rw [e4]
  exact this
theorem sl_s_ifc (F : sl_Fx g X own cc nL hh) {c : ClassFile.Cond} {off : Int} {t : Nat} (hdec : decode cc pc = .ok (.ifCond c off, 3)) (ht : (pc : Int) + off = (t : Int)) {v : Int32} {A B : Prop} (hA : A → sl_Vw g X nL cst t lv st μ) (hB : B → sl_Vw g X nL cst (pc + 3) lv st μ) (h : sl_ifc c v 0 A B) : sl_Vw g X nL cst pc lv (.inl v :: st) μ := by
  obtain ⟨p, e, R, s, m, args, below, meth, c0, cells, slots, Qp⟩ := X
  intro H locs ls hW hS hl
  obtain ⟨hx, hb, hml, hown, hts, hK0, hrm⟩ := id F
  cases c with
  | eq => exact lv_if_eq hx hb hdec ht (fun z => hA (h.1 z) H locs ls hW hS hl) (fun z => hB (h.2 z) H locs ls hW hS hl)
  | ne => exact lv_if_ne hx hb hdec ht (fun z => hA (h.2 z) H locs ls hW hS hl) (fun z => hB (h.1 z) H locs ls hW hS hl)
  | lt => exact lv_if_lt hx hb hdec ht (fun z => hA (h.1 z) H locs ls hW hS hl) (fun z => hB (h.2 z) H locs ls hW hS hl)
  | ge => exact lv_if_ge hx hb hdec ht (fun z => hA (h.2 (Int32.not_lt.mpr z)) H locs ls hW hS hl) (fun z => hB (h.1 (Int32.not_le.mp z)) H locs ls hW hS hl)
  | gt => exact lv_if_gt hx hb hdec ht (fun z => hA (h.2 (Int32.not_le.mpr z)) H locs ls hW hS hl) (fun z => hB (h.1 (Int32.not_lt.mp z)) H locs ls hW hS hl)
  | le => exact lv_if_le hx hb hdec ht (fun z => hA (h.1 z) H locs ls hW hS hl) (fun z => hB (h.2 z) H locs ls hW hS hl)
theorem sl_s_icm (F : sl_Fx g X own cc nL hh) {c : ClassFile.Cond} {off : Int} {t : Nat} (hdec : decode cc pc = .ok (.if_icmp c off, 3)) (ht : (pc : Int) + off = (t : Int)) {v w : Int32} {A B : Prop} (hA : A → sl_Vw g X nL cst t lv st μ) (hB : B → sl_Vw g X nL cst (pc + 3) lv st μ) (h : sl_ifc c v w A B) : sl_Vw g X nL cst pc lv (.inl w :: .inl v :: st) μ := by
  obtain ⟨p, e, R, s, m, args, below, meth, c0, cells, slots, Qp⟩ := X
  intro H locs ls hW hS hl
  obtain ⟨hx, hb, hml, hown, hts, hK0, hrm⟩ := id F
  cases c with
  | eq => exact lv_icmp_eq hx hb hdec ht (fun z => hA (h.1 z) H locs ls hW hS hl) (fun z => hB (h.2 z) H locs ls hW hS hl)
  | ne => exact lv_icmp_ne hx hb hdec ht (fun z => hA (h.2 z) H locs ls hW hS hl) (fun z => hB (h.1 z) H locs ls hW hS hl)
  | lt => exact lv_icmp_lt hx hb hdec ht (fun z => hA (h.1 z) H locs ls hW hS hl) (fun z => hB (h.2 z) H locs ls hW hS hl)
  | ge => exact lv_icmp_ge hx hb hdec ht (fun z => hA (h.2 (Int32.not_lt.mpr z)) H locs ls hW hS hl) (fun z => hB (h.1 (Int32.not_le.mp z)) H locs ls hW hS hl)
  | gt => exact lv_icmp_gt hx hb hdec ht (fun z => hA (h.2 (Int32.not_le.mpr z)) H locs ls hW hS hl) (fun z => hB (h.1 (Int32.not_lt.mp z)) H locs ls hW hS hl)
  | le => exact lv_icmp_le hx hb hdec ht (fun z => hA (h.1 z) H locs ls hW hS hl) (fun z => hB (h.2 z) H locs ls hW hS hl)
set_option maxHeartbeats 4000000 in
theorem sl_step_ok (F : sl_Fx g X own cc nL hh) (Rt : sl_Rt g X rt Q) (HL : sl_LkOK own lk) (HC : sl_HC g own hh ct cx) (wc : sl_wkL cst) {ins : Instr} {len : Nat} {x : Int32} {d : List Nat} {sw : List (Int32 × Nat)} {fl : Bool}
    (hdec : decode cc pc = .ok (ins, len)) (hok : sl_okE own nL rt lk cx (pc, ins, len, x, d, sw, fl) = true) {K : sl_It} {J : Nat → sl_It}
    (hK : ∀ lv st μ, sl_wkL lv → sl_wkS st → K lv st μ → sl_Vw g X nL cst (pc + len) lv st μ) (hJ : ∀ t lv st μ, sl_wkL lv → sl_wkS st → J t lv st μ → sl_Vw g X nL cst t lv st μ)
    (wl : sl_wkL lv) (ws : sl_wkS st) (h : sl_step Q ct cst ins x d sw K J lv st μ) : sl_Vw g X nL cst pc lv st μ := by
  cases ins with
  | iconst n =>
    simp only [sl_okE, Bool.and_eq_true, decide_eq_true_eq] at hok
    obtain ⟨e1, rfl⟩ := hok
    have hk := hK lv (.inl x :: st) μ wl (ws.cons trivial) h
    obtain ⟨p, e, R, s, m, args, below, meth, c, cells, slots, Qp⟩ := X
    intro H locs ls hW hS hl
    obtain ⟨hx, hb, hml, hown, hts, hK0, hrm⟩ := id F
    exact lv_iconst hx hb hdec e1 (hk H locs ls hW hS hl)
  | bipush n =>
    simp only [sl_okE, Bool.and_eq_true, decide_eq_true_eq] at hok
    obtain ⟨e1, rfl⟩ := hok
    have hk := hK lv (.inl x :: st) μ wl (ws.cons trivial) h
    obtain ⟨p, e, R, s, m, args, below, meth, c, cells, slots, Qp⟩ := X
    intro H locs ls hW hS hl
    obtain ⟨hx, hb, hml, hown, hts, hK0, hrm⟩ := id F
    exact lv_bipush hx hb hdec e1 (hk H locs ls hW hS hl)
  | sipush n =>
    simp only [sl_okE, Bool.and_eq_true, decide_eq_true_eq] at hok
    obtain ⟨e1, rfl⟩ := hok
    have hk := hK lv (.inl x :: st) μ wl (ws.cons trivial) h
    obtain ⟨p, e, R, s, m, args, below, meth, c, cells, slots, Qp⟩ := X
    intro H locs ls hW hS hl
    obtain ⟨hx, hb, hml, hown, hts, hK0, hrm⟩ := id F
    exact lv_sipush hx hb hdec e1 (hk H locs ls hW hS hl)
  | ldc i =>
    simp only [sl_okE, Bool.and_eq_true, decide_eq_true_eq] at hok
    obtain ⟨rfl, hok⟩ := hok
    cases d with
    | nil =>
      have hk := hK lv (.inl x :: st) μ wl (ws.cons trivial) h
      obtain ⟨p, e, R, s, m, args, below, meth, c, cells, slots, Qp⟩ := X
      intro H locs ls hW hS hl
      obtain ⟨hx, hb, hml, hown, hts, hK0, hrm⟩ := id F
      exact lv_ldc hx hb hown (hts _ (HL.2.1 _ (List.contains_iff_mem.mp hok))) hdec (hk H locs ls hW hS hl)
    | cons o dd =>
      simp only [Bool.and_eq_true, decide_eq_true_eq] at hok
      obtain ⟨ho, rfl, rfl⟩ := hok
      have hk := hK lv (.inr (.inr (some (90, o))) :: st) μ wl (ws.cons (fun q => absurd q (Nat.lt_irrefl 90))) h
      obtain ⟨p, e, R, s, m, args, below, meth, c, cells, slots, Qp⟩ := X
      intro H locs ls hW hS hl
      obtain ⟨hx, hb, hml, hown, hts, hK0, hrm⟩ := id F
      exact va_ldcS hx hb hown (hK0.2.2.1 o ho) hdec (hk H locs ls hW hS hl)
  | ldc_w i =>
    simp only [sl_okE, Bool.and_eq_true, decide_eq_true_eq] at hok
    obtain ⟨rfl, hok⟩ := hok
    have hk := hK lv (.inl x :: st) μ wl (ws.cons trivial) h
    obtain ⟨p, e, R, s, m, args, below, meth, c, cells, slots, Qp⟩ := X
    intro H locs ls hW hS hl
    obtain ⟨hx, hb, hml, hown, hts, hK0, hrm⟩ := id F
    exact lv_ldcw hx hb hown (hts _ (HL.2.1 _ (List.contains_iff_mem.mp hok))) hdec (hk H locs ls hW hS hl)
  | lconst n =>
    simp only [sl_okE, Bool.and_eq_true, decide_eq_true_eq] at hok
    obtain ⟨e1, rfl⟩ := hok
    have hk := hK lv (.inr (.inl x.toInt64) :: st) μ wl (ws.cons trivial) h
    obtain ⟨p, e, R, s, m, args, below, meth, c, cells, slots, Qp⟩ := X
    intro H locs ls hW hS hl
    obtain ⟨hx, hb, hml, hown, hts, hK0, hrm⟩ := id F
    exact lv_lconst hx hb hdec e1 (hk H locs ls hW hS hl)
  | ldc2_w i =>
    simp only [sl_okE, Bool.and_eq_true, decide_eq_true_eq] at hok
    obtain ⟨rfl, hok⟩ := hok
    have hk := hK lv (.inr (.inl x.toInt64) :: st) μ wl (ws.cons trivial) h
    obtain ⟨p, e, R, s, m, args, below, meth, c, cells, slots, Qp⟩ := X
    intro H locs ls hW hS hl
    obtain ⟨hx, hb, hml, hown, hts, hK0, hrm⟩ := id F
    exact lv_ldc2 hx hb hown (hts _ (HL.2.2 _ (List.contains_iff_mem.mp hok))) hdec (hk H locs ls hW hS hl)
  | aconst_null =>
    simp only [sl_okE, decide_eq_true_eq] at hok
    subst hok
    have hk := hK lv (.inr (.inr none) :: st) μ wl (ws.cons trivial) h
    obtain ⟨p, e, R, s, m, args, below, meth, c, cells, slots, Qp⟩ := X
    intro H locs ls hW hS hl
    obtain ⟨hx, hb, hml, hown, hts, hK0, hrm⟩ := id F
    exact lv_null hx hb hdec (hk H locs ls hW hS hl)
  | iload i =>
    simp only [sl_okE, decide_eq_true_eq] at hok
    subst hok
    simp only [sl_step] at h
    obtain ⟨r, e1, h⟩ := sl_ldi_inv h
    have hk := hK lv _ μ wl (ws.cons (sl_get_wk wc wl e1)) h
    obtain ⟨p, e, R, s, m, args, below, meth, c, cells, slots, Qp⟩ := X
    intro H locs ls hW hS hl
    obtain ⟨hx, hb, hml, hown, hts, hK0, hrm⟩ := id F
    exact lv_iload hx hb hdec (hl.2.2 _ _ e1) (hk H locs ls hW hS hl)
  | iload_n i =>
    simp only [sl_okE, Bool.and_eq_true, decide_eq_true_eq] at hok
    obtain ⟨rfl, e2⟩ := hok
    simp only [sl_step] at h
    obtain ⟨r, e1, h⟩ := sl_ldi_inv h
    have hk := hK lv _ μ wl (ws.cons (sl_get_wk wc wl e1)) h
    obtain ⟨p, e, R, s, m, args, below, meth, c, cells, slots, Qp⟩ := X
    intro H locs ls hW hS hl
    obtain ⟨hx, hb, hml, hown, hts, hK0, hrm⟩ := id F
    exact lv_iload_n hx hb hdec e2 (hl.2.2 _ _ e1) (hk H locs ls hW hS hl)
  | lload i =>
    simp only [sl_okE, decide_eq_true_eq] at hok
    subst hok
    simp only [sl_step] at h
    obtain ⟨r, e1, h⟩ := sl_ldj_inv h
    have hk := hK lv _ μ wl (ws.cons (sl_get_wk wc wl e1)) h
    obtain ⟨p, e, R, s, m, args, below, meth, c, cells, slots, Qp⟩ := X
    intro H locs ls hW hS hl
    obtain ⟨hx, hb, hml, hown, hts, hK0, hrm⟩ := id F
    exact lv_lload hx hb hdec (hl.2.2 _ _ e1) (hk H locs ls hW hS hl)
  | lload_n i =>
    simp only [sl_okE, Bool.and_eq_true, decide_eq_true_eq] at hok
    obtain ⟨rfl, e2⟩ := hok
    simp only [sl_step] at h
    obtain ⟨r, e1, h⟩ := sl_ldj_inv h
    have hk := hK lv _ μ wl (ws.cons (sl_get_wk wc wl e1)) h
    obtain ⟨p, e, R, s, m, args, below, meth, c, cells, slots, Qp⟩ := X
    intro H locs ls hW hS hl
    obtain ⟨hx, hb, hml, hown, hts, hK0, hrm⟩ := id F
    exact lv_lload_n hx hb hdec e2 (hl.2.2 _ _ e1) (hk H locs ls hW hS hl)
  | aload i =>
    simp only [sl_okE, decide_eq_true_eq] at hok
    subst hok
    simp only [sl_step] at h
    obtain ⟨r, e1, h⟩ := sl_ldr_inv h
    have hk := hK lv _ μ wl (ws.cons (sl_get_wk wc wl e1)) h
    obtain ⟨p, e, R, s, m, args, below, meth, c, cells, slots, Qp⟩ := X
    intro H locs ls hW hS hl
    obtain ⟨hx, hb, hml, hown, hts, hK0, hrm⟩ := id F
    cases r with
    | none => exact lv_aloadN hx hb hdec (hl.2.2 _ _ e1) (hk H locs ls hW hS hl)
    | some q => exact lv_aload hx hb hdec (hl.2.2 _ _ e1) (hk H locs ls hW hS hl)
  | aload_n i =>
    simp only [sl_okE, Bool.and_eq_true, decide_eq_true_eq] at hok
    obtain ⟨rfl, e2⟩ := hok
    simp only [sl_step] at h
    obtain ⟨r, e1, h⟩ := sl_ldr_inv h
    have hk := hK lv _ μ wl (ws.cons (sl_get_wk wc wl e1)) h
    obtain ⟨p, e, R, s, m, args, below, meth, c, cells, slots, Qp⟩ := X
    intro H locs ls hW hS hl
    obtain ⟨hx, hb, hml, hown, hts, hK0, hrm⟩ := id F
    cases r with
    | none => exact lv_aload_nN hx hb hdec e2 (hl.2.2 _ _ e1) (hk H locs ls hW hS hl)
    | some q => exact lv_aload_n hx hb hdec e2 (hl.2.2 _ _ e1) (hk H locs ls hW hS hl)
  | istore i =>
    simp only [sl_okE, Bool.and_eq_true, decide_eq_true_eq] at hok
    obtain ⟨rfl, hn⟩ := hok
    simp only [sl_step] at h
    obtain ⟨v, st', rfl, hw, h⟩ := sl_sti_inv h
    have hk := hK _ st' μ (wl.sto (fun w hw => by cases hw; trivial)) ws.tl h
    obtain ⟨p, e, R, s, m, args, below, meth, c, cells, slots, Qp⟩ := X
    intro H locs ls hW hS hl
    obtain ⟨hx, hb, hml, hown, hts, hK0, hrm⟩ := id F
    exact lv_istore hx hb hdec hl.has hn rfl (fun ls' h' => hk H locs ls' hW hS (hl.store (v := .inl v) hw h'))
  | istore_n i =>
    simp only [sl_okE, Bool.and_eq_true, decide_eq_true_eq] at hok
    obtain ⟨rfl, e2, hn⟩ := hok
    simp only [sl_step] at h
    obtain ⟨v, st', rfl, hw, h⟩ := sl_sti_inv h
    have hk := hK _ st' μ (wl.sto (fun w hw => by cases hw; trivial)) ws.tl h
    obtain ⟨p, e, R, s, m, args, below, meth, c, cells, slots, Qp⟩ := X
    intro H locs ls hW hS hl
    obtain ⟨hx, hb, hml, hown, hts, hK0, hrm⟩ := id F
    exact lv_istore_n hx hb hdec e2 hl.has hn rfl (fun ls' h' => hk H locs ls' hW hS (hl.store (v := .inl v) hw h'))
  | lstore i =>
    simp only [sl_okE, Bool.and_eq_true, decide_eq_true_eq] at hok
    obtain ⟨rfl, hn⟩ := hok
    simp only [sl_step] at h
    obtain ⟨v, st', rfl, hw, hw2, h⟩ := sl_stj_inv h
    have hk := hK _ st' μ ((wl.sto (fun w hw => by cases hw; trivial)).set (fun w hw => by cases hw)) ws.tl h
    obtain ⟨p, e, R, s, m, args, below, meth, c, cells, slots, Qp⟩ := X
    intro H locs ls hW hS hl
    obtain ⟨hx, hb, hml, hown, hts, hK0, hrm⟩ := id F
    exact lv_lstore hx hb hdec hl.has hn rfl (fun ls' h' => hk H locs ls' hW hS (hl.store2 (v := .inr (.inl v)) hw hw2 h'))
  | lstore_n i =>
    simp only [sl_okE, Bool.and_eq_true, decide_eq_true_eq] at hok
    obtain ⟨rfl, e2, hn⟩ := hok
    simp only [sl_step] at h
    obtain ⟨v, st', rfl, hw, hw2, h⟩ := sl_stj_inv h
    have hk := hK _ st' μ ((wl.sto (fun w hw => by cases hw; trivial)).set (fun w hw => by cases hw)) ws.tl h
    obtain ⟨p, e, R, s, m, args, below, meth, c, cells, slots, Qp⟩ := X
    intro H locs ls hW hS hl
    obtain ⟨hx, hb, hml, hown, hts, hK0, hrm⟩ := id F
    exact lv_lstore_n hx hb hdec e2 hl.has hn rfl (fun ls' h' => hk H locs ls' hW hS (hl.store2 (v := .inr (.inl v)) hw hw2 h'))
  | astore i =>
    simp only [sl_okE, Bool.and_eq_true, decide_eq_true_eq] at hok
    obtain ⟨rfl, hn⟩ := hok
    simp only [sl_step] at h
    obtain ⟨v, st', rfl, hw, h⟩ := sl_str_inv h
    have hk := hK _ st' μ (wl.sto (fun w hw => by cases hw; exact ws.hd)) ws.tl h
    obtain ⟨p, e, R, s, m, args, below, meth, c, cells, slots, Qp⟩ := X
    intro H locs ls hW hS hl
    obtain ⟨hx, hb, hml, hown, hts, hK0, hrm⟩ := id F
    cases v with
    | none => exact lv_astoreN hx hb hdec hl.has hn rfl (fun ls' h' => hk H locs ls' hW hS (hl.store (v := .inr (.inr none)) hw h'))
    | some q => exact lv_astore hx hb hdec hl.has hn rfl (fun ls' h' => hk H locs ls' hW hS (hl.store (v := .inr (.inr (some q))) hw h'))
  | astore_n i =>
    simp only [sl_okE, Bool.and_eq_true, decide_eq_true_eq] at hok
    obtain ⟨rfl, e2, hn⟩ := hok
    simp only [sl_step] at h
    obtain ⟨v, st', rfl, hw, h⟩ := sl_str_inv h
    have hk := hK _ st' μ (wl.sto (fun w hw => by cases hw; exact ws.hd)) ws.tl h
    obtain ⟨p, e, R, s, m, args, below, meth, c, cells, slots, Qp⟩ := X
    intro H locs ls hW hS hl
    obtain ⟨hx, hb, hml, hown, hts, hK0, hrm⟩ := id F
    cases v with
    | none => exact lv_astore_nN hx hb hdec e2 hl.has hn rfl (fun ls' h' => hk H locs ls' hW hS (hl.store (v := .inr (.inr none)) hw h'))
    | some q => exact lv_astore_n hx hb hdec e2 hl.has hn rfl (fun ls' h' => hk H locs ls' hW hS (hl.store (v := .inr (.inr (some q))) hw h'))
  | iinc i n =>
    simp only [sl_okE, Bool.and_eq_true, decide_eq_true_eq] at hok
    obtain ⟨rfl, e2, hn⟩ := hok
    simp only [sl_step] at h
    obtain ⟨r, e1, h⟩ := sl_ldi_inv h
    obtain ⟨a0, b0, s0, e0, h⟩ := sl_bin_inv h
    cases e0
    obtain ⟨v, st', e3, hw, h⟩ := sl_sti_inv h
    cases e3
    have hk := hK _ st μ (wl.sto (fun w hw => by cases hw; trivial)) ws h
    obtain ⟨p, e, R, s, m, args, below, meth, c, cells, slots, Qp⟩ := X
    intro H locs ls hW hS hl
    obtain ⟨hx, hb, hml, hown, hts, hK0, hrm⟩ := id F
    obtain ⟨k, hk2⟩ := List.getElem?_of_mem (sl_prs_mem (g := g) hn e1)
    exact lv_iinc hx hb hdec hl.has hk2 (by rw [e2]) hn rfl (fun ls' h' => hk H locs ls' hW hS (hl.store (v := .inl (r + x)) hw h'))
  | iadd =>
    simp only [sl_okE, decide_eq_true_eq] at hok
    subst hok
    simp only [sl_step] at h
    obtain ⟨a, b, st', rfl, h⟩ := sl_bin_inv h
    have hk := hK lv _ μ wl ws.tl.tl.ci h
    obtain ⟨p, e, R, s, m, args, below, meth, c, cells, slots, Qp⟩ := X
    intro H locs ls hW hS hl
    obtain ⟨hx, hb, hml, hown, hts, hK0, hrm⟩ := id F
    exact lv_iadd hx hb hdec (hk H locs ls hW hS hl)
  | isub =>
    simp only [sl_okE, decide_eq_true_eq] at hok
    subst hok
    simp only [sl_step] at h
    obtain ⟨a, b, st', rfl, h⟩ := sl_bin_inv h
    have hk := hK lv _ μ wl ws.tl.tl.ci h
    obtain ⟨p, e, R, s, m, args, below, meth, c, cells, slots, Qp⟩ := X
    intro H locs ls hW hS hl
    obtain ⟨hx, hb, hml, hown, hts, hK0, hrm⟩ := id F
    exact lv_isub hx hb hdec (hk H locs ls hW hS hl)
  | imul =>
    simp only [sl_okE, decide_eq_true_eq] at hok
    subst hok
    simp only [sl_step] at h
    obtain ⟨a, b, st', rfl, h⟩ := sl_bin_inv h
    have hk := hK lv _ μ wl ws.tl.tl.ci h
    obtain ⟨p, e, R, s, m, args, below, meth, c, cells, slots, Qp⟩ := X
    intro H locs ls hW hS hl
    obtain ⟨hx, hb, hml, hown, hts, hK0, hrm⟩ := id F
    exact lv_imul hx hb hdec (hk H locs ls hW hS hl)
  | iand =>
    simp only [sl_okE, decide_eq_true_eq] at hok
    subst hok
    simp only [sl_step] at h
    obtain ⟨a, b, st', rfl, h⟩ := sl_bin_inv h
    have hk := hK lv _ μ wl ws.tl.tl.ci h
    obtain ⟨p, e, R, s, m, args, below, meth, c, cells, slots, Qp⟩ := X
    intro H locs ls hW hS hl
    obtain ⟨hx, hb, hml, hown, hts, hK0, hrm⟩ := id F
    exact lv_iand hx hb hdec (hk H locs ls hW hS hl)
  | ior =>
    simp only [sl_okE, decide_eq_true_eq] at hok
    subst hok
    simp only [sl_step] at h
    obtain ⟨a, b, st', rfl, h⟩ := sl_bin_inv h
    have hk := hK lv _ μ wl ws.tl.tl.ci h
    obtain ⟨p, e, R, s, m, args, below, meth, c, cells, slots, Qp⟩ := X
    intro H locs ls hW hS hl
    obtain ⟨hx, hb, hml, hown, hts, hK0, hrm⟩ := id F
    exact lv_ior hx hb hdec (hk H locs ls hW hS hl)
  | ixor =>
    simp only [sl_okE, decide_eq_true_eq] at hok
    subst hok
    simp only [sl_step] at h
    obtain ⟨a, b, st', rfl, h⟩ := sl_bin_inv h
    have hk := hK lv _ μ wl ws.tl.tl.ci h
    obtain ⟨p, e, R, s, m, args, below, meth, c, cells, slots, Qp⟩ := X
    intro H locs ls hW hS hl
    obtain ⟨hx, hb, hml, hown, hts, hK0, hrm⟩ := id F
    exact lv_ixor hx hb hdec (hk H locs ls hW hS hl)
  | ishl =>
    simp only [sl_okE, decide_eq_true_eq] at hok
    subst hok
    simp only [sl_step] at h
    obtain ⟨a, b, st', rfl, h⟩ := sl_bin_inv h
    have hk := hK lv _ μ wl ws.tl.tl.ci h
    obtain ⟨p, e, R, s, m, args, below, meth, c, cells, slots, Qp⟩ := X
    intro H locs ls hW hS hl
    obtain ⟨hx, hb, hml, hown, hts, hK0, hrm⟩ := id F
    exact lv_ishl hx hb hdec (hk H locs ls hW hS hl)
  | ishr =>
    simp only [sl_okE, decide_eq_true_eq] at hok
    subst hok
    simp only [sl_step] at h
    obtain ⟨a, b, st', rfl, h⟩ := sl_bin_inv h
    have hk := hK lv _ μ wl ws.tl.tl.ci h
    obtain ⟨p, e, R, s, m, args, below, meth, c, cells, slots, Qp⟩ := X
    intro H locs ls hW hS hl
    obtain ⟨hx, hb, hml, hown, hts, hK0, hrm⟩ := id F
    exact lv_ishr hx hb hdec (hk H locs ls hW hS hl)
  | iushr =>
    simp only [sl_okE, decide_eq_true_eq] at hok
    subst hok
    simp only [sl_step] at h
    obtain ⟨a, b, st', rfl, h⟩ := sl_bin_inv h
    have hk := hK lv _ μ wl ws.tl.tl.ci h
    obtain ⟨p, e, R, s, m, args, below, meth, c, cells, slots, Qp⟩ := X
    intro H locs ls hW hS hl
    obtain ⟨hx, hb, hml, hown, hts, hK0, hrm⟩ := id F
    exact lv_iushr hx hb hdec rfl (hk H locs ls hW hS hl)
  | idiv =>
    simp only [sl_okE, decide_eq_true_eq] at hok
    subst hok
    simp only [sl_step] at h
    split at h
    next b a st' =>
      have hk := hK lv _ μ wl ws.tl.tl.ci h.2
      obtain ⟨p, e, R, s, m, args, below, meth, c, cells, slots, Qp⟩ := X
      intro H locs ls hW hS hl
      obtain ⟨hx, hb, hml, hown, hts, hK0, hrm⟩ := id F
      exact lv_idiv hx hb hdec h.1 (hk H locs ls hW hS hl)
    next => exact h.elim
  | irem =>
    simp only [sl_okE, decide_eq_true_eq] at hok
    subst hok
    simp only [sl_step] at h
    split at h
    next b a st' =>
      have hk := hK lv _ μ wl ws.tl.tl.ci h.2
      obtain ⟨p, e, R, s, m, args, below, meth, c, cells, slots, Qp⟩ := X
      intro H locs ls hW hS hl
      obtain ⟨hx, hb, hml, hown, hts, hK0, hrm⟩ := id F
      exact lv_irem hx hb hdec h.1 (hk H locs ls hW hS hl)
    next => exact h.elim
  | ineg =>
    simp only [sl_okE, decide_eq_true_eq] at hok
    subst hok
    simp only [sl_step] at h
    split at h
    next a st' =>
      have hk := hK lv _ μ wl ws.tl.ci h
      obtain ⟨p, e, R, s, m, args, below, meth, c, cells, slots, Qp⟩ := X
      intro H locs ls hW hS hl
      obtain ⟨hx, hb, hml, hown, hts, hK0, hrm⟩ := id F
      exact lv_ineg hx hb hdec (hk H locs ls hW hS hl)
    next => exact h.elim
  | ladd =>
    simp only [sl_okE, decide_eq_true_eq] at hok
    subst hok
    simp only [sl_step] at h
    obtain ⟨a, b, st', rfl, h⟩ := sl_bij_inv h
    have hk := hK lv _ μ wl ws.tl.tl.cj h
    obtain ⟨p, e, R, s, m, args, below, meth, c, cells, slots, Qp⟩ := X
    intro H locs ls hW hS hl
    obtain ⟨hx, hb, hml, hown, hts, hK0, hrm⟩ := id F
    exact lv_ladd hx hb hdec (hk H locs ls hW hS hl)
  | lsub =>
    simp only [sl_okE, decide_eq_true_eq] at hok
    subst hok
    simp only [sl_step] at h
    obtain ⟨a, b, st', rfl, h⟩ := sl_bij_inv h
    have hk := hK lv _ μ wl ws.tl.tl.cj h
    obtain ⟨p, e, R, s, m, args, below, meth, c, cells, slots, Qp⟩ := X
    intro H locs ls hW hS hl
    obtain ⟨hx, hb, hml, hown, hts, hK0, hrm⟩ := id F
    exact lv_lsub hx hb hdec (hk H locs ls hW hS hl)
  | lmul =>
    simp only [sl_okE, decide_eq_true_eq] at hok
    subst hok
    simp only [sl_step] at h
    obtain ⟨a, b, st', rfl, h⟩ := sl_bij_inv h
    have hk := hK lv _ μ wl ws.tl.tl.cj h
    obtain ⟨p, e, R, s, m, args, below, meth, c, cells, slots, Qp⟩ := X
    intro H locs ls hW hS hl
    obtain ⟨hx, hb, hml, hown, hts, hK0, hrm⟩ := id F
    exact lv_lmul hx hb hdec (hk H locs ls hW hS hl)
  | i2l =>
    simp only [sl_okE, decide_eq_true_eq] at hok
    subst hok
    simp only [sl_step] at h
    split at h
    next a st' =>
      have hk := hK lv _ μ wl ws.tl.cj h
      obtain ⟨p, e, R, s, m, args, below, meth, c, cells, slots, Qp⟩ := X
      intro H locs ls hW hS hl
      obtain ⟨hx, hb, hml, hown, hts, hK0, hrm⟩ := id F
      exact lv_i2l hx hb hdec rfl (hk H locs ls hW hS hl)
    next => exact h.elim
  | lcmp =>
    simp only [sl_okE, decide_eq_true_eq] at hok
    subst hok
    simp only [sl_step] at h
    split at h
    next b a st' =>
      have hk := hK lv _ μ wl ws.tl.tl.ci h
      obtain ⟨p, e, R, s, m, args, below, meth, c, cells, slots, Qp⟩ := X
      intro H locs ls hW hS hl
      obtain ⟨hx, hb, hml, hown, hts, hK0, hrm⟩ := id F
      exact W.lcmp hx hb hdec (hk H locs ls hW hS hl)
    next => exact h.elim
  | dup =>
    simp only [sl_okE, decide_eq_true_eq] at hok
    subst hok
    simp only [sl_step] at h
    split at h
    next v st' =>
      have hk := hK lv _ μ wl ws.ci h
      obtain ⟨p, e, R, s, m, args, below, meth, c, cells, slots, Qp⟩ := X
      intro H locs ls hW hS hl
      obtain ⟨hx, hb, hml, hown, hts, hK0, hrm⟩ := id F
      exact lv_dup hx hb hdec rfl (hk H locs ls hW hS hl)
    next v st' =>
      have hk := hK lv _ μ wl (sl_wkS.cons ws.hd ws) h
      obtain ⟨p, e, R, s, m, args, below, meth, c, cells, slots, Qp⟩ := X
      intro H locs ls hW hS hl
      obtain ⟨hx, hb, hml, hown, hts, hK0, hrm⟩ := id F
      exact lv_dup hx hb hdec (by cases v <;> rfl) (hk H locs ls hW hS hl)
    next => exact h.elim
  | dup2 =>
    simp only [sl_okE, decide_eq_true_eq] at hok
    subst hok
    simp only [sl_step] at h
    split at h
    next v w st' =>
      have hk := hK lv _ μ wl (sl_wkS.cons ws.tl.hd ws).ci h
      obtain ⟨p, e, R, s, m, args, below, meth, c, cells, slots, Qp⟩ := X
      intro H locs ls hW hS hl
      obtain ⟨hx, hb, hml, hown, hts, hK0, hrm⟩ := id F
      exact lv_dup2_11 hx hb hdec rfl (by cases w <;> rfl) (hk H locs ls hW hS hl)
    next => exact h.elim
  | pop =>
    simp only [sl_okE, decide_eq_true_eq] at hok
    subst hok
    simp only [sl_step] at h
    split at h
    next v st' =>
      have hk := hK lv _ μ wl ws.tl h
      obtain ⟨p, e, R, s, m, args, below, meth, c, cells, slots, Qp⟩ := X
      intro H locs ls hW hS hl
      obtain ⟨hx, hb, hml, hown, hts, hK0, hrm⟩ := id F
      exact lv_pop hx hb hdec rfl (hk H locs ls hW hS hl)
    next => exact h.elim
  | ifCond c off =>
    simp only [sl_okE, Bool.and_eq_true, decide_eq_true_eq] at hok
    obtain ⟨rfl, e1⟩ := hok
    simp only [sl_step] at h
    split at h
    next v st' => exact sl_s_ifc F hdec e1 (fun z => hJ _ _ _ _ wl ws.tl z) (fun z => hK _ _ _ wl ws.tl z) h
    next => exact h.elim
  | if_icmp c off =>
    simp only [sl_okE, Bool.and_eq_true, decide_eq_true_eq] at hok
    obtain ⟨rfl, e1⟩ := hok
    simp only [sl_step] at h
    split at h
    next w v st' => exact sl_s_icm F hdec e1 (fun z => hJ _ _ _ _ wl ws.tl.tl z) (fun z => hK _ _ _ wl ws.tl.tl z) h
    next => exact h.elim
  | ifnull off =>
    simp only [sl_okE, Bool.and_eq_true, decide_eq_true_eq] at hok
    obtain ⟨rfl, e1⟩ := hok
    simp only [sl_step, sl_nul] at h
    split at h
    next st' =>
      have hj := hJ _ _ _ _ wl ws.tl h
      obtain ⟨p, e, R, s, m, args, below, meth, c, cells, slots, Qp⟩ := X
      intro H locs ls hW hS hl
      obtain ⟨hx, hb, hml, hown, hts, hK0, hrm⟩ := id F
      exact lv_ifnullN hx hb hdec e1 (hj H locs ls hW hS hl)
    next q st' =>
      have hk := hK _ _ _ wl ws.tl h
      obtain ⟨p, e, R, s, m, args, below, meth, c, cells, slots, Qp⟩ := X
      intro H locs ls hW hS hl
      obtain ⟨hx, hb, hml, hown, hts, hK0, hrm⟩ := id F
      exact lv_ifnull hx hb hdec (hk H locs ls hW hS hl)
    next => exact h.elim
  | ifnonnull off =>
    simp only [sl_okE, Bool.and_eq_true, decide_eq_true_eq] at hok
    obtain ⟨rfl, e1⟩ := hok
    simp only [sl_step, sl_nul] at h
    split at h
    next st' =>
      have hk := hK _ _ _ wl ws.tl h
      obtain ⟨p, e, R, s, m, args, below, meth, c, cells, slots, Qp⟩ := X
      intro H locs ls hW hS hl
      obtain ⟨hx, hb, hml, hown, hts, hK0, hrm⟩ := id F
      exact lv_ifnonnullN hx hb hdec (hk H locs ls hW hS hl)
    next q st' =>
      have hj := hJ _ _ _ _ wl ws.tl h
      obtain ⟨p, e, R, s, m, args, below, meth, c, cells, slots, Qp⟩ := X
      intro H locs ls hW hS hl
      obtain ⟨hx, hb, hml, hown, hts, hK0, hrm⟩ := id F
      exact lv_ifnonnull hx hb hdec e1 (hj H locs ls hW hS hl)
    next => exact h.elim
  | goto off =>
    simp only [sl_okE, Bool.and_eq_true, decide_eq_true_eq] at hok
    obtain ⟨rfl, e1⟩ := hok
    have hj := hJ _ _ _ _ wl ws h
    obtain ⟨p, e, R, s, m, args, below, meth, c, cells, slots, Qp⟩ := X
    intro H locs ls hW hS hl
    obtain ⟨hx, hb, hml, hown, hts, hK0, hrm⟩ := id F
    exact lv_goto hx hb hdec e1 (hj H locs ls hW hS hl)
  | tableswitch dflt lo hi offs =>
    simp only [sl_okE, Bool.and_eq_true, decide_eq_true_eq] at hok
    obtain ⟨e1, e2, e3⟩ := hok
    simp only [sl_step] at h
    split at h
    next v st' =>
      obtain ⟨p, e, R, s, m, args, below, meth, c, cells, slots, Qp⟩ := X
      intro H locs ls hW hS hl
      obtain ⟨hx, hb, hml, hown, hts, hK0, hrm⟩ := id F
      rcases sl_ts_spec _ _ _ e3 h with ⟨i, o, t, g1, g2, g3, g4⟩ | ⟨g1, g2⟩
      · have hi2 : i < offs.toList.length := (List.getElem?_eq_some_iff.mp g1).1
        refine lv_tableIn hx hb hdec (by omega) (by omega) (off := o) ?_ g3 (hJ _ _ _ _ wl ws.tl g4 H locs ls hW hS hl)
        rw [show (v.toInt - lo).toNat = i by omega, ← Array.getElem?_toList]
        exact g1
      · exact lv_tableOut hx hb hdec (by omega) e1 (hJ _ _ _ _ wl ws.tl g2 H locs ls hW hS hl)
    next => exact h.elim
  | lookupswitch dflt ps =>
    simp only [sl_okE, Bool.and_eq_true, decide_eq_true_eq] at hok
    obtain ⟨e1, e2, e3⟩ := hok
    simp only [sl_step] at h
    split at h
    next v st' =>
      obtain ⟨o, t, g1, g2, g3⟩ := sl_ls_spec (J := fun t => J t lv st' μ) e1 id _ _ e3 h
      have hj := hJ _ _ _ _ wl ws.tl g3
      obtain ⟨p, e, R, s, m, args, below, meth, c, cells, slots, Qp⟩ := X
      intro H locs ls hW hS hl
      obtain ⟨hx, hb, hml, hown, hts, hK0, hrm⟩ := id F
      exact lv_lookup hx hb hdec e2 g1 g2 (hj H locs ls hW hS hl)
    next => exact h.elim
  | ireturn =>
    simp only [sl_okE, Bool.and_eq_true, decide_eq_true_eq] at hok
    obtain ⟨rfl, e1⟩ := hok
    obtain ⟨p, e, R, s, m, args, below, meth, c, cells, slots, Qp⟩ := X
    intro H locs ls hW hS hl
    obtain ⟨hx, hb, hml, hown, hts, hK0, hrm⟩ := id F
    obtain ⟨hr, hlocks, rfl⟩ := id Rt
    simp only [sl_step] at h
    split at h
    next v =>
      have e1 : rt = some .int := by simpa using e1
      subst e1
      exact W.iret hx hb hr (fun t ht hWm => ⟨⟨some (.inl v), μ, rfl, fun w hw => by cases hw; trivial, h, by rw [ht]; exact hW⟩, hS.F ht⟩) hS.2.2 hdec hlocks
    next d0 dd v =>
      have e1 : rt = some .boolean := by simpa using e1
      subst e1
      exact W.zret hx hb hr (sl_bz_nar h.1).1 (fun t ht hWm => ⟨⟨some (.inl v), μ, rfl, fun w hw => by cases hw; trivial, h.2, by rw [ht]; exact hW⟩, hS.F ht⟩) hS.2.2 hdec hlocks
    next => exact h.elim
  | lreturn =>
    simp only [sl_okE, Bool.and_eq_true, decide_eq_true_eq] at hok
    obtain ⟨rfl, rfl⟩ := hok
    obtain ⟨p, e, R, s, m, args, below, meth, c, cells, slots, Qp⟩ := X
    intro H locs ls hW hS hl
    obtain ⟨hx, hb, hml, hown, hts, hK0, hrm⟩ := id F
    obtain ⟨hr, hlocks, rfl⟩ := id Rt
    simp only [sl_step] at h
    split at h
    next v => exact W.lret hx hb hr (fun t ht hWm => ⟨⟨some (.inr (.inl v)), μ, rfl, fun w hw => by cases hw; trivial, h, by rw [ht]; exact hW⟩, hS.F ht⟩) hS.2.2 hdec hlocks
    next => exact h.elim
  | areturn =>
    simp only [sl_okE, Bool.and_eq_true, decide_eq_true_eq] at hok
    obtain ⟨rfl, e1⟩ := hok
    obtain ⟨p, e, R, s, m, args, below, meth, c, cells, slots, Qp⟩ := X
    intro H locs ls hW hS hl
    obtain ⟨hx, hb, hml, hown, hts, hK0, hrm⟩ := id F
    obtain ⟨hr, hlocks, rfl⟩ := id Rt
    simp only [sl_step] at h
    split at h
    next v =>
      split at e1
      next n => exact W.aret (v := sl_tv g (.inr (.inr v))) hx hb hr (Or.inl ⟨n, rfl⟩) (by cases v with | none => exact Or.inl rfl | some q => exact Or.inr ⟨_, rfl⟩) (fun t ht hWm => ⟨⟨some (.inr (.inr v)), μ, rfl, fun w hw => by cases hw; exact ws.hd, h, by rw [ht]; exact hW⟩, hS.F ht⟩) hS.2.2 hdec hlocks
      next => cases e1
    next => exact h.elim
  | return_ =>
    simp only [sl_okE, Bool.and_eq_true, decide_eq_true_eq] at hok
    obtain ⟨rfl, rfl⟩ := hok
    obtain ⟨p, e, R, s, m, args, below, meth, c, cells, slots, Qp⟩ := X
    intro H locs ls hW hS hl
    obtain ⟨hx, hb, hml, hown, hts, hK0, hrm⟩ := id F
    obtain ⟨hr, hlocks, rfl⟩ := id Rt
    simp only [sl_step] at h
    split at h
    next => exact W.vret hx hb hr (fun t ht hWm => ⟨⟨none, μ, rfl, (fun w hw => by cases hw), h, by rw [ht]; exact hW⟩, hS.F ht⟩) hS.2.2 hdec hlocks
    next => exact h.elim
  | getfield i =>
    simp only [sl_okE, Bool.and_eq_true] at hok
    obtain ⟨e1, e2⟩ := hok
    obtain rfl := of_decide_eq_true e1
    simp only [sl_step] at h
    exact sl_s_getf F HL ws hdec e2 h (fun st' w' k' => hK _ _ _ wl w' k')
  | putfield i =>
    simp only [sl_okE, Bool.and_eq_true] at hok
    obtain ⟨e1, e2⟩ := hok
    obtain rfl := of_decide_eq_true e1
    simp only [sl_step] at h
    exact sl_s_putf F HL ws hdec e2 h (fun st' μ' w' k' => hK _ _ _ wl w' k')
  | iaload =>
    simp only [sl_okE, decide_eq_true_eq] at hok
    subst hok
    simp only [sl_step] at h
    exact sl_s_ald F ws hdec h (fun st' w' k' => hK _ _ _ wl w' k')
  | iastore =>
    simp only [sl_okE, decide_eq_true_eq] at hok
    subst hok
    simp only [sl_step] at h
    exact sl_s_ast F ws hdec h (fun st' μ' w' k' => hK _ _ _ wl w' k')
  | baload =>
    simp only [sl_okE, decide_eq_true_eq] at hok
    subst hok
    simp only [sl_step] at h
    exact sl_s_zld F ws hdec h (fun st' w' k' => hK _ _ _ wl w' k')
  | bastore =>
    simp only [sl_okE, decide_eq_true_eq] at hok
    subst hok
    simp only [sl_step] at h
    exact sl_s_zst F ws hdec h (fun st' μ' w' k' => hK _ _ _ wl w' k')
  | aaload =>
    simp only [sl_okE, decide_eq_true_eq] at hok
    subst hok
    simp only [sl_step] at h
    exact sl_s_rld F ws hdec h (fun st' w' k' => hK _ _ _ wl w' k')
  | aastore =>
    simp only [sl_okE, decide_eq_true_eq] at hok
    subst hok
    simp only [sl_step] at h
    exact sl_s_rst F ws hdec h (fun st' μ' w' k' => hK _ _ _ wl w' k')
  | invokevirtual i =>
    simp only [sl_okE, Bool.and_eq_true, decide_eq_true_eq] at hok
    obtain ⟨rfl, e1⟩ := hok
    simp only [sl_step] at h
    exact sl_s_call F HC ws (kind := 0) (idx := i) hdec e1 h (fun st' μ' w' k' => hK _ _ _ wl w' k')
  | invokestatic i =>
    simp only [sl_okE, Bool.and_eq_true, decide_eq_true_eq] at hok
    obtain ⟨rfl, e1⟩ := hok
    simp only [sl_step] at h
    exact sl_s_call F HC ws (kind := 1) (idx := i) hdec e1 h (fun st' μ' w' k' => hK _ _ _ wl w' k')
  | _ => exact False.elim h
/-! runs of a method's code -/
def sl_pcs : List sl_Ent → Nat
  | [] => 0
  | e :: _ => e.1
/-- the code's table: each instruction decodes and is checked, the next stands behind it -/
def sl_tbOK (own : String) (cc : ByteArray) (nL : Nat) (rt : Option FieldType) (lk : sl_Lk) (cx : List (Nat × Nat)) : List sl_Ent → Bool
  | [] => true
  | e :: es => decide (decode cc e.1 = .ok (e.2.1, e.2.2.1)) && (sl_okE own nL rt lk cx e && ((match es with
    | [] => true
    | f :: _ => decide (f.1 = e.1 + e.2.2.1)) && sl_tbOK own cc nL rt lk cx es))
/-- what a method's walk stands on -/
def sl_MC (g : sl_G) (X : sl_X) (own : String) (cc : ByteArray) (nL hh : Nat) (rt : Option FieldType) (Q : sl_Qt) (lk : sl_Lk) (cx : List (Nat × Nat)) (ct : List sl_Ct) (cst : sl_L) (cd : List sl_Ent) : Prop :=
  sl_Fx g X own cc nL hh ∧ sl_Rt g X rt Q ∧ sl_LkOK own lk ∧ sl_HC g own hh ct cx ∧ sl_wkL cst ∧ sl_tbOK own cc nL rt lk cx cd = true
def sl_VV (g : sl_G) (X : sl_X) (nL : Nat) (cst : sl_L) (cuts : List (Nat × sl_It)) : Prop := ∀ (pc : Nat) (I : sl_It), sl_look pc cuts = some I → ∀ (lv : sl_L) (st : List sl_V) (μ : sl_M), sl_wkL lv → sl_wkS st → I lv st μ → sl_Vw g X nL cst pc lv st μ
theorem sl_tbOK_find {own : String} {cc : ByteArray} {nL : Nat} {rt : Option FieldType} {lk : sl_Lk} {cx : List (Nat × Nat)} {t : Nat} {cd : List sl_Ent} (h : sl_tbOK own cc nL rt lk cx cd = true) : sl_tbOK own cc nL rt lk cx (sl_find t cd) = true := by
  induction cd with
  | nil => rfl
  | cons e es ih =>
    unfold sl_find
    split
    · exact h
    · simp only [sl_tbOK, Bool.and_eq_true] at h
      exact ih h.2.2.2
theorem sl_find_pc {t : Nat} {cd : List sl_Ent} {e : sl_Ent} {es : List sl_Ent} (h : sl_find t cd = e :: es) : e.1 = t := by
  induction cd with
  | nil => cases h
  | cons f fs ih =>
    unfold sl_find at h
    split at h
    next he =>
      have := (List.cons.inj h).1
      rw [← this]
      exact he
    next => exact ih h
theorem sl_run {cd : List sl_Ent} {cuts : List (Nat × sl_It)} (M : sl_MC g X own cc nL hh rt Q lk cx ct cst cd) (vv : sl_VV g X nL cst cuts) : ∀ (n : Nat) (chk : Bool) (es : List sl_Ent), sl_tbOK own cc nL rt lk cx es = true → ∀ (lv : sl_L) (st : List sl_V) (μ : sl_M), sl_wkL lv → sl_wkS st → sl_wp cd ct cst Q cuts n chk es lv st μ → sl_Vw g X nL cst (sl_pcs es) lv st μ := by
  intro n
  induction n with
  | zero =>
    intro chk es hes lv st μ wl ws h
    exact False.elim h
  | succ n ih =>
    intro chk es hes lv st μ wl ws h
    cases es with
    | nil => exact False.elim h
    | cons e es =>
      obtain ⟨F, Rt, HL, HC, wc, htb⟩ := M
      unfold sl_wp at h
      split at h
      next I hI =>
        split at hI
        · exact vv _ _ hI lv st μ wl ws h
        · cases hI
      next =>
        obtain ⟨pc, ins, len, x, d, sw, fl⟩ := e
        simp only [sl_tbOK, Bool.and_eq_true, decide_eq_true_eq] at hes
        obtain ⟨h1, h2, h3, h4⟩ := hes
        refine sl_step_ok F Rt HL HC wc h1 h2 (fun lv st μ wl ws k => ?_) (fun t lv st μ wl ws k => ?_) wl ws h
        · have := ih true es h4 lv st μ wl ws k
          cases es with
          | nil =>
            cases n with
            | zero => exact False.elim k
            | succ n => exact False.elim k
          | cons f fs =>
            have h5 : f.1 = pc + len := by simpa using h3
            show sl_Vw g X nL cst (pc + len) lv st μ
            rw [← h5]
            exact this
        · have := ih true (sl_find t cd) (sl_tbOK_find htb) lv st μ wl ws k
          cases hf : sl_find t cd with
          | nil =>
            rw [hf] at k
            cases n with
            | zero => exact False.elim k
            | succ n => exact False.elim k
          | cons f fs =>
            rw [hf] at this
            have h5 : f.1 = t := sl_find_pc hf
            rw [← h5]
            exact this
theorem sl_VV0 : sl_VV g X nL cst [] := fun pc I h => by cases h
theorem sl_runF {cd : List sl_Ent} {cuts : List (Nat × sl_It)} (M : sl_MC g X own cc nL hh rt Q lk cx ct cst cd) (vv : sl_VV g X nL cst cuts) {n : Nat} {chk : Bool} {t : Nat} {lv : sl_L} {st : List sl_V} {μ : sl_M} (wl : sl_wkL lv) (ws : sl_wkS st) (h : sl_wp cd ct cst Q cuts n chk (sl_find t cd) lv st μ) : sl_Vw g X nL cst t lv st μ := by
  have h1 := sl_run M vv n chk (sl_find t cd) (sl_tbOK_find M.2.2.2.2.2) lv st μ wl ws h
  cases hf : sl_find t cd with
  | nil =>
    rw [hf] at h
    cases n with
    | zero => exact False.elim h
    | succ n => exact False.elim h
  | cons f fs =>
    rw [hf] at h1
    have h5 : f.1 = t := sl_find_pc hf
    rw [← h5]
    exact h1
theorem sl_ext {cd : List sl_Ent} {cuts : List (Nat × sl_It)} (M : sl_MC g X own cc nL hh rt Q lk cx ct cst cd) (vv : sl_VV g X nL cst cuts) (t : Nat) (I : sl_It) (h : ∀ lv st μ, I lv st μ → sl_wp cd ct cst Q cuts 1000 false (sl_find t cd) lv st μ) : sl_VV g X nL cst ((t, I) :: cuts) := by
  intro pc I' hl lv st μ wl ws hI
  unfold sl_look at hl
  split at hl
  next he =>
    cases hl
    simp only at he
    rw [← he]
    exact sl_runF M vv wl ws (h lv st μ hI)
  next => exact vv pc I' hl lv st μ wl ws hI
theorem sl_extL {cd : List sl_Ent} {cuts : List (Nat × sl_It)} (M : sl_MC g X own cc nL hh rt Q lk cx ct cst cd) (vv : sl_VV g X nL cst cuts) (t : Nat) (F : Nat → sl_It) (h0 : ∀ lv st μ, ¬ F 0 lv st μ)
    (h : ∀ n, sl_VV g X nL cst ((t, F n) :: cuts) → ∃ cuts', sl_VV g X nL cst cuts' ∧ ∀ lv st μ, F (n + 1) lv st μ → sl_wp cd ct cst Q cuts' 1000 false (sl_find t cd) lv st μ) : sl_VV g X nL cst ((t, fun lv st μ => ∃ n, F n lv st μ) :: cuts) := by
  have key : ∀ n, sl_VV g X nL cst ((t, F n) :: cuts) := by
    intro n
    induction n with
    | zero =>
      intro pc I' hl lv st μ wl ws hI
      unfold sl_look at hl
      split at hl
      next he =>
        cases hl
        exact absurd hI (h0 lv st μ)
      next => exact vv pc I' hl lv st μ wl ws hI
    | succ n ih =>
      obtain ⟨cuts', vv', hw⟩ := h n ih
      intro pc I' hl lv st μ wl ws hI
      unfold sl_look at hl
      split at hl
      next he =>
        cases hl
        simp only at he
        rw [← he]
        exact sl_runF M vv' wl ws (hw lv st μ hI)
      next => exact vv pc I' hl lv st μ wl ws hI
  intro pc I' hl lv st μ wl ws hI
  unfold sl_look at hl
  split at hl
  next he =>
    cases hl
    obtain ⟨n, hI⟩ := hI
    refine key n pc (F n) ?_ lv st μ wl ws hI
    unfold sl_look
    rw [if_pos he]
  next => exact vv pc I' hl lv st μ wl ws hI
end RUN
/-! a method's contract out of its walk -/
def sl_slots : List sl_V → sl_L
  | [] => []
  | v :: l => match v with
    | .inr (.inl _) => some v :: none :: sl_slots l
    | _ => some v :: sl_slots l
/-- constant places (1) and the others, out of the arguments' slots -/
def sl_mc : List Bool → sl_L → sl_L
  | true :: m, a :: l => a :: sl_mc m l
  | false :: m, _ :: l => none :: sl_mc m l
  | _, _ => []
def sl_ml : List Bool → sl_L → sl_L
  | true :: m, _ :: l => none :: sl_ml m l
  | false :: m, a :: l => a :: sl_ml m l
  | false :: m, [] => none :: sl_ml m []
  | true :: m, [] => none :: sl_ml m []
  | [], _ => []
theorem sl_m_get : ∀ (m : List Bool) (l : sl_L) (i : Nat) (v : sl_V), sl_get (sl_mc m l) (sl_ml m l) i = some v → sl_nth l i = some v := by
  intro m
  induction m with
  | nil =>
    intro l i v h
    cases l <;> cases h
  | cons b m ih =>
    intro l i v h
    cases l with
    | nil =>
      cases b <;> cases i with
      | zero => cases h
      | succ i =>
        have h2 : sl_nth (sl_ml m []) i = some v := h
        refine ih [] i v ?_
        unfold sl_get
        have : sl_nth (sl_mc m []) i = none := by cases m with
          | nil => rfl
          | cons b m => cases b <;> rfl
        rw [this]
        exact h2
    | cons a l =>
      cases b <;> cases i with
      | zero =>
        first
        | exact h
        | (unfold sl_get at h
           cases a with
           | none => cases h
           | some w => exact h)
      | succ i => exact ih l i v h
theorem sl_slots_args {g : sl_G} : ∀ (As : List sl_V) (i j : Nat) (v : sl_V), sl_nth (sl_slots As) j = some v → (i + j, sl_tv g v) ∈ lv_args i (As.map (sl_tv g)) := by
  intro As
  induction As with
  | nil =>
    intro i j v h
    cases h
  | cons a As ih =>
    intro i j v h
    have hcat : (sl_tv g a).category = 2 ↔ sl_isJ (some a) = true := sl_tv_cat
    match a with
    | .inr (.inl x) =>
      show (i + j, sl_tv g v) ∈ (i, Value.long x) :: lv_args (i + 2) (As.map (sl_tv g))
      match j, h with
      | 0, h => cases h; exact List.mem_cons_self
      | 1, h => cases h
      | j + 2, h =>
        have := ih (i + 2) j v h
        rw [show i + 2 + j = i + (j + 2) by omega] at this
        exact List.mem_cons_of_mem _ this
    | .inl x =>
      show (i + j, sl_tv g v) ∈ (i, Value.int x) :: lv_args (i + 1) (As.map (sl_tv g))
      match j, h with
      | 0, h => cases h; exact List.mem_cons_self
      | j + 1, h =>
        have := ih (i + 1) j v h
        rw [show i + 1 + j = i + (j + 1) by omega] at this
        exact List.mem_cons_of_mem _ this
    | .inr (.inr none) =>
      show (i + j, sl_tv g v) ∈ (i, Value.null) :: lv_args (i + 1) (As.map (sl_tv g))
      match j, h with
      | 0, h => cases h; exact List.mem_cons_self
      | j + 1, h =>
        have := ih (i + 1) j v h
        rw [show i + 1 + j = i + (j + 1) by omega] at this
        exact List.mem_cons_of_mem _ this
    | .inr (.inr (some q)) =>
      show (i + j, sl_tv g v) ∈ (i, Value.ref (sl_ad g q.1 q.2)) :: lv_args (i + 1) (As.map (sl_tv g))
      match j, h with
      | 0, h => cases h; exact List.mem_cons_self
      | j + 1, h =>
        have := ih (i + 1) j v h
        rw [show i + 1 + j = i + (j + 1) by omega] at this
        exact List.mem_cons_of_mem _ this
theorem sl_slots_wk : ∀ (As : List sl_V), (∀ v ∈ As, sl_wk v) → sl_wkL (sl_slots As) := by
  intro As
  induction As with
  | nil => intro _ i v h; cases h
  | cons a As ih =>
    intro hw i v h
    have ih := ih (fun v hv => hw v (List.mem_cons_of_mem _ hv))
    match a, i, h with
    | .inr (.inl x), 0, h => cases h; trivial
    | .inr (.inl x), 1, h => cases h
    | .inr (.inl x), i + 2, h => exact ih i v h
    | .inl x, 0, h => cases h; trivial
    | .inl x, i + 1, h => exact ih i v h
    | .inr (.inr none), 0, h => cases h; trivial
    | .inr (.inr none), i + 1, h => exact ih i v h
    | .inr (.inr (some q)), 0, h => cases h; exact hw _ List.mem_cons_self
    | .inr (.inr (some q)), i + 1, h => exact ih i v h
theorem sl_slots_len {g : sl_G} : ∀ (As : List sl_V), (lg_sl (As.map (sl_tv g))).length = (sl_slots As).length := by
  intro As
  induction As with
  | nil => rfl
  | cons a As ih =>
    match a with
    | .inr (.inl x) => 
      show (Slot.val (.long x) :: Slot.second :: lg_sl (As.map (sl_tv g))).length = _
      simp [sl_slots, ih]
    | .inl x =>
      show (Slot.val (.int x) :: lg_sl (As.map (sl_tv g))).length = _
      simp [sl_slots, ih]
    | .inr (.inr none) =>
      show (Slot.val .null :: lg_sl (As.map (sl_tv g))).length = _
      simp [sl_slots, ih]
    | .inr (.inr (some q)) =>
      show (Slot.val (.ref _) :: lg_sl (As.map (sl_tv g))).length = _
      simp [sl_slots, ih]
theorem sl_mk (g : sl_G) {y : MethodName} {own : String} {cc : ByteArray} {nL hh : Nat} {rt : Option FieldType} {lk : sl_Lk} {cx : List (Nat × Nat)} {ct : List sl_Ct} {cd : List sl_Ent} (msk : List Bool) {As : List sl_V} {μ : sl_M} {Q : sl_Qt} (hy : plainName y.cls = true) (hyc : y.cls = own) (hw : ∀ v ∈ As, sl_wk v) (hln : (sl_slots As).length ≤ nL) (HL : sl_LkOK own lk) (HC : sl_HC g own hh ct cx) (htb : sl_tbOK own cc nL rt lk cx cd = true)
    (body : ∀ X : sl_X, sl_MC g X own cc nL hh rt Q lk cx ct (sl_mc msk (sl_slots As)) cd → sl_Vw g X nL (sl_mc msk (sl_slots As)) 0 (sl_ml msk (sl_slots As)) [] μ) : sl_Met g y cc nL rt hh As μ Q := by
  unfold sl_Met
  refine Met.ofW (cc := cc) (maxL := nL) (ret := rt) hy rfl ?_
  intro p e s m args below meth c s₁ B hml hv
  obtain ⟨rfl, hWd, hK⟩ := hv
  have hts := atoms_spec (ws := Cond.code y cc nL rt :: sl_T0) B.pre
  have hown : s.vm.findClass own = some m.cls := hyc ▸ findClass_of_methodNamed B.named
  have hl := lv_entry (As.map (sl_tv g)) (n := nL) (by rw [sl_slots_len]; exact hln)
  rw [lg_entry_eq]
  generalize (lg_sl (As.map (sl_tv g)) ++ List.replicate (nL - (lg_sl (As.map (sl_tv g))).length) Slot.unset).toArray = ls at hl ⊢
  have wk0 := sl_slots_wk As hw
  have hlh : sl_lh g ls nL (sl_mc msk (sl_slots As)) (sl_ml msk (sl_slots As)) := by
    refine ⟨hl.1, hl.2.1, fun i v h => ?_⟩
    have := sl_slots_args (g := g) As 0 i v (sl_m_get _ _ _ _ h)
    rw [Nat.zero_add] at this
    exact hl.2.2 _ this
  have wc : sl_wkL (sl_mc msk (sl_slots As)) := fun i v h => by
    refine wk0 i v (sl_m_get msk _ i v ?_)
    unfold sl_get
    rw [h]
  exact body (p, e, sl_rm hh, s, m, (As.map (sl_tv g)).toArray, below, meth, c, 0, 0, MQ below (sl_Qc g Q) (As.map (sl_tv g)).toArray s 0 0 (sl_A g)) ⟨⟨B.exec, B.bytes, hml, hown, fun w hw => hts w (List.mem_cons_of_mem _ hw), hK, Nat.le_refl _, Nat.le_refl _, Nat.le_refl _, Nat.le_refl _⟩, ⟨B.returns, B.notSynchronized, rfl⟩, HL, HC, wc, htb⟩ s.heap [] ls hWd va_S.rf hlh
end
section
/-! what the printed methods use -/
abbrev sl_ET : Type := Int32 → sl_M → (Int32 → sl_M → Prop) → Prop
theorem sl_mk2 (g : sl_G) {y : MethodName} {own : String} {cc : ByteArray} {nL hh : Nat} {rt : Option FieldType} {lk : sl_Lk} {cx : List (Nat × Nat)} {ct : List sl_Ct} {cd : List sl_Ent} (msk : List Bool) {As : List sl_V} {μ : sl_M} {Q : sl_Qt} {cst lv0 : sl_L} (hy : plainName y.cls = true) (hyc : y.cls = own) (hw : ∀ v ∈ As, sl_wk v) (hln : Nat.ble (sl_slots As).length nL = true) (e1 : sl_mc msk (sl_slots As) = cst) (e2 : sl_ml msk (sl_slots As) = lv0) (HL : sl_LkOK own lk) (HC : sl_HC g own hh ct cx) (htb : sl_tbOK own cc nL rt lk cx cd = true) (hpc : sl_pcs cd = 0)
    (body : ∀ X : sl_X, sl_MC g X own cc nL hh rt Q lk cx ct cst cd → ∃ cuts, sl_VV g X nL cst cuts ∧ sl_wp cd ct cst Q cuts 1000 true cd lv0 [] μ) : sl_Met g y cc nL rt hh As μ Q := by
  subst e1
  subst e2
  refine sl_mk g msk hy hyc hw (Nat.le_of_ble_eq_true hln) HL HC htb (fun X M => ?_)
  obtain ⟨cuts, vv, h⟩ := body X M
  have wl : sl_wkL (sl_ml msk (sl_slots As)) := fun i v h => by
    refine sl_slots_wk As hw i v ?_
    cases hc : sl_nth (sl_mc msk (sl_slots As)) i with
    | none =>
      refine sl_m_get msk _ i v ?_
      unfold sl_get
      rw [hc]
      exact h
    | some w =>
      exfalso
      have : ∀ (m : List Bool) (l : sl_L) (i : Nat) (v w : sl_V), sl_nth (sl_ml m l) i = some v → sl_nth (sl_mc m l) i = some w → False := by
        intro m
        induction m with
        | nil => intro l i v w h1 h2; cases l <;> cases h2
        | cons b m ih =>
          intro l i v w h1 h2
          cases l with
          | nil => cases b <;> cases h2
          | cons a l =>
            cases b <;> cases i with
            | zero => first | (cases h2; done) | (cases h1; done)
            | succ i => exact ih l i v w h1 h2
      exact this _ _ _ _ _ h hc
  have := sl_run M vv 1000 true cd htb _ [] μ wl (fun v hv => by cases hv) h
  rw [hpc] at this
  exact this
/-! Math.max, min, abs: rows of the kit -/
def ma_max (a0 : Int32) (a1 : Int32) (μ : sl_M) (Q : Int32 → sl_M → Prop) : Prop := (a0 < a1 → Q a1 μ) ∧ (¬ a0 < a1 → Q a0 μ)
def ma_max_pt : sl_PT := fun As μ Q => match As with
  | [.inl a0, .inl a1] => ma_max a0 a1 μ (fun r μ' => Q (some (.inl r)) μ')
  | _ => False
def ma_min (a0 : Int32) (a1 : Int32) (μ : sl_M) (Q : Int32 → sl_M → Prop) : Prop := (a1 < a0 → Q a1 μ) ∧ (¬ a1 < a0 → Q a0 μ)
def ma_min_pt : sl_PT := fun As μ Q => match As with
  | [.inl a0, .inl a1] => ma_min a0 a1 μ (fun r μ' => Q (some (.inl r)) μ')
  | _ => False
def ma_abs (a0 : Int32) (μ : sl_M) (Q : Int32 → sl_M → Prop) : Prop := (0 ≤ a0 → Q a0 μ) ∧ (¬ 0 ≤ a0 → Q (0 - a0) μ)
def ma_abs_pt : sl_PT := fun As μ Q => match As with
  | [.inl a0] => ma_abs a0 μ (fun r μ' => Q (some (.inl r)) μ')
  | _ => False
theorem sl_callMax {g : sl_G} {own : String} {idx h : Nat} (hh : 1 ≤ h) (w1 : Cond.methodLink own idx Lib.Math.max.name ∈ sl_T0) (w2 : Cond.static Lib.Math.max.name ∈ sl_T0) (w4 : Cond.initialized "java/lang/Math" ∈ sl_T0) (w5 : Cond.code Lib.Math.max.name Lib.Math.max.code 2 (some .int) ∈ sl_T0) : sl_CallS g own idx 1 0 h 2 ma_max_pt := by
  intro p e R s m args below meth c cells slots Qp cc nL F pc hdec μ H locs ls As rest Q' hn hw hrc hWd hS hsz hcat hpt kk
  obtain ⟨hx, hb, hml, hown, hts, hK, hf, hl, hc, hsl⟩ := F
  unfold ma_max_pt at hpt
  split at hpt
  next a0 a1 =>
    refine va_mmax (rest := rest) hx hb (hml.trans hsz.symm) hown (hts _ w1) (hts _ w2) (hts _ w4) (hts _ w5) (by omega) (by omega) hc hsl hdec ?_
    split
    next hlt => exact kk (some (.inl a1)) μ H locs (hpt.1 hlt) (fun v hv => by cases hv; trivial) hWd hS
    next hlt => exact kk (some (.inl a0)) μ H locs (hpt.2 hlt) (fun v hv => by cases hv; trivial) hWd hS
  next => exact hpt.elim
theorem sl_callMin {g : sl_G} {own : String} {idx h : Nat} (hh : 1 ≤ h) (w1 : Cond.methodLink own idx Lib.Math.min.name ∈ sl_T0) (w2 : Cond.static Lib.Math.min.name ∈ sl_T0) (w4 : Cond.initialized "java/lang/Math" ∈ sl_T0) (w5 : Cond.code Lib.Math.min.name Lib.Math.min.code 2 (some .int) ∈ sl_T0) : sl_CallS g own idx 1 0 h 2 ma_min_pt := by
  intro p e R s m args below meth c cells slots Qp cc nL F pc hdec μ H locs ls As rest Q' hn hw hrc hWd hS hsz hcat hpt kk
  obtain ⟨hx, hb, hml, hown, hts, hK, hf, hl, hc, hsl⟩ := F
  unfold ma_min_pt at hpt
  split at hpt
  next a0 a1 =>
    refine va_mmin (rest := rest) hx hb (hml.trans hsz.symm) hown (hts _ w1) (hts _ w2) (hts _ w4) (hts _ w5) (by omega) (by omega) hc hsl hdec ?_
    split
    next hlt => exact kk (some (.inl a1)) μ H locs (hpt.1 hlt) (fun v hv => by cases hv; trivial) hWd hS
    next hlt => exact kk (some (.inl a0)) μ H locs (hpt.2 hlt) (fun v hv => by cases hv; trivial) hWd hS
  next => exact hpt.elim
theorem sl_callAbs {g : sl_G} {own : String} {idx h : Nat} (hh : 1 ≤ h) (w1 : Cond.methodLink own idx Lib.Math.abs.name ∈ sl_T0) (w2 : Cond.static Lib.Math.abs.name ∈ sl_T0) (w4 : Cond.initialized "java/lang/Math" ∈ sl_T0) (w5 : Cond.code Lib.Math.abs.name Lib.Math.abs.code 1 (some .int) ∈ sl_T0) : sl_CallS g own idx 1 0 h 1 ma_abs_pt := by
  intro p e R s m args below meth c cells slots Qp cc nL F pc hdec μ H locs ls As rest Q' hn hw hrc hWd hS hsz hcat hpt kk
  obtain ⟨hx, hb, hml, hown, hts, hK, hf, hl, hc, hsl⟩ := F
  unfold ma_abs_pt at hpt
  split at hpt
  next a0 =>
    refine va_mabs (rest := rest) hx hb (hml.trans hsz.symm) hown (hts _ w1) (hts _ w2) (hts _ w4) (hts _ w5) (by omega) (by omega) hc hsl hdec ?_
    split
    next hlt => exact kk (some (.inl a0)) μ H locs (hpt.1 hlt) (fun v hv => by cases hv; trivial) hWd hS
    next hlt => exact kk (some (.inl (0 - a0))) μ H locs (hpt.2 hlt) (fun v hv => by cases hv; trivial) hWd hS
  next => exact hpt.elim
end
section
def lk_ch : sl_Lk := ([(9, 0, 0), (15, 0, 1), (18, 0, 2), (21, 0, 3), (58, 5, 0), (64, 9, 1), (85, 9, 2), (94, 9, 3), (100, 9, 4)], [], [])
set_option maxRecDepth 20000 in
theorem lk_ch_ok : sl_LkOK sl_R0 lk_ch := ⟨List.forall_mem_cons.mpr ⟨⟨sl_R0, sl_F0, 4, sl_t0, rfl, by decide, rfl, sl_in1 264 (by decide +kernel) rfl, sl_i0, sl_ty0, sl_nm0⟩, List.forall_mem_cons.mpr ⟨⟨sl_R0, sl_F0, 4, sl_t0, rfl, by decide, rfl, sl_in1 265 (by decide +kernel) rfl, sl_i0, sl_ty0, sl_nm0⟩, List.forall_mem_cons.mpr ⟨⟨sl_R0, sl_F0, 4, sl_t0, rfl, by decide, rfl, sl_in1 266 (by decide +kernel) rfl, sl_i0, sl_ty0, sl_nm0⟩, List.forall_mem_cons.mpr ⟨⟨sl_R0, sl_F0, 4, sl_t0, rfl, by decide, rfl, sl_in1 267 (by decide +kernel) rfl, sl_i0, sl_ty0, sl_nm0⟩, List.forall_mem_cons.mpr ⟨⟨sl_R5, sl_F5, 2, sl_t5, rfl, by decide, rfl, sl_in1 169 (by decide +kernel) rfl, sl_i5, sl_ty5, sl_nm5⟩, List.forall_mem_cons.mpr ⟨⟨sl_R9, sl_F9, 6, sl_t9, rfl, by decide, rfl, sl_in1 133 (by decide +kernel) rfl, sl_i9, sl_ty9, sl_nm9⟩, List.forall_mem_cons.mpr ⟨⟨sl_R9, sl_F9, 6, sl_t9, rfl, by decide, rfl, sl_in1 140 (by decide +kernel) rfl, sl_i9, sl_ty9, sl_nm9⟩, List.forall_mem_cons.mpr ⟨⟨sl_R9, sl_F9, 6, sl_t9, rfl, by decide, rfl, sl_in1 146 (by decide +kernel) rfl, sl_i9, sl_ty9, sl_nm9⟩, List.forall_mem_cons.mpr ⟨⟨sl_R9, sl_F9, 6, sl_t9, rfl, by decide, rfl, sl_in1 151 (by decide +kernel) rfl, sl_i9, sl_ty9, sl_nm9⟩, fun _ h => absurd h List.not_mem_nil⟩⟩⟩⟩⟩⟩⟩⟩⟩, fun _ h => absurd h List.not_mem_nil, fun _ h => absurd h List.not_mem_nil⟩
def lk_co : sl_Lk := ([(9, 1, 0), (15, 1, 1), (18, 1, 3), (21, 1, 2), (29, 9, 0), (34, 9, 3), (37, 5, 0), (43, 9, 1), (47, 9, 2), (54, 5, 1), (57, 9, 4)], [], [])
set_option maxRecDepth 20000 in
theorem lk_co_ok : sl_LkOK sl_R1 lk_co := ⟨List.forall_mem_cons.mpr ⟨⟨sl_R1, sl_F1, 4, sl_t1, rfl, by decide, rfl, sl_in1 212 (by decide +kernel) rfl, sl_i1, sl_ty1, sl_nm1⟩, List.forall_mem_cons.mpr ⟨⟨sl_R1, sl_F1, 4, sl_t1, rfl, by decide, rfl, sl_in1 214 (by decide +kernel) rfl, sl_i1, sl_ty1, sl_nm1⟩, List.forall_mem_cons.mpr ⟨⟨sl_R1, sl_F1, 4, sl_t1, rfl, by decide, rfl, sl_in1 218 (by decide +kernel) rfl, sl_i1, sl_ty1, sl_nm1⟩, List.forall_mem_cons.mpr ⟨⟨sl_R1, sl_F1, 4, sl_t1, rfl, by decide, rfl, sl_in1 216 (by decide +kernel) rfl, sl_i1, sl_ty1, sl_nm1⟩, List.forall_mem_cons.mpr ⟨⟨sl_R9, sl_F9, 6, sl_t9, rfl, by decide, rfl, sl_in1 127 (by decide +kernel) rfl, sl_i9, sl_ty9, sl_nm9⟩, List.forall_mem_cons.mpr ⟨⟨sl_R9, sl_F9, 6, sl_t9, rfl, by decide, rfl, sl_in1 142 (by decide +kernel) rfl, sl_i9, sl_ty9, sl_nm9⟩, List.forall_mem_cons.mpr ⟨⟨sl_R5, sl_F5, 2, sl_t5, rfl, by decide, rfl, sl_in1 168 (by decide +kernel) rfl, sl_i5, sl_ty5, sl_nm5⟩, List.forall_mem_cons.mpr ⟨⟨sl_R9, sl_F9, 6, sl_t9, rfl, by decide, rfl, sl_in1 132 (by decide +kernel) rfl, sl_i9, sl_ty9, sl_nm9⟩, List.forall_mem_cons.mpr ⟨⟨sl_R9, sl_F9, 6, sl_t9, rfl, by decide, rfl, sl_in1 138 (by decide +kernel) rfl, sl_i9, sl_ty9, sl_nm9⟩, List.forall_mem_cons.mpr ⟨⟨sl_R5, sl_F5, 2, sl_t5, rfl, by decide, rfl, sl_in1 175 (by decide +kernel) rfl, sl_i5, sl_ty5, sl_nm5⟩, List.forall_mem_cons.mpr ⟨⟨sl_R9, sl_F9, 6, sl_t9, rfl, by decide, rfl, sl_in1 149 (by decide +kernel) rfl, sl_i9, sl_ty9, sl_nm9⟩, fun _ h => absurd h List.not_mem_nil⟩⟩⟩⟩⟩⟩⟩⟩⟩⟩⟩, fun _ h => absurd h List.not_mem_nil, fun _ h => absurd h List.not_mem_nil⟩
def lk_cn : sl_Lk := ([(61, 5, 0), (65, 9, 1)], [], [])
set_option maxRecDepth 20000 in
theorem lk_cn_ok : sl_LkOK sl_R2 lk_cn := ⟨List.forall_mem_cons.mpr ⟨⟨sl_R5, sl_F5, 2, sl_t5, rfl, by decide, rfl, sl_in1 171 (by decide +kernel) rfl, sl_i5, sl_ty5, sl_nm5⟩, List.forall_mem_cons.mpr ⟨⟨sl_R9, sl_F9, 6, sl_t9, rfl, by decide, rfl, sl_in1 134 (by decide +kernel) rfl, sl_i9, sl_ty9, sl_nm9⟩, fun _ h => absurd h List.not_mem_nil⟩⟩, fun _ h => absurd h List.not_mem_nil, fun _ h => absurd h List.not_mem_nil⟩
def lk_cv : sl_Lk := ([(9, 3, 0), (15, 3, 1), (18, 3, 2), (27, 3, 3), (31, 5, 1), (35, 9, 2), (40, 9, 3)], [], [])
set_option maxRecDepth 20000 in
theorem lk_cv_ok : sl_LkOK sl_R3 lk_cv := ⟨List.forall_mem_cons.mpr ⟨⟨sl_R3, sl_F3, 4, sl_t3, rfl, by decide, rfl, sl_in1 188 (by decide +kernel) rfl, sl_i3, sl_ty3, sl_nm3⟩, List.forall_mem_cons.mpr ⟨⟨sl_R3, sl_F3, 4, sl_t3, rfl, by decide, rfl, sl_in1 190 (by decide +kernel) rfl, sl_i3, sl_ty3, sl_nm3⟩, List.forall_mem_cons.mpr ⟨⟨sl_R3, sl_F3, 4, sl_t3, rfl, by decide, rfl, sl_in1 192 (by decide +kernel) rfl, sl_i3, sl_ty3, sl_nm3⟩, List.forall_mem_cons.mpr ⟨⟨sl_R3, sl_F3, 4, sl_t3, rfl, by decide, rfl, sl_in1 194 (by decide +kernel) rfl, sl_i3, sl_ty3, sl_nm3⟩, List.forall_mem_cons.mpr ⟨⟨sl_R5, sl_F5, 2, sl_t5, rfl, by decide, rfl, sl_in1 173 (by decide +kernel) rfl, sl_i5, sl_ty5, sl_nm5⟩, List.forall_mem_cons.mpr ⟨⟨sl_R9, sl_F9, 6, sl_t9, rfl, by decide, rfl, sl_in1 136 (by decide +kernel) rfl, sl_i9, sl_ty9, sl_nm9⟩, List.forall_mem_cons.mpr ⟨⟨sl_R9, sl_F9, 6, sl_t9, rfl, by decide, rfl, sl_in1 143 (by decide +kernel) rfl, sl_i9, sl_ty9, sl_nm9⟩, fun _ h => absurd h List.not_mem_nil⟩⟩⟩⟩⟩⟩⟩, fun _ h => absurd h List.not_mem_nil, fun _ h => absurd h List.not_mem_nil⟩
def lk_cu : sl_Lk := ([(12, 4, 3), (18, 4, 0), (22, 4, 1), (26, 4, 2)], [], [])
set_option maxRecDepth 20000 in
theorem lk_cu_ok : sl_LkOK sl_R4 lk_cu := ⟨List.forall_mem_cons.mpr ⟨⟨sl_R4, sl_F4, 4, sl_t4, rfl, by decide, rfl, sl_in1 327 (by decide +kernel) rfl, sl_i4, sl_ty4, sl_nm4⟩, List.forall_mem_cons.mpr ⟨⟨sl_R4, sl_F4, 4, sl_t4, rfl, by decide, rfl, sl_in1 320 (by decide +kernel) rfl, sl_i4, sl_ty4, sl_nm4⟩, List.forall_mem_cons.mpr ⟨⟨sl_R4, sl_F4, 4, sl_t4, rfl, by decide, rfl, sl_in1 322 (by decide +kernel) rfl, sl_i4, sl_ty4, sl_nm4⟩, List.forall_mem_cons.mpr ⟨⟨sl_R4, sl_F4, 4, sl_t4, rfl, by decide, rfl, sl_in1 324 (by decide +kernel) rfl, sl_i4, sl_ty4, sl_nm4⟩, fun _ h => absurd h List.not_mem_nil⟩⟩⟩⟩, fun _ h => absurd h List.not_mem_nil, fun _ h => absurd h List.not_mem_nil⟩
def lk_ix : sl_Lk := ([(11, 5, 0), (17, 5, 1), (31, 9, 1), (35, 9, 2), (39, 9, 3), (42, 9, 4), (59, 9, 5), (78, 9, 0), (104, 4, 2), (109, 4, 3), (113, 4, 1)], [], [])
set_option maxRecDepth 20000 in
theorem lk_ix_ok : sl_LkOK sl_R5 lk_ix := ⟨List.forall_mem_cons.mpr ⟨⟨sl_R5, sl_F5, 2, sl_t5, rfl, by decide, rfl, sl_in1 167 (by decide +kernel) rfl, sl_i5, sl_ty5, sl_nm5⟩, List.forall_mem_cons.mpr ⟨⟨sl_R5, sl_F5, 2, sl_t5, rfl, by decide, rfl, sl_in1 172 (by decide +kernel) rfl, sl_i5, sl_ty5, sl_nm5⟩, List.forall_mem_cons.mpr ⟨⟨sl_R9, sl_F9, 6, sl_t9, rfl, by decide, rfl, sl_in1 131 (by decide +kernel) rfl, sl_i9, sl_ty9, sl_nm9⟩, List.forall_mem_cons.mpr ⟨⟨sl_R9, sl_F9, 6, sl_t9, rfl, by decide, rfl, sl_in1 139 (by decide +kernel) rfl, sl_i9, sl_ty9, sl_nm9⟩, List.forall_mem_cons.mpr ⟨⟨sl_R9, sl_F9, 6, sl_t9, rfl, by decide, rfl, sl_in1 145 (by decide +kernel) rfl, sl_i9, sl_ty9, sl_nm9⟩, List.forall_mem_cons.mpr ⟨⟨sl_R9, sl_F9, 6, sl_t9, rfl, by decide, rfl, sl_in1 150 (by decide +kernel) rfl, sl_i9, sl_ty9, sl_nm9⟩, List.forall_mem_cons.mpr ⟨⟨sl_R9, sl_F9, 6, sl_t9, rfl, by decide, rfl, sl_in1 153 (by decide +kernel) rfl, sl_i9, sl_ty9, sl_nm9⟩, List.forall_mem_cons.mpr ⟨⟨sl_R9, sl_F9, 6, sl_t9, rfl, by decide, rfl, sl_in1 129 (by decide +kernel) rfl, sl_i9, sl_ty9, sl_nm9⟩, List.forall_mem_cons.mpr ⟨⟨sl_R4, sl_F4, 4, sl_t4, rfl, by decide, rfl, sl_in1 326 (by decide +kernel) rfl, sl_i4, sl_ty4, sl_nm4⟩, List.forall_mem_cons.mpr ⟨⟨sl_R4, sl_F4, 4, sl_t4, rfl, by decide, rfl, sl_in1 329 (by decide +kernel) rfl, sl_i4, sl_ty4, sl_nm4⟩, List.forall_mem_cons.mpr ⟨⟨sl_R4, sl_F4, 4, sl_t4, rfl, by decide, rfl, sl_in1 323 (by decide +kernel) rfl, sl_i4, sl_ty4, sl_nm4⟩, fun _ h => absurd h List.not_mem_nil⟩⟩⟩⟩⟩⟩⟩⟩⟩⟩⟩, fun _ h => absurd h List.not_mem_nil, fun _ h => absurd h List.not_mem_nil⟩
def lk_pp : sl_Lk := ([(9, 6, 0), (21, 6, 1), (29, 5, 1), (37, 9, 2), (45, 9, 3), (48, 9, 4)], [], [])
set_option maxRecDepth 20000 in
theorem lk_pp_ok : sl_LkOK sl_R6 lk_pp := ⟨List.forall_mem_cons.mpr ⟨⟨sl_R6, sl_F6, 2, sl_t6, rfl, by decide, rfl, sl_in1 302 (by decide +kernel) rfl, sl_i6, sl_ty6, sl_nm6⟩, List.forall_mem_cons.mpr ⟨⟨sl_R6, sl_F6, 2, sl_t6, rfl, by decide, rfl, sl_in1 304 (by decide +kernel) rfl, sl_i6, sl_ty6, sl_nm6⟩, List.forall_mem_cons.mpr ⟨⟨sl_R5, sl_F5, 2, sl_t5, rfl, by decide, rfl, sl_in1 174 (by decide +kernel) rfl, sl_i5, sl_ty5, sl_nm5⟩, List.forall_mem_cons.mpr ⟨⟨sl_R9, sl_F9, 6, sl_t9, rfl, by decide, rfl, sl_in1 137 (by decide +kernel) rfl, sl_i9, sl_ty9, sl_nm9⟩, List.forall_mem_cons.mpr ⟨⟨sl_R9, sl_F9, 6, sl_t9, rfl, by decide, rfl, sl_in1 144 (by decide +kernel) rfl, sl_i9, sl_ty9, sl_nm9⟩, List.forall_mem_cons.mpr ⟨⟨sl_R9, sl_F9, 6, sl_t9, rfl, by decide, rfl, sl_in1 148 (by decide +kernel) rfl, sl_i9, sl_ty9, sl_nm9⟩, fun _ h => absurd h List.not_mem_nil⟩⟩⟩⟩⟩⟩, fun _ h => absurd h List.not_mem_nil, fun _ h => absurd h List.not_mem_nil⟩
def lk_pa : sl_Lk := ([(9, 7, 0), (15, 7, 1), (18, 7, 2), (21, 7, 3), (45, 10, 2)], [], [])
set_option maxRecDepth 20000 in
theorem lk_pa_ok : sl_LkOK sl_R7 lk_pa := ⟨List.forall_mem_cons.mpr ⟨⟨sl_R7, sl_F7, 4, sl_t7, rfl, by decide, rfl, sl_in1 283 (by decide +kernel) rfl, sl_i7, sl_ty7, sl_nm7⟩, List.forall_mem_cons.mpr ⟨⟨sl_R7, sl_F7, 4, sl_t7, rfl, by decide, rfl, sl_in1 284 (by decide +kernel) rfl, sl_i7, sl_ty7, sl_nm7⟩, List.forall_mem_cons.mpr ⟨⟨sl_R7, sl_F7, 4, sl_t7, rfl, by decide, rfl, sl_in1 285 (by decide +kernel) rfl, sl_i7, sl_ty7, sl_nm7⟩, List.forall_mem_cons.mpr ⟨⟨sl_R7, sl_F7, 4, sl_t7, rfl, by decide, rfl, sl_in1 286 (by decide +kernel) rfl, sl_i7, sl_ty7, sl_nm7⟩, List.forall_mem_cons.mpr ⟨⟨sl_R10, sl_F10, 4, sl_t10, rfl, by decide, rfl, sl_in1 239 (by decide +kernel) rfl, sl_i10, sl_ty10, sl_nm10⟩, fun _ h => absurd h List.not_mem_nil⟩⟩⟩⟩⟩, fun _ h => absurd h List.not_mem_nil, fun _ h => absurd h List.not_mem_nil⟩
def lk_ro : sl_Lk := ([(9, 8, 0), (15, 8, 1), (19, 8, 2)], [], [])
set_option maxRecDepth 20000 in
theorem lk_ro_ok : sl_LkOK sl_R8 lk_ro := ⟨List.forall_mem_cons.mpr ⟨⟨sl_R8, sl_F8, 3, sl_t8, rfl, by decide, rfl, sl_in1 344 (by decide +kernel) rfl, sl_i8, sl_ty8, sl_nm8⟩, List.forall_mem_cons.mpr ⟨⟨sl_R8, sl_F8, 3, sl_t8, rfl, by decide, rfl, sl_in1 346 (by decide +kernel) rfl, sl_i8, sl_ty8, sl_nm8⟩, List.forall_mem_cons.mpr ⟨⟨sl_R8, sl_F8, 3, sl_t8, rfl, by decide, rfl, sl_in1 348 (by decide +kernel) rfl, sl_i8, sl_ty8, sl_nm8⟩, fun _ h => absurd h List.not_mem_nil⟩⟩⟩, fun _ h => absurd h List.not_mem_nil, fun _ h => absurd h List.not_mem_nil⟩
def lk_sp : sl_Lk := ([(9, 9, 0), (15, 9, 1), (19, 9, 2), (22, 9, 3), (25, 9, 4), (28, 9, 5)], [], [])
set_option maxRecDepth 20000 in
theorem lk_sp_ok : sl_LkOK sl_R9 lk_sp := ⟨List.forall_mem_cons.mpr ⟨⟨sl_R9, sl_F9, 6, sl_t9, rfl, by decide, rfl, sl_in1 126 (by decide +kernel) rfl, sl_i9, sl_ty9, sl_nm9⟩, List.forall_mem_cons.mpr ⟨⟨sl_R9, sl_F9, 6, sl_t9, rfl, by decide, rfl, sl_in1 130 (by decide +kernel) rfl, sl_i9, sl_ty9, sl_nm9⟩, List.forall_mem_cons.mpr ⟨⟨sl_R9, sl_F9, 6, sl_t9, rfl, by decide, rfl, sl_in1 135 (by decide +kernel) rfl, sl_i9, sl_ty9, sl_nm9⟩, List.forall_mem_cons.mpr ⟨⟨sl_R9, sl_F9, 6, sl_t9, rfl, by decide, rfl, sl_in1 141 (by decide +kernel) rfl, sl_i9, sl_ty9, sl_nm9⟩, List.forall_mem_cons.mpr ⟨⟨sl_R9, sl_F9, 6, sl_t9, rfl, by decide, rfl, sl_in1 147 (by decide +kernel) rfl, sl_i9, sl_ty9, sl_nm9⟩, List.forall_mem_cons.mpr ⟨⟨sl_R9, sl_F9, 6, sl_t9, rfl, by decide, rfl, sl_in1 152 (by decide +kernel) rfl, sl_i9, sl_ty9, sl_nm9⟩, fun _ h => absurd h List.not_mem_nil⟩⟩⟩⟩⟩⟩, fun _ h => absurd h List.not_mem_nil, fun _ h => absurd h List.not_mem_nil⟩
def lk_tp : sl_Lk := ([(9, 10, 0), (15, 10, 3), (19, 10, 1), (22, 10, 2)], [], [])
set_option maxRecDepth 20000 in
theorem lk_tp_ok : sl_LkOK sl_R10 lk_tp := ⟨List.forall_mem_cons.mpr ⟨⟨sl_R10, sl_F10, 4, sl_t10, rfl, by decide, rfl, sl_in1 236 (by decide +kernel) rfl, sl_i10, sl_ty10, sl_nm10⟩, List.forall_mem_cons.mpr ⟨⟨sl_R10, sl_F10, 4, sl_t10, rfl, by decide, rfl, sl_in1 241 (by decide +kernel) rfl, sl_i10, sl_ty10, sl_nm10⟩, List.forall_mem_cons.mpr ⟨⟨sl_R10, sl_F10, 4, sl_t10, rfl, by decide, rfl, sl_in1 237 (by decide +kernel) rfl, sl_i10, sl_ty10, sl_nm10⟩, List.forall_mem_cons.mpr ⟨⟨sl_R10, sl_F10, 4, sl_t10, rfl, by decide, rfl, sl_in1 240 (by decide +kernel) rfl, sl_i10, sl_ty10, sl_nm10⟩, fun _ h => absurd h List.not_mem_nil⟩⟩⟩⟩, fun _ h => absurd h List.not_mem_nil, fun _ h => absurd h List.not_mem_nil⟩
def lk_sx : sl_Lk := ([(10, 11, 0), (19, 11, 1), (26, 11, 2), (32, 11, 3), (39, 11, 4), (46, 11, 5), (53, 11, 6), (60, 11, 7), (67, 11, 8), (73, 11, 9), (77, 11, 10), (112, 5, 0), (147, 5, 1), (150, 9, 0), (167, 4, 0), (179, 4, 2), (182, 4, 3), (193, 3, 3), (196, 3, 0), (200, 3, 1), (202, 3, 2), (216, 1, 2), (218, 1, 1), (221, 1, 0), (240, 10, 1), (269, 6, 1), (270, 6, 0), (283, 8, 1), (293, 8, 0), (299, 11, 11)], [(292, (-2000000000))], [])
set_option maxRecDepth 20000 in
theorem lk_sx_ok : sl_LkOK sl_R11 lk_sx := ⟨List.forall_mem_cons.mpr ⟨⟨sl_R11, sl_F11, 12, sl_t11, rfl, by decide, rfl, sl_in1 356 (by decide +kernel) rfl, sl_i11, sl_ty11, sl_nm11⟩, List.forall_mem_cons.mpr ⟨⟨sl_R11, sl_F11, 12, sl_t11, rfl, by decide, rfl, sl_in1 357 (by decide +kernel) rfl, sl_i11, sl_ty11, sl_nm11⟩, List.forall_mem_cons.mpr ⟨⟨sl_R11, sl_F11, 12, sl_t11, rfl, by decide, rfl, sl_in1 358 (by decide +kernel) rfl, sl_i11, sl_ty11, sl_nm11⟩, List.forall_mem_cons.mpr ⟨⟨sl_R11, sl_F11, 12, sl_t11, rfl, by decide, rfl, sl_in1 359 (by decide +kernel) rfl, sl_i11, sl_ty11, sl_nm11⟩, List.forall_mem_cons.mpr ⟨⟨sl_R11, sl_F11, 12, sl_t11, rfl, by decide, rfl, sl_in1 360 (by decide +kernel) rfl, sl_i11, sl_ty11, sl_nm11⟩, List.forall_mem_cons.mpr ⟨⟨sl_R11, sl_F11, 12, sl_t11, rfl, by decide, rfl, sl_in1 361 (by decide +kernel) rfl, sl_i11, sl_ty11, sl_nm11⟩, List.forall_mem_cons.mpr ⟨⟨sl_R11, sl_F11, 12, sl_t11, rfl, by decide, rfl, sl_in1 362 (by decide +kernel) rfl, sl_i11, sl_ty11, sl_nm11⟩, List.forall_mem_cons.mpr ⟨⟨sl_R11, sl_F11, 12, sl_t11, rfl, by decide, rfl, sl_in1 363 (by decide +kernel) rfl, sl_i11, sl_ty11, sl_nm11⟩, List.forall_mem_cons.mpr ⟨⟨sl_R11, sl_F11, 12, sl_t11, rfl, by decide, rfl, sl_in1 364 (by decide +kernel) rfl, sl_i11, sl_ty11, sl_nm11⟩, List.forall_mem_cons.mpr ⟨⟨sl_R11, sl_F11, 12, sl_t11, rfl, by decide, rfl, sl_in1 365 (by decide +kernel) rfl, sl_i11, sl_ty11, sl_nm11⟩, List.forall_mem_cons.mpr ⟨⟨sl_R11, sl_F11, 12, sl_t11, rfl, by decide, rfl, sl_in1 366 (by decide +kernel) rfl, sl_i11, sl_ty11, sl_nm11⟩, List.forall_mem_cons.mpr ⟨⟨sl_R5, sl_F5, 2, sl_t5, rfl, by decide, rfl, sl_in1 170 (by decide +kernel) rfl, sl_i5, sl_ty5, sl_nm5⟩, List.forall_mem_cons.mpr ⟨⟨sl_R5, sl_F5, 2, sl_t5, rfl, by decide, rfl, sl_in1 176 (by decide +kernel) rfl, sl_i5, sl_ty5, sl_nm5⟩, List.forall_mem_cons.mpr ⟨⟨sl_R9, sl_F9, 6, sl_t9, rfl, by decide, rfl, sl_in1 128 (by decide +kernel) rfl, sl_i9, sl_ty9, sl_nm9⟩, List.forall_mem_cons.mpr ⟨⟨sl_R4, sl_F4, 4, sl_t4, rfl, by decide, rfl, sl_in1 321 (by decide +kernel) rfl, sl_i4, sl_ty4, sl_nm4⟩, List.forall_mem_cons.mpr ⟨⟨sl_R4, sl_F4, 4, sl_t4, rfl, by decide, rfl, sl_in1 325 (by decide +kernel) rfl, sl_i4, sl_ty4, sl_nm4⟩, List.forall_mem_cons.mpr ⟨⟨sl_R4, sl_F4, 4, sl_t4, rfl, by decide, rfl, sl_in1 328 (by decide +kernel) rfl, sl_i4, sl_ty4, sl_nm4⟩, List.forall_mem_cons.mpr ⟨⟨sl_R3, sl_F3, 4, sl_t3, rfl, by decide, rfl, sl_in1 195 (by decide +kernel) rfl, sl_i3, sl_ty3, sl_nm3⟩, List.forall_mem_cons.mpr ⟨⟨sl_R3, sl_F3, 4, sl_t3, rfl, by decide, rfl, sl_in1 189 (by decide +kernel) rfl, sl_i3, sl_ty3, sl_nm3⟩, List.forall_mem_cons.mpr ⟨⟨sl_R3, sl_F3, 4, sl_t3, rfl, by decide, rfl, sl_in1 191 (by decide +kernel) rfl, sl_i3, sl_ty3, sl_nm3⟩, List.forall_mem_cons.mpr ⟨⟨sl_R3, sl_F3, 4, sl_t3, rfl, by decide, rfl, sl_in1 193 (by decide +kernel) rfl, sl_i3, sl_ty3, sl_nm3⟩, List.forall_mem_cons.mpr ⟨⟨sl_R1, sl_F1, 4, sl_t1, rfl, by decide, rfl, sl_in1 217 (by decide +kernel) rfl, sl_i1, sl_ty1, sl_nm1⟩, List.forall_mem_cons.mpr ⟨⟨sl_R1, sl_F1, 4, sl_t1, rfl, by decide, rfl, sl_in1 215 (by decide +kernel) rfl, sl_i1, sl_ty1, sl_nm1⟩, List.forall_mem_cons.mpr ⟨⟨sl_R1, sl_F1, 4, sl_t1, rfl, by decide, rfl, sl_in1 213 (by decide +kernel) rfl, sl_i1, sl_ty1, sl_nm1⟩, List.forall_mem_cons.mpr ⟨⟨sl_R10, sl_F10, 4, sl_t10, rfl, by decide, rfl, sl_in1 238 (by decide +kernel) rfl, sl_i10, sl_ty10, sl_nm10⟩, List.forall_mem_cons.mpr ⟨⟨sl_R6, sl_F6, 2, sl_t6, rfl, by decide, rfl, sl_in1 305 (by decide +kernel) rfl, sl_i6, sl_ty6, sl_nm6⟩, List.forall_mem_cons.mpr ⟨⟨sl_R6, sl_F6, 2, sl_t6, rfl, by decide, rfl, sl_in1 303 (by decide +kernel) rfl, sl_i6, sl_ty6, sl_nm6⟩, List.forall_mem_cons.mpr ⟨⟨sl_R8, sl_F8, 3, sl_t8, rfl, by decide, rfl, sl_in1 347 (by decide +kernel) rfl, sl_i8, sl_ty8, sl_nm8⟩, List.forall_mem_cons.mpr ⟨⟨sl_R8, sl_F8, 3, sl_t8, rfl, by decide, rfl, sl_in1 345 (by decide +kernel) rfl, sl_i8, sl_ty8, sl_nm8⟩, List.forall_mem_cons.mpr ⟨⟨sl_R11, sl_F11, 12, sl_t11, rfl, by decide, rfl, sl_in1 367 (by decide +kernel) rfl, sl_i11, sl_ty11, sl_nm11⟩, fun _ h => absurd h List.not_mem_nil⟩⟩⟩⟩⟩⟩⟩⟩⟩⟩⟩⟩⟩⟩⟩⟩⟩⟩⟩⟩⟩⟩⟩⟩⟩⟩⟩⟩⟩⟩, List.forall_mem_cons.mpr ⟨sl_in1 997 (by decide +kernel) rfl, fun _ h => absurd h List.not_mem_nil⟩, fun _ h => absurd h List.not_mem_nil⟩
def lk_mo : sl_Lk := ([(7, 12, 0), (13, 12, 1), (16, 12, 2), (19, 12, 3), (22, 12, 4), (25, 12, 6), (28, 12, 7), (31, 12, 8), (34, 12, 9), (37, 12, 10), (40, 12, 11), (43, 12, 12), (46, 12, 14), (49, 12, 15), (52, 12, 17), (55, 12, 18), (58, 12, 19), (61, 12, 24), (64, 12, 25), (67, 12, 26), (70, 12, 27), (73, 12, 29), (76, 12, 31), (80, 12, 33), (83, 12, 34), (86, 12, 35), (89, 12, 40), (92, 12, 41), (95, 12, 42), (98, 12, 43), (101, 12, 45), (104, 12, 46), (107, 12, 47), (110, 12, 49), (113, 12, 5), (229, 12, 13), (259, 12, 16), (276, 12, 20), (279, 12, 21), (282, 12, 22), (314, 12, 23), (329, 12, 28), (332, 12, 30), (370, 12, 32), (382, 12, 36), (385, 12, 37), (388, 12, 38), (403, 12, 39), (409, 12, 44), (429, 12, 48)], [(428, (-2000000000))], [(164, 999), (166, (-99)), (168, 99), (117, 29), (190, 7), (211, 3), (216, 4), (218, 2), (254, 5), (274, 127), (298, 97), (300, 122), (302, 27), (304, (-1)), (291, 48), (293, 57)])
set_option maxRecDepth 20000 in
theorem lk_mo_ok : sl_LkOK sl_R12 lk_mo := ⟨List.forall_mem_cons.mpr ⟨⟨sl_R12, sl_F12, 50, sl_t12, rfl, by decide, rfl, sl_in1 1025 (by decide +kernel) rfl, sl_i12, sl_ty12, sl_nm12⟩, List.forall_mem_cons.mpr ⟨⟨sl_R12, sl_F12, 50, sl_t12, rfl, by decide, rfl, sl_in1 1026 (by decide +kernel) rfl, sl_i12, sl_ty12, sl_nm12⟩, List.forall_mem_cons.mpr ⟨⟨sl_R12, sl_F12, 50, sl_t12, rfl, by decide, rfl, sl_in1 1027 (by decide +kernel) rfl, sl_i12, sl_ty12, sl_nm12⟩, List.forall_mem_cons.mpr ⟨⟨sl_R12, sl_F12, 50, sl_t12, rfl, by decide, rfl, sl_in1 1028 (by decide +kernel) rfl, sl_i12, sl_ty12, sl_nm12⟩, List.forall_mem_cons.mpr ⟨⟨sl_R12, sl_F12, 50, sl_t12, rfl, by decide, rfl, sl_in1 1029 (by decide +kernel) rfl, sl_i12, sl_ty12, sl_nm12⟩, List.forall_mem_cons.mpr ⟨⟨sl_R12, sl_F12, 50, sl_t12, rfl, by decide, rfl, sl_in1 1031 (by decide +kernel) rfl, sl_i12, sl_ty12, sl_nm12⟩, List.forall_mem_cons.mpr ⟨⟨sl_R12, sl_F12, 50, sl_t12, rfl, by decide, rfl, sl_in1 1032 (by decide +kernel) rfl, sl_i12, sl_ty12, sl_nm12⟩, List.forall_mem_cons.mpr ⟨⟨sl_R12, sl_F12, 50, sl_t12, rfl, by decide, rfl, sl_in1 1033 (by decide +kernel) rfl, sl_i12, sl_ty12, sl_nm12⟩, List.forall_mem_cons.mpr ⟨⟨sl_R12, sl_F12, 50, sl_t12, rfl, by decide, rfl, sl_in1 1034 (by decide +kernel) rfl, sl_i12, sl_ty12, sl_nm12⟩, List.forall_mem_cons.mpr ⟨⟨sl_R12, sl_F12, 50, sl_t12, rfl, by decide, rfl, sl_in1 1035 (by decide +kernel) rfl, sl_i12, sl_ty12, sl_nm12⟩, List.forall_mem_cons.mpr ⟨⟨sl_R12, sl_F12, 50, sl_t12, rfl, by decide, rfl, sl_in1 1036 (by decide +kernel) rfl, sl_i12, sl_ty12, sl_nm12⟩, List.forall_mem_cons.mpr ⟨⟨sl_R12, sl_F12, 50, sl_t12, rfl, by decide, rfl, sl_in1 1037 (by decide +kernel) rfl, sl_i12, sl_ty12, sl_nm12⟩, List.forall_mem_cons.mpr ⟨⟨sl_R12, sl_F12, 50, sl_t12, rfl, by decide, rfl, sl_in1 1039 (by decide +kernel) rfl, sl_i12, sl_ty12, sl_nm12⟩, List.forall_mem_cons.mpr ⟨⟨sl_R12, sl_F12, 50, sl_t12, rfl, by decide, rfl, sl_in1 1040 (by decide +kernel) rfl, sl_i12, sl_ty12, sl_nm12⟩, List.forall_mem_cons.mpr ⟨⟨sl_R12, sl_F12, 50, sl_t12, rfl, by decide, rfl, sl_in1 1042 (by decide +kernel) rfl, sl_i12, sl_ty12, sl_nm12⟩, List.forall_mem_cons.mpr ⟨⟨sl_R12, sl_F12, 50, sl_t12, rfl, by decide, rfl, sl_in1 1043 (by decide +kernel) rfl, sl_i12, sl_ty12, sl_nm12⟩, List.forall_mem_cons.mpr ⟨⟨sl_R12, sl_F12, 50, sl_t12, rfl, by decide, rfl, sl_in1 1044 (by decide +kernel) rfl, sl_i12, sl_ty12, sl_nm12⟩, List.forall_mem_cons.mpr ⟨⟨sl_R12, sl_F12, 50, sl_t12, rfl, by decide, rfl, sl_in1 1049 (by decide +kernel) rfl, sl_i12, sl_ty12, sl_nm12⟩, List.forall_mem_cons.mpr ⟨⟨sl_R12, sl_F12, 50, sl_t12, rfl, by decide, rfl, sl_in1 1050 (by decide +kernel) rfl, sl_i12, sl_ty12, sl_nm12⟩, List.forall_mem_cons.mpr ⟨⟨sl_R12, sl_F12, 50, sl_t12, rfl, by decide, rfl, sl_in1 1051 (by decide +kernel) rfl, sl_i12, sl_ty12, sl_nm12⟩, List.forall_mem_cons.mpr ⟨⟨sl_R12, sl_F12, 50, sl_t12, rfl, by decide, rfl, sl_in1 1052 (by decide +kernel) rfl, sl_i12, sl_ty12, sl_nm12⟩, List.forall_mem_cons.mpr ⟨⟨sl_R12, sl_F12, 50, sl_t12, rfl, by decide, rfl, sl_in1 1054 (by decide +kernel) rfl, sl_i12, sl_ty12, sl_nm12⟩, List.forall_mem_cons.mpr ⟨⟨sl_R12, sl_F12, 50, sl_t12, rfl, by decide, rfl, sl_in1 1056 (by decide +kernel) rfl, sl_i12, sl_ty12, sl_nm12⟩, List.forall_mem_cons.mpr ⟨⟨sl_R12, sl_F12, 50, sl_t12, rfl, by decide, rfl, sl_in1 1058 (by decide +kernel) rfl, sl_i12, sl_ty12, sl_nm12⟩, List.forall_mem_cons.mpr ⟨⟨sl_R12, sl_F12, 50, sl_t12, rfl, by decide, rfl, sl_in1 1059 (by decide +kernel) rfl, sl_i12, sl_ty12, sl_nm12⟩, List.forall_mem_cons.mpr ⟨⟨sl_R12, sl_F12, 50, sl_t12, rfl, by decide, rfl, sl_in1 1060 (by decide +kernel) rfl, sl_i12, sl_ty12, sl_nm12⟩, List.forall_mem_cons.mpr ⟨⟨sl_R12, sl_F12, 50, sl_t12, rfl, by decide, rfl, sl_in1 1065 (by decide +kernel) rfl, sl_i12, sl_ty12, sl_nm12⟩, List.forall_mem_cons.mpr ⟨⟨sl_R12, sl_F12, 50, sl_t12, rfl, by decide, rfl, sl_in1 1066 (by decide +kernel) rfl, sl_i12, sl_ty12, sl_nm12⟩, List.forall_mem_cons.mpr ⟨⟨sl_R12, sl_F12, 50, sl_t12, rfl, by decide, rfl, sl_in1 1067 (by decide +kernel) rfl, sl_i12, sl_ty12, sl_nm12⟩, List.forall_mem_cons.mpr ⟨⟨sl_R12, sl_F12, 50, sl_t12, rfl, by decide, rfl, sl_in1 1068 (by decide +kernel) rfl, sl_i12, sl_ty12, sl_nm12⟩, List.forall_mem_cons.mpr ⟨⟨sl_R12, sl_F12, 50, sl_t12, rfl, by decide, rfl, sl_in1 1070 (by decide +kernel) rfl, sl_i12, sl_ty12, sl_nm12⟩, List.forall_mem_cons.mpr ⟨⟨sl_R12, sl_F12, 50, sl_t12, rfl, by decide, rfl, sl_in1 1071 (by decide +kernel) rfl, sl_i12, sl_ty12, sl_nm12⟩, List.forall_mem_cons.mpr ⟨⟨sl_R12, sl_F12, 50, sl_t12, rfl, by decide, rfl, sl_in1 1072 (by decide +kernel) rfl, sl_i12, sl_ty12, sl_nm12⟩, List.forall_mem_cons.mpr ⟨⟨sl_R12, sl_F12, 50, sl_t12, rfl, by decide, rfl, sl_in1 1074 (by decide +kernel) rfl, sl_i12, sl_ty12, sl_nm12⟩, List.forall_mem_cons.mpr ⟨⟨sl_R12, sl_F12, 50, sl_t12, rfl, by decide, rfl, sl_in1 1030 (by decide +kernel) rfl, sl_i12, sl_ty12, sl_nm12⟩, List.forall_mem_cons.mpr ⟨⟨sl_R12, sl_F12, 50, sl_t12, rfl, by decide, rfl, sl_in1 1038 (by decide +kernel) rfl, sl_i12, sl_ty12, sl_nm12⟩, List.forall_mem_cons.mpr ⟨⟨sl_R12, sl_F12, 50, sl_t12, rfl, by decide, rfl, sl_in1 1041 (by decide +kernel) rfl, sl_i12, sl_ty12, sl_nm12⟩, List.forall_mem_cons.mpr ⟨⟨sl_R12, sl_F12, 50, sl_t12, rfl, by decide, rfl, sl_in1 1045 (by decide +kernel) rfl, sl_i12, sl_ty12, sl_nm12⟩, List.forall_mem_cons.mpr ⟨⟨sl_R12, sl_F12, 50, sl_t12, rfl, by decide, rfl, sl_in1 1046 (by decide +kernel) rfl, sl_i12, sl_ty12, sl_nm12⟩, List.forall_mem_cons.mpr ⟨⟨sl_R12, sl_F12, 50, sl_t12, rfl, by decide, rfl, sl_in1 1047 (by decide +kernel) rfl, sl_i12, sl_ty12, sl_nm12⟩, List.forall_mem_cons.mpr ⟨⟨sl_R12, sl_F12, 50, sl_t12, rfl, by decide, rfl, sl_in1 1048 (by decide +kernel) rfl, sl_i12, sl_ty12, sl_nm12⟩, List.forall_mem_cons.mpr ⟨⟨sl_R12, sl_F12, 50, sl_t12, rfl, by decide, rfl, sl_in1 1053 (by decide +kernel) rfl, sl_i12, sl_ty12, sl_nm12⟩, List.forall_mem_cons.mpr ⟨⟨sl_R12, sl_F12, 50, sl_t12, rfl, by decide, rfl, sl_in1 1055 (by decide +kernel) rfl, sl_i12, sl_ty12, sl_nm12⟩, List.forall_mem_cons.mpr ⟨⟨sl_R12, sl_F12, 50, sl_t12, rfl, by decide, rfl, sl_in1 1057 (by decide +kernel) rfl, sl_i12, sl_ty12, sl_nm12⟩, List.forall_mem_cons.mpr ⟨⟨sl_R12, sl_F12, 50, sl_t12, rfl, by decide, rfl, sl_in1 1061 (by decide +kernel) rfl, sl_i12, sl_ty12, sl_nm12⟩, List.forall_mem_cons.mpr ⟨⟨sl_R12, sl_F12, 50, sl_t12, rfl, by decide, rfl, sl_in1 1062 (by decide +kernel) rfl, sl_i12, sl_ty12, sl_nm12⟩, List.forall_mem_cons.mpr ⟨⟨sl_R12, sl_F12, 50, sl_t12, rfl, by decide, rfl, sl_in1 1063 (by decide +kernel) rfl, sl_i12, sl_ty12, sl_nm12⟩, List.forall_mem_cons.mpr ⟨⟨sl_R12, sl_F12, 50, sl_t12, rfl, by decide, rfl, sl_in1 1064 (by decide +kernel) rfl, sl_i12, sl_ty12, sl_nm12⟩, List.forall_mem_cons.mpr ⟨⟨sl_R12, sl_F12, 50, sl_t12, rfl, by decide, rfl, sl_in1 1069 (by decide +kernel) rfl, sl_i12, sl_ty12, sl_nm12⟩, List.forall_mem_cons.mpr ⟨⟨sl_R12, sl_F12, 50, sl_t12, rfl, by decide, rfl, sl_in1 1073 (by decide +kernel) rfl, sl_i12, sl_ty12, sl_nm12⟩, fun _ h => absurd h List.not_mem_nil⟩⟩⟩⟩⟩⟩⟩⟩⟩⟩⟩⟩⟩⟩⟩⟩⟩⟩⟩⟩⟩⟩⟩⟩⟩⟩⟩⟩⟩⟩⟩⟩⟩⟩⟩⟩⟩⟩⟩⟩⟩⟩⟩⟩⟩⟩⟩⟩⟩⟩, List.forall_mem_cons.mpr ⟨sl_in1 1628 (by decide +kernel) rfl, fun _ h => absurd h List.not_mem_nil⟩, List.forall_mem_cons.mpr ⟨sl_in1 1184 (by decide +kernel) rfl, List.forall_mem_cons.mpr ⟨sl_in1 1188 (by decide +kernel) rfl, List.forall_mem_cons.mpr ⟨sl_in1 1189 (by decide +kernel) rfl, List.forall_mem_cons.mpr ⟨sl_in1 1205 (by decide +kernel) rfl, List.forall_mem_cons.mpr ⟨sl_in1 1222 (by decide +kernel) rfl, List.forall_mem_cons.mpr ⟨sl_in1 1308 (by decide +kernel) rfl, List.forall_mem_cons.mpr ⟨sl_in1 1317 (by decide +kernel) rfl, List.forall_mem_cons.mpr ⟨sl_in1 1330 (by decide +kernel) rfl, List.forall_mem_cons.mpr ⟨sl_in1 1399 (by decide +kernel) rfl, List.forall_mem_cons.mpr ⟨sl_in1 1444 (by decide +kernel) rfl, List.forall_mem_cons.mpr ⟨sl_in1 1481 (by decide +kernel) rfl, List.forall_mem_cons.mpr ⟨sl_in1 1482 (by decide +kernel) rfl, List.forall_mem_cons.mpr ⟨sl_in1 1483 (by decide +kernel) rfl, List.forall_mem_cons.mpr ⟨sl_in1 1484 (by decide +kernel) rfl, List.forall_mem_cons.mpr ⟨sl_in1 1504 (by decide +kernel) rfl, List.forall_mem_cons.mpr ⟨sl_in1 1505 (by decide +kernel) rfl, fun _ h => absurd h List.not_mem_nil⟩⟩⟩⟩⟩⟩⟩⟩⟩⟩⟩⟩⟩⟩⟩⟩⟩
def lk_ma : sl_Lk := ([], [], [])
set_option maxRecDepth 20000 in
theorem lk_ma_ok : sl_LkOK "java/lang/Math" lk_ma := ⟨fun _ h => absurd h List.not_mem_nil, fun _ h => absurd h List.not_mem_nil, fun _ h => absurd h List.not_mem_nil⟩
def lk_it : sl_Lk := ([], [(265, 1431655765), (266, 858993459), (267, 252645135)], [])
set_option maxRecDepth 20000 in
theorem lk_it_ok : sl_LkOK "java/lang/Integer" lk_it := ⟨fun _ h => absurd h List.not_mem_nil, List.forall_mem_cons.mpr ⟨sl_in1 501 (by decide +kernel) rfl, List.forall_mem_cons.mpr ⟨sl_in1 502 (by decide +kernel) rfl, List.forall_mem_cons.mpr ⟨sl_in1 503 (by decide +kernel) rfl, fun _ h => absurd h List.not_mem_nil⟩⟩⟩, fun _ h => absurd h List.not_mem_nil⟩
end
section
def it_bitCount_B48 (Q : Int32 → sl_M → Prop) : Int32 → sl_M → Prop
  | x0, μ => Q (x0 &&& (63 : Int32)) μ
def it_bitCount_B41 (Q : Int32 → sl_M → Prop) : Int32 → sl_M → Prop
  | x0, μ => it_bitCount_B48 Q (x0 + (x0.toUInt32 >>> ((16 : Int32).toUInt32 &&& Int32.toUInt32 31)).toInt32) μ
def it_bitCount_B34 (Q : Int32 → sl_M → Prop) : Int32 → sl_M → Prop
  | x0, μ => it_bitCount_B41 Q (x0 + (x0.toUInt32 >>> ((8 : Int32).toUInt32 &&& Int32.toUInt32 31)).toInt32) μ
def it_bitCount_B24 (Q : Int32 → sl_M → Prop) : Int32 → sl_M → Prop
  | x0, μ => it_bitCount_B34 Q ((x0 + (x0.toUInt32 >>> ((4 : Int32).toUInt32 &&& Int32.toUInt32 31)).toInt32) &&& (252645135 : Int32)) μ
def it_bitCount_B10 (Q : Int32 → sl_M → Prop) : Int32 → sl_M → Prop
  | x0, μ => it_bitCount_B24 Q ((x0 &&& (858993459 : Int32)) + ((x0.toUInt32 >>> ((2 : Int32).toUInt32 &&& Int32.toUInt32 31)).toInt32 &&& (858993459 : Int32))) μ
def it_bitCount (a0 : Int32) (μ : sl_M) (Q : Int32 → sl_M → Prop) : Prop := it_bitCount_B10 Q (a0 - ((a0.toUInt32 >>> ((1 : Int32).toUInt32 &&& Int32.toUInt32 31)).toInt32 &&& (1431655765 : Int32))) μ
def it_bitCount_pt : sl_PT := fun As μ Q => match As with
  | [.inl a0] => it_bitCount a0 μ (fun r μ' => Q (some (.inl r)) μ')
  | _ => False
def it_bitCount_cd : List sl_Ent := [(0, .iload_n 0, 1, 0, [0], [], false), (1, .iload_n 0, 1, 0, [0], [], false), (2, .iconst 1, 1, 1, [], [], false), (3, .iushr, 1, 0, [], [], false), (4, .ldc_w 265, 3, 1431655765, [], [], false), (7, .iand, 1, 0, [], [], false), (8, .isub, 1, 0, [], [], false), (9, .istore_n 0, 1, 0, [0], [], false), (10, .iload_n 0, 1, 0, [0], [], true), (11, .ldc_w 266, 3, 858993459, [], [], false), (14, .iand, 1, 0, [], [], false), (15, .iload_n 0, 1, 0, [0], [], false), (16, .iconst 2, 1, 2, [], [], false), (17, .iushr, 1, 0, [], [], false), (18, .ldc_w 266, 3, 858993459, [], [], false), (21, .iand, 1, 0, [], [], false), (22, .iadd, 1, 0, [], [], false), (23, .istore_n 0, 1, 0, [0], [], false), (24, .iload_n 0, 1, 0, [0], [], true), (25, .iload_n 0, 1, 0, [0], [], false), (26, .iconst 4, 1, 4, [], [], false), (27, .iushr, 1, 0, [], [], false), (28, .iadd, 1, 0, [], [], false), (29, .ldc_w 267, 3, 252645135, [], [], false), (32, .iand, 1, 0, [], [], false), (33, .istore_n 0, 1, 0, [0], [], false), (34, .iload_n 0, 1, 0, [0], [], true), (35, .iload_n 0, 1, 0, [0], [], false), (36, .bipush 8, 2, 8, [], [], false), (38, .iushr, 1, 0, [], [], false), (39, .iadd, 1, 0, [], [], false), (40, .istore_n 0, 1, 0, [0], [], false), (41, .iload_n 0, 1, 0, [0], [], true), (42, .iload_n 0, 1, 0, [0], [], false), (43, .bipush 16, 2, 16, [], [], false), (45, .iushr, 1, 0, [], [], false), (46, .iadd, 1, 0, [], [], false), (47, .istore_n 0, 1, 0, [0], [], false), (48, .iload_n 0, 1, 0, [0], [], true), (49, .bipush 63, 2, 63, [], [], false), (51, .iand, 1, 0, [], [], false), (52, .ireturn, 1, 0, [], [], false)]
def it_bitCount_y : MethodName := ⟨"java/lang/Integer", "bitCount", "(I)I"⟩
theorem it_bitCount_tb : sl_tbOK "java/lang/Integer" prog_15_method_49_code 1 (some .int) lk_it [] it_bitCount_cd = true := by decide +kernel
def it_bitCount_ct : List sl_Ct := []
theorem it_bitCount_hc (g : sl_G) : sl_HC g "java/lang/Integer" 0 it_bitCount_ct [] := sl_HC_nil g "java/lang/Integer" 0
set_option maxRecDepth 20000 in
set_option maxHeartbeats 2000000 in
theorem it_bitCount_snd (g : sl_G) : sl_Snd g it_bitCount_y prog_15_method_49_code 1 (some .int) 0 (it_bitCount_pt) := by
  intro As μ Q hw h
  unfold it_bitCount_pt at h
  split at h
  next a0 =>
    refine sl_mk2 g [false] (cst := [none]) (lv0 := [some (.inl a0)]) (by decide) rfl hw rfl rfl rfl lk_it_ok (it_bitCount_hc g) it_bitCount_tb rfl ?_
    intro X M
    have v48 := sl_ext M sl_VV0 48 (fun lv st μ => match lv, st with | [some (.inl x0)], [] => it_bitCount_B48 (fun r μ' => Q (some (.inl r)) μ') x0 μ | _, _ => False) (by
        intro lv st μ h
        split at h
        · exact h
        · exact h.elim)
    have v41 := sl_ext M v48 41 (fun lv st μ => match lv, st with | [some (.inl x0)], [] => it_bitCount_B41 (fun r μ' => Q (some (.inl r)) μ') x0 μ | _, _ => False) (by
        intro lv st μ h
        split at h
        · exact h
        · exact h.elim)
    have v34 := sl_ext M v41 34 (fun lv st μ => match lv, st with | [some (.inl x0)], [] => it_bitCount_B34 (fun r μ' => Q (some (.inl r)) μ') x0 μ | _, _ => False) (by
        intro lv st μ h
        split at h
        · exact h
        · exact h.elim)
    have v24 := sl_ext M v34 24 (fun lv st μ => match lv, st with | [some (.inl x0)], [] => it_bitCount_B24 (fun r μ' => Q (some (.inl r)) μ') x0 μ | _, _ => False) (by
        intro lv st μ h
        split at h
        · exact h
        · exact h.elim)
    have v10 := sl_ext M v24 10 (fun lv st μ => match lv, st with | [some (.inl x0)], [] => it_bitCount_B10 (fun r μ' => Q (some (.inl r)) μ') x0 μ | _, _ => False) (by
        intro lv st μ h
        split at h
        · exact h
        · exact h.elim)
    exact ⟨_, v10, h⟩
  next => exact h.elim
end
section
/-! String.length and charAt at the two texts -/
theorem sl_lk0 (own : String) : sl_LkOK own ([], [], []) := ⟨fun _ h => absurd h List.not_mem_nil, fun _ h => absurd h List.not_mem_nil, fun _ h => absurd h List.not_mem_nil⟩
theorem sl_mk0 (g : sl_G) {y : MethodName} {cc : ByteArray} {nL hh : Nat} {rt : Option FieldType} {As : List sl_V} {μ : sl_M} {Q : sl_Qt} (hy : plainName y.cls = true) (hw : ∀ v ∈ As, sl_wk v) (hln : (sl_slots As).length ≤ nL)
    (body : ∀ (p : Program) (e : Env) (R : Room) (s : State) (m : MethodId) (args : Array Value) (below : List Frame) (meth : Method) (c : Code) (H : Heap) (locs : List Loc) (ls : Array Slot), sl_Fx g (p, e, R, s, m, args, below, meth, c, 0, 0, MQ below (sl_Qc g Q) args s 0 0 (sl_A g)) y.cls cc nL hh → meth.sig.returnType = rt → meth.locks = false → sl_Wd g μ H → va_S (sl_A g) s.heap H locs → ls.size = nL → (∀ (i : Nat) (v : sl_V), sl_nth (sl_slots As) i = some v → ls[i]? = some (.val (sl_tv g v))) → W p g.1 e R s m args below meth c H locs 0 0 (MQ below (sl_Qc g Q) args s 0 0 (sl_A g)) (F0 m 0 ls [])) : sl_Met g y cc nL rt hh As μ Q := by
  unfold sl_Met
  refine Met.ofW (cc := cc) (maxL := nL) (ret := rt) hy rfl ?_
  intro p e s m args below meth c s₁ B hml hv
  obtain ⟨rfl, hWd, hK⟩ := hv
  have hts := atoms_spec (ws := Cond.code y cc nL rt :: sl_T0) B.pre
  have hown : s.vm.findClass y.cls = some m.cls := findClass_of_methodNamed B.named
  have hl := lv_entry (As.map (sl_tv g)) (n := nL) (by rw [sl_slots_len]; exact hln)
  rw [lg_entry_eq]
  generalize (lg_sl (As.map (sl_tv g)) ++ List.replicate (nL - (lg_sl (As.map (sl_tv g))).length) Slot.unset).toArray = ls at hl ⊢
  refine body p e (sl_rm hh) s m (As.map (sl_tv g)).toArray below meth c s.heap [] ls ⟨B.exec, B.bytes, hml, hown, fun w hw => hts w (List.mem_cons_of_mem _ hw), hK, Nat.le_refl _, Nat.le_refl _, Nat.le_refl _, Nat.le_refl _⟩ B.returns B.notSynchronized hWd va_S.rf hl.1 (fun i v h => ?_)
  have := sl_slots_args (g := g) As 0 i v h
  rw [Nat.zero_add] at this
  exact hl.2.2 _ this
def sg_coder_y : MethodName := ⟨"java/lang/String", "coder", "()B"⟩
def sg_isLatin1_y : MethodName := ⟨"java/lang/String", "isLatin1", "()Z"⟩
def sg_length_y : MethodName := ⟨"java/lang/String", "length", "()I"⟩
def sg_charAt_y : MethodName := ⟨"java/lang/String", "charAt", "(I)C"⟩
def sg_checkIndex_y : MethodName := ⟨"java/lang/String", "checkIndex", "(II)V"⟩
def sg_pre_y : MethodName := ⟨"jdk/internal/util/Preconditions", "checkIndex", "(IILjava/util/function/BiFunction;)I"⟩
def sg_lat_y : MethodName := ⟨"java/lang/StringLatin1", "charAt", "([BI)C"⟩
def sg_coder_pt : sl_PT := fun As μ Q => ∃ o, o < 2 ∧ As = [.inr (.inr (some (90, o)))] ∧ Q (some (.inl 0)) μ
def sg_isLatin1_pt : sl_PT := fun As μ Q => ∃ o, o < 2 ∧ As = [.inr (.inr (some (90, o)))] ∧ Q (some (.inl 1)) μ
def sg_pre_pt : sl_PT := fun As μ Q => ∃ (i n : Int32) (r : Option (Nat × Nat)), As = [.inl i, .inl n, .inr (.inr r)] ∧ (∀ q, r = some q → q.1 = 93) ∧ ¬ i < 0 ∧ i < n ∧ Q (some (.inl i)) μ
def sg_checkIndex_pt : sl_PT := fun As μ Q => ∃ (i n : Int32), As = [.inl i, .inl n] ∧ ¬ i < 0 ∧ i < n ∧ Q none μ
def sg_chr (o : Nat) (i : Int32) : Int32 := (sl_sb.getD o []).getD i.toNatClampNeg 0
def sg_lat_pt : sl_PT := fun As μ Q => ∃ (o : Nat) (i : Int32), o < 2 ∧ As = [.inr (.inr (some (92, o))), .inl i] ∧ vp_in i (sl_sl.getD o 0) ∧ Q (some (.inl (sg_chr o i))) μ
def sg_length (a0 : Nat) (μ : sl_M) (Q : Int32 → sl_M → Prop) : Prop := a0 < 2 ∧ Q (nI (sl_sl.getD a0 0)) μ
def sg_length_pt : sl_PT := fun As μ Q => match As with
  | [.inr (.inr (some (c0, a0)))] => if c0 = 90 then sg_length a0 μ (fun r μ' => Q (some (.inl r)) μ') else False
  | _ => False
def sg_charAt (a0 : Nat) (a1 : Int32) (μ : sl_M) (Q : Int32 → sl_M → Prop) : Prop := a0 < 2 ∧ vp_in a1 (sl_sl.getD a0 0) ∧ Q (sg_chr a0 a1) μ
def sg_charAt_pt : sl_PT := fun As μ Q => match As with
  | [.inr (.inr (some (c0, a0))), .inl a1] => if c0 = 90 then sg_charAt a0 a1 μ (fun r μ' => Q (some (.inl r)) μ') else False
  | _ => False
theorem sg_w_coder5 : Cond.code sg_coder_y prog_17_method_152_code 1 (some .byte) ∈ sl_T0 := sl_in1 784 (by decide +kernel) rfl
theorem sg_w_isLatin15 : Cond.code sg_isLatin1_y prog_17_method_154_code 1 (some .boolean) ∈ sl_T0 := sl_in1 794 (by decide +kernel) rfl
theorem sg_fl38 : Cond.fieldLink "java/lang/String" 38 "java/lang/String" "COMPACT_STRINGS" "Z" ∈ sl_T0 := sl_in1 785 (by decide +kernel) rfl
theorem sg_fl15 : Cond.fieldLink "java/lang/String" 15 "java/lang/String" "coder" "B" ∈ sl_T0 := sl_in1 1646 (by decide +kernel) rfl
theorem sg_fl9 : Cond.fieldLink "java/lang/String" 9 "java/lang/String" "value" "[B" ∈ sl_T0 := sl_in1 1645 (by decide +kernel) rfl
theorem sg_fl1053 : Cond.fieldLink "java/lang/String" 1053 "jdk/internal/util/Preconditions" "SIOOBE_FORMATTER" "Ljava/util/function/BiFunction;" ∈ sl_T0 := sl_in1 801 (by decide +kernel) rfl
theorem sg_iS : Cond.initialized "java/lang/String" ∈ sl_T0 := sl_in1 101 (by decide +kernel) rfl
theorem sg_iL : Cond.initialized "java/lang/StringLatin1" ∈ sl_T0 := sl_in1 102 (by decide +kernel) rfl
theorem sg_iP : Cond.initialized "jdk/internal/util/Preconditions" ∈ sl_T0 := sl_in1 103 (by decide +kernel) rfl
theorem sg_tv90 (g : sl_G) (o : Nat) : sl_tv g (.inr (.inr (some (90, o)))) = .ref (sl_gs g 90 o) := rfl
theorem sg_tv92 (g : sl_G) (o : Nat) : sl_tv g (.inr (.inr (some (92, o)))) = .ref (sl_gs g 92 o) := rfl
theorem sg_coder_snd (g : sl_G) : sl_Snd g sg_coder_y prog_17_method_152_code 1 (some .byte) 0 sg_coder_pt := by
  intro As μ Q hw h
  obtain ⟨o, ho, rfl, h⟩ := h
  refine sl_mk0 g (by decide) hw (Nat.le_of_ble_eq_true rfl) ?_
  intro p e R s m args below meth c H locs ls F hr hlk hW hS hsz hl
  obtain ⟨hx, hb, hml, hown, hts, hK, hrm⟩ := id F
  have hl0 : ls[0]? = some (.val (.ref (sl_gs g 90 o))) := hl 0 _ rfl
  refine va_gets hx hb hK.2.2.2.1 hS hown (hts _ sg_fl38) (fun _ h9 => h9) (show decode prog_17_method_152_code 0 = .ok (.getstatic 38, 3) by decide +kernel) ?_
  refine lv_if_eq (tgt := 13) hx hb (show decode prog_17_method_152_code 3 = .ok (.ifCond .eq 10, 3) by decide +kernel) (by decide) (fun z => absurd z (by decide)) (fun _ => ?_)
  refine lv_aload_n hx hb (show decode prog_17_method_152_code 6 = .ok (.aload_n 0, 1) by decide +kernel) rfl hl0 ?_
  refine vk_getf hx hb (hK.2.1.1 o ho).2.1 hS hown (hts _ sg_fl15) (fun _ h9 => h9) (show decode prog_17_method_152_code 7 = .ok (.getfield 15, 3) by decide +kernel) ?_
  refine lv_goto (tgt := 14) hx hb (show decode prog_17_method_152_code 10 = .ok (.goto 4, 3) by decide +kernel) (by decide) ?_
  exact W.zret (v := 0) hx hb hr rfl (fun t ht hWm => ⟨⟨some (.inl 0), μ, rfl, fun w hw => by cases hw; trivial, h, by rw [ht]; exact hW⟩, hS.F ht⟩) hS.2.2 (show decode prog_17_method_152_code 14 = .ok (.ireturn, 1) by decide +kernel) hlk
theorem sg_isLatin1_snd (g : sl_G) : sl_Snd g sg_isLatin1_y prog_17_method_154_code 1 (some .boolean) 0 sg_isLatin1_pt := by
  intro As μ Q hw h
  obtain ⟨o, ho, rfl, h⟩ := h
  refine sl_mk0 g (by decide) hw (Nat.le_of_ble_eq_true rfl) ?_
  intro p e R s m args below meth c H locs ls F hr hlk hW hS hsz hl
  obtain ⟨hx, hb, hml, hown, hts, hK, hrm⟩ := id F
  have hl0 : ls[0]? = some (.val (.ref (sl_gs g 90 o))) := hl 0 _ rfl
  refine va_gets hx hb hK.2.2.2.1 hS hown (hts _ sg_fl38) (fun _ h9 => h9) (show decode prog_17_method_154_code 0 = .ok (.getstatic 38, 3) by decide +kernel) ?_
  refine lv_if_eq (tgt := 17) hx hb (show decode prog_17_method_154_code 3 = .ok (.ifCond .eq 14, 3) by decide +kernel) (by decide) (fun z => absurd z (by decide)) (fun _ => ?_)
  refine lv_aload_n hx hb (show decode prog_17_method_154_code 6 = .ok (.aload_n 0, 1) by decide +kernel) rfl hl0 ?_
  refine vk_getf hx hb (hK.2.1.1 o ho).2.1 hS hown (hts _ sg_fl15) (fun _ h9 => h9) (show decode prog_17_method_154_code 7 = .ok (.getfield 15, 3) by decide +kernel) ?_
  refine lv_if_ne (tgt := 17) hx hb (show decode prog_17_method_154_code 10 = .ok (.ifCond .ne 7, 3) by decide +kernel) (by decide) (fun z => absurd rfl z) (fun _ => ?_)
  refine lv_iconst (v := 1) hx hb (show decode prog_17_method_154_code 13 = .ok (.iconst 1, 1) by decide +kernel) (by decide) ?_
  refine lv_goto (tgt := 18) hx hb (show decode prog_17_method_154_code 14 = .ok (.goto 4, 3) by decide +kernel) (by decide) ?_
  exact W.zret (v := 1) hx hb hr rfl (fun t ht hWm => ⟨⟨some (.inl 1), μ, rfl, fun w hw => by cases hw; trivial, h, by rw [ht]; exact hW⟩, hS.F ht⟩) hS.2.2 (show decode prog_17_method_154_code 18 = .ok (.ireturn, 1) by decide +kernel) hlk
theorem sg_pre_snd (g : sl_G) : sl_Snd g sg_pre_y prog_20_method_11_code 3 (some .int) 0 sg_pre_pt := by
  intro As μ Q hw h
  obtain ⟨i, n, r, rfl, hr93, h0, hn, h⟩ := h
  refine sl_mk0 g (by decide) hw (Nat.le_of_ble_eq_true rfl) ?_
  intro p e R s m args below meth c H locs ls F hr hlk hW hS hsz hl
  obtain ⟨hx, hb, hml, hown, hts, hK, hrm⟩ := id F
  have hl0 : ls[0]? = some (.val (.int i)) := hl 0 (.inl i) rfl
  have hl1 : ls[1]? = some (.val (.int n)) := hl 1 (.inl n) rfl
  refine lv_iload_n hx hb (show decode prog_20_method_11_code 0 = .ok (.iload_n 0, 1) by decide +kernel) rfl hl0 ?_
  refine lv_if_lt (tgt := 9) hx hb (show decode prog_20_method_11_code 1 = .ok (.ifCond .lt 8, 3) by decide +kernel) (by decide) (fun z => absurd z h0) (fun _ => ?_)
  refine lv_iload_n hx hb (show decode prog_20_method_11_code 4 = .ok (.iload_n 0, 1) by decide +kernel) rfl hl0 ?_
  refine lv_iload_n hx hb (show decode prog_20_method_11_code 5 = .ok (.iload_n 1, 1) by decide +kernel) rfl hl1 ?_
  refine lv_icmp_lt (tgt := 16) hx hb (show decode prog_20_method_11_code 6 = .ok (.if_icmp .lt 10, 3) by decide +kernel) (by decide) (fun _ => ?_) (fun z => absurd hn z)
  refine lv_iload_n hx hb (show decode prog_20_method_11_code 16 = .ok (.iload_n 0, 1) by decide +kernel) rfl hl0 ?_
  exact W.iret (v := i) hx hb hr (fun t ht hWm => ⟨⟨some (.inl i), μ, rfl, fun w hw => by cases hw; trivial, h, by rw [ht]; exact hW⟩, hS.F ht⟩) hS.2.2 (show decode prog_20_method_11_code 17 = .ok (.ireturn, 1) by decide +kernel) hlk
theorem sg_cs_pre (g : sl_G) {hh : Nat} (h : 1 ≤ hh) : sl_CallS g "java/lang/String" 1059 1 0 hh 3 sg_pre_pt := sl_callS (y := sg_pre_y) (sg_pre_snd g) h (by decide) (sl_in1 803 (by decide +kernel) rfl) (sl_in1 804 (by decide +kernel) rfl) sg_iP (sl_in1 805 (by decide +kernel) rfl) (by decide +kernel)
theorem sg_checkIndex_snd (g : sl_G) : sl_Snd g sg_checkIndex_y prog_17_method_155_code 2 none 1 sg_checkIndex_pt := by
  intro As μ Q hw h
  obtain ⟨i, n, rfl, h0, hn, h⟩ := h
  refine sl_mk0 g (by decide) hw (Nat.le_of_ble_eq_true rfl) ?_
  intro p e R s m args below meth c H locs ls F hr hlk hW hS hsz hl
  obtain ⟨hx, hb, hml, hown, hts, hK, hrm⟩ := id F
  have hl0 : ls[0]? = some (.val (.int i)) := hl 0 (.inl i) rfl
  have hl1 : ls[1]? = some (.val (.int n)) := hl 1 (.inl n) rfl
  refine lv_iload_n hx hb (show decode prog_17_method_155_code 0 = .ok (.iload_n 0, 1) by decide +kernel) rfl hl0 ?_
  refine lv_iload_n hx hb (show decode prog_17_method_155_code 1 = .ok (.iload_n 1, 1) by decide +kernel) rfl hl1 ?_
  have key : ∀ (r : Option (Nat × Nat)), (∀ q, r = some q → q.1 = 93) → W p g.1 e R s m args below meth c H locs 0 0 (MQ below (sl_Qc g Q) args s 0 0 (sl_A g)) (F0 m 5 ls [sl_tv g (.inr (.inr r)), .int n, .int i]) := by
    intro r h93
    refine sg_cs_pre g (hh := 1) (Nat.le_refl 1) p e R s m args below meth c 0 0 _ prog_17_method_155_code 2 F 5 (show decode prog_17_method_155_code 5 = .ok (.invokestatic 1059, 3) by decide +kernel) μ H locs ls [.inl i, .inl n, .inr (.inr r)] [] (fun r' μ' => Q none μ' ∧ ∃ z, r' = some (.inl z)) rfl (fun v hv => ?_) rfl hW hS hsz (by decide) ⟨i, n, r, rfl, h93, h0, hn, h, i, rfl⟩ (fun r' μ' H1 locs1 hq hwk hW1 hS1 => ?_)
    · simp only [List.mem_cons, List.not_mem_nil, or_false] at hv
      rcases hv with rfl | rfl | rfl
      · trivial
      · trivial
      · cases r with
        | none => trivial
        | some q => exact fun z => absurd z (by rw [h93 q rfl]; decide)
    · obtain ⟨hq, z, rfl⟩ := hq
      refine lv_pop hx hb (show decode prog_17_method_155_code 8 = .ok (.pop, 1) by decide +kernel) rfl ?_
      exact W.vret hx hb hr (fun t ht hWm => ⟨⟨none, μ', rfl, (fun w hw => by cases hw), hq, by rw [ht]; exact hW1⟩, hS1.F ht⟩) hS1.2.2 (show decode prog_17_method_155_code 9 = .ok (.return_, 1) by decide +kernel) hlk
  rcases hK.2.2.2.2.1 with hz | ⟨t, hz⟩
  · exact va_gets hx hb hz hS hown (hts _ sg_fl1053) (fun _ h9 => h9) (show decode prog_17_method_155_code 2 = .ok (.getstatic 1053, 3) by decide +kernel) (key none (fun q h => by cases h))
  · exact va_gets hx hb hz hS hown (hts _ sg_fl1053) (fun _ h9 => h9) (show decode prog_17_method_155_code 2 = .ok (.getstatic 1053, 3) by decide +kernel) (key (some (93, t)) (fun q h => by cases h; rfl))
theorem sg_cs_ci (g : sl_G) {hh : Nat} (h : 2 ≤ hh) : sl_CallS g "java/lang/StringLatin1" 9 1 0 hh 2 sg_checkIndex_pt := sl_callS (y := sg_checkIndex_y) (sg_checkIndex_snd g) h (by decide) (sl_in1 798 (by decide +kernel) rfl) (sl_in1 799 (by decide +kernel) rfl) sg_iS (sl_in1 800 (by decide +kernel) rfl) (by decide +kernel)
theorem sg_bytes : ∀ o, o < 2 → (sl_sl.getD o 0 < 2 ^ 31 ∧ ∀ j, j < sl_sl.getD o 0 → ((((sl_sb.getD o []).getD j 0) &&& 255).toUInt32 % 65536).toInt32 = (sl_sb.getD o []).getD j 0 ∧ narrow .char (.int ((sl_sb.getD o []).getD j 0)) = .int ((sl_sb.getD o []).getD j 0)) := by decide +kernel
theorem sg_lat_snd (g : sl_G) : sl_Snd g sg_lat_y prog_18_method_2_code 2 (some .char) 2 sg_lat_pt := by
  intro As μ Q hw h
  obtain ⟨o, i, ho, rfl, hin, h⟩ := h
  refine sl_mk0 g (by decide) hw (Nat.le_of_ble_eq_true rfl) ?_
  intro p e R s m args below meth c H locs ls F hr hlk hW hS hsz hl
  obtain ⟨hx, hb, hml, hown, hts, hK, hrm⟩ := id F
  have hl0 : ls[0]? = some (.val (.ref (sl_gs g 92 o))) := hl 0 _ rfl
  have hl1 : ls[1]? = some (.val (.int i)) := hl 1 (.inl i) rfl
  obtain ⟨hb1, hb2⟩ := sg_bytes o ho
  obtain ⟨j, hj, rfl⟩ := vp_in_of hin hb1
  refine lv_iload_n hx hb (show decode prog_18_method_2_code 0 = .ok (.iload_n 1, 1) by decide +kernel) rfl hl1 ?_
  refine lv_aload_n hx hb (show decode prog_18_method_2_code 1 = .ok (.aload_n 0, 1) by decide +kernel) rfl hl0 ?_
  refine va_tlen hx hb (hK.2.1.1 o ho).2.2.2 hS rfl (show decode prog_18_method_2_code 2 = .ok (.arraylength, 1) by decide +kernel) ?_
  refine sg_cs_ci g (hh := 2) (Nat.le_refl 2) p e R s m args below meth c 0 0 _ prog_18_method_2_code 2 F 3 (show decode prog_18_method_2_code 3 = .ok (.invokestatic 9, 3) by decide +kernel) μ H locs ls [.inl (nI j), .inl (nI (sl_sl.getD o 0))] [] (fun r' μ' => Q (some (.inl (sg_chr o (nI j)))) μ' ∧ r' = none) rfl (fun v hv => ?_) rfl hW hS hsz (by decide) ⟨nI j, nI (sl_sl.getD o 0), rfl, nI_pos (by omega), nI_lt hj (by omega), h, rfl⟩ (fun r' μ' H1 locs1 hq hwk hW1 hS1 => ?_)
  · simp only [List.mem_cons, List.not_mem_nil, or_false] at hv
    rcases hv with rfl | rfl <;> trivial
  · obtain ⟨hq, rfl⟩ := hq
    refine lv_aload_n hx hb (show decode prog_18_method_2_code 6 = .ok (.aload_n 0, 1) by decide +kernel) rfl hl0 ?_
    refine lv_iload_n hx hb (show decode prog_18_method_2_code 7 = .ok (.iload_n 1, 1) by decide +kernel) rfl hl1 ?_
    refine va_tb hx hb (hK.2.1.1 o ho).2.2.2 hS1 hin rfl (show decode prog_18_method_2_code 8 = .ok (.baload, 1) by decide +kernel) ?_
    refine lv_sipush (v := 255) hx hb (show decode prog_18_method_2_code 9 = .ok (.sipush 255, 3) by decide +kernel) (by decide) ?_
    refine lv_iand hx hb (show decode prog_18_method_2_code 12 = .ok (.iand, 1) by decide +kernel) ?_
    have hch : sg_chr o (nI j) = (sl_sb.getD o []).getD j 0 := by
      unfold sg_chr
      rw [nI_clamp (by omega)]
    refine lv_i2c (v := sg_chr o (nI j)) hx hb (show decode prog_18_method_2_code 13 = .ok (.i2c, 1) by decide +kernel) (by rw [hch, nI_clamp (by omega)]; exact (hb2 j hj).1) ?_
    exact W.zret (v := sg_chr o (nI j)) hx hb hr (by rw [hch]; exact (hb2 j hj).2) (fun t ht hWm => ⟨⟨some (.inl (sg_chr o (nI j))), μ', rfl, fun w hw => by cases hw; trivial, hq, by rw [ht]; exact hW1⟩, hS1.F ht⟩) hS1.2.2 (show decode prog_18_method_2_code 14 = .ok (.ireturn, 1) by decide +kernel) hlk
theorem sg_cs_lat (g : sl_G) {hh : Nat} (h : 3 ≤ hh) : sl_CallS g "java/lang/String" 495 1 0 hh 2 sg_lat_pt := sl_callS (y := sg_lat_y) (sg_lat_snd g) h (by decide) (sl_in1 795 (by decide +kernel) rfl) (sl_in1 796 (by decide +kernel) rfl) sg_iL (sl_in1 797 (by decide +kernel) rfl) (by decide +kernel)
/-- a call at one of the two texts -/
theorem sl_callG {g : sl_G} {own : String} {idx h h' n maxL : Nat} {y : MethodName} {bytes : ByteArray} {ret : Option FieldType} {pt : sl_PT} (ho : ∀ (o : Nat) (As : List sl_V) (μ : sl_M) (Q : sl_Qt), pt (.inr (.inr (some (90, o))) :: As) μ Q → o < 2) (hs : sl_Snd g y bytes maxL ret h' pt) (hh : h' + 1 ≤ h) (hm : maxL ≤ 40)
    (w1 : Cond.methodLink own idx y ∈ sl_T0) (w2 : Cond.instanceMethod y ∈ sl_T0) (w3 : Cond.selects y.cls y y ∈ sl_T0) (w4 : Cond.initialized y.cls ∈ sl_T0) (w5 : Cond.code y bytes maxL ret ∈ sl_T0)
    (hd : y.cls ≠ "java/lang/invoke/MethodHandle" ∧ y.cls ≠ "java/lang/invoke/VarHandle" ∧ (parseMethodDescriptor y.desc).map (fun d => d.parameters.length) = some n) (hcl : y.cls = "java/lang/String") : sl_CallS g own idx 0 90 h (n + 1) pt := by
  intro p e R s m args below meth c cells slots Qp cc nL F pc hdec μ H locs ls As rest Q' hn hw hrc hWd hS hsz hcat hpt kk
  obtain ⟨hx, hb, hml, hown, hts, hK, hf, hl, hc, hsl⟩ := F
  match As, hn, hw, hrc, hpt with
  | .inr (.inr (some q)) :: As', hn, hw, hrc, hpt =>
    obtain ⟨c0, o⟩ := q
    have hc0 : c0 = 90 := by simpa [sl_recv] using hrc
    subst hc0
    have ho := ho _ _ _ _ hpt
    have hcw : CallW R s args own y.cls idx y bytes maxL ret (Cond.code y bytes maxL ret :: sl_T0) (sl_rm h') 0 0 n := by
      refine ⟨callB_of n hts (sl_goodIn w5) rfl rfl rfl (hts _ w4) (hts _ w1) hd ⟨?_, ?_⟩, hts _ w2, hts _ w3⟩
      · show h' + 1 ≤ R.frames
        omega
      · show 8 + (maxL + 11) + 64 * h' ≤ R.locals
        omega
    have hstk : ((.inr (.inr (some (90, o))) :: As').map (sl_tv g)).reverse ++ rest = (As'.map (sl_tv g)).reverse ++ .ref (sl_gs g 90 o) :: rest := by
      rw [List.map_cons, List.reverse_cons, sg_tv90, List.append_assoc]
      rfl
    rw [hstk]
    refine sl_goes (va_runV (As := As'.map (sl_tv g)) (rest := rest) (C := y.cls) ⟨hx, hb, hml, hown, hts⟩ (hs _ μ Q' hw hpt) hcw ⟨sl_blind, by rw [hcl]; exact vk_recv hK.2.1 ho hS, fun U hU hWm => ⟨by rw [List.map_cons, sg_tv90], by rw [hU]; exact hWd, sl_K.go (U := U) (locs := locs) hK (by rw [hU]; exact hS) hWm⟩⟩ rfl (by rw [List.length_map]; exact Nat.succ.inj hn) hsz rfl (lv_room hcat) hdec ⟨hc, hsl⟩) hS kk
  | [], hn, hw, hrc, hpt => cases hrc
  | .inl _ :: _, hn, hw, hrc, hpt => cases hrc
  | .inr (.inl _) :: _, hn, hw, hrc, hpt => cases hrc
  | .inr (.inr none) :: _, hn, hw, hrc, hpt => cases hrc
theorem sg_cs_coder (g : sl_G) {hh : Nat} (h : 1 ≤ hh) : sl_CallS g "java/lang/String" 335 0 90 hh 1 sg_coder_pt := sl_callG (y := sg_coder_y) (fun o As μ Q h => by obtain ⟨o', h1, h2, -⟩ := h; cases h2; exact h1) (sg_coder_snd g) h (by decide) (sl_in1 781 (by decide +kernel) rfl) (sl_in1 782 (by decide +kernel) rfl) (sl_in1 783 (by decide +kernel) rfl) sg_iS sg_w_coder5 (by decide +kernel) rfl
theorem sg_cs_lat1 (g : sl_G) {hh : Nat} (h : 1 ≤ hh) : sl_CallS g "java/lang/String" 492 0 90 hh 1 sg_isLatin1_pt := sl_callG (y := sg_isLatin1_y) (fun o As μ Q h => by obtain ⟨o', h1, h2, -⟩ := h; cases h2; exact h1) (sg_isLatin1_snd g) h (by decide) (sl_in1 791 (by decide +kernel) rfl) (sl_in1 792 (by decide +kernel) rfl) (sl_in1 793 (by decide +kernel) rfl) sg_iS sg_w_isLatin15 (by decide +kernel) rfl
theorem sg_wk90 {g : sl_G} {o : Nat} : ∀ v ∈ ([.inr (.inr (some (90, o)))] : List sl_V), sl_wk v := fun v hv => by
  rw [List.mem_singleton.mp hv]
  exact fun z => absurd z (Nat.lt_irrefl 90)
theorem sg_length_snd (g : sl_G) : sl_Snd g sg_length_y prog_17_method_54_code 1 (some .int) 6 sg_length_pt := by
  intro As μ Q hw h
  unfold sg_length_pt at h
  split at h
  next c0 o =>
    split at h
    next e_ =>
      subst e_
      obtain ⟨ho, h⟩ := h
      refine sl_mk0 g (by decide) hw (Nat.le_of_ble_eq_true rfl) ?_
      intro p e R s m args below meth c H locs ls F hr hlk hW hS hsz hl
      obtain ⟨hx, hb, hml, hown, hts, hK, hrm⟩ := id F
      have hl0 : ls[0]? = some (.val (.ref (sl_gs g 90 o))) := hl 0 _ rfl
      refine lv_aload_n hx hb (show decode prog_17_method_54_code 0 = .ok (.aload_n 0, 1) by decide +kernel) rfl hl0 ?_
      refine vk_getf hx hb (hK.2.1.1 o ho).2.2.1 hS hown (hts _ sg_fl9) (fun _ h9 => h9) (show decode prog_17_method_54_code 1 = .ok (.getfield 9, 3) by decide +kernel) ?_
      refine va_tlen hx hb (hK.2.1.1 o ho).2.2.2 hS rfl (show decode prog_17_method_54_code 4 = .ok (.arraylength, 1) by decide +kernel) ?_
      refine lv_aload_n hx hb (show decode prog_17_method_54_code 5 = .ok (.aload_n 0, 1) by decide +kernel) rfl hl0 ?_
      refine sg_cs_coder g (hh := 6) (by decide) p e R s m args below meth c 0 0 _ prog_17_method_54_code 1 F 6 (show decode prog_17_method_54_code 6 = .ok (.invokevirtual 335, 3) by decide +kernel) μ H locs ls [.inr (.inr (some (90, o)))] [.int (Int32.ofNat (sl_sl.getD o 0))] (fun r' μ' => r' = some (.inl 0) ∧ Q (some (.inl (nI (sl_sl.getD o 0)))) μ') rfl (sg_wk90 (g := g)) rfl hW hS hsz (Nat.le_of_ble_eq_true rfl) ⟨o, ho, rfl, rfl, h⟩ (fun r' μ' H1 locs1 hq hwk hW1 hS1 => ?_)
      obtain ⟨rfl, hq⟩ := hq
      refine lv_ishr hx hb (show decode prog_17_method_54_code 9 = .ok (.ishr, 1) by decide +kernel) ?_
      have e9 : Int32.ofNat (sl_sl.getD o 0) >>> ((0 : Int32) &&& 31) = nI (sl_sl.getD o 0) := sc_shr0 (sg_bytes o ho).1
      rw [e9]
      exact W.iret (v := nI (sl_sl.getD o 0)) hx hb hr (fun t ht hWm => ⟨⟨some (.inl (nI (sl_sl.getD o 0))), μ', rfl, fun w hw => by cases hw; trivial, hq, by rw [ht]; exact hW1⟩, hS1.F ht⟩) hS1.2.2 (show decode prog_17_method_54_code 10 = .ok (.ireturn, 1) by decide +kernel) hlk
    next => exact h.elim
  next => exact h.elim
theorem sg_charAt_snd (g : sl_G) : sl_Snd g sg_charAt_y prog_17_method_56_code 2 (some .char) 6 sg_charAt_pt := by
  intro As μ Q hw h
  unfold sg_charAt_pt at h
  split at h
  next c0 o i =>
    split at h
    next e_ =>
      subst e_
      obtain ⟨ho, hin, h⟩ := h
      refine sl_mk0 g (by decide) hw (Nat.le_of_ble_eq_true rfl) ?_
      intro p e R s m args below meth c H locs ls F hr hlk hW hS hsz hl
      obtain ⟨hx, hb, hml, hown, hts, hK, hrm⟩ := id F
      have hl0 : ls[0]? = some (.val (.ref (sl_gs g 90 o))) := hl 0 _ rfl
      have hl1 : ls[1]? = some (.val (.int i)) := hl 1 (.inl i) rfl
      refine lv_aload_n hx hb (show decode prog_17_method_56_code 0 = .ok (.aload_n 0, 1) by decide +kernel) rfl hl0 ?_
      refine sg_cs_lat1 g (hh := 6) (by decide) p e R s m args below meth c 0 0 _ prog_17_method_56_code 2 F 1 (show decode prog_17_method_56_code 1 = .ok (.invokevirtual 492, 3) by decide +kernel) μ H locs ls [.inr (.inr (some (90, o)))] [] (fun r' μ' => r' = some (.inl 1) ∧ Q (some (.inl (sg_chr o i))) μ') rfl (sg_wk90 (g := g)) rfl hW hS hsz (by decide) ⟨o, ho, rfl, rfl, h⟩ (fun r' μ' H1 locs1 hq hwk hW1 hS1 => ?_)
      obtain ⟨rfl, hq⟩ := hq
      refine lv_if_eq (tgt := 16) hx hb (show decode prog_17_method_56_code 4 = .ok (.ifCond .eq 12, 3) by decide +kernel) (by decide) (fun z => absurd z (by decide)) (fun _ => ?_)
      refine lv_aload_n hx hb (show decode prog_17_method_56_code 7 = .ok (.aload_n 0, 1) by decide +kernel) rfl hl0 ?_
      refine vk_getf hx hb (hK.2.1.1 o ho).2.2.1 hS1 hown (hts _ sg_fl9) (fun _ h9 => h9) (show decode prog_17_method_56_code 8 = .ok (.getfield 9, 3) by decide +kernel) ?_
      refine lv_iload_n hx hb (show decode prog_17_method_56_code 11 = .ok (.iload_n 1, 1) by decide +kernel) rfl hl1 ?_
      obtain ⟨hb1, hb2⟩ := sg_bytes o ho
      refine sg_cs_lat g (hh := 6) (by decide) p e R s m args below meth c 0 0 _ prog_17_method_56_code 2 F 12 (show decode prog_17_method_56_code 12 = .ok (.invokestatic 495, 3) by decide +kernel) μ' H1 locs1 ls [.inr (.inr (some (92, o))), .inl i] [] (fun r' μ2 => r' = some (.inl (sg_chr o i)) ∧ Q (some (.inl (sg_chr o i))) μ2) rfl (fun v hv => ?_) rfl hW1 hS1 hsz (by decide) ⟨o, i, ho, rfl, hin, rfl, hq⟩ (fun r' μ2 H2 locs2 hq hwk hW2 hS2 => ?_)
      · simp only [List.mem_cons, List.not_mem_nil, or_false] at hv
        rcases hv with rfl | rfl
        · exact fun z => absurd z (show ¬ 92 < 90 by omega)
        · trivial
      · obtain ⟨rfl, hq⟩ := hq
        obtain ⟨j, hj, rfl⟩ := vp_in_of hin hb1
        have hch : sg_chr o (nI j) = (sl_sb.getD o []).getD j 0 := by
          unfold sg_chr
          rw [nI_clamp (by omega)]
        exact W.zret (v := sg_chr o (nI j)) hx hb hr (by rw [hch]; exact (hb2 j hj).2) (fun t ht hWm => ⟨⟨some (.inl (sg_chr o (nI j))), μ2, rfl, fun w hw => by cases hw; trivial, hq, by rw [ht]; exact hW2⟩, hS2.F ht⟩) hS2.2.2 (show decode prog_17_method_56_code 15 = .ok (.ireturn, 1) by decide +kernel) hlk
    next => exact h.elim
  next => exact h.elim
theorem sg_length_ho (o : Nat) (As : List sl_V) (μ : sl_M) (Q : sl_Qt) (h : sg_length_pt (.inr (.inr (some (90, o))) :: As) μ Q) : o < 2 := by
  cases As with
  | nil => exact (show sg_length o μ (fun r μ' => Q (some (.inl r)) μ') from h).1
  | cons a As => exact False.elim h
theorem sg_charAt_ho (o : Nat) (As : List sl_V) (μ : sl_M) (Q : sl_Qt) (h : sg_charAt_pt (.inr (.inr (some (90, o))) :: As) μ Q) : o < 2 := by
  match As, h with
  | [], h => exact False.elim h
  | [.inl i], h => exact (show sg_charAt o i μ (fun r μ' => Q (some (.inl r)) μ') from h).1
  | .inr _ :: _, h => exact False.elim h
  | .inl _ :: _ :: _, h => exact False.elim h
end
section
def sx_isBelow (a0 : Int32) (a1 : Int32) (μ : sl_M) (Q : Int32 → sl_M → Prop) : Prop := (a0 < (0 : Int32) → sl_bz (0 : Int32) = (0 : Int32) ∧ Q (0 : Int32) μ) ∧ (¬ a0 < (0 : Int32) → (a0 < a1 → sl_bz (1 : Int32) = (1 : Int32) ∧ Q (1 : Int32) μ) ∧ (¬ a0 < a1 → sl_bz (0 : Int32) = (0 : Int32) ∧ Q (0 : Int32) μ))
def sx_isBelow_pt : sl_PT := fun As μ Q => match As with
  | [.inl a0, .inl a1] => sx_isBelow a0 a1 μ (fun r μ' => Q (some (.inl r)) μ')
  | _ => False
def sx_isBelow_cd : List sl_Ent := [(0, .iload_n 0, 1, 0, [0], [], false), (1, .ifCond .lt 12, 3, 0, [13], [], false), (4, .iload_n 0, 1, 0, [0], [], false), (5, .iload_n 1, 1, 0, [1], [], false), (6, .if_icmp .ge 7, 3, 0, [13], [], false), (9, .iconst 1, 1, 1, [], [], false), (10, .goto 4, 3, 0, [14], [], false), (13, .iconst 0, 1, 0, [], [], false), (14, .ireturn, 1, 0, [1], [], false)]
def sx_isBelow_y : MethodName := ⟨"SpanLayers", "isBelow", "(II)Z"⟩
theorem sx_isBelow_tb : sl_tbOK sl_R11 prog_1_method_45_code 2 (some .boolean) lk_sx [] sx_isBelow_cd = true := by decide +kernel
def sx_isBelow_ct : List sl_Ct := []
theorem sx_isBelow_hc (g : sl_G) : sl_HC g sl_R11 0 sx_isBelow_ct [] := sl_HC_nil g sl_R11 0
set_option maxRecDepth 20000 in
set_option maxHeartbeats 2000000 in
theorem sx_isBelow_snd (g : sl_G) : sl_Snd g sx_isBelow_y prog_1_method_45_code 2 (some .boolean) 0 (sx_isBelow_pt) := by
  intro As μ Q hw h
  unfold sx_isBelow_pt at h
  split at h
  next a0 a1 =>
    refine sl_mk2 g [true, true] (cst := [some (.inl a0), some (.inl a1)]) (lv0 := [none, none]) (by decide) rfl hw rfl rfl rfl lk_sx_ok (sx_isBelow_hc g) sx_isBelow_tb rfl ?_
    intro X M
    exact ⟨_, sl_VV0, h⟩
  next => exact h.elim
def sx_isPlace (a0 : Int32) (μ : sl_M) (Q : Int32 → sl_M → Prop) : Prop := sx_isBelow a0 (1000 : Int32) μ (fun r2 m1 => sl_bz r2 = r2 ∧ Q r2 m1)
def sx_isPlace_pt : sl_PT := fun As μ Q => match As with
  | [.inl a0] => sx_isPlace a0 μ (fun r μ' => Q (some (.inl r)) μ')
  | _ => False
def sx_isPlace_cd : List sl_Ent := [(0, .iload_n 0, 1, 0, [0], [], false), (1, .sipush 1000, 3, 1000, [], [], false), (4, .invokestatic 97, 3, 0, [0], [], false), (7, .ireturn, 1, 0, [1], [], false)]
def sx_isPlace_y : MethodName := ⟨"SpanLayers", "isPlace", "(I)Z"⟩
theorem sx_isPlace_tb : sl_tbOK sl_R11 prog_1_method_46_code 1 (some .boolean) lk_sx [(97, 1)] sx_isPlace_cd = true := by decide +kernel
theorem sx_isBelow_w2 : Cond.static sx_isBelow_y ∈ sl_T0 := sl_in1 407 (by decide +kernel) rfl
theorem sx_isBelow_w4 : Cond.initialized sx_isBelow_y.cls ∈ sl_T0 := sl_in1 86 (by decide +kernel) rfl
theorem sx_isBelow_w5 : Cond.code sx_isBelow_y prog_1_method_45_code 2 (some .boolean) ∈ sl_T0 := sl_in1 408 (by decide +kernel) rfl
theorem sx_isBelow_w6 : sx_isBelow_y.cls ≠ "java/lang/invoke/MethodHandle" ∧ sx_isBelow_y.cls ≠ "java/lang/invoke/VarHandle" ∧ (parseMethodDescriptor sx_isBelow_y.desc).map (fun d => d.parameters.length) = some 2 := by decide +kernel
theorem cs_sx_97 (g : sl_G) {hh : Nat} (h : 1 ≤ hh) : sl_CallS g sl_R11 97 1 0 hh 2 sx_isBelow_pt := sl_callS (y := sx_isBelow_y) (sx_isBelow_snd g) h (by decide) (sl_in1 406 (by decide +kernel) rfl) sx_isBelow_w2 sx_isBelow_w4 sx_isBelow_w5 sx_isBelow_w6
def sx_isPlace_ct : List sl_Ct := [(2, 1, 0, sx_isBelow_pt)]
theorem sx_isPlace_hc (g : sl_G) : sl_HC g sl_R11 1 sx_isPlace_ct [(97, 1)] := sl_HC_cons (cs_sx_97 g (by decide)) (sl_HC_nil g sl_R11 1)
set_option maxRecDepth 20000 in
set_option maxHeartbeats 2000000 in
theorem sx_isPlace_snd (g : sl_G) : sl_Snd g sx_isPlace_y prog_1_method_46_code 1 (some .boolean) 1 (sx_isPlace_pt) := by
  intro As μ Q hw h
  unfold sx_isPlace_pt at h
  split at h
  next a0 =>
    refine sl_mk2 g [true] (cst := [some (.inl a0)]) (lv0 := [none]) (by decide) rfl hw rfl rfl rfl lk_sx_ok (sx_isPlace_hc g) sx_isPlace_tb rfl ?_
    intro X M
    exact ⟨_, sl_VV0, h⟩
  next => exact h.elim
def sx_isRun (a0 : Int32) (a1 : Int32) (μ : sl_M) (Q : Int32 → sl_M → Prop) : Prop := sx_isPlace a0 μ (fun r2 m1 => (r2 = (0 : Int32) → sl_bz (0 : Int32) = (0 : Int32) ∧ Q (0 : Int32) m1) ∧ (¬ r2 = (0 : Int32) → sx_isPlace a1 m1 (fun r4 m3 => (r4 = (0 : Int32) → sl_bz (0 : Int32) = (0 : Int32) ∧ Q (0 : Int32) m3) ∧ (¬ r4 = (0 : Int32) → (a0 ≤ a1 → sl_bz (1 : Int32) = (1 : Int32) ∧ Q (1 : Int32) m3) ∧ (¬ a0 ≤ a1 → sl_bz (0 : Int32) = (0 : Int32) ∧ Q (0 : Int32) m3)))))
def sx_isRun_pt : sl_PT := fun As μ Q => match As with
  | [.inl a0, .inl a1] => sx_isRun a0 a1 μ (fun r μ' => Q (some (.inl r)) μ')
  | _ => False
def sx_isRun_cd : List sl_Ent := [(0, .iload_n 0, 1, 0, [0], [], false), (1, .invokestatic 126, 3, 0, [0], [], false), (4, .ifCond .eq 19, 3, 0, [23], [], false), (7, .iload_n 1, 1, 0, [1], [], false), (8, .invokestatic 126, 3, 0, [0], [], false), (11, .ifCond .eq 12, 3, 0, [23], [], false), (14, .iload_n 0, 1, 0, [0], [], false), (15, .iload_n 1, 1, 0, [1], [], false), (16, .if_icmp .gt 7, 3, 0, [23], [], false), (19, .iconst 1, 1, 1, [], [], false), (20, .goto 4, 3, 0, [24], [], false), (23, .iconst 0, 1, 0, [], [], false), (24, .ireturn, 1, 0, [1], [], false)]
def sx_isRun_y : MethodName := ⟨"SpanLayers", "isRun", "(II)Z"⟩
theorem sx_isRun_tb : sl_tbOK sl_R11 prog_1_method_47_code 2 (some .boolean) lk_sx [(126, 1)] sx_isRun_cd = true := by decide +kernel
theorem sx_isPlace_w2 : Cond.static sx_isPlace_y ∈ sl_T0 := sl_in1 404 (by decide +kernel) rfl
theorem sx_isPlace_w4 : Cond.initialized sx_isPlace_y.cls ∈ sl_T0 := sl_in1 86 (by decide +kernel) rfl
theorem sx_isPlace_w5 : Cond.code sx_isPlace_y prog_1_method_46_code 1 (some .boolean) ∈ sl_T0 := sl_in1 405 (by decide +kernel) rfl
theorem sx_isPlace_w6 : sx_isPlace_y.cls ≠ "java/lang/invoke/MethodHandle" ∧ sx_isPlace_y.cls ≠ "java/lang/invoke/VarHandle" ∧ (parseMethodDescriptor sx_isPlace_y.desc).map (fun d => d.parameters.length) = some 1 := by decide +kernel
theorem cs_sx_126 (g : sl_G) {hh : Nat} (h : 2 ≤ hh) : sl_CallS g sl_R11 126 1 0 hh 1 sx_isPlace_pt := sl_callS (y := sx_isPlace_y) (sx_isPlace_snd g) h (by decide) (sl_in1 403 (by decide +kernel) rfl) sx_isPlace_w2 sx_isPlace_w4 sx_isPlace_w5 sx_isPlace_w6
def sx_isRun_ct : List sl_Ct := [(1, 1, 0, sx_isPlace_pt)]
theorem sx_isRun_hc (g : sl_G) : sl_HC g sl_R11 2 sx_isRun_ct [(126, 1)] := sl_HC_cons (cs_sx_126 g (by decide)) (sl_HC_nil g sl_R11 2)
set_option maxRecDepth 20000 in
set_option maxHeartbeats 2000000 in
theorem sx_isRun_snd (g : sl_G) : sl_Snd g sx_isRun_y prog_1_method_47_code 2 (some .boolean) 2 (sx_isRun_pt) := by
  intro As μ Q hw h
  unfold sx_isRun_pt at h
  split at h
  next a0 a1 =>
    refine sl_mk2 g [true, true] (cst := [some (.inl a0), some (.inl a1)]) (lv0 := [none, none]) (by decide) rfl hw rfl rfl rfl lk_sx_ok (sx_isRun_hc g) sx_isRun_tb rfl ?_
    intro X M
    exact ⟨_, sl_VV0, h⟩
  next => exact h.elim
def sx_isSpan (a0 : Int32) (a1 : Int32) (a2 : Int32) (μ : sl_M) (Q : Int32 → sl_M → Prop) : Prop := sx_isRun a0 a1 μ (fun r2 m1 => (r2 = (0 : Int32) → sl_bz (0 : Int32) = (0 : Int32) ∧ Q (0 : Int32) m1) ∧ (¬ r2 = (0 : Int32) → (a2 < (-99 : Int32) → sl_bz (0 : Int32) = (0 : Int32) ∧ Q (0 : Int32) m1) ∧ (¬ a2 < (-99 : Int32) → (a2 ≤ (99 : Int32) → sl_bz (1 : Int32) = (1 : Int32) ∧ Q (1 : Int32) m1) ∧ (¬ a2 ≤ (99 : Int32) → sl_bz (0 : Int32) = (0 : Int32) ∧ Q (0 : Int32) m1))))
def sx_isSpan_pt : sl_PT := fun As μ Q => match As with
  | [.inl a0, .inl a1, .inl a2] => sx_isSpan a0 a1 a2 μ (fun r μ' => Q (some (.inl r)) μ')
  | _ => False
def sx_isSpan_cd : List sl_Ent := [(0, .iload_n 0, 1, 0, [0], [], false), (1, .iload_n 1, 1, 0, [1], [], false), (2, .invokestatic 137, 3, 0, [0], [], false), (5, .ifCond .eq 19, 3, 0, [24], [], false), (8, .iload_n 2, 1, 0, [2], [], false), (9, .bipush (-99), 2, (-99), [], [], false), (11, .if_icmp .lt 13, 3, 0, [24], [], false), (14, .iload_n 2, 1, 0, [2], [], false), (15, .bipush 99, 2, 99, [], [], false), (17, .if_icmp .gt 7, 3, 0, [24], [], false), (20, .iconst 1, 1, 1, [], [], false), (21, .goto 4, 3, 0, [25], [], false), (24, .iconst 0, 1, 0, [], [], false), (25, .ireturn, 1, 0, [1], [], false)]
def sx_isSpan_y : MethodName := ⟨"SpanLayers", "isSpan", "(III)Z"⟩
theorem sx_isSpan_tb : sl_tbOK sl_R11 prog_1_method_48_code 3 (some .boolean) lk_sx [(137, 1)] sx_isSpan_cd = true := by decide +kernel
theorem sx_isRun_w2 : Cond.static sx_isRun_y ∈ sl_T0 := sl_in1 401 (by decide +kernel) rfl
theorem sx_isRun_w4 : Cond.initialized sx_isRun_y.cls ∈ sl_T0 := sl_in1 86 (by decide +kernel) rfl
theorem sx_isRun_w5 : Cond.code sx_isRun_y prog_1_method_47_code 2 (some .boolean) ∈ sl_T0 := sl_in1 402 (by decide +kernel) rfl
theorem sx_isRun_w6 : sx_isRun_y.cls ≠ "java/lang/invoke/MethodHandle" ∧ sx_isRun_y.cls ≠ "java/lang/invoke/VarHandle" ∧ (parseMethodDescriptor sx_isRun_y.desc).map (fun d => d.parameters.length) = some 2 := by decide +kernel
theorem cs_sx_137 (g : sl_G) {hh : Nat} (h : 3 ≤ hh) : sl_CallS g sl_R11 137 1 0 hh 2 sx_isRun_pt := sl_callS (y := sx_isRun_y) (sx_isRun_snd g) h (by decide) (sl_in1 400 (by decide +kernel) rfl) sx_isRun_w2 sx_isRun_w4 sx_isRun_w5 sx_isRun_w6
def sx_isSpan_ct : List sl_Ct := [(2, 1, 0, sx_isRun_pt)]
theorem sx_isSpan_hc (g : sl_G) : sl_HC g sl_R11 3 sx_isSpan_ct [(137, 1)] := sl_HC_cons (cs_sx_137 g (by decide)) (sl_HC_nil g sl_R11 3)
set_option maxRecDepth 20000 in
set_option maxHeartbeats 2000000 in
theorem sx_isSpan_snd (g : sl_G) : sl_Snd g sx_isSpan_y prog_1_method_48_code 3 (some .boolean) 3 (sx_isSpan_pt) := by
  intro As μ Q hw h
  unfold sx_isSpan_pt at h
  split at h
  next a0 a1 a2 =>
    refine sl_mk2 g [true, true, true] (cst := [some (.inl a0), some (.inl a1), some (.inl a2)]) (lv0 := [none, none, none]) (by decide) rfl hw rfl rfl rfl lk_sx_ok (sx_isSpan_hc g) sx_isSpan_tb rfl ?_
    intro X M
    exact ⟨_, sl_VV0, h⟩
  next => exact h.elim
def ix_leastOut_L2 (Q : Int32 → sl_M → Prop) : Nat → Int32 → sl_M → Prop
  | 0, _, _ => False
  | n + 1, x1, μ => (x1 < (30 : Int32) → vp_in x1 30 ∧ ((sl_bz (μ (4 + x1.toNatClampNeg) 1)) = (0 : Int32) → Q x1 μ) ∧ (¬ (sl_bz (μ (4 + x1.toNatClampNeg) 1)) = (0 : Int32) → (ix_leastOut_L2 Q n) (x1 + (1 : Int32)) μ)) ∧ (¬ x1 < (30 : Int32) → Q (-1 : Int32) μ)
def ix_leastOut (μ : sl_M) (Q : Int32 → sl_M → Prop) : Prop := ∃ n1, ix_leastOut_L2 Q n1 (0 : Int32) μ
def ix_leastOut_pt : sl_PT := fun As μ Q => match As with
  | [.inr (.inr (some (c0, a0)))] => if c0 = 5 then (if a0 = 1 then (ix_leastOut μ (fun r μ' => Q (some (.inl r)) μ')) else False) else False
  | _ => False
def ix_leastOut_cd : List sl_Ent := [(0, .iconst 0, 1, 0, [], [], false), (1, .istore_n 1, 1, 0, [1], [], false), (2, .iload_n 1, 1, 0, [1], [], true), (3, .bipush 30, 2, 30, [], [], false), (5, .if_icmp .ge 23, 3, 0, [28], [], false), (8, .aload_n 0, 1, 0, [0], [], false), (9, .getfield 11, 3, 0, [5, 0, 2, 22, 1], [], false), (12, .iload_n 1, 1, 0, [1], [], false), (13, .aaload, 1, 0, [], [], false), (14, .getfield 31, 3, 0, [9, 1, 1, 0, 0], [], false), (17, .ifCond .ne 5, 3, 0, [22], [], false), (20, .iload_n 1, 1, 0, [1], [], false), (21, .ireturn, 1, 0, [], [], false), (22, .iinc 1 1, 3, 1, [], [], false), (25, .goto (-23), 3, 0, [2], [], false), (28, .iconst (-1), 1, (-1), [], [], false), (29, .ireturn, 1, 0, [], [], false)]
def ix_leastOut_y : MethodName := ⟨"SpanLayers$Index", "leastOut", "()I"⟩
theorem ix_leastOut_tb : sl_tbOK sl_R5 prog_7_method_4_code 2 (some .int) lk_ix [] ix_leastOut_cd = true := by decide +kernel
def ix_leastOut_ct : List sl_Ct := []
theorem ix_leastOut_hc (g : sl_G) : sl_HC g sl_R5 0 ix_leastOut_ct [] := sl_HC_nil g sl_R5 0
set_option maxRecDepth 20000 in
set_option maxHeartbeats 2000000 in
theorem ix_leastOut_snd (g : sl_G) : sl_Snd g ix_leastOut_y prog_7_method_4_code 2 (some .int) 0 (ix_leastOut_pt) := by
  intro As μ Q hw h
  unfold ix_leastOut_pt at h
  split at h
  next c0 a0 =>
    split at h
    next e_ =>
      subst e_
      split at h
      next e_ =>
        subst e_
        refine sl_mk2 g [true, false] (cst := [some (.inr (.inr (some (5, 1))))]) (lv0 := [none, none]) (by decide) rfl hw rfl rfl rfl lk_ix_ok (ix_leastOut_hc g) ix_leastOut_tb rfl ?_
        intro X M
        have v2 := sl_extL M sl_VV0 2 (fun n lv st μ => match lv, st with | [_, some (.inl x1)], [] => ix_leastOut_L2 (fun r μ' => Q (some (.inl r)) μ') n x1 μ | _, _ => False) (by
            intro lv st μ h
            split at h
            · exact h
            · exact h) (by
            intro n2 w2
            refine ⟨_, w2, ?_⟩
            intro lv st μ h
            split at h
            · exact h
            · exact h.elim)
        exact ⟨_, v2, h⟩
      next => exact h.elim
    next => exact h.elim
  next => exact h.elim
def ix_bringIn (a1 : Int32) (a2 : Int32) (a3 : Int32) (a4 : Int32) (μ : sl_M) (Q : sl_M → Prop) : Prop := sx_isBelow a1 (30 : Int32) μ (fun r2 m1 => (r2 = (0 : Int32) → Q m1) ∧ (¬ r2 = (0 : Int32) → vp_in a1 30 ∧ sl_bz (1 : Int32) = (1 : Int32) ∧ ∀ m3, m3 = sl_up m1 (4 + a1.toNatClampNeg) 1 (1 : Int32) → vp_in a1 30 ∧ ∀ m4, m4 = sl_up m3 (4 + a1.toNatClampNeg) 2 a2 → vp_in a1 30 ∧ ∀ m5, m5 = sl_up m4 (4 + a1.toNatClampNeg) 3 a3 → vp_in a1 30 ∧ ∀ m6, m6 = sl_up m5 (4 + a1.toNatClampNeg) 4 a4 → Q m6))
def ix_bringIn_pt : sl_PT := fun As μ Q => match As with
  | [.inr (.inr (some (c0, a0))), .inl a1, .inl a2, .inl a3, .inl a4] => if c0 = 5 then (if a0 = 1 then (ix_bringIn a1 a2 a3 a4 μ (fun μ' => Q none μ')) else False) else False
  | _ => False
def ix_bringIn_cd : List sl_Ent := [(0, .iload_n 1, 1, 0, [1], [], false), (1, .bipush 30, 2, 30, [], [], false), (3, .invokestatic 27, 3, 0, [0], [], false), (6, .ifCond .eq 44, 3, 0, [50], [], false), (9, .aload_n 0, 1, 0, [0], [], false), (10, .getfield 11, 3, 0, [5, 0, 2, 22, 1], [], false), (13, .iload_n 1, 1, 0, [1], [], false), (14, .aaload, 1, 0, [], [], false), (15, .iconst 1, 1, 1, [], [], false), (16, .putfield 31, 3, 0, [9, 1, 1], [], false), (19, .aload_n 0, 1, 0, [0], [], false), (20, .getfield 11, 3, 0, [5, 0, 2, 22, 1], [], false), (23, .iload_n 1, 1, 0, [1], [], false), (24, .aaload, 1, 0, [], [], false), (25, .iload_n 2, 1, 0, [2], [], false), (26, .putfield 35, 3, 0, [9, 2, 0], [], false), (29, .aload_n 0, 1, 0, [0], [], false), (30, .getfield 11, 3, 0, [5, 0, 2, 22, 1], [], false), (33, .iload_n 1, 1, 0, [1], [], false), (34, .aaload, 1, 0, [], [], false), (35, .iload_n 3, 1, 0, [3], [], false), (36, .putfield 39, 3, 0, [9, 3, 0], [], false), (39, .aload_n 0, 1, 0, [0], [], false), (40, .getfield 11, 3, 0, [5, 0, 2, 22, 1], [], false), (43, .iload_n 1, 1, 0, [1], [], false), (44, .aaload, 1, 0, [], [], false), (45, .iload 4, 2, 0, [4], [], false), (47, .putfield 42, 3, 0, [9, 4, 0], [], false), (50, .return_, 1, 0, [], [], false)]
def ix_bringIn_y : MethodName := ⟨"SpanLayers$Index", "bringIn", "(IIII)V"⟩
theorem ix_bringIn_tb : sl_tbOK sl_R5 prog_7_method_5_code 5 none lk_ix [(27, 1)] ix_bringIn_cd = true := by decide +kernel
theorem cs_ix_27 (g : sl_G) {hh : Nat} (h : 1 ≤ hh) : sl_CallS g sl_R5 27 1 0 hh 2 sx_isBelow_pt := sl_callN (host := "SpanLayers") (y := sx_isBelow_y) (sx_isBelow_snd g) h (by decide) (List.mem_of_getElem? (i := 9) rfl) sx_isBelow_w2 sx_isBelow_w4 sx_isBelow_w5 sx_isBelow_w6
def ix_bringIn_ct : List sl_Ct := [(2, 1, 0, sx_isBelow_pt)]
theorem ix_bringIn_hc (g : sl_G) : sl_HC g sl_R5 1 ix_bringIn_ct [(27, 1)] := sl_HC_cons (cs_ix_27 g (by decide)) (sl_HC_nil g sl_R5 1)
set_option maxRecDepth 20000 in
set_option maxHeartbeats 2000000 in
theorem ix_bringIn_snd (g : sl_G) : sl_Snd g ix_bringIn_y prog_7_method_5_code 5 none 1 (ix_bringIn_pt) := by
  intro As μ Q hw h
  unfold ix_bringIn_pt at h
  split at h
  next c0 a0 a1 a2 a3 a4 =>
    split at h
    next e_ =>
      subst e_
      split at h
      next e_ =>
        subst e_
        refine sl_mk2 g [true, true, true, true, true] (cst := [some (.inr (.inr (some (5, 1)))), some (.inl a1), some (.inl a2), some (.inl a3), some (.inl a4)]) (lv0 := [none, none, none, none, none]) (by decide) rfl hw rfl rfl rfl lk_ix_ok (ix_bringIn_hc g) ix_bringIn_tb rfl ?_
        intro X M
        exact ⟨_, sl_VV0, h⟩
      next => exact h.elim
    next => exact h.elim
  next => exact h.elim
def sp_length (a0 : Nat) (μ : sl_M) (Q : Int32 → sl_M → Prop) : Prop := Q (((μ a0 3) - (μ a0 2)) + (1 : Int32)) μ
def sp_length_pt : sl_PT := fun As μ Q => match As with
  | [.inr (.inr (some (c0, a0)))] => if c0 = 9 then (sp_length a0 μ (fun r μ' => Q (some (.inl r)) μ')) else False
  | _ => False
def sp_length_cd : List sl_Ent := [(0, .aload_n 0, 1, 0, [0], [], false), (1, .getfield 22, 3, 0, [9, 3, 0, 0, 0], [], false), (4, .aload_n 0, 1, 0, [0], [], false), (5, .getfield 19, 3, 0, [9, 2, 0, 0, 0], [], false), (8, .isub, 1, 0, [], [], false), (9, .iconst 1, 1, 1, [], [], false), (10, .iadd, 1, 0, [], [], false), (11, .ireturn, 1, 0, [], [], false)]
def sp_length_y : MethodName := ⟨"SpanLayers$Span", "length", "()I"⟩
theorem sp_length_tb : sl_tbOK sl_R9 prog_11_method_3_code 1 (some .int) lk_sp [] sp_length_cd = true := by decide +kernel
def sp_length_ct : List sl_Ct := []
theorem sp_length_hc (g : sl_G) : sl_HC g sl_R9 0 sp_length_ct [] := sl_HC_nil g sl_R9 0
set_option maxRecDepth 20000 in
set_option maxHeartbeats 2000000 in
theorem sp_length_snd (g : sl_G) : sl_Snd g sp_length_y prog_11_method_3_code 1 (some .int) 0 (sp_length_pt) := by
  intro As μ Q hw h
  unfold sp_length_pt at h
  split at h
  next c0 a0 =>
    split at h
    next e_ =>
      subst e_
      refine sl_mk2 g [true] (cst := [some (.inr (.inr (some (9, a0))))]) (lv0 := [none]) (by decide) rfl hw rfl rfl rfl lk_sp_ok (sp_length_hc g) sp_length_tb rfl ?_
      intro X M
      exact ⟨_, sl_VV0, h⟩
    next => exact h.elim
  next => exact h.elim
def sp_gapByFirst (a0 : Nat) (a1 : Nat) (a2 : Int32) (μ : sl_M) (Q : Int32 → sl_M → Prop) : Prop := (a2 = (0 : Int32) → Q ((μ a0 2) - (μ a1 2)) μ) ∧ (¬ a2 = (0 : Int32) → (a2 = (1 : Int32) → Q ((μ a1 3) - (μ a0 3)) μ) ∧ (¬ a2 = (1 : Int32) → (a2 = (2 : Int32) → sp_length a1 μ (fun r2 m1 => sp_length a0 m1 (fun r4 m3 => Q (r2 - r4) m3))) ∧ (¬ a2 = (2 : Int32) → (a2 = (3 : Int32) → Q ((μ a1 4) - (μ a0 4)) μ) ∧ (¬ a2 = (3 : Int32) → Q ((μ a0 5) - (μ a1 5)) μ))))
def sp_gapByFirst_pt : sl_PT := fun As μ Q => match As with
  | [.inr (.inr (some (c0, a0))), .inr (.inr (some (c1, a1))), .inl a2] => if c0 = 9 then (if c1 = 9 then (sp_gapByFirst a0 a1 a2 μ (fun r μ' => Q (some (.inl r)) μ')) else False) else False
  | _ => False
def sp_gapByFirst_cd : List sl_Ent := [(0, .iload_n 2, 1, 0, [2], [], false), (1, .tableswitch 71 0 3 #[31, 41, 51, 61], 31, 0, [72], [(0, 32), (1, 42), (2, 52), (3, 62)], false), (32, .aload_n 0, 1, 0, [0], [], false), (33, .getfield 19, 3, 0, [9, 2, 0, 0, 0], [], false), (36, .aload_n 1, 1, 0, [1], [], false), (37, .getfield 19, 3, 0, [9, 2, 0, 0, 0], [], false), (40, .isub, 1, 0, [], [], false), (41, .ireturn, 1, 0, [], [], false), (42, .aload_n 1, 1, 0, [1], [], false), (43, .getfield 22, 3, 0, [9, 3, 0, 0, 0], [], false), (46, .aload_n 0, 1, 0, [0], [], false), (47, .getfield 22, 3, 0, [9, 3, 0, 0, 0], [], false), (50, .isub, 1, 0, [], [], false), (51, .ireturn, 1, 0, [], [], false), (52, .aload_n 1, 1, 0, [1], [], false), (53, .invokevirtual 31, 3, 0, [0], [], false), (56, .aload_n 0, 1, 0, [0], [], false), (57, .invokevirtual 31, 3, 0, [0], [], false), (60, .isub, 1, 0, [], [], false), (61, .ireturn, 1, 0, [], [], false), (62, .aload_n 1, 1, 0, [1], [], false), (63, .getfield 25, 3, 0, [9, 4, 0, 0, 0], [], false), (66, .aload_n 0, 1, 0, [0], [], false), (67, .getfield 25, 3, 0, [9, 4, 0, 0, 0], [], false), (70, .isub, 1, 0, [], [], false), (71, .ireturn, 1, 0, [], [], false), (72, .aload_n 0, 1, 0, [0], [], false), (73, .getfield 28, 3, 0, [9, 5, 0, 0, 0], [], false), (76, .aload_n 1, 1, 0, [1], [], false), (77, .getfield 28, 3, 0, [9, 5, 0, 0, 0], [], false), (80, .isub, 1, 0, [], [], false), (81, .ireturn, 1, 0, [], [], false)]
def sp_gapByFirst_y : MethodName := ⟨"SpanLayers$Span", "gapByFirst", "(LSpanLayers$Span;I)I"⟩
theorem sp_gapByFirst_tb : sl_tbOK sl_R9 prog_11_method_9_code 3 (some .int) lk_sp [(31, 0)] sp_gapByFirst_cd = true := by decide +kernel
theorem sp_length_w2 : Cond.instanceMethod sp_length_y ∈ sl_T0 := sl_in1 435 (by decide +kernel) rfl
theorem sp_length_w3 : Cond.selects sp_length_y.cls sp_length_y sp_length_y ∈ sl_T0 := sl_in1 436 (by decide +kernel) rfl
theorem sp_length_w4 : Cond.initialized sp_length_y.cls ∈ sl_T0 := sl_in1 88 (by decide +kernel) rfl
theorem sp_length_w5 : Cond.code sp_length_y prog_11_method_3_code 1 (some .int) ∈ sl_T0 := sl_in1 437 (by decide +kernel) rfl
theorem sp_length_w6 : sp_length_y.cls ≠ "java/lang/invoke/MethodHandle" ∧ sp_length_y.cls ≠ "java/lang/invoke/VarHandle" ∧ (parseMethodDescriptor sp_length_y.desc).map (fun d => d.parameters.length) = some 0 := by decide +kernel
theorem cs_sp_31 (g : sl_G) {hh : Nat} (h : 1 ≤ hh) : sl_CallS g sl_R9 31 0 9 hh 1 sp_length_pt := sl_callV (y := sp_length_y) (T := sl_F9) (N := 6) (sp_length_snd g) h (by decide) (sl_in1 434 (by decide +kernel) rfl) sp_length_w2 sp_length_w3 sp_length_w4 sp_length_w5 sp_length_w6 rfl (by decide)
def sp_gapByFirst_ct : List sl_Ct := [(1, 0, 9, sp_length_pt)]
theorem sp_gapByFirst_hc (g : sl_G) : sl_HC g sl_R9 1 sp_gapByFirst_ct [(31, 0)] := sl_HC_cons (cs_sp_31 g (by decide)) (sl_HC_nil g sl_R9 1)
set_option maxRecDepth 20000 in
set_option maxHeartbeats 2000000 in
theorem sp_gapByFirst_snd (g : sl_G) : sl_Snd g sp_gapByFirst_y prog_11_method_9_code 3 (some .int) 1 (sp_gapByFirst_pt) := by
  intro As μ Q hw h
  unfold sp_gapByFirst_pt at h
  split at h
  next c0 a0 c1 a1 a2 =>
    split at h
    next e_ =>
      subst e_
      split at h
      next e_ =>
        subst e_
        refine sl_mk2 g [true, true, true] (cst := [some (.inr (.inr (some (9, a0)))), some (.inr (.inr (some (9, a1)))), some (.inl a2)]) (lv0 := [none, none, none]) (by decide) rfl hw rfl rfl rfl lk_sp_ok (sp_gapByFirst_hc g) sp_gapByFirst_tb rfl ?_
        intro X M
        exact ⟨_, sl_VV0, h⟩
      next => exact h.elim
    next => exact h.elim
  next => exact h.elim
def sp_gapBySecond (a0 : Nat) (a1 : Nat) (a2 : Int32) (μ : sl_M) (Q : Int32 → sl_M → Prop) : Prop := (a2 = (0 : Int32) → Q ((μ a0 3) - (μ a1 3)) μ) ∧ (¬ a2 = (0 : Int32) → (a2 = (3 : Int32) → sp_length a1 μ (fun r2 m1 => sp_length a0 m1 (fun r4 m3 => Q (r2 - r4) m3))) ∧ (¬ a2 = (3 : Int32) → Q ((μ a0 2) - (μ a1 2)) μ))
def sp_gapBySecond_pt : sl_PT := fun As μ Q => match As with
  | [.inr (.inr (some (c0, a0))), .inr (.inr (some (c1, a1))), .inl a2] => if c0 = 9 then (if c1 = 9 then (sp_gapBySecond a0 a1 a2 μ (fun r μ' => Q (some (.inl r)) μ')) else False) else False
  | _ => False
def sp_gapBySecond_cd : List sl_Ent := [(0, .iload_n 2, 1, 0, [2], [], false), (1, .lookupswitch 47 #[(0, 27), (3, 37)], 27, 0, [48], [(0, 28), (3, 38)], false), (28, .aload_n 0, 1, 0, [0], [], false), (29, .getfield 22, 3, 0, [9, 3, 0, 0, 0], [], false), (32, .aload_n 1, 1, 0, [1], [], false), (33, .getfield 22, 3, 0, [9, 3, 0, 0, 0], [], false), (36, .isub, 1, 0, [], [], false), (37, .ireturn, 1, 0, [], [], false), (38, .aload_n 1, 1, 0, [1], [], false), (39, .invokevirtual 31, 3, 0, [0], [], false), (42, .aload_n 0, 1, 0, [0], [], false), (43, .invokevirtual 31, 3, 0, [0], [], false), (46, .isub, 1, 0, [], [], false), (47, .ireturn, 1, 0, [], [], false), (48, .aload_n 0, 1, 0, [0], [], false), (49, .getfield 19, 3, 0, [9, 2, 0, 0, 0], [], false), (52, .aload_n 1, 1, 0, [1], [], false), (53, .getfield 19, 3, 0, [9, 2, 0, 0, 0], [], false), (56, .isub, 1, 0, [], [], false), (57, .ireturn, 1, 0, [], [], false)]
def sp_gapBySecond_y : MethodName := ⟨"SpanLayers$Span", "gapBySecond", "(LSpanLayers$Span;I)I"⟩
theorem sp_gapBySecond_tb : sl_tbOK sl_R9 prog_11_method_10_code 3 (some .int) lk_sp [(31, 0)] sp_gapBySecond_cd = true := by decide +kernel
def sp_gapBySecond_ct : List sl_Ct := [(1, 0, 9, sp_length_pt)]
theorem sp_gapBySecond_hc (g : sl_G) : sl_HC g sl_R9 1 sp_gapBySecond_ct [(31, 0)] := sl_HC_cons (cs_sp_31 g (by decide)) (sl_HC_nil g sl_R9 1)
set_option maxRecDepth 20000 in
set_option maxHeartbeats 2000000 in
theorem sp_gapBySecond_snd (g : sl_G) : sl_Snd g sp_gapBySecond_y prog_11_method_10_code 3 (some .int) 1 (sp_gapBySecond_pt) := by
  intro As μ Q hw h
  unfold sp_gapBySecond_pt at h
  split at h
  next c0 a0 c1 a1 a2 =>
    split at h
    next e_ =>
      subst e_
      split at h
      next e_ =>
        subst e_
        refine sl_mk2 g [true, true, true] (cst := [some (.inr (.inr (some (9, a0)))), some (.inr (.inr (some (9, a1)))), some (.inl a2)]) (lv0 := [none, none, none]) (by decide) rfl hw rfl rfl rfl lk_sp_ok (sp_gapBySecond_hc g) sp_gapBySecond_tb rfl ?_
        intro X M
        exact ⟨_, sl_VV0, h⟩
      next => exact h.elim
    next => exact h.elim
  next => exact h.elim
def sp_isAhead (a0 : Nat) (a1 : Nat) (a2 : Int32) (μ : sl_M) (Q : Int32 → sl_M → Prop) : Prop := sp_gapByFirst a0 a1 a2 μ (fun r2 m1 => (r2 = (0 : Int32) → sp_gapBySecond a0 a1 a2 m1 (fun r4 m3 => (r4 = (0 : Int32) → ((m3 a0 0) < (m3 a1 0) → sl_bz (1 : Int32) = (1 : Int32) ∧ Q (1 : Int32) m3) ∧ (¬ (m3 a0 0) < (m3 a1 0) → sl_bz (0 : Int32) = (0 : Int32) ∧ Q (0 : Int32) m3)) ∧ (¬ r4 = (0 : Int32) → (r4 < (0 : Int32) → sl_bz (1 : Int32) = (1 : Int32) ∧ Q (1 : Int32) m3) ∧ (¬ r4 < (0 : Int32) → sl_bz (0 : Int32) = (0 : Int32) ∧ Q (0 : Int32) m3)))) ∧ (¬ r2 = (0 : Int32) → (r2 < (0 : Int32) → sl_bz (1 : Int32) = (1 : Int32) ∧ Q (1 : Int32) m1) ∧ (¬ r2 < (0 : Int32) → sl_bz (0 : Int32) = (0 : Int32) ∧ Q (0 : Int32) m1)))
def sp_isAhead_pt : sl_PT := fun As μ Q => match As with
  | [.inr (.inr (some (c0, a0))), .inr (.inr (some (c1, a1))), .inl a2] => if c0 = 9 then (if c1 = 9 then (sp_isAhead a0 a1 a2 μ (fun r μ' => Q (some (.inl r)) μ')) else False) else False
  | _ => False
def sp_isAhead_cd : List sl_Ent := [(0, .aload_n 0, 1, 0, [0], [], false), (1, .aload_n 1, 1, 0, [1], [], false), (2, .iload_n 2, 1, 0, [2], [], false), (3, .invokevirtual 39, 3, 0, [0], [], false), (6, .istore_n 3, 1, 0, [3], [], false), (7, .iload_n 3, 1, 0, [3], [], false), (8, .ifCond .eq 13, 3, 0, [21], [], false), (11, .iload_n 3, 1, 0, [3], [], false), (12, .ifCond .ge 7, 3, 0, [19], [], false), (15, .iconst 1, 1, 1, [], [], false), (16, .goto 4, 3, 0, [20], [], false), (19, .iconst 0, 1, 0, [], [], false), (20, .ireturn, 1, 0, [1], [], false), (21, .aload_n 0, 1, 0, [0], [], false), (22, .aload_n 1, 1, 0, [1], [], false), (23, .iload_n 2, 1, 0, [2], [], false), (24, .invokevirtual 43, 3, 0, [1], [], false), (27, .istore 4, 2, 0, [4], [], false), (29, .iload 4, 2, 0, [4], [], false), (31, .ifCond .eq 14, 3, 0, [45], [], false), (34, .iload 4, 2, 0, [4], [], false), (36, .ifCond .ge 7, 3, 0, [43], [], false), (39, .iconst 1, 1, 1, [], [], false), (40, .goto 4, 3, 0, [44], [], false), (43, .iconst 0, 1, 0, [], [], false), (44, .ireturn, 1, 0, [1], [], false), (45, .aload_n 0, 1, 0, [0], [], false), (46, .getfield 9, 3, 0, [9, 0, 0, 0, 0], [], false), (49, .aload_n 1, 1, 0, [1], [], false), (50, .getfield 9, 3, 0, [9, 0, 0, 0, 0], [], false), (53, .if_icmp .ge 7, 3, 0, [60], [], false), (56, .iconst 1, 1, 1, [], [], false), (57, .goto 4, 3, 0, [61], [], false), (60, .iconst 0, 1, 0, [], [], false), (61, .ireturn, 1, 0, [1], [], false)]
def sp_isAhead_y : MethodName := ⟨"SpanLayers$Span", "isAhead", "(LSpanLayers$Span;I)Z"⟩
theorem sp_isAhead_tb : sl_tbOK sl_R9 prog_11_method_8_code 5 (some .boolean) lk_sp [(39, 0), (43, 0)] sp_isAhead_cd = true := by decide +kernel
theorem sp_gapByFirst_w2 : Cond.instanceMethod sp_gapByFirst_y ∈ sl_T0 := sl_in1 432 (by decide +kernel) rfl
theorem sp_gapByFirst_w3 : Cond.selects sp_gapByFirst_y.cls sp_gapByFirst_y sp_gapByFirst_y ∈ sl_T0 := sl_in1 0 (by decide +kernel) rfl
theorem sp_gapByFirst_w4 : Cond.initialized sp_gapByFirst_y.cls ∈ sl_T0 := sl_in1 88 (by decide +kernel) rfl
theorem sp_gapByFirst_w5 : Cond.code sp_gapByFirst_y prog_11_method_9_code 3 (some .int) ∈ sl_T0 := sl_in1 433 (by decide +kernel) rfl
theorem sp_gapByFirst_w6 : sp_gapByFirst_y.cls ≠ "java/lang/invoke/MethodHandle" ∧ sp_gapByFirst_y.cls ≠ "java/lang/invoke/VarHandle" ∧ (parseMethodDescriptor sp_gapByFirst_y.desc).map (fun d => d.parameters.length) = some 2 := by decide +kernel
theorem cs_sp_39 (g : sl_G) {hh : Nat} (h : 2 ≤ hh) : sl_CallS g sl_R9 39 0 9 hh 3 sp_gapByFirst_pt := sl_callV (y := sp_gapByFirst_y) (T := sl_F9) (N := 6) (sp_gapByFirst_snd g) h (by decide) (sl_in1 430 (by decide +kernel) rfl) sp_gapByFirst_w2 sp_gapByFirst_w3 sp_gapByFirst_w4 sp_gapByFirst_w5 sp_gapByFirst_w6 rfl (by decide)
theorem sp_gapBySecond_w2 : Cond.instanceMethod sp_gapBySecond_y ∈ sl_T0 := sl_in1 440 (by decide +kernel) rfl
theorem sp_gapBySecond_w3 : Cond.selects sp_gapBySecond_y.cls sp_gapBySecond_y sp_gapBySecond_y ∈ sl_T0 := sl_in1 1 (by decide +kernel) rfl
theorem sp_gapBySecond_w4 : Cond.initialized sp_gapBySecond_y.cls ∈ sl_T0 := sl_in1 88 (by decide +kernel) rfl
theorem sp_gapBySecond_w5 : Cond.code sp_gapBySecond_y prog_11_method_10_code 3 (some .int) ∈ sl_T0 := sl_in1 441 (by decide +kernel) rfl
theorem sp_gapBySecond_w6 : sp_gapBySecond_y.cls ≠ "java/lang/invoke/MethodHandle" ∧ sp_gapBySecond_y.cls ≠ "java/lang/invoke/VarHandle" ∧ (parseMethodDescriptor sp_gapBySecond_y.desc).map (fun d => d.parameters.length) = some 2 := by decide +kernel
theorem cs_sp_43 (g : sl_G) {hh : Nat} (h : 2 ≤ hh) : sl_CallS g sl_R9 43 0 9 hh 3 sp_gapBySecond_pt := sl_callV (y := sp_gapBySecond_y) (T := sl_F9) (N := 6) (sp_gapBySecond_snd g) h (by decide) (sl_in1 438 (by decide +kernel) rfl) sp_gapBySecond_w2 sp_gapBySecond_w3 sp_gapBySecond_w4 sp_gapBySecond_w5 sp_gapBySecond_w6 rfl (by decide)
def sp_isAhead_ct : List sl_Ct := [(3, 0, 9, sp_gapByFirst_pt), (3, 0, 9, sp_gapBySecond_pt)]
theorem sp_isAhead_hc (g : sl_G) : sl_HC g sl_R9 2 sp_isAhead_ct [(39, 0), (43, 0)] := sl_HC_cons (cs_sp_39 g (by decide)) (sl_HC_cons (cs_sp_43 g (by decide)) (sl_HC_nil g sl_R9 2))
set_option maxRecDepth 20000 in
set_option maxHeartbeats 2000000 in
theorem sp_isAhead_snd (g : sl_G) : sl_Snd g sp_isAhead_y prog_11_method_8_code 5 (some .boolean) 2 (sp_isAhead_pt) := by
  intro As μ Q hw h
  unfold sp_isAhead_pt at h
  split at h
  next c0 a0 c1 a1 a2 =>
    split at h
    next e_ =>
      subst e_
      split at h
      next e_ =>
        subst e_
        refine sl_mk2 g [true, true, true, false, false] (cst := [some (.inr (.inr (some (9, a0)))), some (.inr (.inr (some (9, a1)))), some (.inl a2)]) (lv0 := [none, none, none, none, none]) (by decide) rfl hw rfl rfl rfl lk_sp_ok (sp_isAhead_hc g) sp_isAhead_tb rfl ?_
        intro X M
        exact ⟨_, sl_VV0, h⟩
      next => exact h.elim
    next => exact h.elim
  next => exact h.elim
def ix_sortBy_L25 (a1 : Int32) (Q : Int32 → sl_M → Prop) (k4 : Int32 → Int32 → sl_M → Prop) : Nat → Int32 → Int32 → Int32 → sl_M → Prop
  | 0, _, _, _, _ => False
  | n + 1, x2, x3, x4, μ => (x4 ≤ (0 : Int32) → vp_in x3 30 ∧ vp_in x4 30 ∧ ∀ m2, m2 = sl_up μ 3 x4.toNatClampNeg (nI (4 + x3.toNatClampNeg)) → k4 (x2 + (1 : Int32)) (x3 + (1 : Int32)) m2) ∧ (¬ x4 ≤ (0 : Int32) → vp_in x3 30 ∧ vp_in (x4 - (1 : Int32)) 30 ∧ sl_kd (μ 3 (x4 - (1 : Int32)).toNatClampNeg).toNatClampNeg = 9 ∧ sp_isAhead (4 + x3.toNatClampNeg) ((μ 3 (x4 - (1 : Int32)).toNatClampNeg).toNatClampNeg) a1 μ (fun r4 m3 => (r4 = (0 : Int32) → vp_in x3 30 ∧ vp_in x4 30 ∧ ∀ m5, m5 = sl_up m3 3 x4.toNatClampNeg (nI (4 + x3.toNatClampNeg)) → k4 (x2 + (1 : Int32)) (x3 + (1 : Int32)) m5) ∧ (¬ r4 = (0 : Int32) → vp_in (x4 - (1 : Int32)) 30 ∧ sl_kd (m3 3 (x4 - (1 : Int32)).toNatClampNeg).toNatClampNeg = 9 ∧ vp_in x4 30 ∧ ∀ m6, m6 = sl_up m3 3 x4.toNatClampNeg (nI ((m3 3 (x4 - (1 : Int32)).toNatClampNeg).toNatClampNeg)) → (ix_sortBy_L25 a1 Q k4 n) x2 x3 (x4 + (-1 : Int32)) m6)))
def ix_sortBy_L4 (a1 : Int32) (Q : Int32 → sl_M → Prop) : Nat → Int32 → Int32 → sl_M → Prop
  | 0, _, _, _ => False
  | n + 1, x2, x3, μ => (x3 < (30 : Int32) → vp_in x3 30 ∧ ((sl_bz (μ (4 + x3.toNatClampNeg) 1)) = (0 : Int32) → (ix_sortBy_L4 a1 Q n) x2 (x3 + (1 : Int32)) μ) ∧ (¬ (sl_bz (μ (4 + x3.toNatClampNeg) 1)) = (0 : Int32) → ∃ n1, ix_sortBy_L25 a1 Q (ix_sortBy_L4 a1 Q n) n1 x2 x3 x2 μ)) ∧ (¬ x3 < (30 : Int32) → Q x2 μ)
def ix_sortBy (a1 : Int32) (μ : sl_M) (Q : Int32 → sl_M → Prop) : Prop := ∃ n7, ix_sortBy_L4 a1 Q n7 (0 : Int32) (0 : Int32) μ
def ix_sortBy_pt : sl_PT := fun As μ Q => match As with
  | [.inr (.inr (some (c0, a0))), .inl a1] => if c0 = 5 then (if a0 = 1 then (ix_sortBy a1 μ (fun r μ' => Q (some (.inl r)) μ')) else False) else False
  | _ => False
def ix_sortBy_cd : List sl_Ent := [(0, .iconst 0, 1, 0, [], [], false), (1, .istore_n 2, 1, 0, [2], [], false), (2, .iconst 0, 1, 0, [], [], false), (3, .istore_n 3, 1, 0, [3], [], false), (4, .iload_n 3, 1, 0, [3], [], true), (5, .bipush 30, 2, 30, [], [], false), (7, .if_icmp .ge 89, 3, 0, [96], [], false), (10, .aload_n 0, 1, 0, [0], [], false), (11, .getfield 11, 3, 0, [5, 0, 2, 22, 1], [], false), (14, .iload_n 3, 1, 0, [3], [], false), (15, .aaload, 1, 0, [], [], false), (16, .getfield 31, 3, 0, [9, 1, 1, 0, 0], [], false), (19, .ifCond .eq 71, 3, 0, [90], [], false), (22, .iload_n 2, 1, 0, [2], [], false), (23, .istore 4, 2, 0, [4], [], false), (25, .iload 4, 2, 0, [4], [], true), (27, .ifCond .le 47, 3, 0, [74], [], false), (30, .aload_n 0, 1, 0, [0], [], false), (31, .getfield 11, 3, 0, [5, 0, 2, 22, 1], [], false), (34, .iload_n 3, 1, 0, [3], [], false), (35, .aaload, 1, 0, [], [], false), (36, .aload_n 0, 1, 0, [0], [], false), (37, .getfield 17, 3, 0, [5, 1, 2, 23, 2], [], false), (40, .iload 4, 2, 0, [4], [], false), (42, .iconst 1, 1, 1, [], [], false), (43, .isub, 1, 0, [], [], false), (44, .aaload, 1, 0, [], [], false), (45, .iload_n 1, 1, 0, [1], [], false), (46, .invokevirtual 68, 3, 0, [0], [], false), (49, .ifCond .eq 25, 3, 0, [74], [], false), (52, .aload_n 0, 1, 0, [0], [], false), (53, .getfield 17, 3, 0, [5, 1, 2, 23, 2], [], false), (56, .iload 4, 2, 0, [4], [], false), (58, .aload_n 0, 1, 0, [0], [], false), (59, .getfield 17, 3, 0, [5, 1, 2, 23, 2], [], false), (62, .iload 4, 2, 0, [4], [], false), (64, .iconst 1, 1, 1, [], [], false), (65, .isub, 1, 0, [], [], false), (66, .aaload, 1, 0, [], [], false), (67, .aastore, 1, 0, [], [], false), (68, .iinc 4 (-1), 3, (-1), [], [], false), (71, .goto (-46), 3, 0, [25], [], false), (74, .aload_n 0, 1, 0, [0], [], false), (75, .getfield 17, 3, 0, [5, 1, 2, 23, 2], [], false), (78, .iload 4, 2, 0, [4], [], false), (80, .aload_n 0, 1, 0, [0], [], false), (81, .getfield 11, 3, 0, [5, 0, 2, 22, 1], [], false), (84, .iload_n 3, 1, 0, [3], [], false), (85, .aaload, 1, 0, [], [], false), (86, .aastore, 1, 0, [], [], false), (87, .iinc 2 1, 3, 1, [], [], false), (90, .iinc 3 1, 3, 1, [], [], false), (93, .goto (-89), 3, 0, [4], [], false), (96, .iload_n 2, 1, 0, [2], [], false), (97, .ireturn, 1, 0, [], [], false)]
def ix_sortBy_y : MethodName := ⟨"SpanLayers$Index", "sortBy", "(I)I"⟩
theorem ix_sortBy_tb : sl_tbOK sl_R5 prog_7_method_8_code 5 (some .int) lk_ix [(68, 0)] ix_sortBy_cd = true := by decide +kernel
theorem sp_isAhead_w2 : Cond.instanceMethod sp_isAhead_y ∈ sl_T0 := sl_in1 427 (by decide +kernel) rfl
theorem sp_isAhead_w3 : Cond.selects sp_isAhead_y.cls sp_isAhead_y sp_isAhead_y ∈ sl_T0 := sl_in1 428 (by decide +kernel) rfl
theorem sp_isAhead_w4 : Cond.initialized sp_isAhead_y.cls ∈ sl_T0 := sl_in1 88 (by decide +kernel) rfl
theorem sp_isAhead_w5 : Cond.code sp_isAhead_y prog_11_method_8_code 5 (some .boolean) ∈ sl_T0 := sl_in1 429 (by decide +kernel) rfl
theorem sp_isAhead_w6 : sp_isAhead_y.cls ≠ "java/lang/invoke/MethodHandle" ∧ sp_isAhead_y.cls ≠ "java/lang/invoke/VarHandle" ∧ (parseMethodDescriptor sp_isAhead_y.desc).map (fun d => d.parameters.length) = some 2 := by decide +kernel
theorem cs_ix_68 (g : sl_G) {hh : Nat} (h : 3 ≤ hh) : sl_CallS g sl_R5 68 0 9 hh 3 sp_isAhead_pt := sl_callV (y := sp_isAhead_y) (T := sl_F9) (N := 6) (sp_isAhead_snd g) h (by decide) (sl_in1 426 (by decide +kernel) rfl) sp_isAhead_w2 sp_isAhead_w3 sp_isAhead_w4 sp_isAhead_w5 sp_isAhead_w6 rfl (by decide)
def ix_sortBy_ct : List sl_Ct := [(3, 0, 9, sp_isAhead_pt)]
theorem ix_sortBy_hc (g : sl_G) : sl_HC g sl_R5 3 ix_sortBy_ct [(68, 0)] := sl_HC_cons (cs_ix_68 g (by decide)) (sl_HC_nil g sl_R5 3)
set_option maxRecDepth 20000 in
set_option maxHeartbeats 2000000 in
theorem ix_sortBy_snd (g : sl_G) : sl_Snd g ix_sortBy_y prog_7_method_8_code 5 (some .int) 3 (ix_sortBy_pt) := by
  intro As μ Q hw h
  unfold ix_sortBy_pt at h
  split at h
  next c0 a0 a1 =>
    split at h
    next e_ =>
      subst e_
      split at h
      next e_ =>
        subst e_
        refine sl_mk2 g [true, true, false, false, false] (cst := [some (.inr (.inr (some (5, 1)))), some (.inl a1)]) (lv0 := [none, none, none, none, none]) (by decide) rfl hw rfl rfl rfl lk_ix_ok (ix_sortBy_hc g) ix_sortBy_tb rfl ?_
        intro X M
        have v4 := sl_extL M sl_VV0 4 (fun n lv st μ => match lv, st with | [_, _, some (.inl x2), some (.inl x3), _], [] => ix_sortBy_L4 a1 (fun r μ' => Q (some (.inl r)) μ') n x2 x3 μ | _, _ => False) (by
            intro lv st μ h
            split at h
            · exact h
            · exact h) (by
            intro n4 w4
            have v25 := sl_extL M w4 25 (fun n lv st μ => match lv, st with | [_, _, some (.inl x2), some (.inl x3), some (.inl x4)], [] => ix_sortBy_L25 a1 (fun r μ' => Q (some (.inl r)) μ') (ix_sortBy_L4 a1 (fun r μ' => Q (some (.inl r)) μ') n4) n x2 x3 x4 μ | _, _ => False) (by
                intro lv st μ h
                split at h
                · exact h
                · exact h) (by
                intro n25 w25
                refine ⟨_, w25, ?_⟩
                intro lv st μ h
                split at h
                · exact h
                · exact h.elim)
            refine ⟨_, v25, ?_⟩
            intro lv st μ h
            split at h
            · exact h
            · exact h.elim)
        exact ⟨_, v4, h⟩
      next => exact h.elim
    next => exact h.elim
  next => exact h.elim
def sp_covers (a0 : Nat) (a1 : Nat) (μ : sl_M) (Q : Int32 → sl_M → Prop) : Prop := ((μ a0 2) ≤ (μ a1 2) → ((μ a0 3) < (μ a1 3) → sl_bz (0 : Int32) = (0 : Int32) ∧ Q (0 : Int32) μ) ∧ (¬ (μ a0 3) < (μ a1 3) → sp_length a0 μ (fun r2 m1 => sp_length a1 m1 (fun r4 m3 => (r2 ≤ r4 → ((m3 a0 0) < (m3 a1 0) → sl_bz (1 : Int32) = (1 : Int32) ∧ Q (1 : Int32) m3) ∧ (¬ (m3 a0 0) < (m3 a1 0) → sl_bz (0 : Int32) = (0 : Int32) ∧ Q (0 : Int32) m3)) ∧ (¬ r2 ≤ r4 → sl_bz (1 : Int32) = (1 : Int32) ∧ Q (1 : Int32) m3))))) ∧ (¬ (μ a0 2) ≤ (μ a1 2) → sl_bz (0 : Int32) = (0 : Int32) ∧ Q (0 : Int32) μ)
def sp_covers_pt : sl_PT := fun As μ Q => match As with
  | [.inr (.inr (some (c0, a0))), .inr (.inr (some (c1, a1)))] => if c0 = 9 then (if c1 = 9 then (sp_covers a0 a1 μ (fun r μ' => Q (some (.inl r)) μ')) else False) else False
  | _ => False
def sp_covers_cd : List sl_Ent := [(0, .aload_n 0, 1, 0, [0], [], false), (1, .getfield 19, 3, 0, [9, 2, 0, 0, 0], [], false), (4, .aload_n 1, 1, 0, [1], [], false), (5, .getfield 19, 3, 0, [9, 2, 0, 0, 0], [], false), (8, .if_icmp .gt 14, 3, 0, [22], [], false), (11, .aload_n 0, 1, 0, [0], [], false), (12, .getfield 22, 3, 0, [9, 3, 0, 0, 0], [], false), (15, .aload_n 1, 1, 0, [1], [], false), (16, .getfield 22, 3, 0, [9, 3, 0, 0, 0], [], false), (19, .if_icmp .ge 5, 3, 0, [24], [], false), (22, .iconst 0, 1, 0, [], [], false), (23, .ireturn, 1, 0, [1], [], false), (24, .aload_n 0, 1, 0, [0], [], false), (25, .invokevirtual 31, 3, 0, [0], [], false), (28, .aload_n 1, 1, 0, [1], [], false), (29, .invokevirtual 31, 3, 0, [0], [], false), (32, .if_icmp .gt 14, 3, 0, [46], [], false), (35, .aload_n 0, 1, 0, [0], [], false), (36, .getfield 9, 3, 0, [9, 0, 0, 0, 0], [], false), (39, .aload_n 1, 1, 0, [1], [], false), (40, .getfield 9, 3, 0, [9, 0, 0, 0, 0], [], false), (43, .if_icmp .ge 7, 3, 0, [50], [], false), (46, .iconst 1, 1, 1, [], [], false), (47, .goto 4, 3, 0, [51], [], false), (50, .iconst 0, 1, 0, [], [], false), (51, .ireturn, 1, 0, [1], [], false)]
def sp_covers_y : MethodName := ⟨"SpanLayers$Span", "covers", "(LSpanLayers$Span;)Z"⟩
theorem sp_covers_tb : sl_tbOK sl_R9 prog_11_method_5_code 2 (some .boolean) lk_sp [(31, 0)] sp_covers_cd = true := by decide +kernel
def sp_covers_ct : List sl_Ct := [(1, 0, 9, sp_length_pt)]
theorem sp_covers_hc (g : sl_G) : sl_HC g sl_R9 1 sp_covers_ct [(31, 0)] := sl_HC_cons (cs_sp_31 g (by decide)) (sl_HC_nil g sl_R9 1)
set_option maxRecDepth 20000 in
set_option maxHeartbeats 2000000 in
theorem sp_covers_snd (g : sl_G) : sl_Snd g sp_covers_y prog_11_method_5_code 2 (some .boolean) 1 (sp_covers_pt) := by
  intro As μ Q hw h
  unfold sp_covers_pt at h
  split at h
  next c0 a0 c1 a1 =>
    split at h
    next e_ =>
      subst e_
      split at h
      next e_ =>
        subst e_
        refine sl_mk2 g [true, true] (cst := [some (.inr (.inr (some (9, a0)))), some (.inr (.inr (some (9, a1))))]) (lv0 := [none, none]) (by decide) rfl hw rfl rfl rfl lk_sp_ok (sp_covers_hc g) sp_covers_tb rfl ?_
        intro X M
        exact ⟨_, sl_VV0, h⟩
      next => exact h.elim
    next => exact h.elim
  next => exact h.elim
def ix_relayer_L18 (Q : sl_M → Prop) (k8 : Int32 → Int32 → sl_M → Prop) : Nat → Int32 → Int32 → Int32 → Int32 → sl_M → Prop
  | 0, _, _, _, _, _ => False
  | n + 1, x1, x2, x3, x4, μ => (x4 < x2 → vp_in x4 30 ∧ sl_kd (μ 3 x4.toNatClampNeg).toNatClampNeg = 9 ∧ vp_in x2 30 ∧ sl_kd (μ 3 x2.toNatClampNeg).toNatClampNeg = 9 ∧ sp_covers ((μ 3 x4.toNatClampNeg).toNatClampNeg) ((μ 3 x2.toNatClampNeg).toNatClampNeg) μ (fun r3 m2 => (r3 = (0 : Int32) → (ix_relayer_L18 Q k8 n) x1 x2 x3 (x4 + (1 : Int32)) m2) ∧ (¬ r3 = (0 : Int32) → vp_in x4 30 ∧ sl_kd (m2 3 x4.toNatClampNeg).toNatClampNeg = 9 ∧ ma_max x3 ((m2 ((m2 3 x4.toNatClampNeg).toNatClampNeg) 5) + (1 : Int32)) m2 (fun r5 m4 => (ix_relayer_L18 Q k8 n) x1 x2 r5 (x4 + (1 : Int32)) m4)))) ∧ (¬ x4 < x2 → vp_in x2 30 ∧ sl_kd (μ 3 x2.toNatClampNeg).toNatClampNeg = 9 ∧ ∀ m6, m6 = sl_up μ ((μ 3 x2.toNatClampNeg).toNatClampNeg) 5 x3 → k8 x1 (x2 + (1 : Int32)) m6)
def ix_relayer_L8 (Q : sl_M → Prop) : Nat → Int32 → Int32 → sl_M → Prop
  | 0, _, _, _ => False
  | n + 1, x1, x2, μ => (x2 < x1 → ∃ n1, ix_relayer_L18 Q (ix_relayer_L8 Q n) n1 x1 x2 (0 : Int32) (0 : Int32) μ) ∧ (¬ x2 < x1 → Q μ)
def ix_relayer (μ : sl_M) (Q : sl_M → Prop) : Prop := ix_sortBy (2 : Int32) μ (fun r8 m7 => ∃ n9, ix_relayer_L8 Q n9 r8 (0 : Int32) m7)
def ix_relayer_pt : sl_PT := fun As μ Q => match As with
  | [.inr (.inr (some (c0, a0)))] => if c0 = 5 then (if a0 = 1 then (ix_relayer μ (fun μ' => Q none μ')) else False) else False
  | _ => False
def ix_relayer_cd : List sl_Ent := [(0, .aload_n 0, 1, 0, [0], [], false), (1, .iconst 2, 1, 2, [], [], false), (2, .invokevirtual 51, 3, 0, [0], [], false), (5, .istore_n 1, 1, 0, [1], [], false), (6, .iconst 0, 1, 0, [], [], false), (7, .istore_n 2, 1, 0, [2], [], false), (8, .iload_n 2, 1, 0, [2], [], true), (9, .iload_n 1, 1, 0, [1], [], false), (10, .if_icmp .ge 72, 3, 0, [82], [], false), (13, .iconst 0, 1, 0, [], [], false), (14, .istore_n 3, 1, 0, [3], [], false), (15, .iconst 0, 1, 0, [], [], false), (16, .istore 4, 2, 0, [4], [], false), (18, .iload 4, 2, 0, [4], [], true), (20, .iload_n 2, 1, 0, [2], [], false), (21, .if_icmp .ge 45, 3, 0, [66], [], false), (24, .aload_n 0, 1, 0, [0], [], false), (25, .getfield 17, 3, 0, [5, 1, 2, 23, 2], [], false), (28, .iload 4, 2, 0, [4], [], false), (30, .aaload, 1, 0, [], [], false), (31, .aload_n 0, 1, 0, [0], [], false), (32, .getfield 17, 3, 0, [5, 1, 2, 23, 2], [], false), (35, .iload_n 2, 1, 0, [2], [], false), (36, .aaload, 1, 0, [], [], false), (37, .invokevirtual 55, 3, 0, [1], [], false), (40, .ifCond .eq 20, 3, 0, [60], [], false), (43, .iload_n 3, 1, 0, [3], [], false), (44, .aload_n 0, 1, 0, [0], [], false), (45, .getfield 17, 3, 0, [5, 1, 2, 23, 2], [], false), (48, .iload 4, 2, 0, [4], [], false), (50, .aaload, 1, 0, [], [], false), (51, .getfield 59, 3, 0, [9, 5, 0, 0, 0], [], false), (54, .iconst 1, 1, 1, [], [], false), (55, .iadd, 1, 0, [], [], false), (56, .invokestatic 62, 3, 0, [2], [], false), (59, .istore_n 3, 1, 0, [3], [], false), (60, .iinc 4 1, 3, 1, [], [], false), (63, .goto (-45), 3, 0, [18], [], false), (66, .aload_n 0, 1, 0, [0], [], false), (67, .getfield 17, 3, 0, [5, 1, 2, 23, 2], [], false), (70, .iload_n 2, 1, 0, [2], [], false), (71, .aaload, 1, 0, [], [], false), (72, .iload_n 3, 1, 0, [3], [], false), (73, .putfield 59, 3, 0, [9, 5, 0], [], false), (76, .iinc 2 1, 3, 1, [], [], false), (79, .goto (-71), 3, 0, [8], [], false), (82, .return_, 1, 0, [], [], false)]
def ix_relayer_y : MethodName := ⟨"SpanLayers$Index", "relayer", "()V"⟩
theorem ix_relayer_tb : sl_tbOK sl_R5 prog_7_method_7_code 5 none lk_ix [(51, 0), (55, 0), (62, 1)] ix_relayer_cd = true := by decide +kernel
theorem ix_sortBy_w2 : Cond.instanceMethod ix_sortBy_y ∈ sl_T0 := sl_in1 423 (by decide +kernel) rfl
theorem ix_sortBy_w3 : Cond.selects ix_sortBy_y.cls ix_sortBy_y ix_sortBy_y ∈ sl_T0 := sl_in1 424 (by decide +kernel) rfl
theorem ix_sortBy_w4 : Cond.initialized ix_sortBy_y.cls ∈ sl_T0 := sl_in1 87 (by decide +kernel) rfl
theorem ix_sortBy_w5 : Cond.code ix_sortBy_y prog_7_method_8_code 5 (some .int) ∈ sl_T0 := sl_in1 425 (by decide +kernel) rfl
theorem ix_sortBy_w6 : ix_sortBy_y.cls ≠ "java/lang/invoke/MethodHandle" ∧ ix_sortBy_y.cls ≠ "java/lang/invoke/VarHandle" ∧ (parseMethodDescriptor ix_sortBy_y.desc).map (fun d => d.parameters.length) = some 1 := by decide +kernel
theorem cs_ix_51 (g : sl_G) {hh : Nat} (h : 4 ≤ hh) : sl_CallS g sl_R5 51 0 5 hh 2 ix_sortBy_pt := sl_callV (y := ix_sortBy_y) (T := sl_F5) (N := 2) (ix_sortBy_snd g) h (by decide) (sl_in1 422 (by decide +kernel) rfl) ix_sortBy_w2 ix_sortBy_w3 ix_sortBy_w4 ix_sortBy_w5 ix_sortBy_w6 rfl (by decide)
theorem sp_covers_w2 : Cond.instanceMethod sp_covers_y ∈ sl_T0 := sl_in1 443 (by decide +kernel) rfl
theorem sp_covers_w3 : Cond.selects sp_covers_y.cls sp_covers_y sp_covers_y ∈ sl_T0 := sl_in1 444 (by decide +kernel) rfl
theorem sp_covers_w4 : Cond.initialized sp_covers_y.cls ∈ sl_T0 := sl_in1 88 (by decide +kernel) rfl
theorem sp_covers_w5 : Cond.code sp_covers_y prog_11_method_5_code 2 (some .boolean) ∈ sl_T0 := sl_in1 445 (by decide +kernel) rfl
theorem sp_covers_w6 : sp_covers_y.cls ≠ "java/lang/invoke/MethodHandle" ∧ sp_covers_y.cls ≠ "java/lang/invoke/VarHandle" ∧ (parseMethodDescriptor sp_covers_y.desc).map (fun d => d.parameters.length) = some 1 := by decide +kernel
theorem cs_ix_55 (g : sl_G) {hh : Nat} (h : 2 ≤ hh) : sl_CallS g sl_R5 55 0 9 hh 2 sp_covers_pt := sl_callV (y := sp_covers_y) (T := sl_F9) (N := 6) (sp_covers_snd g) h (by decide) (sl_in1 442 (by decide +kernel) rfl) sp_covers_w2 sp_covers_w3 sp_covers_w4 sp_covers_w5 sp_covers_w6 rfl (by decide)
theorem cs_ix_62 (g : sl_G) {hh : Nat} (h : 1 ≤ hh) : sl_CallS g sl_R5 62 1 0 hh 2 ma_max_pt := sl_callMax h (sl_in1 446 (by decide +kernel) rfl) (sl_in1 447 (by decide +kernel) rfl) (sl_in1 99 (by decide +kernel) rfl) (sl_in1 448 (by decide +kernel) rfl)
def ix_relayer_ct : List sl_Ct := [(2, 0, 5, ix_sortBy_pt), (2, 0, 9, sp_covers_pt), (2, 1, 0, ma_max_pt)]
theorem ix_relayer_hc (g : sl_G) : sl_HC g sl_R5 4 ix_relayer_ct [(51, 0), (55, 0), (62, 1)] := sl_HC_cons (cs_ix_51 g (by decide)) (sl_HC_cons (cs_ix_55 g (by decide)) (sl_HC_cons (cs_ix_62 g (by decide)) (sl_HC_nil g sl_R5 4)))
set_option maxRecDepth 20000 in
set_option maxHeartbeats 2000000 in
theorem ix_relayer_snd (g : sl_G) : sl_Snd g ix_relayer_y prog_7_method_7_code 5 none 4 (ix_relayer_pt) := by
  intro As μ Q hw h
  unfold ix_relayer_pt at h
  split at h
  next c0 a0 =>
    split at h
    next e_ =>
      subst e_
      split at h
      next e_ =>
        subst e_
        refine sl_mk2 g [true, false, false, false, false] (cst := [some (.inr (.inr (some (5, 1))))]) (lv0 := [none, none, none, none, none]) (by decide) rfl hw rfl rfl rfl lk_ix_ok (ix_relayer_hc g) ix_relayer_tb rfl ?_
        intro X M
        have v8 := sl_extL M sl_VV0 8 (fun n lv st μ => match lv, st with | [_, some (.inl x1), some (.inl x2), _, _], [] => ix_relayer_L8 (fun μ' => Q none μ') n x1 x2 μ | _, _ => False) (by
            intro lv st μ h
            split at h
            · exact h
            · exact h) (by
            intro n8 w8
            have v18 := sl_extL M w8 18 (fun n lv st μ => match lv, st with | [_, some (.inl x1), some (.inl x2), some (.inl x3), some (.inl x4)], [] => ix_relayer_L18 (fun μ' => Q none μ') (ix_relayer_L8 (fun μ' => Q none μ') n8) n x1 x2 x3 x4 μ | _, _ => False) (by
                intro lv st μ h
                split at h
                · exact h
                · exact h) (by
                intro n18 w18
                refine ⟨_, w18, ?_⟩
                intro lv st μ h
                split at h
                · exact h
                · exact h.elim)
            refine ⟨_, v18, ?_⟩
            intro lv st μ h
            split at h
            · exact h
            · exact h.elim)
        exact ⟨_, v8, h⟩
      next => exact h.elim
    next => exact h.elim
  next => exact h.elim
def ix_isIn (a1 : Int32) (μ : sl_M) (Q : Int32 → sl_M → Prop) : Prop := sx_isBelow a1 (30 : Int32) μ (fun r2 m1 => (r2 = (0 : Int32) → sl_bz (0 : Int32) = (0 : Int32) ∧ Q (0 : Int32) m1) ∧ (¬ r2 = (0 : Int32) → vp_in a1 30 ∧ ((sl_bz (m1 (4 + a1.toNatClampNeg) 1)) = (0 : Int32) → sl_bz (0 : Int32) = (0 : Int32) ∧ Q (0 : Int32) m1) ∧ (¬ (sl_bz (m1 (4 + a1.toNatClampNeg) 1)) = (0 : Int32) → sl_bz (1 : Int32) = (1 : Int32) ∧ Q (1 : Int32) m1)))
def ix_isIn_pt : sl_PT := fun As μ Q => match As with
  | [.inr (.inr (some (c0, a0))), .inl a1] => if c0 = 5 then (if a0 = 1 then (ix_isIn a1 μ (fun r μ' => Q (some (.inl r)) μ')) else False) else False
  | _ => False
def ix_isIn_cd : List sl_Ent := [(0, .iload_n 1, 1, 0, [1], [], false), (1, .bipush 30, 2, 30, [], [], false), (3, .invokestatic 27, 3, 0, [0], [], false), (6, .ifCond .eq 19, 3, 0, [25], [], false), (9, .aload_n 0, 1, 0, [0], [], false), (10, .getfield 11, 3, 0, [5, 0, 2, 22, 1], [], false), (13, .iload_n 1, 1, 0, [1], [], false), (14, .aaload, 1, 0, [], [], false), (15, .getfield 31, 3, 0, [9, 1, 1, 0, 0], [], false), (18, .ifCond .eq 7, 3, 0, [25], [], false), (21, .iconst 1, 1, 1, [], [], false), (22, .goto 4, 3, 0, [26], [], false), (25, .iconst 0, 1, 0, [], [], false), (26, .ireturn, 1, 0, [1], [], false)]
def ix_isIn_y : MethodName := ⟨"SpanLayers$Index", "isIn", "(I)Z"⟩
theorem ix_isIn_tb : sl_tbOK sl_R5 prog_7_method_3_code 2 (some .boolean) lk_ix [(27, 1)] ix_isIn_cd = true := by decide +kernel
def ix_isIn_ct : List sl_Ct := [(2, 1, 0, sx_isBelow_pt)]
theorem ix_isIn_hc (g : sl_G) : sl_HC g sl_R5 1 ix_isIn_ct [(27, 1)] := sl_HC_cons (cs_ix_27 g (by decide)) (sl_HC_nil g sl_R5 1)
set_option maxRecDepth 20000 in
set_option maxHeartbeats 2000000 in
theorem ix_isIn_snd (g : sl_G) : sl_Snd g ix_isIn_y prog_7_method_3_code 2 (some .boolean) 1 (ix_isIn_pt) := by
  intro As μ Q hw h
  unfold ix_isIn_pt at h
  split at h
  next c0 a0 a1 =>
    split at h
    next e_ =>
      subst e_
      split at h
      next e_ =>
        subst e_
        refine sl_mk2 g [true, true] (cst := [some (.inr (.inr (some (5, 1)))), some (.inl a1)]) (lv0 := [none, none]) (by decide) rfl hw rfl rfl rfl lk_ix_ok (ix_isIn_hc g) ix_isIn_tb rfl ?_
        intro X M
        exact ⟨_, sl_VV0, h⟩
      next => exact h.elim
    next => exact h.elim
  next => exact h.elim
def sx_isOfSet (a0 : Int32) (a1 : Int32) (μ : sl_M) (Q : Int32 → sl_M → Prop) : Prop := (((a1 >>> (a0 &&& 31)) &&& (1 : Int32)) = (0 : Int32) → sl_bz (0 : Int32) = (0 : Int32) ∧ Q (0 : Int32) μ) ∧ (¬ ((a1 >>> (a0 &&& 31)) &&& (1 : Int32)) = (0 : Int32) → sl_bz (1 : Int32) = (1 : Int32) ∧ Q (1 : Int32) μ)
def sx_isOfSet_pt : sl_PT := fun As μ Q => match As with
  | [.inl a0, .inl a1] => sx_isOfSet a0 a1 μ (fun r μ' => Q (some (.inl r)) μ')
  | _ => False
def sx_isOfSet_cd : List sl_Ent := [(0, .iload_n 1, 1, 0, [1], [], false), (1, .iload_n 0, 1, 0, [0], [], false), (2, .ishr, 1, 0, [], [], false), (3, .iconst 1, 1, 1, [], [], false), (4, .iand, 1, 0, [], [], false), (5, .ifCond .eq 7, 3, 0, [12], [], false), (8, .iconst 1, 1, 1, [], [], false), (9, .goto 4, 3, 0, [13], [], false), (12, .iconst 0, 1, 0, [], [], false), (13, .ireturn, 1, 0, [1], [], false)]
def sx_isOfSet_y : MethodName := ⟨"SpanLayers", "isOfSet", "(II)Z"⟩
theorem sx_isOfSet_tb : sl_tbOK sl_R11 prog_1_method_49_code 2 (some .boolean) lk_sx [] sx_isOfSet_cd = true := by decide +kernel
def sx_isOfSet_ct : List sl_Ct := []
theorem sx_isOfSet_hc (g : sl_G) : sl_HC g sl_R11 0 sx_isOfSet_ct [] := sl_HC_nil g sl_R11 0
set_option maxRecDepth 20000 in
set_option maxHeartbeats 2000000 in
theorem sx_isOfSet_snd (g : sl_G) : sl_Snd g sx_isOfSet_y prog_1_method_49_code 2 (some .boolean) 0 (sx_isOfSet_pt) := by
  intro As μ Q hw h
  unfold sx_isOfSet_pt at h
  split at h
  next a0 a1 =>
    refine sl_mk2 g [true, true] (cst := [some (.inl a0), some (.inl a1)]) (lv0 := [none, none]) (by decide) rfl hw rfl rfl rfl lk_sx_ok (sx_isOfSet_hc g) sx_isOfSet_tb rfl ?_
    intro X M
    exact ⟨_, sl_VV0, h⟩
  next => exact h.elim
def ix_takeOut_L2 (a1 : Int32) (Q : sl_M → Prop) : Nat → Int32 → sl_M → Prop
  | 0, _, _ => False
  | n + 1, x2, μ => (x2 < (30 : Int32) → sx_isOfSet x2 a1 μ (fun r2 m1 => (r2 = (0 : Int32) → (ix_takeOut_L2 a1 Q n) (x2 + (1 : Int32)) m1) ∧ (¬ r2 = (0 : Int32) → vp_in x2 30 ∧ sl_bz (0 : Int32) = (0 : Int32) ∧ ∀ m3, m3 = sl_up m1 (4 + x2.toNatClampNeg) 1 (0 : Int32) → (ix_takeOut_L2 a1 Q n) (x2 + (1 : Int32)) m3))) ∧ (¬ x2 < (30 : Int32) → ix_relayer μ (fun m4 => Q m4))
def ix_takeOut (a1 : Int32) (μ : sl_M) (Q : sl_M → Prop) : Prop := ∃ n5, ix_takeOut_L2 a1 Q n5 (0 : Int32) μ
def ix_takeOut_pt : sl_PT := fun As μ Q => match As with
  | [.inr (.inr (some (c0, a0))), .inl a1] => if c0 = 5 then (if a0 = 1 then (ix_takeOut a1 μ (fun μ' => Q none μ')) else False) else False
  | _ => False
def ix_takeOut_cd : List sl_Ent := [(0, .iconst 0, 1, 0, [], [], false), (1, .istore_n 2, 1, 0, [2], [], false), (2, .iload_n 2, 1, 0, [2], [], true), (3, .bipush 30, 2, 30, [], [], false), (5, .if_icmp .ge 27, 3, 0, [32], [], false), (8, .iload_n 2, 1, 0, [2], [], false), (9, .iload_n 1, 1, 0, [1], [], false), (10, .invokestatic 45, 3, 0, [0], [], false), (13, .ifCond .eq 13, 3, 0, [26], [], false), (16, .aload_n 0, 1, 0, [0], [], false), (17, .getfield 11, 3, 0, [5, 0, 2, 22, 1], [], false), (20, .iload_n 2, 1, 0, [2], [], false), (21, .aaload, 1, 0, [], [], false), (22, .iconst 0, 1, 0, [], [], false), (23, .putfield 31, 3, 0, [9, 1, 1], [], false), (26, .iinc 2 1, 3, 1, [], [], false), (29, .goto (-27), 3, 0, [2], [], false), (32, .aload_n 0, 1, 0, [0], [], false), (33, .invokevirtual 48, 3, 0, [1], [], false), (36, .return_, 1, 0, [], [], false)]
def ix_takeOut_y : MethodName := ⟨"SpanLayers$Index", "takeOut", "(I)V"⟩
theorem ix_takeOut_tb : sl_tbOK sl_R5 prog_7_method_6_code 3 none lk_ix [(45, 1), (48, 0)] ix_takeOut_cd = true := by decide +kernel
theorem sx_isOfSet_w2 : Cond.static sx_isOfSet_y ∈ sl_T0 := sl_in1 466 (by decide +kernel) rfl
theorem sx_isOfSet_w4 : Cond.initialized sx_isOfSet_y.cls ∈ sl_T0 := sl_in1 86 (by decide +kernel) rfl
theorem sx_isOfSet_w5 : Cond.code sx_isOfSet_y prog_1_method_49_code 2 (some .boolean) ∈ sl_T0 := sl_in1 467 (by decide +kernel) rfl
theorem sx_isOfSet_w6 : sx_isOfSet_y.cls ≠ "java/lang/invoke/MethodHandle" ∧ sx_isOfSet_y.cls ≠ "java/lang/invoke/VarHandle" ∧ (parseMethodDescriptor sx_isOfSet_y.desc).map (fun d => d.parameters.length) = some 2 := by decide +kernel
theorem cs_ix_45 (g : sl_G) {hh : Nat} (h : 1 ≤ hh) : sl_CallS g sl_R5 45 1 0 hh 2 sx_isOfSet_pt := sl_callN (host := "SpanLayers") (y := sx_isOfSet_y) (sx_isOfSet_snd g) h (by decide) (List.mem_of_getElem? (i := 10) rfl) sx_isOfSet_w2 sx_isOfSet_w4 sx_isOfSet_w5 sx_isOfSet_w6
theorem ix_relayer_w2 : Cond.instanceMethod ix_relayer_y ∈ sl_T0 := sl_in1 419 (by decide +kernel) rfl
theorem ix_relayer_w3 : Cond.selects ix_relayer_y.cls ix_relayer_y ix_relayer_y ∈ sl_T0 := sl_in1 420 (by decide +kernel) rfl
theorem ix_relayer_w4 : Cond.initialized ix_relayer_y.cls ∈ sl_T0 := sl_in1 87 (by decide +kernel) rfl
theorem ix_relayer_w5 : Cond.code ix_relayer_y prog_7_method_7_code 5 none ∈ sl_T0 := sl_in1 421 (by decide +kernel) rfl
theorem ix_relayer_w6 : ix_relayer_y.cls ≠ "java/lang/invoke/MethodHandle" ∧ ix_relayer_y.cls ≠ "java/lang/invoke/VarHandle" ∧ (parseMethodDescriptor ix_relayer_y.desc).map (fun d => d.parameters.length) = some 0 := by decide +kernel
theorem cs_ix_48 (g : sl_G) {hh : Nat} (h : 5 ≤ hh) : sl_CallS g sl_R5 48 0 5 hh 1 ix_relayer_pt := sl_callV (y := ix_relayer_y) (T := sl_F5) (N := 2) (ix_relayer_snd g) h (by decide) (sl_in1 468 (by decide +kernel) rfl) ix_relayer_w2 ix_relayer_w3 ix_relayer_w4 ix_relayer_w5 ix_relayer_w6 rfl (by decide)
def ix_takeOut_ct : List sl_Ct := [(2, 1, 0, sx_isOfSet_pt), (1, 0, 5, ix_relayer_pt)]
theorem ix_takeOut_hc (g : sl_G) : sl_HC g sl_R5 5 ix_takeOut_ct [(45, 1), (48, 0)] := sl_HC_cons (cs_ix_45 g (by decide)) (sl_HC_cons (cs_ix_48 g (by decide)) (sl_HC_nil g sl_R5 5))
set_option maxRecDepth 20000 in
set_option maxHeartbeats 2000000 in
theorem ix_takeOut_snd (g : sl_G) : sl_Snd g ix_takeOut_y prog_7_method_6_code 3 none 5 (ix_takeOut_pt) := by
  intro As μ Q hw h
  unfold ix_takeOut_pt at h
  split at h
  next c0 a0 a1 =>
    split at h
    next e_ =>
      subst e_
      split at h
      next e_ =>
        subst e_
        refine sl_mk2 g [true, true, false] (cst := [some (.inr (.inr (some (5, 1)))), some (.inl a1)]) (lv0 := [none, none, none]) (by decide) rfl hw rfl rfl rfl lk_ix_ok (ix_takeOut_hc g) ix_takeOut_tb rfl ?_
        intro X M
        have v2 := sl_extL M sl_VV0 2 (fun n lv st μ => match lv, st with | [_, _, some (.inl x2)], [] => ix_takeOut_L2 a1 (fun μ' => Q none μ') n x2 μ | _, _ => False) (by
            intro lv st μ h
            split at h
            · exact h
            · exact h) (by
            intro n2 w2
            refine ⟨_, w2, ?_⟩
            intro lv st μ h
            split at h
            · exact h
            · exact h.elim)
        exact ⟨_, v2, h⟩
      next => exact h.elim
    next => exact h.elim
  next => exact h.elim
def ix_count_L4 (Q : Int32 → sl_M → Prop) : Nat → Int32 → Int32 → sl_M → Prop
  | 0, _, _, _ => False
  | n + 1, x1, x2, μ => (x2 < (30 : Int32) → vp_in x2 30 ∧ ((sl_bz (μ (4 + x2.toNatClampNeg) 1)) = (0 : Int32) → ∀ v1, v1 = (x1 + (0 : Int32)) → (ix_count_L4 Q n) v1 (x2 + (1 : Int32)) μ) ∧ (¬ (sl_bz (μ (4 + x2.toNatClampNeg) 1)) = (0 : Int32) → ∀ v2, v2 = (x1 + (1 : Int32)) → (ix_count_L4 Q n) v2 (x2 + (1 : Int32)) μ)) ∧ (¬ x2 < (30 : Int32) → Q x1 μ)
def ix_count (μ : sl_M) (Q : Int32 → sl_M → Prop) : Prop := ∃ n3, ix_count_L4 Q n3 (0 : Int32) (0 : Int32) μ
def ix_count_k_L4 (Q : Int32 → sl_M → Prop) : Nat → Int32 → Int32 → sl_M → Prop
  | 0, _, _, _ => False
  | n + 1, x1, x2, μ => (x2 < (30 : Int32) → vp_in x2 30 ∧ ((sl_bz (μ (60 + x2.toNatClampNeg) 1)) = (0 : Int32) → ∀ v1, v1 = (x1 + (0 : Int32)) → (ix_count_k_L4 Q n) v1 (x2 + (1 : Int32)) μ) ∧ (¬ (sl_bz (μ (60 + x2.toNatClampNeg) 1)) = (0 : Int32) → ∀ v2, v2 = (x1 + (1 : Int32)) → (ix_count_k_L4 Q n) v2 (x2 + (1 : Int32)) μ)) ∧ (¬ x2 < (30 : Int32) → Q x1 μ)
def ix_count_k (μ : sl_M) (Q : Int32 → sl_M → Prop) : Prop := ∃ n3, ix_count_k_L4 Q n3 (0 : Int32) (0 : Int32) μ
def ix_count_pt : sl_PT := fun As μ Q => match As with
  | [.inr (.inr (some (c0, a0)))] => if c0 = 5 then (if a0 = 1 then (ix_count μ (fun r μ' => Q (some (.inl r)) μ')) else (if a0 = 57 then (ix_count_k μ (fun r μ' => Q (some (.inl r)) μ')) else False)) else False
  | _ => False
def ix_count_cd : List sl_Ent := [(0, .iconst 0, 1, 0, [], [], false), (1, .istore_n 1, 1, 0, [1], [], false), (2, .iconst 0, 1, 0, [], [], false), (3, .istore_n 2, 1, 0, [2], [], false), (4, .iload_n 2, 1, 0, [2], [], true), (5, .bipush 30, 2, 30, [], [], false), (7, .if_icmp .ge 29, 3, 0, [36], [], false), (10, .iload_n 1, 1, 0, [1], [], false), (11, .aload_n 0, 1, 0, [0], [], false), (12, .getfield 11, 3, 0, [5, 0, 2, 22, 1], [], false), (15, .iload_n 2, 1, 0, [2], [], false), (16, .aaload, 1, 0, [], [], false), (17, .getfield 31, 3, 0, [9, 1, 1, 0, 0], [], false), (20, .ifCond .eq 7, 3, 0, [27], [], false), (23, .iconst 1, 1, 1, [], [], false), (24, .goto 4, 3, 0, [28], [], false), (27, .iconst 0, 1, 0, [], [], false), (28, .iadd, 1, 0, [], [], false), (29, .istore_n 1, 1, 0, [1, 1], [], false), (30, .iinc 2 1, 3, 1, [], [], false), (33, .goto (-29), 3, 0, [4], [], false), (36, .iload_n 1, 1, 0, [1], [], false), (37, .ireturn, 1, 0, [], [], false)]
def ix_count_y : MethodName := ⟨"SpanLayers$Index", "count", "()I"⟩
theorem ix_count_tb : sl_tbOK sl_R5 prog_7_method_9_code 3 (some .int) lk_ix [] ix_count_cd = true := by decide +kernel
def ix_count_ct : List sl_Ct := []
theorem ix_count_hc (g : sl_G) : sl_HC g sl_R5 0 ix_count_ct [] := sl_HC_nil g sl_R5 0
set_option maxRecDepth 20000 in
set_option maxHeartbeats 2000000 in
theorem ix_count_snd (g : sl_G) : sl_Snd g ix_count_y prog_7_method_9_code 3 (some .int) 0 (ix_count_pt) := by
  intro As μ Q hw h
  unfold ix_count_pt at h
  split at h
  next c0 a0 =>
    split at h
    next e_ =>
      subst e_
      split at h
      next e_ =>
        obtain rfl := e_
        refine sl_mk2 g [true, false, false] (cst := [some (.inr (.inr (some (5, 1))))]) (lv0 := [none, none, none]) (by decide) rfl hw rfl rfl rfl lk_ix_ok (ix_count_hc g) ix_count_tb rfl ?_
        intro X M
        have v4 := sl_extL M sl_VV0 4 (fun n lv st μ => match lv, st with | [_, some (.inl x1), some (.inl x2)], [] => ix_count_L4 (fun r μ' => Q (some (.inl r)) μ') n x1 x2 μ | _, _ => False) (by
            intro lv st μ h
            split at h
            · exact h
            · exact h) (by
            intro n4 w4
            refine ⟨_, w4, ?_⟩
            intro lv st μ h
            split at h
            · exact h
            · exact h.elim)
        exact ⟨_, v4, h⟩
      next =>
        split at h
        next e_ =>
          obtain rfl := e_
          refine sl_mk2 g [true, false, false] (cst := [some (.inr (.inr (some (5, 57))))]) (lv0 := [none, none, none]) (by decide) rfl hw rfl rfl rfl lk_ix_ok (ix_count_hc g) ix_count_tb rfl ?_
          intro X M
          have v4 := sl_extL M sl_VV0 4 (fun n lv st μ => match lv, st with | [_, some (.inl x1), some (.inl x2)], [] => ix_count_k_L4 (fun r μ' => Q (some (.inl r)) μ') n x1 x2 μ | _, _ => False) (by
              intro lv st μ h
              split at h
              · exact h
              · exact h) (by
              intro n4 w4
              refine ⟨_, w4, ?_⟩
              intro lv st μ h
              split at h
              · exact h
              · exact h.elim)
          exact ⟨_, v4, h⟩
        next => exact h.elim
    next => exact h.elim
  next => exact h.elim
def ix_countCovering_L4 (a1 : Nat) (Q : Int32 → sl_M → Prop) : Nat → Int32 → Int32 → sl_M → Prop
  | 0, _, _, _ => False
  | n + 1, x2, x3, μ => (x3 < (30 : Int32) → vp_in x3 30 ∧ ((sl_bz (μ (4 + x3.toNatClampNeg) 1)) = (0 : Int32) → ∀ v1, v1 = (x2 + (0 : Int32)) → (ix_countCovering_L4 a1 Q n) v1 (x3 + (1 : Int32)) μ) ∧ (¬ (sl_bz (μ (4 + x3.toNatClampNeg) 1)) = (0 : Int32) → vp_in x3 30 ∧ sp_covers (4 + x3.toNatClampNeg) a1 μ (fun r3 m2 => (r3 = (0 : Int32) → ∀ v4, v4 = (x2 + (0 : Int32)) → (ix_countCovering_L4 a1 Q n) v4 (x3 + (1 : Int32)) m2) ∧ (¬ r3 = (0 : Int32) → ∀ v5, v5 = (x2 + (1 : Int32)) → (ix_countCovering_L4 a1 Q n) v5 (x3 + (1 : Int32)) m2)))) ∧ (¬ x3 < (30 : Int32) → Q x2 μ)
def ix_countCovering (a1 : Nat) (μ : sl_M) (Q : Int32 → sl_M → Prop) : Prop := ∃ n6, ix_countCovering_L4 a1 Q n6 (0 : Int32) (0 : Int32) μ
def ix_countCovering_pt : sl_PT := fun As μ Q => match As with
  | [.inr (.inr (some (c0, a0))), .inr (.inr (some (c1, a1)))] => if c0 = 5 then (if c1 = 9 then (if a0 = 1 then (ix_countCovering a1 μ (fun r μ' => Q (some (.inl r)) μ')) else False) else False) else False
  | _ => False
def ix_countCovering_cd : List sl_Ent := [(0, .iconst 0, 1, 0, [], [], false), (1, .istore_n 2, 1, 0, [2], [], false), (2, .iconst 0, 1, 0, [], [], false), (3, .istore_n 3, 1, 0, [3], [], false), (4, .iload_n 3, 1, 0, [3], [], true), (5, .bipush 30, 2, 30, [], [], false), (7, .if_icmp .ge 42, 3, 0, [49], [], false), (10, .iload_n 2, 1, 0, [2], [], false), (11, .aload_n 0, 1, 0, [0], [], false), (12, .getfield 11, 3, 0, [5, 0, 2, 22, 1], [], false), (15, .iload_n 3, 1, 0, [3], [], false), (16, .aaload, 1, 0, [], [], false), (17, .getfield 31, 3, 0, [9, 1, 1, 0, 0], [], false), (20, .ifCond .eq 20, 3, 0, [40], [], false), (23, .aload_n 0, 1, 0, [0], [], false), (24, .getfield 11, 3, 0, [5, 0, 2, 22, 1], [], false), (27, .iload_n 3, 1, 0, [3], [], false), (28, .aaload, 1, 0, [], [], false), (29, .aload_n 1, 1, 0, [1], [], false), (30, .invokevirtual 55, 3, 0, [0], [], false), (33, .ifCond .eq 7, 3, 0, [40], [], false), (36, .iconst 1, 1, 1, [], [], false), (37, .goto 4, 3, 0, [41], [], false), (40, .iconst 0, 1, 0, [], [], false), (41, .iadd, 1, 0, [], [], false), (42, .istore_n 2, 1, 0, [2, 1], [], false), (43, .iinc 3 1, 3, 1, [], [], false), (46, .goto (-42), 3, 0, [4], [], false), (49, .iload_n 2, 1, 0, [2], [], false), (50, .ireturn, 1, 0, [], [], false)]
def ix_countCovering_y : MethodName := ⟨"SpanLayers$Index", "countCovering", "(LSpanLayers$Span;)I"⟩
theorem ix_countCovering_tb : sl_tbOK sl_R5 prog_7_method_15_code 4 (some .int) lk_ix [(55, 0)] ix_countCovering_cd = true := by decide +kernel
def ix_countCovering_ct : List sl_Ct := [(2, 0, 9, sp_covers_pt)]
theorem ix_countCovering_hc (g : sl_G) : sl_HC g sl_R5 2 ix_countCovering_ct [(55, 0)] := sl_HC_cons (cs_ix_55 g (by decide)) (sl_HC_nil g sl_R5 2)
set_option maxRecDepth 20000 in
set_option maxHeartbeats 2000000 in
theorem ix_countCovering_snd (g : sl_G) : sl_Snd g ix_countCovering_y prog_7_method_15_code 4 (some .int) 2 (ix_countCovering_pt) := by
  intro As μ Q hw h
  unfold ix_countCovering_pt at h
  split at h
  next c0 a0 c1 a1 =>
    split at h
    next e_ =>
      subst e_
      split at h
      next e_ =>
        subst e_
        split at h
        next e_ =>
          subst e_
          refine sl_mk2 g [true, true, false, false] (cst := [some (.inr (.inr (some (5, 1)))), some (.inr (.inr (some (9, a1))))]) (lv0 := [none, none, none, none]) (by decide) rfl hw rfl rfl rfl lk_ix_ok (ix_countCovering_hc g) ix_countCovering_tb rfl ?_
          intro X M
          have v4 := sl_extL M sl_VV0 4 (fun n lv st μ => match lv, st with | [_, _, some (.inl x2), some (.inl x3)], [] => ix_countCovering_L4 a1 (fun r μ' => Q (some (.inl r)) μ') n x2 x3 μ | _, _ => False) (by
              intro lv st μ h
              split at h
              · exact h
              · exact h) (by
              intro n4 w4
              refine ⟨_, w4, ?_⟩
              intro lv st μ h
              split at h
              · exact h
              · exact h.elim)
          exact ⟨_, v4, h⟩
        next => exact h.elim
      next => exact h.elim
    next => exact h.elim
  next => exact h.elim
def ix_countCovered_L4 (a1 : Nat) (Q : Int32 → sl_M → Prop) : Nat → Int32 → Int32 → sl_M → Prop
  | 0, _, _, _ => False
  | n + 1, x2, x3, μ => (x3 < (30 : Int32) → vp_in x3 30 ∧ ((sl_bz (μ (4 + x3.toNatClampNeg) 1)) = (0 : Int32) → ∀ v1, v1 = (x2 + (0 : Int32)) → (ix_countCovered_L4 a1 Q n) v1 (x3 + (1 : Int32)) μ) ∧ (¬ (sl_bz (μ (4 + x3.toNatClampNeg) 1)) = (0 : Int32) → vp_in x3 30 ∧ sp_covers a1 (4 + x3.toNatClampNeg) μ (fun r3 m2 => (r3 = (0 : Int32) → ∀ v4, v4 = (x2 + (0 : Int32)) → (ix_countCovered_L4 a1 Q n) v4 (x3 + (1 : Int32)) m2) ∧ (¬ r3 = (0 : Int32) → ∀ v5, v5 = (x2 + (1 : Int32)) → (ix_countCovered_L4 a1 Q n) v5 (x3 + (1 : Int32)) m2)))) ∧ (¬ x3 < (30 : Int32) → Q x2 μ)
def ix_countCovered (a1 : Nat) (μ : sl_M) (Q : Int32 → sl_M → Prop) : Prop := ∃ n6, ix_countCovered_L4 a1 Q n6 (0 : Int32) (0 : Int32) μ
def ix_countCovered_pt : sl_PT := fun As μ Q => match As with
  | [.inr (.inr (some (c0, a0))), .inr (.inr (some (c1, a1)))] => if c0 = 5 then (if c1 = 9 then (if a0 = 1 then (ix_countCovered a1 μ (fun r μ' => Q (some (.inl r)) μ')) else False) else False) else False
  | _ => False
def ix_countCovered_cd : List sl_Ent := [(0, .iconst 0, 1, 0, [], [], false), (1, .istore_n 2, 1, 0, [2], [], false), (2, .iconst 0, 1, 0, [], [], false), (3, .istore_n 3, 1, 0, [3], [], false), (4, .iload_n 3, 1, 0, [3], [], true), (5, .bipush 30, 2, 30, [], [], false), (7, .if_icmp .ge 42, 3, 0, [49], [], false), (10, .iload_n 2, 1, 0, [2], [], false), (11, .aload_n 0, 1, 0, [0], [], false), (12, .getfield 11, 3, 0, [5, 0, 2, 22, 1], [], false), (15, .iload_n 3, 1, 0, [3], [], false), (16, .aaload, 1, 0, [], [], false), (17, .getfield 31, 3, 0, [9, 1, 1, 0, 0], [], false), (20, .ifCond .eq 20, 3, 0, [40], [], false), (23, .aload_n 1, 1, 0, [1], [], false), (24, .aload_n 0, 1, 0, [0], [], false), (25, .getfield 11, 3, 0, [5, 0, 2, 22, 1], [], false), (28, .iload_n 3, 1, 0, [3], [], false), (29, .aaload, 1, 0, [], [], false), (30, .invokevirtual 55, 3, 0, [0], [], false), (33, .ifCond .eq 7, 3, 0, [40], [], false), (36, .iconst 1, 1, 1, [], [], false), (37, .goto 4, 3, 0, [41], [], false), (40, .iconst 0, 1, 0, [], [], false), (41, .iadd, 1, 0, [], [], false), (42, .istore_n 2, 1, 0, [2, 1], [], false), (43, .iinc 3 1, 3, 1, [], [], false), (46, .goto (-42), 3, 0, [4], [], false), (49, .iload_n 2, 1, 0, [2], [], false), (50, .ireturn, 1, 0, [], [], false)]
def ix_countCovered_y : MethodName := ⟨"SpanLayers$Index", "countCovered", "(LSpanLayers$Span;)I"⟩
theorem ix_countCovered_tb : sl_tbOK sl_R5 prog_7_method_16_code 4 (some .int) lk_ix [(55, 0)] ix_countCovered_cd = true := by decide +kernel
def ix_countCovered_ct : List sl_Ct := [(2, 0, 9, sp_covers_pt)]
theorem ix_countCovered_hc (g : sl_G) : sl_HC g sl_R5 2 ix_countCovered_ct [(55, 0)] := sl_HC_cons (cs_ix_55 g (by decide)) (sl_HC_nil g sl_R5 2)
set_option maxRecDepth 20000 in
set_option maxHeartbeats 2000000 in
theorem ix_countCovered_snd (g : sl_G) : sl_Snd g ix_countCovered_y prog_7_method_16_code 4 (some .int) 2 (ix_countCovered_pt) := by
  intro As μ Q hw h
  unfold ix_countCovered_pt at h
  split at h
  next c0 a0 c1 a1 =>
    split at h
    next e_ =>
      subst e_
      split at h
      next e_ =>
        subst e_
        split at h
        next e_ =>
          subst e_
          refine sl_mk2 g [true, true, false, false] (cst := [some (.inr (.inr (some (5, 1)))), some (.inr (.inr (some (9, a1))))]) (lv0 := [none, none, none, none]) (by decide) rfl hw rfl rfl rfl lk_ix_ok (ix_countCovered_hc g) ix_countCovered_tb rfl ?_
          intro X M
          have v4 := sl_extL M sl_VV0 4 (fun n lv st μ => match lv, st with | [_, _, some (.inl x2), some (.inl x3)], [] => ix_countCovered_L4 a1 (fun r μ' => Q (some (.inl r)) μ') n x2 x3 μ | _, _ => False) (by
              intro lv st μ h
              split at h
              · exact h
              · exact h) (by
              intro n4 w4
              refine ⟨_, w4, ?_⟩
              intro lv st μ h
              split at h
              · exact h
              · exact h.elim)
          exact ⟨_, v4, h⟩
        next => exact h.elim
      next => exact h.elim
    next => exact h.elim
  next => exact h.elim
def sp_meets (a0 : Nat) (a1 : Int32) (a2 : Int32) (μ : sl_M) (Q : Int32 → sl_M → Prop) : Prop := ((μ a0 2) ≤ a2 → (a1 ≤ (μ a0 3) → sl_bz (1 : Int32) = (1 : Int32) ∧ Q (1 : Int32) μ) ∧ (¬ a1 ≤ (μ a0 3) → sl_bz (0 : Int32) = (0 : Int32) ∧ Q (0 : Int32) μ)) ∧ (¬ (μ a0 2) ≤ a2 → sl_bz (0 : Int32) = (0 : Int32) ∧ Q (0 : Int32) μ)
def sp_meets_pt : sl_PT := fun As μ Q => match As with
  | [.inr (.inr (some (c0, a0))), .inl a1, .inl a2] => if c0 = 9 then (sp_meets a0 a1 a2 μ (fun r μ' => Q (some (.inl r)) μ')) else False
  | _ => False
def sp_meets_cd : List sl_Ent := [(0, .aload_n 0, 1, 0, [0], [], false), (1, .getfield 19, 3, 0, [9, 2, 0, 0, 0], [], false), (4, .iload_n 2, 1, 0, [2], [], false), (5, .if_icmp .gt 15, 3, 0, [20], [], false), (8, .iload_n 1, 1, 0, [1], [], false), (9, .aload_n 0, 1, 0, [0], [], false), (10, .getfield 22, 3, 0, [9, 3, 0, 0, 0], [], false), (13, .if_icmp .gt 7, 3, 0, [20], [], false), (16, .iconst 1, 1, 1, [], [], false), (17, .goto 4, 3, 0, [21], [], false), (20, .iconst 0, 1, 0, [], [], false), (21, .ireturn, 1, 0, [1], [], false)]
def sp_meets_y : MethodName := ⟨"SpanLayers$Span", "meets", "(II)Z"⟩
theorem sp_meets_tb : sl_tbOK sl_R9 prog_11_method_4_code 3 (some .boolean) lk_sp [] sp_meets_cd = true := by decide +kernel
def sp_meets_ct : List sl_Ct := []
theorem sp_meets_hc (g : sl_G) : sl_HC g sl_R9 0 sp_meets_ct [] := sl_HC_nil g sl_R9 0
set_option maxRecDepth 20000 in
set_option maxHeartbeats 2000000 in
theorem sp_meets_snd (g : sl_G) : sl_Snd g sp_meets_y prog_11_method_4_code 3 (some .boolean) 0 (sp_meets_pt) := by
  intro As μ Q hw h
  unfold sp_meets_pt at h
  split at h
  next c0 a0 a1 a2 =>
    split at h
    next e_ =>
      subst e_
      refine sl_mk2 g [true, true, true] (cst := [some (.inr (.inr (some (9, a0)))), some (.inl a1), some (.inl a2)]) (lv0 := [none, none, none]) (by decide) rfl hw rfl rfl rfl lk_sp_ok (sp_meets_hc g) sp_meets_tb rfl ?_
      intro X M
      exact ⟨_, sl_VV0, h⟩
    next => exact h.elim
  next => exact h.elim
def ix_bitsMeeting_L5 (a1 : Int32) (a2 : Int32) (Q : Int32 → sl_M → Prop) : Nat → Int32 → Int32 → sl_M → Prop
  | 0, _, _, _ => False
  | n + 1, x3, x4, μ => (x4 < (30 : Int32) → vp_in x4 30 ∧ ((sl_bz (μ (4 + x4.toNatClampNeg) 1)) = (0 : Int32) → (ix_bitsMeeting_L5 a1 a2 Q n) x3 (x4 + (1 : Int32)) μ) ∧ (¬ (sl_bz (μ (4 + x4.toNatClampNeg) 1)) = (0 : Int32) → vp_in x4 30 ∧ sp_meets (4 + x4.toNatClampNeg) a1 a2 μ (fun r2 m1 => (r2 = (0 : Int32) → (ix_bitsMeeting_L5 a1 a2 Q n) x3 (x4 + (1 : Int32)) m1) ∧ (¬ r2 = (0 : Int32) → ∀ v3, v3 = (x3 ||| ((1 : Int32) <<< (x4 &&& 31))) → (ix_bitsMeeting_L5 a1 a2 Q n) v3 (x4 + (1 : Int32)) m1)))) ∧ (¬ x4 < (30 : Int32) → Q x3 μ)
def ix_bitsMeeting (a1 : Int32) (a2 : Int32) (μ : sl_M) (Q : Int32 → sl_M → Prop) : Prop := ∃ n4, ix_bitsMeeting_L5 a1 a2 Q n4 (0 : Int32) (0 : Int32) μ
def ix_bitsMeeting_pt : sl_PT := fun As μ Q => match As with
  | [.inr (.inr (some (c0, a0))), .inl a1, .inl a2] => if c0 = 5 then (if a0 = 1 then (ix_bitsMeeting a1 a2 μ (fun r μ' => Q (some (.inl r)) μ')) else False) else False
  | _ => False
def ix_bitsMeeting_cd : List sl_Ent := [(0, .iconst 0, 1, 0, [], [], false), (1, .istore_n 3, 1, 0, [3], [], false), (2, .iconst 0, 1, 0, [], [], false), (3, .istore 4, 2, 0, [4], [], false), (5, .iload 4, 2, 0, [4], [], true), (7, .bipush 30, 2, 30, [], [], false), (9, .if_icmp .ge 44, 3, 0, [53], [], false), (12, .aload_n 0, 1, 0, [0], [], false), (13, .getfield 11, 3, 0, [5, 0, 2, 22, 1], [], false), (16, .iload 4, 2, 0, [4], [], false), (18, .aaload, 1, 0, [], [], false), (19, .getfield 31, 3, 0, [9, 1, 1, 0, 0], [], false), (22, .ifCond .eq 25, 3, 0, [47], [], false), (25, .aload_n 0, 1, 0, [0], [], false), (26, .getfield 11, 3, 0, [5, 0, 2, 22, 1], [], false), (29, .iload 4, 2, 0, [4], [], false), (31, .aaload, 1, 0, [], [], false), (32, .iload_n 1, 1, 0, [1], [], false), (33, .iload_n 2, 1, 0, [2], [], false), (34, .invokevirtual 75, 3, 0, [0], [], false), (37, .ifCond .eq 10, 3, 0, [47], [], false), (40, .iload_n 3, 1, 0, [3], [], false), (41, .iconst 1, 1, 1, [], [], false), (42, .iload 4, 2, 0, [4], [], false), (44, .ishl, 1, 0, [], [], false), (45, .ior, 1, 0, [], [], false), (46, .istore_n 3, 1, 0, [3, 1], [], false), (47, .iinc 4 1, 3, 1, [], [], false), (50, .goto (-45), 3, 0, [5], [], false), (53, .iload_n 3, 1, 0, [3], [], false), (54, .ireturn, 1, 0, [], [], false)]
def ix_bitsMeeting_y : MethodName := ⟨"SpanLayers$Index", "bitsMeeting", "(II)I"⟩
theorem ix_bitsMeeting_tb : sl_tbOK sl_R5 prog_7_method_11_code 5 (some .int) lk_ix [(75, 0)] ix_bitsMeeting_cd = true := by decide +kernel
theorem sp_meets_w2 : Cond.instanceMethod sp_meets_y ∈ sl_T0 := sl_in1 495 (by decide +kernel) rfl
theorem sp_meets_w3 : Cond.selects sp_meets_y.cls sp_meets_y sp_meets_y ∈ sl_T0 := sl_in1 496 (by decide +kernel) rfl
theorem sp_meets_w4 : Cond.initialized sp_meets_y.cls ∈ sl_T0 := sl_in1 88 (by decide +kernel) rfl
theorem sp_meets_w5 : Cond.code sp_meets_y prog_11_method_4_code 3 (some .boolean) ∈ sl_T0 := sl_in1 497 (by decide +kernel) rfl
theorem sp_meets_w6 : sp_meets_y.cls ≠ "java/lang/invoke/MethodHandle" ∧ sp_meets_y.cls ≠ "java/lang/invoke/VarHandle" ∧ (parseMethodDescriptor sp_meets_y.desc).map (fun d => d.parameters.length) = some 2 := by decide +kernel
theorem cs_ix_75 (g : sl_G) {hh : Nat} (h : 1 ≤ hh) : sl_CallS g sl_R5 75 0 9 hh 3 sp_meets_pt := sl_callV (y := sp_meets_y) (T := sl_F9) (N := 6) (sp_meets_snd g) h (by decide) (sl_in1 494 (by decide +kernel) rfl) sp_meets_w2 sp_meets_w3 sp_meets_w4 sp_meets_w5 sp_meets_w6 rfl (by decide)
def ix_bitsMeeting_ct : List sl_Ct := [(3, 0, 9, sp_meets_pt)]
theorem ix_bitsMeeting_hc (g : sl_G) : sl_HC g sl_R5 1 ix_bitsMeeting_ct [(75, 0)] := sl_HC_cons (cs_ix_75 g (by decide)) (sl_HC_nil g sl_R5 1)
set_option maxRecDepth 20000 in
set_option maxHeartbeats 2000000 in
theorem ix_bitsMeeting_snd (g : sl_G) : sl_Snd g ix_bitsMeeting_y prog_7_method_11_code 5 (some .int) 1 (ix_bitsMeeting_pt) := by
  intro As μ Q hw h
  unfold ix_bitsMeeting_pt at h
  split at h
  next c0 a0 a1 a2 =>
    split at h
    next e_ =>
      subst e_
      split at h
      next e_ =>
        subst e_
        refine sl_mk2 g [true, true, true, false, false] (cst := [some (.inr (.inr (some (5, 1)))), some (.inl a1), some (.inl a2)]) (lv0 := [none, none, none, none, none]) (by decide) rfl hw rfl rfl rfl lk_ix_ok (ix_bitsMeeting_hc g) ix_bitsMeeting_tb rfl ?_
        intro X M
        have v5 := sl_extL M sl_VV0 5 (fun n lv st μ => match lv, st with | [_, _, _, some (.inl x3), some (.inl x4)], [] => ix_bitsMeeting_L5 a1 a2 (fun r μ' => Q (some (.inl r)) μ') n x3 x4 μ | _, _ => False) (by
            intro lv st μ h
            split at h
            · exact h
            · exact h) (by
            intro n5 w5
            refine ⟨_, w5, ?_⟩
            intro lv st μ h
            split at h
            · exact h
            · exact h.elim)
        exact ⟨_, v5, h⟩
      next => exact h.elim
    next => exact h.elim
  next => exact h.elim
def ix_factOf (a1 : Nat) (a2 : Int32) (μ : sl_M) (Q : Int32 → sl_M → Prop) : Prop := (a2 = (0 : Int32) → Q (μ a1 2) μ) ∧ (¬ a2 = (0 : Int32) → (a2 = (1 : Int32) → Q (μ a1 3) μ) ∧ (¬ a2 = (1 : Int32) → (a2 = (2 : Int32) → Q (μ a1 4) μ) ∧ (¬ a2 = (2 : Int32) → (a2 = (3 : Int32) → sp_length a1 μ (fun r2 m1 => Q r2 m1)) ∧ (¬ a2 = (3 : Int32) → (a2 = (4 : Int32) → Q (μ a1 5) μ) ∧ (¬ a2 = (4 : Int32) → (a2 = (5 : Int32) → ix_countCovering a1 μ (fun r4 m3 => Q r4 m3)) ∧ (¬ a2 = (5 : Int32) → (a2 = (6 : Int32) → ix_countCovered a1 μ (fun r6 m5 => Q r6 m5)) ∧ (¬ a2 = (6 : Int32) → ix_bitsMeeting (μ a1 2) (μ a1 3) μ (fun r8 m7 => it_bitCount r8 m7 (fun r10 m9 => Q (r10 - (1 : Int32)) m9)))))))))
def ix_factOf_pt : sl_PT := fun As μ Q => match As with
  | [.inr (.inr (some (c0, a0))), .inr (.inr (some (c1, a1))), .inl a2] => if c0 = 5 then (if c1 = 9 then (if a0 = 1 then (ix_factOf a1 a2 μ (fun r μ' => Q (some (.inl r)) μ')) else False) else False) else False
  | _ => False
def ix_factOf_cd : List sl_Ent := [(0, .iload_n 2, 1, 0, [2], [], false), (1, .tableswitch 80 0 6 #[43, 48, 53, 58, 63, 68, 74], 43, 0, [81], [(0, 44), (1, 49), (2, 54), (3, 59), (4, 64), (5, 69), (6, 75)], false), (44, .aload_n 1, 1, 0, [1], [], false), (45, .getfield 35, 3, 0, [9, 2, 0, 0, 0], [], false), (48, .ireturn, 1, 0, [], [], false), (49, .aload_n 1, 1, 0, [1], [], false), (50, .getfield 39, 3, 0, [9, 3, 0, 0, 0], [], false), (53, .ireturn, 1, 0, [], [], false), (54, .aload_n 1, 1, 0, [1], [], false), (55, .getfield 42, 3, 0, [9, 4, 0, 0, 0], [], false), (58, .ireturn, 1, 0, [], [], false), (59, .aload_n 1, 1, 0, [1], [], false), (60, .invokevirtual 81, 3, 0, [0], [], false), (63, .ireturn, 1, 0, [], [], false), (64, .aload_n 1, 1, 0, [1], [], false), (65, .getfield 59, 3, 0, [9, 5, 0, 0, 0], [], false), (68, .ireturn, 1, 0, [], [], false), (69, .aload_n 0, 1, 0, [0], [], false), (70, .aload_n 1, 1, 0, [1], [], false), (71, .invokevirtual 85, 3, 0, [1], [], false), (74, .ireturn, 1, 0, [], [], false), (75, .aload_n 0, 1, 0, [0], [], false), (76, .aload_n 1, 1, 0, [1], [], false), (77, .invokevirtual 89, 3, 0, [2], [], false), (80, .ireturn, 1, 0, [], [], false), (81, .aload_n 0, 1, 0, [0], [], false), (82, .aload_n 1, 1, 0, [1], [], false), (83, .getfield 35, 3, 0, [9, 2, 0, 0, 0], [], false), (86, .aload_n 1, 1, 0, [1], [], false), (87, .getfield 39, 3, 0, [9, 3, 0, 0, 0], [], false), (90, .invokevirtual 72, 3, 0, [3], [], false), (93, .invokestatic 92, 3, 0, [4], [], false), (96, .iconst 1, 1, 1, [], [], false), (97, .isub, 1, 0, [], [], false), (98, .ireturn, 1, 0, [], [], false)]
def ix_factOf_y : MethodName := ⟨"SpanLayers$Index", "factOf", "(LSpanLayers$Span;I)I"⟩
theorem ix_factOf_tb : sl_tbOK sl_R5 prog_7_method_14_code 3 (some .int) lk_ix [(81, 0), (85, 0), (89, 0), (72, 0), (92, 1)] ix_factOf_cd = true := by decide +kernel
theorem cs_ix_81 (g : sl_G) {hh : Nat} (h : 1 ≤ hh) : sl_CallS g sl_R5 81 0 9 hh 1 sp_length_pt := sl_callV (y := sp_length_y) (T := sl_F9) (N := 6) (sp_length_snd g) h (by decide) (sl_in1 481 (by decide +kernel) rfl) sp_length_w2 sp_length_w3 sp_length_w4 sp_length_w5 sp_length_w6 rfl (by decide)
theorem ix_countCovering_w2 : Cond.instanceMethod ix_countCovering_y ∈ sl_T0 := sl_in1 484 (by decide +kernel) rfl
theorem ix_countCovering_w3 : Cond.selects ix_countCovering_y.cls ix_countCovering_y ix_countCovering_y ∈ sl_T0 := sl_in1 2 (by decide +kernel) rfl
theorem ix_countCovering_w4 : Cond.initialized ix_countCovering_y.cls ∈ sl_T0 := sl_in1 87 (by decide +kernel) rfl
theorem ix_countCovering_w5 : Cond.code ix_countCovering_y prog_7_method_15_code 4 (some .int) ∈ sl_T0 := sl_in1 485 (by decide +kernel) rfl
theorem ix_countCovering_w6 : ix_countCovering_y.cls ≠ "java/lang/invoke/MethodHandle" ∧ ix_countCovering_y.cls ≠ "java/lang/invoke/VarHandle" ∧ (parseMethodDescriptor ix_countCovering_y.desc).map (fun d => d.parameters.length) = some 1 := by decide +kernel
theorem cs_ix_85 (g : sl_G) {hh : Nat} (h : 3 ≤ hh) : sl_CallS g sl_R5 85 0 5 hh 2 ix_countCovering_pt := sl_callV (y := ix_countCovering_y) (T := sl_F5) (N := 2) (ix_countCovering_snd g) h (by decide) (sl_in1 482 (by decide +kernel) rfl) ix_countCovering_w2 ix_countCovering_w3 ix_countCovering_w4 ix_countCovering_w5 ix_countCovering_w6 rfl (by decide)
theorem ix_countCovered_w2 : Cond.instanceMethod ix_countCovered_y ∈ sl_T0 := sl_in1 488 (by decide +kernel) rfl
theorem ix_countCovered_w3 : Cond.selects ix_countCovered_y.cls ix_countCovered_y ix_countCovered_y ∈ sl_T0 := sl_in1 3 (by decide +kernel) rfl
theorem ix_countCovered_w4 : Cond.initialized ix_countCovered_y.cls ∈ sl_T0 := sl_in1 87 (by decide +kernel) rfl
theorem ix_countCovered_w5 : Cond.code ix_countCovered_y prog_7_method_16_code 4 (some .int) ∈ sl_T0 := sl_in1 489 (by decide +kernel) rfl
theorem ix_countCovered_w6 : ix_countCovered_y.cls ≠ "java/lang/invoke/MethodHandle" ∧ ix_countCovered_y.cls ≠ "java/lang/invoke/VarHandle" ∧ (parseMethodDescriptor ix_countCovered_y.desc).map (fun d => d.parameters.length) = some 1 := by decide +kernel
theorem cs_ix_89 (g : sl_G) {hh : Nat} (h : 3 ≤ hh) : sl_CallS g sl_R5 89 0 5 hh 2 ix_countCovered_pt := sl_callV (y := ix_countCovered_y) (T := sl_F5) (N := 2) (ix_countCovered_snd g) h (by decide) (sl_in1 486 (by decide +kernel) rfl) ix_countCovered_w2 ix_countCovered_w3 ix_countCovered_w4 ix_countCovered_w5 ix_countCovered_w6 rfl (by decide)
theorem ix_bitsMeeting_w2 : Cond.instanceMethod ix_bitsMeeting_y ∈ sl_T0 := sl_in1 491 (by decide +kernel) rfl
theorem ix_bitsMeeting_w3 : Cond.selects ix_bitsMeeting_y.cls ix_bitsMeeting_y ix_bitsMeeting_y ∈ sl_T0 := sl_in1 492 (by decide +kernel) rfl
theorem ix_bitsMeeting_w4 : Cond.initialized ix_bitsMeeting_y.cls ∈ sl_T0 := sl_in1 87 (by decide +kernel) rfl
theorem ix_bitsMeeting_w5 : Cond.code ix_bitsMeeting_y prog_7_method_11_code 5 (some .int) ∈ sl_T0 := sl_in1 493 (by decide +kernel) rfl
theorem ix_bitsMeeting_w6 : ix_bitsMeeting_y.cls ≠ "java/lang/invoke/MethodHandle" ∧ ix_bitsMeeting_y.cls ≠ "java/lang/invoke/VarHandle" ∧ (parseMethodDescriptor ix_bitsMeeting_y.desc).map (fun d => d.parameters.length) = some 2 := by decide +kernel
theorem cs_ix_72 (g : sl_G) {hh : Nat} (h : 2 ≤ hh) : sl_CallS g sl_R5 72 0 5 hh 3 ix_bitsMeeting_pt := sl_callV (y := ix_bitsMeeting_y) (T := sl_F5) (N := 2) (ix_bitsMeeting_snd g) h (by decide) (sl_in1 490 (by decide +kernel) rfl) ix_bitsMeeting_w2 ix_bitsMeeting_w3 ix_bitsMeeting_w4 ix_bitsMeeting_w5 ix_bitsMeeting_w6 rfl (by decide)
theorem it_bitCount_w2 : Cond.static it_bitCount_y ∈ sl_T0 := sl_in1 499 (by decide +kernel) rfl
theorem it_bitCount_w4 : Cond.initialized it_bitCount_y.cls ∈ sl_T0 := sl_in1 100 (by decide +kernel) rfl
theorem it_bitCount_w5 : Cond.code it_bitCount_y prog_15_method_49_code 1 (some .int) ∈ sl_T0 := sl_in1 500 (by decide +kernel) rfl
theorem it_bitCount_w6 : it_bitCount_y.cls ≠ "java/lang/invoke/MethodHandle" ∧ it_bitCount_y.cls ≠ "java/lang/invoke/VarHandle" ∧ (parseMethodDescriptor it_bitCount_y.desc).map (fun d => d.parameters.length) = some 1 := by decide +kernel
theorem cs_ix_92 (g : sl_G) {hh : Nat} (h : 1 ≤ hh) : sl_CallS g sl_R5 92 1 0 hh 1 it_bitCount_pt := sl_callS (y := it_bitCount_y) (it_bitCount_snd g) h (by decide) (sl_in1 498 (by decide +kernel) rfl) it_bitCount_w2 it_bitCount_w4 it_bitCount_w5 it_bitCount_w6
def ix_factOf_ct : List sl_Ct := [(1, 0, 9, sp_length_pt), (2, 0, 5, ix_countCovering_pt), (2, 0, 5, ix_countCovered_pt), (3, 0, 5, ix_bitsMeeting_pt), (1, 1, 0, it_bitCount_pt)]
theorem ix_factOf_hc (g : sl_G) : sl_HC g sl_R5 3 ix_factOf_ct [(81, 0), (85, 0), (89, 0), (72, 0), (92, 1)] := sl_HC_cons (cs_ix_81 g (by decide)) (sl_HC_cons (cs_ix_85 g (by decide)) (sl_HC_cons (cs_ix_89 g (by decide)) (sl_HC_cons (cs_ix_72 g (by decide)) (sl_HC_cons (cs_ix_92 g (by decide)) (sl_HC_nil g sl_R5 3)))))
set_option maxRecDepth 20000 in
set_option maxHeartbeats 2000000 in
theorem ix_factOf_snd (g : sl_G) : sl_Snd g ix_factOf_y prog_7_method_14_code 3 (some .int) 3 (ix_factOf_pt) := by
  intro As μ Q hw h
  unfold ix_factOf_pt at h
  split at h
  next c0 a0 c1 a1 a2 =>
    split at h
    next e_ =>
      subst e_
      split at h
      next e_ =>
        subst e_
        split at h
        next e_ =>
          subst e_
          refine sl_mk2 g [true, true, true] (cst := [some (.inr (.inr (some (5, 1)))), some (.inr (.inr (some (9, a1)))), some (.inl a2)]) (lv0 := [none, none, none]) (by decide) rfl hw rfl rfl rfl lk_ix_ok (ix_factOf_hc g) ix_factOf_tb rfl ?_
          intro X M
          exact ⟨_, sl_VV0, h⟩
        next => exact h.elim
      next => exact h.elim
    next => exact h.elim
  next => exact h.elim
def sp_lieAhead (a0 : Nat) (a1 : Nat) (μ : sl_M) (Q : Int32 → sl_M → Prop) : Prop := ((μ a0 2) < (μ a1 2) → ((μ a0 3) < (μ a1 2) → (((μ a0 3) + (1 : Int32)) < (μ a1 2) → Q (0 : Int32) μ) ∧ (¬ ((μ a0 3) + (1 : Int32)) < (μ a1 2) → Q (1 : Int32) μ)) ∧ (¬ (μ a0 3) < (μ a1 2) → ((μ a0 3) < (μ a1 3) → Q (2 : Int32) μ) ∧ (¬ (μ a0 3) < (μ a1 3) → ((μ a0 3) = (μ a1 3) → Q (3 : Int32) μ) ∧ (¬ (μ a0 3) = (μ a1 3) → Q (4 : Int32) μ)))) ∧ (¬ (μ a0 2) < (μ a1 2) → ((μ a0 2) = (μ a1 2) → ((μ a0 3) ≤ (μ a1 3) → ((μ a0 3) < (μ a1 3) → Q (5 : Int32) μ) ∧ (¬ (μ a0 3) < (μ a1 3) → Q (6 : Int32) μ)) ∧ (¬ (μ a0 3) ≤ (μ a1 3) → Q (-1 : Int32) μ)) ∧ (¬ (μ a0 2) = (μ a1 2) → Q (-1 : Int32) μ))
def sp_lieAhead_pt : sl_PT := fun As μ Q => match As with
  | [.inr (.inr (some (c0, a0))), .inr (.inr (some (c1, a1)))] => if c0 = 9 then (if c1 = 9 then (sp_lieAhead a0 a1 μ (fun r μ' => Q (some (.inl r)) μ')) else False) else False
  | _ => False
def sp_lieAhead_cd : List sl_Ent := [(0, .aload_n 0, 1, 0, [0], [], false), (1, .getfield 19, 3, 0, [9, 2, 0, 0, 0], [], false), (4, .aload_n 1, 1, 0, [1], [], false), (5, .getfield 19, 3, 0, [9, 2, 0, 0, 0], [], false), (8, .if_icmp .ge 65, 3, 0, [73], [], false), (11, .aload_n 0, 1, 0, [0], [], false), (12, .getfield 22, 3, 0, [9, 3, 0, 0, 0], [], false), (15, .aload_n 1, 1, 0, [1], [], false), (16, .getfield 19, 3, 0, [9, 2, 0, 0, 0], [], false), (19, .if_icmp .ge 22, 3, 0, [41], [], false), (22, .aload_n 0, 1, 0, [0], [], false), (23, .getfield 22, 3, 0, [9, 3, 0, 0, 0], [], false), (26, .iconst 1, 1, 1, [], [], false), (27, .iadd, 1, 0, [], [], false), (28, .aload_n 1, 1, 0, [1], [], false), (29, .getfield 19, 3, 0, [9, 2, 0, 0, 0], [], false), (32, .if_icmp .ge 7, 3, 0, [39], [], false), (35, .iconst 0, 1, 0, [], [], false), (36, .goto 4, 3, 0, [40], [], false), (39, .iconst 1, 1, 1, [], [], false), (40, .ireturn, 1, 0, [], [], false), (41, .aload_n 0, 1, 0, [0], [], false), (42, .getfield 22, 3, 0, [9, 3, 0, 0, 0], [], false), (45, .aload_n 1, 1, 0, [1], [], false), (46, .getfield 22, 3, 0, [9, 3, 0, 0, 0], [], false), (49, .if_icmp .ge 7, 3, 0, [56], [], false), (52, .iconst 2, 1, 2, [], [], false), (53, .goto 19, 3, 0, [72], [], false), (56, .aload_n 0, 1, 0, [0], [], false), (57, .getfield 22, 3, 0, [9, 3, 0, 0, 0], [], false), (60, .aload_n 1, 1, 0, [1], [], false), (61, .getfield 22, 3, 0, [9, 3, 0, 0, 0], [], false), (64, .if_icmp .ne 7, 3, 0, [71], [], false), (67, .iconst 3, 1, 3, [], [], false), (68, .goto 4, 3, 0, [72], [], false), (71, .iconst 4, 1, 4, [], [], false), (72, .ireturn, 1, 0, [], [], false), (73, .aload_n 0, 1, 0, [0], [], false), (74, .getfield 19, 3, 0, [9, 2, 0, 0, 0], [], false), (77, .aload_n 1, 1, 0, [1], [], false), (78, .getfield 19, 3, 0, [9, 2, 0, 0, 0], [], false), (81, .if_icmp .ne 32, 3, 0, [113], [], false), (84, .aload_n 0, 1, 0, [0], [], false), (85, .getfield 22, 3, 0, [9, 3, 0, 0, 0], [], false), (88, .aload_n 1, 1, 0, [1], [], false), (89, .getfield 22, 3, 0, [9, 3, 0, 0, 0], [], false), (92, .if_icmp .gt 21, 3, 0, [113], [], false), (95, .aload_n 0, 1, 0, [0], [], false), (96, .getfield 22, 3, 0, [9, 3, 0, 0, 0], [], false), (99, .aload_n 1, 1, 0, [1], [], false), (100, .getfield 22, 3, 0, [9, 3, 0, 0, 0], [], false), (103, .if_icmp .ge 7, 3, 0, [110], [], false), (106, .iconst 5, 1, 5, [], [], false), (107, .goto 5, 3, 0, [112], [], false), (110, .bipush 6, 2, 6, [], [], false), (112, .ireturn, 1, 0, [], [], false), (113, .iconst (-1), 1, (-1), [], [], false), (114, .ireturn, 1, 0, [], [], false)]
def sp_lieAhead_y : MethodName := ⟨"SpanLayers$Span", "lieAhead", "(LSpanLayers$Span;)I"⟩
theorem sp_lieAhead_tb : sl_tbOK sl_R9 prog_11_method_7_code 2 (some .int) lk_sp [] sp_lieAhead_cd = true := by decide +kernel
def sp_lieAhead_ct : List sl_Ct := []
theorem sp_lieAhead_hc (g : sl_G) : sl_HC g sl_R9 0 sp_lieAhead_ct [] := sl_HC_nil g sl_R9 0
set_option maxRecDepth 20000 in
set_option maxHeartbeats 2000000 in
theorem sp_lieAhead_snd (g : sl_G) : sl_Snd g sp_lieAhead_y prog_11_method_7_code 2 (some .int) 0 (sp_lieAhead_pt) := by
  intro As μ Q hw h
  unfold sp_lieAhead_pt at h
  split at h
  next c0 a0 c1 a1 =>
    split at h
    next e_ =>
      subst e_
      split at h
      next e_ =>
        subst e_
        refine sl_mk2 g [true, true] (cst := [some (.inr (.inr (some (9, a0)))), some (.inr (.inr (some (9, a1))))]) (lv0 := [none, none]) (by decide) rfl hw rfl rfl rfl lk_sp_ok (sp_lieAhead_hc g) sp_lieAhead_tb rfl ?_
        intro X M
        exact ⟨_, sl_VV0, h⟩
      next => exact h.elim
    next => exact h.elim
  next => exact h.elim
def sp_lieTo (a0 : Nat) (a1 : Nat) (μ : sl_M) (Q : Int32 → sl_M → Prop) : Prop := sp_lieAhead a0 a1 μ (fun r2 m1 => (r2 < (0 : Int32) → sp_lieAhead a1 a0 m1 (fun r4 m3 => Q ((12 : Int32) - r4) m3)) ∧ (¬ r2 < (0 : Int32) → Q r2 m1))
def sp_lieTo_pt : sl_PT := fun As μ Q => match As with
  | [.inr (.inr (some (c0, a0))), .inr (.inr (some (c1, a1)))] => if c0 = 9 then (if c1 = 9 then (sp_lieTo a0 a1 μ (fun r μ' => Q (some (.inl r)) μ')) else False) else False
  | _ => False
def sp_lieTo_cd : List sl_Ent := [(0, .aload_n 0, 1, 0, [0], [], false), (1, .aload_n 1, 1, 0, [1], [], false), (2, .invokevirtual 35, 3, 0, [0], [], false), (5, .istore_n 2, 1, 0, [2], [], false), (6, .iload_n 2, 1, 0, [2], [], false), (7, .ifCond .lt 7, 3, 0, [14], [], false), (10, .iload_n 2, 1, 0, [2], [], false), (11, .goto 11, 3, 0, [22], [], false), (14, .bipush 12, 2, 12, [], [], false), (16, .aload_n 1, 1, 0, [1], [], false), (17, .aload_n 0, 1, 0, [0], [], false), (18, .invokevirtual 35, 3, 0, [0], [], false), (21, .isub, 1, 0, [], [], false), (22, .ireturn, 1, 0, [], [], false)]
def sp_lieTo_y : MethodName := ⟨"SpanLayers$Span", "lieTo", "(LSpanLayers$Span;)I"⟩
theorem sp_lieTo_tb : sl_tbOK sl_R9 prog_11_method_6_code 3 (some .int) lk_sp [(35, 0)] sp_lieTo_cd = true := by decide +kernel
theorem sp_lieAhead_w2 : Cond.instanceMethod sp_lieAhead_y ∈ sl_T0 := sl_in1 514 (by decide +kernel) rfl
theorem sp_lieAhead_w3 : Cond.selects sp_lieAhead_y.cls sp_lieAhead_y sp_lieAhead_y ∈ sl_T0 := sl_in1 4 (by decide +kernel) rfl
theorem sp_lieAhead_w4 : Cond.initialized sp_lieAhead_y.cls ∈ sl_T0 := sl_in1 88 (by decide +kernel) rfl
theorem sp_lieAhead_w5 : Cond.code sp_lieAhead_y prog_11_method_7_code 2 (some .int) ∈ sl_T0 := sl_in1 515 (by decide +kernel) rfl
theorem sp_lieAhead_w6 : sp_lieAhead_y.cls ≠ "java/lang/invoke/MethodHandle" ∧ sp_lieAhead_y.cls ≠ "java/lang/invoke/VarHandle" ∧ (parseMethodDescriptor sp_lieAhead_y.desc).map (fun d => d.parameters.length) = some 1 := by decide +kernel
theorem cs_sp_35 (g : sl_G) {hh : Nat} (h : 1 ≤ hh) : sl_CallS g sl_R9 35 0 9 hh 2 sp_lieAhead_pt := sl_callV (y := sp_lieAhead_y) (T := sl_F9) (N := 6) (sp_lieAhead_snd g) h (by decide) (sl_in1 512 (by decide +kernel) rfl) sp_lieAhead_w2 sp_lieAhead_w3 sp_lieAhead_w4 sp_lieAhead_w5 sp_lieAhead_w6 rfl (by decide)
def sp_lieTo_ct : List sl_Ct := [(2, 0, 9, sp_lieAhead_pt)]
theorem sp_lieTo_hc (g : sl_G) : sl_HC g sl_R9 1 sp_lieTo_ct [(35, 0)] := sl_HC_cons (cs_sp_35 g (by decide)) (sl_HC_nil g sl_R9 1)
set_option maxRecDepth 20000 in
set_option maxHeartbeats 2000000 in
theorem sp_lieTo_snd (g : sl_G) : sl_Snd g sp_lieTo_y prog_11_method_6_code 3 (some .int) 1 (sp_lieTo_pt) := by
  intro As μ Q hw h
  unfold sp_lieTo_pt at h
  split at h
  next c0 a0 c1 a1 =>
    split at h
    next e_ =>
      subst e_
      split at h
      next e_ =>
        subst e_
        refine sl_mk2 g [true, true, false] (cst := [some (.inr (.inr (some (9, a0)))), some (.inr (.inr (some (9, a1))))]) (lv0 := [none, none, none]) (by decide) rfl hw rfl rfl rfl lk_sp_ok (sp_lieTo_hc g) sp_lieTo_tb rfl ?_
        intro X M
        exact ⟨_, sl_VV0, h⟩
      next => exact h.elim
    next => exact h.elim
  next => exact h.elim
def ix_stabbedAt_B82 (a1 : Int32) (a2 : Int32) (a3 : Int32) (Q : Int32 → sl_M → Prop) (k13 : Int32 → Int32 → Int32 → sl_M → Prop) : Int32 → Int32 → Int32 → Int32 → sl_M → Prop
  | x4, x5, x6, x7, μ => (x7 = (0 : Int32) → ∀ v3, v3 = (x5 - (0 : Int32)) → k13 x4 v3 (x6 + (1 : Int32)) μ) ∧ (¬ x7 = (0 : Int32) → ∀ v4, v4 = (x5 - (1 : Int32)) → k13 x4 v4 (x6 + (1 : Int32)) μ)
def ix_stabbedAt_B54 (a1 : Int32) (a2 : Int32) (a3 : Int32) (Q : Int32 → sl_M → Prop) (k13 : Int32 → Int32 → Int32 → sl_M → Prop) : Int32 → Int32 → Int32 → sl_M → Prop
  | x4, x5, x6, μ => ((1 : Int32) = (0 : Int32) → ix_stabbedAt_B82 a1 a2 a3 Q k13 x4 x5 x6 (1 : Int32) μ) ∧ (¬ (1 : Int32) = (0 : Int32) → (x5 = (0 : Int32) → vp_in x6 30 ∧ sl_kd (μ 3 x6.toNatClampNeg).toNatClampNeg = 9 ∧ Q (μ ((μ 3 x6.toNatClampNeg).toNatClampNeg) 0) μ) ∧ (¬ x5 = (0 : Int32) → ix_stabbedAt_B82 a1 a2 a3 Q k13 x4 x5 x6 (1 : Int32) μ))
def ix_stabbedAt_L13 (a1 : Int32) (a2 : Int32) (a3 : Int32) (Q : Int32 → sl_M → Prop) : Nat → Int32 → Int32 → Int32 → sl_M → Prop
  | 0, _, _, _, _ => False
  | n + 1, x4, x5, x6, μ => (x6 < x4 → vp_in x6 30 ∧ sl_kd (μ 3 x6.toNatClampNeg).toNatClampNeg = 9 ∧ sp_meets ((μ 3 x6.toNatClampNeg).toNatClampNeg) a1 a1 μ (fun r2 m1 => (r2 = (0 : Int32) → ((0 : Int32) = (0 : Int32) → ix_stabbedAt_B82 a1 a2 a3 Q (ix_stabbedAt_L13 a1 a2 a3 Q n) x4 x5 x6 (0 : Int32) m1) ∧ (¬ (0 : Int32) = (0 : Int32) → (x5 = (0 : Int32) → vp_in x6 30 ∧ sl_kd (m1 3 x6.toNatClampNeg).toNatClampNeg = 9 ∧ Q (m1 ((m1 3 x6.toNatClampNeg).toNatClampNeg) 0) m1) ∧ (¬ x5 = (0 : Int32) → ix_stabbedAt_B82 a1 a2 a3 Q (ix_stabbedAt_L13 a1 a2 a3 Q n) x4 x5 x6 (0 : Int32) m1))) ∧ (¬ r2 = (0 : Int32) → (a2 = (-1 : Int32) → ix_stabbedAt_B54 a1 a2 a3 Q (ix_stabbedAt_L13 a1 a2 a3 Q n) x4 x5 x6 m1) ∧ (¬ a2 = (-1 : Int32) → vp_in x6 30 ∧ sl_kd (m1 3 x6.toNatClampNeg).toNatClampNeg = 9 ∧ ((m1 ((m1 3 x6.toNatClampNeg).toNatClampNeg) 5) = a2 → ix_stabbedAt_B54 a1 a2 a3 Q (ix_stabbedAt_L13 a1 a2 a3 Q n) x4 x5 x6 m1) ∧ (¬ (m1 ((m1 3 x6.toNatClampNeg).toNatClampNeg) 5) = a2 → ((0 : Int32) = (0 : Int32) → ix_stabbedAt_B82 a1 a2 a3 Q (ix_stabbedAt_L13 a1 a2 a3 Q n) x4 x5 x6 (0 : Int32) m1) ∧ (¬ (0 : Int32) = (0 : Int32) → (x5 = (0 : Int32) → vp_in x6 30 ∧ sl_kd (m1 3 x6.toNatClampNeg).toNatClampNeg = 9 ∧ Q (m1 ((m1 3 x6.toNatClampNeg).toNatClampNeg) 0) m1) ∧ (¬ x5 = (0 : Int32) → ix_stabbedAt_B82 a1 a2 a3 Q (ix_stabbedAt_L13 a1 a2 a3 Q n) x4 x5 x6 (0 : Int32) m1))))))) ∧ (¬ x6 < x4 → Q (-5 : Int32) μ)
def ix_stabbedAt (a1 : Int32) (a2 : Int32) (a3 : Int32) (μ : sl_M) (Q : Int32 → sl_M → Prop) : Prop := ix_sortBy (0 : Int32) μ (fun r6 m5 => ∃ n7, ix_stabbedAt_L13 a1 a2 a3 Q n7 r6 a3 (0 : Int32) m5)
def ix_stabbedAt_pt : sl_PT := fun As μ Q => match As with
  | [.inr (.inr (some (c0, a0))), .inl a1, .inl a2, .inl a3] => if c0 = 5 then (if a0 = 1 then (ix_stabbedAt a1 a2 a3 μ (fun r μ' => Q (some (.inl r)) μ')) else False) else False
  | _ => False
def ix_stabbedAt_cd : List sl_Ent := [(0, .aload_n 0, 1, 0, [0], [], false), (1, .iconst 0, 1, 0, [], [], false), (2, .invokevirtual 51, 3, 0, [0], [], false), (5, .istore 4, 2, 0, [4], [], false), (7, .iload_n 3, 1, 0, [3], [], false), (8, .istore 5, 2, 0, [5], [], false), (10, .iconst 0, 1, 0, [], [], false), (11, .istore 6, 2, 0, [6], [], false), (13, .iload 6, 2, 0, [6], [], true), (15, .iload 4, 2, 0, [4], [], false), (17, .if_icmp .ge 86, 3, 0, [103], [], false), (20, .aload_n 0, 1, 0, [0], [], false), (21, .getfield 17, 3, 0, [5, 1, 2, 23, 2], [], false), (24, .iload 6, 2, 0, [6], [], false), (26, .aaload, 1, 0, [], [], false), (27, .iload_n 1, 1, 0, [1], [], false), (28, .iload_n 1, 1, 0, [1], [], false), (29, .invokevirtual 75, 3, 0, [1], [], false), (32, .ifCond .eq 26, 3, 0, [58], [], false), (35, .iload_n 2, 1, 0, [2], [], false), (36, .iconst (-1), 1, (-1), [], [], false), (37, .if_icmp .eq 17, 3, 0, [54], [], false), (40, .aload_n 0, 1, 0, [0], [], false), (41, .getfield 17, 3, 0, [5, 1, 2, 23, 2], [], false), (44, .iload 6, 2, 0, [6], [], false), (46, .aaload, 1, 0, [], [], false), (47, .getfield 59, 3, 0, [9, 5, 0, 0, 0], [], false), (50, .iload_n 2, 1, 0, [2], [], false), (51, .if_icmp .ne 7, 3, 0, [58], [], false), (54, .iconst 1, 1, 1, [], [], true), (55, .goto 4, 3, 0, [59], [], false), (58, .iconst 0, 1, 0, [], [], false), (59, .istore 7, 2, 0, [7], [], false), (61, .iload 7, 2, 0, [7], [], false), (63, .ifCond .eq 19, 3, 0, [82], [], false), (66, .iload 5, 2, 0, [5], [], false), (68, .ifCond .ne 14, 3, 0, [82], [], false), (71, .aload_n 0, 1, 0, [0], [], false), (72, .getfield 17, 3, 0, [5, 1, 2, 23, 2], [], false), (75, .iload 6, 2, 0, [6], [], false), (77, .aaload, 1, 0, [], [], false), (78, .getfield 78, 3, 0, [9, 0, 0, 0, 0], [], false), (81, .ireturn, 1, 0, [], [], false), (82, .iload 5, 2, 0, [5], [], true), (84, .iload 7, 2, 0, [7], [], false), (86, .ifCond .eq 7, 3, 0, [93], [], false), (89, .iconst 1, 1, 1, [], [], false), (90, .goto 4, 3, 0, [94], [], false), (93, .iconst 0, 1, 0, [], [], false), (94, .isub, 1, 0, [], [], false), (95, .istore 5, 2, 0, [5, 1], [], false), (97, .iinc 6 1, 3, 1, [], [], false), (100, .goto (-87), 3, 0, [13], [], false), (103, .bipush (-5), 2, (-5), [], [], false), (105, .ireturn, 1, 0, [], [], false)]
def ix_stabbedAt_y : MethodName := ⟨"SpanLayers$Index", "stabbedAt", "(III)I"⟩
theorem ix_stabbedAt_tb : sl_tbOK sl_R5 prog_7_method_13_code 8 (some .int) lk_ix [(51, 0), (75, 0)] ix_stabbedAt_cd = true := by decide +kernel
def ix_stabbedAt_ct : List sl_Ct := [(2, 0, 5, ix_sortBy_pt), (3, 0, 9, sp_meets_pt)]
theorem ix_stabbedAt_hc (g : sl_G) : sl_HC g sl_R5 4 ix_stabbedAt_ct [(51, 0), (75, 0)] := sl_HC_cons (cs_ix_51 g (by decide)) (sl_HC_cons (cs_ix_75 g (by decide)) (sl_HC_nil g sl_R5 4))
set_option maxRecDepth 20000 in
set_option maxHeartbeats 2000000 in
theorem ix_stabbedAt_snd (g : sl_G) : sl_Snd g ix_stabbedAt_y prog_7_method_13_code 8 (some .int) 4 (ix_stabbedAt_pt) := by
  intro As μ Q hw h
  unfold ix_stabbedAt_pt at h
  split at h
  next c0 a0 a1 a2 a3 =>
    split at h
    next e_ =>
      subst e_
      split at h
      next e_ =>
        subst e_
        refine sl_mk2 g [true, true, true, true, false, false, false, false] (cst := [some (.inr (.inr (some (5, 1)))), some (.inl a1), some (.inl a2), some (.inl a3)]) (lv0 := [none, none, none, none, none, none, none, none]) (by decide) rfl hw rfl rfl rfl lk_ix_ok (ix_stabbedAt_hc g) ix_stabbedAt_tb rfl ?_
        intro X M
        have v13 := sl_extL M sl_VV0 13 (fun n lv st μ => match lv, st with | [_, _, _, _, some (.inl x4), some (.inl x5), some (.inl x6), _], [] => ix_stabbedAt_L13 a1 a2 a3 (fun r μ' => Q (some (.inl r)) μ') n x4 x5 x6 μ | _, _ => False) (by
            intro lv st μ h
            split at h
            · exact h
            · exact h) (by
            intro n13 w13
            have v82 := sl_ext M w13 82 (fun lv st μ => match lv, st with | [_, _, _, _, some (.inl x4), some (.inl x5), some (.inl x6), some (.inl x7)], [] => ix_stabbedAt_B82 a1 a2 a3 (fun r μ' => Q (some (.inl r)) μ') (ix_stabbedAt_L13 a1 a2 a3 (fun r μ' => Q (some (.inl r)) μ') n13) x4 x5 x6 x7 μ | _, _ => False) (by
                intro lv st μ h
                split at h
                · exact h
                · exact h.elim)
            have v54 := sl_ext M v82 54 (fun lv st μ => match lv, st with | [_, _, _, _, some (.inl x4), some (.inl x5), some (.inl x6), _], [] => ix_stabbedAt_B54 a1 a2 a3 (fun r μ' => Q (some (.inl r)) μ') (ix_stabbedAt_L13 a1 a2 a3 (fun r μ' => Q (some (.inl r)) μ') n13) x4 x5 x6 μ | _, _ => False) (by
                intro lv st μ h
                split at h
                · exact h
                · exact h.elim)
            refine ⟨_, v54, ?_⟩
            intro lv st μ h
            split at h
            · exact h
            · exact h.elim)
        exact ⟨_, v13, h⟩
      next => exact h.elim
    next => exact h.elim
  next => exact h.elim
def ix_isPair (a0 : Nat) (a1 : Nat) (a2 : Int32) (μ : sl_M) (Q : Int32 → sl_M → Prop) : Prop := (a2 = (0 : Int32) → sp_meets a0 (μ a1 2) (μ a1 3) μ (fun r2 m1 => sl_bz r2 = r2 ∧ Q r2 m1)) ∧ (¬ a2 = (0 : Int32) → (a2 = (1 : Int32) → sp_covers a0 a1 μ (fun r4 m3 => (r4 = (0 : Int32) → sp_covers a1 a0 m3 (fun r6 m5 => (r6 = (0 : Int32) → sl_bz (0 : Int32) = (0 : Int32) ∧ Q (0 : Int32) m5) ∧ (¬ r6 = (0 : Int32) → sl_bz (1 : Int32) = (1 : Int32) ∧ Q (1 : Int32) m5))) ∧ (¬ r4 = (0 : Int32) → sl_bz (1 : Int32) = (1 : Int32) ∧ Q (1 : Int32) m3))) ∧ (¬ a2 = (1 : Int32) → (a2 = (2 : Int32) → sp_meets a0 (μ a1 2) (μ a1 3) μ (fun r8 m7 => (r8 = (0 : Int32) → sl_bz (1 : Int32) = (1 : Int32) ∧ Q (1 : Int32) m7) ∧ (¬ r8 = (0 : Int32) → sl_bz (0 : Int32) = (0 : Int32) ∧ Q (0 : Int32) m7))) ∧ (¬ a2 = (2 : Int32) → sp_lieTo a0 a1 μ (fun r10 m9 => (r10 = (1 : Int32) → sl_bz (1 : Int32) = (1 : Int32) ∧ Q (1 : Int32) m9) ∧ (¬ r10 = (1 : Int32) → sp_lieTo a1 a0 m9 (fun r12 m11 => (r12 = (1 : Int32) → sl_bz (1 : Int32) = (1 : Int32) ∧ Q (1 : Int32) m11) ∧ (¬ r12 = (1 : Int32) → sl_bz (0 : Int32) = (0 : Int32) ∧ Q (0 : Int32) m11)))))))
def ix_isPair_pt : sl_PT := fun As μ Q => match As with
  | [.inr (.inr (some (c0, a0))), .inr (.inr (some (c1, a1))), .inl a2] => if c0 = 9 then (if c1 = 9 then (ix_isPair a0 a1 a2 μ (fun r μ' => Q (some (.inl r)) μ')) else False) else False
  | _ => False
def ix_isPair_cd : List sl_Ent := [(0, .iload_n 2, 1, 0, [2], [], false), (1, .tableswitch 83 0 2 #[27, 40, 62], 27, 0, [84], [(0, 28), (1, 41), (2, 63)], false), (28, .aload_n 0, 1, 0, [0], [], false), (29, .aload_n 1, 1, 0, [1], [], false), (30, .getfield 35, 3, 0, [9, 2, 0, 0, 0], [], false), (33, .aload_n 1, 1, 0, [1], [], false), (34, .getfield 39, 3, 0, [9, 3, 0, 0, 0], [], false), (37, .invokevirtual 75, 3, 0, [0], [], false), (40, .ireturn, 1, 0, [1], [], false), (41, .aload_n 0, 1, 0, [0], [], false), (42, .aload_n 1, 1, 0, [1], [], false), (43, .invokevirtual 55, 3, 0, [1], [], false), (46, .ifCond .ne 11, 3, 0, [57], [], false), (49, .aload_n 1, 1, 0, [1], [], false), (50, .aload_n 0, 1, 0, [0], [], false), (51, .invokevirtual 55, 3, 0, [1], [], false), (54, .ifCond .eq 7, 3, 0, [61], [], false), (57, .iconst 1, 1, 1, [], [], false), (58, .goto 4, 3, 0, [62], [], false), (61, .iconst 0, 1, 0, [], [], false), (62, .ireturn, 1, 0, [1], [], false), (63, .aload_n 0, 1, 0, [0], [], false), (64, .aload_n 1, 1, 0, [1], [], false), (65, .getfield 35, 3, 0, [9, 2, 0, 0, 0], [], false), (68, .aload_n 1, 1, 0, [1], [], false), (69, .getfield 39, 3, 0, [9, 3, 0, 0, 0], [], false), (72, .invokevirtual 75, 3, 0, [0], [], false), (75, .ifCond .ne 7, 3, 0, [82], [], false), (78, .iconst 1, 1, 1, [], [], false), (79, .goto 4, 3, 0, [83], [], false), (82, .iconst 0, 1, 0, [], [], false), (83, .ireturn, 1, 0, [1], [], false), (84, .aload_n 0, 1, 0, [0], [], false), (85, .aload_n 1, 1, 0, [1], [], false), (86, .invokevirtual 101, 3, 0, [2], [], false), (89, .iconst 1, 1, 1, [], [], false), (90, .if_icmp .eq 12, 3, 0, [102], [], false), (93, .aload_n 1, 1, 0, [1], [], false), (94, .aload_n 0, 1, 0, [0], [], false), (95, .invokevirtual 101, 3, 0, [2], [], false), (98, .iconst 1, 1, 1, [], [], false), (99, .if_icmp .ne 7, 3, 0, [106], [], false), (102, .iconst 1, 1, 1, [], [], false), (103, .goto 4, 3, 0, [107], [], false), (106, .iconst 0, 1, 0, [], [], false), (107, .ireturn, 1, 0, [1], [], false)]
def ix_isPair_y : MethodName := ⟨"SpanLayers$Index", "isPair", "(LSpanLayers$Span;LSpanLayers$Span;I)Z"⟩
theorem ix_isPair_tb : sl_tbOK sl_R5 prog_7_method_18_code 3 (some .boolean) lk_ix [(75, 0), (55, 0), (101, 0)] ix_isPair_cd = true := by decide +kernel
theorem sp_lieTo_w2 : Cond.instanceMethod sp_lieTo_y ∈ sl_T0 := sl_in1 509 (by decide +kernel) rfl
theorem sp_lieTo_w3 : Cond.selects sp_lieTo_y.cls sp_lieTo_y sp_lieTo_y ∈ sl_T0 := sl_in1 510 (by decide +kernel) rfl
theorem sp_lieTo_w4 : Cond.initialized sp_lieTo_y.cls ∈ sl_T0 := sl_in1 88 (by decide +kernel) rfl
theorem sp_lieTo_w5 : Cond.code sp_lieTo_y prog_11_method_6_code 3 (some .int) ∈ sl_T0 := sl_in1 511 (by decide +kernel) rfl
theorem sp_lieTo_w6 : sp_lieTo_y.cls ≠ "java/lang/invoke/MethodHandle" ∧ sp_lieTo_y.cls ≠ "java/lang/invoke/VarHandle" ∧ (parseMethodDescriptor sp_lieTo_y.desc).map (fun d => d.parameters.length) = some 1 := by decide +kernel
theorem cs_ix_101 (g : sl_G) {hh : Nat} (h : 2 ≤ hh) : sl_CallS g sl_R5 101 0 9 hh 2 sp_lieTo_pt := sl_callV (y := sp_lieTo_y) (T := sl_F9) (N := 6) (sp_lieTo_snd g) h (by decide) (sl_in1 544 (by decide +kernel) rfl) sp_lieTo_w2 sp_lieTo_w3 sp_lieTo_w4 sp_lieTo_w5 sp_lieTo_w6 rfl (by decide)
def ix_isPair_ct : List sl_Ct := [(3, 0, 9, sp_meets_pt), (2, 0, 9, sp_covers_pt), (2, 0, 9, sp_lieTo_pt)]
theorem ix_isPair_hc (g : sl_G) : sl_HC g sl_R5 2 ix_isPair_ct [(75, 0), (55, 0), (101, 0)] := sl_HC_cons (cs_ix_75 g (by decide)) (sl_HC_cons (cs_ix_55 g (by decide)) (sl_HC_cons (cs_ix_101 g (by decide)) (sl_HC_nil g sl_R5 2)))
set_option maxRecDepth 20000 in
set_option maxHeartbeats 2000000 in
theorem ix_isPair_snd (g : sl_G) : sl_Snd g ix_isPair_y prog_7_method_18_code 3 (some .boolean) 2 (ix_isPair_pt) := by
  intro As μ Q hw h
  unfold ix_isPair_pt at h
  split at h
  next c0 a0 c1 a1 a2 =>
    split at h
    next e_ =>
      subst e_
      split at h
      next e_ =>
        subst e_
        refine sl_mk2 g [true, true, true] (cst := [some (.inr (.inr (some (9, a0)))), some (.inr (.inr (some (9, a1)))), some (.inl a2)]) (lv0 := [none, none, none]) (by decide) rfl hw rfl rfl rfl lk_ix_ok (ix_isPair_hc g) ix_isPair_tb rfl ?_
        intro X M
        exact ⟨_, sl_VV0, h⟩
      next => exact h.elim
    next => exact h.elim
  next => exact h.elim
def ix_countPairs_L13 (a1 : Int32) (Q : Int32 → sl_M → Prop) (k4 : Int32 → Int32 → sl_M → Prop) : Nat → Int32 → Int32 → Int32 → sl_M → Prop
  | 0, _, _, _, _ => False
  | n + 1, x2, x3, x4, μ => (x4 < x3 → vp_in x3 30 ∧ ((sl_bz (μ (4 + x3.toNatClampNeg) 1)) = (0 : Int32) → (ix_countPairs_L13 a1 Q k4 n) x2 x3 (x4 + (1 : Int32)) μ) ∧ (¬ (sl_bz (μ (4 + x3.toNatClampNeg) 1)) = (0 : Int32) → vp_in x4 30 ∧ ((sl_bz (μ (4 + x4.toNatClampNeg) 1)) = (0 : Int32) → (ix_countPairs_L13 a1 Q k4 n) x2 x3 (x4 + (1 : Int32)) μ) ∧ (¬ (sl_bz (μ (4 + x4.toNatClampNeg) 1)) = (0 : Int32) → vp_in x4 30 ∧ vp_in x3 30 ∧ ix_isPair (4 + x4.toNatClampNeg) (4 + x3.toNatClampNeg) a1 μ (fun r3 m2 => (r3 = (0 : Int32) → (ix_countPairs_L13 a1 Q k4 n) x2 x3 (x4 + (1 : Int32)) m2) ∧ (¬ r3 = (0 : Int32) → (ix_countPairs_L13 a1 Q k4 n) (x2 + (1 : Int32)) x3 (x4 + (1 : Int32)) m2))))) ∧ (¬ x4 < x3 → k4 x2 (x3 + (1 : Int32)) μ)
def ix_countPairs_L4 (a1 : Int32) (Q : Int32 → sl_M → Prop) : Nat → Int32 → Int32 → sl_M → Prop
  | 0, _, _, _ => False
  | n + 1, x2, x3, μ => (x3 < (30 : Int32) → ∃ n1, ix_countPairs_L13 a1 Q (ix_countPairs_L4 a1 Q n) n1 x2 x3 (0 : Int32) μ) ∧ (¬ x3 < (30 : Int32) → Q x2 μ)
def ix_countPairs (a1 : Int32) (μ : sl_M) (Q : Int32 → sl_M → Prop) : Prop := ∃ n4, ix_countPairs_L4 a1 Q n4 (0 : Int32) (0 : Int32) μ
def ix_countPairs_pt : sl_PT := fun As μ Q => match As with
  | [.inr (.inr (some (c0, a0))), .inl a1] => if c0 = 5 then (if a0 = 1 then (ix_countPairs a1 μ (fun r μ' => Q (some (.inl r)) μ')) else False) else False
  | _ => False
def ix_countPairs_cd : List sl_Ent := [(0, .iconst 0, 1, 0, [], [], false), (1, .istore_n 2, 1, 0, [2], [], false), (2, .iconst 0, 1, 0, [], [], false), (3, .istore_n 3, 1, 0, [3], [], false), (4, .iload_n 3, 1, 0, [3], [], true), (5, .bipush 30, 2, 30, [], [], false), (7, .if_icmp .ge 72, 3, 0, [79], [], false), (10, .iconst 0, 1, 0, [], [], false), (11, .istore 4, 2, 0, [4], [], false), (13, .iload 4, 2, 0, [4], [], true), (15, .iload_n 3, 1, 0, [3], [], false), (16, .if_icmp .ge 57, 3, 0, [73], [], false), (19, .aload_n 0, 1, 0, [0], [], false), (20, .getfield 11, 3, 0, [5, 0, 2, 22, 1], [], false), (23, .iload_n 3, 1, 0, [3], [], false), (24, .aaload, 1, 0, [], [], false), (25, .getfield 31, 3, 0, [9, 1, 1, 0, 0], [], false), (28, .ifCond .eq 39, 3, 0, [67], [], false), (31, .aload_n 0, 1, 0, [0], [], false), (32, .getfield 11, 3, 0, [5, 0, 2, 22, 1], [], false), (35, .iload 4, 2, 0, [4], [], false), (37, .aaload, 1, 0, [], [], false), (38, .getfield 31, 3, 0, [9, 1, 1, 0, 0], [], false), (41, .ifCond .eq 26, 3, 0, [67], [], false), (44, .aload_n 0, 1, 0, [0], [], false), (45, .getfield 11, 3, 0, [5, 0, 2, 22, 1], [], false), (48, .iload 4, 2, 0, [4], [], false), (50, .aaload, 1, 0, [], [], false), (51, .aload_n 0, 1, 0, [0], [], false), (52, .getfield 11, 3, 0, [5, 0, 2, 22, 1], [], false), (55, .iload_n 3, 1, 0, [3], [], false), (56, .aaload, 1, 0, [], [], false), (57, .iload_n 1, 1, 0, [1], [], false), (58, .invokestatic 97, 3, 0, [0], [], false), (61, .ifCond .eq 6, 3, 0, [67], [], false), (64, .iinc 2 1, 3, 1, [], [], false), (67, .iinc 4 1, 3, 1, [], [], false), (70, .goto (-57), 3, 0, [13], [], false), (73, .iinc 3 1, 3, 1, [], [], false), (76, .goto (-72), 3, 0, [4], [], false), (79, .iload_n 2, 1, 0, [2], [], false), (80, .ireturn, 1, 0, [], [], false)]
def ix_countPairs_y : MethodName := ⟨"SpanLayers$Index", "countPairs", "(I)I"⟩
theorem ix_countPairs_tb : sl_tbOK sl_R5 prog_7_method_17_code 5 (some .int) lk_ix [(97, 1)] ix_countPairs_cd = true := by decide +kernel
theorem ix_isPair_w2 : Cond.static ix_isPair_y ∈ sl_T0 := sl_in1 542 (by decide +kernel) rfl
theorem ix_isPair_w4 : Cond.initialized ix_isPair_y.cls ∈ sl_T0 := sl_in1 87 (by decide +kernel) rfl
theorem ix_isPair_w5 : Cond.code ix_isPair_y prog_7_method_18_code 3 (some .boolean) ∈ sl_T0 := sl_in1 543 (by decide +kernel) rfl
theorem ix_isPair_w6 : ix_isPair_y.cls ≠ "java/lang/invoke/MethodHandle" ∧ ix_isPair_y.cls ≠ "java/lang/invoke/VarHandle" ∧ (parseMethodDescriptor ix_isPair_y.desc).map (fun d => d.parameters.length) = some 3 := by decide +kernel
theorem cs_ix_97 (g : sl_G) {hh : Nat} (h : 3 ≤ hh) : sl_CallS g sl_R5 97 1 0 hh 3 ix_isPair_pt := sl_callS (y := ix_isPair_y) (ix_isPair_snd g) h (by decide) (sl_in1 541 (by decide +kernel) rfl) ix_isPair_w2 ix_isPair_w4 ix_isPair_w5 ix_isPair_w6
def ix_countPairs_ct : List sl_Ct := [(3, 1, 0, ix_isPair_pt)]
theorem ix_countPairs_hc (g : sl_G) : sl_HC g sl_R5 3 ix_countPairs_ct [(97, 1)] := sl_HC_cons (cs_ix_97 g (by decide)) (sl_HC_nil g sl_R5 3)
set_option maxRecDepth 20000 in
set_option maxHeartbeats 2000000 in
theorem ix_countPairs_snd (g : sl_G) : sl_Snd g ix_countPairs_y prog_7_method_17_code 5 (some .int) 3 (ix_countPairs_pt) := by
  intro As μ Q hw h
  unfold ix_countPairs_pt at h
  split at h
  next c0 a0 a1 =>
    split at h
    next e_ =>
      subst e_
      split at h
      next e_ =>
        subst e_
        refine sl_mk2 g [true, true, false, false, false] (cst := [some (.inr (.inr (some (5, 1)))), some (.inl a1)]) (lv0 := [none, none, none, none, none]) (by decide) rfl hw rfl rfl rfl lk_ix_ok (ix_countPairs_hc g) ix_countPairs_tb rfl ?_
        intro X M
        have v4 := sl_extL M sl_VV0 4 (fun n lv st μ => match lv, st with | [_, _, some (.inl x2), some (.inl x3), _], [] => ix_countPairs_L4 a1 (fun r μ' => Q (some (.inl r)) μ') n x2 x3 μ | _, _ => False) (by
            intro lv st μ h
            split at h
            · exact h
            · exact h) (by
            intro n4 w4
            have v13 := sl_extL M w4 13 (fun n lv st μ => match lv, st with | [_, _, some (.inl x2), some (.inl x3), some (.inl x4)], [] => ix_countPairs_L13 a1 (fun r μ' => Q (some (.inl r)) μ') (ix_countPairs_L4 a1 (fun r μ' => Q (some (.inl r)) μ') n4) n x2 x3 x4 μ | _, _ => False) (by
                intro lv st μ h
                split at h
                · exact h
                · exact h) (by
                intro n13 w13
                refine ⟨_, w13, ?_⟩
                intro lv st μ h
                split at h
                · exact h
                · exact h.elim)
            refine ⟨_, v13, ?_⟩
            intro lv st μ h
            split at h
            · exact h
            · exact h.elim)
        exact ⟨_, v4, h⟩
      next => exact h.elim
    next => exact h.elim
  next => exact h.elim
def ix_countAhead_L5 (a1 : Int32) (a2 : Nat) (Q : Int32 → sl_M → Prop) : Nat → Int32 → Int32 → sl_M → Prop
  | 0, _, _, _ => False
  | n + 1, x3, x4, μ => (x4 < (30 : Int32) → vp_in x4 30 ∧ ((sl_bz (μ (4 + x4.toNatClampNeg) 1)) = (0 : Int32) → ∀ v1, v1 = (x3 + (0 : Int32)) → (ix_countAhead_L5 a1 a2 Q n) v1 (x4 + (1 : Int32)) μ) ∧ (¬ (sl_bz (μ (4 + x4.toNatClampNeg) 1)) = (0 : Int32) → vp_in x4 30 ∧ sp_isAhead (4 + x4.toNatClampNeg) a2 a1 μ (fun r3 m2 => (r3 = (0 : Int32) → ∀ v4, v4 = (x3 + (0 : Int32)) → (ix_countAhead_L5 a1 a2 Q n) v4 (x4 + (1 : Int32)) m2) ∧ (¬ r3 = (0 : Int32) → ∀ v5, v5 = (x3 + (1 : Int32)) → (ix_countAhead_L5 a1 a2 Q n) v5 (x4 + (1 : Int32)) m2)))) ∧ (¬ x4 < (30 : Int32) → Q x3 μ)
def ix_countAhead (a1 : Int32) (a2 : Nat) (μ : sl_M) (Q : Int32 → sl_M → Prop) : Prop := ∃ n6, ix_countAhead_L5 a1 a2 Q n6 (0 : Int32) (0 : Int32) μ
def ix_countAhead_pt : sl_PT := fun As μ Q => match As with
  | [.inr (.inr (some (c0, a0))), .inl a1, .inr (.inr (some (c2, a2)))] => if c0 = 5 then (if c2 = 9 then (if a0 = 1 then (ix_countAhead a1 a2 μ (fun r μ' => Q (some (.inl r)) μ')) else False) else False) else False
  | _ => False
def ix_countAhead_cd : List sl_Ent := [(0, .iconst 0, 1, 0, [], [], false), (1, .istore_n 3, 1, 0, [3], [], false), (2, .iconst 0, 1, 0, [], [], false), (3, .istore 4, 2, 0, [4], [], false), (5, .iload 4, 2, 0, [4], [], true), (7, .bipush 30, 2, 30, [], [], false), (9, .if_icmp .ge 45, 3, 0, [54], [], false), (12, .iload_n 3, 1, 0, [3], [], false), (13, .aload_n 0, 1, 0, [0], [], false), (14, .getfield 11, 3, 0, [5, 0, 2, 22, 1], [], false), (17, .iload 4, 2, 0, [4], [], false), (19, .aaload, 1, 0, [], [], false), (20, .getfield 31, 3, 0, [9, 1, 1, 0, 0], [], false), (23, .ifCond .eq 22, 3, 0, [45], [], false), (26, .aload_n 0, 1, 0, [0], [], false), (27, .getfield 11, 3, 0, [5, 0, 2, 22, 1], [], false), (30, .iload 4, 2, 0, [4], [], false), (32, .aaload, 1, 0, [], [], false), (33, .aload_n 2, 1, 0, [2], [], false), (34, .iload_n 1, 1, 0, [1], [], false), (35, .invokevirtual 68, 3, 0, [0], [], false), (38, .ifCond .eq 7, 3, 0, [45], [], false), (41, .iconst 1, 1, 1, [], [], false), (42, .goto 4, 3, 0, [46], [], false), (45, .iconst 0, 1, 0, [], [], false), (46, .iadd, 1, 0, [], [], false), (47, .istore_n 3, 1, 0, [3, 1], [], false), (48, .iinc 4 1, 3, 1, [], [], false), (51, .goto (-46), 3, 0, [5], [], false), (54, .iload_n 3, 1, 0, [3], [], false), (55, .ireturn, 1, 0, [], [], false)]
def ix_countAhead_y : MethodName := ⟨"SpanLayers$Index", "countAhead", "(ILSpanLayers$Span;)I"⟩
theorem ix_countAhead_tb : sl_tbOK sl_R5 prog_7_method_19_code 5 (some .int) lk_ix [(68, 0)] ix_countAhead_cd = true := by decide +kernel
def ix_countAhead_ct : List sl_Ct := [(3, 0, 9, sp_isAhead_pt)]
theorem ix_countAhead_hc (g : sl_G) : sl_HC g sl_R5 3 ix_countAhead_ct [(68, 0)] := sl_HC_cons (cs_ix_68 g (by decide)) (sl_HC_nil g sl_R5 3)
set_option maxRecDepth 20000 in
set_option maxHeartbeats 2000000 in
theorem ix_countAhead_snd (g : sl_G) : sl_Snd g ix_countAhead_y prog_7_method_19_code 5 (some .int) 3 (ix_countAhead_pt) := by
  intro As μ Q hw h
  unfold ix_countAhead_pt at h
  split at h
  next c0 a0 a1 c2 a2 =>
    split at h
    next e_ =>
      subst e_
      split at h
      next e_ =>
        subst e_
        split at h
        next e_ =>
          subst e_
          refine sl_mk2 g [true, true, true, false, false] (cst := [some (.inr (.inr (some (5, 1)))), some (.inl a1), some (.inr (.inr (some (9, a2))))]) (lv0 := [none, none, none, none, none]) (by decide) rfl hw rfl rfl rfl lk_ix_ok (ix_countAhead_hc g) ix_countAhead_tb rfl ?_
          intro X M
          have v5 := sl_extL M sl_VV0 5 (fun n lv st μ => match lv, st with | [_, _, _, some (.inl x3), some (.inl x4)], [] => ix_countAhead_L5 a1 a2 (fun r μ' => Q (some (.inl r)) μ') n x3 x4 μ | _, _ => False) (by
              intro lv st μ h
              split at h
              · exact h
              · exact h) (by
              intro n5 w5
              refine ⟨_, w5, ?_⟩
              intro lv st μ h
              split at h
              · exact h
              · exact h.elim)
          exact ⟨_, v5, h⟩
        next => exact h.elim
      next => exact h.elim
    next => exact h.elim
  next => exact h.elim
def ix_bitsOfLayer_L4 (a1 : Int32) (Q : Int32 → sl_M → Prop) : Nat → Int32 → Int32 → sl_M → Prop
  | 0, _, _, _ => False
  | n + 1, x2, x3, μ => (x3 < (30 : Int32) → vp_in x3 30 ∧ ((sl_bz (μ (4 + x3.toNatClampNeg) 1)) = (0 : Int32) → (ix_bitsOfLayer_L4 a1 Q n) x2 (x3 + (1 : Int32)) μ) ∧ (¬ (sl_bz (μ (4 + x3.toNatClampNeg) 1)) = (0 : Int32) → vp_in x3 30 ∧ ((μ (4 + x3.toNatClampNeg) 5) = a1 → ∀ v1, v1 = (x2 ||| ((1 : Int32) <<< (x3 &&& 31))) → (ix_bitsOfLayer_L4 a1 Q n) v1 (x3 + (1 : Int32)) μ) ∧ (¬ (μ (4 + x3.toNatClampNeg) 5) = a1 → (ix_bitsOfLayer_L4 a1 Q n) x2 (x3 + (1 : Int32)) μ))) ∧ (¬ x3 < (30 : Int32) → Q x2 μ)
def ix_bitsOfLayer (a1 : Int32) (μ : sl_M) (Q : Int32 → sl_M → Prop) : Prop := ∃ n2, ix_bitsOfLayer_L4 a1 Q n2 (0 : Int32) (0 : Int32) μ
def ix_bitsOfLayer_pt : sl_PT := fun As μ Q => match As with
  | [.inr (.inr (some (c0, a0))), .inl a1] => if c0 = 5 then (if a0 = 1 then (ix_bitsOfLayer a1 μ (fun r μ' => Q (some (.inl r)) μ')) else False) else False
  | _ => False
def ix_bitsOfLayer_cd : List sl_Ent := [(0, .iconst 0, 1, 0, [], [], false), (1, .istore_n 2, 1, 0, [2], [], false), (2, .iconst 0, 1, 0, [], [], false), (3, .istore_n 3, 1, 0, [3], [], false), (4, .iload_n 3, 1, 0, [3], [], true), (5, .bipush 30, 2, 30, [], [], false), (7, .if_icmp .ge 40, 3, 0, [47], [], false), (10, .aload_n 0, 1, 0, [0], [], false), (11, .getfield 11, 3, 0, [5, 0, 2, 22, 1], [], false), (14, .iload_n 3, 1, 0, [3], [], false), (15, .aaload, 1, 0, [], [], false), (16, .getfield 31, 3, 0, [9, 1, 1, 0, 0], [], false), (19, .ifCond .eq 22, 3, 0, [41], [], false), (22, .aload_n 0, 1, 0, [0], [], false), (23, .getfield 11, 3, 0, [5, 0, 2, 22, 1], [], false), (26, .iload_n 3, 1, 0, [3], [], false), (27, .aaload, 1, 0, [], [], false), (28, .getfield 59, 3, 0, [9, 5, 0, 0, 0], [], false), (31, .iload_n 1, 1, 0, [1], [], false), (32, .if_icmp .ne 9, 3, 0, [41], [], false), (35, .iload_n 2, 1, 0, [2], [], false), (36, .iconst 1, 1, 1, [], [], false), (37, .iload_n 3, 1, 0, [3], [], false), (38, .ishl, 1, 0, [], [], false), (39, .ior, 1, 0, [], [], false), (40, .istore_n 2, 1, 0, [2, 1], [], false), (41, .iinc 3 1, 3, 1, [], [], false), (44, .goto (-40), 3, 0, [4], [], false), (47, .iload_n 2, 1, 0, [2], [], false), (48, .ireturn, 1, 0, [], [], false)]
def ix_bitsOfLayer_y : MethodName := ⟨"SpanLayers$Index", "bitsOfLayer", "(I)I"⟩
theorem ix_bitsOfLayer_tb : sl_tbOK sl_R5 prog_7_method_12_code 4 (some .int) lk_ix [] ix_bitsOfLayer_cd = true := by decide +kernel
def ix_bitsOfLayer_ct : List sl_Ct := []
theorem ix_bitsOfLayer_hc (g : sl_G) : sl_HC g sl_R5 0 ix_bitsOfLayer_ct [] := sl_HC_nil g sl_R5 0
set_option maxRecDepth 20000 in
set_option maxHeartbeats 2000000 in
theorem ix_bitsOfLayer_snd (g : sl_G) : sl_Snd g ix_bitsOfLayer_y prog_7_method_12_code 4 (some .int) 0 (ix_bitsOfLayer_pt) := by
  intro As μ Q hw h
  unfold ix_bitsOfLayer_pt at h
  split at h
  next c0 a0 a1 =>
    split at h
    next e_ =>
      subst e_
      split at h
      next e_ =>
        subst e_
        refine sl_mk2 g [true, true, false, false] (cst := [some (.inr (.inr (some (5, 1)))), some (.inl a1)]) (lv0 := [none, none, none, none]) (by decide) rfl hw rfl rfl rfl lk_ix_ok (ix_bitsOfLayer_hc g) ix_bitsOfLayer_tb rfl ?_
        intro X M
        have v4 := sl_extL M sl_VV0 4 (fun n lv st μ => match lv, st with | [_, _, some (.inl x2), some (.inl x3)], [] => ix_bitsOfLayer_L4 a1 (fun r μ' => Q (some (.inl r)) μ') n x2 x3 μ | _, _ => False) (by
            intro lv st μ h
            split at h
            · exact h
            · exact h) (by
            intro n4 w4
            refine ⟨_, w4, ?_⟩
            intro lv st μ h
            split at h
            · exact h
            · exact h.elim)
        exact ⟨_, v4, h⟩
      next => exact h.elim
    next => exact h.elim
  next => exact h.elim
def cu_begin (a0 : Nat) (a1 : Int32) (μ : sl_M) (Q : sl_M → Prop) : Prop := sl_bz (1 : Int32) = (1 : Int32) ∧ ∀ m1, m1 = sl_up μ a0 0 (1 : Int32) → ∀ m2, m2 = sl_up m1 a0 1 a1 → sl_bz (0 : Int32) = (0 : Int32) ∧ ∀ m3, m3 = sl_up m2 a0 2 (0 : Int32) → Q m3
def cu_begin_pt : sl_PT := fun As μ Q => match As with
  | [.inr (.inr (some (c0, a0))), .inl a1] => if c0 = 4 then (cu_begin a0 a1 μ (fun μ' => Q none μ')) else False
  | _ => False
def cu_begin_cd : List sl_Ent := [(0, .aload_n 0, 1, 0, [0], [], false), (1, .iconst 1, 1, 1, [], [], false), (2, .putfield 18, 3, 0, [4, 0, 1], [], false), (5, .aload_n 0, 1, 0, [0], [], false), (6, .iload_n 1, 1, 0, [1], [], false), (7, .putfield 22, 3, 0, [4, 1, 0], [], false), (10, .aload_n 0, 1, 0, [0], [], false), (11, .iconst 0, 1, 0, [], [], false), (12, .putfield 26, 3, 0, [4, 2, 1], [], false), (15, .return_, 1, 0, [], [], false)]
def cu_begin_y : MethodName := ⟨"SpanLayers$Cursor", "begin", "(I)V"⟩
theorem cu_begin_tb : sl_tbOK sl_R4 prog_6_method_2_code 2 none lk_cu [] cu_begin_cd = true := by decide +kernel
def cu_begin_ct : List sl_Ct := []
theorem cu_begin_hc (g : sl_G) : sl_HC g sl_R4 0 cu_begin_ct [] := sl_HC_nil g sl_R4 0
set_option maxRecDepth 20000 in
set_option maxHeartbeats 2000000 in
theorem cu_begin_snd (g : sl_G) : sl_Snd g cu_begin_y prog_6_method_2_code 2 none 0 (cu_begin_pt) := by
  intro As μ Q hw h
  unfold cu_begin_pt at h
  split at h
  next c0 a0 a1 =>
    split at h
    next e_ =>
      subst e_
      refine sl_mk2 g [true, true] (cst := [some (.inr (.inr (some (4, a0)))), some (.inl a1)]) (lv0 := [none, none]) (by decide) rfl hw rfl rfl rfl lk_cu_ok (cu_begin_hc g) cu_begin_tb rfl ?_
      intro X M
      exact ⟨_, sl_VV0, h⟩
    next => exact h.elim
  next => exact h.elim
def sx_countOpen_L4 (Q : Int32 → sl_M → Prop) : Nat → Int32 → Int32 → sl_M → Prop
  | 0, _, _, _ => False
  | n + 1, x1, x2, μ => (x2 < (3 : Int32) → vp_in x2 3 ∧ ((sl_bz (μ (90 + 2 * x2.toNatClampNeg) 0)) = (0 : Int32) → ∀ v1, v1 = (x1 + (0 : Int32)) → (sx_countOpen_L4 Q n) v1 (x2 + (1 : Int32)) μ) ∧ (¬ (sl_bz (μ (90 + 2 * x2.toNatClampNeg) 0)) = (0 : Int32) → ∀ v2, v2 = (x1 + (1 : Int32)) → (sx_countOpen_L4 Q n) v2 (x2 + (1 : Int32)) μ)) ∧ (¬ x2 < (3 : Int32) → Q x1 μ)
def sx_countOpen (μ : sl_M) (Q : Int32 → sl_M → Prop) : Prop := ∃ n3, sx_countOpen_L4 Q n3 (0 : Int32) (0 : Int32) μ
def sx_countOpen_pt : sl_PT := fun As μ Q => match As with
  | [.inr (.inr (some (c0, a0)))] => if c0 = 11 then (if a0 = 0 then (sx_countOpen μ (fun r μ' => Q (some (.inl r)) μ')) else False) else False
  | _ => False
def sx_countOpen_cd : List sl_Ent := [(0, .iconst 0, 1, 0, [], [], false), (1, .istore_n 1, 1, 0, [1], [], false), (2, .iconst 0, 1, 0, [], [], false), (3, .istore_n 2, 1, 0, [2], [], false), (4, .iload_n 2, 1, 0, [2], [], true), (5, .iconst 3, 1, 3, [], [], false), (6, .if_icmp .ge 29, 3, 0, [35], [], false), (9, .iload_n 1, 1, 0, [1], [], false), (10, .aload_n 0, 1, 0, [0], [], false), (11, .getfield 32, 3, 0, [11, 3, 2, 24, 42], [], false), (14, .iload_n 2, 1, 0, [2], [], false), (15, .aaload, 1, 0, [], [], false), (16, .getfield 167, 3, 0, [4, 0, 1, 0, 0], [], false), (19, .ifCond .eq 7, 3, 0, [26], [], false), (22, .iconst 1, 1, 1, [], [], false), (23, .goto 4, 3, 0, [27], [], false), (26, .iconst 0, 1, 0, [], [], false), (27, .iadd, 1, 0, [], [], false), (28, .istore_n 1, 1, 0, [1, 1], [], false), (29, .iinc 2 1, 3, 1, [], [], false), (32, .goto (-28), 3, 0, [4], [], false), (35, .iload_n 1, 1, 0, [1], [], false), (36, .ireturn, 1, 0, [], [], false)]
def sx_countOpen_y : MethodName := ⟨"SpanLayers", "countOpen", "()I"⟩
theorem sx_countOpen_tb : sl_tbOK sl_R11 prog_1_method_44_code 3 (some .int) lk_sx [] sx_countOpen_cd = true := by decide +kernel
def sx_countOpen_ct : List sl_Ct := []
theorem sx_countOpen_hc (g : sl_G) : sl_HC g sl_R11 0 sx_countOpen_ct [] := sl_HC_nil g sl_R11 0
set_option maxRecDepth 20000 in
set_option maxHeartbeats 2000000 in
theorem sx_countOpen_snd (g : sl_G) : sl_Snd g sx_countOpen_y prog_1_method_44_code 3 (some .int) 0 (sx_countOpen_pt) := by
  intro As μ Q hw h
  unfold sx_countOpen_pt at h
  split at h
  next c0 a0 =>
    split at h
    next e_ =>
      subst e_
      split at h
      next e_ =>
        subst e_
        refine sl_mk2 g [true, false, false] (cst := [some (.inr (.inr (some (11, 0))))]) (lv0 := [none, none, none]) (by decide) rfl hw rfl rfl rfl lk_sx_ok (sx_countOpen_hc g) sx_countOpen_tb rfl ?_
        intro X M
        have v4 := sl_extL M sl_VV0 4 (fun n lv st μ => match lv, st with | [_, some (.inl x1), some (.inl x2)], [] => sx_countOpen_L4 (fun r μ' => Q (some (.inl r)) μ') n x1 x2 μ | _, _ => False) (by
            intro lv st μ h
            split at h
            · exact h
            · exact h) (by
            intro n4 w4
            refine ⟨_, w4, ?_⟩
            intro lv st μ h
            split at h
            · exact h
            · exact h.elim)
        exact ⟨_, v4, h⟩
      next => exact h.elim
    next => exact h.elim
  next => exact h.elim
def ix_firstBehind_B56 (a1 : Nat) (Q : Option Nat → sl_M → Prop) (k4 : Option (Nat × Nat) → Int32 → sl_M → Prop) : Option (Nat × Nat) → Int32 → Nat → Int32 → sl_M → Prop
  | none, x3, x4, x5, μ => (x5 = (0 : Int32) → k4 none (x3 + (1 : Int32)) μ) ∧ (¬ x5 = (0 : Int32) → k4 (some (9, x4)) (x3 + (1 : Int32)) μ)
  | (some (c2, x2)), x3, x4, x5, μ => c2 = 9 ∧ (x5 = (0 : Int32) → k4 (some (9, x2)) (x3 + (1 : Int32)) μ) ∧ (¬ x5 = (0 : Int32) → sp_isAhead x4 x2 (μ a1 1) μ (fun r6 m5 => (r6 = (0 : Int32) → k4 (some (9, x2)) (x3 + (1 : Int32)) m5) ∧ (¬ r6 = (0 : Int32) → k4 (some (9, x4)) (x3 + (1 : Int32)) m5)))
def ix_firstBehind_L4 (a1 : Nat) (Q : Option Nat → sl_M → Prop) : Nat → Option (Nat × Nat) → Int32 → sl_M → Prop
  | 0, _, _, _ => False
  | n + 1, none, x3, μ => (x3 < (30 : Int32) → vp_in x3 30 ∧ ((sl_bz (μ (4 + x3.toNatClampNeg) 1)) = (0 : Int32) → (9 : Nat) = 9 ∧ ix_firstBehind_B56 a1 Q (ix_firstBehind_L4 a1 Q n) none x3 (4 + x3.toNatClampNeg) (0 : Int32) μ) ∧ (¬ (sl_bz (μ (4 + x3.toNatClampNeg) 1)) = (0 : Int32) → ((sl_bz (μ a1 2)) = (0 : Int32) → (9 : Nat) = 9 ∧ ix_firstBehind_B56 a1 Q (ix_firstBehind_L4 a1 Q n) none x3 (4 + x3.toNatClampNeg) (1 : Int32) μ) ∧ (¬ (sl_bz (μ a1 2)) = (0 : Int32) → sp_isAhead (a1 + 1) (4 + x3.toNatClampNeg) (μ a1 1) μ (fun r2 m1 => (r2 = (0 : Int32) → (9 : Nat) = 9 ∧ ix_firstBehind_B56 a1 Q (ix_firstBehind_L4 a1 Q n) none x3 (4 + x3.toNatClampNeg) (0 : Int32) m1) ∧ (¬ r2 = (0 : Int32) → (9 : Nat) = 9 ∧ ix_firstBehind_B56 a1 Q (ix_firstBehind_L4 a1 Q n) none x3 (4 + x3.toNatClampNeg) (1 : Int32) m1))))) ∧ (¬ x3 < (30 : Int32) → Q none μ)
  | n + 1, (some (c2, x2)), x3, μ => c2 = 9 ∧ (x3 < (30 : Int32) → vp_in x3 30 ∧ ((sl_bz (μ (4 + x3.toNatClampNeg) 1)) = (0 : Int32) → (9 : Nat) = 9 ∧ ix_firstBehind_B56 a1 Q (ix_firstBehind_L4 a1 Q n) (some (9, x2)) x3 (4 + x3.toNatClampNeg) (0 : Int32) μ) ∧ (¬ (sl_bz (μ (4 + x3.toNatClampNeg) 1)) = (0 : Int32) → ((sl_bz (μ a1 2)) = (0 : Int32) → (9 : Nat) = 9 ∧ ix_firstBehind_B56 a1 Q (ix_firstBehind_L4 a1 Q n) (some (9, x2)) x3 (4 + x3.toNatClampNeg) (1 : Int32) μ) ∧ (¬ (sl_bz (μ a1 2)) = (0 : Int32) → sp_isAhead (a1 + 1) (4 + x3.toNatClampNeg) (μ a1 1) μ (fun r4 m3 => (r4 = (0 : Int32) → (9 : Nat) = 9 ∧ ix_firstBehind_B56 a1 Q (ix_firstBehind_L4 a1 Q n) (some (9, x2)) x3 (4 + x3.toNatClampNeg) (0 : Int32) m3) ∧ (¬ r4 = (0 : Int32) → (9 : Nat) = 9 ∧ ix_firstBehind_B56 a1 Q (ix_firstBehind_L4 a1 Q n) (some (9, x2)) x3 (4 + x3.toNatClampNeg) (1 : Int32) m3))))) ∧ (¬ x3 < (30 : Int32) → Q (some x2) μ)
def ix_firstBehind (a1 : Nat) (μ : sl_M) (Q : Option Nat → sl_M → Prop) : Prop := ∃ n7, ix_firstBehind_L4 a1 Q n7 none (0 : Int32) μ
def ix_firstBehind_pt : sl_PT := fun As μ Q => match As with
  | [.inr (.inr (some (c0, a0))), .inr (.inr (some (c1, a1)))] => if c0 = 5 then (if c1 = 4 then (if a0 = 1 then (ix_firstBehind a1 μ (fun r μ' => r.elim (Q (some (.inr (.inr none))) μ') (fun o => Q (some (.inr (.inr (some (9, o))))) μ'))) else False) else False) else False
  | _ => False
def ix_firstBehind_cd : List sl_Ent := [(0, .aconst_null, 1, 0, [], [], false), (1, .astore_n 2, 1, 0, [2], [], false), (2, .iconst 0, 1, 0, [], [], false), (3, .istore_n 3, 1, 0, [3], [], false), (4, .iload_n 3, 1, 0, [3], [], true), (5, .bipush 30, 2, 30, [], [], false), (7, .if_icmp .ge 80, 3, 0, [87], [], false), (10, .aload_n 0, 1, 0, [0], [], false), (11, .getfield 11, 3, 0, [5, 0, 2, 22, 1], [], false), (14, .iload_n 3, 1, 0, [3], [], false), (15, .aaload, 1, 0, [], [], false), (16, .astore 4, 2, 0, [4], [], false), (18, .aload 4, 2, 0, [4], [], false), (20, .getfield 31, 3, 0, [9, 1, 1, 0, 0], [], false), (23, .ifCond .eq 30, 3, 0, [53], [], false), (26, .aload_n 1, 1, 0, [1], [], false), (27, .getfield 104, 3, 0, [4, 2, 1, 0, 0], [], false), (30, .ifCond .eq 19, 3, 0, [49], [], false), (33, .aload_n 1, 1, 0, [1], [], false), (34, .getfield 109, 3, 0, [4, 3, 2, 9, 1], [], false), (37, .aload 4, 2, 0, [4], [], false), (39, .aload_n 1, 1, 0, [1], [], false), (40, .getfield 113, 3, 0, [4, 1, 0, 0, 0], [], false), (43, .invokevirtual 68, 3, 0, [0], [], false), (46, .ifCond .eq 7, 3, 0, [53], [], false), (49, .iconst 1, 1, 1, [], [], false), (50, .goto 4, 3, 0, [54], [], false), (53, .iconst 0, 1, 0, [], [], false), (54, .istore 5, 2, 0, [5], [], false), (56, .iload 5, 2, 0, [5], [], true), (58, .ifCond .eq 23, 3, 0, [81], [], false), (61, .aload_n 2, 1, 0, [2], [], false), (62, .ifnull 16, 3, 0, [78], [], false), (65, .aload 4, 2, 0, [4], [], false), (67, .aload_n 2, 1, 0, [2], [], false), (68, .aload_n 1, 1, 0, [1], [], false), (69, .getfield 113, 3, 0, [4, 1, 0, 0, 0], [], false), (72, .invokevirtual 68, 3, 0, [0], [], false), (75, .ifCond .eq 6, 3, 0, [81], [], false), (78, .aload 4, 2, 0, [4], [], false), (80, .astore_n 2, 1, 0, [2], [], false), (81, .iinc 3 1, 3, 1, [], [], false), (84, .goto (-80), 3, 0, [4], [], false), (87, .aload_n 2, 1, 0, [2], [], false), (88, .areturn, 1, 0, [], [], false)]
def ix_firstBehind_y : MethodName := ⟨"SpanLayers$Index", "firstBehind", "(LSpanLayers$Cursor;)LSpanLayers$Span;"⟩
theorem ix_firstBehind_tb : sl_tbOK sl_R5 prog_7_method_20_code 6 (some (.object "SpanLayers$Span")) lk_ix [(68, 0)] ix_firstBehind_cd = true := by decide +kernel
def ix_firstBehind_ct : List sl_Ct := [(3, 0, 9, sp_isAhead_pt)]
theorem ix_firstBehind_hc (g : sl_G) : sl_HC g sl_R5 3 ix_firstBehind_ct [(68, 0)] := sl_HC_cons (cs_ix_68 g (by decide)) (sl_HC_nil g sl_R5 3)
set_option maxRecDepth 20000 in
set_option maxHeartbeats 2000000 in
theorem ix_firstBehind_snd (g : sl_G) : sl_Snd g ix_firstBehind_y prog_7_method_20_code 6 (some (.object "SpanLayers$Span")) 3 (ix_firstBehind_pt) := by
  intro As μ Q hw h
  unfold ix_firstBehind_pt at h
  split at h
  next c0 a0 c1 a1 =>
    split at h
    next e_ =>
      subst e_
      split at h
      next e_ =>
        subst e_
        split at h
        next e_ =>
          subst e_
          refine sl_mk2 g [true, true, false, false, false, false] (cst := [some (.inr (.inr (some (5, 1)))), some (.inr (.inr (some (4, a1))))]) (lv0 := [none, none, none, none, none, none]) (by decide) rfl hw rfl rfl rfl lk_ix_ok (ix_firstBehind_hc g) ix_firstBehind_tb rfl ?_
          intro X M
          have v4 := sl_extL M sl_VV0 4 (fun n lv st μ => match lv, st with | [_, _, some (.inr (.inr none)), some (.inl x3), _, _], [] => ix_firstBehind_L4 a1 (fun r μ' => r.elim (Q (some (.inr (.inr none))) μ') (fun o => Q (some (.inr (.inr (some (9, o))))) μ')) n none x3 μ | [_, _, some (.inr (.inr (some (c2, x2)))), some (.inl x3), _, _], [] => ix_firstBehind_L4 a1 (fun r μ' => r.elim (Q (some (.inr (.inr none))) μ') (fun o => Q (some (.inr (.inr (some (9, o))))) μ')) n (some (c2, x2)) x3 μ | _, _ => False) (by
              intro lv st μ h
              split at h
              · exact h
              · exact h
              · exact h) (by
              intro n4 w4
              have v56 := sl_ext M w4 56 (fun lv st μ => match lv, st with | [_, _, some (.inr (.inr none)), some (.inl x3), some (.inr (.inr (some (c4, x4)))), some (.inl x5)], [] => c4 = 9 ∧ ix_firstBehind_B56 a1 (fun r μ' => r.elim (Q (some (.inr (.inr none))) μ') (fun o => Q (some (.inr (.inr (some (9, o))))) μ')) (ix_firstBehind_L4 a1 (fun r μ' => r.elim (Q (some (.inr (.inr none))) μ') (fun o => Q (some (.inr (.inr (some (9, o))))) μ')) n4) none x3 x4 x5 μ | [_, _, some (.inr (.inr (some (c2, x2)))), some (.inl x3), some (.inr (.inr (some (c4, x4)))), some (.inl x5)], [] => c4 = 9 ∧ ix_firstBehind_B56 a1 (fun r μ' => r.elim (Q (some (.inr (.inr none))) μ') (fun o => Q (some (.inr (.inr (some (9, o))))) μ')) (ix_firstBehind_L4 a1 (fun r μ' => r.elim (Q (some (.inr (.inr none))) μ') (fun o => Q (some (.inr (.inr (some (9, o))))) μ')) n4) (some (c2, x2)) x3 x4 x5 μ | _, _ => False) (by
                  intro lv st μ h
                  split at h
                  · obtain ⟨rfl, h⟩ := h; exact h
                  · obtain ⟨rfl, rfl, h⟩ := h; exact h
                  · exact h.elim)
              refine ⟨_, v56, ?_⟩
              intro lv st μ h
              split at h
              · exact h
              · obtain ⟨rfl, h⟩ := h; exact h
              · exact h.elim)
          exact ⟨_, v4, h⟩
        next => exact h.elim
      next => exact h.elim
    next => exact h.elim
  next => exact h.elim
def sp_copyFrom (a0 : Nat) (a1 : Nat) (μ : sl_M) (Q : sl_M → Prop) : Prop := ∀ m1, m1 = sl_up μ a0 0 (μ a1 0) → sl_bz (sl_bz (m1 a1 1)) = (sl_bz (m1 a1 1)) ∧ ∀ m2, m2 = sl_up m1 a0 1 (sl_bz (m1 a1 1)) → ∀ m3, m3 = sl_up m2 a0 2 (m2 a1 2) → ∀ m4, m4 = sl_up m3 a0 3 (m3 a1 3) → ∀ m5, m5 = sl_up m4 a0 4 (m4 a1 4) → ∀ m6, m6 = sl_up m5 a0 5 (m5 a1 5) → Q m6
def sp_copyFrom_pt : sl_PT := fun As μ Q => match As with
  | [.inr (.inr (some (c0, a0))), .inr (.inr (some (c1, a1)))] => if c0 = 9 then (if c1 = 9 then (sp_copyFrom a0 a1 μ (fun μ' => Q none μ')) else False) else False
  | _ => False
def sp_copyFrom_cd : List sl_Ent := [(0, .aload_n 0, 1, 0, [0], [], false), (1, .aload_n 1, 1, 0, [1], [], false), (2, .getfield 9, 3, 0, [9, 0, 0, 0, 0], [], false), (5, .putfield 9, 3, 0, [9, 0, 0], [], false), (8, .aload_n 0, 1, 0, [0], [], false), (9, .aload_n 1, 1, 0, [1], [], false), (10, .getfield 15, 3, 0, [9, 1, 1, 0, 0], [], false), (13, .putfield 15, 3, 0, [9, 1, 1], [], false), (16, .aload_n 0, 1, 0, [0], [], false), (17, .aload_n 1, 1, 0, [1], [], false), (18, .getfield 19, 3, 0, [9, 2, 0, 0, 0], [], false), (21, .putfield 19, 3, 0, [9, 2, 0], [], false), (24, .aload_n 0, 1, 0, [0], [], false), (25, .aload_n 1, 1, 0, [1], [], false), (26, .getfield 22, 3, 0, [9, 3, 0, 0, 0], [], false), (29, .putfield 22, 3, 0, [9, 3, 0], [], false), (32, .aload_n 0, 1, 0, [0], [], false), (33, .aload_n 1, 1, 0, [1], [], false), (34, .getfield 25, 3, 0, [9, 4, 0, 0, 0], [], false), (37, .putfield 25, 3, 0, [9, 4, 0], [], false), (40, .aload_n 0, 1, 0, [0], [], false), (41, .aload_n 1, 1, 0, [1], [], false), (42, .getfield 28, 3, 0, [9, 5, 0, 0, 0], [], false), (45, .putfield 28, 3, 0, [9, 5, 0], [], false), (48, .return_, 1, 0, [], [], false)]
def sp_copyFrom_y : MethodName := ⟨"SpanLayers$Span", "copyFrom", "(LSpanLayers$Span;)V"⟩
theorem sp_copyFrom_tb : sl_tbOK sl_R9 prog_11_method_2_code 2 none lk_sp [] sp_copyFrom_cd = true := by decide +kernel
def sp_copyFrom_ct : List sl_Ct := []
theorem sp_copyFrom_hc (g : sl_G) : sl_HC g sl_R9 0 sp_copyFrom_ct [] := sl_HC_nil g sl_R9 0
set_option maxRecDepth 20000 in
set_option maxHeartbeats 2000000 in
theorem sp_copyFrom_snd (g : sl_G) : sl_Snd g sp_copyFrom_y prog_11_method_2_code 2 none 0 (sp_copyFrom_pt) := by
  intro As μ Q hw h
  unfold sp_copyFrom_pt at h
  split at h
  next c0 a0 c1 a1 =>
    split at h
    next e_ =>
      subst e_
      split at h
      next e_ =>
        subst e_
        refine sl_mk2 g [true, true] (cst := [some (.inr (.inr (some (9, a0)))), some (.inr (.inr (some (9, a1))))]) (lv0 := [none, none]) (by decide) rfl hw rfl rfl rfl lk_sp_ok (sp_copyFrom_hc g) sp_copyFrom_tb rfl ?_
        intro X M
        exact ⟨_, sl_VV0, h⟩
      next => exact h.elim
    next => exact h.elim
  next => exact h.elim
def cu_tell (a0 : Nat) (a1 : Nat) (μ : sl_M) (Q : sl_M → Prop) : Prop := sl_bz (1 : Int32) = (1 : Int32) ∧ ∀ m1, m1 = sl_up μ a0 2 (1 : Int32) → sp_copyFrom (a0 + 1) a1 m1 (fun m2 => Q m2)
def cu_tell_pt : sl_PT := fun As μ Q => match As with
  | [.inr (.inr (some (c0, a0))), .inr (.inr (some (c1, a1)))] => if c0 = 4 then (if c1 = 9 then (cu_tell a0 a1 μ (fun μ' => Q none μ')) else False) else False
  | _ => False
def cu_tell_cd : List sl_Ent := [(0, .aload_n 0, 1, 0, [0], [], false), (1, .iconst 1, 1, 1, [], [], false), (2, .putfield 26, 3, 0, [4, 2, 1], [], false), (5, .aload_n 0, 1, 0, [0], [], false), (6, .getfield 12, 3, 0, [4, 3, 2, 9, 1], [], false), (9, .aload_n 1, 1, 0, [1], [], false), (10, .invokevirtual 29, 3, 0, [0], [], false), (13, .return_, 1, 0, [], [], false)]
def cu_tell_y : MethodName := ⟨"SpanLayers$Cursor", "tell", "(LSpanLayers$Span;)V"⟩
theorem cu_tell_tb : sl_tbOK sl_R4 prog_6_method_3_code 2 none lk_cu [(29, 0)] cu_tell_cd = true := by decide +kernel
theorem sp_copyFrom_w2 : Cond.instanceMethod sp_copyFrom_y ∈ sl_T0 := sl_in1 595 (by decide +kernel) rfl
theorem sp_copyFrom_w3 : Cond.selects sp_copyFrom_y.cls sp_copyFrom_y sp_copyFrom_y ∈ sl_T0 := sl_in1 596 (by decide +kernel) rfl
theorem sp_copyFrom_w4 : Cond.initialized sp_copyFrom_y.cls ∈ sl_T0 := sl_in1 88 (by decide +kernel) rfl
theorem sp_copyFrom_w5 : Cond.code sp_copyFrom_y prog_11_method_2_code 2 none ∈ sl_T0 := sl_in1 597 (by decide +kernel) rfl
theorem sp_copyFrom_w6 : sp_copyFrom_y.cls ≠ "java/lang/invoke/MethodHandle" ∧ sp_copyFrom_y.cls ≠ "java/lang/invoke/VarHandle" ∧ (parseMethodDescriptor sp_copyFrom_y.desc).map (fun d => d.parameters.length) = some 1 := by decide +kernel
theorem cs_cu_29 (g : sl_G) {hh : Nat} (h : 1 ≤ hh) : sl_CallS g sl_R4 29 0 9 hh 2 sp_copyFrom_pt := sl_callV (y := sp_copyFrom_y) (T := sl_F9) (N := 6) (sp_copyFrom_snd g) h (by decide) (sl_in1 594 (by decide +kernel) rfl) sp_copyFrom_w2 sp_copyFrom_w3 sp_copyFrom_w4 sp_copyFrom_w5 sp_copyFrom_w6 rfl (by decide)
def cu_tell_ct : List sl_Ct := [(2, 0, 9, sp_copyFrom_pt)]
theorem cu_tell_hc (g : sl_G) : sl_HC g sl_R4 1 cu_tell_ct [(29, 0)] := sl_HC_cons (cs_cu_29 g (by decide)) (sl_HC_nil g sl_R4 1)
set_option maxRecDepth 20000 in
set_option maxHeartbeats 2000000 in
theorem cu_tell_snd (g : sl_G) : sl_Snd g cu_tell_y prog_6_method_3_code 2 none 1 (cu_tell_pt) := by
  intro As μ Q hw h
  unfold cu_tell_pt at h
  split at h
  next c0 a0 c1 a1 =>
    split at h
    next e_ =>
      subst e_
      split at h
      next e_ =>
        subst e_
        refine sl_mk2 g [true, true] (cst := [some (.inr (.inr (some (4, a0)))), some (.inr (.inr (some (9, a1))))]) (lv0 := [none, none]) (by decide) rfl hw rfl rfl rfl lk_cu_ok (cu_tell_hc g) cu_tell_tb rfl ?_
        intro X M
        exact ⟨_, sl_VV0, h⟩
      next => exact h.elim
    next => exact h.elim
  next => exact h.elim
def cv_readFrom_B102 (Q : sl_M → Prop) (k13 : Int32 → Int32 → sl_M → Prop) : Int32 → Int32 → Nat → sl_M → Prop
  | x2, x3, x4, μ => vp_in ((μ 34 3) - (1 : Int32)) 30 ∧ ma_max (μ 36 ((μ 34 3) - (1 : Int32)).toNatClampNeg) (μ x4 3) μ (fun r6 m5 => vp_in ((μ 34 3) - (1 : Int32)) 30 ∧ ∀ m7, m7 = sl_up m5 36 ((μ 34 3) - (1 : Int32)).toNatClampNeg r6 → vp_in ((m7 34 3) - (1 : Int32)) 30 ∧ vp_in ((m7 34 3) - (1 : Int32)) 30 ∧ ∀ m8, m8 = sl_up m7 37 ((m7 34 3) - (1 : Int32)).toNatClampNeg ((m7 37 ((m7 34 3) - (1 : Int32)).toNatClampNeg) + (1 : Int32)) → k13 x2 (x3 + (1 : Int32)) m8)
def cv_readFrom_B54 (Q : sl_M → Prop) (k13 : Int32 → Int32 → sl_M → Prop) : Int32 → Int32 → Nat → sl_M → Prop
  | x2, x3, x4, μ => vp_in (μ 34 3) 30 ∧ ∀ m1, m1 = sl_up μ 35 (μ 34 3).toNatClampNeg (μ x4 2) → vp_in (m1 34 3) 30 ∧ ∀ m2, m2 = sl_up m1 36 (m1 34 3).toNatClampNeg (m1 x4 3) → vp_in (m2 34 3) 30 ∧ ∀ m3, m3 = sl_up m2 37 (m2 34 3).toNatClampNeg (0 : Int32) → ∀ m4, m4 = sl_up m3 34 3 ((m3 34 3) + (1 : Int32)) → (9 : Nat) = 9 ∧ cv_readFrom_B102 Q k13 x2 x3 x4 m4
def cv_readFrom_L13 (Q : sl_M → Prop) : Nat → Int32 → Int32 → sl_M → Prop
  | 0, _, _, _ => False
  | n + 1, x2, x3, μ => (x3 < x2 → vp_in x3 30 ∧ sl_kd (μ 3 x3.toNatClampNeg).toNatClampNeg = 9 ∧ ((μ 34 3) = (0 : Int32) → (9 : Nat) = 9 ∧ cv_readFrom_B54 Q (cv_readFrom_L13 Q n) x2 x3 ((μ 3 x3.toNatClampNeg).toNatClampNeg) μ) ∧ (¬ (μ 34 3) = (0 : Int32) → vp_in ((μ 34 3) - (1 : Int32)) 30 ∧ ((μ ((μ 3 x3.toNatClampNeg).toNatClampNeg) 2) ≤ ((μ 36 ((μ 34 3) - (1 : Int32)).toNatClampNeg) + (1 : Int32)) → (9 : Nat) = 9 ∧ cv_readFrom_B102 Q (cv_readFrom_L13 Q n) x2 x3 ((μ 3 x3.toNatClampNeg).toNatClampNeg) μ) ∧ (¬ (μ ((μ 3 x3.toNatClampNeg).toNatClampNeg) 2) ≤ ((μ 36 ((μ 34 3) - (1 : Int32)).toNatClampNeg) + (1 : Int32)) → (9 : Nat) = 9 ∧ cv_readFrom_B54 Q (cv_readFrom_L13 Q n) x2 x3 ((μ 3 x3.toNatClampNeg).toNatClampNeg) μ))) ∧ (¬ x3 < x2 → Q μ)
def cv_readFrom (μ : sl_M) (Q : sl_M → Prop) : Prop := ix_sortBy (0 : Int32) μ (fun r10 m9 => ∀ m11, m11 = sl_up m9 34 3 (0 : Int32) → ∃ n12, cv_readFrom_L13 Q n12 r10 (0 : Int32) m11)
def cv_readFrom_pt : sl_PT := fun As μ Q => match As with
  | [.inr (.inr (some (c0, a0))), .inr (.inr (some (c1, a1)))] => if c0 = 3 then (if c1 = 5 then (if a0 = 34 then (if a1 = 1 then (cv_readFrom μ (fun μ' => Q none μ')) else False) else False) else False) else False
  | _ => False
def cv_readFrom_cd : List sl_Ent := [(0, .aload_n 1, 1, 0, [1], [], false), (1, .iconst 0, 1, 0, [], [], false), (2, .invokevirtual 21, 3, 0, [0], [], false), (5, .istore_n 2, 1, 0, [2], [], false), (6, .aload_n 0, 1, 0, [0], [], false), (7, .iconst 0, 1, 0, [], [], false), (8, .putfield 27, 3, 0, [3, 3, 0], [], false), (11, .iconst 0, 1, 0, [], [], false), (12, .istore_n 3, 1, 0, [3], [], false), (13, .iload_n 3, 1, 0, [3], [], true), (14, .iload_n 2, 1, 0, [2], [], false), (15, .if_icmp .ge 138, 3, 0, [153], [], false), (18, .aload_n 1, 1, 0, [1], [], false), (19, .getfield 31, 3, 0, [5, 1, 2, 23, 2], [], false), (22, .iload_n 3, 1, 0, [3], [], false), (23, .aaload, 1, 0, [], [], false), (24, .astore 4, 2, 0, [4], [], false), (26, .aload_n 0, 1, 0, [0], [], false), (27, .getfield 27, 3, 0, [3, 3, 0, 0, 0], [], false), (30, .ifCond .eq 24, 3, 0, [54], [], false), (33, .aload 4, 2, 0, [4], [], false), (35, .getfield 35, 3, 0, [9, 2, 0, 0, 0], [], false), (38, .aload_n 0, 1, 0, [0], [], false), (39, .getfield 15, 3, 0, [3, 1, 2, 20, 2], [], false), (42, .aload_n 0, 1, 0, [0], [], false), (43, .getfield 27, 3, 0, [3, 3, 0, 0, 0], [], false), (46, .iconst 1, 1, 1, [], [], false), (47, .isub, 1, 0, [], [], false), (48, .iaload, 1, 0, [], [], false), (49, .iconst 1, 1, 1, [], [], false), (50, .iadd, 1, 0, [], [], false), (51, .if_icmp .le 51, 3, 0, [102], [], false), (54, .aload_n 0, 1, 0, [0], [], true), (55, .getfield 9, 3, 0, [3, 0, 2, 20, 1], [], false), (58, .aload_n 0, 1, 0, [0], [], false), (59, .getfield 27, 3, 0, [3, 3, 0, 0, 0], [], false), (62, .aload 4, 2, 0, [4], [], false), (64, .getfield 35, 3, 0, [9, 2, 0, 0, 0], [], false), (67, .iastore, 1, 0, [], [], false), (68, .aload_n 0, 1, 0, [0], [], false), (69, .getfield 15, 3, 0, [3, 1, 2, 20, 2], [], false), (72, .aload_n 0, 1, 0, [0], [], false), (73, .getfield 27, 3, 0, [3, 3, 0, 0, 0], [], false), (76, .aload 4, 2, 0, [4], [], false), (78, .getfield 40, 3, 0, [9, 3, 0, 0, 0], [], false), (81, .iastore, 1, 0, [], [], false), (82, .aload_n 0, 1, 0, [0], [], false), (83, .getfield 18, 3, 0, [3, 2, 2, 20, 3], [], false), (86, .aload_n 0, 1, 0, [0], [], false), (87, .getfield 27, 3, 0, [3, 3, 0, 0, 0], [], false), (90, .iconst 0, 1, 0, [], [], false), (91, .iastore, 1, 0, [], [], false), (92, .aload_n 0, 1, 0, [0], [], false), (93, .dup, 1, 0, [], [], false), (94, .getfield 27, 3, 0, [3, 3, 0, 0, 0], [], false), (97, .iconst 1, 1, 1, [], [], false), (98, .iadd, 1, 0, [], [], false), (99, .putfield 27, 3, 0, [3, 3, 0], [], false), (102, .aload_n 0, 1, 0, [0], [], true), (103, .getfield 15, 3, 0, [3, 1, 2, 20, 2], [], false), (106, .aload_n 0, 1, 0, [0], [], false), (107, .getfield 27, 3, 0, [3, 3, 0, 0, 0], [], false), (110, .iconst 1, 1, 1, [], [], false), (111, .isub, 1, 0, [], [], false), (112, .aload_n 0, 1, 0, [0], [], false), (113, .getfield 15, 3, 0, [3, 1, 2, 20, 2], [], false), (116, .aload_n 0, 1, 0, [0], [], false), (117, .getfield 27, 3, 0, [3, 3, 0, 0, 0], [], false), (120, .iconst 1, 1, 1, [], [], false), (121, .isub, 1, 0, [], [], false), (122, .iaload, 1, 0, [], [], false), (123, .aload 4, 2, 0, [4], [], false), (125, .getfield 40, 3, 0, [9, 3, 0, 0, 0], [], false), (128, .invokestatic 43, 3, 0, [1], [], false), (131, .iastore, 1, 0, [], [], false), (132, .aload_n 0, 1, 0, [0], [], false), (133, .getfield 18, 3, 0, [3, 2, 2, 20, 3], [], false), (136, .aload_n 0, 1, 0, [0], [], false), (137, .getfield 27, 3, 0, [3, 3, 0, 0, 0], [], false), (140, .iconst 1, 1, 1, [], [], false), (141, .isub, 1, 0, [], [], false), (142, .dup2, 1, 0, [], [], false), (143, .iaload, 1, 0, [], [], false), (144, .iconst 1, 1, 1, [], [], false), (145, .iadd, 1, 0, [], [], false), (146, .iastore, 1, 0, [], [], false), (147, .iinc 3 1, 3, 1, [], [], false), (150, .goto (-137), 3, 0, [13], [], false), (153, .return_, 1, 0, [], [], false)]
def cv_readFrom_y : MethodName := ⟨"SpanLayers$Coverage", "readFrom", "(LSpanLayers$Index;)V"⟩
theorem cv_readFrom_tb : sl_tbOK sl_R3 prog_5_method_2_code 5 none lk_cv [(21, 0), (43, 1)] cv_readFrom_cd = true := by decide +kernel
theorem cs_cv_21 (g : sl_G) {hh : Nat} (h : 4 ≤ hh) : sl_CallS g sl_R3 21 0 5 hh 2 ix_sortBy_pt := sl_callV (y := ix_sortBy_y) (T := sl_F5) (N := 2) (ix_sortBy_snd g) h (by decide) (sl_in1 610 (by decide +kernel) rfl) ix_sortBy_w2 ix_sortBy_w3 ix_sortBy_w4 ix_sortBy_w5 ix_sortBy_w6 rfl (by decide)
theorem cs_cv_43 (g : sl_G) {hh : Nat} (h : 1 ≤ hh) : sl_CallS g sl_R3 43 1 0 hh 2 ma_max_pt := sl_callMax h (sl_in1 611 (by decide +kernel) rfl) (sl_in1 447 (by decide +kernel) rfl) (sl_in1 99 (by decide +kernel) rfl) (sl_in1 448 (by decide +kernel) rfl)
def cv_readFrom_ct : List sl_Ct := [(2, 0, 5, ix_sortBy_pt), (2, 1, 0, ma_max_pt)]
theorem cv_readFrom_hc (g : sl_G) : sl_HC g sl_R3 4 cv_readFrom_ct [(21, 0), (43, 1)] := sl_HC_cons (cs_cv_21 g (by decide)) (sl_HC_cons (cs_cv_43 g (by decide)) (sl_HC_nil g sl_R3 4))
set_option maxRecDepth 20000 in
set_option maxHeartbeats 2000000 in
theorem cv_readFrom_snd (g : sl_G) : sl_Snd g cv_readFrom_y prog_5_method_2_code 5 none 4 (cv_readFrom_pt) := by
  intro As μ Q hw h
  unfold cv_readFrom_pt at h
  split at h
  next c0 a0 c1 a1 =>
    split at h
    next e_ =>
      subst e_
      split at h
      next e_ =>
        subst e_
        split at h
        next e_ =>
          subst e_
          split at h
          next e_ =>
            subst e_
            refine sl_mk2 g [true, true, false, false, false] (cst := [some (.inr (.inr (some (3, 34)))), some (.inr (.inr (some (5, 1))))]) (lv0 := [none, none, none, none, none]) (by decide) rfl hw rfl rfl rfl lk_cv_ok (cv_readFrom_hc g) cv_readFrom_tb rfl ?_
            intro X M
            have v13 := sl_extL M sl_VV0 13 (fun n lv st μ => match lv, st with | [_, _, some (.inl x2), some (.inl x3), _], [] => cv_readFrom_L13 (fun μ' => Q none μ') n x2 x3 μ | _, _ => False) (by
                intro lv st μ h
                split at h
                · exact h
                · exact h) (by
                intro n13 w13
                have v102 := sl_ext M w13 102 (fun lv st μ => match lv, st with | [_, _, some (.inl x2), some (.inl x3), some (.inr (.inr (some (c4, x4))))], [] => c4 = 9 ∧ cv_readFrom_B102 (fun μ' => Q none μ') (cv_readFrom_L13 (fun μ' => Q none μ') n13) x2 x3 x4 μ | _, _ => False) (by
                    intro lv st μ h
                    split at h
                    · obtain ⟨rfl, h⟩ := h; exact h
                    · exact h.elim)
                have v54 := sl_ext M v102 54 (fun lv st μ => match lv, st with | [_, _, some (.inl x2), some (.inl x3), some (.inr (.inr (some (c4, x4))))], [] => c4 = 9 ∧ cv_readFrom_B54 (fun μ' => Q none μ') (cv_readFrom_L13 (fun μ' => Q none μ') n13) x2 x3 x4 μ | _, _ => False) (by
                    intro lv st μ h
                    split at h
                    · obtain ⟨rfl, h⟩ := h; exact h
                    · exact h.elim)
                refine ⟨_, v54, ?_⟩
                intro lv st μ h
                split at h
                · exact h
                · exact h.elim)
            exact ⟨_, v13, h⟩
          next => exact h.elim
        next => exact h.elim
      next => exact h.elim
    next => exact h.elim
  next => exact h.elim
def cv_sumOfPieces_L4 (Q : Int32 → sl_M → Prop) : Nat → Int32 → Int32 → sl_M → Prop
  | 0, _, _, _ => False
  | n + 1, x1, x2, μ => (x2 < (μ 34 3) → vp_in x2 30 ∧ vp_in x2 30 ∧ ∀ v1, v1 = (x1 + (((μ 36 x2.toNatClampNeg) - (μ 35 x2.toNatClampNeg)) + (1 : Int32))) → (cv_sumOfPieces_L4 Q n) v1 (x2 + (1 : Int32)) μ) ∧ (¬ x2 < (μ 34 3) → Q x1 μ)
def cv_sumOfPieces (μ : sl_M) (Q : Int32 → sl_M → Prop) : Prop := ∃ n2, cv_sumOfPieces_L4 Q n2 (0 : Int32) (0 : Int32) μ
def cv_sumOfPieces_pt : sl_PT := fun As μ Q => match As with
  | [.inr (.inr (some (c0, a0)))] => if c0 = 3 then (if a0 = 34 then (cv_sumOfPieces μ (fun r μ' => Q (some (.inl r)) μ')) else False) else False
  | _ => False
def cv_sumOfPieces_cd : List sl_Ent := [(0, .iconst 0, 1, 0, [], [], false), (1, .istore_n 1, 1, 0, [1], [], false), (2, .iconst 0, 1, 0, [], [], false), (3, .istore_n 2, 1, 0, [2], [], false), (4, .iload_n 2, 1, 0, [2], [], true), (5, .aload_n 0, 1, 0, [0], [], false), (6, .getfield 27, 3, 0, [3, 3, 0, 0, 0], [], false), (9, .if_icmp .ge 27, 3, 0, [36], [], false), (12, .iload_n 1, 1, 0, [1], [], false), (13, .aload_n 0, 1, 0, [0], [], false), (14, .getfield 15, 3, 0, [3, 1, 2, 20, 2], [], false), (17, .iload_n 2, 1, 0, [2], [], false), (18, .iaload, 1, 0, [], [], false), (19, .aload_n 0, 1, 0, [0], [], false), (20, .getfield 9, 3, 0, [3, 0, 2, 20, 1], [], false), (23, .iload_n 2, 1, 0, [2], [], false), (24, .iaload, 1, 0, [], [], false), (25, .isub, 1, 0, [], [], false), (26, .iconst 1, 1, 1, [], [], false), (27, .iadd, 1, 0, [], [], false), (28, .iadd, 1, 0, [], [], false), (29, .istore_n 1, 1, 0, [1, 1], [], false), (30, .iinc 2 1, 3, 1, [], [], false), (33, .goto (-29), 3, 0, [4], [], false), (36, .iload_n 1, 1, 0, [1], [], false), (37, .ireturn, 1, 0, [], [], false)]
def cv_sumOfPieces_y : MethodName := ⟨"SpanLayers$Coverage", "sumOfPieces", "()I"⟩
theorem cv_sumOfPieces_tb : sl_tbOK sl_R3 prog_5_method_5_code 3 (some .int) lk_cv [] cv_sumOfPieces_cd = true := by decide +kernel
def cv_sumOfPieces_ct : List sl_Ct := []
theorem cv_sumOfPieces_hc (g : sl_G) : sl_HC g sl_R3 0 cv_sumOfPieces_ct [] := sl_HC_nil g sl_R3 0
set_option maxRecDepth 20000 in
set_option maxHeartbeats 2000000 in
theorem cv_sumOfPieces_snd (g : sl_G) : sl_Snd g cv_sumOfPieces_y prog_5_method_5_code 3 (some .int) 0 (cv_sumOfPieces_pt) := by
  intro As μ Q hw h
  unfold cv_sumOfPieces_pt at h
  split at h
  next c0 a0 =>
    split at h
    next e_ =>
      subst e_
      split at h
      next e_ =>
        subst e_
        refine sl_mk2 g [true, false, false] (cst := [some (.inr (.inr (some (3, 34))))]) (lv0 := [none, none, none]) (by decide) rfl hw rfl rfl rfl lk_cv_ok (cv_sumOfPieces_hc g) cv_sumOfPieces_tb rfl ?_
        intro X M
        have v4 := sl_extL M sl_VV0 4 (fun n lv st μ => match lv, st with | [_, some (.inl x1), some (.inl x2)], [] => cv_sumOfPieces_L4 (fun r μ' => Q (some (.inl r)) μ') n x1 x2 μ | _, _ => False) (by
            intro lv st μ h
            split at h
            · exact h
            · exact h) (by
            intro n4 w4
            refine ⟨_, w4, ?_⟩
            intro lv st μ h
            split at h
            · exact h
            · exact h.elim)
        exact ⟨_, v4, h⟩
      next => exact h.elim
    next => exact h.elim
  next => exact h.elim
def cv_countHoles (μ : sl_M) (Q : Int32 → sl_M → Prop) : Prop := ma_max (0 : Int32) ((μ 34 3) - (1 : Int32)) μ (fun r2 m1 => Q r2 m1)
def cv_countHoles_pt : sl_PT := fun As μ Q => match As with
  | [.inr (.inr (some (c0, a0)))] => if c0 = 3 then (if a0 = 34 then (cv_countHoles μ (fun r μ' => Q (some (.inl r)) μ')) else False) else False
  | _ => False
def cv_countHoles_cd : List sl_Ent := [(0, .iconst 0, 1, 0, [], [], false), (1, .aload_n 0, 1, 0, [0], [], false), (2, .getfield 27, 3, 0, [3, 3, 0, 0, 0], [], false), (5, .iconst 1, 1, 1, [], [], false), (6, .isub, 1, 0, [], [], false), (7, .invokestatic 43, 3, 0, [0], [], false), (10, .ireturn, 1, 0, [], [], false)]
def cv_countHoles_y : MethodName := ⟨"SpanLayers$Coverage", "countHoles", "()I"⟩
theorem cv_countHoles_tb : sl_tbOK sl_R3 prog_5_method_3_code 1 (some .int) lk_cv [(43, 1)] cv_countHoles_cd = true := by decide +kernel
def cv_countHoles_ct : List sl_Ct := [(2, 1, 0, ma_max_pt)]
theorem cv_countHoles_hc (g : sl_G) : sl_HC g sl_R3 1 cv_countHoles_ct [(43, 1)] := sl_HC_cons (cs_cv_43 g (by decide)) (sl_HC_nil g sl_R3 1)
set_option maxRecDepth 20000 in
set_option maxHeartbeats 2000000 in
theorem cv_countHoles_snd (g : sl_G) : sl_Snd g cv_countHoles_y prog_5_method_3_code 1 (some .int) 1 (cv_countHoles_pt) := by
  intro As μ Q hw h
  unfold cv_countHoles_pt at h
  split at h
  next c0 a0 =>
    split at h
    next e_ =>
      subst e_
      split at h
      next e_ =>
        subst e_
        refine sl_mk2 g [true] (cst := [some (.inr (.inr (some (3, 34))))]) (lv0 := [none]) (by decide) rfl hw rfl rfl rfl lk_cv_ok (cv_countHoles_hc g) cv_countHoles_tb rfl ?_
        intro X M
        exact ⟨_, sl_VV0, h⟩
      next => exact h.elim
    next => exact h.elim
  next => exact h.elim
def cv_sumOfHoles_L4 (Q : Int32 → sl_M → Prop) : Nat → Int32 → Int32 → sl_M → Prop
  | 0, _, _, _ => False
  | n + 1, x1, x2, μ => (x2 < (μ 34 3) → vp_in x2 30 ∧ vp_in (x2 - (1 : Int32)) 30 ∧ ∀ v1, v1 = (x1 + (((μ 35 x2.toNatClampNeg) - (μ 36 (x2 - (1 : Int32)).toNatClampNeg)) - (1 : Int32))) → (cv_sumOfHoles_L4 Q n) v1 (x2 + (1 : Int32)) μ) ∧ (¬ x2 < (μ 34 3) → Q x1 μ)
def cv_sumOfHoles (μ : sl_M) (Q : Int32 → sl_M → Prop) : Prop := ∃ n2, cv_sumOfHoles_L4 Q n2 (0 : Int32) (1 : Int32) μ
def cv_sumOfHoles_pt : sl_PT := fun As μ Q => match As with
  | [.inr (.inr (some (c0, a0)))] => if c0 = 3 then (if a0 = 34 then (cv_sumOfHoles μ (fun r μ' => Q (some (.inl r)) μ')) else False) else False
  | _ => False
def cv_sumOfHoles_cd : List sl_Ent := [(0, .iconst 0, 1, 0, [], [], false), (1, .istore_n 1, 1, 0, [1], [], false), (2, .iconst 1, 1, 1, [], [], false), (3, .istore_n 2, 1, 0, [2], [], false), (4, .iload_n 2, 1, 0, [2], [], true), (5, .aload_n 0, 1, 0, [0], [], false), (6, .getfield 27, 3, 0, [3, 3, 0, 0, 0], [], false), (9, .if_icmp .ge 29, 3, 0, [38], [], false), (12, .iload_n 1, 1, 0, [1], [], false), (13, .aload_n 0, 1, 0, [0], [], false), (14, .getfield 9, 3, 0, [3, 0, 2, 20, 1], [], false), (17, .iload_n 2, 1, 0, [2], [], false), (18, .iaload, 1, 0, [], [], false), (19, .aload_n 0, 1, 0, [0], [], false), (20, .getfield 15, 3, 0, [3, 1, 2, 20, 2], [], false), (23, .iload_n 2, 1, 0, [2], [], false), (24, .iconst 1, 1, 1, [], [], false), (25, .isub, 1, 0, [], [], false), (26, .iaload, 1, 0, [], [], false), (27, .isub, 1, 0, [], [], false), (28, .iconst 1, 1, 1, [], [], false), (29, .isub, 1, 0, [], [], false), (30, .iadd, 1, 0, [], [], false), (31, .istore_n 1, 1, 0, [1, 1], [], false), (32, .iinc 2 1, 3, 1, [], [], false), (35, .goto (-31), 3, 0, [4], [], false), (38, .iload_n 1, 1, 0, [1], [], false), (39, .ireturn, 1, 0, [], [], false)]
def cv_sumOfHoles_y : MethodName := ⟨"SpanLayers$Coverage", "sumOfHoles", "()I"⟩
theorem cv_sumOfHoles_tb : sl_tbOK sl_R3 prog_5_method_6_code 3 (some .int) lk_cv [] cv_sumOfHoles_cd = true := by decide +kernel
def cv_sumOfHoles_ct : List sl_Ct := []
theorem cv_sumOfHoles_hc (g : sl_G) : sl_HC g sl_R3 0 cv_sumOfHoles_ct [] := sl_HC_nil g sl_R3 0
set_option maxRecDepth 20000 in
set_option maxHeartbeats 2000000 in
theorem cv_sumOfHoles_snd (g : sl_G) : sl_Snd g cv_sumOfHoles_y prog_5_method_6_code 3 (some .int) 0 (cv_sumOfHoles_pt) := by
  intro As μ Q hw h
  unfold cv_sumOfHoles_pt at h
  split at h
  next c0 a0 =>
    split at h
    next e_ =>
      subst e_
      split at h
      next e_ =>
        subst e_
        refine sl_mk2 g [true, false, false] (cst := [some (.inr (.inr (some (3, 34))))]) (lv0 := [none, none, none]) (by decide) rfl hw rfl rfl rfl lk_cv_ok (cv_sumOfHoles_hc g) cv_sumOfHoles_tb rfl ?_
        intro X M
        have v4 := sl_extL M sl_VV0 4 (fun n lv st μ => match lv, st with | [_, some (.inl x1), some (.inl x2)], [] => cv_sumOfHoles_L4 (fun r μ' => Q (some (.inl r)) μ') n x1 x2 μ | _, _ => False) (by
            intro lv st μ h
            split at h
            · exact h
            · exact h) (by
            intro n4 w4
            refine ⟨_, w4, ?_⟩
            intro lv st μ h
            split at h
            · exact h
            · exact h.elim)
        exact ⟨_, v4, h⟩
      next => exact h.elim
    next => exact h.elim
  next => exact h.elim
def cv_greatestHole_L4 (Q : Int32 → sl_M → Prop) : Nat → Int32 → Int32 → sl_M → Prop
  | 0, _, _, _ => False
  | n + 1, x1, x2, μ => (x2 < (μ 34 3) → vp_in x2 30 ∧ vp_in (x2 - (1 : Int32)) 30 ∧ ma_max x1 (((μ 35 x2.toNatClampNeg) - (μ 36 (x2 - (1 : Int32)).toNatClampNeg)) - (1 : Int32)) μ (fun r2 m1 => (cv_greatestHole_L4 Q n) r2 (x2 + (1 : Int32)) m1)) ∧ (¬ x2 < (μ 34 3) → Q x1 μ)
def cv_greatestHole (μ : sl_M) (Q : Int32 → sl_M → Prop) : Prop := ∃ n3, cv_greatestHole_L4 Q n3 (0 : Int32) (1 : Int32) μ
def cv_greatestHole_pt : sl_PT := fun As μ Q => match As with
  | [.inr (.inr (some (c0, a0)))] => if c0 = 3 then (if a0 = 34 then (cv_greatestHole μ (fun r μ' => Q (some (.inl r)) μ')) else False) else False
  | _ => False
def cv_greatestHole_cd : List sl_Ent := [(0, .iconst 0, 1, 0, [], [], false), (1, .istore_n 1, 1, 0, [1], [], false), (2, .iconst 1, 1, 1, [], [], false), (3, .istore_n 2, 1, 0, [2], [], false), (4, .iload_n 2, 1, 0, [2], [], true), (5, .aload_n 0, 1, 0, [0], [], false), (6, .getfield 27, 3, 0, [3, 3, 0, 0, 0], [], false), (9, .if_icmp .ge 31, 3, 0, [40], [], false), (12, .iload_n 1, 1, 0, [1], [], false), (13, .aload_n 0, 1, 0, [0], [], false), (14, .getfield 9, 3, 0, [3, 0, 2, 20, 1], [], false), (17, .iload_n 2, 1, 0, [2], [], false), (18, .iaload, 1, 0, [], [], false), (19, .aload_n 0, 1, 0, [0], [], false), (20, .getfield 15, 3, 0, [3, 1, 2, 20, 2], [], false), (23, .iload_n 2, 1, 0, [2], [], false), (24, .iconst 1, 1, 1, [], [], false), (25, .isub, 1, 0, [], [], false), (26, .iaload, 1, 0, [], [], false), (27, .isub, 1, 0, [], [], false), (28, .iconst 1, 1, 1, [], [], false), (29, .isub, 1, 0, [], [], false), (30, .invokestatic 43, 3, 0, [0], [], false), (33, .istore_n 1, 1, 0, [1], [], false), (34, .iinc 2 1, 3, 1, [], [], false), (37, .goto (-33), 3, 0, [4], [], false), (40, .iload_n 1, 1, 0, [1], [], false), (41, .ireturn, 1, 0, [], [], false)]
def cv_greatestHole_y : MethodName := ⟨"SpanLayers$Coverage", "greatestHole", "()I"⟩
theorem cv_greatestHole_tb : sl_tbOK sl_R3 prog_5_method_7_code 3 (some .int) lk_cv [(43, 1)] cv_greatestHole_cd = true := by decide +kernel
def cv_greatestHole_ct : List sl_Ct := [(2, 1, 0, ma_max_pt)]
theorem cv_greatestHole_hc (g : sl_G) : sl_HC g sl_R3 1 cv_greatestHole_ct [(43, 1)] := sl_HC_cons (cs_cv_43 g (by decide)) (sl_HC_nil g sl_R3 1)
set_option maxRecDepth 20000 in
set_option maxHeartbeats 2000000 in
theorem cv_greatestHole_snd (g : sl_G) : sl_Snd g cv_greatestHole_y prog_5_method_7_code 3 (some .int) 1 (cv_greatestHole_pt) := by
  intro As μ Q hw h
  unfold cv_greatestHole_pt at h
  split at h
  next c0 a0 =>
    split at h
    next e_ =>
      subst e_
      split at h
      next e_ =>
        subst e_
        refine sl_mk2 g [true, false, false] (cst := [some (.inr (.inr (some (3, 34))))]) (lv0 := [none, none, none]) (by decide) rfl hw rfl rfl rfl lk_cv_ok (cv_greatestHole_hc g) cv_greatestHole_tb rfl ?_
        intro X M
        have v4 := sl_extL M sl_VV0 4 (fun n lv st μ => match lv, st with | [_, some (.inl x1), some (.inl x2)], [] => cv_greatestHole_L4 (fun r μ' => Q (some (.inl r)) μ') n x1 x2 μ | _, _ => False) (by
            intro lv st μ h
            split at h
            · exact h
            · exact h) (by
            intro n4 w4
            refine ⟨_, w4, ?_⟩
            intro lv st μ h
            split at h
            · exact h
            · exact h.elim)
        exact ⟨_, v4, h⟩
      next => exact h.elim
    next => exact h.elim
  next => exact h.elim
def cv_total (a1 : Int32) (μ : sl_M) (Q : Int32 → sl_M → Prop) : Prop := (a1 = (0 : Int32) → cv_sumOfPieces μ (fun r2 m1 => Q r2 m1)) ∧ (¬ a1 = (0 : Int32) → (a1 = (1 : Int32) → Q (μ 34 3) μ) ∧ (¬ a1 = (1 : Int32) → (a1 = (2 : Int32) → cv_countHoles μ (fun r4 m3 => Q r4 m3)) ∧ (¬ a1 = (2 : Int32) → (a1 = (3 : Int32) → cv_sumOfHoles μ (fun r6 m5 => Q r6 m5)) ∧ (¬ a1 = (3 : Int32) → cv_greatestHole μ (fun r8 m7 => Q r8 m7)))))
def cv_total_pt : sl_PT := fun As μ Q => match As with
  | [.inr (.inr (some (c0, a0))), .inl a1] => if c0 = 3 then (if a0 = 34 then (cv_total a1 μ (fun r μ' => Q (some (.inl r)) μ')) else False) else False
  | _ => False
def cv_total_cd : List sl_Ent := [(0, .iload_n 1, 1, 0, [1], [], false), (1, .tableswitch 51 0 3 #[31, 36, 41, 46], 31, 0, [52], [(0, 32), (1, 37), (2, 42), (3, 47)], false), (32, .aload_n 0, 1, 0, [0], [], false), (33, .invokevirtual 49, 3, 0, [0], [], false), (36, .ireturn, 1, 0, [], [], false), (37, .aload_n 0, 1, 0, [0], [], false), (38, .getfield 27, 3, 0, [3, 3, 0, 0, 0], [], false), (41, .ireturn, 1, 0, [], [], false), (42, .aload_n 0, 1, 0, [0], [], false), (43, .invokevirtual 53, 3, 0, [1], [], false), (46, .ireturn, 1, 0, [], [], false), (47, .aload_n 0, 1, 0, [0], [], false), (48, .invokevirtual 56, 3, 0, [2], [], false), (51, .ireturn, 1, 0, [], [], false), (52, .aload_n 0, 1, 0, [0], [], false), (53, .invokevirtual 59, 3, 0, [3], [], false), (56, .ireturn, 1, 0, [], [], false)]
def cv_total_y : MethodName := ⟨"SpanLayers$Coverage", "total", "(I)I"⟩
theorem cv_total_tb : sl_tbOK sl_R3 prog_5_method_4_code 2 (some .int) lk_cv [(49, 0), (53, 0), (56, 0), (59, 0)] cv_total_cd = true := by decide +kernel
theorem cv_sumOfPieces_w2 : Cond.instanceMethod cv_sumOfPieces_y ∈ sl_T0 := sl_in1 618 (by decide +kernel) rfl
theorem cv_sumOfPieces_w3 : Cond.selects cv_sumOfPieces_y.cls cv_sumOfPieces_y cv_sumOfPieces_y ∈ sl_T0 := sl_in1 6 (by decide +kernel) rfl
theorem cv_sumOfPieces_w4 : Cond.initialized cv_sumOfPieces_y.cls ∈ sl_T0 := sl_in1 89 (by decide +kernel) rfl
theorem cv_sumOfPieces_w5 : Cond.code cv_sumOfPieces_y prog_5_method_5_code 3 (some .int) ∈ sl_T0 := sl_in1 619 (by decide +kernel) rfl
theorem cv_sumOfPieces_w6 : cv_sumOfPieces_y.cls ≠ "java/lang/invoke/MethodHandle" ∧ cv_sumOfPieces_y.cls ≠ "java/lang/invoke/VarHandle" ∧ (parseMethodDescriptor cv_sumOfPieces_y.desc).map (fun d => d.parameters.length) = some 0 := by decide +kernel
theorem cs_cv_49 (g : sl_G) {hh : Nat} (h : 1 ≤ hh) : sl_CallS g sl_R3 49 0 3 hh 1 cv_sumOfPieces_pt := sl_callV (y := cv_sumOfPieces_y) (T := sl_F3) (N := 4) (cv_sumOfPieces_snd g) h (by decide) (sl_in1 616 (by decide +kernel) rfl) cv_sumOfPieces_w2 cv_sumOfPieces_w3 cv_sumOfPieces_w4 cv_sumOfPieces_w5 cv_sumOfPieces_w6 rfl (by decide)
theorem cv_countHoles_w2 : Cond.instanceMethod cv_countHoles_y ∈ sl_T0 := sl_in1 621 (by decide +kernel) rfl
theorem cv_countHoles_w3 : Cond.selects cv_countHoles_y.cls cv_countHoles_y cv_countHoles_y ∈ sl_T0 := sl_in1 622 (by decide +kernel) rfl
theorem cv_countHoles_w4 : Cond.initialized cv_countHoles_y.cls ∈ sl_T0 := sl_in1 89 (by decide +kernel) rfl
theorem cv_countHoles_w5 : Cond.code cv_countHoles_y prog_5_method_3_code 1 (some .int) ∈ sl_T0 := sl_in1 623 (by decide +kernel) rfl
theorem cv_countHoles_w6 : cv_countHoles_y.cls ≠ "java/lang/invoke/MethodHandle" ∧ cv_countHoles_y.cls ≠ "java/lang/invoke/VarHandle" ∧ (parseMethodDescriptor cv_countHoles_y.desc).map (fun d => d.parameters.length) = some 0 := by decide +kernel
theorem cs_cv_53 (g : sl_G) {hh : Nat} (h : 2 ≤ hh) : sl_CallS g sl_R3 53 0 3 hh 1 cv_countHoles_pt := sl_callV (y := cv_countHoles_y) (T := sl_F3) (N := 4) (cv_countHoles_snd g) h (by decide) (sl_in1 620 (by decide +kernel) rfl) cv_countHoles_w2 cv_countHoles_w3 cv_countHoles_w4 cv_countHoles_w5 cv_countHoles_w6 rfl (by decide)
theorem cv_sumOfHoles_w2 : Cond.instanceMethod cv_sumOfHoles_y ∈ sl_T0 := sl_in1 626 (by decide +kernel) rfl
theorem cv_sumOfHoles_w3 : Cond.selects cv_sumOfHoles_y.cls cv_sumOfHoles_y cv_sumOfHoles_y ∈ sl_T0 := sl_in1 7 (by decide +kernel) rfl
theorem cv_sumOfHoles_w4 : Cond.initialized cv_sumOfHoles_y.cls ∈ sl_T0 := sl_in1 89 (by decide +kernel) rfl
theorem cv_sumOfHoles_w5 : Cond.code cv_sumOfHoles_y prog_5_method_6_code 3 (some .int) ∈ sl_T0 := sl_in1 627 (by decide +kernel) rfl
theorem cv_sumOfHoles_w6 : cv_sumOfHoles_y.cls ≠ "java/lang/invoke/MethodHandle" ∧ cv_sumOfHoles_y.cls ≠ "java/lang/invoke/VarHandle" ∧ (parseMethodDescriptor cv_sumOfHoles_y.desc).map (fun d => d.parameters.length) = some 0 := by decide +kernel
theorem cs_cv_56 (g : sl_G) {hh : Nat} (h : 1 ≤ hh) : sl_CallS g sl_R3 56 0 3 hh 1 cv_sumOfHoles_pt := sl_callV (y := cv_sumOfHoles_y) (T := sl_F3) (N := 4) (cv_sumOfHoles_snd g) h (by decide) (sl_in1 624 (by decide +kernel) rfl) cv_sumOfHoles_w2 cv_sumOfHoles_w3 cv_sumOfHoles_w4 cv_sumOfHoles_w5 cv_sumOfHoles_w6 rfl (by decide)
theorem cv_greatestHole_w2 : Cond.instanceMethod cv_greatestHole_y ∈ sl_T0 := sl_in1 630 (by decide +kernel) rfl
theorem cv_greatestHole_w3 : Cond.selects cv_greatestHole_y.cls cv_greatestHole_y cv_greatestHole_y ∈ sl_T0 := sl_in1 8 (by decide +kernel) rfl
theorem cv_greatestHole_w4 : Cond.initialized cv_greatestHole_y.cls ∈ sl_T0 := sl_in1 89 (by decide +kernel) rfl
theorem cv_greatestHole_w5 : Cond.code cv_greatestHole_y prog_5_method_7_code 3 (some .int) ∈ sl_T0 := sl_in1 631 (by decide +kernel) rfl
theorem cv_greatestHole_w6 : cv_greatestHole_y.cls ≠ "java/lang/invoke/MethodHandle" ∧ cv_greatestHole_y.cls ≠ "java/lang/invoke/VarHandle" ∧ (parseMethodDescriptor cv_greatestHole_y.desc).map (fun d => d.parameters.length) = some 0 := by decide +kernel
theorem cs_cv_59 (g : sl_G) {hh : Nat} (h : 2 ≤ hh) : sl_CallS g sl_R3 59 0 3 hh 1 cv_greatestHole_pt := sl_callV (y := cv_greatestHole_y) (T := sl_F3) (N := 4) (cv_greatestHole_snd g) h (by decide) (sl_in1 628 (by decide +kernel) rfl) cv_greatestHole_w2 cv_greatestHole_w3 cv_greatestHole_w4 cv_greatestHole_w5 cv_greatestHole_w6 rfl (by decide)
def cv_total_ct : List sl_Ct := [(1, 0, 3, cv_sumOfPieces_pt), (1, 0, 3, cv_countHoles_pt), (1, 0, 3, cv_sumOfHoles_pt), (1, 0, 3, cv_greatestHole_pt)]
theorem cv_total_hc (g : sl_G) : sl_HC g sl_R3 2 cv_total_ct [(49, 0), (53, 0), (56, 0), (59, 0)] := sl_HC_cons (cs_cv_49 g (by decide)) (sl_HC_cons (cs_cv_53 g (by decide)) (sl_HC_cons (cs_cv_56 g (by decide)) (sl_HC_cons (cs_cv_59 g (by decide)) (sl_HC_nil g sl_R3 2))))
set_option maxRecDepth 20000 in
set_option maxHeartbeats 2000000 in
theorem cv_total_snd (g : sl_G) : sl_Snd g cv_total_y prog_5_method_4_code 2 (some .int) 2 (cv_total_pt) := by
  intro As μ Q hw h
  unfold cv_total_pt at h
  split at h
  next c0 a0 a1 =>
    split at h
    next e_ =>
      subst e_
      split at h
      next e_ =>
        subst e_
        refine sl_mk2 g [true, true] (cst := [some (.inr (.inr (some (3, 34)))), some (.inl a1)]) (lv0 := [none, none]) (by decide) rfl hw rfl rfl rfl lk_cv_ok (cv_total_hc g) cv_total_tb rfl ?_
        intro X M
        exact ⟨_, sl_VV0, h⟩
      next => exact h.elim
    next => exact h.elim
  next => exact h.elim
def sp_heightBy (a0 : Nat) (a1 : Int32) (μ : sl_M) (Q : Int32 → sl_M → Prop) : Prop := (a1 = (0 : Int32) → Q (1 : Int32) μ) ∧ (¬ a1 = (0 : Int32) → (a1 = (1 : Int32) → Q (μ a0 4) μ) ∧ (¬ a1 = (1 : Int32) → Q (-(μ a0 4)) μ))
def sp_heightBy_pt : sl_PT := fun As μ Q => match As with
  | [.inr (.inr (some (c0, a0))), .inl a1] => if c0 = 9 then (sp_heightBy a0 a1 μ (fun r μ' => Q (some (.inl r)) μ')) else False
  | _ => False
def sp_heightBy_cd : List sl_Ent := [(0, .iload_n 1, 1, 0, [1], [], false), (1, .lookupswitch 34 #[(0, 27), (1, 29)], 27, 0, [35], [(0, 28), (1, 30)], false), (28, .iconst 1, 1, 1, [], [], false), (29, .ireturn, 1, 0, [], [], false), (30, .aload_n 0, 1, 0, [0], [], false), (31, .getfield 25, 3, 0, [9, 4, 0, 0, 0], [], false), (34, .ireturn, 1, 0, [], [], false), (35, .aload_n 0, 1, 0, [0], [], false), (36, .getfield 25, 3, 0, [9, 4, 0, 0, 0], [], false), (39, .ineg, 1, 0, [], [], false), (40, .ireturn, 1, 0, [], [], false)]
def sp_heightBy_y : MethodName := ⟨"SpanLayers$Span", "heightBy", "(I)I"⟩
theorem sp_heightBy_tb : sl_tbOK sl_R9 prog_11_method_11_code 2 (some .int) lk_sp [] sp_heightBy_cd = true := by decide +kernel
def sp_heightBy_ct : List sl_Ct := []
theorem sp_heightBy_hc (g : sl_G) : sl_HC g sl_R9 0 sp_heightBy_ct [] := sl_HC_nil g sl_R9 0
set_option maxRecDepth 20000 in
set_option maxHeartbeats 2000000 in
theorem sp_heightBy_snd (g : sl_G) : sl_Snd g sp_heightBy_y prog_11_method_11_code 2 (some .int) 0 (sp_heightBy_pt) := by
  intro As μ Q hw h
  unfold sp_heightBy_pt at h
  split at h
  next c0 a0 a1 =>
    split at h
    next e_ =>
      subst e_
      refine sl_mk2 g [true, true] (cst := [some (.inr (.inr (some (9, a0)))), some (.inl a1)]) (lv0 := [none, none]) (by decide) rfl hw rfl rfl rfl lk_sp_ok (sp_heightBy_hc g) sp_heightBy_tb rfl ?_
      intro X M
      exact ⟨_, sl_VV0, h⟩
    next => exact h.elim
  next => exact h.elim
def ix_heightAt_L5 (a1 : Int32) (a2 : Int32) (Q : Int32 → sl_M → Prop) : Nat → Int32 → Int32 → sl_M → Prop
  | 0, _, _, _ => False
  | n + 1, x3, x4, μ => (x4 < (30 : Int32) → vp_in x4 30 ∧ ((sl_bz (μ (4 + x4.toNatClampNeg) 1)) = (0 : Int32) → (ix_heightAt_L5 a1 a2 Q n) x3 (x4 + (1 : Int32)) μ) ∧ (¬ (sl_bz (μ (4 + x4.toNatClampNeg) 1)) = (0 : Int32) → vp_in x4 30 ∧ sp_meets (4 + x4.toNatClampNeg) a1 a1 μ (fun r2 m1 => (r2 = (0 : Int32) → (ix_heightAt_L5 a1 a2 Q n) x3 (x4 + (1 : Int32)) m1) ∧ (¬ r2 = (0 : Int32) → vp_in x4 30 ∧ sp_heightBy (4 + x4.toNatClampNeg) a2 m1 (fun r4 m3 => ∀ v5, v5 = (x3 + r4) → (ix_heightAt_L5 a1 a2 Q n) v5 (x4 + (1 : Int32)) m3))))) ∧ (¬ x4 < (30 : Int32) → Q x3 μ)
def ix_heightAt (a1 : Int32) (a2 : Int32) (μ : sl_M) (Q : Int32 → sl_M → Prop) : Prop := ∃ n6, ix_heightAt_L5 a1 a2 Q n6 (0 : Int32) (0 : Int32) μ
def ix_heightAt_pt : sl_PT := fun As μ Q => match As with
  | [.inr (.inr (some (c0, a0))), .inl a1, .inl a2] => if c0 = 5 then (if a0 = 1 then (ix_heightAt a1 a2 μ (fun r μ' => Q (some (.inl r)) μ')) else False) else False
  | _ => False
def ix_heightAt_cd : List sl_Ent := [(0, .iconst 0, 1, 0, [], [], false), (1, .istore_n 3, 1, 0, [3], [], false), (2, .iconst 0, 1, 0, [], [], false), (3, .istore 4, 2, 0, [4], [], false), (5, .iload 4, 2, 0, [4], [], true), (7, .bipush 30, 2, 30, [], [], false), (9, .if_icmp .ge 51, 3, 0, [60], [], false), (12, .aload_n 0, 1, 0, [0], [], false), (13, .getfield 11, 3, 0, [5, 0, 2, 22, 1], [], false), (16, .iload 4, 2, 0, [4], [], false), (18, .aaload, 1, 0, [], [], false), (19, .getfield 31, 3, 0, [9, 1, 1, 0, 0], [], false), (22, .ifCond .eq 32, 3, 0, [54], [], false), (25, .aload_n 0, 1, 0, [0], [], false), (26, .getfield 11, 3, 0, [5, 0, 2, 22, 1], [], false), (29, .iload 4, 2, 0, [4], [], false), (31, .aaload, 1, 0, [], [], false), (32, .iload_n 1, 1, 0, [1], [], false), (33, .iload_n 1, 1, 0, [1], [], false), (34, .invokevirtual 75, 3, 0, [0], [], false), (37, .ifCond .eq 17, 3, 0, [54], [], false), (40, .iload_n 3, 1, 0, [3], [], false), (41, .aload_n 0, 1, 0, [0], [], false), (42, .getfield 11, 3, 0, [5, 0, 2, 22, 1], [], false), (45, .iload 4, 2, 0, [4], [], false), (47, .aaload, 1, 0, [], [], false), (48, .iload_n 2, 1, 0, [2], [], false), (49, .invokevirtual 116, 3, 0, [1], [], false), (52, .iadd, 1, 0, [], [], false), (53, .istore_n 3, 1, 0, [3, 1], [], false), (54, .iinc 4 1, 3, 1, [], [], false), (57, .goto (-52), 3, 0, [5], [], false), (60, .iload_n 3, 1, 0, [3], [], false), (61, .ireturn, 1, 0, [], [], false)]
def ix_heightAt_y : MethodName := ⟨"SpanLayers$Index", "heightAt", "(II)I"⟩
theorem ix_heightAt_tb : sl_tbOK sl_R5 prog_7_method_21_code 5 (some .int) lk_ix [(75, 0), (116, 0)] ix_heightAt_cd = true := by decide +kernel
theorem sp_heightBy_w2 : Cond.instanceMethod sp_heightBy_y ∈ sl_T0 := sl_in1 650 (by decide +kernel) rfl
theorem sp_heightBy_w3 : Cond.selects sp_heightBy_y.cls sp_heightBy_y sp_heightBy_y ∈ sl_T0 := sl_in1 651 (by decide +kernel) rfl
theorem sp_heightBy_w4 : Cond.initialized sp_heightBy_y.cls ∈ sl_T0 := sl_in1 88 (by decide +kernel) rfl
theorem sp_heightBy_w5 : Cond.code sp_heightBy_y prog_11_method_11_code 2 (some .int) ∈ sl_T0 := sl_in1 652 (by decide +kernel) rfl
theorem sp_heightBy_w6 : sp_heightBy_y.cls ≠ "java/lang/invoke/MethodHandle" ∧ sp_heightBy_y.cls ≠ "java/lang/invoke/VarHandle" ∧ (parseMethodDescriptor sp_heightBy_y.desc).map (fun d => d.parameters.length) = some 1 := by decide +kernel
theorem cs_ix_116 (g : sl_G) {hh : Nat} (h : 1 ≤ hh) : sl_CallS g sl_R5 116 0 9 hh 2 sp_heightBy_pt := sl_callV (y := sp_heightBy_y) (T := sl_F9) (N := 6) (sp_heightBy_snd g) h (by decide) (sl_in1 649 (by decide +kernel) rfl) sp_heightBy_w2 sp_heightBy_w3 sp_heightBy_w4 sp_heightBy_w5 sp_heightBy_w6 rfl (by decide)
def ix_heightAt_ct : List sl_Ct := [(3, 0, 9, sp_meets_pt), (2, 0, 9, sp_heightBy_pt)]
theorem ix_heightAt_hc (g : sl_G) : sl_HC g sl_R5 1 ix_heightAt_ct [(75, 0), (116, 0)] := sl_HC_cons (cs_ix_75 g (by decide)) (sl_HC_cons (cs_ix_116 g (by decide)) (sl_HC_nil g sl_R5 1))
set_option maxRecDepth 20000 in
set_option maxHeartbeats 2000000 in
theorem ix_heightAt_snd (g : sl_G) : sl_Snd g ix_heightAt_y prog_7_method_21_code 5 (some .int) 1 (ix_heightAt_pt) := by
  intro As μ Q hw h
  unfold ix_heightAt_pt at h
  split at h
  next c0 a0 a1 a2 =>
    split at h
    next e_ =>
      subst e_
      split at h
      next e_ =>
        subst e_
        refine sl_mk2 g [true, true, true, false, false] (cst := [some (.inr (.inr (some (5, 1)))), some (.inl a1), some (.inl a2)]) (lv0 := [none, none, none, none, none]) (by decide) rfl hw rfl rfl rfl lk_ix_ok (ix_heightAt_hc g) ix_heightAt_tb rfl ?_
        intro X M
        have v5 := sl_extL M sl_VV0 5 (fun n lv st μ => match lv, st with | [_, _, _, some (.inl x3), some (.inl x4)], [] => ix_heightAt_L5 a1 a2 (fun r μ' => Q (some (.inl r)) μ') n x3 x4 μ | _, _ => False) (by
            intro lv st μ h
            split at h
            · exact h
            · exact h) (by
            intro n5 w5
            refine ⟨_, w5, ?_⟩
            intro lv st μ h
            split at h
            · exact h
            · exact h.elim)
        exact ⟨_, v5, h⟩
      next => exact h.elim
    next => exact h.elim
  next => exact h.elim
def ix_higherOf (a1 : Int32) (a2 : Int32) (a3 : Int32) (μ : sl_M) (Q : Int32 → sl_M → Prop) : Prop := (a2 ≤ (999 : Int32) → ix_heightAt a2 a3 μ (fun r2 m1 => ix_heightAt a1 a3 m1 (fun r4 m3 => ∀ v5, v5 = (r2 - r4) → (v5 ≤ (0 : Int32) → (v5 = (0 : Int32) → (a2 < a1 → Q a2 m3) ∧ (¬ a2 < a1 → Q a1 m3)) ∧ (¬ v5 = (0 : Int32) → Q a1 m3)) ∧ (¬ v5 ≤ (0 : Int32) → Q a2 m3)))) ∧ (¬ a2 ≤ (999 : Int32) → Q a1 μ)
def ix_higherOf_pt : sl_PT := fun As μ Q => match As with
  | [.inr (.inr (some (c0, a0))), .inl a1, .inl a2, .inl a3] => if c0 = 5 then (if a0 = 1 then (ix_higherOf a1 a2 a3 μ (fun r μ' => Q (some (.inl r)) μ')) else False) else False
  | _ => False
def ix_higherOf_cd : List sl_Ent := [(0, .iload_n 2, 1, 0, [2], [], false), (1, .sipush 999, 3, 999, [], [], false), (4, .if_icmp .le 5, 3, 0, [9], [], false), (7, .iload_n 1, 1, 0, [1], [], false), (8, .ireturn, 1, 0, [], [], false), (9, .aload_n 0, 1, 0, [0], [], false), (10, .iload_n 2, 1, 0, [2], [], false), (11, .iload_n 3, 1, 0, [3], [], false), (12, .invokevirtual 123, 3, 0, [0], [], false), (15, .aload_n 0, 1, 0, [0], [], false), (16, .iload_n 1, 1, 0, [1], [], false), (17, .iload_n 3, 1, 0, [3], [], false), (18, .invokevirtual 123, 3, 0, [0], [], false), (21, .isub, 1, 0, [], [], false), (22, .istore 4, 2, 0, [4, 1], [], false), (24, .iload 4, 2, 0, [4], [], false), (26, .ifCond .gt 13, 3, 0, [39], [], false), (29, .iload 4, 2, 0, [4], [], false), (31, .ifCond .ne 12, 3, 0, [43], [], false), (34, .iload_n 2, 1, 0, [2], [], false), (35, .iload_n 1, 1, 0, [1], [], false), (36, .if_icmp .ge 7, 3, 0, [43], [], false), (39, .iload_n 2, 1, 0, [2], [], false), (40, .goto 4, 3, 0, [44], [], false), (43, .iload_n 1, 1, 0, [1], [], false), (44, .ireturn, 1, 0, [], [], false)]
def ix_higherOf_y : MethodName := ⟨"SpanLayers$Index", "higherOf", "(III)I"⟩
theorem ix_higherOf_tb : sl_tbOK sl_R5 prog_7_method_23_code 5 (some .int) lk_ix [(123, 0)] ix_higherOf_cd = true := by decide +kernel
theorem ix_heightAt_w2 : Cond.instanceMethod ix_heightAt_y ∈ sl_T0 := sl_in1 646 (by decide +kernel) rfl
theorem ix_heightAt_w3 : Cond.selects ix_heightAt_y.cls ix_heightAt_y ix_heightAt_y ∈ sl_T0 := sl_in1 647 (by decide +kernel) rfl
theorem ix_heightAt_w4 : Cond.initialized ix_heightAt_y.cls ∈ sl_T0 := sl_in1 87 (by decide +kernel) rfl
theorem ix_heightAt_w5 : Cond.code ix_heightAt_y prog_7_method_21_code 5 (some .int) ∈ sl_T0 := sl_in1 648 (by decide +kernel) rfl
theorem ix_heightAt_w6 : ix_heightAt_y.cls ≠ "java/lang/invoke/MethodHandle" ∧ ix_heightAt_y.cls ≠ "java/lang/invoke/VarHandle" ∧ (parseMethodDescriptor ix_heightAt_y.desc).map (fun d => d.parameters.length) = some 2 := by decide +kernel
theorem cs_ix_123 (g : sl_G) {hh : Nat} (h : 2 ≤ hh) : sl_CallS g sl_R5 123 0 5 hh 3 ix_heightAt_pt := sl_callV (y := ix_heightAt_y) (T := sl_F5) (N := 2) (ix_heightAt_snd g) h (by decide) (sl_in1 665 (by decide +kernel) rfl) ix_heightAt_w2 ix_heightAt_w3 ix_heightAt_w4 ix_heightAt_w5 ix_heightAt_w6 rfl (by decide)
def ix_higherOf_ct : List sl_Ct := [(3, 0, 5, ix_heightAt_pt)]
theorem ix_higherOf_hc (g : sl_G) : sl_HC g sl_R5 2 ix_higherOf_ct [(123, 0)] := sl_HC_cons (cs_ix_123 g (by decide)) (sl_HC_nil g sl_R5 2)
set_option maxRecDepth 20000 in
set_option maxHeartbeats 2000000 in
theorem ix_higherOf_snd (g : sl_G) : sl_Snd g ix_higherOf_y prog_7_method_23_code 5 (some .int) 2 (ix_higherOf_pt) := by
  intro As μ Q hw h
  unfold ix_higherOf_pt at h
  split at h
  next c0 a0 a1 a2 a3 =>
    split at h
    next e_ =>
      subst e_
      split at h
      next e_ =>
        subst e_
        refine sl_mk2 g [true, true, true, true, false] (cst := [some (.inr (.inr (some (5, 1)))), some (.inl a1), some (.inl a2), some (.inl a3)]) (lv0 := [none, none, none, none, none]) (by decide) rfl hw rfl rfl rfl lk_ix_ok (ix_higherOf_hc g) ix_higherOf_tb rfl ?_
        intro X M
        exact ⟨_, sl_VV0, h⟩
      next => exact h.elim
    next => exact h.elim
  next => exact h.elim
def ix_topPlace_L4 (a1 : Int32) (Q : Int32 → sl_M → Prop) : Nat → Int32 → Int32 → sl_M → Prop
  | 0, _, _, _ => False
  | n + 1, x2, x3, μ => (x3 < (30 : Int32) → vp_in x3 30 ∧ ((sl_bz (μ (4 + x3.toNatClampNeg) 1)) = (0 : Int32) → (ix_topPlace_L4 a1 Q n) x2 (x3 + (1 : Int32)) μ) ∧ (¬ (sl_bz (μ (4 + x3.toNatClampNeg) 1)) = (0 : Int32) → vp_in x3 30 ∧ ix_higherOf x2 (μ (4 + x3.toNatClampNeg) 2) a1 μ (fun r2 m1 => vp_in x3 30 ∧ ix_higherOf r2 ((m1 (4 + x3.toNatClampNeg) 3) + (1 : Int32)) a1 m1 (fun r4 m3 => (ix_topPlace_L4 a1 Q n) r4 (x3 + (1 : Int32)) m3)))) ∧ (¬ x3 < (30 : Int32) → Q x2 μ)
def ix_topPlace (a1 : Int32) (μ : sl_M) (Q : Int32 → sl_M → Prop) : Prop := ∃ n5, ix_topPlace_L4 a1 Q n5 (0 : Int32) (0 : Int32) μ
def ix_topPlace_pt : sl_PT := fun As μ Q => match As with
  | [.inr (.inr (some (c0, a0))), .inl a1] => if c0 = 5 then (if a0 = 1 then (ix_topPlace a1 μ (fun r μ' => Q (some (.inl r)) μ')) else False) else False
  | _ => False
def ix_topPlace_cd : List sl_Ent := [(0, .iconst 0, 1, 0, [], [], false), (1, .istore_n 2, 1, 0, [2], [], false), (2, .iconst 0, 1, 0, [], [], false), (3, .istore_n 3, 1, 0, [3], [], false), (4, .iload_n 3, 1, 0, [3], [], true), (5, .bipush 30, 2, 30, [], [], false), (7, .if_icmp .ge 55, 3, 0, [62], [], false), (10, .aload_n 0, 1, 0, [0], [], false), (11, .getfield 11, 3, 0, [5, 0, 2, 22, 1], [], false), (14, .iload_n 3, 1, 0, [3], [], false), (15, .aaload, 1, 0, [], [], false), (16, .getfield 31, 3, 0, [9, 1, 1, 0, 0], [], false), (19, .ifCond .eq 37, 3, 0, [56], [], false), (22, .aload_n 0, 1, 0, [0], [], false), (23, .iload_n 2, 1, 0, [2], [], false), (24, .aload_n 0, 1, 0, [0], [], false), (25, .getfield 11, 3, 0, [5, 0, 2, 22, 1], [], false), (28, .iload_n 3, 1, 0, [3], [], false), (29, .aaload, 1, 0, [], [], false), (30, .getfield 35, 3, 0, [9, 2, 0, 0, 0], [], false), (33, .iload_n 1, 1, 0, [1], [], false), (34, .invokevirtual 119, 3, 0, [0], [], false), (37, .istore_n 2, 1, 0, [2], [], false), (38, .aload_n 0, 1, 0, [0], [], false), (39, .iload_n 2, 1, 0, [2], [], false), (40, .aload_n 0, 1, 0, [0], [], false), (41, .getfield 11, 3, 0, [5, 0, 2, 22, 1], [], false), (44, .iload_n 3, 1, 0, [3], [], false), (45, .aaload, 1, 0, [], [], false), (46, .getfield 39, 3, 0, [9, 3, 0, 0, 0], [], false), (49, .iconst 1, 1, 1, [], [], false), (50, .iadd, 1, 0, [], [], false), (51, .iload_n 1, 1, 0, [1], [], false), (52, .invokevirtual 119, 3, 0, [0], [], false), (55, .istore_n 2, 1, 0, [2], [], false), (56, .iinc 3 1, 3, 1, [], [], false), (59, .goto (-55), 3, 0, [4], [], false), (62, .iload_n 2, 1, 0, [2], [], false), (63, .ireturn, 1, 0, [], [], false)]
def ix_topPlace_y : MethodName := ⟨"SpanLayers$Index", "topPlace", "(I)I"⟩
theorem ix_topPlace_tb : sl_tbOK sl_R5 prog_7_method_22_code 4 (some .int) lk_ix [(119, 0)] ix_topPlace_cd = true := by decide +kernel
theorem ix_higherOf_w2 : Cond.instanceMethod ix_higherOf_y ∈ sl_T0 := sl_in1 663 (by decide +kernel) rfl
theorem ix_higherOf_w3 : Cond.selects ix_higherOf_y.cls ix_higherOf_y ix_higherOf_y ∈ sl_T0 := sl_in1 9 (by decide +kernel) rfl
theorem ix_higherOf_w4 : Cond.initialized ix_higherOf_y.cls ∈ sl_T0 := sl_in1 87 (by decide +kernel) rfl
theorem ix_higherOf_w5 : Cond.code ix_higherOf_y prog_7_method_23_code 5 (some .int) ∈ sl_T0 := sl_in1 664 (by decide +kernel) rfl
theorem ix_higherOf_w6 : ix_higherOf_y.cls ≠ "java/lang/invoke/MethodHandle" ∧ ix_higherOf_y.cls ≠ "java/lang/invoke/VarHandle" ∧ (parseMethodDescriptor ix_higherOf_y.desc).map (fun d => d.parameters.length) = some 3 := by decide +kernel
theorem cs_ix_119 (g : sl_G) {hh : Nat} (h : 3 ≤ hh) : sl_CallS g sl_R5 119 0 5 hh 4 ix_higherOf_pt := sl_callV (y := ix_higherOf_y) (T := sl_F5) (N := 2) (ix_higherOf_snd g) h (by decide) (sl_in1 661 (by decide +kernel) rfl) ix_higherOf_w2 ix_higherOf_w3 ix_higherOf_w4 ix_higherOf_w5 ix_higherOf_w6 rfl (by decide)
def ix_topPlace_ct : List sl_Ct := [(4, 0, 5, ix_higherOf_pt)]
theorem ix_topPlace_hc (g : sl_G) : sl_HC g sl_R5 3 ix_topPlace_ct [(119, 0)] := sl_HC_cons (cs_ix_119 g (by decide)) (sl_HC_nil g sl_R5 3)
set_option maxRecDepth 20000 in
set_option maxHeartbeats 2000000 in
theorem ix_topPlace_snd (g : sl_G) : sl_Snd g ix_topPlace_y prog_7_method_22_code 4 (some .int) 3 (ix_topPlace_pt) := by
  intro As μ Q hw h
  unfold ix_topPlace_pt at h
  split at h
  next c0 a0 a1 =>
    split at h
    next e_ =>
      subst e_
      split at h
      next e_ =>
        subst e_
        refine sl_mk2 g [true, true, false, false] (cst := [some (.inr (.inr (some (5, 1)))), some (.inl a1)]) (lv0 := [none, none, none, none]) (by decide) rfl hw rfl rfl rfl lk_ix_ok (ix_topPlace_hc g) ix_topPlace_tb rfl ?_
        intro X M
        have v4 := sl_extL M sl_VV0 4 (fun n lv st μ => match lv, st with | [_, _, some (.inl x2), some (.inl x3)], [] => ix_topPlace_L4 a1 (fun r μ' => Q (some (.inl r)) μ') n x2 x3 μ | _, _ => False) (by
            intro lv st μ h
            split at h
            · exact h
            · exact h) (by
            intro n4 w4
            refine ⟨_, w4, ?_⟩
            intro lv st μ h
            split at h
            · exact h
            · exact h.elim)
        exact ⟨_, v4, h⟩
      next => exact h.elim
    next => exact h.elim
  next => exact h.elim
def co_firstToEnd_L4 (a1 : Int32) (Q : Option Nat → sl_M → Prop) : Nat → Option (Nat × Nat) → Int32 → sl_M → Prop
  | 0, _, _, _ => False
  | n + 1, none, x3, μ => (x3 < (30 : Int32) → vp_in x3 30 ∧ ((sl_bz (μ (4 + x3.toNatClampNeg) 1)) = (0 : Int32) → (co_firstToEnd_L4 a1 Q n) none (x3 + (1 : Int32)) μ) ∧ (¬ (sl_bz (μ (4 + x3.toNatClampNeg) 1)) = (0 : Int32) → ((μ (4 + x3.toNatClampNeg) 2) ≤ a1 → (co_firstToEnd_L4 a1 Q n) none (x3 + (1 : Int32)) μ) ∧ (¬ (μ (4 + x3.toNatClampNeg) 2) ≤ a1 → (co_firstToEnd_L4 a1 Q n) (some (9, (4 + x3.toNatClampNeg))) (x3 + (1 : Int32)) μ))) ∧ (¬ x3 < (30 : Int32) → Q none μ)
  | n + 1, (some (c2, x2)), x3, μ => c2 = 9 ∧ (x3 < (30 : Int32) → vp_in x3 30 ∧ ((sl_bz (μ (4 + x3.toNatClampNeg) 1)) = (0 : Int32) → (co_firstToEnd_L4 a1 Q n) (some (9, x2)) (x3 + (1 : Int32)) μ) ∧ (¬ (sl_bz (μ (4 + x3.toNatClampNeg) 1)) = (0 : Int32) → ((μ (4 + x3.toNatClampNeg) 2) ≤ a1 → (co_firstToEnd_L4 a1 Q n) (some (9, x2)) (x3 + (1 : Int32)) μ) ∧ (¬ (μ (4 + x3.toNatClampNeg) 2) ≤ a1 → ((μ (4 + x3.toNatClampNeg) 3) < (μ x2 3) → (co_firstToEnd_L4 a1 Q n) (some (9, (4 + x3.toNatClampNeg))) (x3 + (1 : Int32)) μ) ∧ (¬ (μ (4 + x3.toNatClampNeg) 3) < (μ x2 3) → (co_firstToEnd_L4 a1 Q n) (some (9, x2)) (x3 + (1 : Int32)) μ)))) ∧ (¬ x3 < (30 : Int32) → Q (some x2) μ)
def co_firstToEnd (a1 : Int32) (μ : sl_M) (Q : Option Nat → sl_M → Prop) : Prop := ∃ n1, co_firstToEnd_L4 a1 Q n1 none (0 : Int32) μ
def co_firstToEnd_pt : sl_PT := fun As μ Q => match As with
  | [.inr (.inr (some (c0, a0))), .inl a1] => if c0 = 5 then (if a0 = 1 then (co_firstToEnd a1 μ (fun r μ' => r.elim (Q (some (.inr (.inr none))) μ') (fun o => Q (some (.inr (.inr (some (9, o))))) μ'))) else False) else False
  | _ => False
def co_firstToEnd_cd : List sl_Ent := [(0, .aconst_null, 1, 0, [], [], false), (1, .astore_n 2, 1, 0, [2], [], false), (2, .iconst 0, 1, 0, [], [], false), (3, .istore_n 3, 1, 0, [3], [], false), (4, .iload_n 3, 1, 0, [3], [], true), (5, .bipush 30, 2, 30, [], [], false), (7, .if_icmp .ge 53, 3, 0, [60], [], false), (10, .aload_n 0, 1, 0, [0], [], false), (11, .getfield 37, 3, 0, [5, 0, 2, 22, 1], [], false), (14, .iload_n 3, 1, 0, [3], [], false), (15, .aaload, 1, 0, [], [], false), (16, .astore 4, 2, 0, [4], [], false), (18, .aload 4, 2, 0, [4], [], false), (20, .getfield 43, 3, 0, [9, 1, 1, 0, 0], [], false), (23, .ifCond .eq 31, 3, 0, [54], [], false), (26, .aload 4, 2, 0, [4], [], false), (28, .getfield 47, 3, 0, [9, 2, 0, 0, 0], [], false), (31, .iload_n 1, 1, 0, [1], [], false), (32, .if_icmp .le 22, 3, 0, [54], [], false), (35, .aload_n 2, 1, 0, [2], [], false), (36, .ifnull 15, 3, 0, [51], [], false), (39, .aload 4, 2, 0, [4], [], false), (41, .getfield 34, 3, 0, [9, 3, 0, 0, 0], [], false), (44, .aload_n 2, 1, 0, [2], [], false), (45, .getfield 34, 3, 0, [9, 3, 0, 0, 0], [], false), (48, .if_icmp .ge 6, 3, 0, [54], [], false), (51, .aload 4, 2, 0, [4], [], false), (53, .astore_n 2, 1, 0, [2], [], false), (54, .iinc 3 1, 3, 1, [], [], false), (57, .goto (-53), 3, 0, [4], [], false), (60, .aload_n 2, 1, 0, [2], [], false), (61, .areturn, 1, 0, [], [], false)]
def co_firstToEnd_y : MethodName := ⟨"SpanLayers$Choice", "firstToEnd", "(LSpanLayers$Index;I)LSpanLayers$Span;"⟩
theorem co_firstToEnd_tb : sl_tbOK sl_R1 prog_3_method_3_code 5 (some (.object "SpanLayers$Span")) lk_co [] co_firstToEnd_cd = true := by decide +kernel
def co_firstToEnd_ct : List sl_Ct := []
theorem co_firstToEnd_hc (g : sl_G) : sl_HC g sl_R1 0 co_firstToEnd_ct [] := sl_HC_nil g sl_R1 0
set_option maxRecDepth 20000 in
set_option maxHeartbeats 2000000 in
theorem co_firstToEnd_snd (g : sl_G) : sl_Snd g co_firstToEnd_y prog_3_method_3_code 5 (some (.object "SpanLayers$Span")) 0 (co_firstToEnd_pt) := by
  intro As μ Q hw h
  unfold co_firstToEnd_pt at h
  split at h
  next c0 a0 a1 =>
    split at h
    next e_ =>
      subst e_
      split at h
      next e_ =>
        subst e_
        refine sl_mk2 g [true, true, false, false, false] (cst := [some (.inr (.inr (some (5, 1)))), some (.inl a1)]) (lv0 := [none, none, none, none, none]) (by decide) rfl hw rfl rfl rfl lk_co_ok (co_firstToEnd_hc g) co_firstToEnd_tb rfl ?_
        intro X M
        have v4 := sl_extL M sl_VV0 4 (fun n lv st μ => match lv, st with | [_, _, some (.inr (.inr none)), some (.inl x3), _], [] => co_firstToEnd_L4 a1 (fun r μ' => r.elim (Q (some (.inr (.inr none))) μ') (fun o => Q (some (.inr (.inr (some (9, o))))) μ')) n none x3 μ | [_, _, some (.inr (.inr (some (c2, x2)))), some (.inl x3), _], [] => co_firstToEnd_L4 a1 (fun r μ' => r.elim (Q (some (.inr (.inr none))) μ') (fun o => Q (some (.inr (.inr (some (9, o))))) μ')) n (some (c2, x2)) x3 μ | _, _ => False) (by
            intro lv st μ h
            split at h
            · exact h
            · exact h
            · exact h) (by
            intro n4 w4
            refine ⟨_, w4, ?_⟩
            intro lv st μ h
            split at h
            · exact h
            · obtain ⟨rfl, h⟩ := h; exact h
            · exact h.elim)
        exact ⟨_, v4, h⟩
      next => exact h.elim
    next => exact h.elim
  next => exact h.elim
def co_takeApart_L9 (Q : sl_M → Prop) : Nat → Int32 → Int32 → sl_M → Prop
  | 0, _, _, _ => False
  | n + 1, x2, x3, μ => (x3 < (30 : Int32) → co_firstToEnd x2 μ (fun r2 m1 => r2.elim (Q m1) (fun o3 => vp_in x3 30 ∧ ∀ m4, m4 = sl_up m1 39 x3.toNatClampNeg (m1 o3 0) → vp_in x3 30 ∧ ∀ m5, m5 = sl_up m4 40 x3.toNatClampNeg (m4 o3 3) → ∀ m6, m6 = sl_up m5 38 2 ((m5 38 2) + (1 : Int32)) → ∀ v7, v7 = (m6 o3 3) → (co_takeApart_L9 Q n) v7 (x3 + (1 : Int32)) m6))) ∧ (¬ x3 < (30 : Int32) → Q μ)
def co_takeApart (μ : sl_M) (Q : sl_M → Prop) : Prop := ∀ m8, m8 = sl_up μ 38 2 (0 : Int32) → ∃ n9, co_takeApart_L9 Q n9 (-1 : Int32) (0 : Int32) m8
def co_takeApart_pt : sl_PT := fun As μ Q => match As with
  | [.inr (.inr (some (c0, a0))), .inr (.inr (some (c1, a1)))] => if c0 = 1 then (if c1 = 5 then (if a0 = 38 then (if a1 = 1 then (co_takeApart μ (fun μ' => Q none μ')) else False) else False) else False) else False
  | _ => False
def co_takeApart_cd : List sl_Ent := [(0, .iconst (-1), 1, (-1), [], [], false), (1, .istore_n 2, 1, 0, [2], [], false), (2, .aload_n 0, 1, 0, [0], [], false), (3, .iconst 0, 1, 0, [], [], false), (4, .putfield 21, 3, 0, [1, 2, 0], [], false), (7, .iconst 0, 1, 0, [], [], false), (8, .istore_n 3, 1, 0, [3], [], false), (9, .iload_n 3, 1, 0, [3], [], true), (10, .bipush 30, 2, 30, [], [], false), (12, .if_icmp .ge 60, 3, 0, [72], [], false), (15, .aload_n 1, 1, 0, [1], [], false), (16, .iload_n 2, 1, 0, [2], [], false), (17, .invokestatic 25, 3, 0, [0], [], false), (20, .astore 4, 2, 0, [4], [], false), (22, .aload 4, 2, 0, [4], [], false), (24, .ifnonnull 4, 3, 0, [28], [], false), (27, .return_, 1, 0, [], [], false), (28, .aload_n 0, 1, 0, [0], [], false), (29, .getfield 9, 3, 0, [1, 0, 2, 20, 1], [], false), (32, .iload_n 3, 1, 0, [3], [], false), (33, .aload 4, 2, 0, [4], [], false), (35, .getfield 29, 3, 0, [9, 0, 0, 0, 0], [], false), (38, .iastore, 1, 0, [], [], false), (39, .aload_n 0, 1, 0, [0], [], false), (40, .getfield 15, 3, 0, [1, 1, 2, 20, 2], [], false), (43, .iload_n 3, 1, 0, [3], [], false), (44, .aload 4, 2, 0, [4], [], false), (46, .getfield 34, 3, 0, [9, 3, 0, 0, 0], [], false), (49, .iastore, 1, 0, [], [], false), (50, .aload_n 0, 1, 0, [0], [], false), (51, .dup, 1, 0, [], [], false), (52, .getfield 21, 3, 0, [1, 2, 0, 0, 0], [], false), (55, .iconst 1, 1, 1, [], [], false), (56, .iadd, 1, 0, [], [], false), (57, .putfield 21, 3, 0, [1, 2, 0], [], false), (60, .aload 4, 2, 0, [4], [], false), (62, .getfield 34, 3, 0, [9, 3, 0, 0, 0], [], false), (65, .istore_n 2, 1, 0, [2, 1], [], false), (66, .iinc 3 1, 3, 1, [], [], false), (69, .goto (-60), 3, 0, [9], [], false), (72, .return_, 1, 0, [], [], false)]
def co_takeApart_y : MethodName := ⟨"SpanLayers$Choice", "takeApart", "(LSpanLayers$Index;)V"⟩
theorem co_takeApart_tb : sl_tbOK sl_R1 prog_3_method_2_code 5 none lk_co [(25, 1)] co_takeApart_cd = true := by decide +kernel
theorem co_firstToEnd_w2 : Cond.static co_firstToEnd_y ∈ sl_T0 := sl_in1 675 (by decide +kernel) rfl
theorem co_firstToEnd_w4 : Cond.initialized co_firstToEnd_y.cls ∈ sl_T0 := sl_in1 90 (by decide +kernel) rfl
theorem co_firstToEnd_w5 : Cond.code co_firstToEnd_y prog_3_method_3_code 5 (some (.object "SpanLayers$Span")) ∈ sl_T0 := sl_in1 676 (by decide +kernel) rfl
theorem co_firstToEnd_w6 : co_firstToEnd_y.cls ≠ "java/lang/invoke/MethodHandle" ∧ co_firstToEnd_y.cls ≠ "java/lang/invoke/VarHandle" ∧ (parseMethodDescriptor co_firstToEnd_y.desc).map (fun d => d.parameters.length) = some 2 := by decide +kernel
theorem cs_co_25 (g : sl_G) {hh : Nat} (h : 1 ≤ hh) : sl_CallS g sl_R1 25 1 0 hh 2 co_firstToEnd_pt := sl_callS (y := co_firstToEnd_y) (co_firstToEnd_snd g) h (by decide) (sl_in1 674 (by decide +kernel) rfl) co_firstToEnd_w2 co_firstToEnd_w4 co_firstToEnd_w5 co_firstToEnd_w6
def co_takeApart_ct : List sl_Ct := [(2, 1, 0, co_firstToEnd_pt)]
theorem co_takeApart_hc (g : sl_G) : sl_HC g sl_R1 1 co_takeApart_ct [(25, 1)] := sl_HC_cons (cs_co_25 g (by decide)) (sl_HC_nil g sl_R1 1)
set_option maxRecDepth 20000 in
set_option maxHeartbeats 2000000 in
theorem co_takeApart_snd (g : sl_G) : sl_Snd g co_takeApart_y prog_3_method_2_code 5 none 1 (co_takeApart_pt) := by
  intro As μ Q hw h
  unfold co_takeApart_pt at h
  split at h
  next c0 a0 c1 a1 =>
    split at h
    next e_ =>
      subst e_
      split at h
      next e_ =>
        subst e_
        split at h
        next e_ =>
          subst e_
          split at h
          next e_ =>
            subst e_
            refine sl_mk2 g [true, true, false, false, false] (cst := [some (.inr (.inr (some (1, 38)))), some (.inr (.inr (some (5, 1))))]) (lv0 := [none, none, none, none, none]) (by decide) rfl hw rfl rfl rfl lk_co_ok (co_takeApart_hc g) co_takeApart_tb rfl ?_
            intro X M
            have v9 := sl_extL M sl_VV0 9 (fun n lv st μ => match lv, st with | [_, _, some (.inl x2), some (.inl x3), _], [] => co_takeApart_L9 (fun μ' => Q none μ') n x2 x3 μ | _, _ => False) (by
                intro lv st μ h
                split at h
                · exact h
                · exact h) (by
                intro n9 w9
                refine ⟨_, w9, ?_⟩
                intro lv st μ h
                split at h
                · exact h
                · exact h.elim)
            exact ⟨_, v9, h⟩
          next => exact h.elim
        next => exact h.elim
      next => exact h.elim
    next => exact h.elim
  next => exact h.elim
def co_heaviestOf_B60 (Q : Int32 → sl_M → Prop) (k17 : Int32 → Int32 → sl_M → Prop) : Int32 → Int32 → Int32 → sl_M → Prop
  | x2, x3, x4, μ => vp_in (x3 + (1 : Int32)) 31 ∧ vp_in x3 30 ∧ sl_kd (μ 3 x3.toNatClampNeg).toNatClampNeg = 9 ∧ vp_in x4 31 ∧ ma_max (μ 41 (x3 + (1 : Int32)).toNatClampNeg) ((μ ((μ 3 x3.toNatClampNeg).toNatClampNeg) 4) + (μ 41 x4.toNatClampNeg)) μ (fun r3 m2 => vp_in x3 31 ∧ ∀ m4, m4 = sl_up m2 41 x3.toNatClampNeg r3 → k17 x2 (x3 + (-1 : Int32)) m4)
def co_heaviestOf_L26 (Q : Int32 → sl_M → Prop) (k17 : Int32 → Int32 → sl_M → Prop) : Nat → Int32 → Int32 → Int32 → sl_M → Prop
  | 0, _, _, _, _ => False
  | n + 1, x2, x3, x4, μ => (x4 < x2 → vp_in x4 30 ∧ sl_kd (μ 3 x4.toNatClampNeg).toNatClampNeg = 9 ∧ vp_in x3 30 ∧ sl_kd (μ 3 x3.toNatClampNeg).toNatClampNeg = 9 ∧ ((μ ((μ 3 x4.toNatClampNeg).toNatClampNeg) 2) ≤ (μ ((μ 3 x3.toNatClampNeg).toNatClampNeg) 3) → (co_heaviestOf_L26 Q k17 n) x2 x3 (x4 + (1 : Int32)) μ) ∧ (¬ (μ ((μ 3 x4.toNatClampNeg).toNatClampNeg) 2) ≤ (μ ((μ 3 x3.toNatClampNeg).toNatClampNeg) 3) → co_heaviestOf_B60 Q k17 x2 x3 x4 μ)) ∧ (¬ x4 < x2 → co_heaviestOf_B60 Q k17 x2 x3 x4 μ)
def co_heaviestOf_L17 (Q : Int32 → sl_M → Prop) : Nat → Int32 → Int32 → sl_M → Prop
  | 0, _, _, _ => False
  | n + 1, x2, x3, μ => (x3 < (0 : Int32) → vp_in (0 : Int32) 31 ∧ Q (μ 41 (0 : Int32).toNatClampNeg) μ) ∧ (¬ x3 < (0 : Int32) → ∃ n1, co_heaviestOf_L26 Q (co_heaviestOf_L17 Q n) n1 x2 x3 (x3 + (1 : Int32)) μ)
def co_heaviestOf (μ : sl_M) (Q : Int32 → sl_M → Prop) : Prop := ix_sortBy (0 : Int32) μ (fun r6 m5 => vp_in r6 31 ∧ ∀ m7, m7 = sl_up m5 41 r6.toNatClampNeg (0 : Int32) → ∃ n8, co_heaviestOf_L17 Q n8 r6 (r6 - (1 : Int32)) m7)
def co_heaviestOf_pt : sl_PT := fun As μ Q => match As with
  | [.inr (.inr (some (c0, a0))), .inr (.inr (some (c1, a1)))] => if c0 = 1 then (if c1 = 5 then (if a0 = 38 then (if a1 = 1 then (co_heaviestOf μ (fun r μ' => Q (some (.inl r)) μ')) else False) else False) else False) else False
  | _ => False
def co_heaviestOf_cd : List sl_Ent := [(0, .aload_n 1, 1, 0, [1], [], false), (1, .iconst 0, 1, 0, [], [], false), (2, .invokevirtual 50, 3, 0, [0], [], false), (5, .istore_n 2, 1, 0, [2], [], false), (6, .aload_n 0, 1, 0, [0], [], false), (7, .getfield 18, 3, 0, [1, 3, 2, 20, 3], [], false), (10, .iload_n 2, 1, 0, [2], [], false), (11, .iconst 0, 1, 0, [], [], false), (12, .iastore, 1, 0, [], [], false), (13, .iload_n 2, 1, 0, [2], [], false), (14, .iconst 1, 1, 1, [], [], false), (15, .isub, 1, 0, [], [], false), (16, .istore_n 3, 1, 0, [3], [], false), (17, .iload_n 3, 1, 0, [3], [], true), (18, .ifCond .lt 82, 3, 0, [100], [], false), (21, .iload_n 3, 1, 0, [3], [], false), (22, .iconst 1, 1, 1, [], [], false), (23, .iadd, 1, 0, [], [], false), (24, .istore 4, 2, 0, [4], [], false), (26, .iload 4, 2, 0, [4], [], true), (28, .iload_n 2, 1, 0, [2], [], false), (29, .if_icmp .ge 31, 3, 0, [60], [], false), (32, .aload_n 1, 1, 0, [1], [], false), (33, .getfield 54, 3, 0, [5, 1, 2, 23, 2], [], false), (36, .iload 4, 2, 0, [4], [], false), (38, .aaload, 1, 0, [], [], false), (39, .getfield 47, 3, 0, [9, 2, 0, 0, 0], [], false), (42, .aload_n 1, 1, 0, [1], [], false), (43, .getfield 54, 3, 0, [5, 1, 2, 23, 2], [], false), (46, .iload_n 3, 1, 0, [3], [], false), (47, .aaload, 1, 0, [], [], false), (48, .getfield 34, 3, 0, [9, 3, 0, 0, 0], [], false), (51, .if_icmp .gt 9, 3, 0, [60], [], false), (54, .iinc 4 1, 3, 1, [], [], false), (57, .goto (-31), 3, 0, [26], [], false), (60, .aload_n 0, 1, 0, [0], [], true), (61, .getfield 18, 3, 0, [1, 3, 2, 20, 3], [], false), (64, .iload_n 3, 1, 0, [3], [], false), (65, .aload_n 0, 1, 0, [0], [], false), (66, .getfield 18, 3, 0, [1, 3, 2, 20, 3], [], false), (69, .iload_n 3, 1, 0, [3], [], false), (70, .iconst 1, 1, 1, [], [], false), (71, .iadd, 1, 0, [], [], false), (72, .iaload, 1, 0, [], [], false), (73, .aload_n 1, 1, 0, [1], [], false), (74, .getfield 54, 3, 0, [5, 1, 2, 23, 2], [], false), (77, .iload_n 3, 1, 0, [3], [], false), (78, .aaload, 1, 0, [], [], false), (79, .getfield 57, 3, 0, [9, 4, 0, 0, 0], [], false), (82, .aload_n 0, 1, 0, [0], [], false), (83, .getfield 18, 3, 0, [1, 3, 2, 20, 3], [], false), (86, .iload 4, 2, 0, [4], [], false), (88, .iaload, 1, 0, [], [], false), (89, .iadd, 1, 0, [], [], false), (90, .invokestatic 60, 3, 0, [1], [], false), (93, .iastore, 1, 0, [], [], false), (94, .iinc 3 (-1), 3, (-1), [], [], false), (97, .goto (-80), 3, 0, [17], [], false), (100, .aload_n 0, 1, 0, [0], [], false), (101, .getfield 18, 3, 0, [1, 3, 2, 20, 3], [], false), (104, .iconst 0, 1, 0, [], [], false), (105, .iaload, 1, 0, [], [], false), (106, .ireturn, 1, 0, [], [], false)]
def co_heaviestOf_y : MethodName := ⟨"SpanLayers$Choice", "heaviestOf", "(LSpanLayers$Index;)I"⟩
theorem co_heaviestOf_tb : sl_tbOK sl_R1 prog_3_method_4_code 5 (some .int) lk_co [(50, 0), (60, 1)] co_heaviestOf_cd = true := by decide +kernel
theorem cs_co_50 (g : sl_G) {hh : Nat} (h : 4 ≤ hh) : sl_CallS g sl_R1 50 0 5 hh 2 ix_sortBy_pt := sl_callV (y := ix_sortBy_y) (T := sl_F5) (N := 2) (ix_sortBy_snd g) h (by decide) (sl_in1 689 (by decide +kernel) rfl) ix_sortBy_w2 ix_sortBy_w3 ix_sortBy_w4 ix_sortBy_w5 ix_sortBy_w6 rfl (by decide)
theorem cs_co_60 (g : sl_G) {hh : Nat} (h : 1 ≤ hh) : sl_CallS g sl_R1 60 1 0 hh 2 ma_max_pt := sl_callMax h (sl_in1 690 (by decide +kernel) rfl) (sl_in1 447 (by decide +kernel) rfl) (sl_in1 99 (by decide +kernel) rfl) (sl_in1 448 (by decide +kernel) rfl)
def co_heaviestOf_ct : List sl_Ct := [(2, 0, 5, ix_sortBy_pt), (2, 1, 0, ma_max_pt)]
theorem co_heaviestOf_hc (g : sl_G) : sl_HC g sl_R1 4 co_heaviestOf_ct [(50, 0), (60, 1)] := sl_HC_cons (cs_co_50 g (by decide)) (sl_HC_cons (cs_co_60 g (by decide)) (sl_HC_nil g sl_R1 4))
set_option maxRecDepth 20000 in
set_option maxHeartbeats 2000000 in
theorem co_heaviestOf_snd (g : sl_G) : sl_Snd g co_heaviestOf_y prog_3_method_4_code 5 (some .int) 4 (co_heaviestOf_pt) := by
  intro As μ Q hw h
  unfold co_heaviestOf_pt at h
  split at h
  next c0 a0 c1 a1 =>
    split at h
    next e_ =>
      subst e_
      split at h
      next e_ =>
        subst e_
        split at h
        next e_ =>
          subst e_
          split at h
          next e_ =>
            subst e_
            refine sl_mk2 g [true, true, false, false, false] (cst := [some (.inr (.inr (some (1, 38)))), some (.inr (.inr (some (5, 1))))]) (lv0 := [none, none, none, none, none]) (by decide) rfl hw rfl rfl rfl lk_co_ok (co_heaviestOf_hc g) co_heaviestOf_tb rfl ?_
            intro X M
            have v17 := sl_extL M sl_VV0 17 (fun n lv st μ => match lv, st with | [_, _, some (.inl x2), some (.inl x3), _], [] => co_heaviestOf_L17 (fun r μ' => Q (some (.inl r)) μ') n x2 x3 μ | _, _ => False) (by
                intro lv st μ h
                split at h
                · exact h
                · exact h) (by
                intro n17 w17
                have v60 := sl_ext M w17 60 (fun lv st μ => match lv, st with | [_, _, some (.inl x2), some (.inl x3), some (.inl x4)], [] => co_heaviestOf_B60 (fun r μ' => Q (some (.inl r)) μ') (co_heaviestOf_L17 (fun r μ' => Q (some (.inl r)) μ') n17) x2 x3 x4 μ | _, _ => False) (by
                    intro lv st μ h
                    split at h
                    · exact h
                    · exact h.elim)
                have v26 := sl_extL M v60 26 (fun n lv st μ => match lv, st with | [_, _, some (.inl x2), some (.inl x3), some (.inl x4)], [] => co_heaviestOf_L26 (fun r μ' => Q (some (.inl r)) μ') (co_heaviestOf_L17 (fun r μ' => Q (some (.inl r)) μ') n17) n x2 x3 x4 μ | _, _ => False) (by
                    intro lv st μ h
                    split at h
                    · exact h
                    · exact h) (by
                    intro n26 w26
                    refine ⟨_, w26, ?_⟩
                    intro lv st μ h
                    split at h
                    · exact h
                    · exact h.elim)
                refine ⟨_, v26, ?_⟩
                intro lv st μ h
                split at h
                · exact h
                · exact h.elim)
            exact ⟨_, v17, h⟩
          next => exact h.elim
        next => exact h.elim
      next => exact h.elim
    next => exact h.elim
  next => exact h.elim
def ix_countHighs_L10 (Q : Int32 → sl_M → Prop) : Nat → Int32 → Int32 → Int32 → sl_M → Prop
  | 0, _, _, _, _ => False
  | n + 1, x1, x2, x3, μ => (x3 < x1 → (x3 = (0 : Int32) → ∀ v1, v1 = (x2 + (1 : Int32)) → (ix_countHighs_L10 Q n) x1 v1 (x3 + (1 : Int32)) μ) ∧ (¬ x3 = (0 : Int32) → vp_in x3 30 ∧ sl_kd (μ 3 x3.toNatClampNeg).toNatClampNeg = 9 ∧ vp_in (x3 - (1 : Int32)) 30 ∧ sl_kd (μ 3 (x3 - (1 : Int32)).toNatClampNeg).toNatClampNeg = 9 ∧ ((μ ((μ 3 x3.toNatClampNeg).toNatClampNeg) 3) = (μ ((μ 3 (x3 - (1 : Int32)).toNatClampNeg).toNatClampNeg) 3) → ∀ v2, v2 = (x2 + (0 : Int32)) → (ix_countHighs_L10 Q n) x1 v2 (x3 + (1 : Int32)) μ) ∧ (¬ (μ ((μ 3 x3.toNatClampNeg).toNatClampNeg) 3) = (μ ((μ 3 (x3 - (1 : Int32)).toNatClampNeg).toNatClampNeg) 3) → ∀ v3, v3 = (x2 + (1 : Int32)) → (ix_countHighs_L10 Q n) x1 v3 (x3 + (1 : Int32)) μ))) ∧ (¬ x3 < x1 → Q x2 μ)
def ix_countHighs (μ : sl_M) (Q : Int32 → sl_M → Prop) : Prop := ix_sortBy (1 : Int32) μ (fun r5 m4 => ∃ n6, ix_countHighs_L10 Q n6 r5 (0 : Int32) (0 : Int32) m4)
def ix_countHighs_pt : sl_PT := fun As μ Q => match As with
  | [.inr (.inr (some (c0, a0)))] => if c0 = 5 then (if a0 = 1 then (ix_countHighs μ (fun r μ' => Q (some (.inl r)) μ')) else False) else False
  | _ => False
def ix_countHighs_cd : List sl_Ent := [(0, .aload_n 0, 1, 0, [0], [], false), (1, .iconst 1, 1, 1, [], [], false), (2, .invokevirtual 51, 3, 0, [0], [], false), (5, .istore_n 1, 1, 0, [1], [], false), (6, .iconst 0, 1, 0, [], [], false), (7, .istore_n 2, 1, 0, [2], [], false), (8, .iconst 0, 1, 0, [], [], false), (9, .istore_n 3, 1, 0, [3], [], false), (10, .iload_n 3, 1, 0, [3], [], true), (11, .iload_n 1, 1, 0, [1], [], false), (12, .if_icmp .ge 44, 3, 0, [56], [], false), (15, .iload_n 2, 1, 0, [2], [], false), (16, .iload_n 3, 1, 0, [3], [], false), (17, .ifCond .eq 26, 3, 0, [43], [], false), (20, .aload_n 0, 1, 0, [0], [], false), (21, .getfield 17, 3, 0, [5, 1, 2, 23, 2], [], false), (24, .iload_n 3, 1, 0, [3], [], false), (25, .aaload, 1, 0, [], [], false), (26, .getfield 39, 3, 0, [9, 3, 0, 0, 0], [], false), (29, .aload_n 0, 1, 0, [0], [], false), (30, .getfield 17, 3, 0, [5, 1, 2, 23, 2], [], false), (33, .iload_n 3, 1, 0, [3], [], false), (34, .iconst 1, 1, 1, [], [], false), (35, .isub, 1, 0, [], [], false), (36, .aaload, 1, 0, [], [], false), (37, .getfield 39, 3, 0, [9, 3, 0, 0, 0], [], false), (40, .if_icmp .eq 7, 3, 0, [47], [], false), (43, .iconst 1, 1, 1, [], [], false), (44, .goto 4, 3, 0, [48], [], false), (47, .iconst 0, 1, 0, [], [], false), (48, .iadd, 1, 0, [], [], false), (49, .istore_n 2, 1, 0, [2, 1], [], false), (50, .iinc 3 1, 3, 1, [], [], false), (53, .goto (-43), 3, 0, [10], [], false), (56, .iload_n 2, 1, 0, [2], [], false), (57, .ireturn, 1, 0, [], [], false)]
def ix_countHighs_y : MethodName := ⟨"SpanLayers$Index", "countHighs", "()I"⟩
theorem ix_countHighs_tb : sl_tbOK sl_R5 prog_7_method_27_code 4 (some .int) lk_ix [(51, 0)] ix_countHighs_cd = true := by decide +kernel
def ix_countHighs_ct : List sl_Ct := [(2, 0, 5, ix_sortBy_pt)]
theorem ix_countHighs_hc (g : sl_G) : sl_HC g sl_R5 4 ix_countHighs_ct [(51, 0)] := sl_HC_cons (cs_ix_51 g (by decide)) (sl_HC_nil g sl_R5 4)
set_option maxRecDepth 20000 in
set_option maxHeartbeats 2000000 in
theorem ix_countHighs_snd (g : sl_G) : sl_Snd g ix_countHighs_y prog_7_method_27_code 4 (some .int) 4 (ix_countHighs_pt) := by
  intro As μ Q hw h
  unfold ix_countHighs_pt at h
  split at h
  next c0 a0 =>
    split at h
    next e_ =>
      subst e_
      split at h
      next e_ =>
        subst e_
        refine sl_mk2 g [true, false, false, false] (cst := [some (.inr (.inr (some (5, 1))))]) (lv0 := [none, none, none, none]) (by decide) rfl hw rfl rfl rfl lk_ix_ok (ix_countHighs_hc g) ix_countHighs_tb rfl ?_
        intro X M
        have v10 := sl_extL M sl_VV0 10 (fun n lv st μ => match lv, st with | [_, some (.inl x1), some (.inl x2), some (.inl x3)], [] => ix_countHighs_L10 (fun r μ' => Q (some (.inl r)) μ') n x1 x2 x3 μ | _, _ => False) (by
            intro lv st μ h
            split at h
            · exact h
            · exact h) (by
            intro n10 w10
            refine ⟨_, w10, ?_⟩
            intro lv st μ h
            split at h
            · exact h
            · exact h.elim)
        exact ⟨_, v10, h⟩
      next => exact h.elim
    next => exact h.elim
  next => exact h.elim
def ix_highAt_L13 (a1 : Int32) (Q : Int32 → sl_M → Prop) : Nat → Int32 → Int32 → Int32 → sl_M → Prop
  | 0, _, _, _, _ => False
  | n + 1, x2, x3, x4, μ => (x4 < (0 : Int32) → Q (-1 : Int32) μ) ∧ (¬ x4 < (0 : Int32) → vp_in x4 30 ∧ sl_kd (μ 3 x4.toNatClampNeg).toNatClampNeg = 9 ∧ ((μ ((μ 3 x4.toNatClampNeg).toNatClampNeg) 3) = x3 → (ix_highAt_L13 a1 Q n) x2 x3 (x4 + (-1 : Int32)) μ) ∧ (¬ (μ ((μ 3 x4.toNatClampNeg).toNatClampNeg) 3) = x3 → (x2 = (0 : Int32) → vp_in x4 30 ∧ sl_kd (μ 3 x4.toNatClampNeg).toNatClampNeg = 9 ∧ Q (μ ((μ 3 x4.toNatClampNeg).toNatClampNeg) 3) μ) ∧ (¬ x2 = (0 : Int32) → vp_in x4 30 ∧ sl_kd (μ 3 x4.toNatClampNeg).toNatClampNeg = 9 ∧ ∀ v1, v1 = (μ ((μ 3 x4.toNatClampNeg).toNatClampNeg) 3) → (ix_highAt_L13 a1 Q n) (x2 + (-1 : Int32)) v1 (x4 + (-1 : Int32)) μ)))
def ix_highAt (a1 : Int32) (μ : sl_M) (Q : Int32 → sl_M → Prop) : Prop := ix_sortBy (1 : Int32) μ (fun r3 m2 => ∃ n4, ix_highAt_L13 a1 Q n4 a1 (-1 : Int32) (r3 - (1 : Int32)) m2)
def ix_highAt_pt : sl_PT := fun As μ Q => match As with
  | [.inr (.inr (some (c0, a0))), .inl a1] => if c0 = 5 then (if a0 = 1 then (ix_highAt a1 μ (fun r μ' => Q (some (.inl r)) μ')) else False) else False
  | _ => False
def ix_highAt_cd : List sl_Ent := [(0, .iload_n 1, 1, 0, [1], [], false), (1, .istore_n 2, 1, 0, [2], [], false), (2, .iconst (-1), 1, (-1), [], [], false), (3, .istore_n 3, 1, 0, [3], [], false), (4, .aload_n 0, 1, 0, [0], [], false), (5, .iconst 1, 1, 1, [], [], false), (6, .invokevirtual 51, 3, 0, [0], [], false), (9, .iconst 1, 1, 1, [], [], false), (10, .isub, 1, 0, [], [], false), (11, .istore 4, 2, 0, [4], [], false), (13, .iload 4, 2, 0, [4], [], true), (15, .ifCond .lt 52, 3, 0, [67], [], false), (18, .aload_n 0, 1, 0, [0], [], false), (19, .getfield 17, 3, 0, [5, 1, 2, 23, 2], [], false), (22, .iload 4, 2, 0, [4], [], false), (24, .aaload, 1, 0, [], [], false), (25, .getfield 39, 3, 0, [9, 3, 0, 0, 0], [], false), (28, .iload_n 3, 1, 0, [3], [], false), (29, .if_icmp .eq 32, 3, 0, [61], [], false), (32, .iload_n 2, 1, 0, [2], [], false), (33, .ifCond .ne 14, 3, 0, [47], [], false), (36, .aload_n 0, 1, 0, [0], [], false), (37, .getfield 17, 3, 0, [5, 1, 2, 23, 2], [], false), (40, .iload 4, 2, 0, [4], [], false), (42, .aaload, 1, 0, [], [], false), (43, .getfield 39, 3, 0, [9, 3, 0, 0, 0], [], false), (46, .ireturn, 1, 0, [], [], false), (47, .iinc 2 (-1), 3, (-1), [], [], false), (50, .aload_n 0, 1, 0, [0], [], false), (51, .getfield 17, 3, 0, [5, 1, 2, 23, 2], [], false), (54, .iload 4, 2, 0, [4], [], false), (56, .aaload, 1, 0, [], [], false), (57, .getfield 39, 3, 0, [9, 3, 0, 0, 0], [], false), (60, .istore_n 3, 1, 0, [3, 1], [], false), (61, .iinc 4 (-1), 3, (-1), [], [], false), (64, .goto (-51), 3, 0, [13], [], false), (67, .iconst (-1), 1, (-1), [], [], false), (68, .ireturn, 1, 0, [], [], false)]
def ix_highAt_y : MethodName := ⟨"SpanLayers$Index", "highAt", "(I)I"⟩
theorem ix_highAt_tb : sl_tbOK sl_R5 prog_7_method_28_code 5 (some .int) lk_ix [(51, 0)] ix_highAt_cd = true := by decide +kernel
def ix_highAt_ct : List sl_Ct := [(2, 0, 5, ix_sortBy_pt)]
theorem ix_highAt_hc (g : sl_G) : sl_HC g sl_R5 4 ix_highAt_ct [(51, 0)] := sl_HC_cons (cs_ix_51 g (by decide)) (sl_HC_nil g sl_R5 4)
set_option maxRecDepth 20000 in
set_option maxHeartbeats 2000000 in
theorem ix_highAt_snd (g : sl_G) : sl_Snd g ix_highAt_y prog_7_method_28_code 5 (some .int) 4 (ix_highAt_pt) := by
  intro As μ Q hw h
  unfold ix_highAt_pt at h
  split at h
  next c0 a0 a1 =>
    split at h
    next e_ =>
      subst e_
      split at h
      next e_ =>
        subst e_
        refine sl_mk2 g [true, true, false, false, false] (cst := [some (.inr (.inr (some (5, 1)))), some (.inl a1)]) (lv0 := [none, none, none, none, none]) (by decide) rfl hw rfl rfl rfl lk_ix_ok (ix_highAt_hc g) ix_highAt_tb rfl ?_
        intro X M
        have v13 := sl_extL M sl_VV0 13 (fun n lv st μ => match lv, st with | [_, _, some (.inl x2), some (.inl x3), some (.inl x4)], [] => ix_highAt_L13 a1 (fun r μ' => Q (some (.inl r)) μ') n x2 x3 x4 μ | _, _ => False) (by
            intro lv st μ h
            split at h
            · exact h
            · exact h) (by
            intro n13 w13
            refine ⟨_, w13, ?_⟩
            intro lv st μ h
            split at h
            · exact h
            · exact h.elim)
        exact ⟨_, v13, h⟩
      next => exact h.elim
    next => exact h.elim
  next => exact h.elim
def ix_ofThoseEndingAt_L8 (a1 : Int32) (a2 : Int32) (Q : Int32 → sl_M → Prop) : Nat → Int32 → Int32 → Int32 → sl_M → Prop
  | 0, _, _, _, _ => False
  | n + 1, x3, x4, x5, μ => (x5 < (30 : Int32) → vp_in x5 30 ∧ ((sl_bz (μ (4 + x5.toNatClampNeg) 1)) = (0 : Int32) → (ix_ofThoseEndingAt_L8 a1 a2 Q n) x3 x4 (x5 + (1 : Int32)) μ) ∧ (¬ (sl_bz (μ (4 + x5.toNatClampNeg) 1)) = (0 : Int32) → vp_in x5 30 ∧ ((μ (4 + x5.toNatClampNeg) 3) = a1 → ∀ v1, v1 = (x3 ||| ((1 : Int32) <<< (x5 &&& 31))) → vp_in x5 30 ∧ ∀ v2, v2 = (x4 + (μ (4 + x5.toNatClampNeg) 4)) → (ix_ofThoseEndingAt_L8 a1 a2 Q n) v1 v2 (x5 + (1 : Int32)) μ) ∧ (¬ (μ (4 + x5.toNatClampNeg) 3) = a1 → (ix_ofThoseEndingAt_L8 a1 a2 Q n) x3 x4 (x5 + (1 : Int32)) μ))) ∧ (¬ x5 < (30 : Int32) → (a2 = (0 : Int32) → Q a1 μ) ∧ (¬ a2 = (0 : Int32) → (a2 = (1 : Int32) → it_bitCount x3 μ (fun r4 m3 => Q r4 m3)) ∧ (¬ a2 = (1 : Int32) → (a2 = (2 : Int32) → Q x3 μ) ∧ (¬ a2 = (2 : Int32) → Q x4 μ))))
def ix_ofThoseEndingAt (a1 : Int32) (a2 : Int32) (μ : sl_M) (Q : Int32 → sl_M → Prop) : Prop := ∃ n5, ix_ofThoseEndingAt_L8 a1 a2 Q n5 (0 : Int32) (0 : Int32) (0 : Int32) μ
def ix_ofThoseEndingAt_pt : sl_PT := fun As μ Q => match As with
  | [.inr (.inr (some (c0, a0))), .inl a1, .inl a2] => if c0 = 5 then (if a0 = 1 then (ix_ofThoseEndingAt a1 a2 μ (fun r μ' => Q (some (.inl r)) μ')) else False) else False
  | _ => False
def ix_ofThoseEndingAt_cd : List sl_Ent := [(0, .iconst 0, 1, 0, [], [], false), (1, .istore_n 3, 1, 0, [3], [], false), (2, .iconst 0, 1, 0, [], [], false), (3, .istore 4, 2, 0, [4], [], false), (5, .iconst 0, 1, 0, [], [], false), (6, .istore 5, 2, 0, [5], [], false), (8, .iload 5, 2, 0, [5], [], true), (10, .bipush 30, 2, 30, [], [], false), (12, .if_icmp .ge 58, 3, 0, [70], [], false), (15, .aload_n 0, 1, 0, [0], [], false), (16, .getfield 11, 3, 0, [5, 0, 2, 22, 1], [], false), (19, .iload 5, 2, 0, [5], [], false), (21, .aaload, 1, 0, [], [], false), (22, .getfield 31, 3, 0, [9, 1, 1, 0, 0], [], false), (25, .ifCond .eq 39, 3, 0, [64], [], false), (28, .aload_n 0, 1, 0, [0], [], false), (29, .getfield 11, 3, 0, [5, 0, 2, 22, 1], [], false), (32, .iload 5, 2, 0, [5], [], false), (34, .aaload, 1, 0, [], [], false), (35, .getfield 39, 3, 0, [9, 3, 0, 0, 0], [], false), (38, .iload_n 1, 1, 0, [1], [], false), (39, .if_icmp .ne 25, 3, 0, [64], [], false), (42, .iload_n 3, 1, 0, [3], [], false), (43, .iconst 1, 1, 1, [], [], false), (44, .iload 5, 2, 0, [5], [], false), (46, .ishl, 1, 0, [], [], false), (47, .ior, 1, 0, [], [], false), (48, .istore_n 3, 1, 0, [3, 1], [], false), (49, .iload 4, 2, 0, [4], [], false), (51, .aload_n 0, 1, 0, [0], [], false), (52, .getfield 11, 3, 0, [5, 0, 2, 22, 1], [], false), (55, .iload 5, 2, 0, [5], [], false), (57, .aaload, 1, 0, [], [], false), (58, .getfield 42, 3, 0, [9, 4, 0, 0, 0], [], false), (61, .iadd, 1, 0, [], [], false), (62, .istore 4, 2, 0, [4, 1], [], false), (64, .iinc 5 1, 3, 1, [], [], false), (67, .goto (-59), 3, 0, [8], [], false), (70, .iload_n 2, 1, 0, [2], [], false), (71, .tableswitch 34 0 2 #[25, 27, 32], 25, 0, [105], [(0, 96), (1, 98), (2, 103)], false), (96, .iload_n 1, 1, 0, [1], [], false), (97, .ireturn, 1, 0, [], [], false), (98, .iload_n 3, 1, 0, [3], [], false), (99, .invokestatic 92, 3, 0, [0], [], false), (102, .ireturn, 1, 0, [], [], false), (103, .iload_n 3, 1, 0, [3], [], false), (104, .ireturn, 1, 0, [], [], false), (105, .iload 4, 2, 0, [4], [], false), (107, .ireturn, 1, 0, [], [], false)]
def ix_ofThoseEndingAt_y : MethodName := ⟨"SpanLayers$Index", "ofThoseEndingAt", "(II)I"⟩
theorem ix_ofThoseEndingAt_tb : sl_tbOK sl_R5 prog_7_method_29_code 6 (some .int) lk_ix [(92, 1)] ix_ofThoseEndingAt_cd = true := by decide +kernel
def ix_ofThoseEndingAt_ct : List sl_Ct := [(1, 1, 0, it_bitCount_pt)]
theorem ix_ofThoseEndingAt_hc (g : sl_G) : sl_HC g sl_R5 1 ix_ofThoseEndingAt_ct [(92, 1)] := sl_HC_cons (cs_ix_92 g (by decide)) (sl_HC_nil g sl_R5 1)
set_option maxRecDepth 20000 in
set_option maxHeartbeats 2000000 in
theorem ix_ofThoseEndingAt_snd (g : sl_G) : sl_Snd g ix_ofThoseEndingAt_y prog_7_method_29_code 6 (some .int) 1 (ix_ofThoseEndingAt_pt) := by
  intro As μ Q hw h
  unfold ix_ofThoseEndingAt_pt at h
  split at h
  next c0 a0 a1 a2 =>
    split at h
    next e_ =>
      subst e_
      split at h
      next e_ =>
        subst e_
        refine sl_mk2 g [true, true, true, false, false, false] (cst := [some (.inr (.inr (some (5, 1)))), some (.inl a1), some (.inl a2)]) (lv0 := [none, none, none, none, none, none]) (by decide) rfl hw rfl rfl rfl lk_ix_ok (ix_ofThoseEndingAt_hc g) ix_ofThoseEndingAt_tb rfl ?_
        intro X M
        have v8 := sl_extL M sl_VV0 8 (fun n lv st μ => match lv, st with | [_, _, _, some (.inl x3), some (.inl x4), some (.inl x5)], [] => ix_ofThoseEndingAt_L8 a1 a2 (fun r μ' => Q (some (.inl r)) μ') n x3 x4 x5 μ | _, _ => False) (by
            intro lv st μ h
            split at h
            · exact h
            · exact h) (by
            intro n8 w8
            refine ⟨_, w8, ?_⟩
            intro lv st μ h
            split at h
            · exact h
            · exact h.elim)
        exact ⟨_, v8, h⟩
      next => exact h.elim
    next => exact h.elim
  next => exact h.elim
def tp_append (a1 : Int32) (μ : sl_M) (Q : Int32 → sl_M → Prop) : Prop := ((μ 43 1) < (80 : Int32) → vp_in (μ 43 1) 80 ∧ ∀ m1, m1 = sl_up μ 44 (μ 43 1).toNatClampNeg a1 → ∀ m2, m2 = sl_up m1 43 1 ((m1 43 1) + (1 : Int32)) → sl_bz (1 : Int32) = (1 : Int32) ∧ Q (1 : Int32) m2) ∧ (¬ (μ 43 1) < (80 : Int32) → sl_bz (0 : Int32) = (0 : Int32) ∧ Q (0 : Int32) μ)
def tp_append_pt : sl_PT := fun As μ Q => match As with
  | [.inr (.inr (some (c0, a0))), .inl a1] => if c0 = 10 then (if a0 = 43 then (tp_append a1 μ (fun r μ' => Q (some (.inl r)) μ')) else False) else False
  | _ => False
def tp_append_cd : List sl_Ent := [(0, .aload_n 0, 1, 0, [0], [], false), (1, .getfield 19, 3, 0, [10, 1, 0, 0, 0], [], false), (4, .bipush 80, 2, 80, [], [], false), (6, .if_icmp .lt 5, 3, 0, [11], [], false), (9, .iconst 0, 1, 0, [], [], false), (10, .ireturn, 1, 0, [1], [], false), (11, .aload_n 0, 1, 0, [0], [], false), (12, .getfield 9, 3, 0, [10, 0, 2, 20, 1], [], false), (15, .aload_n 0, 1, 0, [0], [], false), (16, .getfield 19, 3, 0, [10, 1, 0, 0, 0], [], false), (19, .iload_n 1, 1, 0, [1], [], false), (20, .iastore, 1, 0, [], [], false), (21, .aload_n 0, 1, 0, [0], [], false), (22, .dup, 1, 0, [], [], false), (23, .getfield 19, 3, 0, [10, 1, 0, 0, 0], [], false), (26, .iconst 1, 1, 1, [], [], false), (27, .iadd, 1, 0, [], [], false), (28, .putfield 19, 3, 0, [10, 1, 0], [], false), (31, .iconst 1, 1, 1, [], [], false), (32, .ireturn, 1, 0, [1], [], false)]
def tp_append_y : MethodName := ⟨"SpanLayers$Tape", "append", "(I)Z"⟩
theorem tp_append_tb : sl_tbOK sl_R10 prog_12_method_2_code 2 (some .boolean) lk_tp [] tp_append_cd = true := by decide +kernel
def tp_append_ct : List sl_Ct := []
theorem tp_append_hc (g : sl_G) : sl_HC g sl_R10 0 tp_append_ct [] := sl_HC_nil g sl_R10 0
set_option maxRecDepth 20000 in
set_option maxHeartbeats 2000000 in
theorem tp_append_snd (g : sl_G) : sl_Snd g tp_append_y prog_12_method_2_code 2 (some .boolean) 0 (tp_append_pt) := by
  intro As μ Q hw h
  unfold tp_append_pt at h
  split at h
  next c0 a0 a1 =>
    split at h
    next e_ =>
      subst e_
      split at h
      next e_ =>
        subst e_
        refine sl_mk2 g [true, true] (cst := [some (.inr (.inr (some (10, 43)))), some (.inl a1)]) (lv0 := [none, none]) (by decide) rfl hw rfl rfl rfl lk_tp_ok (tp_append_hc g) tp_append_tb rfl ?_
        intro X M
        exact ⟨_, sl_VV0, h⟩
      next => exact h.elim
    next => exact h.elim
  next => exact h.elim
def tp_empty (μ : sl_M) (Q : Int32 → sl_M → Prop) : Prop := ∀ v1, v1 = (μ 43 3) → ∀ m2, m2 = sl_up μ 43 1 (0 : Int32) → ∀ m3, m3 = sl_up m2 43 2 (0 : Int32) → ∀ m4, m4 = sl_up m3 43 3 (-1 : Int32) → Q v1 m4
def tp_empty_pt : sl_PT := fun As μ Q => match As with
  | [.inr (.inr (some (c0, a0)))] => if c0 = 10 then (if a0 = 43 then (tp_empty μ (fun r μ' => Q (some (.inl r)) μ')) else False) else False
  | _ => False
def tp_empty_cd : List sl_Ent := [(0, .aload_n 0, 1, 0, [0], [], false), (1, .getfield 15, 3, 0, [10, 3, 0, 0, 0], [], false), (4, .istore_n 1, 1, 0, [1, 1], [], false), (5, .aload_n 0, 1, 0, [0], [], false), (6, .iconst 0, 1, 0, [], [], false), (7, .putfield 19, 3, 0, [10, 1, 0], [], false), (10, .aload_n 0, 1, 0, [0], [], false), (11, .iconst 0, 1, 0, [], [], false), (12, .putfield 22, 3, 0, [10, 2, 0], [], false), (15, .aload_n 0, 1, 0, [0], [], false), (16, .iconst (-1), 1, (-1), [], [], false), (17, .putfield 15, 3, 0, [10, 3, 0], [], false), (20, .iload_n 1, 1, 0, [1], [], false), (21, .ireturn, 1, 0, [], [], false)]
def tp_empty_y : MethodName := ⟨"SpanLayers$Tape", "empty", "()I"⟩
theorem tp_empty_tb : sl_tbOK sl_R10 prog_12_method_3_code 2 (some .int) lk_tp [] tp_empty_cd = true := by decide +kernel
def tp_empty_ct : List sl_Ct := []
theorem tp_empty_hc (g : sl_G) : sl_HC g sl_R10 0 tp_empty_ct [] := sl_HC_nil g sl_R10 0
set_option maxRecDepth 20000 in
set_option maxHeartbeats 2000000 in
theorem tp_empty_snd (g : sl_G) : sl_Snd g tp_empty_y prog_12_method_3_code 2 (some .int) 0 (tp_empty_pt) := by
  intro As μ Q hw h
  unfold tp_empty_pt at h
  split at h
  next c0 a0 =>
    split at h
    next e_ =>
      subst e_
      split at h
      next e_ =>
        subst e_
        refine sl_mk2 g [true, false] (cst := [some (.inr (.inr (some (10, 43))))]) (lv0 := [none, none]) (by decide) rfl hw rfl rfl rfl lk_tp_ok (tp_empty_hc g) tp_empty_tb rfl ?_
        intro X M
        exact ⟨_, sl_VV0, h⟩
      next => exact h.elim
    next => exact h.elim
  next => exact h.elim
def tp_letter (μ : sl_M) (Q : Int32 → sl_M → Prop) : Prop := sx_isBelow (μ 43 2) (μ 43 1) μ (fun r2 m1 => (r2 = (0 : Int32) → Q (-1 : Int32) m1) ∧ (¬ r2 = (0 : Int32) → ((m1 43 2) < (80 : Int32) → vp_in (m1 43 2) 80 ∧ Q (m1 44 (m1 43 2).toNatClampNeg) m1) ∧ (¬ (m1 43 2) < (80 : Int32) → Q (-1 : Int32) m1)))
def tp_letter_pt : sl_PT := fun As μ Q => match As with
  | [.inr (.inr (some (c0, a0)))] => if c0 = 10 then (if a0 = 43 then (tp_letter μ (fun r μ' => Q (some (.inl r)) μ')) else False) else False
  | _ => False
def tp_letter_cd : List sl_Ent := [(0, .aload_n 0, 1, 0, [0], [], false), (1, .getfield 22, 3, 0, [10, 2, 0, 0, 0], [], false), (4, .aload_n 0, 1, 0, [0], [], false), (5, .getfield 19, 3, 0, [10, 1, 0, 0, 0], [], false), (8, .invokestatic 25, 3, 0, [0], [], false), (11, .ifCond .eq 24, 3, 0, [35], [], false), (14, .aload_n 0, 1, 0, [0], [], false), (15, .getfield 22, 3, 0, [10, 2, 0, 0, 0], [], false), (18, .bipush 80, 2, 80, [], [], false), (20, .if_icmp .ge 15, 3, 0, [35], [], false), (23, .aload_n 0, 1, 0, [0], [], false), (24, .getfield 9, 3, 0, [10, 0, 2, 20, 1], [], false), (27, .aload_n 0, 1, 0, [0], [], false), (28, .getfield 22, 3, 0, [10, 2, 0, 0, 0], [], false), (31, .iaload, 1, 0, [], [], false), (32, .goto 4, 3, 0, [36], [], false), (35, .iconst (-1), 1, (-1), [], [], false), (36, .ireturn, 1, 0, [], [], false)]
def tp_letter_y : MethodName := ⟨"SpanLayers$Tape", "letter", "()I"⟩
theorem tp_letter_tb : sl_tbOK sl_R10 prog_12_method_5_code 1 (some .int) lk_tp [(25, 1)] tp_letter_cd = true := by decide +kernel
theorem cs_tp_25 (g : sl_G) {hh : Nat} (h : 1 ≤ hh) : sl_CallS g sl_R10 25 1 0 hh 2 sx_isBelow_pt := sl_callN (host := "SpanLayers") (y := sx_isBelow_y) (sx_isBelow_snd g) h (by decide) (List.mem_of_getElem? (i := 11) rfl) sx_isBelow_w2 sx_isBelow_w4 sx_isBelow_w5 sx_isBelow_w6
def tp_letter_ct : List sl_Ct := [(2, 1, 0, sx_isBelow_pt)]
theorem tp_letter_hc (g : sl_G) : sl_HC g sl_R10 1 tp_letter_ct [(25, 1)] := sl_HC_cons (cs_tp_25 g (by decide)) (sl_HC_nil g sl_R10 1)
set_option maxRecDepth 20000 in
set_option maxHeartbeats 2000000 in
theorem tp_letter_snd (g : sl_G) : sl_Snd g tp_letter_y prog_12_method_5_code 1 (some .int) 1 (tp_letter_pt) := by
  intro As μ Q hw h
  unfold tp_letter_pt at h
  split at h
  next c0 a0 =>
    split at h
    next e_ =>
      subst e_
      split at h
      next e_ =>
        subst e_
        refine sl_mk2 g [true] (cst := [some (.inr (.inr (some (10, 43))))]) (lv0 := [none]) (by decide) rfl hw rfl rfl rfl lk_tp_ok (tp_letter_hc g) tp_letter_tb rfl ?_
        intro X M
        exact ⟨_, sl_VV0, h⟩
      next => exact h.elim
    next => exact h.elim
  next => exact h.elim
def tp_skip (a1 : Int32) (μ : sl_M) (Q : Int32 → sl_M → Prop) : Prop := tp_letter μ (fun r2 m1 => (r2 = a1 → ∀ m3, m3 = sl_up m1 43 2 ((m1 43 2) + (1 : Int32)) → sl_bz (1 : Int32) = (1 : Int32) ∧ Q (1 : Int32) m3) ∧ (¬ r2 = a1 → sl_bz (0 : Int32) = (0 : Int32) ∧ Q (0 : Int32) m1))
def tp_skip_pt : sl_PT := fun As μ Q => match As with
  | [.inr (.inr (some (c0, a0))), .inl a1] => if c0 = 10 then (if a0 = 43 then (tp_skip a1 μ (fun r μ' => Q (some (.inl r)) μ')) else False) else False
  | _ => False
def tp_skip_cd : List sl_Ent := [(0, .aload_n 0, 1, 0, [0], [], false), (1, .invokevirtual 29, 3, 0, [0], [], false), (4, .iload_n 1, 1, 0, [1], [], false), (5, .if_icmp .eq 5, 3, 0, [10], [], false), (8, .iconst 0, 1, 0, [], [], false), (9, .ireturn, 1, 0, [1], [], false), (10, .aload_n 0, 1, 0, [0], [], false), (11, .dup, 1, 0, [], [], false), (12, .getfield 22, 3, 0, [10, 2, 0, 0, 0], [], false), (15, .iconst 1, 1, 1, [], [], false), (16, .iadd, 1, 0, [], [], false), (17, .putfield 22, 3, 0, [10, 2, 0], [], false), (20, .iconst 1, 1, 1, [], [], false), (21, .ireturn, 1, 0, [1], [], false)]
def tp_skip_y : MethodName := ⟨"SpanLayers$Tape", "skip", "(I)Z"⟩
theorem tp_skip_tb : sl_tbOK sl_R10 prog_12_method_6_code 2 (some .boolean) lk_tp [(29, 0)] tp_skip_cd = true := by decide +kernel
theorem tp_letter_w2 : Cond.instanceMethod tp_letter_y ∈ sl_T0 := sl_in1 749 (by decide +kernel) rfl
theorem tp_letter_w3 : Cond.selects tp_letter_y.cls tp_letter_y tp_letter_y ∈ sl_T0 := sl_in1 13 (by decide +kernel) rfl
theorem tp_letter_w4 : Cond.initialized tp_letter_y.cls ∈ sl_T0 := sl_in1 91 (by decide +kernel) rfl
theorem tp_letter_w5 : Cond.code tp_letter_y prog_12_method_5_code 1 (some .int) ∈ sl_T0 := sl_in1 750 (by decide +kernel) rfl
theorem tp_letter_w6 : tp_letter_y.cls ≠ "java/lang/invoke/MethodHandle" ∧ tp_letter_y.cls ≠ "java/lang/invoke/VarHandle" ∧ (parseMethodDescriptor tp_letter_y.desc).map (fun d => d.parameters.length) = some 0 := by decide +kernel
theorem cs_tp_29 (g : sl_G) {hh : Nat} (h : 2 ≤ hh) : sl_CallS g sl_R10 29 0 10 hh 1 tp_letter_pt := sl_callV (y := tp_letter_y) (T := sl_F10) (N := 4) (tp_letter_snd g) h (by decide) (sl_in1 747 (by decide +kernel) rfl) tp_letter_w2 tp_letter_w3 tp_letter_w4 tp_letter_w5 tp_letter_w6 rfl (by decide)
def tp_skip_ct : List sl_Ct := [(1, 0, 10, tp_letter_pt)]
theorem tp_skip_hc (g : sl_G) : sl_HC g sl_R10 2 tp_skip_ct [(29, 0)] := sl_HC_cons (cs_tp_29 g (by decide)) (sl_HC_nil g sl_R10 2)
set_option maxRecDepth 20000 in
set_option maxHeartbeats 2000000 in
theorem tp_skip_snd (g : sl_G) : sl_Snd g tp_skip_y prog_12_method_6_code 2 (some .boolean) 2 (tp_skip_pt) := by
  intro As μ Q hw h
  unfold tp_skip_pt at h
  split at h
  next c0 a0 a1 =>
    split at h
    next e_ =>
      subst e_
      split at h
      next e_ =>
        subst e_
        refine sl_mk2 g [true, true] (cst := [some (.inr (.inr (some (10, 43)))), some (.inl a1)]) (lv0 := [none, none]) (by decide) rfl hw rfl rfl rfl lk_tp_ok (tp_skip_hc g) tp_skip_tb rfl ?_
        intro X M
        exact ⟨_, sl_VV0, h⟩
      next => exact h.elim
    next => exact h.elim
  next => exact h.elim
def ix_allBits (μ : sl_M) (Q : Int32 → sl_M → Prop) : Prop := ix_bitsMeeting (0 : Int32) (999 : Int32) μ (fun r2 m1 => Q r2 m1)
def ix_allBits_pt : sl_PT := fun As μ Q => match As with
  | [.inr (.inr (some (c0, a0)))] => if c0 = 5 then (if a0 = 1 then (ix_allBits μ (fun r μ' => Q (some (.inl r)) μ')) else False) else False
  | _ => False
def ix_allBits_cd : List sl_Ent := [(0, .aload_n 0, 1, 0, [0], [], false), (1, .iconst 0, 1, 0, [], [], false), (2, .sipush 999, 3, 999, [], [], false), (5, .invokevirtual 72, 3, 0, [0], [], false), (8, .ireturn, 1, 0, [], [], false)]
def ix_allBits_y : MethodName := ⟨"SpanLayers$Index", "allBits", "()I"⟩
theorem ix_allBits_tb : sl_tbOK sl_R5 prog_7_method_10_code 1 (some .int) lk_ix [(72, 0)] ix_allBits_cd = true := by decide +kernel
def ix_allBits_ct : List sl_Ct := [(3, 0, 5, ix_bitsMeeting_pt)]
theorem ix_allBits_hc (g : sl_G) : sl_HC g sl_R5 2 ix_allBits_ct [(72, 0)] := sl_HC_cons (cs_ix_72 g (by decide)) (sl_HC_nil g sl_R5 2)
set_option maxRecDepth 20000 in
set_option maxHeartbeats 2000000 in
theorem ix_allBits_snd (g : sl_G) : sl_Snd g ix_allBits_y prog_7_method_10_code 1 (some .int) 2 (ix_allBits_pt) := by
  intro As μ Q hw h
  unfold ix_allBits_pt at h
  split at h
  next c0 a0 =>
    split at h
    next e_ =>
      subst e_
      split at h
      next e_ =>
        subst e_
        refine sl_mk2 g [true] (cst := [some (.inr (.inr (some (5, 1))))]) (lv0 := [none]) (by decide) rfl hw rfl rfl rfl lk_ix_ok (ix_allBits_hc g) ix_allBits_tb rfl ?_
        intro X M
        exact ⟨_, sl_VV0, h⟩
      next => exact h.elim
    next => exact h.elim
  next => exact h.elim
def tp_fail (a1 : Int32) (μ : sl_M) (Q : sl_M → Prop) : Prop := ((μ 43 3) < (0 : Int32) → ∀ m1, m1 = sl_up μ 43 3 a1 → ∀ m2, m2 = sl_up m1 43 2 (m1 43 1) → Q m2) ∧ (¬ (μ 43 3) < (0 : Int32) → ∀ m3, m3 = sl_up μ 43 2 (μ 43 1) → Q m3)
def tp_fail_pt : sl_PT := fun As μ Q => match As with
  | [.inr (.inr (some (c0, a0))), .inl a1] => if c0 = 10 then (if a0 = 43 then (tp_fail a1 μ (fun μ' => Q none μ')) else False) else False
  | _ => False
def tp_fail_cd : List sl_Ent := [(0, .aload_n 0, 1, 0, [0], [], false), (1, .getfield 15, 3, 0, [10, 3, 0, 0, 0], [], false), (4, .ifCond .ge 8, 3, 0, [12], [], false), (7, .aload_n 0, 1, 0, [0], [], false), (8, .iload_n 1, 1, 0, [1], [], false), (9, .putfield 15, 3, 0, [10, 3, 0], [], false), (12, .aload_n 0, 1, 0, [0], [], false), (13, .aload_n 0, 1, 0, [0], [], false), (14, .getfield 19, 3, 0, [10, 1, 0, 0, 0], [], false), (17, .putfield 22, 3, 0, [10, 2, 0], [], false), (20, .return_, 1, 0, [], [], false)]
def tp_fail_y : MethodName := ⟨"SpanLayers$Tape", "fail", "(I)V"⟩
theorem tp_fail_tb : sl_tbOK sl_R10 prog_12_method_4_code 2 none lk_tp [] tp_fail_cd = true := by decide +kernel
def tp_fail_ct : List sl_Ct := []
theorem tp_fail_hc (g : sl_G) : sl_HC g sl_R10 0 tp_fail_ct [] := sl_HC_nil g sl_R10 0
set_option maxRecDepth 20000 in
set_option maxHeartbeats 2000000 in
theorem tp_fail_snd (g : sl_G) : sl_Snd g tp_fail_y prog_12_method_4_code 2 none 0 (tp_fail_pt) := by
  intro As μ Q hw h
  unfold tp_fail_pt at h
  split at h
  next c0 a0 a1 =>
    split at h
    next e_ =>
      subst e_
      split at h
      next e_ =>
        subst e_
        refine sl_mk2 g [true, true] (cst := [some (.inr (.inr (some (10, 43)))), some (.inl a1)]) (lv0 := [none, none]) (by decide) rfl hw rfl rfl rfl lk_tp_ok (tp_fail_hc g) tp_fail_tb rfl ?_
        intro X M
        exact ⟨_, sl_VV0, h⟩
      next => exact h.elim
    next => exact h.elim
  next => exact h.elim
def tp_expect (a1 : Int32) (μ : sl_M) (Q : sl_M → Prop) : Prop := tp_skip a1 μ (fun r2 m1 => (r2 = (0 : Int32) → tp_fail (m1 43 2) m1 (fun m3 => Q m3)) ∧ (¬ r2 = (0 : Int32) → Q m1))
def tp_expect_pt : sl_PT := fun As μ Q => match As with
  | [.inr (.inr (some (c0, a0))), .inl a1] => if c0 = 10 then (if a0 = 43 then (tp_expect a1 μ (fun μ' => Q none μ')) else False) else False
  | _ => False
def tp_expect_cd : List sl_Ent := [(0, .aload_n 0, 1, 0, [0], [], false), (1, .iload_n 1, 1, 0, [1], [], false), (2, .invokevirtual 33, 3, 0, [0], [], false), (5, .ifCond .ne 11, 3, 0, [16], [], false), (8, .aload_n 0, 1, 0, [0], [], false), (9, .aload_n 0, 1, 0, [0], [], false), (10, .getfield 22, 3, 0, [10, 2, 0, 0, 0], [], false), (13, .invokevirtual 37, 3, 0, [1], [], false), (16, .return_, 1, 0, [], [], false)]
def tp_expect_y : MethodName := ⟨"SpanLayers$Tape", "expect", "(I)V"⟩
theorem tp_expect_tb : sl_tbOK sl_R10 prog_12_method_7_code 2 none lk_tp [(33, 0), (37, 0)] tp_expect_cd = true := by decide +kernel
theorem tp_skip_w2 : Cond.instanceMethod tp_skip_y ∈ sl_T0 := sl_in1 744 (by decide +kernel) rfl
theorem tp_skip_w3 : Cond.selects tp_skip_y.cls tp_skip_y tp_skip_y ∈ sl_T0 := sl_in1 745 (by decide +kernel) rfl
theorem tp_skip_w4 : Cond.initialized tp_skip_y.cls ∈ sl_T0 := sl_in1 91 (by decide +kernel) rfl
theorem tp_skip_w5 : Cond.code tp_skip_y prog_12_method_6_code 2 (some .boolean) ∈ sl_T0 := sl_in1 746 (by decide +kernel) rfl
theorem tp_skip_w6 : tp_skip_y.cls ≠ "java/lang/invoke/MethodHandle" ∧ tp_skip_y.cls ≠ "java/lang/invoke/VarHandle" ∧ (parseMethodDescriptor tp_skip_y.desc).map (fun d => d.parameters.length) = some 1 := by decide +kernel
theorem cs_tp_33 (g : sl_G) {hh : Nat} (h : 3 ≤ hh) : sl_CallS g sl_R10 33 0 10 hh 2 tp_skip_pt := sl_callV (y := tp_skip_y) (T := sl_F10) (N := 4) (tp_skip_snd g) h (by decide) (sl_in1 764 (by decide +kernel) rfl) tp_skip_w2 tp_skip_w3 tp_skip_w4 tp_skip_w5 tp_skip_w6 rfl (by decide)
theorem tp_fail_w2 : Cond.instanceMethod tp_fail_y ∈ sl_T0 := sl_in1 766 (by decide +kernel) rfl
theorem tp_fail_w3 : Cond.selects tp_fail_y.cls tp_fail_y tp_fail_y ∈ sl_T0 := sl_in1 767 (by decide +kernel) rfl
theorem tp_fail_w4 : Cond.initialized tp_fail_y.cls ∈ sl_T0 := sl_in1 91 (by decide +kernel) rfl
theorem tp_fail_w5 : Cond.code tp_fail_y prog_12_method_4_code 2 none ∈ sl_T0 := sl_in1 768 (by decide +kernel) rfl
theorem tp_fail_w6 : tp_fail_y.cls ≠ "java/lang/invoke/MethodHandle" ∧ tp_fail_y.cls ≠ "java/lang/invoke/VarHandle" ∧ (parseMethodDescriptor tp_fail_y.desc).map (fun d => d.parameters.length) = some 1 := by decide +kernel
theorem cs_tp_37 (g : sl_G) {hh : Nat} (h : 1 ≤ hh) : sl_CallS g sl_R10 37 0 10 hh 2 tp_fail_pt := sl_callV (y := tp_fail_y) (T := sl_F10) (N := 4) (tp_fail_snd g) h (by decide) (sl_in1 765 (by decide +kernel) rfl) tp_fail_w2 tp_fail_w3 tp_fail_w4 tp_fail_w5 tp_fail_w6 rfl (by decide)
def tp_expect_ct : List sl_Ct := [(2, 0, 10, tp_skip_pt), (2, 0, 10, tp_fail_pt)]
theorem tp_expect_hc (g : sl_G) : sl_HC g sl_R10 3 tp_expect_ct [(33, 0), (37, 0)] := sl_HC_cons (cs_tp_33 g (by decide)) (sl_HC_cons (cs_tp_37 g (by decide)) (sl_HC_nil g sl_R10 3))
set_option maxRecDepth 20000 in
set_option maxHeartbeats 2000000 in
theorem tp_expect_snd (g : sl_G) : sl_Snd g tp_expect_y prog_12_method_7_code 2 none 3 (tp_expect_pt) := by
  intro As μ Q hw h
  unfold tp_expect_pt at h
  split at h
  next c0 a0 a1 =>
    split at h
    next e_ =>
      subst e_
      split at h
      next e_ =>
        subst e_
        refine sl_mk2 g [true, true] (cst := [some (.inr (.inr (some (10, 43)))), some (.inl a1)]) (lv0 := [none, none]) (by decide) rfl hw rfl rfl rfl lk_tp_ok (tp_expect_hc g) tp_expect_tb rfl ?_
        intro X M
        exact ⟨_, sl_VV0, h⟩
      next => exact h.elim
    next => exact h.elim
  next => exact h.elim
def cn_readSign (μ : sl_M) (Q : Int32 → sl_M → Prop) : Prop := tp_skip (60 : Int32) μ (fun r2 m1 => (r2 = (0 : Int32) → tp_skip (62 : Int32) m1 (fun r4 m3 => (r4 = (0 : Int32) → tp_expect (61 : Int32) m3 (fun m5 => Q (61 : Int32) m5)) ∧ (¬ r4 = (0 : Int32) → Q (62 : Int32) m3))) ∧ (¬ r2 = (0 : Int32) → Q (60 : Int32) m1))
def cn_readSign_pt : sl_PT := fun As μ Q => match As with
  | [.inr (.inr (some (c0, a0)))] => if c0 = 10 then (if a0 = 43 then (cn_readSign μ (fun r μ' => Q (some (.inl r)) μ')) else False) else False
  | _ => False
def cn_readSign_cd : List sl_Ent := [(0, .aload_n 0, 1, 0, [0], [], false), (1, .bipush 60, 2, 60, [], [], false), (3, .invokevirtual 23, 3, 0, [0], [], false), (6, .ifCond .eq 6, 3, 0, [12], [], false), (9, .bipush 60, 2, 60, [], [], false), (11, .ireturn, 1, 0, [], [], false), (12, .aload_n 0, 1, 0, [0], [], false), (13, .bipush 62, 2, 62, [], [], false), (15, .invokevirtual 23, 3, 0, [0], [], false), (18, .ifCond .eq 6, 3, 0, [24], [], false), (21, .bipush 62, 2, 62, [], [], false), (23, .ireturn, 1, 0, [], [], false), (24, .aload_n 0, 1, 0, [0], [], false), (25, .bipush 61, 2, 61, [], [], false), (27, .invokevirtual 39, 3, 0, [1], [], false), (30, .bipush 61, 2, 61, [], [], false), (32, .ireturn, 1, 0, [], [], false)]
def cn_readSign_y : MethodName := ⟨"SpanLayers$Condition", "readSign", "(LSpanLayers$Tape;)I"⟩
theorem cn_readSign_tb : sl_tbOK sl_R2 prog_4_method_8_code 1 (some .int) lk_cn [(23, 0), (39, 0)] cn_readSign_cd = true := by decide +kernel
theorem cs_cn_23 (g : sl_G) {hh : Nat} (h : 3 ≤ hh) : sl_CallS g sl_R2 23 0 10 hh 2 tp_skip_pt := sl_callV (y := tp_skip_y) (T := sl_F10) (N := 4) (tp_skip_snd g) h (by decide) (sl_in1 743 (by decide +kernel) rfl) tp_skip_w2 tp_skip_w3 tp_skip_w4 tp_skip_w5 tp_skip_w6 rfl (by decide)
theorem tp_expect_w2 : Cond.instanceMethod tp_expect_y ∈ sl_T0 := sl_in1 761 (by decide +kernel) rfl
theorem tp_expect_w3 : Cond.selects tp_expect_y.cls tp_expect_y tp_expect_y ∈ sl_T0 := sl_in1 762 (by decide +kernel) rfl
theorem tp_expect_w4 : Cond.initialized tp_expect_y.cls ∈ sl_T0 := sl_in1 91 (by decide +kernel) rfl
theorem tp_expect_w5 : Cond.code tp_expect_y prog_12_method_7_code 2 none ∈ sl_T0 := sl_in1 763 (by decide +kernel) rfl
theorem tp_expect_w6 : tp_expect_y.cls ≠ "java/lang/invoke/MethodHandle" ∧ tp_expect_y.cls ≠ "java/lang/invoke/VarHandle" ∧ (parseMethodDescriptor tp_expect_y.desc).map (fun d => d.parameters.length) = some 1 := by decide +kernel
theorem cs_cn_39 (g : sl_G) {hh : Nat} (h : 4 ≤ hh) : sl_CallS g sl_R2 39 0 10 hh 2 tp_expect_pt := sl_callV (y := tp_expect_y) (T := sl_F10) (N := 4) (tp_expect_snd g) h (by decide) (sl_in1 760 (by decide +kernel) rfl) tp_expect_w2 tp_expect_w3 tp_expect_w4 tp_expect_w5 tp_expect_w6 rfl (by decide)
def cn_readSign_ct : List sl_Ct := [(2, 0, 10, tp_skip_pt), (2, 0, 10, tp_expect_pt)]
theorem cn_readSign_hc (g : sl_G) : sl_HC g sl_R2 4 cn_readSign_ct [(23, 0), (39, 0)] := sl_HC_cons (cs_cn_23 g (by decide)) (sl_HC_cons (cs_cn_39 g (by decide)) (sl_HC_nil g sl_R2 4))
set_option maxRecDepth 20000 in
set_option maxHeartbeats 2000000 in
theorem cn_readSign_snd (g : sl_G) : sl_Snd g cn_readSign_y prog_4_method_8_code 1 (some .int) 4 (cn_readSign_pt) := by
  intro As μ Q hw h
  unfold cn_readSign_pt at h
  split at h
  next c0 a0 =>
    split at h
    next e_ =>
      subst e_
      split at h
      next e_ =>
        subst e_
        refine sl_mk2 g [true] (cst := [some (.inr (.inr (some (10, 43))))]) (lv0 := [none]) (by decide) rfl hw rfl rfl rfl lk_cn_ok (cn_readSign_hc g) cn_readSign_tb rfl ?_
        intro X M
        exact ⟨_, sl_VV0, h⟩
      next => exact h.elim
    next => exact h.elim
  next => exact h.elim
def tp_readNumber_B63 (a1 : Int32) (Q : Int32 → sl_M → Prop) : Int32 → Int32 → sl_M → Prop
  | x2, x3, μ => ((μ 43 2) = x2 → tp_fail (μ 43 2) μ (fun m9 => Q x3 m9)) ∧ (¬ (μ 43 2) = x2 → Q x3 μ)
def tp_readNumber_L10 (a1 : Int32) (Q : Int32 → sl_M → Prop) : Nat → Int32 → Int32 → Int32 → sl_M → Prop
  | 0, _, _, _, _ => False
  | n + 1, x2, x3, x4, μ => (x4 < a1 → tp_letter μ (fun r2 m1 => (r2 < (48 : Int32) → tp_readNumber_B63 a1 Q x2 x3 m1) ∧ (¬ r2 < (48 : Int32) → tp_letter m1 (fun r4 m3 => (r4 ≤ (57 : Int32) → tp_letter m3 (fun r6 m5 => ∀ v7, v7 = ((x3 * (10 : Int32)) + (r6 - (48 : Int32))) → ∀ m8, m8 = sl_up m5 43 2 ((m5 43 2) + (1 : Int32)) → (tp_readNumber_L10 a1 Q n) x2 v7 (x4 + (1 : Int32)) m8)) ∧ (¬ r4 ≤ (57 : Int32) → tp_readNumber_B63 a1 Q x2 x3 m3))))) ∧ (¬ x4 < a1 → tp_readNumber_B63 a1 Q x2 x3 μ)
def tp_readNumber (a1 : Int32) (μ : sl_M) (Q : Int32 → sl_M → Prop) : Prop := ∀ v10, v10 = (μ 43 2) → ∃ n11, tp_readNumber_L10 a1 Q n11 v10 (0 : Int32) (0 : Int32) μ
def tp_readNumber_pt : sl_PT := fun As μ Q => match As with
  | [.inr (.inr (some (c0, a0))), .inl a1] => if c0 = 10 then (if a0 = 43 then (tp_readNumber a1 μ (fun r μ' => Q (some (.inl r)) μ')) else False) else False
  | _ => False
def tp_readNumber_cd : List sl_Ent := [(0, .aload_n 0, 1, 0, [0], [], false), (1, .getfield 22, 3, 0, [10, 2, 0, 0, 0], [], false), (4, .istore_n 2, 1, 0, [2, 1], [], false), (5, .iconst 0, 1, 0, [], [], false), (6, .istore_n 3, 1, 0, [3], [], false), (7, .iconst 0, 1, 0, [], [], false), (8, .istore 4, 2, 0, [4], [], false), (10, .iload 4, 2, 0, [4], [], true), (12, .iload_n 1, 1, 0, [1], [], false), (13, .if_icmp .ge 50, 3, 0, [63], [], false), (16, .aload_n 0, 1, 0, [0], [], false), (17, .invokevirtual 29, 3, 0, [0], [], false), (20, .bipush 48, 2, 48, [], [], false), (22, .if_icmp .lt 41, 3, 0, [63], [], false), (25, .aload_n 0, 1, 0, [0], [], false), (26, .invokevirtual 29, 3, 0, [0], [], false), (29, .bipush 57, 2, 57, [], [], false), (31, .if_icmp .gt 32, 3, 0, [63], [], false), (34, .iload_n 3, 1, 0, [3], [], false), (35, .bipush 10, 2, 10, [], [], false), (37, .imul, 1, 0, [], [], false), (38, .aload_n 0, 1, 0, [0], [], false), (39, .invokevirtual 29, 3, 0, [0], [], false), (42, .bipush 48, 2, 48, [], [], false), (44, .isub, 1, 0, [], [], false), (45, .iadd, 1, 0, [], [], false), (46, .istore_n 3, 1, 0, [3, 1], [], false), (47, .aload_n 0, 1, 0, [0], [], false), (48, .dup, 1, 0, [], [], false), (49, .getfield 22, 3, 0, [10, 2, 0, 0, 0], [], false), (52, .iconst 1, 1, 1, [], [], false), (53, .iadd, 1, 0, [], [], false), (54, .putfield 22, 3, 0, [10, 2, 0], [], false), (57, .iinc 4 1, 3, 1, [], [], false), (60, .goto (-50), 3, 0, [10], [], false), (63, .aload_n 0, 1, 0, [0], [], true), (64, .getfield 22, 3, 0, [10, 2, 0, 0, 0], [], false), (67, .iload_n 2, 1, 0, [2], [], false), (68, .if_icmp .ne 11, 3, 0, [79], [], false), (71, .aload_n 0, 1, 0, [0], [], false), (72, .aload_n 0, 1, 0, [0], [], false), (73, .getfield 22, 3, 0, [10, 2, 0, 0, 0], [], false), (76, .invokevirtual 37, 3, 0, [1], [], false), (79, .iload_n 3, 1, 0, [3], [], false), (80, .ireturn, 1, 0, [], [], false)]
def tp_readNumber_y : MethodName := ⟨"SpanLayers$Tape", "readNumber", "(I)I"⟩
theorem tp_readNumber_tb : sl_tbOK sl_R10 prog_12_method_9_code 5 (some .int) lk_tp [(29, 0), (37, 0)] tp_readNumber_cd = true := by decide +kernel
def tp_readNumber_ct : List sl_Ct := [(1, 0, 10, tp_letter_pt), (2, 0, 10, tp_fail_pt)]
theorem tp_readNumber_hc (g : sl_G) : sl_HC g sl_R10 2 tp_readNumber_ct [(29, 0), (37, 0)] := sl_HC_cons (cs_tp_29 g (by decide)) (sl_HC_cons (cs_tp_37 g (by decide)) (sl_HC_nil g sl_R10 2))
set_option maxRecDepth 20000 in
set_option maxHeartbeats 2000000 in
theorem tp_readNumber_snd (g : sl_G) : sl_Snd g tp_readNumber_y prog_12_method_9_code 5 (some .int) 2 (tp_readNumber_pt) := by
  intro As μ Q hw h
  unfold tp_readNumber_pt at h
  split at h
  next c0 a0 a1 =>
    split at h
    next e_ =>
      subst e_
      split at h
      next e_ =>
        subst e_
        refine sl_mk2 g [true, true, false, false, false] (cst := [some (.inr (.inr (some (10, 43)))), some (.inl a1)]) (lv0 := [none, none, none, none, none]) (by decide) rfl hw rfl rfl rfl lk_tp_ok (tp_readNumber_hc g) tp_readNumber_tb rfl ?_
        intro X M
        have v63 := sl_ext M sl_VV0 63 (fun lv st μ => match lv, st with | [_, _, some (.inl x2), some (.inl x3), _], [] => tp_readNumber_B63 a1 (fun r μ' => Q (some (.inl r)) μ') x2 x3 μ | _, _ => False) (by
            intro lv st μ h
            split at h
            · exact h
            · exact h.elim)
        have v10 := sl_extL M v63 10 (fun n lv st μ => match lv, st with | [_, _, some (.inl x2), some (.inl x3), some (.inl x4)], [] => tp_readNumber_L10 a1 (fun r μ' => Q (some (.inl r)) μ') n x2 x3 x4 μ | _, _ => False) (by
            intro lv st μ h
            split at h
            · exact h
            · exact h) (by
            intro n10 w10
            refine ⟨_, w10, ?_⟩
            intro lv st μ h
            split at h
            · exact h
            · exact h.elim)
        exact ⟨_, v10, h⟩
      next => exact h.elim
    next => exact h.elim
  next => exact h.elim
def tp_readSigned (a1 : Int32) (μ : sl_M) (Q : Int32 → sl_M → Prop) : Prop := tp_skip (45 : Int32) μ (fun r2 m1 => tp_readNumber a1 m1 (fun r4 m3 => (r2 = (0 : Int32) → Q r4 m3) ∧ (¬ r2 = (0 : Int32) → Q (-r4) m3)))
def tp_readSigned_pt : sl_PT := fun As μ Q => match As with
  | [.inr (.inr (some (c0, a0))), .inl a1] => if c0 = 10 then (if a0 = 43 then (tp_readSigned a1 μ (fun r μ' => Q (some (.inl r)) μ')) else False) else False
  | _ => False
def tp_readSigned_cd : List sl_Ent := [(0, .aload_n 0, 1, 0, [0], [], false), (1, .bipush 45, 2, 45, [], [], false), (3, .invokevirtual 33, 3, 0, [0], [], false), (6, .istore_n 2, 1, 0, [2], [], false), (7, .aload_n 0, 1, 0, [0], [], false), (8, .iload_n 1, 1, 0, [1], [], false), (9, .invokevirtual 41, 3, 0, [1], [], false), (12, .istore_n 3, 1, 0, [3], [], false), (13, .iload_n 2, 1, 0, [2], [], false), (14, .ifCond .eq 8, 3, 0, [22], [], false), (17, .iload_n 3, 1, 0, [3], [], false), (18, .ineg, 1, 0, [], [], false), (19, .goto 4, 3, 0, [23], [], false), (22, .iload_n 3, 1, 0, [3], [], false), (23, .ireturn, 1, 0, [], [], false)]
def tp_readSigned_y : MethodName := ⟨"SpanLayers$Tape", "readSigned", "(I)I"⟩
theorem tp_readSigned_tb : sl_tbOK sl_R10 prog_12_method_10_code 4 (some .int) lk_tp [(33, 0), (41, 0)] tp_readSigned_cd = true := by decide +kernel
theorem tp_readNumber_w2 : Cond.instanceMethod tp_readNumber_y ∈ sl_T0 := sl_in1 837 (by decide +kernel) rfl
theorem tp_readNumber_w3 : Cond.selects tp_readNumber_y.cls tp_readNumber_y tp_readNumber_y ∈ sl_T0 := sl_in1 838 (by decide +kernel) rfl
theorem tp_readNumber_w4 : Cond.initialized tp_readNumber_y.cls ∈ sl_T0 := sl_in1 91 (by decide +kernel) rfl
theorem tp_readNumber_w5 : Cond.code tp_readNumber_y prog_12_method_9_code 5 (some .int) ∈ sl_T0 := sl_in1 839 (by decide +kernel) rfl
theorem tp_readNumber_w6 : tp_readNumber_y.cls ≠ "java/lang/invoke/MethodHandle" ∧ tp_readNumber_y.cls ≠ "java/lang/invoke/VarHandle" ∧ (parseMethodDescriptor tp_readNumber_y.desc).map (fun d => d.parameters.length) = some 1 := by decide +kernel
theorem cs_tp_41 (g : sl_G) {hh : Nat} (h : 3 ≤ hh) : sl_CallS g sl_R10 41 0 10 hh 2 tp_readNumber_pt := sl_callV (y := tp_readNumber_y) (T := sl_F10) (N := 4) (tp_readNumber_snd g) h (by decide) (sl_in1 836 (by decide +kernel) rfl) tp_readNumber_w2 tp_readNumber_w3 tp_readNumber_w4 tp_readNumber_w5 tp_readNumber_w6 rfl (by decide)
def tp_readSigned_ct : List sl_Ct := [(2, 0, 10, tp_skip_pt), (2, 0, 10, tp_readNumber_pt)]
theorem tp_readSigned_hc (g : sl_G) : sl_HC g sl_R10 3 tp_readSigned_ct [(33, 0), (41, 0)] := sl_HC_cons (cs_tp_33 g (by decide)) (sl_HC_cons (cs_tp_41 g (by decide)) (sl_HC_nil g sl_R10 3))
set_option maxRecDepth 20000 in
set_option maxHeartbeats 2000000 in
theorem tp_readSigned_snd (g : sl_G) : sl_Snd g tp_readSigned_y prog_12_method_10_code 4 (some .int) 3 (tp_readSigned_pt) := by
  intro As μ Q hw h
  unfold tp_readSigned_pt at h
  split at h
  next c0 a0 a1 =>
    split at h
    next e_ =>
      subst e_
      split at h
      next e_ =>
        subst e_
        refine sl_mk2 g [true, true, false, false] (cst := [some (.inr (.inr (some (10, 43)))), some (.inl a1)]) (lv0 := [none, none, none, none]) (by decide) rfl hw rfl rfl rfl lk_tp_ok (tp_readSigned_hc g) tp_readSigned_tb rfl ?_
        intro X M
        exact ⟨_, sl_VV0, h⟩
      next => exact h.elim
    next => exact h.elim
  next => exact h.elim
def sp_valueOf (a0 : Nat) (a1 : Int32) (μ : sl_M) (Q : Int32 → sl_M → Prop) : Prop := (a1 = (0 : Int32) → Q (μ a0 2) μ) ∧ (¬ a1 = (0 : Int32) → (a1 = (1 : Int32) → Q (μ a0 3) μ) ∧ (¬ a1 = (1 : Int32) → (a1 = (2 : Int32) → Q (μ a0 4) μ) ∧ (¬ a1 = (2 : Int32) → (a1 = (3 : Int32) → sp_length a0 μ (fun r2 m1 => Q r2 m1)) ∧ (¬ a1 = (3 : Int32) → (a1 = (4 : Int32) → Q (μ a0 0) μ) ∧ (¬ a1 = (4 : Int32) → Q (μ a0 5) μ)))))
def sp_valueOf_pt : sl_PT := fun As μ Q => match As with
  | [.inr (.inr (some (c0, a0))), .inl a1] => if c0 = 9 then (sp_valueOf a0 a1 μ (fun r μ' => Q (some (.inl r)) μ')) else False
  | _ => False
def sp_valueOf_cd : List sl_Ent := [(0, .iload_n 1, 1, 0, [1], [], false), (1, .tableswitch 60 0 4 #[35, 40, 45, 50, 55], 35, 0, [61], [(0, 36), (1, 41), (2, 46), (3, 51), (4, 56)], false), (36, .aload_n 0, 1, 0, [0], [], false), (37, .getfield 19, 3, 0, [9, 2, 0, 0, 0], [], false), (40, .ireturn, 1, 0, [], [], false), (41, .aload_n 0, 1, 0, [0], [], false), (42, .getfield 22, 3, 0, [9, 3, 0, 0, 0], [], false), (45, .ireturn, 1, 0, [], [], false), (46, .aload_n 0, 1, 0, [0], [], false), (47, .getfield 25, 3, 0, [9, 4, 0, 0, 0], [], false), (50, .ireturn, 1, 0, [], [], false), (51, .aload_n 0, 1, 0, [0], [], false), (52, .invokevirtual 31, 3, 0, [0], [], false), (55, .ireturn, 1, 0, [], [], false), (56, .aload_n 0, 1, 0, [0], [], false), (57, .getfield 9, 3, 0, [9, 0, 0, 0, 0], [], false), (60, .ireturn, 1, 0, [], [], false), (61, .aload_n 0, 1, 0, [0], [], false), (62, .getfield 28, 3, 0, [9, 5, 0, 0, 0], [], false), (65, .ireturn, 1, 0, [], [], false)]
def sp_valueOf_y : MethodName := ⟨"SpanLayers$Span", "valueOf", "(I)I"⟩
theorem sp_valueOf_tb : sl_tbOK sl_R9 prog_11_method_12_code 2 (some .int) lk_sp [(31, 0)] sp_valueOf_cd = true := by decide +kernel
def sp_valueOf_ct : List sl_Ct := [(1, 0, 9, sp_length_pt)]
theorem sp_valueOf_hc (g : sl_G) : sl_HC g sl_R9 1 sp_valueOf_ct [(31, 0)] := sl_HC_cons (cs_sp_31 g (by decide)) (sl_HC_nil g sl_R9 1)
set_option maxRecDepth 20000 in
set_option maxHeartbeats 2000000 in
theorem sp_valueOf_snd (g : sl_G) : sl_Snd g sp_valueOf_y prog_11_method_12_code 2 (some .int) 1 (sp_valueOf_pt) := by
  intro As μ Q hw h
  unfold sp_valueOf_pt at h
  split at h
  next c0 a0 a1 =>
    split at h
    next e_ =>
      subst e_
      refine sl_mk2 g [true, true] (cst := [some (.inr (.inr (some (9, a0)))), some (.inl a1)]) (lv0 := [none, none]) (by decide) rfl hw rfl rfl rfl lk_sp_ok (sp_valueOf_hc g) sp_valueOf_tb rfl ?_
      intro X M
      exact ⟨_, sl_VV0, h⟩
    next => exact h.elim
  next => exact h.elim
def cn_isSo (a0 : Int32) (a1 : Int32) (a2 : Int32) (μ : sl_M) (Q : Int32 → sl_M → Prop) : Prop := (a1 = (60 : Int32) → (a0 < a2 → sl_bz (1 : Int32) = (1 : Int32) ∧ Q (1 : Int32) μ) ∧ (¬ a0 < a2 → sl_bz (0 : Int32) = (0 : Int32) ∧ Q (0 : Int32) μ)) ∧ (¬ a1 = (60 : Int32) → (a1 = (62 : Int32) → (a0 ≤ a2 → sl_bz (0 : Int32) = (0 : Int32) ∧ Q (0 : Int32) μ) ∧ (¬ a0 ≤ a2 → sl_bz (1 : Int32) = (1 : Int32) ∧ Q (1 : Int32) μ)) ∧ (¬ a1 = (62 : Int32) → (a0 = a2 → sl_bz (1 : Int32) = (1 : Int32) ∧ Q (1 : Int32) μ) ∧ (¬ a0 = a2 → sl_bz (0 : Int32) = (0 : Int32) ∧ Q (0 : Int32) μ)))
def cn_isSo_pt : sl_PT := fun As μ Q => match As with
  | [.inl a0, .inl a1, .inl a2] => cn_isSo a0 a1 a2 μ (fun r μ' => Q (some (.inl r)) μ')
  | _ => False
def cn_isSo_cd : List sl_Ent := [(0, .iload_n 1, 1, 0, [1], [], false), (1, .lookupswitch 49 #[(60, 27), (62, 38)], 27, 0, [50], [(60, 28), (62, 39)], false), (28, .iload_n 0, 1, 0, [0], [], false), (29, .iload_n 2, 1, 0, [2], [], false), (30, .if_icmp .ge 7, 3, 0, [37], [], false), (33, .iconst 1, 1, 1, [], [], false), (34, .goto 4, 3, 0, [38], [], false), (37, .iconst 0, 1, 0, [], [], false), (38, .ireturn, 1, 0, [1], [], false), (39, .iload_n 0, 1, 0, [0], [], false), (40, .iload_n 2, 1, 0, [2], [], false), (41, .if_icmp .le 7, 3, 0, [48], [], false), (44, .iconst 1, 1, 1, [], [], false), (45, .goto 4, 3, 0, [49], [], false), (48, .iconst 0, 1, 0, [], [], false), (49, .ireturn, 1, 0, [1], [], false), (50, .iload_n 0, 1, 0, [0], [], false), (51, .iload_n 2, 1, 0, [2], [], false), (52, .if_icmp .ne 7, 3, 0, [59], [], false), (55, .iconst 1, 1, 1, [], [], false), (56, .goto 4, 3, 0, [60], [], false), (59, .iconst 0, 1, 0, [], [], false), (60, .ireturn, 1, 0, [1], [], false)]
def cn_isSo_y : MethodName := ⟨"SpanLayers$Condition", "isSo", "(III)Z"⟩
theorem cn_isSo_tb : sl_tbOK sl_R2 prog_4_method_9_code 3 (some .boolean) lk_cn [] cn_isSo_cd = true := by decide +kernel
def cn_isSo_ct : List sl_Ct := []
theorem cn_isSo_hc (g : sl_G) : sl_HC g sl_R2 0 cn_isSo_ct [] := sl_HC_nil g sl_R2 0
set_option maxRecDepth 20000 in
set_option maxHeartbeats 2000000 in
theorem cn_isSo_snd (g : sl_G) : sl_Snd g cn_isSo_y prog_4_method_9_code 3 (some .boolean) 0 (cn_isSo_pt) := by
  intro As μ Q hw h
  unfold cn_isSo_pt at h
  split at h
  next a0 a1 a2 =>
    refine sl_mk2 g [true, true, true] (cst := [some (.inl a0), some (.inl a1), some (.inl a2)]) (lv0 := [none, none, none]) (by decide) rfl hw rfl rfl rfl lk_cn_ok (cn_isSo_hc g) cn_isSo_tb rfl ?_
    intro X M
    exact ⟨_, sl_VV0, h⟩
  next => exact h.elim
def tp_expectEnd (μ : sl_M) (Q : sl_M → Prop) : Prop := ((μ 43 2) < (μ 43 1) → tp_fail (μ 43 2) μ (fun m1 => Q m1)) ∧ (¬ (μ 43 2) < (μ 43 1) → Q μ)
def tp_expectEnd_pt : sl_PT := fun As μ Q => match As with
  | [.inr (.inr (some (c0, a0)))] => if c0 = 10 then (if a0 = 43 then (tp_expectEnd μ (fun μ' => Q none μ')) else False) else False
  | _ => False
def tp_expectEnd_cd : List sl_Ent := [(0, .aload_n 0, 1, 0, [0], [], false), (1, .getfield 22, 3, 0, [10, 2, 0, 0, 0], [], false), (4, .aload_n 0, 1, 0, [0], [], false), (5, .getfield 19, 3, 0, [10, 1, 0, 0, 0], [], false), (8, .if_icmp .ge 11, 3, 0, [19], [], false), (11, .aload_n 0, 1, 0, [0], [], false), (12, .aload_n 0, 1, 0, [0], [], false), (13, .getfield 22, 3, 0, [10, 2, 0, 0, 0], [], false), (16, .invokevirtual 37, 3, 0, [0], [], false), (19, .return_, 1, 0, [], [], false)]
def tp_expectEnd_y : MethodName := ⟨"SpanLayers$Tape", "expectEnd", "()V"⟩
theorem tp_expectEnd_tb : sl_tbOK sl_R10 prog_12_method_8_code 1 none lk_tp [(37, 0)] tp_expectEnd_cd = true := by decide +kernel
def tp_expectEnd_ct : List sl_Ct := [(2, 0, 10, tp_fail_pt)]
theorem tp_expectEnd_hc (g : sl_G) : sl_HC g sl_R10 1 tp_expectEnd_ct [(37, 0)] := sl_HC_cons (cs_tp_37 g (by decide)) (sl_HC_nil g sl_R10 1)
set_option maxRecDepth 20000 in
set_option maxHeartbeats 2000000 in
theorem tp_expectEnd_snd (g : sl_G) : sl_Snd g tp_expectEnd_y prog_12_method_8_code 1 none 1 (tp_expectEnd_pt) := by
  intro As μ Q hw h
  unfold tp_expectEnd_pt at h
  split at h
  next c0 a0 =>
    split at h
    next e_ =>
      subst e_
      split at h
      next e_ =>
        subst e_
        refine sl_mk2 g [true] (cst := [some (.inr (.inr (some (10, 43))))]) (lv0 := [none]) (by decide) rfl hw rfl rfl rfl lk_tp_ok (tp_expectEnd_hc g) tp_expectEnd_tb rfl ?_
        intro X M
        exact ⟨_, sl_VV0, h⟩
      next => exact h.elim
    next => exact h.elim
  next => exact h.elim
def tp_readNotLess (a1 : Int32) (μ : sl_M) (Q : Int32 → sl_M → Prop) : Prop := ∀ v1, v1 = (μ 43 2) → tp_readNumber (3 : Int32) μ (fun r3 m2 => (r3 < a1 → tp_fail v1 m2 (fun m4 => Q r3 m4)) ∧ (¬ r3 < a1 → Q r3 m2))
def tp_readNotLess_pt : sl_PT := fun As μ Q => match As with
  | [.inr (.inr (some (c0, a0))), .inl a1] => if c0 = 10 then (if a0 = 43 then (tp_readNotLess a1 μ (fun r μ' => Q (some (.inl r)) μ')) else False) else False
  | _ => False
def tp_readNotLess_cd : List sl_Ent := [(0, .aload_n 0, 1, 0, [0], [], false), (1, .getfield 22, 3, 0, [10, 2, 0, 0, 0], [], false), (4, .istore_n 2, 1, 0, [2, 1], [], false), (5, .aload_n 0, 1, 0, [0], [], false), (6, .iconst 3, 1, 3, [], [], false), (7, .invokevirtual 41, 3, 0, [0], [], false), (10, .istore_n 3, 1, 0, [3], [], false), (11, .iload_n 3, 1, 0, [3], [], false), (12, .iload_n 1, 1, 0, [1], [], false), (13, .if_icmp .ge 8, 3, 0, [21], [], false), (16, .aload_n 0, 1, 0, [0], [], false), (17, .iload_n 2, 1, 0, [2], [], false), (18, .invokevirtual 37, 3, 0, [1], [], false), (21, .iload_n 3, 1, 0, [3], [], false), (22, .ireturn, 1, 0, [], [], false)]
def tp_readNotLess_y : MethodName := ⟨"SpanLayers$Tape", "readNotLess", "(I)I"⟩
theorem tp_readNotLess_tb : sl_tbOK sl_R10 prog_12_method_11_code 4 (some .int) lk_tp [(41, 0), (37, 0)] tp_readNotLess_cd = true := by decide +kernel
def tp_readNotLess_ct : List sl_Ct := [(2, 0, 10, tp_readNumber_pt), (2, 0, 10, tp_fail_pt)]
theorem tp_readNotLess_hc (g : sl_G) : sl_HC g sl_R10 3 tp_readNotLess_ct [(41, 0), (37, 0)] := sl_HC_cons (cs_tp_41 g (by decide)) (sl_HC_cons (cs_tp_37 g (by decide)) (sl_HC_nil g sl_R10 3))
set_option maxRecDepth 20000 in
set_option maxHeartbeats 2000000 in
theorem tp_readNotLess_snd (g : sl_G) : sl_Snd g tp_readNotLess_y prog_12_method_11_code 4 (some .int) 3 (tp_readNotLess_pt) := by
  intro As μ Q hw h
  unfold tp_readNotLess_pt at h
  split at h
  next c0 a0 a1 =>
    split at h
    next e_ =>
      subst e_
      split at h
      next e_ =>
        subst e_
        refine sl_mk2 g [true, true, false, false] (cst := [some (.inr (.inr (some (10, 43)))), some (.inl a1)]) (lv0 := [none, none, none, none]) (by decide) rfl hw rfl rfl rfl lk_tp_ok (tp_readNotLess_hc g) tp_readNotLess_tb rfl ?_
        intro X M
        exact ⟨_, sl_VV0, h⟩
      next => exact h.elim
    next => exact h.elim
  next => exact h.elim
def ch_held (a0 : Int32) (μ : sl_M) (Q : Int32 → sl_M → Prop) : Prop := ma_min (99 : Int32) a0 μ (fun r2 m1 => ma_max (-99 : Int32) r2 m1 (fun r4 m3 => Q r4 m3))
def ch_held_pt : sl_PT := fun As μ Q => match As with
  | [.inl a0] => ch_held a0 μ (fun r μ' => Q (some (.inl r)) μ')
  | _ => False
def ch_held_cd : List sl_Ent := [(0, .bipush (-99), 2, (-99), [], [], false), (2, .bipush 99, 2, 99, [], [], false), (4, .iload_n 0, 1, 0, [0], [], false), (5, .invokestatic 97, 3, 0, [0], [], false), (8, .invokestatic 88, 3, 0, [1], [], false), (11, .ireturn, 1, 0, [], [], false)]
def ch_held_y : MethodName := ⟨"SpanLayers$Change", "held", "(I)I"⟩
theorem ch_held_tb : sl_tbOK sl_R0 prog_2_method_7_code 1 (some .int) lk_ch [(97, 1), (88, 1)] ch_held_cd = true := by decide +kernel
theorem cs_ch_97 (g : sl_G) {hh : Nat} (h : 1 ≤ hh) : sl_CallS g sl_R0 97 1 0 hh 2 ma_min_pt := sl_callMin h (sl_in1 897 (by decide +kernel) rfl) (sl_in1 898 (by decide +kernel) rfl) (sl_in1 99 (by decide +kernel) rfl) (sl_in1 899 (by decide +kernel) rfl)
theorem cs_ch_88 (g : sl_G) {hh : Nat} (h : 1 ≤ hh) : sl_CallS g sl_R0 88 1 0 hh 2 ma_max_pt := sl_callMax h (sl_in1 896 (by decide +kernel) rfl) (sl_in1 447 (by decide +kernel) rfl) (sl_in1 99 (by decide +kernel) rfl) (sl_in1 448 (by decide +kernel) rfl)
def ch_held_ct : List sl_Ct := [(2, 1, 0, ma_min_pt), (2, 1, 0, ma_max_pt)]
theorem ch_held_hc (g : sl_G) : sl_HC g sl_R0 1 ch_held_ct [(97, 1), (88, 1)] := sl_HC_cons (cs_ch_97 g (by decide)) (sl_HC_cons (cs_ch_88 g (by decide)) (sl_HC_nil g sl_R0 1))
set_option maxRecDepth 20000 in
set_option maxHeartbeats 2000000 in
theorem ch_held_snd (g : sl_G) : sl_Snd g ch_held_y prog_2_method_7_code 1 (some .int) 1 (ch_held_pt) := by
  intro As μ Q hw h
  unfold ch_held_pt at h
  split at h
  next a0 =>
    refine sl_mk2 g [true] (cst := [some (.inl a0)]) (lv0 := [none]) (by decide) rfl hw rfl rfl rfl lk_ch_ok (ch_held_hc g) ch_held_tb rfl ?_
    intro X M
    exact ⟨_, sl_VV0, h⟩
  next => exact h.elim
def ch_takeStep (a0 : Nat) (a1 : Int32) (a2 : Int32) (a3 : Int32) (μ : sl_M) (Q : sl_M → Prop) : Prop := ∀ v1, v1 = (μ a0 2) → ∀ v2, v2 = (μ a0 3) → (a1 = (0 : Int32) → ∀ m3, m3 = sl_up μ a0 2 (v1 + a2) → ∀ m4, m4 = sl_up m3 a0 3 (v2 + a2) → Q m4) ∧ (¬ a1 = (0 : Int32) → (a1 = (1 : Int32) → ∀ m5, m5 = sl_up μ a0 2 (v1 - a2) → ∀ m6, m6 = sl_up m5 a0 3 (v2 + a2) → Q m6) ∧ (¬ a1 = (1 : Int32) → (a1 = (2 : Int32) → ma_max v1 a2 μ (fun r8 m7 => ∀ m9, m9 = sl_up m7 a0 2 r8 → ma_min v2 a3 m9 (fun r11 m10 => ∀ m12, m12 = sl_up m10 a0 3 r11 → Q m12))) ∧ (¬ a1 = (2 : Int32) → (a1 = (3 : Int32) → ∀ m13, m13 = sl_up μ a0 2 ((999 : Int32) - v2) → ∀ m14, m14 = sl_up m13 a0 3 ((999 : Int32) - v1) → Q m14) ∧ (¬ a1 = (3 : Int32) → (a1 = (4 : Int32) → ch_held ((μ a0 4) * a2) μ (fun r16 m15 => ∀ m17, m17 = sl_up m15 a0 4 r16 → Q m17)) ∧ (¬ a1 = (4 : Int32) → sp_length a0 μ (fun r19 m18 => ma_min (99 : Int32) r19 m18 (fun r21 m20 => ∀ m22, m22 = sl_up m20 a0 4 r21 → Q m22)))))))
def ch_takeStep_pt : sl_PT := fun As μ Q => match As with
  | [.inr (.inr (some (c0, a0))), .inl a1, .inl a2, .inl a3] => if c0 = 9 then (ch_takeStep a0 a1 a2 a3 μ (fun μ' => Q none μ')) else False
  | _ => False
def ch_takeStep_cd : List sl_Ent := [(0, .aload_n 0, 1, 0, [0], [], false), (1, .getfield 85, 3, 0, [9, 2, 0, 0, 0], [], false), (4, .istore 4, 2, 0, [4, 1], [], false), (6, .aload_n 0, 1, 0, [0], [], false), (7, .getfield 94, 3, 0, [9, 3, 0, 0, 0], [], false), (10, .istore 5, 2, 0, [5, 1], [], false), (12, .iload_n 1, 1, 0, [1], [], false), (13, .tableswitch 135 0 4 #[35, 54, 73, 96, 119], 35, 0, [148], [(0, 48), (1, 67), (2, 86), (3, 109), (4, 132)], false), (48, .aload_n 0, 1, 0, [0], [], false), (49, .iload 4, 2, 0, [4], [], false), (51, .iload_n 2, 1, 0, [2], [], false), (52, .iadd, 1, 0, [], [], false), (53, .putfield 85, 3, 0, [9, 2, 0], [], false), (56, .aload_n 0, 1, 0, [0], [], false), (57, .iload 5, 2, 0, [5], [], false), (59, .iload_n 2, 1, 0, [2], [], false), (60, .iadd, 1, 0, [], [], false), (61, .putfield 94, 3, 0, [9, 3, 0], [], false), (64, .goto 97, 3, 0, [161], [], false), (67, .aload_n 0, 1, 0, [0], [], false), (68, .iload 4, 2, 0, [4], [], false), (70, .iload_n 2, 1, 0, [2], [], false), (71, .isub, 1, 0, [], [], false), (72, .putfield 85, 3, 0, [9, 2, 0], [], false), (75, .aload_n 0, 1, 0, [0], [], false), (76, .iload 5, 2, 0, [5], [], false), (78, .iload_n 2, 1, 0, [2], [], false), (79, .iadd, 1, 0, [], [], false), (80, .putfield 94, 3, 0, [9, 3, 0], [], false), (83, .goto 78, 3, 0, [161], [], false), (86, .aload_n 0, 1, 0, [0], [], false), (87, .iload 4, 2, 0, [4], [], false), (89, .iload_n 2, 1, 0, [2], [], false), (90, .invokestatic 88, 3, 0, [0], [], false), (93, .putfield 85, 3, 0, [9, 2, 0], [], false), (96, .aload_n 0, 1, 0, [0], [], false), (97, .iload 5, 2, 0, [5], [], false), (99, .iload_n 3, 1, 0, [3], [], false), (100, .invokestatic 97, 3, 0, [1], [], false), (103, .putfield 94, 3, 0, [9, 3, 0], [], false), (106, .goto 55, 3, 0, [161], [], false), (109, .aload_n 0, 1, 0, [0], [], false), (110, .sipush 999, 3, 999, [], [], false), (113, .iload 5, 2, 0, [5], [], false), (115, .isub, 1, 0, [], [], false), (116, .putfield 85, 3, 0, [9, 2, 0], [], false), (119, .aload_n 0, 1, 0, [0], [], false), (120, .sipush 999, 3, 999, [], [], false), (123, .iload 4, 2, 0, [4], [], false), (125, .isub, 1, 0, [], [], false), (126, .putfield 94, 3, 0, [9, 3, 0], [], false), (129, .goto 32, 3, 0, [161], [], false), (132, .aload_n 0, 1, 0, [0], [], false), (133, .aload_n 0, 1, 0, [0], [], false), (134, .getfield 100, 3, 0, [9, 4, 0, 0, 0], [], false), (137, .iload_n 2, 1, 0, [2], [], false), (138, .imul, 1, 0, [], [], false), (139, .invokestatic 103, 3, 0, [2], [], false), (142, .putfield 100, 3, 0, [9, 4, 0], [], false), (145, .goto 16, 3, 0, [161], [], false), (148, .aload_n 0, 1, 0, [0], [], false), (149, .bipush 99, 2, 99, [], [], false), (151, .aload_n 0, 1, 0, [0], [], false), (152, .invokevirtual 106, 3, 0, [3], [], false), (155, .invokestatic 97, 3, 0, [1], [], false), (158, .putfield 100, 3, 0, [9, 4, 0], [], false), (161, .return_, 1, 0, [], [], false)]
def ch_takeStep_y : MethodName := ⟨"SpanLayers$Change", "takeStep", "(LSpanLayers$Span;III)V"⟩
theorem ch_takeStep_tb : sl_tbOK sl_R0 prog_2_method_6_code 6 none lk_ch [(88, 1), (97, 1), (103, 1), (106, 0)] ch_takeStep_cd = true := by decide +kernel
theorem ch_held_w2 : Cond.static ch_held_y ∈ sl_T0 := sl_in1 901 (by decide +kernel) rfl
theorem ch_held_w4 : Cond.initialized ch_held_y.cls ∈ sl_T0 := sl_in1 93 (by decide +kernel) rfl
theorem ch_held_w5 : Cond.code ch_held_y prog_2_method_7_code 1 (some .int) ∈ sl_T0 := sl_in1 902 (by decide +kernel) rfl
theorem ch_held_w6 : ch_held_y.cls ≠ "java/lang/invoke/MethodHandle" ∧ ch_held_y.cls ≠ "java/lang/invoke/VarHandle" ∧ (parseMethodDescriptor ch_held_y.desc).map (fun d => d.parameters.length) = some 1 := by decide +kernel
theorem cs_ch_103 (g : sl_G) {hh : Nat} (h : 2 ≤ hh) : sl_CallS g sl_R0 103 1 0 hh 1 ch_held_pt := sl_callS (y := ch_held_y) (ch_held_snd g) h (by decide) (sl_in1 900 (by decide +kernel) rfl) ch_held_w2 ch_held_w4 ch_held_w5 ch_held_w6
theorem cs_ch_106 (g : sl_G) {hh : Nat} (h : 1 ≤ hh) : sl_CallS g sl_R0 106 0 9 hh 1 sp_length_pt := sl_callV (y := sp_length_y) (T := sl_F9) (N := 6) (sp_length_snd g) h (by decide) (sl_in1 903 (by decide +kernel) rfl) sp_length_w2 sp_length_w3 sp_length_w4 sp_length_w5 sp_length_w6 rfl (by decide)
def ch_takeStep_ct : List sl_Ct := [(2, 1, 0, ma_max_pt), (2, 1, 0, ma_min_pt), (1, 1, 0, ch_held_pt), (1, 0, 9, sp_length_pt)]
theorem ch_takeStep_hc (g : sl_G) : sl_HC g sl_R0 2 ch_takeStep_ct [(88, 1), (97, 1), (103, 1), (106, 0)] := sl_HC_cons (cs_ch_88 g (by decide)) (sl_HC_cons (cs_ch_97 g (by decide)) (sl_HC_cons (cs_ch_103 g (by decide)) (sl_HC_cons (cs_ch_106 g (by decide)) (sl_HC_nil g sl_R0 2))))
set_option maxRecDepth 20000 in
set_option maxHeartbeats 2000000 in
theorem ch_takeStep_snd (g : sl_G) : sl_Snd g ch_takeStep_y prog_2_method_6_code 6 none 2 (ch_takeStep_pt) := by
  intro As μ Q hw h
  unfold ch_takeStep_pt at h
  split at h
  next c0 a0 a1 a2 a3 =>
    split at h
    next e_ =>
      subst e_
      refine sl_mk2 g [true, true, true, true, false, false] (cst := [some (.inr (.inr (some (9, a0)))), some (.inl a1), some (.inl a2), some (.inl a3)]) (lv0 := [none, none, none, none, none, none]) (by decide) rfl hw rfl rfl rfl lk_ch_ok (ch_takeStep_hc g) ch_takeStep_tb rfl ?_
      intro X M
      exact ⟨_, sl_VV0, h⟩
    next => exact h.elim
  next => exact h.elim
def ch_changeOne_L2 (a1 : Nat) (Q : sl_M → Prop) : Nat → Int32 → sl_M → Prop
  | 0, _, _ => False
  | n + 1, x2, μ => (x2 < (μ 46 3) → vp_in x2 5 ∧ vp_in x2 5 ∧ vp_in x2 5 ∧ ch_takeStep a1 (μ 47 x2.toNatClampNeg) (μ 48 x2.toNatClampNeg) (μ 49 x2.toNatClampNeg) μ (fun m1 => (ch_changeOne_L2 a1 Q n) (x2 + (1 : Int32)) m1)) ∧ (¬ x2 < (μ 46 3) → ma_max (0 : Int32) (μ a1 2) μ (fun r3 m2 => ∀ m4, m4 = sl_up m2 a1 2 r3 → ma_min (999 : Int32) (m4 a1 3) m4 (fun r6 m5 => ∀ m7, m7 = sl_up m5 a1 3 r6 → ch_held (m7 a1 4) m7 (fun r9 m8 => ∀ m10, m10 = sl_up m8 a1 4 r9 → ((m10 a1 2) ≤ (m10 a1 3) → sl_bz (1 : Int32) = (1 : Int32) ∧ ∀ m11, m11 = sl_up m10 a1 1 (1 : Int32) → Q m11) ∧ (¬ (m10 a1 2) ≤ (m10 a1 3) → sl_bz (0 : Int32) = (0 : Int32) ∧ ∀ m12, m12 = sl_up m10 a1 1 (0 : Int32) → Q m12)))))
def ch_changeOne (a1 : Nat) (μ : sl_M) (Q : sl_M → Prop) : Prop := ∃ n13, ch_changeOne_L2 a1 Q n13 (0 : Int32) μ
def ch_changeOne_pt : sl_PT := fun As μ Q => match As with
  | [.inr (.inr (some (c0, a0))), .inr (.inr (some (c1, a1)))] => if c0 = 0 then (if c1 = 9 then (if a0 = 46 then (ch_changeOne a1 μ (fun μ' => Q none μ')) else False) else False) else False
  | _ => False
def ch_changeOne_cd : List sl_Ent := [(0, .iconst 0, 1, 0, [], [], false), (1, .istore_n 2, 1, 0, [2], [], false), (2, .iload_n 2, 1, 0, [2], [], true), (3, .aload_n 0, 1, 0, [0], [], false), (4, .getfield 21, 3, 0, [0, 3, 0, 0, 0], [], false), (7, .if_icmp .ge 31, 3, 0, [38], [], false), (10, .aload_n 1, 1, 0, [1], [], false), (11, .aload_n 0, 1, 0, [0], [], false), (12, .getfield 9, 3, 0, [0, 0, 2, 20, 1], [], false), (15, .iload_n 2, 1, 0, [2], [], false), (16, .iaload, 1, 0, [], [], false), (17, .aload_n 0, 1, 0, [0], [], false), (18, .getfield 15, 3, 0, [0, 1, 2, 20, 2], [], false), (21, .iload_n 2, 1, 0, [2], [], false), (22, .iaload, 1, 0, [], [], false), (23, .aload_n 0, 1, 0, [0], [], false), (24, .getfield 18, 3, 0, [0, 2, 2, 20, 3], [], false), (27, .iload_n 2, 1, 0, [2], [], false), (28, .iaload, 1, 0, [], [], false), (29, .invokestatic 81, 3, 0, [0], [], false), (32, .iinc 2 1, 3, 1, [], [], false), (35, .goto (-33), 3, 0, [2], [], false), (38, .aload_n 1, 1, 0, [1], [], false), (39, .iconst 0, 1, 0, [], [], false), (40, .aload_n 1, 1, 0, [1], [], false), (41, .getfield 85, 3, 0, [9, 2, 0, 0, 0], [], false), (44, .invokestatic 88, 3, 0, [1], [], false), (47, .putfield 85, 3, 0, [9, 2, 0], [], false), (50, .aload_n 1, 1, 0, [1], [], false), (51, .sipush 999, 3, 999, [], [], false), (54, .aload_n 1, 1, 0, [1], [], false), (55, .getfield 94, 3, 0, [9, 3, 0, 0, 0], [], false), (58, .invokestatic 97, 3, 0, [2], [], false), (61, .putfield 94, 3, 0, [9, 3, 0], [], false), (64, .aload_n 1, 1, 0, [1], [], false), (65, .aload_n 1, 1, 0, [1], [], false), (66, .getfield 100, 3, 0, [9, 4, 0, 0, 0], [], false), (69, .invokestatic 103, 3, 0, [3], [], false), (72, .putfield 100, 3, 0, [9, 4, 0], [], false), (75, .aload_n 1, 1, 0, [1], [], false), (76, .aload_n 1, 1, 0, [1], [], false), (77, .getfield 85, 3, 0, [9, 2, 0, 0, 0], [], false), (80, .aload_n 1, 1, 0, [1], [], false), (81, .getfield 94, 3, 0, [9, 3, 0, 0, 0], [], false), (84, .if_icmp .gt 7, 3, 0, [91], [], false), (87, .iconst 1, 1, 1, [], [], false), (88, .goto 4, 3, 0, [92], [], false), (91, .iconst 0, 1, 0, [], [], false), (92, .putfield 64, 3, 0, [9, 1, 1], [], false), (95, .return_, 1, 0, [], [], false)]
def ch_changeOne_y : MethodName := ⟨"SpanLayers$Change", "changeOne", "(LSpanLayers$Span;)V"⟩
theorem ch_changeOne_tb : sl_tbOK sl_R0 prog_2_method_5_code 3 none lk_ch [(81, 1), (88, 1), (97, 1), (103, 1)] ch_changeOne_cd = true := by decide +kernel
theorem ch_takeStep_w2 : Cond.static ch_takeStep_y ∈ sl_T0 := sl_in1 894 (by decide +kernel) rfl
theorem ch_takeStep_w4 : Cond.initialized ch_takeStep_y.cls ∈ sl_T0 := sl_in1 93 (by decide +kernel) rfl
theorem ch_takeStep_w5 : Cond.code ch_takeStep_y prog_2_method_6_code 6 none ∈ sl_T0 := sl_in1 895 (by decide +kernel) rfl
theorem ch_takeStep_w6 : ch_takeStep_y.cls ≠ "java/lang/invoke/MethodHandle" ∧ ch_takeStep_y.cls ≠ "java/lang/invoke/VarHandle" ∧ (parseMethodDescriptor ch_takeStep_y.desc).map (fun d => d.parameters.length) = some 4 := by decide +kernel
theorem cs_ch_81 (g : sl_G) {hh : Nat} (h : 3 ≤ hh) : sl_CallS g sl_R0 81 1 0 hh 4 ch_takeStep_pt := sl_callS (y := ch_takeStep_y) (ch_takeStep_snd g) h (by decide) (sl_in1 893 (by decide +kernel) rfl) ch_takeStep_w2 ch_takeStep_w4 ch_takeStep_w5 ch_takeStep_w6
def ch_changeOne_ct : List sl_Ct := [(4, 1, 0, ch_takeStep_pt), (2, 1, 0, ma_max_pt), (2, 1, 0, ma_min_pt), (1, 1, 0, ch_held_pt)]
theorem ch_changeOne_hc (g : sl_G) : sl_HC g sl_R0 3 ch_changeOne_ct [(81, 1), (88, 1), (97, 1), (103, 1)] := sl_HC_cons (cs_ch_81 g (by decide)) (sl_HC_cons (cs_ch_88 g (by decide)) (sl_HC_cons (cs_ch_97 g (by decide)) (sl_HC_cons (cs_ch_103 g (by decide)) (sl_HC_nil g sl_R0 3))))
set_option maxRecDepth 20000 in
set_option maxHeartbeats 2000000 in
theorem ch_changeOne_snd (g : sl_G) : sl_Snd g ch_changeOne_y prog_2_method_5_code 3 none 3 (ch_changeOne_pt) := by
  intro As μ Q hw h
  unfold ch_changeOne_pt at h
  split at h
  next c0 a0 c1 a1 =>
    split at h
    next e_ =>
      subst e_
      split at h
      next e_ =>
        subst e_
        split at h
        next e_ =>
          subst e_
          refine sl_mk2 g [true, true, false] (cst := [some (.inr (.inr (some (0, 46)))), some (.inr (.inr (some (9, a1))))]) (lv0 := [none, none, none]) (by decide) rfl hw rfl rfl rfl lk_ch_ok (ch_changeOne_hc g) ch_changeOne_tb rfl ?_
          intro X M
          have v2 := sl_extL M sl_VV0 2 (fun n lv st μ => match lv, st with | [_, _, some (.inl x2)], [] => ch_changeOne_L2 a1 (fun μ' => Q none μ') n x2 μ | _, _ => False) (by
              intro lv st μ h
              split at h
              · exact h
              · exact h) (by
              intro n2 w2
              refine ⟨_, w2, ?_⟩
              intro lv st μ h
              split at h
              · exact h
              · exact h.elim)
          exact ⟨_, v2, h⟩
        next => exact h.elim
      next => exact h.elim
    next => exact h.elim
  next => exact h.elim
def ch_changeAll_L5 (a2 : Int32) (Q : Int32 → sl_M → Prop) : Nat → Int32 → Int32 → sl_M → Prop
  | 0, _, _, _ => False
  | n + 1, x3, x4, μ => (x4 < (30 : Int32) → vp_in x4 30 ∧ ((sl_bz (μ (4 + x4.toNatClampNeg) 1)) = (0 : Int32) → (ch_changeAll_L5 a2 Q n) x3 (x4 + (1 : Int32)) μ) ∧ (¬ (sl_bz (μ (4 + x4.toNatClampNeg) 1)) = (0 : Int32) → sx_isOfSet x4 a2 μ (fun r2 m1 => (r2 = (0 : Int32) → (ch_changeAll_L5 a2 Q n) x3 (x4 + (1 : Int32)) m1) ∧ (¬ r2 = (0 : Int32) → vp_in x4 30 ∧ ch_changeOne (4 + x4.toNatClampNeg) m1 (fun m3 => (ch_changeAll_L5 a2 Q n) (x3 + (1 : Int32)) (x4 + (1 : Int32)) m3))))) ∧ (¬ x4 < (30 : Int32) → ix_relayer μ (fun m4 => Q x3 m4))
def ch_changeAll (a2 : Int32) (μ : sl_M) (Q : Int32 → sl_M → Prop) : Prop := ∃ n5, ch_changeAll_L5 a2 Q n5 (0 : Int32) (0 : Int32) μ
def ch_changeAll_pt : sl_PT := fun As μ Q => match As with
  | [.inr (.inr (some (c0, a0))), .inr (.inr (some (c1, a1))), .inl a2] => if c0 = 0 then (if c1 = 5 then (if a0 = 46 then (if a1 = 1 then (ch_changeAll a2 μ (fun r μ' => Q (some (.inl r)) μ')) else False) else False) else False) else False
  | _ => False
def ch_changeAll_cd : List sl_Ent := [(0, .iconst 0, 1, 0, [], [], false), (1, .istore_n 3, 1, 0, [3], [], false), (2, .iconst 0, 1, 0, [], [], false), (3, .istore 4, 2, 0, [4], [], false), (5, .iload 4, 2, 0, [4], [], true), (7, .bipush 30, 2, 30, [], [], false), (9, .if_icmp .ge 45, 3, 0, [54], [], false), (12, .aload_n 1, 1, 0, [1], [], false), (13, .getfield 58, 3, 0, [5, 0, 2, 22, 1], [], false), (16, .iload 4, 2, 0, [4], [], false), (18, .aaload, 1, 0, [], [], false), (19, .getfield 64, 3, 0, [9, 1, 1, 0, 0], [], false), (22, .ifCond .eq 26, 3, 0, [48], [], false), (25, .iload 4, 2, 0, [4], [], false), (27, .iload_n 2, 1, 0, [2], [], false), (28, .invokestatic 70, 3, 0, [0], [], false), (31, .ifCond .eq 17, 3, 0, [48], [], false), (34, .aload_n 0, 1, 0, [0], [], false), (35, .aload_n 1, 1, 0, [1], [], false), (36, .getfield 58, 3, 0, [5, 0, 2, 22, 1], [], false), (39, .iload 4, 2, 0, [4], [], false), (41, .aaload, 1, 0, [], [], false), (42, .invokevirtual 74, 3, 0, [1], [], false), (45, .iinc 3 1, 3, 1, [], [], false), (48, .iinc 4 1, 3, 1, [], [], false), (51, .goto (-46), 3, 0, [5], [], false), (54, .aload_n 1, 1, 0, [1], [], false), (55, .invokevirtual 78, 3, 0, [2], [], false), (58, .iload_n 3, 1, 0, [3], [], false), (59, .ireturn, 1, 0, [], [], false)]
def ch_changeAll_y : MethodName := ⟨"SpanLayers$Change", "changeAll", "(LSpanLayers$Index;I)I"⟩
theorem ch_changeAll_tb : sl_tbOK sl_R0 prog_2_method_4_code 5 (some .int) lk_ch [(70, 1), (74, 0), (78, 0)] ch_changeAll_cd = true := by decide +kernel
theorem cs_ch_70 (g : sl_G) {hh : Nat} (h : 1 ≤ hh) : sl_CallS g sl_R0 70 1 0 hh 2 sx_isOfSet_pt := sl_callN (host := "SpanLayers") (y := sx_isOfSet_y) (sx_isOfSet_snd g) h (by decide) (List.mem_of_getElem? (i := 12) rfl) sx_isOfSet_w2 sx_isOfSet_w4 sx_isOfSet_w5 sx_isOfSet_w6
theorem ch_changeOne_w2 : Cond.instanceMethod ch_changeOne_y ∈ sl_T0 := sl_in1 891 (by decide +kernel) rfl
theorem ch_changeOne_w3 : Cond.selects ch_changeOne_y.cls ch_changeOne_y ch_changeOne_y ∈ sl_T0 := sl_in1 17 (by decide +kernel) rfl
theorem ch_changeOne_w4 : Cond.initialized ch_changeOne_y.cls ∈ sl_T0 := sl_in1 93 (by decide +kernel) rfl
theorem ch_changeOne_w5 : Cond.code ch_changeOne_y prog_2_method_5_code 3 none ∈ sl_T0 := sl_in1 892 (by decide +kernel) rfl
theorem ch_changeOne_w6 : ch_changeOne_y.cls ≠ "java/lang/invoke/MethodHandle" ∧ ch_changeOne_y.cls ≠ "java/lang/invoke/VarHandle" ∧ (parseMethodDescriptor ch_changeOne_y.desc).map (fun d => d.parameters.length) = some 1 := by decide +kernel
theorem cs_ch_74 (g : sl_G) {hh : Nat} (h : 4 ≤ hh) : sl_CallS g sl_R0 74 0 0 hh 2 ch_changeOne_pt := sl_callV (y := ch_changeOne_y) (T := sl_F0) (N := 4) (ch_changeOne_snd g) h (by decide) (sl_in1 889 (by decide +kernel) rfl) ch_changeOne_w2 ch_changeOne_w3 ch_changeOne_w4 ch_changeOne_w5 ch_changeOne_w6 rfl (by decide)
theorem cs_ch_78 (g : sl_G) {hh : Nat} (h : 5 ≤ hh) : sl_CallS g sl_R0 78 0 5 hh 1 ix_relayer_pt := sl_callV (y := ix_relayer_y) (T := sl_F5) (N := 2) (ix_relayer_snd g) h (by decide) (sl_in1 904 (by decide +kernel) rfl) ix_relayer_w2 ix_relayer_w3 ix_relayer_w4 ix_relayer_w5 ix_relayer_w6 rfl (by decide)
def ch_changeAll_ct : List sl_Ct := [(2, 1, 0, sx_isOfSet_pt), (2, 0, 0, ch_changeOne_pt), (1, 0, 5, ix_relayer_pt)]
theorem ch_changeAll_hc (g : sl_G) : sl_HC g sl_R0 5 ch_changeAll_ct [(70, 1), (74, 0), (78, 0)] := sl_HC_cons (cs_ch_70 g (by decide)) (sl_HC_cons (cs_ch_74 g (by decide)) (sl_HC_cons (cs_ch_78 g (by decide)) (sl_HC_nil g sl_R0 5)))
set_option maxRecDepth 20000 in
set_option maxHeartbeats 2000000 in
theorem ch_changeAll_snd (g : sl_G) : sl_Snd g ch_changeAll_y prog_2_method_4_code 5 (some .int) 5 (ch_changeAll_pt) := by
  intro As μ Q hw h
  unfold ch_changeAll_pt at h
  split at h
  next c0 a0 c1 a1 a2 =>
    split at h
    next e_ =>
      subst e_
      split at h
      next e_ =>
        subst e_
        split at h
        next e_ =>
          subst e_
          split at h
          next e_ =>
            subst e_
            refine sl_mk2 g [true, true, true, false, false] (cst := [some (.inr (.inr (some (0, 46)))), some (.inr (.inr (some (5, 1)))), some (.inl a2)]) (lv0 := [none, none, none, none, none]) (by decide) rfl hw rfl rfl rfl lk_ch_ok (ch_changeAll_hc g) ch_changeAll_tb rfl ?_
            intro X M
            have v5 := sl_extL M sl_VV0 5 (fun n lv st μ => match lv, st with | [_, _, _, some (.inl x3), some (.inl x4)], [] => ch_changeAll_L5 a2 (fun r μ' => Q (some (.inl r)) μ') n x3 x4 μ | _, _ => False) (by
                intro lv st μ h
                split at h
                · exact h
                · exact h) (by
                intro n5 w5
                refine ⟨_, w5, ?_⟩
                intro lv st μ h
                split at h
                · exact h
                · exact h.elim)
            exact ⟨_, v5, h⟩
          next => exact h.elim
        next => exact h.elim
      next => exact h.elim
    next => exact h.elim
  next => exact h.elim
def pa_readFrom_B76 (Q : sl_M → Prop) (k9 : Int32 → Int32 → sl_M → Prop) : Int32 → sl_M → Prop
  | x3, μ => ∀ m14, m14 = sl_up μ 50 3 ((μ 50 3) + (1 : Int32)) → tp_skip (59 : Int32) m14 (fun r16 m15 => k9 r16 (x3 + (1 : Int32)) m15)
def pa_readFrom_B99 (Q : sl_M → Prop) : Int32 → sl_M → Prop
  | x2, μ => (x2 = (0 : Int32) → tp_expectEnd μ (fun m17 => Q m17)) ∧ (¬ x2 = (0 : Int32) → tp_fail (μ 43 2) μ (fun m18 => tp_expectEnd m18 (fun m19 => Q m19)))
def pa_readFrom_L9 (Q : sl_M → Prop) : Nat → Int32 → Int32 → sl_M → Prop
  | 0, _, _, _ => False
  | n + 1, x2, x3, μ => (x3 < (20 : Int32) → (x2 = (0 : Int32) → pa_readFrom_B99 Q x2 μ) ∧ (¬ x2 = (0 : Int32) → tp_readNumber (3 : Int32) μ (fun r2 m1 => vp_in x3 20 ∧ ∀ m3, m3 = sl_up m1 51 x3.toNatClampNeg r2 → tp_expect (45 : Int32) m3 (fun m4 => vp_in x3 20 ∧ tp_readNotLess (m4 51 x3.toNatClampNeg) m4 (fun r6 m5 => vp_in x3 20 ∧ ∀ m7, m7 = sl_up m5 52 x3.toNatClampNeg r6 → tp_skip (58 : Int32) m7 (fun r9 m8 => (r9 = (0 : Int32) → vp_in x3 20 ∧ ∀ m10, m10 = sl_up m8 53 x3.toNatClampNeg (1 : Int32) → pa_readFrom_B76 Q (pa_readFrom_L9 Q n) x3 m10) ∧ (¬ r9 = (0 : Int32) → tp_readSigned (2 : Int32) m8 (fun r12 m11 => vp_in x3 20 ∧ ∀ m13, m13 = sl_up m11 53 x3.toNatClampNeg r12 → pa_readFrom_B76 Q (pa_readFrom_L9 Q n) x3 m13)))))))) ∧ (¬ x3 < (20 : Int32) → pa_readFrom_B99 Q x2 μ)
def pa_readFrom (μ : sl_M) (Q : sl_M → Prop) : Prop := ∀ m20, m20 = sl_up μ 50 3 (0 : Int32) → ∃ n21, pa_readFrom_L9 Q n21 (1 : Int32) (0 : Int32) m20
def pa_readFrom_pt : sl_PT := fun As μ Q => match As with
  | [.inr (.inr (some (c0, a0))), .inr (.inr (some (c1, a1)))] => if c0 = 7 then (if c1 = 10 then (if a0 = 50 then (if a1 = 43 then (pa_readFrom μ (fun μ' => Q none μ')) else False) else False) else False) else False
  | _ => False
def pa_readFrom_cd : List sl_Ent := [(0, .aload_n 0, 1, 0, [0], [], false), (1, .iconst 0, 1, 0, [], [], false), (2, .putfield 21, 3, 0, [7, 3, 0], [], false), (5, .iconst 1, 1, 1, [], [], false), (6, .istore_n 2, 1, 0, [2], [], false), (7, .iconst 0, 1, 0, [], [], false), (8, .istore_n 3, 1, 0, [3], [], false), (9, .iload_n 3, 1, 0, [3], [], true), (10, .bipush 20, 2, 20, [], [], false), (12, .if_icmp .ge 87, 3, 0, [99], [], false), (15, .iload_n 2, 1, 0, [2], [], false), (16, .ifCond .eq 83, 3, 0, [99], [], false), (19, .aload_n 0, 1, 0, [0], [], false), (20, .getfield 9, 3, 0, [7, 0, 2, 20, 1], [], false), (23, .iload_n 3, 1, 0, [3], [], false), (24, .aload_n 1, 1, 0, [1], [], false), (25, .iconst 3, 1, 3, [], [], false), (26, .invokevirtual 25, 3, 0, [0], [], false), (29, .iastore, 1, 0, [], [], false), (30, .aload_n 1, 1, 0, [1], [], false), (31, .bipush 45, 2, 45, [], [], false), (33, .invokevirtual 31, 3, 0, [1], [], false), (36, .aload_n 0, 1, 0, [0], [], false), (37, .getfield 15, 3, 0, [7, 1, 2, 20, 2], [], false), (40, .iload_n 3, 1, 0, [3], [], false), (41, .aload_n 1, 1, 0, [1], [], false), (42, .aload_n 0, 1, 0, [0], [], false), (43, .getfield 9, 3, 0, [7, 0, 2, 20, 1], [], false), (46, .iload_n 3, 1, 0, [3], [], false), (47, .iaload, 1, 0, [], [], false), (48, .invokevirtual 35, 3, 0, [2], [], false), (51, .iastore, 1, 0, [], [], false), (52, .aload_n 0, 1, 0, [0], [], false), (53, .getfield 18, 3, 0, [7, 2, 2, 20, 3], [], false), (56, .iload_n 3, 1, 0, [3], [], false), (57, .aload_n 1, 1, 0, [1], [], false), (58, .bipush 58, 2, 58, [], [], false), (60, .invokevirtual 38, 3, 0, [3], [], false), (63, .ifCond .eq 11, 3, 0, [74], [], false), (66, .aload_n 1, 1, 0, [1], [], false), (67, .iconst 2, 1, 2, [], [], false), (68, .invokevirtual 42, 3, 0, [4], [], false), (71, .goto 4, 3, 0, [75], [], false), (74, .iconst 1, 1, 1, [], [], false), (75, .iastore, 1, 0, [], [], false), (76, .aload_n 0, 1, 0, [0], [], true), (77, .dup, 1, 0, [], [], false), (78, .getfield 21, 3, 0, [7, 3, 0, 0, 0], [], false), (81, .iconst 1, 1, 1, [], [], false), (82, .iadd, 1, 0, [], [], false), (83, .putfield 21, 3, 0, [7, 3, 0], [], false), (86, .aload_n 1, 1, 0, [1], [], false), (87, .bipush 59, 2, 59, [], [], false), (89, .invokevirtual 38, 3, 0, [3], [], false), (92, .istore_n 2, 1, 0, [2], [], false), (93, .iinc 3 1, 3, 1, [], [], false), (96, .goto (-87), 3, 0, [9], [], false), (99, .iload_n 2, 1, 0, [2], [], true), (100, .ifCond .eq 11, 3, 0, [111], [], false), (103, .aload_n 1, 1, 0, [1], [], false), (104, .aload_n 1, 1, 0, [1], [], false), (105, .getfield 45, 3, 0, [10, 2, 0, 0, 0], [], false), (108, .invokevirtual 48, 3, 0, [5], [], false), (111, .aload_n 1, 1, 0, [1], [], false), (112, .invokevirtual 51, 3, 0, [6], [], false), (115, .return_, 1, 0, [], [], false)]
def pa_readFrom_y : MethodName := ⟨"SpanLayers$Parts", "readFrom", "(LSpanLayers$Tape;)V"⟩
theorem pa_readFrom_tb : sl_tbOK sl_R7 prog_9_method_2_code 4 none lk_pa [(25, 0), (31, 0), (35, 0), (38, 0), (42, 0), (48, 0), (51, 0)] pa_readFrom_cd = true := by decide +kernel
theorem cs_pa_25 (g : sl_G) {hh : Nat} (h : 3 ≤ hh) : sl_CallS g sl_R7 25 0 10 hh 2 tp_readNumber_pt := sl_callV (y := tp_readNumber_y) (T := sl_F10) (N := 4) (tp_readNumber_snd g) h (by decide) (sl_in1 913 (by decide +kernel) rfl) tp_readNumber_w2 tp_readNumber_w3 tp_readNumber_w4 tp_readNumber_w5 tp_readNumber_w6 rfl (by decide)
theorem cs_pa_31 (g : sl_G) {hh : Nat} (h : 4 ≤ hh) : sl_CallS g sl_R7 31 0 10 hh 2 tp_expect_pt := sl_callV (y := tp_expect_y) (T := sl_F10) (N := 4) (tp_expect_snd g) h (by decide) (sl_in1 914 (by decide +kernel) rfl) tp_expect_w2 tp_expect_w3 tp_expect_w4 tp_expect_w5 tp_expect_w6 rfl (by decide)
theorem tp_readNotLess_w2 : Cond.instanceMethod tp_readNotLess_y ∈ sl_T0 := sl_in1 879 (by decide +kernel) rfl
theorem tp_readNotLess_w3 : Cond.selects tp_readNotLess_y.cls tp_readNotLess_y tp_readNotLess_y ∈ sl_T0 := sl_in1 880 (by decide +kernel) rfl
theorem tp_readNotLess_w4 : Cond.initialized tp_readNotLess_y.cls ∈ sl_T0 := sl_in1 91 (by decide +kernel) rfl
theorem tp_readNotLess_w5 : Cond.code tp_readNotLess_y prog_12_method_11_code 4 (some .int) ∈ sl_T0 := sl_in1 881 (by decide +kernel) rfl
theorem tp_readNotLess_w6 : tp_readNotLess_y.cls ≠ "java/lang/invoke/MethodHandle" ∧ tp_readNotLess_y.cls ≠ "java/lang/invoke/VarHandle" ∧ (parseMethodDescriptor tp_readNotLess_y.desc).map (fun d => d.parameters.length) = some 1 := by decide +kernel
theorem cs_pa_35 (g : sl_G) {hh : Nat} (h : 4 ≤ hh) : sl_CallS g sl_R7 35 0 10 hh 2 tp_readNotLess_pt := sl_callV (y := tp_readNotLess_y) (T := sl_F10) (N := 4) (tp_readNotLess_snd g) h (by decide) (sl_in1 915 (by decide +kernel) rfl) tp_readNotLess_w2 tp_readNotLess_w3 tp_readNotLess_w4 tp_readNotLess_w5 tp_readNotLess_w6 rfl (by decide)
theorem cs_pa_38 (g : sl_G) {hh : Nat} (h : 3 ≤ hh) : sl_CallS g sl_R7 38 0 10 hh 2 tp_skip_pt := sl_callV (y := tp_skip_y) (T := sl_F10) (N := 4) (tp_skip_snd g) h (by decide) (sl_in1 916 (by decide +kernel) rfl) tp_skip_w2 tp_skip_w3 tp_skip_w4 tp_skip_w5 tp_skip_w6 rfl (by decide)
theorem tp_readSigned_w2 : Cond.instanceMethod tp_readSigned_y ∈ sl_T0 := sl_in1 833 (by decide +kernel) rfl
theorem tp_readSigned_w3 : Cond.selects tp_readSigned_y.cls tp_readSigned_y tp_readSigned_y ∈ sl_T0 := sl_in1 834 (by decide +kernel) rfl
theorem tp_readSigned_w4 : Cond.initialized tp_readSigned_y.cls ∈ sl_T0 := sl_in1 91 (by decide +kernel) rfl
theorem tp_readSigned_w5 : Cond.code tp_readSigned_y prog_12_method_10_code 4 (some .int) ∈ sl_T0 := sl_in1 835 (by decide +kernel) rfl
theorem tp_readSigned_w6 : tp_readSigned_y.cls ≠ "java/lang/invoke/MethodHandle" ∧ tp_readSigned_y.cls ≠ "java/lang/invoke/VarHandle" ∧ (parseMethodDescriptor tp_readSigned_y.desc).map (fun d => d.parameters.length) = some 1 := by decide +kernel
theorem cs_pa_42 (g : sl_G) {hh : Nat} (h : 4 ≤ hh) : sl_CallS g sl_R7 42 0 10 hh 2 tp_readSigned_pt := sl_callV (y := tp_readSigned_y) (T := sl_F10) (N := 4) (tp_readSigned_snd g) h (by decide) (sl_in1 917 (by decide +kernel) rfl) tp_readSigned_w2 tp_readSigned_w3 tp_readSigned_w4 tp_readSigned_w5 tp_readSigned_w6 rfl (by decide)
theorem cs_pa_48 (g : sl_G) {hh : Nat} (h : 1 ≤ hh) : sl_CallS g sl_R7 48 0 10 hh 2 tp_fail_pt := sl_callV (y := tp_fail_y) (T := sl_F10) (N := 4) (tp_fail_snd g) h (by decide) (sl_in1 918 (by decide +kernel) rfl) tp_fail_w2 tp_fail_w3 tp_fail_w4 tp_fail_w5 tp_fail_w6 rfl (by decide)
theorem tp_expectEnd_w2 : Cond.instanceMethod tp_expectEnd_y ∈ sl_T0 := sl_in1 848 (by decide +kernel) rfl
theorem tp_expectEnd_w3 : Cond.selects tp_expectEnd_y.cls tp_expectEnd_y tp_expectEnd_y ∈ sl_T0 := sl_in1 849 (by decide +kernel) rfl
theorem tp_expectEnd_w4 : Cond.initialized tp_expectEnd_y.cls ∈ sl_T0 := sl_in1 91 (by decide +kernel) rfl
theorem tp_expectEnd_w5 : Cond.code tp_expectEnd_y prog_12_method_8_code 1 none ∈ sl_T0 := sl_in1 850 (by decide +kernel) rfl
theorem tp_expectEnd_w6 : tp_expectEnd_y.cls ≠ "java/lang/invoke/MethodHandle" ∧ tp_expectEnd_y.cls ≠ "java/lang/invoke/VarHandle" ∧ (parseMethodDescriptor tp_expectEnd_y.desc).map (fun d => d.parameters.length) = some 0 := by decide +kernel
theorem cs_pa_51 (g : sl_G) {hh : Nat} (h : 2 ≤ hh) : sl_CallS g sl_R7 51 0 10 hh 1 tp_expectEnd_pt := sl_callV (y := tp_expectEnd_y) (T := sl_F10) (N := 4) (tp_expectEnd_snd g) h (by decide) (sl_in1 919 (by decide +kernel) rfl) tp_expectEnd_w2 tp_expectEnd_w3 tp_expectEnd_w4 tp_expectEnd_w5 tp_expectEnd_w6 rfl (by decide)
def pa_readFrom_ct : List sl_Ct := [(2, 0, 10, tp_readNumber_pt), (2, 0, 10, tp_expect_pt), (2, 0, 10, tp_readNotLess_pt), (2, 0, 10, tp_skip_pt), (2, 0, 10, tp_readSigned_pt), (2, 0, 10, tp_fail_pt), (1, 0, 10, tp_expectEnd_pt)]
theorem pa_readFrom_hc (g : sl_G) : sl_HC g sl_R7 4 pa_readFrom_ct [(25, 0), (31, 0), (35, 0), (38, 0), (42, 0), (48, 0), (51, 0)] := sl_HC_cons (cs_pa_25 g (by decide)) (sl_HC_cons (cs_pa_31 g (by decide)) (sl_HC_cons (cs_pa_35 g (by decide)) (sl_HC_cons (cs_pa_38 g (by decide)) (sl_HC_cons (cs_pa_42 g (by decide)) (sl_HC_cons (cs_pa_48 g (by decide)) (sl_HC_cons (cs_pa_51 g (by decide)) (sl_HC_nil g sl_R7 4)))))))
set_option maxRecDepth 20000 in
set_option maxHeartbeats 2000000 in
theorem pa_readFrom_snd (g : sl_G) : sl_Snd g pa_readFrom_y prog_9_method_2_code 4 none 4 (pa_readFrom_pt) := by
  intro As μ Q hw h
  unfold pa_readFrom_pt at h
  split at h
  next c0 a0 c1 a1 =>
    split at h
    next e_ =>
      subst e_
      split at h
      next e_ =>
        subst e_
        split at h
        next e_ =>
          subst e_
          split at h
          next e_ =>
            subst e_
            refine sl_mk2 g [true, true, false, false] (cst := [some (.inr (.inr (some (7, 50)))), some (.inr (.inr (some (10, 43))))]) (lv0 := [none, none, none, none]) (by decide) rfl hw rfl rfl rfl lk_pa_ok (pa_readFrom_hc g) pa_readFrom_tb rfl ?_
            intro X M
            have v99 := sl_ext M sl_VV0 99 (fun lv st μ => match lv, st with | [_, _, some (.inl x2), _], [] => pa_readFrom_B99 (fun μ' => Q none μ') x2 μ | _, _ => False) (by
                intro lv st μ h
                split at h
                · exact h
                · exact h.elim)
            have v9 := sl_extL M v99 9 (fun n lv st μ => match lv, st with | [_, _, some (.inl x2), some (.inl x3)], [] => pa_readFrom_L9 (fun μ' => Q none μ') n x2 x3 μ | _, _ => False) (by
                intro lv st μ h
                split at h
                · exact h
                · exact h) (by
                intro n9 w9
                have v76 := sl_ext M w9 76 (fun lv st μ => match lv, st with | [_, _, _, some (.inl x3)], [] => pa_readFrom_B76 (fun μ' => Q none μ') (pa_readFrom_L9 (fun μ' => Q none μ') n9) x3 μ | _, _ => False) (by
                    intro lv st μ h
                    split at h
                    · exact h
                    · exact h.elim)
                refine ⟨_, v76, ?_⟩
                intro lv st μ h
                split at h
                · exact h
                · exact h.elim)
            exact ⟨_, v9, h⟩
          next => exact h.elim
        next => exact h.elim
      next => exact h.elim
    next => exact h.elim
  next => exact h.elim
def pa_bringInto_L4 (Q : Int32 → sl_M → Prop) : Nat → Int32 → Int32 → sl_M → Prop
  | 0, _, _, _ => False
  | n + 1, x2, x3, μ => (x3 < (μ 50 3) → ix_leastOut μ (fun r2 m1 => (r2 < (0 : Int32) → (pa_bringInto_L4 Q n) x2 (x3 + (1 : Int32)) m1) ∧ (¬ r2 < (0 : Int32) → vp_in x3 20 ∧ vp_in x3 20 ∧ vp_in x3 20 ∧ ix_bringIn r2 (m1 51 x3.toNatClampNeg) (m1 52 x3.toNatClampNeg) (m1 53 x3.toNatClampNeg) m1 (fun m3 => (pa_bringInto_L4 Q n) (x2 + (1 : Int32)) (x3 + (1 : Int32)) m3)))) ∧ (¬ x3 < (μ 50 3) → ix_relayer μ (fun m4 => Q x2 m4))
def pa_bringInto (μ : sl_M) (Q : Int32 → sl_M → Prop) : Prop := ∃ n5, pa_bringInto_L4 Q n5 (0 : Int32) (0 : Int32) μ
def pa_bringInto_pt : sl_PT := fun As μ Q => match As with
  | [.inr (.inr (some (c0, a0))), .inr (.inr (some (c1, a1)))] => if c0 = 7 then (if c1 = 5 then (if a0 = 50 then (if a1 = 1 then (pa_bringInto μ (fun r μ' => Q (some (.inl r)) μ')) else False) else False) else False) else False
  | _ => False
def pa_bringInto_cd : List sl_Ent := [(0, .iconst 0, 1, 0, [], [], false), (1, .istore_n 2, 1, 0, [2], [], false), (2, .iconst 0, 1, 0, [], [], false), (3, .istore_n 3, 1, 0, [3], [], false), (4, .iload_n 3, 1, 0, [3], [], true), (5, .aload_n 0, 1, 0, [0], [], false), (6, .getfield 21, 3, 0, [7, 3, 0, 0, 0], [], false), (9, .if_icmp .ge 47, 3, 0, [56], [], false), (12, .aload_n 1, 1, 0, [1], [], false), (13, .invokevirtual 54, 3, 0, [0], [], false), (16, .istore 4, 2, 0, [4], [], false), (18, .iload 4, 2, 0, [4], [], false), (20, .ifCond .lt 30, 3, 0, [50], [], false), (23, .aload_n 1, 1, 0, [1], [], false), (24, .iload 4, 2, 0, [4], [], false), (26, .aload_n 0, 1, 0, [0], [], false), (27, .getfield 9, 3, 0, [7, 0, 2, 20, 1], [], false), (30, .iload_n 3, 1, 0, [3], [], false), (31, .iaload, 1, 0, [], [], false), (32, .aload_n 0, 1, 0, [0], [], false), (33, .getfield 15, 3, 0, [7, 1, 2, 20, 2], [], false), (36, .iload_n 3, 1, 0, [3], [], false), (37, .iaload, 1, 0, [], [], false), (38, .aload_n 0, 1, 0, [0], [], false), (39, .getfield 18, 3, 0, [7, 2, 2, 20, 3], [], false), (42, .iload_n 3, 1, 0, [3], [], false), (43, .iaload, 1, 0, [], [], false), (44, .invokevirtual 60, 3, 0, [1], [], false), (47, .iinc 2 1, 3, 1, [], [], false), (50, .iinc 3 1, 3, 1, [], [], false), (53, .goto (-49), 3, 0, [4], [], false), (56, .aload_n 1, 1, 0, [1], [], false), (57, .invokevirtual 64, 3, 0, [2], [], false), (60, .iload_n 2, 1, 0, [2], [], false), (61, .ireturn, 1, 0, [], [], false)]
def pa_bringInto_y : MethodName := ⟨"SpanLayers$Parts", "bringInto", "(LSpanLayers$Index;)I"⟩
theorem pa_bringInto_tb : sl_tbOK sl_R7 prog_9_method_3_code 5 (some .int) lk_pa [(54, 0), (60, 0), (64, 0)] pa_bringInto_cd = true := by decide +kernel
theorem ix_leastOut_w2 : Cond.instanceMethod ix_leastOut_y ∈ sl_T0 := sl_in1 410 (by decide +kernel) rfl
theorem ix_leastOut_w3 : Cond.selects ix_leastOut_y.cls ix_leastOut_y ix_leastOut_y ∈ sl_T0 := sl_in1 411 (by decide +kernel) rfl
theorem ix_leastOut_w4 : Cond.initialized ix_leastOut_y.cls ∈ sl_T0 := sl_in1 87 (by decide +kernel) rfl
theorem ix_leastOut_w5 : Cond.code ix_leastOut_y prog_7_method_4_code 2 (some .int) ∈ sl_T0 := sl_in1 412 (by decide +kernel) rfl
theorem ix_leastOut_w6 : ix_leastOut_y.cls ≠ "java/lang/invoke/MethodHandle" ∧ ix_leastOut_y.cls ≠ "java/lang/invoke/VarHandle" ∧ (parseMethodDescriptor ix_leastOut_y.desc).map (fun d => d.parameters.length) = some 0 := by decide +kernel
theorem cs_pa_54 (g : sl_G) {hh : Nat} (h : 1 ≤ hh) : sl_CallS g sl_R7 54 0 5 hh 1 ix_leastOut_pt := sl_callV (y := ix_leastOut_y) (T := sl_F5) (N := 2) (ix_leastOut_snd g) h (by decide) (sl_in1 924 (by decide +kernel) rfl) ix_leastOut_w2 ix_leastOut_w3 ix_leastOut_w4 ix_leastOut_w5 ix_leastOut_w6 rfl (by decide)
theorem ix_bringIn_w2 : Cond.instanceMethod ix_bringIn_y ∈ sl_T0 := sl_in1 414 (by decide +kernel) rfl
theorem ix_bringIn_w3 : Cond.selects ix_bringIn_y.cls ix_bringIn_y ix_bringIn_y ∈ sl_T0 := sl_in1 415 (by decide +kernel) rfl
theorem ix_bringIn_w4 : Cond.initialized ix_bringIn_y.cls ∈ sl_T0 := sl_in1 87 (by decide +kernel) rfl
theorem ix_bringIn_w5 : Cond.code ix_bringIn_y prog_7_method_5_code 5 none ∈ sl_T0 := sl_in1 416 (by decide +kernel) rfl
theorem ix_bringIn_w6 : ix_bringIn_y.cls ≠ "java/lang/invoke/MethodHandle" ∧ ix_bringIn_y.cls ≠ "java/lang/invoke/VarHandle" ∧ (parseMethodDescriptor ix_bringIn_y.desc).map (fun d => d.parameters.length) = some 4 := by decide +kernel
theorem cs_pa_60 (g : sl_G) {hh : Nat} (h : 2 ≤ hh) : sl_CallS g sl_R7 60 0 5 hh 5 ix_bringIn_pt := sl_callV (y := ix_bringIn_y) (T := sl_F5) (N := 2) (ix_bringIn_snd g) h (by decide) (sl_in1 925 (by decide +kernel) rfl) ix_bringIn_w2 ix_bringIn_w3 ix_bringIn_w4 ix_bringIn_w5 ix_bringIn_w6 rfl (by decide)
theorem cs_pa_64 (g : sl_G) {hh : Nat} (h : 5 ≤ hh) : sl_CallS g sl_R7 64 0 5 hh 1 ix_relayer_pt := sl_callV (y := ix_relayer_y) (T := sl_F5) (N := 2) (ix_relayer_snd g) h (by decide) (sl_in1 926 (by decide +kernel) rfl) ix_relayer_w2 ix_relayer_w3 ix_relayer_w4 ix_relayer_w5 ix_relayer_w6 rfl (by decide)
def pa_bringInto_ct : List sl_Ct := [(1, 0, 5, ix_leastOut_pt), (5, 0, 5, ix_bringIn_pt), (1, 0, 5, ix_relayer_pt)]
theorem pa_bringInto_hc (g : sl_G) : sl_HC g sl_R7 5 pa_bringInto_ct [(54, 0), (60, 0), (64, 0)] := sl_HC_cons (cs_pa_54 g (by decide)) (sl_HC_cons (cs_pa_60 g (by decide)) (sl_HC_cons (cs_pa_64 g (by decide)) (sl_HC_nil g sl_R7 5)))
set_option maxRecDepth 20000 in
set_option maxHeartbeats 2000000 in
theorem pa_bringInto_snd (g : sl_G) : sl_Snd g pa_bringInto_y prog_9_method_3_code 5 (some .int) 5 (pa_bringInto_pt) := by
  intro As μ Q hw h
  unfold pa_bringInto_pt at h
  split at h
  next c0 a0 c1 a1 =>
    split at h
    next e_ =>
      subst e_
      split at h
      next e_ =>
        subst e_
        split at h
        next e_ =>
          subst e_
          split at h
          next e_ =>
            subst e_
            refine sl_mk2 g [true, true, false, false, false] (cst := [some (.inr (.inr (some (7, 50)))), some (.inr (.inr (some (5, 1))))]) (lv0 := [none, none, none, none, none]) (by decide) rfl hw rfl rfl rfl lk_pa_ok (pa_bringInto_hc g) pa_bringInto_tb rfl ?_
            intro X M
            have v4 := sl_extL M sl_VV0 4 (fun n lv st μ => match lv, st with | [_, _, some (.inl x2), some (.inl x3), _], [] => pa_bringInto_L4 (fun r μ' => Q (some (.inl r)) μ') n x2 x3 μ | _, _ => False) (by
                intro lv st μ h
                split at h
                · exact h
                · exact h) (by
                intro n4 w4
                refine ⟨_, w4, ?_⟩
                intro lv st μ h
                split at h
                · exact h
                · exact h.elim)
            exact ⟨_, v4, h⟩
          next => exact h.elim
        next => exact h.elim
      next => exact h.elim
    next => exact h.elim
  next => exact h.elim
def pp_write (a1 : Int32) (μ : sl_M) (Q : sl_M → Prop) : Prop := ((μ 54 1) < (360 : Int32) → vp_in (μ 54 1) 360 ∧ ∀ m1, m1 = sl_up μ 55 (μ 54 1).toNatClampNeg a1 → ∀ m2, m2 = sl_up m1 54 1 ((m1 54 1) + (1 : Int32)) → Q m2) ∧ (¬ (μ 54 1) < (360 : Int32) → Q μ)
def pp_write_pt : sl_PT := fun As μ Q => match As with
  | [.inr (.inr (some (c0, a0))), .inl a1] => if c0 = 6 then (if a0 = 54 then (pp_write a1 μ (fun μ' => Q none μ')) else False) else False
  | _ => False
def pp_write_cd : List sl_Ent := [(0, .aload_n 0, 1, 0, [0], [], false), (1, .getfield 21, 3, 0, [6, 1, 0, 0, 0], [], false), (4, .sipush 360, 3, 360, [], [], false), (7, .if_icmp .ge 23, 3, 0, [30], [], false), (10, .aload_n 0, 1, 0, [0], [], false), (11, .getfield 9, 3, 0, [6, 0, 2, 20, 1], [], false), (14, .aload_n 0, 1, 0, [0], [], false), (15, .getfield 21, 3, 0, [6, 1, 0, 0, 0], [], false), (18, .iload_n 1, 1, 0, [1], [], false), (19, .iastore, 1, 0, [], [], false), (20, .aload_n 0, 1, 0, [0], [], false), (21, .dup, 1, 0, [], [], false), (22, .getfield 21, 3, 0, [6, 1, 0, 0, 0], [], false), (25, .iconst 1, 1, 1, [], [], false), (26, .iadd, 1, 0, [], [], false), (27, .putfield 21, 3, 0, [6, 1, 0], [], false), (30, .return_, 1, 0, [], [], false)]
def pp_write_y : MethodName := ⟨"SpanLayers$Paper", "write", "(I)V"⟩
theorem pp_write_tb : sl_tbOK sl_R6 prog_8_method_5_code 2 none lk_pp [] pp_write_cd = true := by decide +kernel
def pp_write_ct : List sl_Ct := []
theorem pp_write_hc (g : sl_G) : sl_HC g sl_R6 0 pp_write_ct [] := sl_HC_nil g sl_R6 0
set_option maxRecDepth 20000 in
set_option maxHeartbeats 2000000 in
theorem pp_write_snd (g : sl_G) : sl_Snd g pp_write_y prog_8_method_5_code 2 none 0 (pp_write_pt) := by
  intro As μ Q hw h
  unfold pp_write_pt at h
  split at h
  next c0 a0 a1 =>
    split at h
    next e_ =>
      subst e_
      split at h
      next e_ =>
        subst e_
        refine sl_mk2 g [true, true] (cst := [some (.inr (.inr (some (6, 54)))), some (.inl a1)]) (lv0 := [none, none]) (by decide) rfl hw rfl rfl rfl lk_pp_ok (pp_write_hc g) pp_write_tb rfl ?_
        intro X M
        exact ⟨_, sl_VV0, h⟩
      next => exact h.elim
    next => exact h.elim
  next => exact h.elim
def pp_writeNumber_B35 (a1 : Int32) (Q : sl_M → Prop) : Int32 → sl_M → Prop
  | x2, μ => (x2 < (10 : Int32) → ¬ (10 : Int32) = 0 ∧ pp_write ((48 : Int32) + (x2 - x2 / (10 : Int32) * (10 : Int32))) μ (fun m2 => Q m2)) ∧ (¬ x2 < (10 : Int32) → ¬ (10 : Int32) = 0 ∧ ¬ (10 : Int32) = 0 ∧ pp_write ((48 : Int32) + ((x2 / (10 : Int32)) - (x2 / (10 : Int32)) / (10 : Int32) * (10 : Int32))) μ (fun m3 => ¬ (10 : Int32) = 0 ∧ pp_write ((48 : Int32) + (x2 - x2 / (10 : Int32) * (10 : Int32))) m3 (fun m4 => Q m4)))
def pp_writeNumber_B15 (a1 : Int32) (Q : sl_M → Prop) : Int32 → sl_M → Prop
  | x2, μ => (x2 < (100 : Int32) → pp_writeNumber_B35 a1 Q x2 μ) ∧ (¬ x2 < (100 : Int32) → ¬ (100 : Int32) = 0 ∧ ¬ (10 : Int32) = 0 ∧ pp_write ((48 : Int32) + ((x2 / (100 : Int32)) - (x2 / (100 : Int32)) / (10 : Int32) * (10 : Int32))) μ (fun m1 => pp_writeNumber_B35 a1 Q x2 m1))
def pp_writeNumber (a1 : Int32) (μ : sl_M) (Q : sl_M → Prop) : Prop := ma_abs a1 μ (fun r6 m5 => (a1 < (0 : Int32) → pp_write (45 : Int32) m5 (fun m7 => pp_writeNumber_B15 a1 Q r6 m7)) ∧ (¬ a1 < (0 : Int32) → pp_writeNumber_B15 a1 Q r6 m5))
def pp_writeNumber_pt : sl_PT := fun As μ Q => match As with
  | [.inr (.inr (some (c0, a0))), .inl a1] => if c0 = 6 then (if a0 = 54 then (pp_writeNumber a1 μ (fun μ' => Q none μ')) else False) else False
  | _ => False
def pp_writeNumber_cd : List sl_Ent := [(0, .iload_n 1, 1, 0, [1], [], false), (1, .invokestatic 51, 3, 0, [0], [], false), (4, .istore_n 2, 1, 0, [2], [], false), (5, .iload_n 1, 1, 0, [1], [], false), (6, .ifCond .ge 9, 3, 0, [15], [], false), (9, .aload_n 0, 1, 0, [0], [], false), (10, .bipush 45, 2, 45, [], [], false), (12, .invokevirtual 25, 3, 0, [1], [], false), (15, .iload_n 2, 1, 0, [2], [], true), (16, .bipush 100, 2, 100, [], [], false), (18, .if_icmp .lt 17, 3, 0, [35], [], false), (21, .aload_n 0, 1, 0, [0], [], false), (22, .bipush 48, 2, 48, [], [], false), (24, .iload_n 2, 1, 0, [2], [], false), (25, .bipush 100, 2, 100, [], [], false), (27, .idiv, 1, 0, [], [], false), (28, .bipush 10, 2, 10, [], [], false), (30, .irem, 1, 0, [], [], false), (31, .iadd, 1, 0, [], [], false), (32, .invokevirtual 25, 3, 0, [1], [], false), (35, .iload_n 2, 1, 0, [2], [], true), (36, .bipush 10, 2, 10, [], [], false), (38, .if_icmp .lt 17, 3, 0, [55], [], false), (41, .aload_n 0, 1, 0, [0], [], false), (42, .bipush 48, 2, 48, [], [], false), (44, .iload_n 2, 1, 0, [2], [], false), (45, .bipush 10, 2, 10, [], [], false), (47, .idiv, 1, 0, [], [], false), (48, .bipush 10, 2, 10, [], [], false), (50, .irem, 1, 0, [], [], false), (51, .iadd, 1, 0, [], [], false), (52, .invokevirtual 25, 3, 0, [1], [], false), (55, .aload_n 0, 1, 0, [0], [], false), (56, .bipush 48, 2, 48, [], [], false), (58, .iload_n 2, 1, 0, [2], [], false), (59, .bipush 10, 2, 10, [], [], false), (61, .irem, 1, 0, [], [], false), (62, .iadd, 1, 0, [], [], false), (63, .invokevirtual 25, 3, 0, [1], [], false), (66, .return_, 1, 0, [], [], false)]
def pp_writeNumber_y : MethodName := ⟨"SpanLayers$Paper", "writeNumber", "(I)V"⟩
theorem pp_writeNumber_tb : sl_tbOK sl_R6 prog_8_method_4_code 3 none lk_pp [(51, 1), (25, 0)] pp_writeNumber_cd = true := by decide +kernel
theorem cs_pp_51 (g : sl_G) {hh : Nat} (h : 1 ≤ hh) : sl_CallS g sl_R6 51 1 0 hh 1 ma_abs_pt := sl_callAbs h (sl_in1 948 (by decide +kernel) rfl) (sl_in1 949 (by decide +kernel) rfl) (sl_in1 99 (by decide +kernel) rfl) (sl_in1 950 (by decide +kernel) rfl)
theorem pp_write_w2 : Cond.instanceMethod pp_write_y ∈ sl_T0 := sl_in1 938 (by decide +kernel) rfl
theorem pp_write_w3 : Cond.selects pp_write_y.cls pp_write_y pp_write_y ∈ sl_T0 := sl_in1 18 (by decide +kernel) rfl
theorem pp_write_w4 : Cond.initialized pp_write_y.cls ∈ sl_T0 := sl_in1 95 (by decide +kernel) rfl
theorem pp_write_w5 : Cond.code pp_write_y prog_8_method_5_code 2 none ∈ sl_T0 := sl_in1 939 (by decide +kernel) rfl
theorem pp_write_w6 : pp_write_y.cls ≠ "java/lang/invoke/MethodHandle" ∧ pp_write_y.cls ≠ "java/lang/invoke/VarHandle" ∧ (parseMethodDescriptor pp_write_y.desc).map (fun d => d.parameters.length) = some 1 := by decide +kernel
theorem cs_pp_25 (g : sl_G) {hh : Nat} (h : 1 ≤ hh) : sl_CallS g sl_R6 25 0 6 hh 2 pp_write_pt := sl_callV (y := pp_write_y) (T := sl_F6) (N := 2) (pp_write_snd g) h (by decide) (sl_in1 936 (by decide +kernel) rfl) pp_write_w2 pp_write_w3 pp_write_w4 pp_write_w5 pp_write_w6 rfl (by decide)
def pp_writeNumber_ct : List sl_Ct := [(1, 1, 0, ma_abs_pt), (2, 0, 6, pp_write_pt)]
theorem pp_writeNumber_hc (g : sl_G) : sl_HC g sl_R6 1 pp_writeNumber_ct [(51, 1), (25, 0)] := sl_HC_cons (cs_pp_51 g (by decide)) (sl_HC_cons (cs_pp_25 g (by decide)) (sl_HC_nil g sl_R6 1))
set_option maxRecDepth 20000 in
set_option maxHeartbeats 2000000 in
theorem pp_writeNumber_snd (g : sl_G) : sl_Snd g pp_writeNumber_y prog_8_method_4_code 3 none 1 (pp_writeNumber_pt) := by
  intro As μ Q hw h
  unfold pp_writeNumber_pt at h
  split at h
  next c0 a0 a1 =>
    split at h
    next e_ =>
      subst e_
      split at h
      next e_ =>
        subst e_
        refine sl_mk2 g [true, true, false] (cst := [some (.inr (.inr (some (6, 54)))), some (.inl a1)]) (lv0 := [none, none, none]) (by decide) rfl hw rfl rfl rfl lk_pp_ok (pp_writeNumber_hc g) pp_writeNumber_tb rfl ?_
        intro X M
        have v35 := sl_ext M sl_VV0 35 (fun lv st μ => match lv, st with | [_, _, some (.inl x2)], [] => pp_writeNumber_B35 a1 (fun μ' => Q none μ') x2 μ | _, _ => False) (by
            intro lv st μ h
            split at h
            · exact h
            · exact h.elim)
        have v15 := sl_ext M v35 15 (fun lv st μ => match lv, st with | [_, _, some (.inl x2)], [] => pp_writeNumber_B15 a1 (fun μ' => Q none μ') x2 μ | _, _ => False) (by
            intro lv st μ h
            split at h
            · exact h
            · exact h.elim)
        exact ⟨_, v15, h⟩
      next => exact h.elim
    next => exact h.elim
  next => exact h.elim
def pp_writePart (a1 : Nat) (μ : sl_M) (Q : sl_M → Prop) : Prop := pp_writeNumber (μ a1 2) μ (fun m1 => pp_write (45 : Int32) m1 (fun m2 => pp_writeNumber (m2 a1 3) m2 (fun m3 => ((m3 a1 4) = (1 : Int32) → Q m3) ∧ (¬ (m3 a1 4) = (1 : Int32) → pp_write (58 : Int32) m3 (fun m4 => pp_writeNumber (m4 a1 4) m4 (fun m5 => Q m5))))))
def pp_writePart_pt : sl_PT := fun As μ Q => match As with
  | [.inr (.inr (some (c0, a0))), .inr (.inr (some (c1, a1)))] => if c0 = 6 then (if c1 = 9 then (if a0 = 54 then (pp_writePart a1 μ (fun μ' => Q none μ')) else False) else False) else False
  | _ => False
def pp_writePart_cd : List sl_Ent := [(0, .aload_n 0, 1, 0, [0], [], false), (1, .aload_n 1, 1, 0, [1], [], false), (2, .getfield 37, 3, 0, [9, 2, 0, 0, 0], [], false), (5, .invokevirtual 42, 3, 0, [0], [], false), (8, .aload_n 0, 1, 0, [0], [], false), (9, .bipush 45, 2, 45, [], [], false), (11, .invokevirtual 25, 3, 0, [1], [], false), (14, .aload_n 0, 1, 0, [0], [], false), (15, .aload_n 1, 1, 0, [1], [], false), (16, .getfield 45, 3, 0, [9, 3, 0, 0, 0], [], false), (19, .invokevirtual 42, 3, 0, [0], [], false), (22, .aload_n 1, 1, 0, [1], [], false), (23, .getfield 48, 3, 0, [9, 4, 0, 0, 0], [], false), (26, .iconst 1, 1, 1, [], [], false), (27, .if_icmp .eq 17, 3, 0, [44], [], false), (30, .aload_n 0, 1, 0, [0], [], false), (31, .bipush 58, 2, 58, [], [], false), (33, .invokevirtual 25, 3, 0, [1], [], false), (36, .aload_n 0, 1, 0, [0], [], false), (37, .aload_n 1, 1, 0, [1], [], false), (38, .getfield 48, 3, 0, [9, 4, 0, 0, 0], [], false), (41, .invokevirtual 42, 3, 0, [0], [], false), (44, .return_, 1, 0, [], [], false)]
def pp_writePart_y : MethodName := ⟨"SpanLayers$Paper", "writePart", "(LSpanLayers$Span;)V"⟩
theorem pp_writePart_tb : sl_tbOK sl_R6 prog_8_method_3_code 2 none lk_pp [(42, 0), (25, 0)] pp_writePart_cd = true := by decide +kernel
theorem pp_writeNumber_w2 : Cond.instanceMethod pp_writeNumber_y ∈ sl_T0 := sl_in1 946 (by decide +kernel) rfl
theorem pp_writeNumber_w3 : Cond.selects pp_writeNumber_y.cls pp_writeNumber_y pp_writeNumber_y ∈ sl_T0 := sl_in1 20 (by decide +kernel) rfl
theorem pp_writeNumber_w4 : Cond.initialized pp_writeNumber_y.cls ∈ sl_T0 := sl_in1 95 (by decide +kernel) rfl
theorem pp_writeNumber_w5 : Cond.code pp_writeNumber_y prog_8_method_4_code 3 none ∈ sl_T0 := sl_in1 947 (by decide +kernel) rfl
theorem pp_writeNumber_w6 : pp_writeNumber_y.cls ≠ "java/lang/invoke/MethodHandle" ∧ pp_writeNumber_y.cls ≠ "java/lang/invoke/VarHandle" ∧ (parseMethodDescriptor pp_writeNumber_y.desc).map (fun d => d.parameters.length) = some 1 := by decide +kernel
theorem cs_pp_42 (g : sl_G) {hh : Nat} (h : 2 ≤ hh) : sl_CallS g sl_R6 42 0 6 hh 2 pp_writeNumber_pt := sl_callV (y := pp_writeNumber_y) (T := sl_F6) (N := 2) (pp_writeNumber_snd g) h (by decide) (sl_in1 944 (by decide +kernel) rfl) pp_writeNumber_w2 pp_writeNumber_w3 pp_writeNumber_w4 pp_writeNumber_w5 pp_writeNumber_w6 rfl (by decide)
def pp_writePart_ct : List sl_Ct := [(2, 0, 6, pp_writeNumber_pt), (2, 0, 6, pp_write_pt)]
theorem pp_writePart_hc (g : sl_G) : sl_HC g sl_R6 2 pp_writePart_ct [(42, 0), (25, 0)] := sl_HC_cons (cs_pp_42 g (by decide)) (sl_HC_cons (cs_pp_25 g (by decide)) (sl_HC_nil g sl_R6 2))
set_option maxRecDepth 20000 in
set_option maxHeartbeats 2000000 in
theorem pp_writePart_snd (g : sl_G) : sl_Snd g pp_writePart_y prog_8_method_3_code 2 none 2 (pp_writePart_pt) := by
  intro As μ Q hw h
  unfold pp_writePart_pt at h
  split at h
  next c0 a0 c1 a1 =>
    split at h
    next e_ =>
      subst e_
      split at h
      next e_ =>
        subst e_
        split at h
        next e_ =>
          subst e_
          refine sl_mk2 g [true, true] (cst := [some (.inr (.inr (some (6, 54)))), some (.inr (.inr (some (9, a1))))]) (lv0 := [none, none]) (by decide) rfl hw rfl rfl rfl lk_pp_ok (pp_writePart_hc g) pp_writePart_tb rfl ?_
          intro X M
          exact ⟨_, sl_VV0, h⟩
        next => exact h.elim
      next => exact h.elim
    next => exact h.elim
  next => exact h.elim
def pp_writeAll_L14 (a2 : Int32) (Q : sl_M → Prop) : Nat → Int32 → Int32 → sl_M → Prop
  | 0, _, _, _ => False
  | n + 1, x3, x4, μ => (x4 < x3 → (x4 ≤ (0 : Int32) → vp_in x4 30 ∧ sl_kd (μ 3 x4.toNatClampNeg).toNatClampNeg = 9 ∧ pp_writePart ((μ 3 x4.toNatClampNeg).toNatClampNeg) μ (fun m1 => (pp_writeAll_L14 a2 Q n) x3 (x4 + (1 : Int32)) m1)) ∧ (¬ x4 ≤ (0 : Int32) → pp_write (59 : Int32) μ (fun m2 => vp_in x4 30 ∧ sl_kd (m2 3 x4.toNatClampNeg).toNatClampNeg = 9 ∧ pp_writePart ((m2 3 x4.toNatClampNeg).toNatClampNeg) m2 (fun m3 => (pp_writeAll_L14 a2 Q n) x3 (x4 + (1 : Int32)) m3)))) ∧ (¬ x4 < x3 → Q μ)
def pp_writeAll (a2 : Int32) (μ : sl_M) (Q : sl_M → Prop) : Prop := ix_sortBy a2 μ (fun r5 m4 => ∀ m6, m6 = sl_up m4 54 1 (0 : Int32) → ∃ n7, pp_writeAll_L14 a2 Q n7 r5 (0 : Int32) m6)
def pp_writeAll_pt : sl_PT := fun As μ Q => match As with
  | [.inr (.inr (some (c0, a0))), .inr (.inr (some (c1, a1))), .inl a2] => if c0 = 6 then (if c1 = 5 then (if a0 = 54 then (if a1 = 1 then (pp_writeAll a2 μ (fun μ' => Q none μ')) else False) else False) else False) else False
  | _ => False
def pp_writeAll_cd : List sl_Ent := [(0, .aload_n 1, 1, 0, [1], [], false), (1, .iload_n 2, 1, 0, [2], [], false), (2, .invokevirtual 15, 3, 0, [0], [], false), (5, .istore_n 3, 1, 0, [3], [], false), (6, .aload_n 0, 1, 0, [0], [], false), (7, .iconst 0, 1, 0, [], [], false), (8, .putfield 21, 3, 0, [6, 1, 0], [], false), (11, .iconst 0, 1, 0, [], [], false), (12, .istore 4, 2, 0, [4], [], false), (14, .iload 4, 2, 0, [4], [], true), (16, .iload_n 3, 1, 0, [3], [], false), (17, .if_icmp .ge 31, 3, 0, [48], [], false), (20, .iload 4, 2, 0, [4], [], false), (22, .ifCond .le 9, 3, 0, [31], [], false), (25, .aload_n 0, 1, 0, [0], [], false), (26, .bipush 59, 2, 59, [], [], false), (28, .invokevirtual 25, 3, 0, [1], [], false), (31, .aload_n 0, 1, 0, [0], [], false), (32, .aload_n 1, 1, 0, [1], [], false), (33, .getfield 29, 3, 0, [5, 1, 2, 23, 2], [], false), (36, .iload 4, 2, 0, [4], [], false), (38, .aaload, 1, 0, [], [], false), (39, .invokevirtual 33, 3, 0, [2], [], false), (42, .iinc 4 1, 3, 1, [], [], false), (45, .goto (-31), 3, 0, [14], [], false), (48, .return_, 1, 0, [], [], false)]
def pp_writeAll_y : MethodName := ⟨"SpanLayers$Paper", "writeAll", "(LSpanLayers$Index;I)V"⟩
theorem pp_writeAll_tb : sl_tbOK sl_R6 prog_8_method_2_code 5 none lk_pp [(15, 0), (25, 0), (33, 0)] pp_writeAll_cd = true := by decide +kernel
theorem cs_pp_15 (g : sl_G) {hh : Nat} (h : 4 ≤ hh) : sl_CallS g sl_R6 15 0 5 hh 2 ix_sortBy_pt := sl_callV (y := ix_sortBy_y) (T := sl_F5) (N := 2) (ix_sortBy_snd g) h (by decide) (sl_in1 935 (by decide +kernel) rfl) ix_sortBy_w2 ix_sortBy_w3 ix_sortBy_w4 ix_sortBy_w5 ix_sortBy_w6 rfl (by decide)
theorem pp_writePart_w2 : Cond.instanceMethod pp_writePart_y ∈ sl_T0 := sl_in1 942 (by decide +kernel) rfl
theorem pp_writePart_w3 : Cond.selects pp_writePart_y.cls pp_writePart_y pp_writePart_y ∈ sl_T0 := sl_in1 19 (by decide +kernel) rfl
theorem pp_writePart_w4 : Cond.initialized pp_writePart_y.cls ∈ sl_T0 := sl_in1 95 (by decide +kernel) rfl
theorem pp_writePart_w5 : Cond.code pp_writePart_y prog_8_method_3_code 2 none ∈ sl_T0 := sl_in1 943 (by decide +kernel) rfl
theorem pp_writePart_w6 : pp_writePart_y.cls ≠ "java/lang/invoke/MethodHandle" ∧ pp_writePart_y.cls ≠ "java/lang/invoke/VarHandle" ∧ (parseMethodDescriptor pp_writePart_y.desc).map (fun d => d.parameters.length) = some 1 := by decide +kernel
theorem cs_pp_33 (g : sl_G) {hh : Nat} (h : 3 ≤ hh) : sl_CallS g sl_R6 33 0 6 hh 2 pp_writePart_pt := sl_callV (y := pp_writePart_y) (T := sl_F6) (N := 2) (pp_writePart_snd g) h (by decide) (sl_in1 940 (by decide +kernel) rfl) pp_writePart_w2 pp_writePart_w3 pp_writePart_w4 pp_writePart_w5 pp_writePart_w6 rfl (by decide)
def pp_writeAll_ct : List sl_Ct := [(2, 0, 5, ix_sortBy_pt), (2, 0, 6, pp_write_pt), (2, 0, 6, pp_writePart_pt)]
theorem pp_writeAll_hc (g : sl_G) : sl_HC g sl_R6 4 pp_writeAll_ct [(15, 0), (25, 0), (33, 0)] := sl_HC_cons (cs_pp_15 g (by decide)) (sl_HC_cons (cs_pp_25 g (by decide)) (sl_HC_cons (cs_pp_33 g (by decide)) (sl_HC_nil g sl_R6 4)))
set_option maxRecDepth 20000 in
set_option maxHeartbeats 2000000 in
theorem pp_writeAll_snd (g : sl_G) : sl_Snd g pp_writeAll_y prog_8_method_2_code 5 none 4 (pp_writeAll_pt) := by
  intro As μ Q hw h
  unfold pp_writeAll_pt at h
  split at h
  next c0 a0 c1 a1 a2 =>
    split at h
    next e_ =>
      subst e_
      split at h
      next e_ =>
        subst e_
        split at h
        next e_ =>
          subst e_
          split at h
          next e_ =>
            subst e_
            refine sl_mk2 g [true, true, true, false, false] (cst := [some (.inr (.inr (some (6, 54)))), some (.inr (.inr (some (5, 1)))), some (.inl a2)]) (lv0 := [none, none, none, none, none]) (by decide) rfl hw rfl rfl rfl lk_pp_ok (pp_writeAll_hc g) pp_writeAll_tb rfl ?_
            intro X M
            have v14 := sl_extL M sl_VV0 14 (fun n lv st μ => match lv, st with | [_, _, _, some (.inl x3), some (.inl x4)], [] => pp_writeAll_L14 a2 (fun μ' => Q none μ') n x3 x4 μ | _, _ => False) (by
                intro lv st μ h
                split at h
                · exact h
                · exact h) (by
                intro n14 w14
                refine ⟨_, w14, ?_⟩
                intro lv st μ h
                split at h
                · exact h
                · exact h.elim)
            exact ⟨_, v14, h⟩
          next => exact h.elim
        next => exact h.elim
      next => exact h.elim
    next => exact h.elim
  next => exact h.elim
def ix_countLayers_L4 (Q : Int32 → sl_M → Prop) : Nat → Int32 → Int32 → sl_M → Prop
  | 0, _, _, _ => False
  | n + 1, x1, x2, μ => (x2 < (30 : Int32) → vp_in x2 30 ∧ ((sl_bz (μ (4 + x2.toNatClampNeg) 1)) = (0 : Int32) → (ix_countLayers_L4 Q n) x1 (x2 + (1 : Int32)) μ) ∧ (¬ (sl_bz (μ (4 + x2.toNatClampNeg) 1)) = (0 : Int32) → vp_in x2 30 ∧ ma_max x1 ((μ (4 + x2.toNatClampNeg) 5) + (1 : Int32)) μ (fun r2 m1 => (ix_countLayers_L4 Q n) r2 (x2 + (1 : Int32)) m1))) ∧ (¬ x2 < (30 : Int32) → Q x1 μ)
def ix_countLayers (μ : sl_M) (Q : Int32 → sl_M → Prop) : Prop := ∃ n3, ix_countLayers_L4 Q n3 (0 : Int32) (0 : Int32) μ
def ix_countLayers_pt : sl_PT := fun As μ Q => match As with
  | [.inr (.inr (some (c0, a0)))] => if c0 = 5 then (if a0 = 1 then (ix_countLayers μ (fun r μ' => Q (some (.inl r)) μ')) else False) else False
  | _ => False
def ix_countLayers_cd : List sl_Ent := [(0, .iconst 0, 1, 0, [], [], false), (1, .istore_n 1, 1, 0, [1], [], false), (2, .iconst 0, 1, 0, [], [], false), (3, .istore_n 2, 1, 0, [2], [], false), (4, .iload_n 2, 1, 0, [2], [], true), (5, .bipush 30, 2, 30, [], [], false), (7, .if_icmp .ge 37, 3, 0, [44], [], false), (10, .aload_n 0, 1, 0, [0], [], false), (11, .getfield 11, 3, 0, [5, 0, 2, 22, 1], [], false), (14, .iload_n 2, 1, 0, [2], [], false), (15, .aaload, 1, 0, [], [], false), (16, .getfield 31, 3, 0, [9, 1, 1, 0, 0], [], false), (19, .ifCond .eq 19, 3, 0, [38], [], false), (22, .iload_n 1, 1, 0, [1], [], false), (23, .aload_n 0, 1, 0, [0], [], false), (24, .getfield 11, 3, 0, [5, 0, 2, 22, 1], [], false), (27, .iload_n 2, 1, 0, [2], [], false), (28, .aaload, 1, 0, [], [], false), (29, .getfield 59, 3, 0, [9, 5, 0, 0, 0], [], false), (32, .iconst 1, 1, 1, [], [], false), (33, .iadd, 1, 0, [], [], false), (34, .invokestatic 62, 3, 0, [0], [], false), (37, .istore_n 1, 1, 0, [1], [], false), (38, .iinc 2 1, 3, 1, [], [], false), (41, .goto (-37), 3, 0, [4], [], false), (44, .iload_n 1, 1, 0, [1], [], false), (45, .ireturn, 1, 0, [], [], false)]
def ix_countLayers_y : MethodName := ⟨"SpanLayers$Index", "countLayers", "()I"⟩
theorem ix_countLayers_tb : sl_tbOK sl_R5 prog_7_method_24_code 3 (some .int) lk_ix [(62, 1)] ix_countLayers_cd = true := by decide +kernel
def ix_countLayers_ct : List sl_Ct := [(2, 1, 0, ma_max_pt)]
theorem ix_countLayers_hc (g : sl_G) : sl_HC g sl_R5 1 ix_countLayers_ct [(62, 1)] := sl_HC_cons (cs_ix_62 g (by decide)) (sl_HC_nil g sl_R5 1)
set_option maxRecDepth 20000 in
set_option maxHeartbeats 2000000 in
theorem ix_countLayers_snd (g : sl_G) : sl_Snd g ix_countLayers_y prog_7_method_24_code 3 (some .int) 1 (ix_countLayers_pt) := by
  intro As μ Q hw h
  unfold ix_countLayers_pt at h
  split at h
  next c0 a0 =>
    split at h
    next e_ =>
      subst e_
      split at h
      next e_ =>
        subst e_
        refine sl_mk2 g [true, false, false] (cst := [some (.inr (.inr (some (5, 1))))]) (lv0 := [none, none, none]) (by decide) rfl hw rfl rfl rfl lk_ix_ok (ix_countLayers_hc g) ix_countLayers_tb rfl ?_
        intro X M
        have v4 := sl_extL M sl_VV0 4 (fun n lv st μ => match lv, st with | [_, some (.inl x1), some (.inl x2)], [] => ix_countLayers_L4 (fun r μ' => Q (some (.inl r)) μ') n x1 x2 μ | _, _ => False) (by
            intro lv st μ h
            split at h
            · exact h
            · exact h) (by
            intro n4 w4
            refine ⟨_, w4, ?_⟩
            intro lv st μ h
            split at h
            · exact h
            · exact h.elim)
        exact ⟨_, v4, h⟩
      next => exact h.elim
    next => exact h.elim
  next => exact h.elim
def ix_sumOfWeights_L4 (Q : Int32 → sl_M → Prop) : Nat → Int32 → Int32 → sl_M → Prop
  | 0, _, _, _ => False
  | n + 1, x1, x2, μ => (x2 < (30 : Int32) → vp_in x2 30 ∧ ((sl_bz (μ (4 + x2.toNatClampNeg) 1)) = (0 : Int32) → ∀ v1, v1 = (x1 + (0 : Int32)) → (ix_sumOfWeights_L4 Q n) v1 (x2 + (1 : Int32)) μ) ∧ (¬ (sl_bz (μ (4 + x2.toNatClampNeg) 1)) = (0 : Int32) → vp_in x2 30 ∧ ∀ v2, v2 = (x1 + (μ (4 + x2.toNatClampNeg) 4)) → (ix_sumOfWeights_L4 Q n) v2 (x2 + (1 : Int32)) μ)) ∧ (¬ x2 < (30 : Int32) → Q x1 μ)
def ix_sumOfWeights (μ : sl_M) (Q : Int32 → sl_M → Prop) : Prop := ∃ n3, ix_sumOfWeights_L4 Q n3 (0 : Int32) (0 : Int32) μ
def ix_sumOfWeights_pt : sl_PT := fun As μ Q => match As with
  | [.inr (.inr (some (c0, a0)))] => if c0 = 5 then (if a0 = 1 then (ix_sumOfWeights μ (fun r μ' => Q (some (.inl r)) μ')) else False) else False
  | _ => False
def ix_sumOfWeights_cd : List sl_Ent := [(0, .iconst 0, 1, 0, [], [], false), (1, .istore_n 1, 1, 0, [1], [], false), (2, .iconst 0, 1, 0, [], [], false), (3, .istore_n 2, 1, 0, [2], [], false), (4, .iload_n 2, 1, 0, [2], [], true), (5, .bipush 30, 2, 30, [], [], false), (7, .if_icmp .ge 37, 3, 0, [44], [], false), (10, .iload_n 1, 1, 0, [1], [], false), (11, .aload_n 0, 1, 0, [0], [], false), (12, .getfield 11, 3, 0, [5, 0, 2, 22, 1], [], false), (15, .iload_n 2, 1, 0, [2], [], false), (16, .aaload, 1, 0, [], [], false), (17, .getfield 31, 3, 0, [9, 1, 1, 0, 0], [], false), (20, .ifCond .eq 15, 3, 0, [35], [], false), (23, .aload_n 0, 1, 0, [0], [], false), (24, .getfield 11, 3, 0, [5, 0, 2, 22, 1], [], false), (27, .iload_n 2, 1, 0, [2], [], false), (28, .aaload, 1, 0, [], [], false), (29, .getfield 42, 3, 0, [9, 4, 0, 0, 0], [], false), (32, .goto 4, 3, 0, [36], [], false), (35, .iconst 0, 1, 0, [], [], false), (36, .iadd, 1, 0, [], [], false), (37, .istore_n 1, 1, 0, [1, 1], [], false), (38, .iinc 2 1, 3, 1, [], [], false), (41, .goto (-37), 3, 0, [4], [], false), (44, .iload_n 1, 1, 0, [1], [], false), (45, .ireturn, 1, 0, [], [], false)]
def ix_sumOfWeights_y : MethodName := ⟨"SpanLayers$Index", "sumOfWeights", "()I"⟩
theorem ix_sumOfWeights_tb : sl_tbOK sl_R5 prog_7_method_25_code 3 (some .int) lk_ix [] ix_sumOfWeights_cd = true := by decide +kernel
def ix_sumOfWeights_ct : List sl_Ct := []
theorem ix_sumOfWeights_hc (g : sl_G) : sl_HC g sl_R5 0 ix_sumOfWeights_ct [] := sl_HC_nil g sl_R5 0
set_option maxRecDepth 20000 in
set_option maxHeartbeats 2000000 in
theorem ix_sumOfWeights_snd (g : sl_G) : sl_Snd g ix_sumOfWeights_y prog_7_method_25_code 3 (some .int) 0 (ix_sumOfWeights_pt) := by
  intro As μ Q hw h
  unfold ix_sumOfWeights_pt at h
  split at h
  next c0 a0 =>
    split at h
    next e_ =>
      subst e_
      split at h
      next e_ =>
        subst e_
        refine sl_mk2 g [true, false, false] (cst := [some (.inr (.inr (some (5, 1))))]) (lv0 := [none, none, none]) (by decide) rfl hw rfl rfl rfl lk_ix_ok (ix_sumOfWeights_hc g) ix_sumOfWeights_tb rfl ?_
        intro X M
        have v4 := sl_extL M sl_VV0 4 (fun n lv st μ => match lv, st with | [_, some (.inl x1), some (.inl x2)], [] => ix_sumOfWeights_L4 (fun r μ' => Q (some (.inl r)) μ') n x1 x2 μ | _, _ => False) (by
            intro lv st μ h
            split at h
            · exact h
            · exact h) (by
            intro n4 w4
            refine ⟨_, w4, ?_⟩
            intro lv st μ h
            split at h
            · exact h
            · exact h.elim)
        exact ⟨_, v4, h⟩
      next => exact h.elim
    next => exact h.elim
  next => exact h.elim
def ix_sumOfLengths_L4 (Q : Int32 → sl_M → Prop) : Nat → Int32 → Int32 → sl_M → Prop
  | 0, _, _, _ => False
  | n + 1, x1, x2, μ => (x2 < (30 : Int32) → vp_in x2 30 ∧ ((sl_bz (μ (4 + x2.toNatClampNeg) 1)) = (0 : Int32) → ∀ v1, v1 = (x1 + (0 : Int32)) → (ix_sumOfLengths_L4 Q n) v1 (x2 + (1 : Int32)) μ) ∧ (¬ (sl_bz (μ (4 + x2.toNatClampNeg) 1)) = (0 : Int32) → vp_in x2 30 ∧ sp_length (4 + x2.toNatClampNeg) μ (fun r3 m2 => ∀ v4, v4 = (x1 + r3) → (ix_sumOfLengths_L4 Q n) v4 (x2 + (1 : Int32)) m2))) ∧ (¬ x2 < (30 : Int32) → Q x1 μ)
def ix_sumOfLengths (μ : sl_M) (Q : Int32 → sl_M → Prop) : Prop := ∃ n5, ix_sumOfLengths_L4 Q n5 (0 : Int32) (0 : Int32) μ
def ix_sumOfLengths_pt : sl_PT := fun As μ Q => match As with
  | [.inr (.inr (some (c0, a0)))] => if c0 = 5 then (if a0 = 1 then (ix_sumOfLengths μ (fun r μ' => Q (some (.inl r)) μ')) else False) else False
  | _ => False
def ix_sumOfLengths_cd : List sl_Ent := [(0, .iconst 0, 1, 0, [], [], false), (1, .istore_n 1, 1, 0, [1], [], false), (2, .iconst 0, 1, 0, [], [], false), (3, .istore_n 2, 1, 0, [2], [], false), (4, .iload_n 2, 1, 0, [2], [], true), (5, .bipush 30, 2, 30, [], [], false), (7, .if_icmp .ge 37, 3, 0, [44], [], false), (10, .iload_n 1, 1, 0, [1], [], false), (11, .aload_n 0, 1, 0, [0], [], false), (12, .getfield 11, 3, 0, [5, 0, 2, 22, 1], [], false), (15, .iload_n 2, 1, 0, [2], [], false), (16, .aaload, 1, 0, [], [], false), (17, .getfield 31, 3, 0, [9, 1, 1, 0, 0], [], false), (20, .ifCond .eq 15, 3, 0, [35], [], false), (23, .aload_n 0, 1, 0, [0], [], false), (24, .getfield 11, 3, 0, [5, 0, 2, 22, 1], [], false), (27, .iload_n 2, 1, 0, [2], [], false), (28, .aaload, 1, 0, [], [], false), (29, .invokevirtual 81, 3, 0, [0], [], false), (32, .goto 4, 3, 0, [36], [], false), (35, .iconst 0, 1, 0, [], [], false), (36, .iadd, 1, 0, [], [], false), (37, .istore_n 1, 1, 0, [1, 1], [], false), (38, .iinc 2 1, 3, 1, [], [], false), (41, .goto (-37), 3, 0, [4], [], false), (44, .iload_n 1, 1, 0, [1], [], false), (45, .ireturn, 1, 0, [], [], false)]
def ix_sumOfLengths_y : MethodName := ⟨"SpanLayers$Index", "sumOfLengths", "()I"⟩
theorem ix_sumOfLengths_tb : sl_tbOK sl_R5 prog_7_method_26_code 3 (some .int) lk_ix [(81, 0)] ix_sumOfLengths_cd = true := by decide +kernel
def ix_sumOfLengths_ct : List sl_Ct := [(1, 0, 9, sp_length_pt)]
theorem ix_sumOfLengths_hc (g : sl_G) : sl_HC g sl_R5 1 ix_sumOfLengths_ct [(81, 0)] := sl_HC_cons (cs_ix_81 g (by decide)) (sl_HC_nil g sl_R5 1)
set_option maxRecDepth 20000 in
set_option maxHeartbeats 2000000 in
theorem ix_sumOfLengths_snd (g : sl_G) : sl_Snd g ix_sumOfLengths_y prog_7_method_26_code 3 (some .int) 1 (ix_sumOfLengths_pt) := by
  intro As μ Q hw h
  unfold ix_sumOfLengths_pt at h
  split at h
  next c0 a0 =>
    split at h
    next e_ =>
      subst e_
      split at h
      next e_ =>
        subst e_
        refine sl_mk2 g [true, false, false] (cst := [some (.inr (.inr (some (5, 1))))]) (lv0 := [none, none, none]) (by decide) rfl hw rfl rfl rfl lk_ix_ok (ix_sumOfLengths_hc g) ix_sumOfLengths_tb rfl ?_
        intro X M
        have v4 := sl_extL M sl_VV0 4 (fun n lv st μ => match lv, st with | [_, some (.inl x1), some (.inl x2)], [] => ix_sumOfLengths_L4 (fun r μ' => Q (some (.inl r)) μ') n x1 x2 μ | _, _ => False) (by
            intro lv st μ h
            split at h
            · exact h
            · exact h) (by
            intro n4 w4
            refine ⟨_, w4, ?_⟩
            intro lv st μ h
            split at h
            · exact h
            · exact h.elim)
        exact ⟨_, v4, h⟩
      next => exact h.elim
    next => exact h.elim
  next => exact h.elim
def ro_begin_L12 (a0 : Nat) (a1 : Int32) (Q : sl_M → Prop) : Nat → Int32 → sl_M → Prop
  | 0, _, _ => False
  | n + 1, x2, μ => (x2 < (40 : Int32) → vp_in x2 (sl_len (a0 + 1)) ∧ ∀ m1, m1 = sl_up μ (a0 + 1) x2.toNatClampNeg (0 : Int32) → (ro_begin_L12 a0 a1 Q n) (x2 + (1 : Int32)) m1) ∧ (¬ x2 < (40 : Int32) → Q μ)
def ro_begin (a0 : Nat) (a1 : Int32) (μ : sl_M) (Q : sl_M → Prop) : Prop := sl_bz (1 : Int32) = (1 : Int32) ∧ ∀ m2, m2 = sl_up μ a0 1 (1 : Int32) → ∀ m3, m3 = sl_up m2 a0 2 a1 → ∃ n4, ro_begin_L12 a0 a1 Q n4 (0 : Int32) m3
def ro_begin_pt : sl_PT := fun As μ Q => match As with
  | [.inr (.inr (some (c0, a0))), .inl a1] => if c0 = 8 then (ro_begin a0 a1 μ (fun μ' => Q none μ')) else False
  | _ => False
def ro_begin_cd : List sl_Ent := [(0, .aload_n 0, 1, 0, [0], [], false), (1, .iconst 1, 1, 1, [], [], false), (2, .putfield 15, 3, 0, [8, 1, 1], [], false), (5, .aload_n 0, 1, 0, [0], [], false), (6, .iload_n 1, 1, 0, [1], [], false), (7, .putfield 19, 3, 0, [8, 2, 0], [], false), (10, .iconst 0, 1, 0, [], [], false), (11, .istore_n 2, 1, 0, [2], [], false), (12, .iload_n 2, 1, 0, [2], [], true), (13, .bipush 40, 2, 40, [], [], false), (15, .if_icmp .ge 16, 3, 0, [31], [], false), (18, .aload_n 0, 1, 0, [0], [], false), (19, .getfield 9, 3, 0, [8, 0, 2, 20, 1], [], false), (22, .iload_n 2, 1, 0, [2], [], false), (23, .iconst 0, 1, 0, [], [], false), (24, .iastore, 1, 0, [], [], false), (25, .iinc 2 1, 3, 1, [], [], false), (28, .goto (-16), 3, 0, [12], [], false), (31, .return_, 1, 0, [], [], false)]
def ro_begin_y : MethodName := ⟨"SpanLayers$Row", "begin", "(I)V"⟩
theorem ro_begin_tb : sl_tbOK sl_R8 prog_10_method_2_code 3 none lk_ro [] ro_begin_cd = true := by decide +kernel
def ro_begin_ct : List sl_Ct := []
theorem ro_begin_hc (g : sl_G) : sl_HC g sl_R8 0 ro_begin_ct [] := sl_HC_nil g sl_R8 0
set_option maxRecDepth 20000 in
set_option maxHeartbeats 2000000 in
theorem ro_begin_snd (g : sl_G) : sl_Snd g ro_begin_y prog_10_method_2_code 3 none 0 (ro_begin_pt) := by
  intro As μ Q hw h
  unfold ro_begin_pt at h
  split at h
  next c0 a0 a1 =>
    split at h
    next e_ =>
      subst e_
      refine sl_mk2 g [true, true, false] (cst := [some (.inr (.inr (some (8, a0)))), some (.inl a1)]) (lv0 := [none, none, none]) (by decide) rfl hw rfl rfl rfl lk_ro_ok (ro_begin_hc g) ro_begin_tb rfl ?_
      intro X M
      have v12 := sl_extL M sl_VV0 12 (fun n lv st μ => match lv, st with | [_, _, some (.inl x2)], [] => ro_begin_L12 a0 a1 (fun μ' => Q none μ') n x2 μ | _, _ => False) (by
          intro lv st μ h
          split at h
          · exact h
          · exact h) (by
          intro n12 w12
          refine ⟨_, w12, ?_⟩
          intro lv st μ h
          split at h
          · exact h
          · exact h.elim)
      exact ⟨_, v12, h⟩
    next => exact h.elim
  next => exact h.elim
def ro_hasPlace (a0 : Nat) (a1 : Int32) (μ : sl_M) (Q : Int32 → sl_M → Prop) : Prop := sx_isBelow a1 (μ a0 2) μ (fun r2 m1 => (r2 = (0 : Int32) → sl_bz (0 : Int32) = (0 : Int32) ∧ Q (0 : Int32) m1) ∧ (¬ r2 = (0 : Int32) → (a1 < (40 : Int32) → sl_bz (1 : Int32) = (1 : Int32) ∧ Q (1 : Int32) m1) ∧ (¬ a1 < (40 : Int32) → sl_bz (0 : Int32) = (0 : Int32) ∧ Q (0 : Int32) m1)))
def ro_hasPlace_pt : sl_PT := fun As μ Q => match As with
  | [.inr (.inr (some (c0, a0))), .inl a1] => if c0 = 8 then (ro_hasPlace a0 a1 μ (fun r μ' => Q (some (.inl r)) μ')) else False
  | _ => False
def ro_hasPlace_cd : List sl_Ent := [(0, .iload_n 1, 1, 0, [1], [], false), (1, .aload_n 0, 1, 0, [0], [], false), (2, .getfield 19, 3, 0, [8, 2, 0, 0, 0], [], false), (5, .invokestatic 23, 3, 0, [0], [], false), (8, .ifCond .eq 13, 3, 0, [21], [], false), (11, .iload_n 1, 1, 0, [1], [], false), (12, .bipush 40, 2, 40, [], [], false), (14, .if_icmp .ge 7, 3, 0, [21], [], false), (17, .iconst 1, 1, 1, [], [], false), (18, .goto 4, 3, 0, [22], [], false), (21, .iconst 0, 1, 0, [], [], false), (22, .ireturn, 1, 0, [1], [], false)]
def ro_hasPlace_y : MethodName := ⟨"SpanLayers$Row", "hasPlace", "(I)Z"⟩
theorem ro_hasPlace_tb : sl_tbOK sl_R8 prog_10_method_3_code 2 (some .boolean) lk_ro [(23, 1)] ro_hasPlace_cd = true := by decide +kernel
theorem cs_ro_23 (g : sl_G) {hh : Nat} (h : 1 ≤ hh) : sl_CallS g sl_R8 23 1 0 hh 2 sx_isBelow_pt := sl_callN (host := "SpanLayers") (y := sx_isBelow_y) (sx_isBelow_snd g) h (by decide) (List.mem_of_getElem? (i := 13) rfl) sx_isBelow_w2 sx_isBelow_w4 sx_isBelow_w5 sx_isBelow_w6
def ro_hasPlace_ct : List sl_Ct := [(2, 1, 0, sx_isBelow_pt)]
theorem ro_hasPlace_hc (g : sl_G) : sl_HC g sl_R8 1 ro_hasPlace_ct [(23, 1)] := sl_HC_cons (cs_ro_23 g (by decide)) (sl_HC_nil g sl_R8 1)
set_option maxRecDepth 20000 in
set_option maxHeartbeats 2000000 in
theorem ro_hasPlace_snd (g : sl_G) : sl_Snd g ro_hasPlace_y prog_10_method_3_code 2 (some .boolean) 1 (ro_hasPlace_pt) := by
  intro As μ Q hw h
  unfold ro_hasPlace_pt at h
  split at h
  next c0 a0 a1 =>
    split at h
    next e_ =>
      subst e_
      refine sl_mk2 g [true, true] (cst := [some (.inr (.inr (some (8, a0)))), some (.inl a1)]) (lv0 := [none, none]) (by decide) rfl hw rfl rfl rfl lk_ro_ok (ro_hasPlace_hc g) ro_hasPlace_tb rfl ?_
      intro X M
      exact ⟨_, sl_VV0, h⟩
    next => exact h.elim
  next => exact h.elim
def ro_write (a0 : Nat) (a1 : Int32) (a2 : Int32) (μ : sl_M) (Q : Int32 → sl_M → Prop) : Prop := ro_hasPlace a0 a1 μ (fun r2 m1 => (r2 = (0 : Int32) → sl_bz (0 : Int32) = (0 : Int32) ∧ Q (0 : Int32) m1) ∧ (¬ r2 = (0 : Int32) → vp_in a1 (sl_len (a0 + 1)) ∧ ∀ m3, m3 = sl_up m1 (a0 + 1) a1.toNatClampNeg a2 → sl_bz (1 : Int32) = (1 : Int32) ∧ Q (1 : Int32) m3))
def ro_write_pt : sl_PT := fun As μ Q => match As with
  | [.inr (.inr (some (c0, a0))), .inl a1, .inl a2] => if c0 = 8 then (ro_write a0 a1 a2 μ (fun r μ' => Q (some (.inl r)) μ')) else False
  | _ => False
def ro_write_cd : List sl_Ent := [(0, .aload_n 0, 1, 0, [0], [], false), (1, .iload_n 1, 1, 0, [1], [], false), (2, .invokevirtual 27, 3, 0, [0], [], false), (5, .ifCond .ne 5, 3, 0, [10], [], false), (8, .iconst 0, 1, 0, [], [], false), (9, .ireturn, 1, 0, [1], [], false), (10, .aload_n 0, 1, 0, [0], [], false), (11, .getfield 9, 3, 0, [8, 0, 2, 20, 1], [], false), (14, .iload_n 1, 1, 0, [1], [], false), (15, .iload_n 2, 1, 0, [2], [], false), (16, .iastore, 1, 0, [], [], false), (17, .iconst 1, 1, 1, [], [], false), (18, .ireturn, 1, 0, [1], [], false)]
def ro_write_y : MethodName := ⟨"SpanLayers$Row", "write", "(II)Z"⟩
theorem ro_write_tb : sl_tbOK sl_R8 prog_10_method_4_code 3 (some .boolean) lk_ro [(27, 0)] ro_write_cd = true := by decide +kernel
theorem ro_hasPlace_w2 : Cond.instanceMethod ro_hasPlace_y ∈ sl_T0 := sl_in1 988 (by decide +kernel) rfl
theorem ro_hasPlace_w3 : Cond.selects ro_hasPlace_y.cls ro_hasPlace_y ro_hasPlace_y ∈ sl_T0 := sl_in1 989 (by decide +kernel) rfl
theorem ro_hasPlace_w4 : Cond.initialized ro_hasPlace_y.cls ∈ sl_T0 := sl_in1 97 (by decide +kernel) rfl
theorem ro_hasPlace_w5 : Cond.code ro_hasPlace_y prog_10_method_3_code 2 (some .boolean) ∈ sl_T0 := sl_in1 990 (by decide +kernel) rfl
theorem ro_hasPlace_w6 : ro_hasPlace_y.cls ≠ "java/lang/invoke/MethodHandle" ∧ ro_hasPlace_y.cls ≠ "java/lang/invoke/VarHandle" ∧ (parseMethodDescriptor ro_hasPlace_y.desc).map (fun d => d.parameters.length) = some 1 := by decide +kernel
theorem cs_ro_27 (g : sl_G) {hh : Nat} (h : 2 ≤ hh) : sl_CallS g sl_R8 27 0 8 hh 2 ro_hasPlace_pt := sl_callV (y := ro_hasPlace_y) (T := sl_F8) (N := 3) (ro_hasPlace_snd g) h (by decide) (sl_in1 987 (by decide +kernel) rfl) ro_hasPlace_w2 ro_hasPlace_w3 ro_hasPlace_w4 ro_hasPlace_w5 ro_hasPlace_w6 rfl (by decide)
def ro_write_ct : List sl_Ct := [(2, 0, 8, ro_hasPlace_pt)]
theorem ro_write_hc (g : sl_G) : sl_HC g sl_R8 2 ro_write_ct [(27, 0)] := sl_HC_cons (cs_ro_27 g (by decide)) (sl_HC_nil g sl_R8 2)
set_option maxRecDepth 20000 in
set_option maxHeartbeats 2000000 in
theorem ro_write_snd (g : sl_G) : sl_Snd g ro_write_y prog_10_method_4_code 3 (some .boolean) 2 (ro_write_pt) := by
  intro As μ Q hw h
  unfold ro_write_pt at h
  split at h
  next c0 a0 a1 a2 =>
    split at h
    next e_ =>
      subst e_
      refine sl_mk2 g [true, true, true] (cst := [some (.inr (.inr (some (8, a0)))), some (.inl a1), some (.inl a2)]) (lv0 := [none, none, none]) (by decide) rfl hw rfl rfl rfl lk_ro_ok (ro_write_hc g) ro_write_tb rfl ?_
      intro X M
      exact ⟨_, sl_VV0, h⟩
    next => exact h.elim
  next => exact h.elim
def ix_copyFrom_k_L2 (Q : sl_M → Prop) : Nat → Int32 → sl_M → Prop
  | 0, _, _ => False
  | n + 1, x2, μ => (x2 < (30 : Int32) → vp_in x2 30 ∧ vp_in x2 30 ∧ sp_copyFrom (60 + x2.toNatClampNeg) (4 + x2.toNatClampNeg) μ (fun m1 => (ix_copyFrom_k_L2 Q n) (x2 + (1 : Int32)) m1)) ∧ (¬ x2 < (30 : Int32) → Q μ)
def ix_copyFrom_k (μ : sl_M) (Q : sl_M → Prop) : Prop := ∃ n2, ix_copyFrom_k_L2 Q n2 (0 : Int32) μ
def ix_copyFrom_u_L2 (Q : sl_M → Prop) : Nat → Int32 → sl_M → Prop
  | 0, _, _ => False
  | n + 1, x2, μ => (x2 < (30 : Int32) → vp_in x2 30 ∧ vp_in x2 30 ∧ sp_copyFrom (4 + x2.toNatClampNeg) (60 + x2.toNatClampNeg) μ (fun m1 => (ix_copyFrom_u_L2 Q n) (x2 + (1 : Int32)) m1)) ∧ (¬ x2 < (30 : Int32) → Q μ)
def ix_copyFrom_u (μ : sl_M) (Q : sl_M → Prop) : Prop := ∃ n2, ix_copyFrom_u_L2 Q n2 (0 : Int32) μ
def ix_copyFrom_pt : sl_PT := fun As μ Q => match As with
  | [.inr (.inr (some (c0, a0))), .inr (.inr (some (c1, a1)))] => if c0 = 5 then (if c1 = 5 then (if a0 = 57 ∧ a1 = 1 then (ix_copyFrom_k μ (fun μ' => Q none μ')) else (if a0 = 1 ∧ a1 = 57 then (ix_copyFrom_u μ (fun μ' => Q none μ')) else False)) else False) else False
  | _ => False
def ix_copyFrom_cd : List sl_Ent := [(0, .iconst 0, 1, 0, [], [], false), (1, .istore_n 2, 1, 0, [2], [], false), (2, .iload_n 2, 1, 0, [2], [], true), (3, .bipush 30, 2, 30, [], [], false), (5, .if_icmp .ge 24, 3, 0, [29], [], false), (8, .aload_n 0, 1, 0, [0], [], false), (9, .getfield 11, 3, 0, [5, 0, 2, 22, 1], [], false), (12, .iload_n 2, 1, 0, [2], [], false), (13, .aaload, 1, 0, [], [], false), (14, .aload_n 1, 1, 0, [1], [], false), (15, .getfield 11, 3, 0, [5, 0, 2, 22, 1], [], false), (18, .iload_n 2, 1, 0, [2], [], false), (19, .aaload, 1, 0, [], [], false), (20, .invokevirtual 23, 3, 0, [0], [], false), (23, .iinc 2 1, 3, 1, [], [], false), (26, .goto (-24), 3, 0, [2], [], false), (29, .return_, 1, 0, [], [], false)]
def ix_copyFrom_y : MethodName := ⟨"SpanLayers$Index", "copyFrom", "(LSpanLayers$Index;)V"⟩
theorem ix_copyFrom_tb : sl_tbOK sl_R5 prog_7_method_2_code 3 none lk_ix [(23, 0)] ix_copyFrom_cd = true := by decide +kernel
theorem cs_ix_23 (g : sl_G) {hh : Nat} (h : 1 ≤ hh) : sl_CallS g sl_R5 23 0 9 hh 2 sp_copyFrom_pt := sl_callV (y := sp_copyFrom_y) (T := sl_F9) (N := 6) (sp_copyFrom_snd g) h (by decide) (sl_in1 1014 (by decide +kernel) rfl) sp_copyFrom_w2 sp_copyFrom_w3 sp_copyFrom_w4 sp_copyFrom_w5 sp_copyFrom_w6 rfl (by decide)
def ix_copyFrom_ct : List sl_Ct := [(2, 0, 9, sp_copyFrom_pt)]
theorem ix_copyFrom_hc (g : sl_G) : sl_HC g sl_R5 1 ix_copyFrom_ct [(23, 0)] := sl_HC_cons (cs_ix_23 g (by decide)) (sl_HC_nil g sl_R5 1)
set_option maxRecDepth 20000 in
set_option maxHeartbeats 2000000 in
theorem ix_copyFrom_snd (g : sl_G) : sl_Snd g ix_copyFrom_y prog_7_method_2_code 3 none 1 (ix_copyFrom_pt) := by
  intro As μ Q hw h
  unfold ix_copyFrom_pt at h
  split at h
  next c0 a0 c1 a1 =>
    split at h
    next e_ =>
      subst e_
      split at h
      next e_ =>
        subst e_
        split at h
        next e_ =>
          obtain ⟨rfl, rfl⟩ := e_
          refine sl_mk2 g [true, true, false] (cst := [some (.inr (.inr (some (5, 57)))), some (.inr (.inr (some (5, 1))))]) (lv0 := [none, none, none]) (by decide) rfl hw rfl rfl rfl lk_ix_ok (ix_copyFrom_hc g) ix_copyFrom_tb rfl ?_
          intro X M
          have v2 := sl_extL M sl_VV0 2 (fun n lv st μ => match lv, st with | [_, _, some (.inl x2)], [] => ix_copyFrom_k_L2 (fun μ' => Q none μ') n x2 μ | _, _ => False) (by
              intro lv st μ h
              split at h
              · exact h
              · exact h) (by
              intro n2 w2
              refine ⟨_, w2, ?_⟩
              intro lv st μ h
              split at h
              · exact h
              · exact h.elim)
          exact ⟨_, v2, h⟩
        next =>
          split at h
          next e_ =>
            obtain ⟨rfl, rfl⟩ := e_
            refine sl_mk2 g [true, true, false] (cst := [some (.inr (.inr (some (5, 1)))), some (.inr (.inr (some (5, 57))))]) (lv0 := [none, none, none]) (by decide) rfl hw rfl rfl rfl lk_ix_ok (ix_copyFrom_hc g) ix_copyFrom_tb rfl ?_
            intro X M
            have v2 := sl_extL M sl_VV0 2 (fun n lv st μ => match lv, st with | [_, _, some (.inl x2)], [] => ix_copyFrom_u_L2 (fun μ' => Q none μ') n x2 μ | _, _ => False) (by
                intro lv st μ h
                split at h
                · exact h
                · exact h) (by
                intro n2 w2
                refine ⟨_, w2, ?_⟩
                intro lv st μ h
                split at h
                · exact h
                · exact h.elim)
            exact ⟨_, v2, h⟩
          next => exact h.elim
      next => exact h.elim
    next => exact h.elim
  next => exact h.elim
end
section
def tp_isSame_L31 (a1 : Int32) (a2 : Nat) (a3 : Int32) (a4 : Int32) (Q : Int32 → sl_M → Prop) : Nat → Int32 → sl_M → Prop
  | 0, _, _ => False
  | n + 1, x5, μ => (x5 < (a4 - a3) → vp_in (a1 + x5) 80 ∧ sg_charAt a2 (a3 + x5) μ (fun r2 m1 => ((μ 44 (a1 + x5).toNatClampNeg) = r2 → (tp_isSame_L31 a1 a2 a3 a4 Q n) (x5 + (1 : Int32)) m1) ∧ (¬ (μ 44 (a1 + x5).toNatClampNeg) = r2 → sl_bz (0 : Int32) = (0 : Int32) ∧ Q (0 : Int32) m1))) ∧ (¬ x5 < (a4 - a3) → sl_bz (1 : Int32) = (1 : Int32) ∧ Q (1 : Int32) μ)
def tp_isSame (a1 : Int32) (a2 : Nat) (a3 : Int32) (a4 : Int32) (μ : sl_M) (Q : Int32 → sl_M → Prop) : Prop := (a1 < (0 : Int32) → sl_bz (0 : Int32) = (0 : Int32) ∧ Q (0 : Int32) μ) ∧ (¬ a1 < (0 : Int32) → ((μ 43 2) ≤ (80 : Int32) → (((μ 43 2) - a1) = (a4 - a3) → ∃ n3, tp_isSame_L31 a1 a2 a3 a4 Q n3 (0 : Int32) μ) ∧ (¬ ((μ 43 2) - a1) = (a4 - a3) → sl_bz (0 : Int32) = (0 : Int32) ∧ Q (0 : Int32) μ)) ∧ (¬ (μ 43 2) ≤ (80 : Int32) → sl_bz (0 : Int32) = (0 : Int32) ∧ Q (0 : Int32) μ))
def tp_isSame_pt : sl_PT := fun As μ Q => match As with
  | [.inr (.inr (some (c0, a0))), .inl a1, .inr (.inr (some (c2, a2))), .inl a3, .inl a4] => if c0 = 10 then (if c2 = 90 then (if a0 = 43 then (tp_isSame a1 a2 a3 a4 μ (fun r μ' => Q (some (.inl r)) μ')) else False) else False) else False
  | _ => False
def tp_isSame_cd : List sl_Ent := [(0, .iload_n 1, 1, 0, [1], [], false), (1, .ifCond .lt 25, 3, 0, [26], [], false), (4, .aload_n 0, 1, 0, [0], [], false), (5, .getfield 22, 3, 0, [10, 2, 0, 0, 0], [], false), (8, .bipush 80, 2, 80, [], [], false), (10, .if_icmp .gt 16, 3, 0, [26], [], false), (13, .aload_n 0, 1, 0, [0], [], false), (14, .getfield 22, 3, 0, [10, 2, 0, 0, 0], [], false), (17, .iload_n 1, 1, 0, [1], [], false), (18, .isub, 1, 0, [], [], false), (19, .iload 4, 2, 0, [4], [], false), (21, .iload_n 3, 1, 0, [3], [], false), (22, .isub, 1, 0, [], [], false), (23, .if_icmp .eq 5, 3, 0, [28], [], false), (26, .iconst 0, 1, 0, [], [], false), (27, .ireturn, 1, 0, [1], [], false), (28, .iconst 0, 1, 0, [], [], false), (29, .istore 5, 2, 0, [5], [], false), (31, .iload 5, 2, 0, [5], [], true), (33, .iload 4, 2, 0, [4], [], false), (35, .iload_n 3, 1, 0, [3], [], false), (36, .isub, 1, 0, [], [], false), (37, .if_icmp .ge 31, 3, 0, [68], [], false), (40, .aload_n 0, 1, 0, [0], [], false), (41, .getfield 9, 3, 0, [10, 0, 2, 20, 1], [], false), (44, .iload_n 1, 1, 0, [1], [], false), (45, .iload 5, 2, 0, [5], [], false), (47, .iadd, 1, 0, [], [], false), (48, .iaload, 1, 0, [], [], false), (49, .aload_n 2, 1, 0, [2], [], false), (50, .iload_n 3, 1, 0, [3], [], false), (51, .iload 5, 2, 0, [5], [], false), (53, .iadd, 1, 0, [], [], false), (54, .invokevirtual 50, 3, 0, [0], [], false), (57, .if_icmp .eq 5, 3, 0, [62], [], false), (60, .iconst 0, 1, 0, [], [], false), (61, .ireturn, 1, 0, [1], [], false), (62, .iinc 5 1, 3, 1, [], [], false), (65, .goto (-34), 3, 0, [31], [], false), (68, .iconst 1, 1, 1, [], [], false), (69, .ireturn, 1, 0, [1], [], false)]
def tp_isSame_y : MethodName := ⟨"SpanLayers$Tape", "isSame", "(ILjava/lang/String;II)Z"⟩
theorem tp_isSame_tb : sl_tbOK sl_R10 prog_12_method_13_code 6 (some .boolean) lk_tp [(50, 0)] tp_isSame_cd = true := by decide +kernel
theorem sg_charAt_w2 : Cond.instanceMethod sg_charAt_y ∈ sl_T0 := sl_in1 788 (by decide +kernel) rfl
theorem sg_charAt_w3 : Cond.selects sg_charAt_y.cls sg_charAt_y sg_charAt_y ∈ sl_T0 := sl_in1 789 (by decide +kernel) rfl
theorem sg_charAt_w4 : Cond.initialized sg_charAt_y.cls ∈ sl_T0 := sl_in1 101 (by decide +kernel) rfl
theorem sg_charAt_w5 : Cond.code sg_charAt_y prog_17_method_56_code 2 (some .char) ∈ sl_T0 := sl_in1 790 (by decide +kernel) rfl
theorem sg_charAt_w6 : sg_charAt_y.cls ≠ "java/lang/invoke/MethodHandle" ∧ sg_charAt_y.cls ≠ "java/lang/invoke/VarHandle" ∧ (parseMethodDescriptor sg_charAt_y.desc).map (fun d => d.parameters.length) = some 1 := by decide +kernel
theorem cs_tp_50 (g : sl_G) {hh : Nat} (h : 7 ≤ hh) : sl_CallS g sl_R10 50 0 90 hh 2 sg_charAt_pt := sl_callG (y := sg_charAt_y) sg_charAt_ho (sg_charAt_snd g) h (by decide) (sl_in1 787 (by decide +kernel) rfl) sg_charAt_w2 sg_charAt_w3 sg_charAt_w4 sg_charAt_w5 sg_charAt_w6 rfl
def tp_isSame_ct : List sl_Ct := [(2, 0, 90, sg_charAt_pt)]
theorem tp_isSame_hc (g : sl_G) : sl_HC g sl_R10 7 tp_isSame_ct [(50, 0)] := sl_HC_cons (cs_tp_50 g (by decide)) (sl_HC_nil g sl_R10 7)
set_option maxRecDepth 20000 in
set_option maxHeartbeats 2000000 in
theorem tp_isSame_snd (g : sl_G) : sl_Snd g tp_isSame_y prog_12_method_13_code 6 (some .boolean) 7 (tp_isSame_pt) := by
  intro As μ Q hw h
  unfold tp_isSame_pt at h
  split at h
  next c0 a0 a1 c2 a2 a3 a4 =>
    split at h
    next e_ =>
      subst e_
      split at h
      next e_ =>
        subst e_
        split at h
        next e_ =>
          subst e_
          refine sl_mk2 g [true, true, true, true, true, false] (cst := [some (.inr (.inr (some (10, 43)))), some (.inl a1), some (.inr (.inr (some (90, a2)))), some (.inl a3), some (.inl a4)]) (lv0 := [none, none, none, none, none, none]) (by decide) rfl hw rfl rfl rfl lk_tp_ok (tp_isSame_hc g) tp_isSame_tb rfl ?_
          intro X M
          have v31 := sl_extL M sl_VV0 31 (fun n lv st μ => match lv, st with | [_, _, _, _, _, some (.inl x5)], [] => tp_isSame_L31 a1 a2 a3 a4 (fun r μ' => Q (some (.inl r)) μ') n x5 μ | _, _ => False) (by
              intro lv st μ h
              split at h
              · exact h
              · exact h) (by
              intro n31 w31
              refine ⟨_, w31, ?_⟩
              intro lv st μ h
              split at h
              · exact h
              · exact h.elim)
          exact ⟨_, v31, h⟩
        next => exact h.elim
      next => exact h.elim
    next => exact h.elim
  next => exact h.elim
def tp_readOneOf_L55 (a1 : Nat) (Q : Int32 → sl_M → Prop) : Nat → Int32 → Int32 → Int32 → Int32 → sl_M → Prop
  | 0, _, _, _, _, _ => False
  | n + 1, x2, x3, x4, x5, μ => sg_length a1 μ (fun r10 m9 => (x5 < r10 → sg_charAt a1 x5 m9 (fun r12 m11 => (r12 = (32 : Int32) → tp_isSame x2 a1 x4 x5 m11 (fun r14 m13 => (r14 = (0 : Int32) → ∀ v15, v15 = (x5 + (1 : Int32)) → (tp_readOneOf_L55 a1 Q n) x2 (x3 + (1 : Int32)) v15 (x5 + (1 : Int32)) m13) ∧ (¬ r14 = (0 : Int32) → Q x3 m13))) ∧ (¬ r12 = (32 : Int32) → (tp_readOneOf_L55 a1 Q n) x2 x3 x4 (x5 + (1 : Int32)) m11))) ∧ (¬ x5 < r10 → tp_fail x2 m9 (fun m16 => Q (-1 : Int32) m16)))
def tp_readOneOf_L7 (a1 : Nat) (Q : Int32 → sl_M → Prop) : Nat → Int32 → Int32 → sl_M → Prop
  | 0, _, _, _ => False
  | n + 1, x2, x3, μ => (x3 < (80 : Int32) → tp_letter μ (fun r2 m1 => (r2 < (97 : Int32) → ∃ n3, tp_readOneOf_L55 a1 Q n3 x2 (0 : Int32) (0 : Int32) (0 : Int32) m1) ∧ (¬ r2 < (97 : Int32) → tp_letter m1 (fun r5 m4 => (r5 ≤ (122 : Int32) → ∀ m6, m6 = sl_up m4 43 2 ((m4 43 2) + (1 : Int32)) → (tp_readOneOf_L7 a1 Q n) x2 (x3 + (1 : Int32)) m6) ∧ (¬ r5 ≤ (122 : Int32) → ∃ n7, tp_readOneOf_L55 a1 Q n7 x2 (0 : Int32) (0 : Int32) (0 : Int32) m4))))) ∧ (¬ x3 < (80 : Int32) → ∃ n8, tp_readOneOf_L55 a1 Q n8 x2 (0 : Int32) (0 : Int32) (0 : Int32) μ)
def tp_readOneOf (a1 : Nat) (μ : sl_M) (Q : Int32 → sl_M → Prop) : Prop := ∀ v17, v17 = (μ 43 2) → ∃ n18, tp_readOneOf_L7 a1 Q n18 v17 (0 : Int32) μ
def tp_readOneOf_pt : sl_PT := fun As μ Q => match As with
  | [.inr (.inr (some (c0, a0))), .inr (.inr (some (c1, a1)))] => if c0 = 10 then (if c1 = 90 then (if a0 = 43 then (tp_readOneOf a1 μ (fun r μ' => Q (some (.inl r)) μ')) else False) else False) else False
  | _ => False
def tp_readOneOf_cd : List sl_Ent := [(0, .aload_n 0, 1, 0, [0], [], false), (1, .getfield 22, 3, 0, [10, 2, 0, 0, 0], [], false), (4, .istore_n 2, 1, 0, [2, 1], [], false), (5, .iconst 0, 1, 0, [], [], false), (6, .istore_n 3, 1, 0, [3], [], false), (7, .iload_n 3, 1, 0, [3], [], true), (8, .bipush 80, 2, 80, [], [], false), (10, .if_icmp .ge 37, 3, 0, [47], [], false), (13, .aload_n 0, 1, 0, [0], [], false), (14, .invokevirtual 29, 3, 0, [0], [], false), (17, .bipush 97, 2, 97, [], [], false), (19, .if_icmp .lt 28, 3, 0, [47], [], false), (22, .aload_n 0, 1, 0, [0], [], false), (23, .invokevirtual 29, 3, 0, [0], [], false), (26, .bipush 122, 2, 122, [], [], false), (28, .if_icmp .gt 19, 3, 0, [47], [], false), (31, .aload_n 0, 1, 0, [0], [], false), (32, .dup, 1, 0, [], [], false), (33, .getfield 22, 3, 0, [10, 2, 0, 0, 0], [], false), (36, .iconst 1, 1, 1, [], [], false), (37, .iadd, 1, 0, [], [], false), (38, .putfield 22, 3, 0, [10, 2, 0], [], false), (41, .iinc 3 1, 3, 1, [], [], false), (44, .goto (-37), 3, 0, [7], [], false), (47, .iconst 0, 1, 0, [], [], false), (48, .istore_n 3, 1, 0, [3], [], false), (49, .iconst 0, 1, 0, [], [], false), (50, .istore 4, 2, 0, [4], [], false), (52, .iconst 0, 1, 0, [], [], false), (53, .istore 5, 2, 0, [5], [], false), (55, .iload 5, 2, 0, [5], [], true), (57, .aload_n 1, 1, 0, [1], [], false), (58, .invokevirtual 45, 3, 0, [1], [], false), (61, .if_icmp .ge 44, 3, 0, [105], [], false), (64, .aload_n 1, 1, 0, [1], [], false), (65, .iload 5, 2, 0, [5], [], false), (67, .invokevirtual 50, 3, 0, [2], [], false), (70, .bipush 32, 2, 32, [], [], false), (72, .if_icmp .ne 27, 3, 0, [99], [], false), (75, .aload_n 0, 1, 0, [0], [], false), (76, .iload_n 2, 1, 0, [2], [], false), (77, .aload_n 1, 1, 0, [1], [], false), (78, .iload 4, 2, 0, [4], [], false), (80, .iload 5, 2, 0, [5], [], false), (82, .invokevirtual 54, 3, 0, [3], [], false), (85, .ifCond .eq 5, 3, 0, [90], [], false), (88, .iload_n 3, 1, 0, [3], [], false), (89, .ireturn, 1, 0, [], [], false), (90, .iinc 3 1, 3, 1, [], [], false), (93, .iload 5, 2, 0, [5], [], false), (95, .iconst 1, 1, 1, [], [], false), (96, .iadd, 1, 0, [], [], false), (97, .istore 4, 2, 0, [4, 1], [], false), (99, .iinc 5 1, 3, 1, [], [], false), (102, .goto (-47), 3, 0, [55], [], false), (105, .aload_n 0, 1, 0, [0], [], false), (106, .iload_n 2, 1, 0, [2], [], false), (107, .invokevirtual 37, 3, 0, [4], [], false), (110, .iconst (-1), 1, (-1), [], [], false), (111, .ireturn, 1, 0, [], [], false)]
def tp_readOneOf_y : MethodName := ⟨"SpanLayers$Tape", "readOneOf", "(Ljava/lang/String;)I"⟩
theorem tp_readOneOf_tb : sl_tbOK sl_R10 prog_12_method_12_code 6 (some .int) lk_tp [(29, 0), (45, 0), (50, 0), (54, 0), (37, 0)] tp_readOneOf_cd = true := by decide +kernel
theorem sg_length_w2 : Cond.instanceMethod sg_length_y ∈ sl_T0 := sl_in1 778 (by decide +kernel) rfl
theorem sg_length_w3 : Cond.selects sg_length_y.cls sg_length_y sg_length_y ∈ sl_T0 := sl_in1 779 (by decide +kernel) rfl
theorem sg_length_w4 : Cond.initialized sg_length_y.cls ∈ sl_T0 := sl_in1 101 (by decide +kernel) rfl
theorem sg_length_w5 : Cond.code sg_length_y prog_17_method_54_code 1 (some .int) ∈ sl_T0 := sl_in1 780 (by decide +kernel) rfl
theorem sg_length_w6 : sg_length_y.cls ≠ "java/lang/invoke/MethodHandle" ∧ sg_length_y.cls ≠ "java/lang/invoke/VarHandle" ∧ (parseMethodDescriptor sg_length_y.desc).map (fun d => d.parameters.length) = some 0 := by decide +kernel
theorem cs_tp_45 (g : sl_G) {hh : Nat} (h : 7 ≤ hh) : sl_CallS g sl_R10 45 0 90 hh 1 sg_length_pt := sl_callG (y := sg_length_y) sg_length_ho (sg_length_snd g) h (by decide) (sl_in1 777 (by decide +kernel) rfl) sg_length_w2 sg_length_w3 sg_length_w4 sg_length_w5 sg_length_w6 rfl
theorem tp_isSame_w2 : Cond.instanceMethod tp_isSame_y ∈ sl_T0 := sl_in1 827 (by decide +kernel) rfl
theorem tp_isSame_w3 : Cond.selects tp_isSame_y.cls tp_isSame_y tp_isSame_y ∈ sl_T0 := sl_in1 15 (by decide +kernel) rfl
theorem tp_isSame_w4 : Cond.initialized tp_isSame_y.cls ∈ sl_T0 := sl_in1 91 (by decide +kernel) rfl
theorem tp_isSame_w5 : Cond.code tp_isSame_y prog_12_method_13_code 6 (some .boolean) ∈ sl_T0 := sl_in1 828 (by decide +kernel) rfl
theorem tp_isSame_w6 : tp_isSame_y.cls ≠ "java/lang/invoke/MethodHandle" ∧ tp_isSame_y.cls ≠ "java/lang/invoke/VarHandle" ∧ (parseMethodDescriptor tp_isSame_y.desc).map (fun d => d.parameters.length) = some 4 := by decide +kernel
theorem cs_tp_54 (g : sl_G) {hh : Nat} (h : 8 ≤ hh) : sl_CallS g sl_R10 54 0 10 hh 5 tp_isSame_pt := sl_callV (y := tp_isSame_y) (T := sl_F10) (N := 4) (tp_isSame_snd g) h (by decide) (sl_in1 825 (by decide +kernel) rfl) tp_isSame_w2 tp_isSame_w3 tp_isSame_w4 tp_isSame_w5 tp_isSame_w6 rfl (by decide)
def tp_readOneOf_ct : List sl_Ct := [(1, 0, 10, tp_letter_pt), (1, 0, 90, sg_length_pt), (2, 0, 90, sg_charAt_pt), (5, 0, 10, tp_isSame_pt), (2, 0, 10, tp_fail_pt)]
theorem tp_readOneOf_hc (g : sl_G) : sl_HC g sl_R10 8 tp_readOneOf_ct [(29, 0), (45, 0), (50, 0), (54, 0), (37, 0)] := sl_HC_cons (cs_tp_29 g (by decide)) (sl_HC_cons (cs_tp_45 g (by decide)) (sl_HC_cons (cs_tp_50 g (by decide)) (sl_HC_cons (cs_tp_54 g (by decide)) (sl_HC_cons (cs_tp_37 g (by decide)) (sl_HC_nil g sl_R10 8)))))
set_option maxRecDepth 20000 in
set_option maxHeartbeats 2000000 in
theorem tp_readOneOf_snd (g : sl_G) : sl_Snd g tp_readOneOf_y prog_12_method_12_code 6 (some .int) 8 (tp_readOneOf_pt) := by
  intro As μ Q hw h
  unfold tp_readOneOf_pt at h
  split at h
  next c0 a0 c1 a1 =>
    split at h
    next e_ =>
      subst e_
      split at h
      next e_ =>
        subst e_
        split at h
        next e_ =>
          subst e_
          refine sl_mk2 g [true, true, false, false, false, false] (cst := [some (.inr (.inr (some (10, 43)))), some (.inr (.inr (some (90, a1))))]) (lv0 := [none, none, none, none, none, none]) (by decide) rfl hw rfl rfl rfl lk_tp_ok (tp_readOneOf_hc g) tp_readOneOf_tb rfl ?_
          intro X M
          have v55 := sl_extL M sl_VV0 55 (fun n lv st μ => match lv, st with | [_, _, some (.inl x2), some (.inl x3), some (.inl x4), some (.inl x5)], [] => tp_readOneOf_L55 a1 (fun r μ' => Q (some (.inl r)) μ') n x2 x3 x4 x5 μ | _, _ => False) (by
              intro lv st μ h
              split at h
              · exact h
              · exact h) (by
              intro n55 w55
              refine ⟨_, w55, ?_⟩
              intro lv st μ h
              split at h
              · exact h
              · exact h.elim)
          have v7 := sl_extL M v55 7 (fun n lv st μ => match lv, st with | [_, _, some (.inl x2), some (.inl x3), _, _], [] => tp_readOneOf_L7 a1 (fun r μ' => Q (some (.inl r)) μ') n x2 x3 μ | _, _ => False) (by
              intro lv st μ h
              split at h
              · exact h
              · exact h) (by
              intro n7 w7
              refine ⟨_, w7, ?_⟩
              intro lv st μ h
              split at h
              · exact h
              · exact h.elim)
          exact ⟨_, v7, h⟩
        next => exact h.elim
      next => exact h.elim
    next => exact h.elim
  next => exact h.elim
def cn_readTest_L25 (Q : Int32 → sl_M → Prop) : Nat → Int32 → Int32 → Int32 → Int32 → Int32 → sl_M → Prop
  | 0, _, _, _, _, _, _ => False
  | n + 1, x2, x3, x4, x5, x6, μ => (x6 < (30 : Int32) → vp_in x6 30 ∧ ((sl_bz (μ (4 + x6.toNatClampNeg) 1)) = (0 : Int32) → (cn_readTest_L25 Q n) x2 x3 x4 x5 (x6 + (1 : Int32)) μ) ∧ (¬ (sl_bz (μ (4 + x6.toNatClampNeg) 1)) = (0 : Int32) → sp_valueOf (4 + x6.toNatClampNeg) x2 μ (fun r2 m1 => cn_isSo r2 x3 x4 m1 (fun r4 m3 => (r4 = (0 : Int32) → (cn_readTest_L25 Q n) x2 x3 x4 x5 (x6 + (1 : Int32)) m3) ∧ (¬ r4 = (0 : Int32) → ∀ v5, v5 = (x5 ||| ((1 : Int32) <<< (x6 &&& 31))) → (cn_readTest_L25 Q n) x2 x3 x4 v5 (x6 + (1 : Int32)) m3))))) ∧ (¬ x6 < (30 : Int32) → Q x5 μ)
def cn_readTest (μ : sl_M) (Q : Int32 → sl_M → Prop) : Prop := tp_readOneOf 0 μ (fun r7 m6 => cn_readSign m6 (fun r9 m8 => tp_readSigned (3 : Int32) m8 (fun r11 m10 => ∃ n12, cn_readTest_L25 Q n12 r7 r9 r11 (0 : Int32) (0 : Int32) m10)))
def cn_readTest_pt : sl_PT := fun As μ Q => match As with
  | [.inr (.inr (some (c0, a0))), .inr (.inr (some (c1, a1)))] => if c0 = 10 then (if c1 = 5 then (if a0 = 43 then (if a1 = 1 then (cn_readTest μ (fun r μ' => Q (some (.inl r)) μ')) else False) else False) else False) else False
  | _ => False
def cn_readTest_cd : List sl_Ent := [(0, .aload_n 0, 1, 0, [0], [], false), (1, .ldc 47, 2, 0, [0], [], false), (3, .invokevirtual 49, 3, 0, [0], [], false), (6, .istore_n 2, 1, 0, [2], [], false), (7, .aload_n 0, 1, 0, [0], [], false), (8, .invokestatic 53, 3, 0, [1], [], false), (11, .istore_n 3, 1, 0, [3], [], false), (12, .aload_n 0, 1, 0, [0], [], false), (13, .iconst 3, 1, 3, [], [], false), (14, .invokevirtual 57, 3, 0, [2], [], false), (17, .istore 4, 2, 0, [4], [], false), (19, .iconst 0, 1, 0, [], [], false), (20, .istore 5, 2, 0, [5], [], false), (22, .iconst 0, 1, 0, [], [], false), (23, .istore 6, 2, 0, [6], [], false), (25, .iload 6, 2, 0, [6], [], true), (27, .bipush 30, 2, 30, [], [], false), (29, .if_icmp .ge 50, 3, 0, [79], [], false), (32, .aload_n 1, 1, 0, [1], [], false), (33, .getfield 61, 3, 0, [5, 0, 2, 22, 1], [], false), (36, .iload 6, 2, 0, [6], [], false), (38, .aaload, 1, 0, [], [], false), (39, .astore 7, 2, 0, [7], [], false), (41, .aload 7, 2, 0, [7], [], false), (43, .getfield 65, 3, 0, [9, 1, 1, 0, 0], [], false), (46, .ifCond .eq 27, 3, 0, [73], [], false), (49, .aload 7, 2, 0, [7], [], false), (51, .iload_n 2, 1, 0, [2], [], false), (52, .invokevirtual 71, 3, 0, [3], [], false), (55, .iload_n 3, 1, 0, [3], [], false), (56, .iload 4, 2, 0, [4], [], false), (58, .invokestatic 74, 3, 0, [4], [], false), (61, .ifCond .eq 12, 3, 0, [73], [], false), (64, .iload 5, 2, 0, [5], [], false), (66, .iconst 1, 1, 1, [], [], false), (67, .iload 6, 2, 0, [6], [], false), (69, .ishl, 1, 0, [], [], false), (70, .ior, 1, 0, [], [], false), (71, .istore 5, 2, 0, [5, 1], [], false), (73, .iinc 6 1, 3, 1, [], [], false), (76, .goto (-51), 3, 0, [25], [], false), (79, .iload 5, 2, 0, [5], [], false), (81, .ireturn, 1, 0, [], [], false)]
def cn_readTest_y : MethodName := ⟨"SpanLayers$Condition", "readTest", "(LSpanLayers$Tape;LSpanLayers$Index;)I"⟩
theorem cn_readTest_tb : sl_tbOK sl_R2 prog_4_method_7_code 8 (some .int) lk_cn [(49, 0), (53, 1), (57, 0), (71, 0), (74, 1)] cn_readTest_cd = true := by decide +kernel
theorem tp_readOneOf_w2 : Cond.instanceMethod tp_readOneOf_y ∈ sl_T0 := sl_in1 774 (by decide +kernel) rfl
theorem tp_readOneOf_w3 : Cond.selects tp_readOneOf_y.cls tp_readOneOf_y tp_readOneOf_y ∈ sl_T0 := sl_in1 775 (by decide +kernel) rfl
theorem tp_readOneOf_w4 : Cond.initialized tp_readOneOf_y.cls ∈ sl_T0 := sl_in1 91 (by decide +kernel) rfl
theorem tp_readOneOf_w5 : Cond.code tp_readOneOf_y prog_12_method_12_code 6 (some .int) ∈ sl_T0 := sl_in1 776 (by decide +kernel) rfl
theorem tp_readOneOf_w6 : tp_readOneOf_y.cls ≠ "java/lang/invoke/MethodHandle" ∧ tp_readOneOf_y.cls ≠ "java/lang/invoke/VarHandle" ∧ (parseMethodDescriptor tp_readOneOf_y.desc).map (fun d => d.parameters.length) = some 1 := by decide +kernel
theorem cs_cn_49 (g : sl_G) {hh : Nat} (h : 9 ≤ hh) : sl_CallS g sl_R2 49 0 10 hh 2 tp_readOneOf_pt := sl_callV (y := tp_readOneOf_y) (T := sl_F10) (N := 4) (tp_readOneOf_snd g) h (by decide) (sl_in1 773 (by decide +kernel) rfl) tp_readOneOf_w2 tp_readOneOf_w3 tp_readOneOf_w4 tp_readOneOf_w5 tp_readOneOf_w6 rfl (by decide)
theorem cn_readSign_w2 : Cond.static cn_readSign_y ∈ sl_T0 := sl_in1 830 (by decide +kernel) rfl
theorem cn_readSign_w4 : Cond.initialized cn_readSign_y.cls ∈ sl_T0 := sl_in1 92 (by decide +kernel) rfl
theorem cn_readSign_w5 : Cond.code cn_readSign_y prog_4_method_8_code 1 (some .int) ∈ sl_T0 := sl_in1 831 (by decide +kernel) rfl
theorem cn_readSign_w6 : cn_readSign_y.cls ≠ "java/lang/invoke/MethodHandle" ∧ cn_readSign_y.cls ≠ "java/lang/invoke/VarHandle" ∧ (parseMethodDescriptor cn_readSign_y.desc).map (fun d => d.parameters.length) = some 1 := by decide +kernel
theorem cs_cn_53 (g : sl_G) {hh : Nat} (h : 5 ≤ hh) : sl_CallS g sl_R2 53 1 0 hh 1 cn_readSign_pt := sl_callS (y := cn_readSign_y) (cn_readSign_snd g) h (by decide) (sl_in1 829 (by decide +kernel) rfl) cn_readSign_w2 cn_readSign_w4 cn_readSign_w5 cn_readSign_w6
theorem cs_cn_57 (g : sl_G) {hh : Nat} (h : 4 ≤ hh) : sl_CallS g sl_R2 57 0 10 hh 2 tp_readSigned_pt := sl_callV (y := tp_readSigned_y) (T := sl_F10) (N := 4) (tp_readSigned_snd g) h (by decide) (sl_in1 832 (by decide +kernel) rfl) tp_readSigned_w2 tp_readSigned_w3 tp_readSigned_w4 tp_readSigned_w5 tp_readSigned_w6 rfl (by decide)
theorem sp_valueOf_w2 : Cond.instanceMethod sp_valueOf_y ∈ sl_T0 := sl_in1 841 (by decide +kernel) rfl
theorem sp_valueOf_w3 : Cond.selects sp_valueOf_y.cls sp_valueOf_y sp_valueOf_y ∈ sl_T0 := sl_in1 842 (by decide +kernel) rfl
theorem sp_valueOf_w4 : Cond.initialized sp_valueOf_y.cls ∈ sl_T0 := sl_in1 88 (by decide +kernel) rfl
theorem sp_valueOf_w5 : Cond.code sp_valueOf_y prog_11_method_12_code 2 (some .int) ∈ sl_T0 := sl_in1 843 (by decide +kernel) rfl
theorem sp_valueOf_w6 : sp_valueOf_y.cls ≠ "java/lang/invoke/MethodHandle" ∧ sp_valueOf_y.cls ≠ "java/lang/invoke/VarHandle" ∧ (parseMethodDescriptor sp_valueOf_y.desc).map (fun d => d.parameters.length) = some 1 := by decide +kernel
theorem cs_cn_71 (g : sl_G) {hh : Nat} (h : 2 ≤ hh) : sl_CallS g sl_R2 71 0 9 hh 2 sp_valueOf_pt := sl_callV (y := sp_valueOf_y) (T := sl_F9) (N := 6) (sp_valueOf_snd g) h (by decide) (sl_in1 840 (by decide +kernel) rfl) sp_valueOf_w2 sp_valueOf_w3 sp_valueOf_w4 sp_valueOf_w5 sp_valueOf_w6 rfl (by decide)
theorem cn_isSo_w2 : Cond.static cn_isSo_y ∈ sl_T0 := sl_in1 845 (by decide +kernel) rfl
theorem cn_isSo_w4 : Cond.initialized cn_isSo_y.cls ∈ sl_T0 := sl_in1 92 (by decide +kernel) rfl
theorem cn_isSo_w5 : Cond.code cn_isSo_y prog_4_method_9_code 3 (some .boolean) ∈ sl_T0 := sl_in1 846 (by decide +kernel) rfl
theorem cn_isSo_w6 : cn_isSo_y.cls ≠ "java/lang/invoke/MethodHandle" ∧ cn_isSo_y.cls ≠ "java/lang/invoke/VarHandle" ∧ (parseMethodDescriptor cn_isSo_y.desc).map (fun d => d.parameters.length) = some 3 := by decide +kernel
theorem cs_cn_74 (g : sl_G) {hh : Nat} (h : 1 ≤ hh) : sl_CallS g sl_R2 74 1 0 hh 3 cn_isSo_pt := sl_callS (y := cn_isSo_y) (cn_isSo_snd g) h (by decide) (sl_in1 844 (by decide +kernel) rfl) cn_isSo_w2 cn_isSo_w4 cn_isSo_w5 cn_isSo_w6
def cn_readTest_ct : List sl_Ct := [(2, 0, 10, tp_readOneOf_pt), (1, 1, 0, cn_readSign_pt), (2, 0, 10, tp_readSigned_pt), (2, 0, 9, sp_valueOf_pt), (3, 1, 0, cn_isSo_pt)]
theorem cn_readTest_hc (g : sl_G) : sl_HC g sl_R2 9 cn_readTest_ct [(49, 0), (53, 1), (57, 0), (71, 0), (74, 1)] := sl_HC_cons (cs_cn_49 g (by decide)) (sl_HC_cons (cs_cn_53 g (by decide)) (sl_HC_cons (cs_cn_57 g (by decide)) (sl_HC_cons (cs_cn_71 g (by decide)) (sl_HC_cons (cs_cn_74 g (by decide)) (sl_HC_nil g sl_R2 9)))))
set_option maxRecDepth 20000 in
set_option maxHeartbeats 2000000 in
theorem cn_readTest_snd (g : sl_G) : sl_Snd g cn_readTest_y prog_4_method_7_code 8 (some .int) 9 (cn_readTest_pt) := by
  intro As μ Q hw h
  unfold cn_readTest_pt at h
  split at h
  next c0 a0 c1 a1 =>
    split at h
    next e_ =>
      subst e_
      split at h
      next e_ =>
        subst e_
        split at h
        next e_ =>
          subst e_
          split at h
          next e_ =>
            subst e_
            refine sl_mk2 g [true, true, false, false, false, false, false, false] (cst := [some (.inr (.inr (some (10, 43)))), some (.inr (.inr (some (5, 1))))]) (lv0 := [none, none, none, none, none, none, none, none]) (by decide) rfl hw rfl rfl rfl lk_cn_ok (cn_readTest_hc g) cn_readTest_tb rfl ?_
            intro X M
            have v25 := sl_extL M sl_VV0 25 (fun n lv st μ => match lv, st with | [_, _, some (.inl x2), some (.inl x3), some (.inl x4), some (.inl x5), some (.inl x6), _], [] => cn_readTest_L25 (fun r μ' => Q (some (.inl r)) μ') n x2 x3 x4 x5 x6 μ | _, _ => False) (by
                intro lv st μ h
                split at h
                · exact h
                · exact h) (by
                intro n25 w25
                refine ⟨_, w25, ?_⟩
                intro lv st μ h
                split at h
                · exact h
                · exact h.elim)
            exact ⟨_, v25, h⟩
          next => exact h.elim
        next => exact h.elim
      next => exact h.elim
    next => exact h.elim
  next => exact h.elim
def ch_readStep (a2 : Int32) (μ : sl_M) (Q : sl_M → Prop) : Prop := tp_readOneOf 1 μ (fun r2 m1 => vp_in a2 5 ∧ ∀ m3, m3 = sl_up m1 47 a2.toNatClampNeg r2 → vp_in a2 5 ∧ ((m3 47 a2.toNatClampNeg) = (0 : Int32) → tp_expect (32 : Int32) m3 (fun m4 => tp_readSigned (3 : Int32) m4 (fun r6 m5 => vp_in a2 5 ∧ ∀ m7, m7 = sl_up m5 48 a2.toNatClampNeg r6 → Q m7))) ∧ (¬ (m3 47 a2.toNatClampNeg) = (0 : Int32) → ((m3 47 a2.toNatClampNeg) = (1 : Int32) → tp_expect (32 : Int32) m3 (fun m8 => tp_readNumber (3 : Int32) m8 (fun r10 m9 => vp_in a2 5 ∧ ∀ m11, m11 = sl_up m9 48 a2.toNatClampNeg r10 → Q m11))) ∧ (¬ (m3 47 a2.toNatClampNeg) = (1 : Int32) → ((m3 47 a2.toNatClampNeg) = (2 : Int32) → tp_expect (32 : Int32) m3 (fun m12 => tp_readNumber (3 : Int32) m12 (fun r14 m13 => vp_in a2 5 ∧ ∀ m15, m15 = sl_up m13 48 a2.toNatClampNeg r14 → tp_expect (45 : Int32) m15 (fun m16 => vp_in a2 5 ∧ tp_readNotLess (m16 48 a2.toNatClampNeg) m16 (fun r18 m17 => vp_in a2 5 ∧ ∀ m19, m19 = sl_up m17 49 a2.toNatClampNeg r18 → Q m19))))) ∧ (¬ (m3 47 a2.toNatClampNeg) = (2 : Int32) → ((m3 47 a2.toNatClampNeg) = (3 : Int32) → Q m3) ∧ (¬ (m3 47 a2.toNatClampNeg) = (3 : Int32) → ((m3 47 a2.toNatClampNeg) = (4 : Int32) → tp_expect (32 : Int32) m3 (fun m20 => tp_readNumber (3 : Int32) m20 (fun r22 m21 => vp_in a2 5 ∧ ∀ m23, m23 = sl_up m21 48 a2.toNatClampNeg r22 → Q m23))) ∧ (¬ (m3 47 a2.toNatClampNeg) = (4 : Int32) → Q m3))))))
def ch_readStep_pt : sl_PT := fun As μ Q => match As with
  | [.inr (.inr (some (c0, a0))), .inr (.inr (some (c1, a1))), .inl a2] => if c0 = 0 then (if c1 = 10 then (if a0 = 46 then (if a1 = 43 then (ch_readStep a2 μ (fun μ' => Q none μ')) else False) else False) else False) else False
  | _ => False
def ch_readStep_cd : List sl_Ent := [(0, .aload_n 0, 1, 0, [0], [], false), (1, .getfield 9, 3, 0, [0, 0, 2, 20, 1], [], false), (4, .iload_n 2, 1, 0, [2], [], false), (5, .aload_n 1, 1, 0, [1], [], false), (6, .ldc 38, 2, 0, [1], [], false), (8, .invokevirtual 40, 3, 0, [0], [], false), (11, .iastore, 1, 0, [], [], false), (12, .aload_n 0, 1, 0, [0], [], false), (13, .getfield 9, 3, 0, [0, 0, 2, 20, 1], [], false), (16, .iload_n 2, 1, 0, [2], [], false), (17, .iaload, 1, 0, [], [], false), (18, .tableswitch 116 0 4 #[34, 54, 74, 116, 54], 34, 0, [134], [(0, 52), (1, 72), (2, 92), (3, 134), (4, 72)], false), (52, .aload_n 1, 1, 0, [1], [], false), (53, .bipush 32, 2, 32, [], [], false), (55, .invokevirtual 44, 3, 0, [1], [], false), (58, .aload_n 0, 1, 0, [0], [], false), (59, .getfield 15, 3, 0, [0, 1, 2, 20, 2], [], false), (62, .iload_n 2, 1, 0, [2], [], false), (63, .aload_n 1, 1, 0, [1], [], false), (64, .iconst 3, 1, 3, [], [], false), (65, .invokevirtual 48, 3, 0, [2], [], false), (68, .iastore, 1, 0, [], [], false), (69, .goto 65, 3, 0, [134], [], false), (72, .aload_n 1, 1, 0, [1], [], false), (73, .bipush 32, 2, 32, [], [], false), (75, .invokevirtual 44, 3, 0, [1], [], false), (78, .aload_n 0, 1, 0, [0], [], false), (79, .getfield 15, 3, 0, [0, 1, 2, 20, 2], [], false), (82, .iload_n 2, 1, 0, [2], [], false), (83, .aload_n 1, 1, 0, [1], [], false), (84, .iconst 3, 1, 3, [], [], false), (85, .invokevirtual 52, 3, 0, [3], [], false), (88, .iastore, 1, 0, [], [], false), (89, .goto 45, 3, 0, [134], [], false), (92, .aload_n 1, 1, 0, [1], [], false), (93, .bipush 32, 2, 32, [], [], false), (95, .invokevirtual 44, 3, 0, [1], [], false), (98, .aload_n 0, 1, 0, [0], [], false), (99, .getfield 15, 3, 0, [0, 1, 2, 20, 2], [], false), (102, .iload_n 2, 1, 0, [2], [], false), (103, .aload_n 1, 1, 0, [1], [], false), (104, .iconst 3, 1, 3, [], [], false), (105, .invokevirtual 52, 3, 0, [3], [], false), (108, .iastore, 1, 0, [], [], false), (109, .aload_n 1, 1, 0, [1], [], false), (110, .bipush 45, 2, 45, [], [], false), (112, .invokevirtual 44, 3, 0, [1], [], false), (115, .aload_n 0, 1, 0, [0], [], false), (116, .getfield 18, 3, 0, [0, 2, 2, 20, 3], [], false), (119, .iload_n 2, 1, 0, [2], [], false), (120, .aload_n 1, 1, 0, [1], [], false), (121, .aload_n 0, 1, 0, [0], [], false), (122, .getfield 15, 3, 0, [0, 1, 2, 20, 2], [], false), (125, .iload_n 2, 1, 0, [2], [], false), (126, .iaload, 1, 0, [], [], false), (127, .invokevirtual 55, 3, 0, [4], [], false), (130, .iastore, 1, 0, [], [], false), (131, .goto 3, 3, 0, [134], [], false), (134, .return_, 1, 0, [], [], false)]
def ch_readStep_y : MethodName := ⟨"SpanLayers$Change", "readStep", "(LSpanLayers$Tape;I)V"⟩
theorem ch_readStep_tb : sl_tbOK sl_R0 prog_2_method_3_code 3 none lk_ch [(40, 0), (44, 0), (48, 0), (52, 0), (55, 0)] ch_readStep_cd = true := by decide +kernel
theorem cs_ch_40 (g : sl_G) {hh : Nat} (h : 9 ≤ hh) : sl_CallS g sl_R0 40 0 10 hh 2 tp_readOneOf_pt := sl_callV (y := tp_readOneOf_y) (T := sl_F10) (N := 4) (tp_readOneOf_snd g) h (by decide) (sl_in1 874 (by decide +kernel) rfl) tp_readOneOf_w2 tp_readOneOf_w3 tp_readOneOf_w4 tp_readOneOf_w5 tp_readOneOf_w6 rfl (by decide)
theorem cs_ch_44 (g : sl_G) {hh : Nat} (h : 4 ≤ hh) : sl_CallS g sl_R0 44 0 10 hh 2 tp_expect_pt := sl_callV (y := tp_expect_y) (T := sl_F10) (N := 4) (tp_expect_snd g) h (by decide) (sl_in1 875 (by decide +kernel) rfl) tp_expect_w2 tp_expect_w3 tp_expect_w4 tp_expect_w5 tp_expect_w6 rfl (by decide)
theorem cs_ch_48 (g : sl_G) {hh : Nat} (h : 4 ≤ hh) : sl_CallS g sl_R0 48 0 10 hh 2 tp_readSigned_pt := sl_callV (y := tp_readSigned_y) (T := sl_F10) (N := 4) (tp_readSigned_snd g) h (by decide) (sl_in1 876 (by decide +kernel) rfl) tp_readSigned_w2 tp_readSigned_w3 tp_readSigned_w4 tp_readSigned_w5 tp_readSigned_w6 rfl (by decide)
theorem cs_ch_52 (g : sl_G) {hh : Nat} (h : 3 ≤ hh) : sl_CallS g sl_R0 52 0 10 hh 2 tp_readNumber_pt := sl_callV (y := tp_readNumber_y) (T := sl_F10) (N := 4) (tp_readNumber_snd g) h (by decide) (sl_in1 877 (by decide +kernel) rfl) tp_readNumber_w2 tp_readNumber_w3 tp_readNumber_w4 tp_readNumber_w5 tp_readNumber_w6 rfl (by decide)
theorem cs_ch_55 (g : sl_G) {hh : Nat} (h : 4 ≤ hh) : sl_CallS g sl_R0 55 0 10 hh 2 tp_readNotLess_pt := sl_callV (y := tp_readNotLess_y) (T := sl_F10) (N := 4) (tp_readNotLess_snd g) h (by decide) (sl_in1 878 (by decide +kernel) rfl) tp_readNotLess_w2 tp_readNotLess_w3 tp_readNotLess_w4 tp_readNotLess_w5 tp_readNotLess_w6 rfl (by decide)
def ch_readStep_ct : List sl_Ct := [(2, 0, 10, tp_readOneOf_pt), (2, 0, 10, tp_expect_pt), (2, 0, 10, tp_readSigned_pt), (2, 0, 10, tp_readNumber_pt), (2, 0, 10, tp_readNotLess_pt)]
theorem ch_readStep_hc (g : sl_G) : sl_HC g sl_R0 9 ch_readStep_ct [(40, 0), (44, 0), (48, 0), (52, 0), (55, 0)] := sl_HC_cons (cs_ch_40 g (by decide)) (sl_HC_cons (cs_ch_44 g (by decide)) (sl_HC_cons (cs_ch_48 g (by decide)) (sl_HC_cons (cs_ch_52 g (by decide)) (sl_HC_cons (cs_ch_55 g (by decide)) (sl_HC_nil g sl_R0 9)))))
set_option maxRecDepth 20000 in
set_option maxHeartbeats 2000000 in
theorem ch_readStep_snd (g : sl_G) : sl_Snd g ch_readStep_y prog_2_method_3_code 3 none 9 (ch_readStep_pt) := by
  intro As μ Q hw h
  unfold ch_readStep_pt at h
  split at h
  next c0 a0 c1 a1 a2 =>
    split at h
    next e_ =>
      subst e_
      split at h
      next e_ =>
        subst e_
        split at h
        next e_ =>
          subst e_
          split at h
          next e_ =>
            subst e_
            refine sl_mk2 g [true, true, true] (cst := [some (.inr (.inr (some (0, 46)))), some (.inr (.inr (some (10, 43)))), some (.inl a2)]) (lv0 := [none, none, none]) (by decide) rfl hw rfl rfl rfl lk_ch_ok (ch_readStep_hc g) ch_readStep_tb rfl ?_
            intro X M
            exact ⟨_, sl_VV0, h⟩
          next => exact h.elim
        next => exact h.elim
      next => exact h.elim
    next => exact h.elim
  next => exact h.elim
def ch_readFrom_L9 (Q : sl_M → Prop) : Nat → Int32 → Int32 → sl_M → Prop
  | 0, _, _, _ => False
  | n + 1, x2, x3, μ => (x3 < (5 : Int32) → (x2 = (0 : Int32) → tp_expectEnd μ (fun m1 => Q m1)) ∧ (¬ x2 = (0 : Int32) → ch_readStep x3 μ (fun m2 => ∀ m3, m3 = sl_up m2 46 3 ((m2 46 3) + (1 : Int32)) → ((m3 46 3) < (5 : Int32) → tp_skip (59 : Int32) m3 (fun r5 m4 => (r5 = (0 : Int32) → (ch_readFrom_L9 Q n) (0 : Int32) (x3 + (1 : Int32)) m4) ∧ (¬ r5 = (0 : Int32) → (ch_readFrom_L9 Q n) (1 : Int32) (x3 + (1 : Int32)) m4))) ∧ (¬ (m3 46 3) < (5 : Int32) → (ch_readFrom_L9 Q n) (0 : Int32) (x3 + (1 : Int32)) m3)))) ∧ (¬ x3 < (5 : Int32) → tp_expectEnd μ (fun m6 => Q m6))
def ch_readFrom (μ : sl_M) (Q : sl_M → Prop) : Prop := ∀ m7, m7 = sl_up μ 46 3 (0 : Int32) → ∃ n8, ch_readFrom_L9 Q n8 (1 : Int32) (0 : Int32) m7
def ch_readFrom_pt : sl_PT := fun As μ Q => match As with
  | [.inr (.inr (some (c0, a0))), .inr (.inr (some (c1, a1)))] => if c0 = 0 then (if c1 = 10 then (if a0 = 46 then (if a1 = 43 then (ch_readFrom μ (fun μ' => Q none μ')) else False) else False) else False) else False
  | _ => False
def ch_readFrom_cd : List sl_Ent := [(0, .aload_n 0, 1, 0, [0], [], false), (1, .iconst 0, 1, 0, [], [], false), (2, .putfield 21, 3, 0, [0, 3, 0], [], false), (5, .iconst 1, 1, 1, [], [], false), (6, .istore_n 2, 1, 0, [2], [], false), (7, .iconst 0, 1, 0, [], [], false), (8, .istore_n 3, 1, 0, [3], [], false), (9, .iload_n 3, 1, 0, [3], [], true), (10, .iconst 5, 1, 5, [], [], false), (11, .if_icmp .ge 52, 3, 0, [63], [], false), (14, .iload_n 2, 1, 0, [2], [], false), (15, .ifCond .eq 48, 3, 0, [63], [], false), (18, .aload_n 0, 1, 0, [0], [], false), (19, .aload_n 1, 1, 0, [1], [], false), (20, .iload_n 3, 1, 0, [3], [], false), (21, .invokevirtual 25, 3, 0, [0], [], false), (24, .aload_n 0, 1, 0, [0], [], false), (25, .dup, 1, 0, [], [], false), (26, .getfield 21, 3, 0, [0, 3, 0, 0, 0], [], false), (29, .iconst 1, 1, 1, [], [], false), (30, .iadd, 1, 0, [], [], false), (31, .putfield 21, 3, 0, [0, 3, 0], [], false), (34, .aload_n 0, 1, 0, [0], [], false), (35, .getfield 21, 3, 0, [0, 3, 0, 0, 0], [], false), (38, .iconst 5, 1, 5, [], [], false), (39, .if_icmp .ge 16, 3, 0, [55], [], false), (42, .aload_n 1, 1, 0, [1], [], false), (43, .bipush 59, 2, 59, [], [], false), (45, .invokevirtual 29, 3, 0, [1], [], false), (48, .ifCond .eq 7, 3, 0, [55], [], false), (51, .iconst 1, 1, 1, [], [], false), (52, .goto 4, 3, 0, [56], [], false), (55, .iconst 0, 1, 0, [], [], false), (56, .istore_n 2, 1, 0, [2], [], false), (57, .iinc 3 1, 3, 1, [], [], false), (60, .goto (-51), 3, 0, [9], [], false), (63, .aload_n 1, 1, 0, [1], [], false), (64, .invokevirtual 35, 3, 0, [2], [], false), (67, .return_, 1, 0, [], [], false)]
def ch_readFrom_y : MethodName := ⟨"SpanLayers$Change", "readFrom", "(LSpanLayers$Tape;)V"⟩
theorem ch_readFrom_tb : sl_tbOK sl_R0 prog_2_method_2_code 4 none lk_ch [(25, 0), (29, 0), (35, 0)] ch_readFrom_cd = true := by decide +kernel
theorem ch_readStep_w2 : Cond.instanceMethod ch_readStep_y ∈ sl_T0 := sl_in1 871 (by decide +kernel) rfl
theorem ch_readStep_w3 : Cond.selects ch_readStep_y.cls ch_readStep_y ch_readStep_y ∈ sl_T0 := sl_in1 16 (by decide +kernel) rfl
theorem ch_readStep_w4 : Cond.initialized ch_readStep_y.cls ∈ sl_T0 := sl_in1 93 (by decide +kernel) rfl
theorem ch_readStep_w5 : Cond.code ch_readStep_y prog_2_method_3_code 3 none ∈ sl_T0 := sl_in1 872 (by decide +kernel) rfl
theorem ch_readStep_w6 : ch_readStep_y.cls ≠ "java/lang/invoke/MethodHandle" ∧ ch_readStep_y.cls ≠ "java/lang/invoke/VarHandle" ∧ (parseMethodDescriptor ch_readStep_y.desc).map (fun d => d.parameters.length) = some 2 := by decide +kernel
theorem cs_ch_25 (g : sl_G) {hh : Nat} (h : 10 ≤ hh) : sl_CallS g sl_R0 25 0 0 hh 3 ch_readStep_pt := sl_callV (y := ch_readStep_y) (T := sl_F0) (N := 4) (ch_readStep_snd g) h (by decide) (sl_in1 869 (by decide +kernel) rfl) ch_readStep_w2 ch_readStep_w3 ch_readStep_w4 ch_readStep_w5 ch_readStep_w6 rfl (by decide)
theorem cs_ch_29 (g : sl_G) {hh : Nat} (h : 3 ≤ hh) : sl_CallS g sl_R0 29 0 10 hh 2 tp_skip_pt := sl_callV (y := tp_skip_y) (T := sl_F10) (N := 4) (tp_skip_snd g) h (by decide) (sl_in1 882 (by decide +kernel) rfl) tp_skip_w2 tp_skip_w3 tp_skip_w4 tp_skip_w5 tp_skip_w6 rfl (by decide)
theorem cs_ch_35 (g : sl_G) {hh : Nat} (h : 2 ≤ hh) : sl_CallS g sl_R0 35 0 10 hh 1 tp_expectEnd_pt := sl_callV (y := tp_expectEnd_y) (T := sl_F10) (N := 4) (tp_expectEnd_snd g) h (by decide) (sl_in1 883 (by decide +kernel) rfl) tp_expectEnd_w2 tp_expectEnd_w3 tp_expectEnd_w4 tp_expectEnd_w5 tp_expectEnd_w6 rfl (by decide)
def ch_readFrom_ct : List sl_Ct := [(3, 0, 0, ch_readStep_pt), (2, 0, 10, tp_skip_pt), (1, 0, 10, tp_expectEnd_pt)]
theorem ch_readFrom_hc (g : sl_G) : sl_HC g sl_R0 10 ch_readFrom_ct [(25, 0), (29, 0), (35, 0)] := sl_HC_cons (cs_ch_25 g (by decide)) (sl_HC_cons (cs_ch_29 g (by decide)) (sl_HC_cons (cs_ch_35 g (by decide)) (sl_HC_nil g sl_R0 10)))
set_option maxRecDepth 20000 in
set_option maxHeartbeats 2000000 in
theorem ch_readFrom_snd (g : sl_G) : sl_Snd g ch_readFrom_y prog_2_method_2_code 4 none 10 (ch_readFrom_pt) := by
  intro As μ Q hw h
  unfold ch_readFrom_pt at h
  split at h
  next c0 a0 c1 a1 =>
    split at h
    next e_ =>
      subst e_
      split at h
      next e_ =>
        subst e_
        split at h
        next e_ =>
          subst e_
          split at h
          next e_ =>
            subst e_
            refine sl_mk2 g [true, true, false, false] (cst := [some (.inr (.inr (some (0, 46)))), some (.inr (.inr (some (10, 43))))]) (lv0 := [none, none, none, none]) (by decide) rfl hw rfl rfl rfl lk_ch_ok (ch_readFrom_hc g) ch_readFrom_tb rfl ?_
            intro X M
            have v9 := sl_extL M sl_VV0 9 (fun n lv st μ => match lv, st with | [_, _, some (.inl x2), some (.inl x3)], [] => ch_readFrom_L9 (fun μ' => Q none μ') n x2 x3 μ | _, _ => False) (by
                intro lv st μ h
                split at h
                · exact h
                · exact h) (by
                intro n9 w9
                refine ⟨_, w9, ?_⟩
                intro lv st μ h
                split at h
                · exact h
                · exact h.elim)
            exact ⟨_, v9, h⟩
          next => exact h.elim
        next => exact h.elim
      next => exact h.elim
    next => exact h.elim
  next => exact h.elim
end
section
/-! the recursive readers of a condition: over what readEither does one bracket deeper (E) -/
def cn_readEither_y : MethodName := ⟨"SpanLayers$Condition", "readEither", "(LSpanLayers$Tape;LSpanLayers$Index;I)I"⟩
def cn_readEither_ptE (E : sl_ET) : sl_PT := fun As μ Q => match As with
  | [.inr (.inr (some (c0, a0))), .inr (.inr (some (c1, a1))), .inr (.inr (some (c2, a2))), .inl a3] => if c0 = 2 then (if c1 = 10 then (if c2 = 5 then (if a0 = 45 then (if a1 = 43 then (if a2 = 1 then (E a3 μ (fun r μ' => Q (some (.inl r)) μ')) else False) else False) else False) else False) else False) else False
  | _ => False
def cn_readPlain (E : sl_ET) (a3 : Int32) (μ : sl_M) (Q : Int32 → sl_M → Prop) : Prop := (a3 < (5 : Int32) → tp_skip (40 : Int32) μ (fun r2 m1 => (r2 = (0 : Int32) → cn_readTest m1 (fun r4 m3 => Q r4 m3)) ∧ (¬ r2 = (0 : Int32) → E (a3 + (1 : Int32)) m1 (fun r6 m5 => tp_expect (41 : Int32) m5 (fun m7 => Q r6 m7))))) ∧ (¬ a3 < (5 : Int32) → cn_readTest μ (fun r9 m8 => Q r9 m8))
def cn_readPlain_pt (E : sl_ET) : sl_PT := fun As μ Q => match As with
  | [.inr (.inr (some (c0, a0))), .inr (.inr (some (c1, a1))), .inr (.inr (some (c2, a2))), .inl a3] => if c0 = 2 then (if c1 = 10 then (if c2 = 5 then (if a0 = 45 then (if a1 = 43 then (if a2 = 1 then (cn_readPlain E a3 μ (fun r μ' => Q (some (.inl r)) μ')) else False) else False) else False) else False) else False) else False
  | _ => False
theorem cn_readEither_w2 : Cond.instanceMethod cn_readEither_y ∈ sl_T0 := sl_in1 733 (by decide +kernel) rfl
theorem cn_readEither_w3 : Cond.selects cn_readEither_y.cls cn_readEither_y cn_readEither_y ∈ sl_T0 := sl_in1 10 (by decide +kernel) rfl
theorem cn_readEither_w4 : Cond.initialized cn_readEither_y.cls ∈ sl_T0 := sl_in1 92 (by decide +kernel) rfl
theorem cn_readEither_w5 : Cond.code cn_readEither_y prog_4_method_3_code 6 (some .int) ∈ sl_T0 := sl_in1 734 (by decide +kernel) rfl
theorem cn_readEither_w6 : cn_readEither_y.cls ≠ "java/lang/invoke/MethodHandle" ∧ cn_readEither_y.cls ≠ "java/lang/invoke/VarHandle" ∧ (parseMethodDescriptor cn_readEither_y.desc).map (fun d => d.parameters.length) = some 3 := by decide +kernel
theorem cn_readTest_w2 : Cond.static cn_readTest_y ∈ sl_T0 := sl_in1 770 (by decide +kernel) rfl
theorem cn_readTest_w4 : Cond.initialized cn_readTest_y.cls ∈ sl_T0 := sl_in1 92 (by decide +kernel) rfl
theorem cn_readTest_w5 : Cond.code cn_readTest_y prog_4_method_7_code 8 (some .int) ∈ sl_T0 := sl_in1 771 (by decide +kernel) rfl
theorem cn_readTest_w6 : cn_readTest_y.cls ≠ "java/lang/invoke/MethodHandle" ∧ cn_readTest_y.cls ≠ "java/lang/invoke/VarHandle" ∧ (parseMethodDescriptor cn_readTest_y.desc).map (fun d => d.parameters.length) = some 2 := by decide +kernel
theorem cs_cn_43 (g : sl_G) {hh : Nat} (h : 10 ≤ hh) : sl_CallS g sl_R2 43 1 0 hh 2 cn_readTest_pt := sl_callS (y := cn_readTest_y) (cn_readTest_snd g) h (by decide) (sl_in1 769 (by decide +kernel) rfl) cn_readTest_w2 cn_readTest_w4 cn_readTest_w5 cn_readTest_w6
def cn_readPlain_cd : List sl_Ent := [(0, .iload_n 3, 1, 0, [3], [], false), (1, .iconst 5, 1, 5, [], [], false), (2, .if_icmp .ge 32, 3, 0, [34], [], false), (5, .aload_n 1, 1, 0, [1], [], false), (6, .bipush 40, 2, 40, [], [], false), (8, .invokevirtual 23, 3, 0, [0], [], false), (11, .ifCond .eq 23, 3, 0, [34], [], false), (14, .aload_n 0, 1, 0, [0], [], false), (15, .aload_n 1, 1, 0, [1], [], false), (16, .aload_n 2, 1, 0, [2], [], false), (17, .iload_n 3, 1, 0, [3], [], false), (18, .iconst 1, 1, 1, [], [], false), (19, .iadd, 1, 0, [], [], false), (20, .invokevirtual 9, 3, 0, [1], [], false), (23, .istore 4, 2, 0, [4], [], false), (25, .aload_n 1, 1, 0, [1], [], false), (26, .bipush 41, 2, 41, [], [], false), (28, .invokevirtual 39, 3, 0, [2], [], false), (31, .iload 4, 2, 0, [4], [], false), (33, .ireturn, 1, 0, [], [], false), (34, .aload_n 1, 1, 0, [1], [], false), (35, .aload_n 2, 1, 0, [2], [], false), (36, .invokestatic 43, 3, 0, [3], [], false), (39, .ireturn, 1, 0, [], [], false)]
def cn_readPlain_y : MethodName := ⟨"SpanLayers$Condition", "readPlain", "(LSpanLayers$Tape;LSpanLayers$Index;I)I"⟩
theorem cn_readPlain_tb : sl_tbOK sl_R2 prog_4_method_6_code 5 (some .int) lk_cn [(23, 0), (9, 0), (39, 0), (43, 1)] cn_readPlain_cd = true := by decide +kernel
def cn_readPlain_ct (E : sl_ET) : List sl_Ct := [(2, 0, 10, tp_skip_pt), (4, 0, 2, (cn_readEither_ptE E)), (2, 0, 10, tp_expect_pt), (2, 1, 0, cn_readTest_pt)]
theorem cn_readPlain_hc (g : sl_G) (E : sl_ET) (hN : Nat) (h20 : 20 ≤ hN) (hE : sl_Snd g cn_readEither_y prog_4_method_3_code 6 (some .int) hN (cn_readEither_ptE E)) : sl_HC g sl_R2 (hN + 1) (cn_readPlain_ct E) [(23, 0), (9, 0), (39, 0), (43, 1)] := sl_HC_cons (cs_cn_23 g (Nat.le_trans (show 3 ≤ 20 by decide) (by omega))) (sl_HC_cons (sl_callV (y := cn_readEither_y) (T := sl_F2) (N := 0) hE (by omega) (by decide) (sl_in1 731 (by decide +kernel) rfl) cn_readEither_w2 cn_readEither_w3 cn_readEither_w4 cn_readEither_w5 cn_readEither_w6 rfl (by decide)) (sl_HC_cons (cs_cn_39 g (Nat.le_trans (show 4 ≤ 20 by decide) (by omega))) (sl_HC_cons (cs_cn_43 g (Nat.le_trans (show 10 ≤ 20 by decide) (by omega))) (sl_HC_nil g sl_R2 (hN + 1)))))
set_option maxRecDepth 20000 in
set_option maxHeartbeats 2000000 in
theorem cn_readPlain_snd (g : sl_G) (E : sl_ET) (hN : Nat) (h20 : 20 ≤ hN) (hE : sl_Snd g cn_readEither_y prog_4_method_3_code 6 (some .int) hN (cn_readEither_ptE E)) : sl_Snd g cn_readPlain_y prog_4_method_6_code 5 (some .int) (hN + 1) (cn_readPlain_pt E) := by
  intro As μ Q hw h
  unfold cn_readPlain_pt at h
  split at h
  next c0 a0 c1 a1 c2 a2 a3 =>
    split at h
    next e_ =>
      subst e_
      split at h
      next e_ =>
        subst e_
        split at h
        next e_ =>
          subst e_
          split at h
          next e_ =>
            subst e_
            split at h
            next e_ =>
              subst e_
              split at h
              next e_ =>
                subst e_
                refine sl_mk2 g [true, true, true, true, false] (cst := [some (.inr (.inr (some (2, 45)))), some (.inr (.inr (some (10, 43)))), some (.inr (.inr (some (5, 1)))), some (.inl a3)]) (lv0 := [none, none, none, none, none]) (by decide) rfl hw rfl rfl rfl lk_cn_ok (cn_readPlain_hc g E hN h20 hE) cn_readPlain_tb rfl ?_
                intro X M
                exact ⟨_, sl_VV0, h⟩
              next => exact h.elim
            next => exact h.elim
          next => exact h.elim
        next => exact h.elim
      next => exact h.elim
    next => exact h.elim
  next => exact h.elim
def cn_readFactor (E : sl_ET) (a3 : Int32) (μ : sl_M) (Q : Int32 → sl_M → Prop) : Prop := tp_skip (33 : Int32) μ (fun r2 m1 => (r2 = (0 : Int32) → cn_readPlain E a3 m1 (fun r4 m3 => Q r4 m3)) ∧ (¬ r2 = (0 : Int32) → ix_allBits m1 (fun r6 m5 => cn_readPlain E a3 m5 (fun r8 m7 => Q (r6 &&& (r8 ^^^ (-1 : Int32))) m7))))
def cn_readFactor_pt (E : sl_ET) : sl_PT := fun As μ Q => match As with
  | [.inr (.inr (some (c0, a0))), .inr (.inr (some (c1, a1))), .inr (.inr (some (c2, a2))), .inl a3] => if c0 = 2 then (if c1 = 10 then (if c2 = 5 then (if a0 = 45 then (if a1 = 43 then (if a2 = 1 then (cn_readFactor E a3 μ (fun r μ' => Q (some (.inl r)) μ')) else False) else False) else False) else False) else False) else False
  | _ => False
theorem ix_allBits_w2 : Cond.instanceMethod ix_allBits_y ∈ sl_T0 := sl_in1 753 (by decide +kernel) rfl
theorem ix_allBits_w3 : Cond.selects ix_allBits_y.cls ix_allBits_y ix_allBits_y ∈ sl_T0 := sl_in1 754 (by decide +kernel) rfl
theorem ix_allBits_w4 : Cond.initialized ix_allBits_y.cls ∈ sl_T0 := sl_in1 87 (by decide +kernel) rfl
theorem ix_allBits_w5 : Cond.code ix_allBits_y prog_7_method_10_code 1 (some .int) ∈ sl_T0 := sl_in1 755 (by decide +kernel) rfl
theorem ix_allBits_w6 : ix_allBits_y.cls ≠ "java/lang/invoke/MethodHandle" ∧ ix_allBits_y.cls ≠ "java/lang/invoke/VarHandle" ∧ (parseMethodDescriptor ix_allBits_y.desc).map (fun d => d.parameters.length) = some 0 := by decide +kernel
theorem cs_cn_30 (g : sl_G) {hh : Nat} (h : 3 ≤ hh) : sl_CallS g sl_R2 30 0 5 hh 1 ix_allBits_pt := sl_callV (y := ix_allBits_y) (T := sl_F5) (N := 2) (ix_allBits_snd g) h (by decide) (sl_in1 752 (by decide +kernel) rfl) ix_allBits_w2 ix_allBits_w3 ix_allBits_w4 ix_allBits_w5 ix_allBits_w6 rfl (by decide)
theorem cn_readPlain_w2 : Cond.instanceMethod cn_readPlain_y ∈ sl_T0 := sl_in1 758 (by decide +kernel) rfl
theorem cn_readPlain_w3 : Cond.selects cn_readPlain_y.cls cn_readPlain_y cn_readPlain_y ∈ sl_T0 := sl_in1 14 (by decide +kernel) rfl
theorem cn_readPlain_w4 : Cond.initialized cn_readPlain_y.cls ∈ sl_T0 := sl_in1 92 (by decide +kernel) rfl
theorem cn_readPlain_w5 : Cond.code cn_readPlain_y prog_4_method_6_code 5 (some .int) ∈ sl_T0 := sl_in1 759 (by decide +kernel) rfl
theorem cn_readPlain_w6 : cn_readPlain_y.cls ≠ "java/lang/invoke/MethodHandle" ∧ cn_readPlain_y.cls ≠ "java/lang/invoke/VarHandle" ∧ (parseMethodDescriptor cn_readPlain_y.desc).map (fun d => d.parameters.length) = some 3 := by decide +kernel
def cn_readFactor_cd : List sl_Ent := [(0, .aload_n 1, 1, 0, [1], [], false), (1, .bipush 33, 2, 33, [], [], false), (3, .invokevirtual 23, 3, 0, [0], [], false), (6, .ifCond .eq 18, 3, 0, [24], [], false), (9, .aload_n 2, 1, 0, [2], [], false), (10, .invokevirtual 30, 3, 0, [1], [], false), (13, .aload_n 0, 1, 0, [0], [], false), (14, .aload_n 1, 1, 0, [1], [], false), (15, .aload_n 2, 1, 0, [2], [], false), (16, .iload_n 3, 1, 0, [3], [], false), (17, .invokevirtual 36, 3, 0, [2], [], false), (20, .iconst (-1), 1, (-1), [], [], false), (21, .ixor, 1, 0, [], [], false), (22, .iand, 1, 0, [], [], false), (23, .ireturn, 1, 0, [], [], false), (24, .aload_n 0, 1, 0, [0], [], false), (25, .aload_n 1, 1, 0, [1], [], false), (26, .aload_n 2, 1, 0, [2], [], false), (27, .iload_n 3, 1, 0, [3], [], false), (28, .invokevirtual 36, 3, 0, [2], [], false), (31, .ireturn, 1, 0, [], [], false)]
def cn_readFactor_y : MethodName := ⟨"SpanLayers$Condition", "readFactor", "(LSpanLayers$Tape;LSpanLayers$Index;I)I"⟩
theorem cn_readFactor_tb : sl_tbOK sl_R2 prog_4_method_5_code 4 (some .int) lk_cn [(23, 0), (30, 0), (36, 0)] cn_readFactor_cd = true := by decide +kernel
def cn_readFactor_ct (E : sl_ET) : List sl_Ct := [(2, 0, 10, tp_skip_pt), (1, 0, 5, ix_allBits_pt), (4, 0, 2, (cn_readPlain_pt E))]
theorem cn_readFactor_hc (g : sl_G) (E : sl_ET) (hN : Nat) (h20 : 20 ≤ hN) (hE : sl_Snd g cn_readEither_y prog_4_method_3_code 6 (some .int) hN (cn_readEither_ptE E)) : sl_HC g sl_R2 (hN + 2) (cn_readFactor_ct E) [(23, 0), (30, 0), (36, 0)] := sl_HC_cons (cs_cn_23 g (Nat.le_trans (show 3 ≤ 20 by decide) (by omega))) (sl_HC_cons (cs_cn_30 g (Nat.le_trans (show 3 ≤ 20 by decide) (by omega))) (sl_HC_cons (sl_callV (y := cn_readPlain_y) (T := sl_F2) (N := 0) (cn_readPlain_snd g E hN h20 hE) (by omega) (by decide) (sl_in1 756 (by decide +kernel) rfl) cn_readPlain_w2 cn_readPlain_w3 cn_readPlain_w4 cn_readPlain_w5 cn_readPlain_w6 rfl (by decide)) (sl_HC_nil g sl_R2 (hN + 2))))
set_option maxRecDepth 20000 in
set_option maxHeartbeats 2000000 in
theorem cn_readFactor_snd (g : sl_G) (E : sl_ET) (hN : Nat) (h20 : 20 ≤ hN) (hE : sl_Snd g cn_readEither_y prog_4_method_3_code 6 (some .int) hN (cn_readEither_ptE E)) : sl_Snd g cn_readFactor_y prog_4_method_5_code 4 (some .int) (hN + 2) (cn_readFactor_pt E) := by
  intro As μ Q hw h
  unfold cn_readFactor_pt at h
  split at h
  next c0 a0 c1 a1 c2 a2 a3 =>
    split at h
    next e_ =>
      subst e_
      split at h
      next e_ =>
        subst e_
        split at h
        next e_ =>
          subst e_
          split at h
          next e_ =>
            subst e_
            split at h
            next e_ =>
              subst e_
              split at h
              next e_ =>
                subst e_
                refine sl_mk2 g [true, true, true, true] (cst := [some (.inr (.inr (some (2, 45)))), some (.inr (.inr (some (10, 43)))), some (.inr (.inr (some (5, 1)))), some (.inl a3)]) (lv0 := [none, none, none, none]) (by decide) rfl hw rfl rfl rfl lk_cn_ok (cn_readFactor_hc g E hN h20 hE) cn_readFactor_tb rfl ?_
                intro X M
                exact ⟨_, sl_VV0, h⟩
              next => exact h.elim
            next => exact h.elim
          next => exact h.elim
        next => exact h.elim
      next => exact h.elim
    next => exact h.elim
  next => exact h.elim
def cn_readBoth_L12 (a3 : Int32) (E : sl_ET) (Q : Int32 → sl_M → Prop) : Nat → Int32 → Int32 → sl_M → Prop
  | 0, _, _, _ => False
  | n + 1, x4, x5, μ => (x5 < (80 : Int32) → tp_skip (38 : Int32) μ (fun r2 m1 => (r2 = (0 : Int32) → Q x4 m1) ∧ (¬ r2 = (0 : Int32) → cn_readFactor E a3 m1 (fun r4 m3 => ∀ v5, v5 = (x4 &&& r4) → (cn_readBoth_L12 a3 E Q n) v5 (x5 + (1 : Int32)) m3)))) ∧ (¬ x5 < (80 : Int32) → Q x4 μ)
def cn_readBoth (E : sl_ET) (a3 : Int32) (μ : sl_M) (Q : Int32 → sl_M → Prop) : Prop := cn_readFactor E a3 μ (fun r7 m6 => ∃ n8, cn_readBoth_L12 a3 E Q n8 r7 (0 : Int32) m6)
def cn_readBoth_pt (E : sl_ET) : sl_PT := fun As μ Q => match As with
  | [.inr (.inr (some (c0, a0))), .inr (.inr (some (c1, a1))), .inr (.inr (some (c2, a2))), .inl a3] => if c0 = 2 then (if c1 = 10 then (if c2 = 5 then (if a0 = 45 then (if a1 = 43 then (if a2 = 1 then (cn_readBoth E a3 μ (fun r μ' => Q (some (.inl r)) μ')) else False) else False) else False) else False) else False) else False
  | _ => False
theorem cn_readFactor_w2 : Cond.instanceMethod cn_readFactor_y ∈ sl_T0 := sl_in1 741 (by decide +kernel) rfl
theorem cn_readFactor_w3 : Cond.selects cn_readFactor_y.cls cn_readFactor_y cn_readFactor_y ∈ sl_T0 := sl_in1 12 (by decide +kernel) rfl
theorem cn_readFactor_w4 : Cond.initialized cn_readFactor_y.cls ∈ sl_T0 := sl_in1 92 (by decide +kernel) rfl
theorem cn_readFactor_w5 : Cond.code cn_readFactor_y prog_4_method_5_code 4 (some .int) ∈ sl_T0 := sl_in1 742 (by decide +kernel) rfl
theorem cn_readFactor_w6 : cn_readFactor_y.cls ≠ "java/lang/invoke/MethodHandle" ∧ cn_readFactor_y.cls ≠ "java/lang/invoke/VarHandle" ∧ (parseMethodDescriptor cn_readFactor_y.desc).map (fun d => d.parameters.length) = some 3 := by decide +kernel
def cn_readBoth_cd : List sl_Ent := [(0, .aload_n 0, 1, 0, [0], [], false), (1, .aload_n 1, 1, 0, [1], [], false), (2, .aload_n 2, 1, 0, [2], [], false), (3, .iload_n 3, 1, 0, [3], [], false), (4, .invokevirtual 27, 3, 0, [0], [], false), (7, .istore 4, 2, 0, [4], [], false), (9, .iconst 0, 1, 0, [], [], false), (10, .istore 5, 2, 0, [5], [], false), (12, .iload 5, 2, 0, [5], [], true), (14, .bipush 80, 2, 80, [], [], false), (16, .if_icmp .ge 30, 3, 0, [46], [], false), (19, .aload_n 1, 1, 0, [1], [], false), (20, .bipush 38, 2, 38, [], [], false), (22, .invokevirtual 23, 3, 0, [1], [], false), (25, .ifCond .eq 21, 3, 0, [46], [], false), (28, .iload 4, 2, 0, [4], [], false), (30, .aload_n 0, 1, 0, [0], [], false), (31, .aload_n 1, 1, 0, [1], [], false), (32, .aload_n 2, 1, 0, [2], [], false), (33, .iload_n 3, 1, 0, [3], [], false), (34, .invokevirtual 27, 3, 0, [0], [], false), (37, .iand, 1, 0, [], [], false), (38, .istore 4, 2, 0, [4, 1], [], false), (40, .iinc 5 1, 3, 1, [], [], false), (43, .goto (-31), 3, 0, [12], [], false), (46, .iload 4, 2, 0, [4], [], false), (48, .ireturn, 1, 0, [], [], false)]
def cn_readBoth_y : MethodName := ⟨"SpanLayers$Condition", "readBoth", "(LSpanLayers$Tape;LSpanLayers$Index;I)I"⟩
theorem cn_readBoth_tb : sl_tbOK sl_R2 prog_4_method_4_code 6 (some .int) lk_cn [(27, 0), (23, 0)] cn_readBoth_cd = true := by decide +kernel
def cn_readBoth_ct (E : sl_ET) : List sl_Ct := [(4, 0, 2, (cn_readFactor_pt E)), (2, 0, 10, tp_skip_pt)]
theorem cn_readBoth_hc (g : sl_G) (E : sl_ET) (hN : Nat) (h20 : 20 ≤ hN) (hE : sl_Snd g cn_readEither_y prog_4_method_3_code 6 (some .int) hN (cn_readEither_ptE E)) : sl_HC g sl_R2 (hN + 3) (cn_readBoth_ct E) [(27, 0), (23, 0)] := sl_HC_cons (sl_callV (y := cn_readFactor_y) (T := sl_F2) (N := 0) (cn_readFactor_snd g E hN h20 hE) (by omega) (by decide) (sl_in1 739 (by decide +kernel) rfl) cn_readFactor_w2 cn_readFactor_w3 cn_readFactor_w4 cn_readFactor_w5 cn_readFactor_w6 rfl (by decide)) (sl_HC_cons (cs_cn_23 g (Nat.le_trans (show 3 ≤ 20 by decide) (by omega))) (sl_HC_nil g sl_R2 (hN + 3)))
set_option maxRecDepth 20000 in
set_option maxHeartbeats 2000000 in
theorem cn_readBoth_snd (g : sl_G) (E : sl_ET) (hN : Nat) (h20 : 20 ≤ hN) (hE : sl_Snd g cn_readEither_y prog_4_method_3_code 6 (some .int) hN (cn_readEither_ptE E)) : sl_Snd g cn_readBoth_y prog_4_method_4_code 6 (some .int) (hN + 3) (cn_readBoth_pt E) := by
  intro As μ Q hw h
  unfold cn_readBoth_pt at h
  split at h
  next c0 a0 c1 a1 c2 a2 a3 =>
    split at h
    next e_ =>
      subst e_
      split at h
      next e_ =>
        subst e_
        split at h
        next e_ =>
          subst e_
          split at h
          next e_ =>
            subst e_
            split at h
            next e_ =>
              subst e_
              split at h
              next e_ =>
                subst e_
                refine sl_mk2 g [true, true, true, true, false, false] (cst := [some (.inr (.inr (some (2, 45)))), some (.inr (.inr (some (10, 43)))), some (.inr (.inr (some (5, 1)))), some (.inl a3)]) (lv0 := [none, none, none, none, none, none]) (by decide) rfl hw rfl rfl rfl lk_cn_ok (cn_readBoth_hc g E hN h20 hE) cn_readBoth_tb rfl ?_
                intro X M
                have v12 := sl_extL M sl_VV0 12 (fun n lv st μ => match lv, st with | [_, _, _, _, some (.inl x4), some (.inl x5)], [] => cn_readBoth_L12 a3 E (fun r μ' => Q (some (.inl r)) μ') n x4 x5 μ | _, _ => False) (by
                    intro lv st μ h
                    split at h
                    · exact h
                    · exact h) (by
                    intro n12 w12
                    refine ⟨_, w12, ?_⟩
                    intro lv st μ h
                    split at h
                    · exact h
                    · exact h.elim)
                exact ⟨_, v12, h⟩
              next => exact h.elim
            next => exact h.elim
          next => exact h.elim
        next => exact h.elim
      next => exact h.elim
    next => exact h.elim
  next => exact h.elim
def cn_readEither_L12 (a3 : Int32) (E : sl_ET) (Q : Int32 → sl_M → Prop) : Nat → Int32 → Int32 → sl_M → Prop
  | 0, _, _, _ => False
  | n + 1, x4, x5, μ => (x5 < (80 : Int32) → tp_skip (124 : Int32) μ (fun r2 m1 => (r2 = (0 : Int32) → Q x4 m1) ∧ (¬ r2 = (0 : Int32) → cn_readBoth E a3 m1 (fun r4 m3 => ∀ v5, v5 = (x4 ||| r4) → (cn_readEither_L12 a3 E Q n) v5 (x5 + (1 : Int32)) m3)))) ∧ (¬ x5 < (80 : Int32) → Q x4 μ)
def cn_readEither (E : sl_ET) (a3 : Int32) (μ : sl_M) (Q : Int32 → sl_M → Prop) : Prop := cn_readBoth E a3 μ (fun r7 m6 => ∃ n8, cn_readEither_L12 a3 E Q n8 r7 (0 : Int32) m6)
def cn_readEither_pt (E : sl_ET) : sl_PT := fun As μ Q => match As with
  | [.inr (.inr (some (c0, a0))), .inr (.inr (some (c1, a1))), .inr (.inr (some (c2, a2))), .inl a3] => if c0 = 2 then (if c1 = 10 then (if c2 = 5 then (if a0 = 45 then (if a1 = 43 then (if a2 = 1 then (cn_readEither E a3 μ (fun r μ' => Q (some (.inl r)) μ')) else False) else False) else False) else False) else False) else False
  | _ => False
theorem cn_readBoth_w2 : Cond.instanceMethod cn_readBoth_y ∈ sl_T0 := sl_in1 737 (by decide +kernel) rfl
theorem cn_readBoth_w3 : Cond.selects cn_readBoth_y.cls cn_readBoth_y cn_readBoth_y ∈ sl_T0 := sl_in1 11 (by decide +kernel) rfl
theorem cn_readBoth_w4 : Cond.initialized cn_readBoth_y.cls ∈ sl_T0 := sl_in1 92 (by decide +kernel) rfl
theorem cn_readBoth_w5 : Cond.code cn_readBoth_y prog_4_method_4_code 6 (some .int) ∈ sl_T0 := sl_in1 738 (by decide +kernel) rfl
theorem cn_readBoth_w6 : cn_readBoth_y.cls ≠ "java/lang/invoke/MethodHandle" ∧ cn_readBoth_y.cls ≠ "java/lang/invoke/VarHandle" ∧ (parseMethodDescriptor cn_readBoth_y.desc).map (fun d => d.parameters.length) = some 3 := by decide +kernel
def cn_readEither_cd : List sl_Ent := [(0, .aload_n 0, 1, 0, [0], [], false), (1, .aload_n 1, 1, 0, [1], [], false), (2, .aload_n 2, 1, 0, [2], [], false), (3, .iload_n 3, 1, 0, [3], [], false), (4, .invokevirtual 20, 3, 0, [0], [], false), (7, .istore 4, 2, 0, [4], [], false), (9, .iconst 0, 1, 0, [], [], false), (10, .istore 5, 2, 0, [5], [], false), (12, .iload 5, 2, 0, [5], [], true), (14, .bipush 80, 2, 80, [], [], false), (16, .if_icmp .ge 30, 3, 0, [46], [], false), (19, .aload_n 1, 1, 0, [1], [], false), (20, .bipush 124, 2, 124, [], [], false), (22, .invokevirtual 23, 3, 0, [1], [], false), (25, .ifCond .eq 21, 3, 0, [46], [], false), (28, .iload 4, 2, 0, [4], [], false), (30, .aload_n 0, 1, 0, [0], [], false), (31, .aload_n 1, 1, 0, [1], [], false), (32, .aload_n 2, 1, 0, [2], [], false), (33, .iload_n 3, 1, 0, [3], [], false), (34, .invokevirtual 20, 3, 0, [0], [], false), (37, .ior, 1, 0, [], [], false), (38, .istore 4, 2, 0, [4, 1], [], false), (40, .iinc 5 1, 3, 1, [], [], false), (43, .goto (-31), 3, 0, [12], [], false), (46, .iload 4, 2, 0, [4], [], false), (48, .ireturn, 1, 0, [], [], false)]
theorem cn_readEither_tb : sl_tbOK sl_R2 prog_4_method_3_code 6 (some .int) lk_cn [(20, 0), (23, 0)] cn_readEither_cd = true := by decide +kernel
def cn_readEither_ct (E : sl_ET) : List sl_Ct := [(4, 0, 2, (cn_readBoth_pt E)), (2, 0, 10, tp_skip_pt)]
theorem cn_readEither_hc (g : sl_G) (E : sl_ET) (hN : Nat) (h20 : 20 ≤ hN) (hE : sl_Snd g cn_readEither_y prog_4_method_3_code 6 (some .int) hN (cn_readEither_ptE E)) : sl_HC g sl_R2 (hN + 4) (cn_readEither_ct E) [(20, 0), (23, 0)] := sl_HC_cons (sl_callV (y := cn_readBoth_y) (T := sl_F2) (N := 0) (cn_readBoth_snd g E hN h20 hE) (by omega) (by decide) (sl_in1 735 (by decide +kernel) rfl) cn_readBoth_w2 cn_readBoth_w3 cn_readBoth_w4 cn_readBoth_w5 cn_readBoth_w6 rfl (by decide)) (sl_HC_cons (cs_cn_23 g (Nat.le_trans (show 3 ≤ 20 by decide) (by omega))) (sl_HC_nil g sl_R2 (hN + 4)))
set_option maxRecDepth 20000 in
set_option maxHeartbeats 2000000 in
theorem cn_readEither_snd (g : sl_G) (E : sl_ET) (hN : Nat) (h20 : 20 ≤ hN) (hE : sl_Snd g cn_readEither_y prog_4_method_3_code 6 (some .int) hN (cn_readEither_ptE E)) : sl_Snd g cn_readEither_y prog_4_method_3_code 6 (some .int) (hN + 4) (cn_readEither_pt E) := by
  intro As μ Q hw h
  unfold cn_readEither_pt at h
  split at h
  next c0 a0 c1 a1 c2 a2 a3 =>
    split at h
    next e_ =>
      subst e_
      split at h
      next e_ =>
        subst e_
        split at h
        next e_ =>
          subst e_
          split at h
          next e_ =>
            subst e_
            split at h
            next e_ =>
              subst e_
              split at h
              next e_ =>
                subst e_
                refine sl_mk2 g [true, true, true, true, false, false] (cst := [some (.inr (.inr (some (2, 45)))), some (.inr (.inr (some (10, 43)))), some (.inr (.inr (some (5, 1)))), some (.inl a3)]) (lv0 := [none, none, none, none, none, none]) (by decide) rfl hw rfl rfl rfl lk_cn_ok (cn_readEither_hc g E hN h20 hE) cn_readEither_tb rfl ?_
                intro X M
                have v12 := sl_extL M sl_VV0 12 (fun n lv st μ => match lv, st with | [_, _, _, _, some (.inl x4), some (.inl x5)], [] => cn_readEither_L12 a3 E (fun r μ' => Q (some (.inl r)) μ') n x4 x5 μ | _, _ => False) (by
                    intro lv st μ h
                    split at h
                    · exact h
                    · exact h) (by
                    intro n12 w12
                    refine ⟨_, w12, ?_⟩
                    intro lv st μ h
                    split at h
                    · exact h
                    · exact h.elim)
                exact ⟨_, v12, h⟩
              next => exact h.elim
            next => exact h.elim
          next => exact h.elim
        next => exact h.elim
      next => exact h.elim
    next => exact h.elim
  next => exact h.elim
def cn_E : Nat → sl_ET
  | 0 => fun _ _ _ => False
  | d + 1 => cn_readEither (cn_E d)
theorem cn_E_snd (g : sl_G) : ∀ d, sl_Snd g cn_readEither_y prog_4_method_3_code 6 (some .int) (20 + 4 * d) (cn_readEither_ptE (cn_E d)) := by
  intro d
  induction d with
  | zero =>
    intro As μ Q hw h
    unfold cn_readEither_ptE at h
    split at h
    next =>
      (repeat' split at h) <;> exact False.elim h
    next => exact h.elim
  | succ d ih => exact cn_readEither_snd g (cn_E d) (20 + 4 * d) (by omega) ih
def cn_readFrom (μ : sl_M) (Q : Int32 → sl_M → Prop) : Prop := cn_E 6 (0 : Int32) μ (fun r2 m1 => tp_expectEnd m1 (fun m3 => Q r2 m3))
def cn_readFrom_pt : sl_PT := fun As μ Q => match As with
  | [.inr (.inr (some (c0, a0))), .inr (.inr (some (c1, a1))), .inr (.inr (some (c2, a2)))] => if c0 = 2 then (if c1 = 10 then (if c2 = 5 then (if a0 = 45 then (if a1 = 43 then (if a2 = 1 then (cn_readFrom μ (fun r μ' => Q (some (.inl r)) μ')) else False) else False) else False) else False) else False) else False
  | _ => False
def cn_readFrom_cd : List sl_Ent := [(0, .aload_n 0, 1, 0, [0], [], false), (1, .aload_n 1, 1, 0, [1], [], false), (2, .aload_n 2, 1, 0, [2], [], false), (3, .iconst 0, 1, 0, [], [], false), (4, .invokevirtual 9, 3, 0, [0], [], false), (7, .istore_n 3, 1, 0, [3], [], false), (8, .aload_n 1, 1, 0, [1], [], false), (9, .invokevirtual 15, 3, 0, [1], [], false), (12, .iload_n 3, 1, 0, [3], [], false), (13, .ireturn, 1, 0, [], [], false)]
def cn_readFrom_y : MethodName := ⟨"SpanLayers$Condition", "readFrom", "(LSpanLayers$Tape;LSpanLayers$Index;)I"⟩
theorem cn_readFrom_tb : sl_tbOK sl_R2 prog_4_method_2_code 4 (some .int) lk_cn [(9, 0), (15, 0)] cn_readFrom_cd = true := by decide +kernel
theorem cs_cn_9 (g : sl_G) {hh : Nat} (h : 45 ≤ hh) : sl_CallS g sl_R2 9 0 2 hh 4 (cn_readEither_ptE (cn_E 6)) := sl_callV (y := cn_readEither_y) (T := sl_F2) (N := 0) (cn_E_snd g 6) h (by decide) (sl_in1 731 (by decide +kernel) rfl) cn_readEither_w2 cn_readEither_w3 cn_readEither_w4 cn_readEither_w5 cn_readEither_w6 rfl (by decide)
theorem cs_cn_15 (g : sl_G) {hh : Nat} (h : 2 ≤ hh) : sl_CallS g sl_R2 15 0 10 hh 1 tp_expectEnd_pt := sl_callV (y := tp_expectEnd_y) (T := sl_F10) (N := 4) (tp_expectEnd_snd g) h (by decide) (sl_in1 847 (by decide +kernel) rfl) tp_expectEnd_w2 tp_expectEnd_w3 tp_expectEnd_w4 tp_expectEnd_w5 tp_expectEnd_w6 rfl (by decide)
def cn_readFrom_ct : List sl_Ct := [(4, 0, 2, (cn_readEither_ptE (cn_E 6))), (1, 0, 10, tp_expectEnd_pt)]
theorem cn_readFrom_hc (g : sl_G) : sl_HC g sl_R2 45 cn_readFrom_ct [(9, 0), (15, 0)] := sl_HC_cons (cs_cn_9 g (by decide)) (sl_HC_cons (cs_cn_15 g (by decide)) (sl_HC_nil g sl_R2 45))
set_option maxRecDepth 20000 in
set_option maxHeartbeats 2000000 in
theorem cn_readFrom_snd (g : sl_G) : sl_Snd g cn_readFrom_y prog_4_method_2_code 4 (some .int) 45 (cn_readFrom_pt) := by
  intro As μ Q hw h
  unfold cn_readFrom_pt at h
  split at h
  next c0 a0 c1 a1 c2 a2 =>
    split at h
    next e_ =>
      subst e_
      split at h
      next e_ =>
        subst e_
        split at h
        next e_ =>
          subst e_
          split at h
          next e_ =>
            subst e_
            split at h
            next e_ =>
              subst e_
              split at h
              next e_ =>
                subst e_
                refine sl_mk2 g [true, true, true, false] (cst := [some (.inr (.inr (some (2, 45)))), some (.inr (.inr (some (10, 43)))), some (.inr (.inr (some (5, 1))))]) (lv0 := [none, none, none, none]) (by decide) rfl hw rfl rfl rfl lk_cn_ok (cn_readFrom_hc g) cn_readFrom_tb rfl ?_
                intro X M
                exact ⟨_, sl_VV0, h⟩
              next => exact h.elim
            next => exact h.elim
          next => exact h.elim
        next => exact h.elim
      next => exact h.elim
    next => exact h.elim
  next => exact h.elim
end
section
def sx_add (a1 : Int32) (a2 : Int32) (a3 : Int32) (μ : sl_M) (Q : Int32 → sl_M → Prop) : Prop := sx_isSpan a1 a2 a3 μ (fun r2 m1 => (r2 = (0 : Int32) → Q (-2 : Int32) m1) ∧ (¬ r2 = (0 : Int32) → ix_leastOut m1 (fun r4 m3 => (r4 < (0 : Int32) → Q (-4 : Int32) m3) ∧ (¬ r4 < (0 : Int32) → ix_bringIn r4 a1 a2 a3 m3 (fun m5 => ix_relayer m5 (fun m6 => Q r4 m6))))))
def sx_add_pt : sl_PT := fun As μ Q => match As with
  | [.inr (.inr (some (c0, a0))), .inl a1, .inl a2, .inl a3] => if c0 = 11 then (if a0 = 0 then (sx_add a1 a2 a3 μ (fun r μ' => Q (some (.inl r)) μ')) else False) else False
  | _ => False
def sx_add_cd : List sl_Ent := [(0, .iload_n 1, 1, 0, [1], [], false), (1, .iload_n 2, 1, 0, [2], [], false), (2, .iload_n 3, 1, 0, [3], [], false), (3, .invokestatic 82, 3, 0, [0], [], false), (6, .ifCond .ne 6, 3, 0, [12], [], false), (9, .bipush (-2), 2, (-2), [], [], false), (11, .ireturn, 1, 0, [], [], false), (12, .aload_n 0, 1, 0, [0], [], false), (13, .getfield 10, 3, 0, [11, 0, 2, 5, 1], [], false), (16, .invokevirtual 86, 3, 0, [1], [], false), (19, .istore 4, 2, 0, [4], [], false), (21, .iload 4, 2, 0, [4], [], false), (23, .ifCond .ge 6, 3, 0, [29], [], false), (26, .bipush (-4), 2, (-4), [], [], false), (28, .ireturn, 1, 0, [], [], false), (29, .aload_n 0, 1, 0, [0], [], false), (30, .getfield 10, 3, 0, [11, 0, 2, 5, 1], [], false), (33, .iload 4, 2, 0, [4], [], false), (35, .iload_n 1, 1, 0, [1], [], false), (36, .iload_n 2, 1, 0, [2], [], false), (37, .iload_n 3, 1, 0, [3], [], false), (38, .invokevirtual 90, 3, 0, [2], [], false), (41, .aload_n 0, 1, 0, [0], [], false), (42, .getfield 10, 3, 0, [11, 0, 2, 5, 1], [], false), (45, .invokevirtual 94, 3, 0, [3], [], false), (48, .iload 4, 2, 0, [4], [], false), (50, .ireturn, 1, 0, [], [], false)]
def sx_add_y : MethodName := ⟨"SpanLayers", "add", "(III)I"⟩
theorem sx_add_tb : sl_tbOK sl_R11 prog_1_method_2_code 5 (some .int) lk_sx [(82, 1), (86, 0), (90, 0), (94, 0)] sx_add_cd = true := by decide +kernel
theorem sx_isSpan_w2 : Cond.static sx_isSpan_y ∈ sl_T0 := sl_in1 398 (by decide +kernel) rfl
theorem sx_isSpan_w4 : Cond.initialized sx_isSpan_y.cls ∈ sl_T0 := sl_in1 86 (by decide +kernel) rfl
theorem sx_isSpan_w5 : Cond.code sx_isSpan_y prog_1_method_48_code 3 (some .boolean) ∈ sl_T0 := sl_in1 399 (by decide +kernel) rfl
theorem sx_isSpan_w6 : sx_isSpan_y.cls ≠ "java/lang/invoke/MethodHandle" ∧ sx_isSpan_y.cls ≠ "java/lang/invoke/VarHandle" ∧ (parseMethodDescriptor sx_isSpan_y.desc).map (fun d => d.parameters.length) = some 3 := by decide +kernel
theorem cs_sx_82 (g : sl_G) {hh : Nat} (h : 4 ≤ hh) : sl_CallS g sl_R11 82 1 0 hh 3 sx_isSpan_pt := sl_callS (y := sx_isSpan_y) (sx_isSpan_snd g) h (by decide) (sl_in1 397 (by decide +kernel) rfl) sx_isSpan_w2 sx_isSpan_w4 sx_isSpan_w5 sx_isSpan_w6
theorem cs_sx_86 (g : sl_G) {hh : Nat} (h : 1 ≤ hh) : sl_CallS g sl_R11 86 0 5 hh 1 ix_leastOut_pt := sl_callV (y := ix_leastOut_y) (T := sl_F5) (N := 2) (ix_leastOut_snd g) h (by decide) (sl_in1 409 (by decide +kernel) rfl) ix_leastOut_w2 ix_leastOut_w3 ix_leastOut_w4 ix_leastOut_w5 ix_leastOut_w6 rfl (by decide)
theorem cs_sx_90 (g : sl_G) {hh : Nat} (h : 2 ≤ hh) : sl_CallS g sl_R11 90 0 5 hh 5 ix_bringIn_pt := sl_callV (y := ix_bringIn_y) (T := sl_F5) (N := 2) (ix_bringIn_snd g) h (by decide) (sl_in1 413 (by decide +kernel) rfl) ix_bringIn_w2 ix_bringIn_w3 ix_bringIn_w4 ix_bringIn_w5 ix_bringIn_w6 rfl (by decide)
theorem cs_sx_94 (g : sl_G) {hh : Nat} (h : 5 ≤ hh) : sl_CallS g sl_R11 94 0 5 hh 1 ix_relayer_pt := sl_callV (y := ix_relayer_y) (T := sl_F5) (N := 2) (ix_relayer_snd g) h (by decide) (sl_in1 418 (by decide +kernel) rfl) ix_relayer_w2 ix_relayer_w3 ix_relayer_w4 ix_relayer_w5 ix_relayer_w6 rfl (by decide)
def sx_add_ct : List sl_Ct := [(3, 1, 0, sx_isSpan_pt), (1, 0, 5, ix_leastOut_pt), (5, 0, 5, ix_bringIn_pt), (1, 0, 5, ix_relayer_pt)]
theorem sx_add_hc (g : sl_G) : sl_HC g sl_R11 5 sx_add_ct [(82, 1), (86, 0), (90, 0), (94, 0)] := sl_HC_cons (cs_sx_82 g (by decide)) (sl_HC_cons (cs_sx_86 g (by decide)) (sl_HC_cons (cs_sx_90 g (by decide)) (sl_HC_cons (cs_sx_94 g (by decide)) (sl_HC_nil g sl_R11 5))))
set_option maxRecDepth 20000 in
set_option maxHeartbeats 2000000 in
theorem sx_add_snd (g : sl_G) : sl_Snd g sx_add_y prog_1_method_2_code 5 (some .int) 5 (sx_add_pt) := by
  intro As μ Q hw h
  unfold sx_add_pt at h
  split at h
  next c0 a0 a1 a2 a3 =>
    split at h
    next e_ =>
      subst e_
      split at h
      next e_ =>
        subst e_
        refine sl_mk2 g [true, true, true, true, false] (cst := [some (.inr (.inr (some (11, 0)))), some (.inl a1), some (.inl a2), some (.inl a3)]) (lv0 := [none, none, none, none, none]) (by decide) rfl hw rfl rfl rfl lk_sx_ok (sx_add_hc g) sx_add_tb rfl ?_
        intro X M
        exact ⟨_, sl_VV0, h⟩
      next => exact h.elim
    next => exact h.elim
  next => exact h.elim
def sx_put (a1 : Int32) (a2 : Int32) (a3 : Int32) (a4 : Int32) (μ : sl_M) (Q : Int32 → sl_M → Prop) : Prop := sx_isBelow a1 (30 : Int32) μ (fun r2 m1 => (r2 = (0 : Int32) → Q (-1 : Int32) m1) ∧ (¬ r2 = (0 : Int32) → sx_isSpan a2 a3 a4 m1 (fun r4 m3 => (r4 = (0 : Int32) → Q (-2 : Int32) m3) ∧ (¬ r4 = (0 : Int32) → ix_isIn a1 m3 (fun r6 m5 => ix_bringIn a1 a2 a3 a4 m5 (fun m7 => ix_relayer m7 (fun m8 => (r6 = (0 : Int32) → Q (0 : Int32) m8) ∧ (¬ r6 = (0 : Int32) → Q (1 : Int32) m8))))))))
def sx_put_pt : sl_PT := fun As μ Q => match As with
  | [.inr (.inr (some (c0, a0))), .inl a1, .inl a2, .inl a3, .inl a4] => if c0 = 11 then (if a0 = 0 then (sx_put a1 a2 a3 a4 μ (fun r μ' => Q (some (.inl r)) μ')) else False) else False
  | _ => False
def sx_put_cd : List sl_Ent := [(0, .iload_n 1, 1, 0, [1], [], false), (1, .bipush 30, 2, 30, [], [], false), (3, .invokestatic 97, 3, 0, [0], [], false), (6, .ifCond .ne 5, 3, 0, [11], [], false), (9, .iconst (-1), 1, (-1), [], [], false), (10, .ireturn, 1, 0, [], [], false), (11, .iload_n 2, 1, 0, [2], [], false), (12, .iload_n 3, 1, 0, [3], [], false), (13, .iload 4, 2, 0, [4], [], false), (15, .invokestatic 82, 3, 0, [1], [], false), (18, .ifCond .ne 6, 3, 0, [24], [], false), (21, .bipush (-2), 2, (-2), [], [], false), (23, .ireturn, 1, 0, [], [], false), (24, .aload_n 0, 1, 0, [0], [], false), (25, .getfield 10, 3, 0, [11, 0, 2, 5, 1], [], false), (28, .iload_n 1, 1, 0, [1], [], false), (29, .invokevirtual 101, 3, 0, [2], [], false), (32, .istore 5, 2, 0, [5], [], false), (34, .aload_n 0, 1, 0, [0], [], false), (35, .getfield 10, 3, 0, [11, 0, 2, 5, 1], [], false), (38, .iload_n 1, 1, 0, [1], [], false), (39, .iload_n 2, 1, 0, [2], [], false), (40, .iload_n 3, 1, 0, [3], [], false), (41, .iload 4, 2, 0, [4], [], false), (43, .invokevirtual 90, 3, 0, [3], [], false), (46, .aload_n 0, 1, 0, [0], [], false), (47, .getfield 10, 3, 0, [11, 0, 2, 5, 1], [], false), (50, .invokevirtual 94, 3, 0, [4], [], false), (53, .iload 5, 2, 0, [5], [], false), (55, .ifCond .eq 7, 3, 0, [62], [], false), (58, .iconst 1, 1, 1, [], [], false), (59, .goto 4, 3, 0, [63], [], false), (62, .iconst 0, 1, 0, [], [], false), (63, .ireturn, 1, 0, [], [], false)]
def sx_put_y : MethodName := ⟨"SpanLayers", "put", "(IIII)I"⟩
theorem sx_put_tb : sl_tbOK sl_R11 prog_1_method_3_code 6 (some .int) lk_sx [(97, 1), (82, 1), (101, 0), (90, 0), (94, 0)] sx_put_cd = true := by decide +kernel
theorem ix_isIn_w2 : Cond.instanceMethod ix_isIn_y ∈ sl_T0 := sl_in1 454 (by decide +kernel) rfl
theorem ix_isIn_w3 : Cond.selects ix_isIn_y.cls ix_isIn_y ix_isIn_y ∈ sl_T0 := sl_in1 455 (by decide +kernel) rfl
theorem ix_isIn_w4 : Cond.initialized ix_isIn_y.cls ∈ sl_T0 := sl_in1 87 (by decide +kernel) rfl
theorem ix_isIn_w5 : Cond.code ix_isIn_y prog_7_method_3_code 2 (some .boolean) ∈ sl_T0 := sl_in1 456 (by decide +kernel) rfl
theorem ix_isIn_w6 : ix_isIn_y.cls ≠ "java/lang/invoke/MethodHandle" ∧ ix_isIn_y.cls ≠ "java/lang/invoke/VarHandle" ∧ (parseMethodDescriptor ix_isIn_y.desc).map (fun d => d.parameters.length) = some 1 := by decide +kernel
theorem cs_sx_101 (g : sl_G) {hh : Nat} (h : 2 ≤ hh) : sl_CallS g sl_R11 101 0 5 hh 2 ix_isIn_pt := sl_callV (y := ix_isIn_y) (T := sl_F5) (N := 2) (ix_isIn_snd g) h (by decide) (sl_in1 453 (by decide +kernel) rfl) ix_isIn_w2 ix_isIn_w3 ix_isIn_w4 ix_isIn_w5 ix_isIn_w6 rfl (by decide)
def sx_put_ct : List sl_Ct := [(2, 1, 0, sx_isBelow_pt), (3, 1, 0, sx_isSpan_pt), (2, 0, 5, ix_isIn_pt), (5, 0, 5, ix_bringIn_pt), (1, 0, 5, ix_relayer_pt)]
theorem sx_put_hc (g : sl_G) : sl_HC g sl_R11 5 sx_put_ct [(97, 1), (82, 1), (101, 0), (90, 0), (94, 0)] := sl_HC_cons (cs_sx_97 g (by decide)) (sl_HC_cons (cs_sx_82 g (by decide)) (sl_HC_cons (cs_sx_101 g (by decide)) (sl_HC_cons (cs_sx_90 g (by decide)) (sl_HC_cons (cs_sx_94 g (by decide)) (sl_HC_nil g sl_R11 5)))))
set_option maxRecDepth 20000 in
set_option maxHeartbeats 2000000 in
theorem sx_put_snd (g : sl_G) : sl_Snd g sx_put_y prog_1_method_3_code 6 (some .int) 5 (sx_put_pt) := by
  intro As μ Q hw h
  unfold sx_put_pt at h
  split at h
  next c0 a0 a1 a2 a3 a4 =>
    split at h
    next e_ =>
      subst e_
      split at h
      next e_ =>
        subst e_
        refine sl_mk2 g [true, true, true, true, true, false] (cst := [some (.inr (.inr (some (11, 0)))), some (.inl a1), some (.inl a2), some (.inl a3), some (.inl a4)]) (lv0 := [none, none, none, none, none, none]) (by decide) rfl hw rfl rfl rfl lk_sx_ok (sx_put_hc g) sx_put_tb rfl ?_
        intro X M
        exact ⟨_, sl_VV0, h⟩
      next => exact h.elim
    next => exact h.elim
  next => exact h.elim
def sx_drop (a1 : Int32) (μ : sl_M) (Q : Int32 → sl_M → Prop) : Prop := sx_isBelow a1 (30 : Int32) μ (fun r2 m1 => (r2 = (0 : Int32) → Q (-1 : Int32) m1) ∧ (¬ r2 = (0 : Int32) → ix_isIn a1 m1 (fun r4 m3 => (r4 = (0 : Int32) → Q (-3 : Int32) m3) ∧ (¬ r4 = (0 : Int32) → ix_takeOut ((1 : Int32) <<< (a1 &&& 31)) m3 (fun m5 => ix_count m5 (fun r7 m6 => Q r7 m6))))))
def sx_drop_pt : sl_PT := fun As μ Q => match As with
  | [.inr (.inr (some (c0, a0))), .inl a1] => if c0 = 11 then (if a0 = 0 then (sx_drop a1 μ (fun r μ' => Q (some (.inl r)) μ')) else False) else False
  | _ => False
def sx_drop_cd : List sl_Ent := [(0, .iload_n 1, 1, 0, [1], [], false), (1, .bipush 30, 2, 30, [], [], false), (3, .invokestatic 97, 3, 0, [0], [], false), (6, .ifCond .ne 5, 3, 0, [11], [], false), (9, .iconst (-1), 1, (-1), [], [], false), (10, .ireturn, 1, 0, [], [], false), (11, .aload_n 0, 1, 0, [0], [], false), (12, .getfield 10, 3, 0, [11, 0, 2, 5, 1], [], false), (15, .iload_n 1, 1, 0, [1], [], false), (16, .invokevirtual 101, 3, 0, [1], [], false), (19, .ifCond .ne 6, 3, 0, [25], [], false), (22, .bipush (-3), 2, (-3), [], [], false), (24, .ireturn, 1, 0, [], [], false), (25, .aload_n 0, 1, 0, [0], [], false), (26, .getfield 10, 3, 0, [11, 0, 2, 5, 1], [], false), (29, .iconst 1, 1, 1, [], [], false), (30, .iload_n 1, 1, 0, [1], [], false), (31, .ishl, 1, 0, [], [], false), (32, .invokevirtual 105, 3, 0, [2], [], false), (35, .aload_n 0, 1, 0, [0], [], false), (36, .getfield 10, 3, 0, [11, 0, 2, 5, 1], [], false), (39, .invokevirtual 109, 3, 0, [3], [], false), (42, .ireturn, 1, 0, [], [], false)]
def sx_drop_y : MethodName := ⟨"SpanLayers", "drop", "(I)I"⟩
theorem sx_drop_tb : sl_tbOK sl_R11 prog_1_method_4_code 2 (some .int) lk_sx [(97, 1), (101, 0), (105, 0), (109, 0)] sx_drop_cd = true := by decide +kernel
theorem ix_takeOut_w2 : Cond.instanceMethod ix_takeOut_y ∈ sl_T0 := sl_in1 462 (by decide +kernel) rfl
theorem ix_takeOut_w3 : Cond.selects ix_takeOut_y.cls ix_takeOut_y ix_takeOut_y ∈ sl_T0 := sl_in1 463 (by decide +kernel) rfl
theorem ix_takeOut_w4 : Cond.initialized ix_takeOut_y.cls ∈ sl_T0 := sl_in1 87 (by decide +kernel) rfl
theorem ix_takeOut_w5 : Cond.code ix_takeOut_y prog_7_method_6_code 3 none ∈ sl_T0 := sl_in1 464 (by decide +kernel) rfl
theorem ix_takeOut_w6 : ix_takeOut_y.cls ≠ "java/lang/invoke/MethodHandle" ∧ ix_takeOut_y.cls ≠ "java/lang/invoke/VarHandle" ∧ (parseMethodDescriptor ix_takeOut_y.desc).map (fun d => d.parameters.length) = some 1 := by decide +kernel
theorem cs_sx_105 (g : sl_G) {hh : Nat} (h : 6 ≤ hh) : sl_CallS g sl_R11 105 0 5 hh 2 ix_takeOut_pt := sl_callV (y := ix_takeOut_y) (T := sl_F5) (N := 2) (ix_takeOut_snd g) h (by decide) (sl_in1 461 (by decide +kernel) rfl) ix_takeOut_w2 ix_takeOut_w3 ix_takeOut_w4 ix_takeOut_w5 ix_takeOut_w6 rfl (by decide)
theorem ix_count_w2 : Cond.instanceMethod ix_count_y ∈ sl_T0 := sl_in1 470 (by decide +kernel) rfl
theorem ix_count_w3 : Cond.selects ix_count_y.cls ix_count_y ix_count_y ∈ sl_T0 := sl_in1 471 (by decide +kernel) rfl
theorem ix_count_w4 : Cond.initialized ix_count_y.cls ∈ sl_T0 := sl_in1 87 (by decide +kernel) rfl
theorem ix_count_w5 : Cond.code ix_count_y prog_7_method_9_code 3 (some .int) ∈ sl_T0 := sl_in1 472 (by decide +kernel) rfl
theorem ix_count_w6 : ix_count_y.cls ≠ "java/lang/invoke/MethodHandle" ∧ ix_count_y.cls ≠ "java/lang/invoke/VarHandle" ∧ (parseMethodDescriptor ix_count_y.desc).map (fun d => d.parameters.length) = some 0 := by decide +kernel
theorem cs_sx_109 (g : sl_G) {hh : Nat} (h : 1 ≤ hh) : sl_CallS g sl_R11 109 0 5 hh 1 ix_count_pt := sl_callV (y := ix_count_y) (T := sl_F5) (N := 2) (ix_count_snd g) h (by decide) (sl_in1 469 (by decide +kernel) rfl) ix_count_w2 ix_count_w3 ix_count_w4 ix_count_w5 ix_count_w6 rfl (by decide)
def sx_drop_ct : List sl_Ct := [(2, 1, 0, sx_isBelow_pt), (2, 0, 5, ix_isIn_pt), (2, 0, 5, ix_takeOut_pt), (1, 0, 5, ix_count_pt)]
theorem sx_drop_hc (g : sl_G) : sl_HC g sl_R11 6 sx_drop_ct [(97, 1), (101, 0), (105, 0), (109, 0)] := sl_HC_cons (cs_sx_97 g (by decide)) (sl_HC_cons (cs_sx_101 g (by decide)) (sl_HC_cons (cs_sx_105 g (by decide)) (sl_HC_cons (cs_sx_109 g (by decide)) (sl_HC_nil g sl_R11 6))))
set_option maxRecDepth 20000 in
set_option maxHeartbeats 2000000 in
theorem sx_drop_snd (g : sl_G) : sl_Snd g sx_drop_y prog_1_method_4_code 2 (some .int) 6 (sx_drop_pt) := by
  intro As μ Q hw h
  unfold sx_drop_pt at h
  split at h
  next c0 a0 a1 =>
    split at h
    next e_ =>
      subst e_
      split at h
      next e_ =>
        subst e_
        refine sl_mk2 g [true, true] (cst := [some (.inr (.inr (some (11, 0)))), some (.inl a1)]) (lv0 := [none, none]) (by decide) rfl hw rfl rfl rfl lk_sx_ok (sx_drop_hc g) sx_drop_tb rfl ?_
        intro X M
        exact ⟨_, sl_VV0, h⟩
      next => exact h.elim
    next => exact h.elim
  next => exact h.elim
def sx_of (a1 : Int32) (a2 : Int32) (μ : sl_M) (Q : Int32 → sl_M → Prop) : Prop := sx_isBelow a1 (30 : Int32) μ (fun r2 m1 => (r2 = (0 : Int32) → Q (-1 : Int32) m1) ∧ (¬ r2 = (0 : Int32) → sx_isBelow a2 (8 : Int32) m1 (fun r4 m3 => (r4 = (0 : Int32) → Q (-1 : Int32) m3) ∧ (¬ r4 = (0 : Int32) → ix_isIn a1 m3 (fun r6 m5 => (r6 = (0 : Int32) → Q (-3 : Int32) m5) ∧ (¬ r6 = (0 : Int32) → vp_in a1 30 ∧ ix_factOf (4 + a1.toNatClampNeg) a2 m5 (fun r8 m7 => Q r8 m7)))))))
def sx_of_pt : sl_PT := fun As μ Q => match As with
  | [.inr (.inr (some (c0, a0))), .inl a1, .inl a2] => if c0 = 11 then (if a0 = 0 then (sx_of a1 a2 μ (fun r μ' => Q (some (.inl r)) μ')) else False) else False
  | _ => False
def sx_of_cd : List sl_Ent := [(0, .iload_n 1, 1, 0, [1], [], false), (1, .bipush 30, 2, 30, [], [], false), (3, .invokestatic 97, 3, 0, [0], [], false), (6, .ifCond .eq 12, 3, 0, [18], [], false), (9, .iload_n 2, 1, 0, [2], [], false), (10, .bipush 8, 2, 8, [], [], false), (12, .invokestatic 97, 3, 0, [0], [], false), (15, .ifCond .ne 5, 3, 0, [20], [], false), (18, .iconst (-1), 1, (-1), [], [], false), (19, .ireturn, 1, 0, [], [], false), (20, .aload_n 0, 1, 0, [0], [], false), (21, .getfield 10, 3, 0, [11, 0, 2, 5, 1], [], false), (24, .iload_n 1, 1, 0, [1], [], false), (25, .invokevirtual 101, 3, 0, [1], [], false), (28, .ifCond .ne 6, 3, 0, [34], [], false), (31, .bipush (-3), 2, (-3), [], [], false), (33, .ireturn, 1, 0, [], [], false), (34, .aload_n 0, 1, 0, [0], [], false), (35, .getfield 10, 3, 0, [11, 0, 2, 5, 1], [], false), (38, .aload_n 0, 1, 0, [0], [], false), (39, .getfield 10, 3, 0, [11, 0, 2, 5, 1], [], false), (42, .getfield 112, 3, 0, [5, 0, 2, 22, 1], [], false), (45, .iload_n 1, 1, 0, [1], [], false), (46, .aaload, 1, 0, [], [], false), (47, .iload_n 2, 1, 0, [2], [], false), (48, .invokevirtual 116, 3, 0, [2], [], false), (51, .ireturn, 1, 0, [], [], false)]
def sx_of_y : MethodName := ⟨"SpanLayers", "of", "(II)I"⟩
theorem sx_of_tb : sl_tbOK sl_R11 prog_1_method_5_code 3 (some .int) lk_sx [(97, 1), (101, 0), (116, 0)] sx_of_cd = true := by decide +kernel
theorem ix_factOf_w2 : Cond.instanceMethod ix_factOf_y ∈ sl_T0 := sl_in1 478 (by decide +kernel) rfl
theorem ix_factOf_w3 : Cond.selects ix_factOf_y.cls ix_factOf_y ix_factOf_y ∈ sl_T0 := sl_in1 479 (by decide +kernel) rfl
theorem ix_factOf_w4 : Cond.initialized ix_factOf_y.cls ∈ sl_T0 := sl_in1 87 (by decide +kernel) rfl
theorem ix_factOf_w5 : Cond.code ix_factOf_y prog_7_method_14_code 3 (some .int) ∈ sl_T0 := sl_in1 480 (by decide +kernel) rfl
theorem ix_factOf_w6 : ix_factOf_y.cls ≠ "java/lang/invoke/MethodHandle" ∧ ix_factOf_y.cls ≠ "java/lang/invoke/VarHandle" ∧ (parseMethodDescriptor ix_factOf_y.desc).map (fun d => d.parameters.length) = some 2 := by decide +kernel
theorem cs_sx_116 (g : sl_G) {hh : Nat} (h : 4 ≤ hh) : sl_CallS g sl_R11 116 0 5 hh 3 ix_factOf_pt := sl_callV (y := ix_factOf_y) (T := sl_F5) (N := 2) (ix_factOf_snd g) h (by decide) (sl_in1 477 (by decide +kernel) rfl) ix_factOf_w2 ix_factOf_w3 ix_factOf_w4 ix_factOf_w5 ix_factOf_w6 rfl (by decide)
def sx_of_ct : List sl_Ct := [(2, 1, 0, sx_isBelow_pt), (2, 0, 5, ix_isIn_pt), (3, 0, 5, ix_factOf_pt)]
theorem sx_of_hc (g : sl_G) : sl_HC g sl_R11 4 sx_of_ct [(97, 1), (101, 0), (116, 0)] := sl_HC_cons (cs_sx_97 g (by decide)) (sl_HC_cons (cs_sx_101 g (by decide)) (sl_HC_cons (cs_sx_116 g (by decide)) (sl_HC_nil g sl_R11 4)))
set_option maxRecDepth 20000 in
set_option maxHeartbeats 2000000 in
theorem sx_of_snd (g : sl_G) : sl_Snd g sx_of_y prog_1_method_5_code 3 (some .int) 4 (sx_of_pt) := by
  intro As μ Q hw h
  unfold sx_of_pt at h
  split at h
  next c0 a0 a1 a2 =>
    split at h
    next e_ =>
      subst e_
      split at h
      next e_ =>
        subst e_
        refine sl_mk2 g [true, true, true] (cst := [some (.inr (.inr (some (11, 0)))), some (.inl a1), some (.inl a2)]) (lv0 := [none, none, none]) (by decide) rfl hw rfl rfl rfl lk_sx_ok (sx_of_hc g) sx_of_tb rfl ?_
        intro X M
        exact ⟨_, sl_VV0, h⟩
      next => exact h.elim
    next => exact h.elim
  next => exact h.elim
def sx_how (a1 : Int32) (a2 : Int32) (μ : sl_M) (Q : Int32 → sl_M → Prop) : Prop := sx_isBelow a1 (30 : Int32) μ (fun r2 m1 => (r2 = (0 : Int32) → Q (-1 : Int32) m1) ∧ (¬ r2 = (0 : Int32) → sx_isBelow a2 (30 : Int32) m1 (fun r4 m3 => (r4 = (0 : Int32) → Q (-1 : Int32) m3) ∧ (¬ r4 = (0 : Int32) → (a1 = a2 → Q (-1 : Int32) m3) ∧ (¬ a1 = a2 → ix_isIn a1 m3 (fun r6 m5 => (r6 = (0 : Int32) → Q (-3 : Int32) m5) ∧ (¬ r6 = (0 : Int32) → ix_isIn a2 m5 (fun r8 m7 => (r8 = (0 : Int32) → Q (-3 : Int32) m7) ∧ (¬ r8 = (0 : Int32) → vp_in a1 30 ∧ vp_in a2 30 ∧ sp_lieTo (4 + a1.toNatClampNeg) (4 + a2.toNatClampNeg) m7 (fun r10 m9 => Q r10 m9))))))))))
def sx_how_pt : sl_PT := fun As μ Q => match As with
  | [.inr (.inr (some (c0, a0))), .inl a1, .inl a2] => if c0 = 11 then (if a0 = 0 then (sx_how a1 a2 μ (fun r μ' => Q (some (.inl r)) μ')) else False) else False
  | _ => False
def sx_how_cd : List sl_Ent := [(0, .iload_n 1, 1, 0, [1], [], false), (1, .bipush 30, 2, 30, [], [], false), (3, .invokestatic 97, 3, 0, [0], [], false), (6, .ifCond .eq 17, 3, 0, [23], [], false), (9, .iload_n 2, 1, 0, [2], [], false), (10, .bipush 30, 2, 30, [], [], false), (12, .invokestatic 97, 3, 0, [0], [], false), (15, .ifCond .eq 8, 3, 0, [23], [], false), (18, .iload_n 1, 1, 0, [1], [], false), (19, .iload_n 2, 1, 0, [2], [], false), (20, .if_icmp .ne 5, 3, 0, [25], [], false), (23, .iconst (-1), 1, (-1), [], [], false), (24, .ireturn, 1, 0, [], [], false), (25, .aload_n 0, 1, 0, [0], [], false), (26, .getfield 10, 3, 0, [11, 0, 2, 5, 1], [], false), (29, .iload_n 1, 1, 0, [1], [], false), (30, .invokevirtual 101, 3, 0, [1], [], false), (33, .ifCond .eq 14, 3, 0, [47], [], false), (36, .aload_n 0, 1, 0, [0], [], false), (37, .getfield 10, 3, 0, [11, 0, 2, 5, 1], [], false), (40, .iload_n 2, 1, 0, [2], [], false), (41, .invokevirtual 101, 3, 0, [1], [], false), (44, .ifCond .ne 6, 3, 0, [50], [], false), (47, .bipush (-3), 2, (-3), [], [], false), (49, .ireturn, 1, 0, [], [], false), (50, .aload_n 0, 1, 0, [0], [], false), (51, .getfield 10, 3, 0, [11, 0, 2, 5, 1], [], false), (54, .getfield 112, 3, 0, [5, 0, 2, 22, 1], [], false), (57, .iload_n 1, 1, 0, [1], [], false), (58, .aaload, 1, 0, [], [], false), (59, .aload_n 0, 1, 0, [0], [], false), (60, .getfield 10, 3, 0, [11, 0, 2, 5, 1], [], false), (63, .getfield 112, 3, 0, [5, 0, 2, 22, 1], [], false), (66, .iload_n 2, 1, 0, [2], [], false), (67, .aaload, 1, 0, [], [], false), (68, .invokevirtual 120, 3, 0, [2], [], false), (71, .ireturn, 1, 0, [], [], false)]
def sx_how_y : MethodName := ⟨"SpanLayers", "how", "(II)I"⟩
theorem sx_how_tb : sl_tbOK sl_R11 prog_1_method_6_code 3 (some .int) lk_sx [(97, 1), (101, 0), (120, 0)] sx_how_cd = true := by decide +kernel
theorem cs_sx_120 (g : sl_G) {hh : Nat} (h : 2 ≤ hh) : sl_CallS g sl_R11 120 0 9 hh 2 sp_lieTo_pt := sl_callV (y := sp_lieTo_y) (T := sl_F9) (N := 6) (sp_lieTo_snd g) h (by decide) (sl_in1 508 (by decide +kernel) rfl) sp_lieTo_w2 sp_lieTo_w3 sp_lieTo_w4 sp_lieTo_w5 sp_lieTo_w6 rfl (by decide)
def sx_how_ct : List sl_Ct := [(2, 1, 0, sx_isBelow_pt), (2, 0, 5, ix_isIn_pt), (2, 0, 9, sp_lieTo_pt)]
theorem sx_how_hc (g : sl_G) : sl_HC g sl_R11 2 sx_how_ct [(97, 1), (101, 0), (120, 0)] := sl_HC_cons (cs_sx_97 g (by decide)) (sl_HC_cons (cs_sx_101 g (by decide)) (sl_HC_cons (cs_sx_120 g (by decide)) (sl_HC_nil g sl_R11 2)))
set_option maxRecDepth 20000 in
set_option maxHeartbeats 2000000 in
theorem sx_how_snd (g : sl_G) : sl_Snd g sx_how_y prog_1_method_6_code 3 (some .int) 2 (sx_how_pt) := by
  intro As μ Q hw h
  unfold sx_how_pt at h
  split at h
  next c0 a0 a1 a2 =>
    split at h
    next e_ =>
      subst e_
      split at h
      next e_ =>
        subst e_
        refine sl_mk2 g [true, true, true] (cst := [some (.inr (.inr (some (11, 0)))), some (.inl a1), some (.inl a2)]) (lv0 := [none, none, none]) (by decide) rfl hw rfl rfl rfl lk_sx_ok (sx_how_hc g) sx_how_tb rfl ?_
        intro X M
        exact ⟨_, sl_VV0, h⟩
      next => exact h.elim
    next => exact h.elim
  next => exact h.elim
def sx_stab (a1 : Int32) (μ : sl_M) (Q : Int32 → sl_M → Prop) : Prop := sx_isPlace a1 μ (fun r2 m1 => (r2 = (0 : Int32) → Q (-2 : Int32) m1) ∧ (¬ r2 = (0 : Int32) → ix_bitsMeeting a1 a1 m1 (fun r4 m3 => Q r4 m3)))
def sx_stab_pt : sl_PT := fun As μ Q => match As with
  | [.inr (.inr (some (c0, a0))), .inl a1] => if c0 = 11 then (if a0 = 0 then (sx_stab a1 μ (fun r μ' => Q (some (.inl r)) μ')) else False) else False
  | _ => False
def sx_stab_cd : List sl_Ent := [(0, .iload_n 1, 1, 0, [1], [], false), (1, .invokestatic 126, 3, 0, [0], [], false), (4, .ifCond .eq 15, 3, 0, [19], [], false), (7, .aload_n 0, 1, 0, [0], [], false), (8, .getfield 10, 3, 0, [11, 0, 2, 5, 1], [], false), (11, .iload_n 1, 1, 0, [1], [], false), (12, .iload_n 1, 1, 0, [1], [], false), (13, .invokevirtual 129, 3, 0, [1], [], false), (16, .goto 5, 3, 0, [21], [], false), (19, .bipush (-2), 2, (-2), [], [], false), (21, .ireturn, 1, 0, [], [], false)]
def sx_stab_y : MethodName := ⟨"SpanLayers", "stab", "(I)I"⟩
theorem sx_stab_tb : sl_tbOK sl_R11 prog_1_method_7_code 2 (some .int) lk_sx [(126, 1), (129, 0)] sx_stab_cd = true := by decide +kernel
theorem cs_sx_129 (g : sl_G) {hh : Nat} (h : 2 ≤ hh) : sl_CallS g sl_R11 129 0 5 hh 3 ix_bitsMeeting_pt := sl_callV (y := ix_bitsMeeting_y) (T := sl_F5) (N := 2) (ix_bitsMeeting_snd g) h (by decide) (sl_in1 520 (by decide +kernel) rfl) ix_bitsMeeting_w2 ix_bitsMeeting_w3 ix_bitsMeeting_w4 ix_bitsMeeting_w5 ix_bitsMeeting_w6 rfl (by decide)
def sx_stab_ct : List sl_Ct := [(1, 1, 0, sx_isPlace_pt), (3, 0, 5, ix_bitsMeeting_pt)]
theorem sx_stab_hc (g : sl_G) : sl_HC g sl_R11 2 sx_stab_ct [(126, 1), (129, 0)] := sl_HC_cons (cs_sx_126 g (by decide)) (sl_HC_cons (cs_sx_129 g (by decide)) (sl_HC_nil g sl_R11 2))
set_option maxRecDepth 20000 in
set_option maxHeartbeats 2000000 in
theorem sx_stab_snd (g : sl_G) : sl_Snd g sx_stab_y prog_1_method_7_code 2 (some .int) 2 (sx_stab_pt) := by
  intro As μ Q hw h
  unfold sx_stab_pt at h
  split at h
  next c0 a0 a1 =>
    split at h
    next e_ =>
      subst e_
      split at h
      next e_ =>
        subst e_
        refine sl_mk2 g [true, true] (cst := [some (.inr (.inr (some (11, 0)))), some (.inl a1)]) (lv0 := [none, none]) (by decide) rfl hw rfl rfl rfl lk_sx_ok (sx_stab_hc g) sx_stab_tb rfl ?_
        intro X M
        exact ⟨_, sl_VV0, h⟩
      next => exact h.elim
    next => exact h.elim
  next => exact h.elim
def sx_stabbed (a1 : Int32) (a2 : Int32) (a3 : Int32) (μ : sl_M) (Q : Int32 → sl_M → Prop) : Prop := sx_isPlace a1 μ (fun r2 m1 => (r2 = (0 : Int32) → Q (-2 : Int32) m1) ∧ (¬ r2 = (0 : Int32) → (a2 < (-1 : Int32) → Q (-1 : Int32) m1) ∧ (¬ a2 < (-1 : Int32) → (a3 < (0 : Int32) → Q (-1 : Int32) m1) ∧ (¬ a3 < (0 : Int32) → ix_stabbedAt a1 a2 a3 m1 (fun r4 m3 => Q r4 m3)))))
def sx_stabbed_pt : sl_PT := fun As μ Q => match As with
  | [.inr (.inr (some (c0, a0))), .inl a1, .inl a2, .inl a3] => if c0 = 11 then (if a0 = 0 then (sx_stabbed a1 a2 a3 μ (fun r μ' => Q (some (.inl r)) μ')) else False) else False
  | _ => False
def sx_stabbed_cd : List sl_Ent := [(0, .iload_n 1, 1, 0, [1], [], false), (1, .invokestatic 126, 3, 0, [0], [], false), (4, .ifCond .ne 6, 3, 0, [10], [], false), (7, .bipush (-2), 2, (-2), [], [], false), (9, .ireturn, 1, 0, [], [], false), (10, .iload_n 2, 1, 0, [2], [], false), (11, .iconst (-1), 1, (-1), [], [], false), (12, .if_icmp .lt 7, 3, 0, [19], [], false), (15, .iload_n 3, 1, 0, [3], [], false), (16, .ifCond .ge 5, 3, 0, [21], [], false), (19, .iconst (-1), 1, (-1), [], [], false), (20, .ireturn, 1, 0, [], [], false), (21, .aload_n 0, 1, 0, [0], [], false), (22, .getfield 10, 3, 0, [11, 0, 2, 5, 1], [], false), (25, .iload_n 1, 1, 0, [1], [], false), (26, .iload_n 2, 1, 0, [2], [], false), (27, .iload_n 3, 1, 0, [3], [], false), (28, .invokevirtual 133, 3, 0, [1], [], false), (31, .ireturn, 1, 0, [], [], false)]
def sx_stabbed_y : MethodName := ⟨"SpanLayers", "stabbed", "(III)I"⟩
theorem sx_stabbed_tb : sl_tbOK sl_R11 prog_1_method_8_code 4 (some .int) lk_sx [(126, 1), (133, 0)] sx_stabbed_cd = true := by decide +kernel
theorem ix_stabbedAt_w2 : Cond.instanceMethod ix_stabbedAt_y ∈ sl_T0 := sl_in1 526 (by decide +kernel) rfl
theorem ix_stabbedAt_w3 : Cond.selects ix_stabbedAt_y.cls ix_stabbedAt_y ix_stabbedAt_y ∈ sl_T0 := sl_in1 527 (by decide +kernel) rfl
theorem ix_stabbedAt_w4 : Cond.initialized ix_stabbedAt_y.cls ∈ sl_T0 := sl_in1 87 (by decide +kernel) rfl
theorem ix_stabbedAt_w5 : Cond.code ix_stabbedAt_y prog_7_method_13_code 8 (some .int) ∈ sl_T0 := sl_in1 528 (by decide +kernel) rfl
theorem ix_stabbedAt_w6 : ix_stabbedAt_y.cls ≠ "java/lang/invoke/MethodHandle" ∧ ix_stabbedAt_y.cls ≠ "java/lang/invoke/VarHandle" ∧ (parseMethodDescriptor ix_stabbedAt_y.desc).map (fun d => d.parameters.length) = some 3 := by decide +kernel
theorem cs_sx_133 (g : sl_G) {hh : Nat} (h : 5 ≤ hh) : sl_CallS g sl_R11 133 0 5 hh 4 ix_stabbedAt_pt := sl_callV (y := ix_stabbedAt_y) (T := sl_F5) (N := 2) (ix_stabbedAt_snd g) h (by decide) (sl_in1 525 (by decide +kernel) rfl) ix_stabbedAt_w2 ix_stabbedAt_w3 ix_stabbedAt_w4 ix_stabbedAt_w5 ix_stabbedAt_w6 rfl (by decide)
def sx_stabbed_ct : List sl_Ct := [(1, 1, 0, sx_isPlace_pt), (4, 0, 5, ix_stabbedAt_pt)]
theorem sx_stabbed_hc (g : sl_G) : sl_HC g sl_R11 5 sx_stabbed_ct [(126, 1), (133, 0)] := sl_HC_cons (cs_sx_126 g (by decide)) (sl_HC_cons (cs_sx_133 g (by decide)) (sl_HC_nil g sl_R11 5))
set_option maxRecDepth 20000 in
set_option maxHeartbeats 2000000 in
theorem sx_stabbed_snd (g : sl_G) : sl_Snd g sx_stabbed_y prog_1_method_8_code 4 (some .int) 5 (sx_stabbed_pt) := by
  intro As μ Q hw h
  unfold sx_stabbed_pt at h
  split at h
  next c0 a0 a1 a2 a3 =>
    split at h
    next e_ =>
      subst e_
      split at h
      next e_ =>
        subst e_
        refine sl_mk2 g [true, true, true, true] (cst := [some (.inr (.inr (some (11, 0)))), some (.inl a1), some (.inl a2), some (.inl a3)]) (lv0 := [none, none, none, none]) (by decide) rfl hw rfl rfl rfl lk_sx_ok (sx_stabbed_hc g) sx_stabbed_tb rfl ?_
        intro X M
        exact ⟨_, sl_VV0, h⟩
      next => exact h.elim
    next => exact h.elim
  next => exact h.elim
def sx_meet (a1 : Int32) (a2 : Int32) (μ : sl_M) (Q : Int32 → sl_M → Prop) : Prop := sx_isRun a1 a2 μ (fun r2 m1 => (r2 = (0 : Int32) → Q (-2 : Int32) m1) ∧ (¬ r2 = (0 : Int32) → ix_bitsMeeting a1 a2 m1 (fun r4 m3 => Q r4 m3)))
def sx_meet_pt : sl_PT := fun As μ Q => match As with
  | [.inr (.inr (some (c0, a0))), .inl a1, .inl a2] => if c0 = 11 then (if a0 = 0 then (sx_meet a1 a2 μ (fun r μ' => Q (some (.inl r)) μ')) else False) else False
  | _ => False
def sx_meet_cd : List sl_Ent := [(0, .iload_n 1, 1, 0, [1], [], false), (1, .iload_n 2, 1, 0, [2], [], false), (2, .invokestatic 137, 3, 0, [0], [], false), (5, .ifCond .eq 15, 3, 0, [20], [], false), (8, .aload_n 0, 1, 0, [0], [], false), (9, .getfield 10, 3, 0, [11, 0, 2, 5, 1], [], false), (12, .iload_n 1, 1, 0, [1], [], false), (13, .iload_n 2, 1, 0, [2], [], false), (14, .invokevirtual 129, 3, 0, [1], [], false), (17, .goto 5, 3, 0, [22], [], false), (20, .bipush (-2), 2, (-2), [], [], false), (22, .ireturn, 1, 0, [], [], false)]
def sx_meet_y : MethodName := ⟨"SpanLayers", "meet", "(II)I"⟩
theorem sx_meet_tb : sl_tbOK sl_R11 prog_1_method_9_code 3 (some .int) lk_sx [(137, 1), (129, 0)] sx_meet_cd = true := by decide +kernel
def sx_meet_ct : List sl_Ct := [(2, 1, 0, sx_isRun_pt), (3, 0, 5, ix_bitsMeeting_pt)]
theorem sx_meet_hc (g : sl_G) : sl_HC g sl_R11 3 sx_meet_ct [(137, 1), (129, 0)] := sl_HC_cons (cs_sx_137 g (by decide)) (sl_HC_cons (cs_sx_129 g (by decide)) (sl_HC_nil g sl_R11 3))
set_option maxRecDepth 20000 in
set_option maxHeartbeats 2000000 in
theorem sx_meet_snd (g : sl_G) : sl_Snd g sx_meet_y prog_1_method_9_code 3 (some .int) 3 (sx_meet_pt) := by
  intro As μ Q hw h
  unfold sx_meet_pt at h
  split at h
  next c0 a0 a1 a2 =>
    split at h
    next e_ =>
      subst e_
      split at h
      next e_ =>
        subst e_
        refine sl_mk2 g [true, true, true] (cst := [some (.inr (.inr (some (11, 0)))), some (.inl a1), some (.inl a2)]) (lv0 := [none, none, none]) (by decide) rfl hw rfl rfl rfl lk_sx_ok (sx_meet_hc g) sx_meet_tb rfl ?_
        intro X M
        exact ⟨_, sl_VV0, h⟩
      next => exact h.elim
    next => exact h.elim
  next => exact h.elim
def sx_pairs (a1 : Int32) (μ : sl_M) (Q : Int32 → sl_M → Prop) : Prop := sx_isBelow a1 (4 : Int32) μ (fun r2 m1 => (r2 = (0 : Int32) → Q (-1 : Int32) m1) ∧ (¬ r2 = (0 : Int32) → ix_countPairs a1 m1 (fun r4 m3 => Q r4 m3)))
def sx_pairs_pt : sl_PT := fun As μ Q => match As with
  | [.inr (.inr (some (c0, a0))), .inl a1] => if c0 = 11 then (if a0 = 0 then (sx_pairs a1 μ (fun r μ' => Q (some (.inl r)) μ')) else False) else False
  | _ => False
def sx_pairs_cd : List sl_Ent := [(0, .iload_n 1, 1, 0, [1], [], false), (1, .iconst 4, 1, 4, [], [], false), (2, .invokestatic 97, 3, 0, [0], [], false), (5, .ifCond .eq 14, 3, 0, [19], [], false), (8, .aload_n 0, 1, 0, [0], [], false), (9, .getfield 10, 3, 0, [11, 0, 2, 5, 1], [], false), (12, .iload_n 1, 1, 0, [1], [], false), (13, .invokevirtual 140, 3, 0, [1], [], false), (16, .goto 4, 3, 0, [20], [], false), (19, .iconst (-1), 1, (-1), [], [], false), (20, .ireturn, 1, 0, [], [], false)]
def sx_pairs_y : MethodName := ⟨"SpanLayers", "pairs", "(I)I"⟩
theorem sx_pairs_tb : sl_tbOK sl_R11 prog_1_method_10_code 2 (some .int) lk_sx [(97, 1), (140, 0)] sx_pairs_cd = true := by decide +kernel
theorem ix_countPairs_w2 : Cond.instanceMethod ix_countPairs_y ∈ sl_T0 := sl_in1 538 (by decide +kernel) rfl
theorem ix_countPairs_w3 : Cond.selects ix_countPairs_y.cls ix_countPairs_y ix_countPairs_y ∈ sl_T0 := sl_in1 539 (by decide +kernel) rfl
theorem ix_countPairs_w4 : Cond.initialized ix_countPairs_y.cls ∈ sl_T0 := sl_in1 87 (by decide +kernel) rfl
theorem ix_countPairs_w5 : Cond.code ix_countPairs_y prog_7_method_17_code 5 (some .int) ∈ sl_T0 := sl_in1 540 (by decide +kernel) rfl
theorem ix_countPairs_w6 : ix_countPairs_y.cls ≠ "java/lang/invoke/MethodHandle" ∧ ix_countPairs_y.cls ≠ "java/lang/invoke/VarHandle" ∧ (parseMethodDescriptor ix_countPairs_y.desc).map (fun d => d.parameters.length) = some 1 := by decide +kernel
theorem cs_sx_140 (g : sl_G) {hh : Nat} (h : 4 ≤ hh) : sl_CallS g sl_R11 140 0 5 hh 2 ix_countPairs_pt := sl_callV (y := ix_countPairs_y) (T := sl_F5) (N := 2) (ix_countPairs_snd g) h (by decide) (sl_in1 537 (by decide +kernel) rfl) ix_countPairs_w2 ix_countPairs_w3 ix_countPairs_w4 ix_countPairs_w5 ix_countPairs_w6 rfl (by decide)
def sx_pairs_ct : List sl_Ct := [(2, 1, 0, sx_isBelow_pt), (2, 0, 5, ix_countPairs_pt)]
theorem sx_pairs_hc (g : sl_G) : sl_HC g sl_R11 4 sx_pairs_ct [(97, 1), (140, 0)] := sl_HC_cons (cs_sx_97 g (by decide)) (sl_HC_cons (cs_sx_140 g (by decide)) (sl_HC_nil g sl_R11 4))
set_option maxRecDepth 20000 in
set_option maxHeartbeats 2000000 in
theorem sx_pairs_snd (g : sl_G) : sl_Snd g sx_pairs_y prog_1_method_10_code 2 (some .int) 4 (sx_pairs_pt) := by
  intro As μ Q hw h
  unfold sx_pairs_pt at h
  split at h
  next c0 a0 a1 =>
    split at h
    next e_ =>
      subst e_
      split at h
      next e_ =>
        subst e_
        refine sl_mk2 g [true, true] (cst := [some (.inr (.inr (some (11, 0)))), some (.inl a1)]) (lv0 := [none, none]) (by decide) rfl hw rfl rfl rfl lk_sx_ok (sx_pairs_hc g) sx_pairs_tb rfl ?_
        intro X M
        exact ⟨_, sl_VV0, h⟩
      next => exact h.elim
    next => exact h.elim
  next => exact h.elim
def sx_nth (a1 : Int32) (a2 : Int32) (μ : sl_M) (Q : Int32 → sl_M → Prop) : Prop := sx_isBelow a1 (5 : Int32) μ (fun r2 m1 => (r2 = (0 : Int32) → Q (-1 : Int32) m1) ∧ (¬ r2 = (0 : Int32) → (a2 < (0 : Int32) → Q (-1 : Int32) m1) ∧ (¬ a2 < (0 : Int32) → ix_sortBy a1 m1 (fun r4 m3 => (a2 < r4 → vp_in a2 30 ∧ sl_kd (m3 3 a2.toNatClampNeg).toNatClampNeg = 9 ∧ Q (m3 ((m3 3 a2.toNatClampNeg).toNatClampNeg) 0) m3) ∧ (¬ a2 < r4 → Q (-5 : Int32) m3)))))
def sx_nth_pt : sl_PT := fun As μ Q => match As with
  | [.inr (.inr (some (c0, a0))), .inl a1, .inl a2] => if c0 = 11 then (if a0 = 0 then (sx_nth a1 a2 μ (fun r μ' => Q (some (.inl r)) μ')) else False) else False
  | _ => False
def sx_nth_cd : List sl_Ent := [(0, .iload_n 1, 1, 0, [1], [], false), (1, .iconst 5, 1, 5, [], [], false), (2, .invokestatic 97, 3, 0, [0], [], false), (5, .ifCond .eq 7, 3, 0, [12], [], false), (8, .iload_n 2, 1, 0, [2], [], false), (9, .ifCond .ge 5, 3, 0, [14], [], false), (12, .iconst (-1), 1, (-1), [], [], false), (13, .ireturn, 1, 0, [], [], false), (14, .aload_n 0, 1, 0, [0], [], false), (15, .getfield 10, 3, 0, [11, 0, 2, 5, 1], [], false), (18, .iload_n 1, 1, 0, [1], [], false), (19, .invokevirtual 144, 3, 0, [1], [], false), (22, .istore_n 3, 1, 0, [3], [], false), (23, .iload_n 2, 1, 0, [2], [], false), (24, .iload_n 3, 1, 0, [3], [], false), (25, .if_icmp .ge 18, 3, 0, [43], [], false), (28, .aload_n 0, 1, 0, [0], [], false), (29, .getfield 10, 3, 0, [11, 0, 2, 5, 1], [], false), (32, .getfield 147, 3, 0, [5, 1, 2, 23, 2], [], false), (35, .iload_n 2, 1, 0, [2], [], false), (36, .aaload, 1, 0, [], [], false), (37, .getfield 150, 3, 0, [9, 0, 0, 0, 0], [], false), (40, .goto 5, 3, 0, [45], [], false), (43, .bipush (-5), 2, (-5), [], [], false), (45, .ireturn, 1, 0, [], [], false)]
def sx_nth_y : MethodName := ⟨"SpanLayers", "nth", "(II)I"⟩
theorem sx_nth_tb : sl_tbOK sl_R11 prog_1_method_11_code 4 (some .int) lk_sx [(97, 1), (144, 0)] sx_nth_cd = true := by decide +kernel
theorem cs_sx_144 (g : sl_G) {hh : Nat} (h : 4 ≤ hh) : sl_CallS g sl_R11 144 0 5 hh 2 ix_sortBy_pt := sl_callV (y := ix_sortBy_y) (T := sl_F5) (N := 2) (ix_sortBy_snd g) h (by decide) (sl_in1 549 (by decide +kernel) rfl) ix_sortBy_w2 ix_sortBy_w3 ix_sortBy_w4 ix_sortBy_w5 ix_sortBy_w6 rfl (by decide)
def sx_nth_ct : List sl_Ct := [(2, 1, 0, sx_isBelow_pt), (2, 0, 5, ix_sortBy_pt)]
theorem sx_nth_hc (g : sl_G) : sl_HC g sl_R11 4 sx_nth_ct [(97, 1), (144, 0)] := sl_HC_cons (cs_sx_97 g (by decide)) (sl_HC_cons (cs_sx_144 g (by decide)) (sl_HC_nil g sl_R11 4))
set_option maxRecDepth 20000 in
set_option maxHeartbeats 2000000 in
theorem sx_nth_snd (g : sl_G) : sl_Snd g sx_nth_y prog_1_method_11_code 4 (some .int) 4 (sx_nth_pt) := by
  intro As μ Q hw h
  unfold sx_nth_pt at h
  split at h
  next c0 a0 a1 a2 =>
    split at h
    next e_ =>
      subst e_
      split at h
      next e_ =>
        subst e_
        refine sl_mk2 g [true, true, true, false] (cst := [some (.inr (.inr (some (11, 0)))), some (.inl a1), some (.inl a2)]) (lv0 := [none, none, none, none]) (by decide) rfl hw rfl rfl rfl lk_sx_ok (sx_nth_hc g) sx_nth_tb rfl ?_
        intro X M
        exact ⟨_, sl_VV0, h⟩
      next => exact h.elim
    next => exact h.elim
  next => exact h.elim
def sx_place (a1 : Int32) (a2 : Int32) (μ : sl_M) (Q : Int32 → sl_M → Prop) : Prop := sx_isBelow a1 (5 : Int32) μ (fun r2 m1 => (r2 = (0 : Int32) → Q (-1 : Int32) m1) ∧ (¬ r2 = (0 : Int32) → sx_isBelow a2 (30 : Int32) m1 (fun r4 m3 => (r4 = (0 : Int32) → Q (-1 : Int32) m3) ∧ (¬ r4 = (0 : Int32) → ix_isIn a2 m3 (fun r6 m5 => (r6 = (0 : Int32) → Q (-3 : Int32) m5) ∧ (¬ r6 = (0 : Int32) → vp_in a2 30 ∧ ix_countAhead a1 (4 + a2.toNatClampNeg) m5 (fun r8 m7 => Q r8 m7)))))))
def sx_place_pt : sl_PT := fun As μ Q => match As with
  | [.inr (.inr (some (c0, a0))), .inl a1, .inl a2] => if c0 = 11 then (if a0 = 0 then (sx_place a1 a2 μ (fun r μ' => Q (some (.inl r)) μ')) else False) else False
  | _ => False
def sx_place_cd : List sl_Ent := [(0, .iload_n 1, 1, 0, [1], [], false), (1, .iconst 5, 1, 5, [], [], false), (2, .invokestatic 97, 3, 0, [0], [], false), (5, .ifCond .eq 12, 3, 0, [17], [], false), (8, .iload_n 2, 1, 0, [2], [], false), (9, .bipush 30, 2, 30, [], [], false), (11, .invokestatic 97, 3, 0, [0], [], false), (14, .ifCond .ne 5, 3, 0, [19], [], false), (17, .iconst (-1), 1, (-1), [], [], false), (18, .ireturn, 1, 0, [], [], false), (19, .aload_n 0, 1, 0, [0], [], false), (20, .getfield 10, 3, 0, [11, 0, 2, 5, 1], [], false), (23, .iload_n 2, 1, 0, [2], [], false), (24, .invokevirtual 101, 3, 0, [1], [], false), (27, .ifCond .ne 6, 3, 0, [33], [], false), (30, .bipush (-3), 2, (-3), [], [], false), (32, .ireturn, 1, 0, [], [], false), (33, .aload_n 0, 1, 0, [0], [], false), (34, .getfield 10, 3, 0, [11, 0, 2, 5, 1], [], false), (37, .iload_n 1, 1, 0, [1], [], false), (38, .aload_n 0, 1, 0, [0], [], false), (39, .getfield 10, 3, 0, [11, 0, 2, 5, 1], [], false), (42, .getfield 112, 3, 0, [5, 0, 2, 22, 1], [], false), (45, .iload_n 2, 1, 0, [2], [], false), (46, .aaload, 1, 0, [], [], false), (47, .invokevirtual 154, 3, 0, [2], [], false), (50, .ireturn, 1, 0, [], [], false)]
def sx_place_y : MethodName := ⟨"SpanLayers", "place", "(II)I"⟩
theorem sx_place_tb : sl_tbOK sl_R11 prog_1_method_12_code 3 (some .int) lk_sx [(97, 1), (101, 0), (154, 0)] sx_place_cd = true := by decide +kernel
theorem ix_countAhead_w2 : Cond.instanceMethod ix_countAhead_y ∈ sl_T0 := sl_in1 555 (by decide +kernel) rfl
theorem ix_countAhead_w3 : Cond.selects ix_countAhead_y.cls ix_countAhead_y ix_countAhead_y ∈ sl_T0 := sl_in1 556 (by decide +kernel) rfl
theorem ix_countAhead_w4 : Cond.initialized ix_countAhead_y.cls ∈ sl_T0 := sl_in1 87 (by decide +kernel) rfl
theorem ix_countAhead_w5 : Cond.code ix_countAhead_y prog_7_method_19_code 5 (some .int) ∈ sl_T0 := sl_in1 557 (by decide +kernel) rfl
theorem ix_countAhead_w6 : ix_countAhead_y.cls ≠ "java/lang/invoke/MethodHandle" ∧ ix_countAhead_y.cls ≠ "java/lang/invoke/VarHandle" ∧ (parseMethodDescriptor ix_countAhead_y.desc).map (fun d => d.parameters.length) = some 2 := by decide +kernel
theorem cs_sx_154 (g : sl_G) {hh : Nat} (h : 4 ≤ hh) : sl_CallS g sl_R11 154 0 5 hh 3 ix_countAhead_pt := sl_callV (y := ix_countAhead_y) (T := sl_F5) (N := 2) (ix_countAhead_snd g) h (by decide) (sl_in1 554 (by decide +kernel) rfl) ix_countAhead_w2 ix_countAhead_w3 ix_countAhead_w4 ix_countAhead_w5 ix_countAhead_w6 rfl (by decide)
def sx_place_ct : List sl_Ct := [(2, 1, 0, sx_isBelow_pt), (2, 0, 5, ix_isIn_pt), (3, 0, 5, ix_countAhead_pt)]
theorem sx_place_hc (g : sl_G) : sl_HC g sl_R11 4 sx_place_ct [(97, 1), (101, 0), (154, 0)] := sl_HC_cons (cs_sx_97 g (by decide)) (sl_HC_cons (cs_sx_101 g (by decide)) (sl_HC_cons (cs_sx_154 g (by decide)) (sl_HC_nil g sl_R11 4)))
set_option maxRecDepth 20000 in
set_option maxHeartbeats 2000000 in
theorem sx_place_snd (g : sl_G) : sl_Snd g sx_place_y prog_1_method_12_code 3 (some .int) 4 (sx_place_pt) := by
  intro As μ Q hw h
  unfold sx_place_pt at h
  split at h
  next c0 a0 a1 a2 =>
    split at h
    next e_ =>
      subst e_
      split at h
      next e_ =>
        subst e_
        refine sl_mk2 g [true, true, true] (cst := [some (.inr (.inr (some (11, 0)))), some (.inl a1), some (.inl a2)]) (lv0 := [none, none, none]) (by decide) rfl hw rfl rfl rfl lk_sx_ok (sx_place_hc g) sx_place_tb rfl ?_
        intro X M
        exact ⟨_, sl_VV0, h⟩
      next => exact h.elim
    next => exact h.elim
  next => exact h.elim
def sx_layer (a1 : Int32) (μ : sl_M) (Q : Int32 → sl_M → Prop) : Prop := (a1 < (0 : Int32) → Q (-1 : Int32) μ) ∧ (¬ a1 < (0 : Int32) → ix_bitsOfLayer a1 μ (fun r2 m1 => Q r2 m1))
def sx_layer_pt : sl_PT := fun As μ Q => match As with
  | [.inr (.inr (some (c0, a0))), .inl a1] => if c0 = 11 then (if a0 = 0 then (sx_layer a1 μ (fun r μ' => Q (some (.inl r)) μ')) else False) else False
  | _ => False
def sx_layer_cd : List sl_Ent := [(0, .iload_n 1, 1, 0, [1], [], false), (1, .ifCond .ge 7, 3, 0, [8], [], false), (4, .iconst (-1), 1, (-1), [], [], false), (5, .goto 11, 3, 0, [16], [], false), (8, .aload_n 0, 1, 0, [0], [], false), (9, .getfield 10, 3, 0, [11, 0, 2, 5, 1], [], false), (12, .iload_n 1, 1, 0, [1], [], false), (13, .invokevirtual 158, 3, 0, [0], [], false), (16, .ireturn, 1, 0, [], [], false)]
def sx_layer_y : MethodName := ⟨"SpanLayers", "layer", "(I)I"⟩
theorem sx_layer_tb : sl_tbOK sl_R11 prog_1_method_13_code 2 (some .int) lk_sx [(158, 0)] sx_layer_cd = true := by decide +kernel
theorem ix_bitsOfLayer_w2 : Cond.instanceMethod ix_bitsOfLayer_y ∈ sl_T0 := sl_in1 563 (by decide +kernel) rfl
theorem ix_bitsOfLayer_w3 : Cond.selects ix_bitsOfLayer_y.cls ix_bitsOfLayer_y ix_bitsOfLayer_y ∈ sl_T0 := sl_in1 564 (by decide +kernel) rfl
theorem ix_bitsOfLayer_w4 : Cond.initialized ix_bitsOfLayer_y.cls ∈ sl_T0 := sl_in1 87 (by decide +kernel) rfl
theorem ix_bitsOfLayer_w5 : Cond.code ix_bitsOfLayer_y prog_7_method_12_code 4 (some .int) ∈ sl_T0 := sl_in1 565 (by decide +kernel) rfl
theorem ix_bitsOfLayer_w6 : ix_bitsOfLayer_y.cls ≠ "java/lang/invoke/MethodHandle" ∧ ix_bitsOfLayer_y.cls ≠ "java/lang/invoke/VarHandle" ∧ (parseMethodDescriptor ix_bitsOfLayer_y.desc).map (fun d => d.parameters.length) = some 1 := by decide +kernel
theorem cs_sx_158 (g : sl_G) {hh : Nat} (h : 1 ≤ hh) : sl_CallS g sl_R11 158 0 5 hh 2 ix_bitsOfLayer_pt := sl_callV (y := ix_bitsOfLayer_y) (T := sl_F5) (N := 2) (ix_bitsOfLayer_snd g) h (by decide) (sl_in1 562 (by decide +kernel) rfl) ix_bitsOfLayer_w2 ix_bitsOfLayer_w3 ix_bitsOfLayer_w4 ix_bitsOfLayer_w5 ix_bitsOfLayer_w6 rfl (by decide)
def sx_layer_ct : List sl_Ct := [(2, 0, 5, ix_bitsOfLayer_pt)]
theorem sx_layer_hc (g : sl_G) : sl_HC g sl_R11 1 sx_layer_ct [(158, 0)] := sl_HC_cons (cs_sx_158 g (by decide)) (sl_HC_nil g sl_R11 1)
set_option maxRecDepth 20000 in
set_option maxHeartbeats 2000000 in
theorem sx_layer_snd (g : sl_G) : sl_Snd g sx_layer_y prog_1_method_13_code 2 (some .int) 1 (sx_layer_pt) := by
  intro As μ Q hw h
  unfold sx_layer_pt at h
  split at h
  next c0 a0 a1 =>
    split at h
    next e_ =>
      subst e_
      split at h
      next e_ =>
        subst e_
        refine sl_mk2 g [true, true] (cst := [some (.inr (.inr (some (11, 0)))), some (.inl a1)]) (lv0 := [none, none]) (by decide) rfl hw rfl rfl rfl lk_sx_ok (sx_layer_hc g) sx_layer_tb rfl ?_
        intro X M
        exact ⟨_, sl_VV0, h⟩
      next => exact h.elim
    next => exact h.elim
  next => exact h.elim
def sx_open (a1 : Int32) (a2 : Int32) (μ : sl_M) (Q : Int32 → sl_M → Prop) : Prop := sx_isBelow a1 (3 : Int32) μ (fun r2 m1 => (r2 = (0 : Int32) → Q (-1 : Int32) m1) ∧ (¬ r2 = (0 : Int32) → sx_isBelow a2 (5 : Int32) m1 (fun r4 m3 => (r4 = (0 : Int32) → Q (-1 : Int32) m3) ∧ (¬ r4 = (0 : Int32) → vp_in a1 3 ∧ cu_begin (90 + 2 * a1.toNatClampNeg) a2 m3 (fun m5 => sx_countOpen m5 (fun r7 m6 => Q r7 m6))))))
def sx_open_pt : sl_PT := fun As μ Q => match As with
  | [.inr (.inr (some (c0, a0))), .inl a1, .inl a2] => if c0 = 11 then (if a0 = 0 then (sx_open a1 a2 μ (fun r μ' => Q (some (.inl r)) μ')) else False) else False
  | _ => False
def sx_open_cd : List sl_Ent := [(0, .iload_n 1, 1, 0, [1], [], false), (1, .iconst 3, 1, 3, [], [], false), (2, .invokestatic 97, 3, 0, [0], [], false), (5, .ifCond .eq 11, 3, 0, [16], [], false), (8, .iload_n 2, 1, 0, [2], [], false), (9, .iconst 5, 1, 5, [], [], false), (10, .invokestatic 97, 3, 0, [0], [], false), (13, .ifCond .ne 5, 3, 0, [18], [], false), (16, .iconst (-1), 1, (-1), [], [], false), (17, .ireturn, 1, 0, [], [], false), (18, .aload_n 0, 1, 0, [0], [], false), (19, .getfield 32, 3, 0, [11, 3, 2, 24, 42], [], false), (22, .iload_n 1, 1, 0, [1], [], false), (23, .aaload, 1, 0, [], [], false), (24, .iload_n 2, 1, 0, [2], [], false), (25, .invokevirtual 161, 3, 0, [1], [], false), (28, .aload_n 0, 1, 0, [0], [], false), (29, .invokevirtual 164, 3, 0, [2], [], false), (32, .ireturn, 1, 0, [], [], false)]
def sx_open_y : MethodName := ⟨"SpanLayers", "open", "(II)I"⟩
theorem sx_open_tb : sl_tbOK sl_R11 prog_1_method_14_code 3 (some .int) lk_sx [(97, 1), (161, 0), (164, 0)] sx_open_cd = true := by decide +kernel
theorem cu_begin_w2 : Cond.instanceMethod cu_begin_y ∈ sl_T0 := sl_in1 571 (by decide +kernel) rfl
theorem cu_begin_w3 : Cond.selects cu_begin_y.cls cu_begin_y cu_begin_y ∈ sl_T0 := sl_in1 572 (by decide +kernel) rfl
theorem cu_begin_w4 : Cond.initialized cu_begin_y.cls ∈ sl_T0 := sl_in1 96 (by decide +kernel) rfl
theorem cu_begin_w5 : Cond.code cu_begin_y prog_6_method_2_code 2 none ∈ sl_T0 := sl_in1 573 (by decide +kernel) rfl
theorem cu_begin_w6 : cu_begin_y.cls ≠ "java/lang/invoke/MethodHandle" ∧ cu_begin_y.cls ≠ "java/lang/invoke/VarHandle" ∧ (parseMethodDescriptor cu_begin_y.desc).map (fun d => d.parameters.length) = some 1 := by decide +kernel
theorem cs_sx_161 (g : sl_G) {hh : Nat} (h : 1 ≤ hh) : sl_CallS g sl_R11 161 0 4 hh 2 cu_begin_pt := sl_callV (y := cu_begin_y) (T := sl_F4) (N := 4) (cu_begin_snd g) h (by decide) (sl_in1 570 (by decide +kernel) rfl) cu_begin_w2 cu_begin_w3 cu_begin_w4 cu_begin_w5 cu_begin_w6 rfl (by decide)
theorem sx_countOpen_w2 : Cond.instanceMethod sx_countOpen_y ∈ sl_T0 := sl_in1 576 (by decide +kernel) rfl
theorem sx_countOpen_w3 : Cond.selects sx_countOpen_y.cls sx_countOpen_y sx_countOpen_y ∈ sl_T0 := sl_in1 5 (by decide +kernel) rfl
theorem sx_countOpen_w4 : Cond.initialized sx_countOpen_y.cls ∈ sl_T0 := sl_in1 86 (by decide +kernel) rfl
theorem sx_countOpen_w5 : Cond.code sx_countOpen_y prog_1_method_44_code 3 (some .int) ∈ sl_T0 := sl_in1 577 (by decide +kernel) rfl
theorem sx_countOpen_w6 : sx_countOpen_y.cls ≠ "java/lang/invoke/MethodHandle" ∧ sx_countOpen_y.cls ≠ "java/lang/invoke/VarHandle" ∧ (parseMethodDescriptor sx_countOpen_y.desc).map (fun d => d.parameters.length) = some 0 := by decide +kernel
theorem cs_sx_164 (g : sl_G) {hh : Nat} (h : 1 ≤ hh) : sl_CallS g sl_R11 164 0 11 hh 1 sx_countOpen_pt := sl_callV (y := sx_countOpen_y) (T := sl_F11) (N := 12) (sx_countOpen_snd g) h (by decide) (sl_in1 574 (by decide +kernel) rfl) sx_countOpen_w2 sx_countOpen_w3 sx_countOpen_w4 sx_countOpen_w5 sx_countOpen_w6 rfl (by decide)
def sx_open_ct : List sl_Ct := [(2, 1, 0, sx_isBelow_pt), (2, 0, 4, cu_begin_pt), (1, 0, 11, sx_countOpen_pt)]
theorem sx_open_hc (g : sl_G) : sl_HC g sl_R11 1 sx_open_ct [(97, 1), (161, 0), (164, 0)] := sl_HC_cons (cs_sx_97 g (by decide)) (sl_HC_cons (cs_sx_161 g (by decide)) (sl_HC_cons (cs_sx_164 g (by decide)) (sl_HC_nil g sl_R11 1)))
set_option maxRecDepth 20000 in
set_option maxHeartbeats 2000000 in
theorem sx_open_snd (g : sl_G) : sl_Snd g sx_open_y prog_1_method_14_code 3 (some .int) 1 (sx_open_pt) := by
  intro As μ Q hw h
  unfold sx_open_pt at h
  split at h
  next c0 a0 a1 a2 =>
    split at h
    next e_ =>
      subst e_
      split at h
      next e_ =>
        subst e_
        refine sl_mk2 g [true, true, true] (cst := [some (.inr (.inr (some (11, 0)))), some (.inl a1), some (.inl a2)]) (lv0 := [none, none, none]) (by decide) rfl hw rfl rfl rfl lk_sx_ok (sx_open_hc g) sx_open_tb rfl ?_
        intro X M
        exact ⟨_, sl_VV0, h⟩
      next => exact h.elim
    next => exact h.elim
  next => exact h.elim
def sx_shut (a1 : Int32) (μ : sl_M) (Q : Int32 → sl_M → Prop) : Prop := sx_isBelow a1 (3 : Int32) μ (fun r2 m1 => (r2 = (0 : Int32) → Q (-1 : Int32) m1) ∧ (¬ r2 = (0 : Int32) → vp_in a1 3 ∧ ((sl_bz (m1 (90 + 2 * a1.toNatClampNeg) 0)) = (0 : Int32) → Q (-3 : Int32) m1) ∧ (¬ (sl_bz (m1 (90 + 2 * a1.toNatClampNeg) 0)) = (0 : Int32) → vp_in a1 3 ∧ sl_bz (0 : Int32) = (0 : Int32) ∧ ∀ m3, m3 = sl_up m1 (90 + 2 * a1.toNatClampNeg) 0 (0 : Int32) → sx_countOpen m3 (fun r5 m4 => Q r5 m4))))
def sx_shut_pt : sl_PT := fun As μ Q => match As with
  | [.inr (.inr (some (c0, a0))), .inl a1] => if c0 = 11 then (if a0 = 0 then (sx_shut a1 μ (fun r μ' => Q (some (.inl r)) μ')) else False) else False
  | _ => False
def sx_shut_cd : List sl_Ent := [(0, .iload_n 1, 1, 0, [1], [], false), (1, .iconst 3, 1, 3, [], [], false), (2, .invokestatic 97, 3, 0, [0], [], false), (5, .ifCond .ne 5, 3, 0, [10], [], false), (8, .iconst (-1), 1, (-1), [], [], false), (9, .ireturn, 1, 0, [], [], false), (10, .aload_n 0, 1, 0, [0], [], false), (11, .getfield 32, 3, 0, [11, 3, 2, 24, 42], [], false), (14, .iload_n 1, 1, 0, [1], [], false), (15, .aaload, 1, 0, [], [], false), (16, .getfield 167, 3, 0, [4, 0, 1, 0, 0], [], false), (19, .ifCond .ne 6, 3, 0, [25], [], false), (22, .bipush (-3), 2, (-3), [], [], false), (24, .ireturn, 1, 0, [], [], false), (25, .aload_n 0, 1, 0, [0], [], false), (26, .getfield 32, 3, 0, [11, 3, 2, 24, 42], [], false), (29, .iload_n 1, 1, 0, [1], [], false), (30, .aaload, 1, 0, [], [], false), (31, .iconst 0, 1, 0, [], [], false), (32, .putfield 167, 3, 0, [4, 0, 1], [], false), (35, .aload_n 0, 1, 0, [0], [], false), (36, .invokevirtual 164, 3, 0, [1], [], false), (39, .ireturn, 1, 0, [], [], false)]
def sx_shut_y : MethodName := ⟨"SpanLayers", "shut", "(I)I"⟩
theorem sx_shut_tb : sl_tbOK sl_R11 prog_1_method_15_code 2 (some .int) lk_sx [(97, 1), (164, 0)] sx_shut_cd = true := by decide +kernel
def sx_shut_ct : List sl_Ct := [(2, 1, 0, sx_isBelow_pt), (1, 0, 11, sx_countOpen_pt)]
theorem sx_shut_hc (g : sl_G) : sl_HC g sl_R11 1 sx_shut_ct [(97, 1), (164, 0)] := sl_HC_cons (cs_sx_97 g (by decide)) (sl_HC_cons (cs_sx_164 g (by decide)) (sl_HC_nil g sl_R11 1))
set_option maxRecDepth 20000 in
set_option maxHeartbeats 2000000 in
theorem sx_shut_snd (g : sl_G) : sl_Snd g sx_shut_y prog_1_method_15_code 2 (some .int) 1 (sx_shut_pt) := by
  intro As μ Q hw h
  unfold sx_shut_pt at h
  split at h
  next c0 a0 a1 =>
    split at h
    next e_ =>
      subst e_
      split at h
      next e_ =>
        subst e_
        refine sl_mk2 g [true, true] (cst := [some (.inr (.inr (some (11, 0)))), some (.inl a1)]) (lv0 := [none, none]) (by decide) rfl hw rfl rfl rfl lk_sx_ok (sx_shut_hc g) sx_shut_tb rfl ?_
        intro X M
        exact ⟨_, sl_VV0, h⟩
      next => exact h.elim
    next => exact h.elim
  next => exact h.elim
def sx_next (a1 : Int32) (μ : sl_M) (Q : Int32 → sl_M → Prop) : Prop := sx_isBelow a1 (3 : Int32) μ (fun r2 m1 => (r2 = (0 : Int32) → Q (-1 : Int32) m1) ∧ (¬ r2 = (0 : Int32) → vp_in a1 3 ∧ ((sl_bz (m1 (90 + 2 * a1.toNatClampNeg) 0)) = (0 : Int32) → Q (-3 : Int32) m1) ∧ (¬ (sl_bz (m1 (90 + 2 * a1.toNatClampNeg) 0)) = (0 : Int32) → vp_in a1 3 ∧ ix_firstBehind (90 + 2 * a1.toNatClampNeg) m1 (fun r4 m3 => r4.elim (Q (-5 : Int32) m3) (fun o5 => vp_in a1 3 ∧ cu_tell (90 + 2 * a1.toNatClampNeg) o5 m3 (fun m6 => Q (m6 o5 0) m6))))))
def sx_next_pt : sl_PT := fun As μ Q => match As with
  | [.inr (.inr (some (c0, a0))), .inl a1] => if c0 = 11 then (if a0 = 0 then (sx_next a1 μ (fun r μ' => Q (some (.inl r)) μ')) else False) else False
  | _ => False
def sx_next_cd : List sl_Ent := [(0, .iload_n 1, 1, 0, [1], [], false), (1, .iconst 3, 1, 3, [], [], false), (2, .invokestatic 97, 3, 0, [0], [], false), (5, .ifCond .ne 5, 3, 0, [10], [], false), (8, .iconst (-1), 1, (-1), [], [], false), (9, .ireturn, 1, 0, [], [], false), (10, .aload_n 0, 1, 0, [0], [], false), (11, .getfield 32, 3, 0, [11, 3, 2, 24, 42], [], false), (14, .iload_n 1, 1, 0, [1], [], false), (15, .aaload, 1, 0, [], [], false), (16, .getfield 167, 3, 0, [4, 0, 1, 0, 0], [], false), (19, .ifCond .ne 6, 3, 0, [25], [], false), (22, .bipush (-3), 2, (-3), [], [], false), (24, .ireturn, 1, 0, [], [], false), (25, .aload_n 0, 1, 0, [0], [], false), (26, .getfield 10, 3, 0, [11, 0, 2, 5, 1], [], false), (29, .aload_n 0, 1, 0, [0], [], false), (30, .getfield 32, 3, 0, [11, 3, 2, 24, 42], [], false), (33, .iload_n 1, 1, 0, [1], [], false), (34, .aaload, 1, 0, [], [], false), (35, .invokevirtual 171, 3, 0, [1], [], false), (38, .astore_n 2, 1, 0, [2], [], false), (39, .aload_n 2, 1, 0, [2], [], false), (40, .ifnonnull 6, 3, 0, [46], [], false), (43, .bipush (-5), 2, (-5), [], [], false), (45, .ireturn, 1, 0, [], [], false), (46, .aload_n 0, 1, 0, [0], [], false), (47, .getfield 32, 3, 0, [11, 3, 2, 24, 42], [], false), (50, .iload_n 1, 1, 0, [1], [], false), (51, .aaload, 1, 0, [], [], false), (52, .aload_n 2, 1, 0, [2], [], false), (53, .invokevirtual 175, 3, 0, [2], [], false), (56, .aload_n 2, 1, 0, [2], [], false), (57, .getfield 150, 3, 0, [9, 0, 0, 0, 0], [], false), (60, .ireturn, 1, 0, [], [], false)]
def sx_next_y : MethodName := ⟨"SpanLayers", "next", "(I)I"⟩
theorem sx_next_tb : sl_tbOK sl_R11 prog_1_method_16_code 3 (some .int) lk_sx [(97, 1), (171, 0), (175, 0)] sx_next_cd = true := by decide +kernel
theorem ix_firstBehind_w2 : Cond.instanceMethod ix_firstBehind_y ∈ sl_T0 := sl_in1 587 (by decide +kernel) rfl
theorem ix_firstBehind_w3 : Cond.selects ix_firstBehind_y.cls ix_firstBehind_y ix_firstBehind_y ∈ sl_T0 := sl_in1 588 (by decide +kernel) rfl
theorem ix_firstBehind_w4 : Cond.initialized ix_firstBehind_y.cls ∈ sl_T0 := sl_in1 87 (by decide +kernel) rfl
theorem ix_firstBehind_w5 : Cond.code ix_firstBehind_y prog_7_method_20_code 6 (some (.object "SpanLayers$Span")) ∈ sl_T0 := sl_in1 589 (by decide +kernel) rfl
theorem ix_firstBehind_w6 : ix_firstBehind_y.cls ≠ "java/lang/invoke/MethodHandle" ∧ ix_firstBehind_y.cls ≠ "java/lang/invoke/VarHandle" ∧ (parseMethodDescriptor ix_firstBehind_y.desc).map (fun d => d.parameters.length) = some 1 := by decide +kernel
theorem cs_sx_171 (g : sl_G) {hh : Nat} (h : 4 ≤ hh) : sl_CallS g sl_R11 171 0 5 hh 2 ix_firstBehind_pt := sl_callV (y := ix_firstBehind_y) (T := sl_F5) (N := 2) (ix_firstBehind_snd g) h (by decide) (sl_in1 586 (by decide +kernel) rfl) ix_firstBehind_w2 ix_firstBehind_w3 ix_firstBehind_w4 ix_firstBehind_w5 ix_firstBehind_w6 rfl (by decide)
theorem cu_tell_w2 : Cond.instanceMethod cu_tell_y ∈ sl_T0 := sl_in1 591 (by decide +kernel) rfl
theorem cu_tell_w3 : Cond.selects cu_tell_y.cls cu_tell_y cu_tell_y ∈ sl_T0 := sl_in1 592 (by decide +kernel) rfl
theorem cu_tell_w4 : Cond.initialized cu_tell_y.cls ∈ sl_T0 := sl_in1 96 (by decide +kernel) rfl
theorem cu_tell_w5 : Cond.code cu_tell_y prog_6_method_3_code 2 none ∈ sl_T0 := sl_in1 593 (by decide +kernel) rfl
theorem cu_tell_w6 : cu_tell_y.cls ≠ "java/lang/invoke/MethodHandle" ∧ cu_tell_y.cls ≠ "java/lang/invoke/VarHandle" ∧ (parseMethodDescriptor cu_tell_y.desc).map (fun d => d.parameters.length) = some 1 := by decide +kernel
theorem cs_sx_175 (g : sl_G) {hh : Nat} (h : 2 ≤ hh) : sl_CallS g sl_R11 175 0 4 hh 2 cu_tell_pt := sl_callV (y := cu_tell_y) (T := sl_F4) (N := 4) (cu_tell_snd g) h (by decide) (sl_in1 590 (by decide +kernel) rfl) cu_tell_w2 cu_tell_w3 cu_tell_w4 cu_tell_w5 cu_tell_w6 rfl (by decide)
def sx_next_ct : List sl_Ct := [(2, 1, 0, sx_isBelow_pt), (2, 0, 5, ix_firstBehind_pt), (2, 0, 4, cu_tell_pt)]
theorem sx_next_hc (g : sl_G) : sl_HC g sl_R11 4 sx_next_ct [(97, 1), (171, 0), (175, 0)] := sl_HC_cons (cs_sx_97 g (by decide)) (sl_HC_cons (cs_sx_171 g (by decide)) (sl_HC_cons (cs_sx_175 g (by decide)) (sl_HC_nil g sl_R11 4)))
set_option maxRecDepth 20000 in
set_option maxHeartbeats 2000000 in
theorem sx_next_snd (g : sl_G) : sl_Snd g sx_next_y prog_1_method_16_code 3 (some .int) 4 (sx_next_pt) := by
  intro As μ Q hw h
  unfold sx_next_pt at h
  split at h
  next c0 a0 a1 =>
    split at h
    next e_ =>
      subst e_
      split at h
      next e_ =>
        subst e_
        refine sl_mk2 g [true, true, false] (cst := [some (.inr (.inr (some (11, 0)))), some (.inl a1)]) (lv0 := [none, none, none]) (by decide) rfl hw rfl rfl rfl lk_sx_ok (sx_next_hc g) sx_next_tb rfl ?_
        intro X M
        exact ⟨_, sl_VV0, h⟩
      next => exact h.elim
    next => exact h.elim
  next => exact h.elim
def sx_remove (a1 : Int32) (μ : sl_M) (Q : Int32 → sl_M → Prop) : Prop := sx_isBelow a1 (3 : Int32) μ (fun r2 m1 => (r2 = (0 : Int32) → Q (-1 : Int32) m1) ∧ (¬ r2 = (0 : Int32) → vp_in a1 3 ∧ ((sl_bz (m1 (90 + 2 * a1.toNatClampNeg) 0)) = (0 : Int32) → Q (-3 : Int32) m1) ∧ (¬ (sl_bz (m1 (90 + 2 * a1.toNatClampNeg) 0)) = (0 : Int32) → ((sl_bz (m1 (90 + 2 * a1.toNatClampNeg) 2)) = (0 : Int32) → Q (-3 : Int32) m1) ∧ (¬ (sl_bz (m1 (90 + 2 * a1.toNatClampNeg) 2)) = (0 : Int32) → ix_isIn (m1 ((90 + 2 * a1.toNatClampNeg) + 1) 0) m1 (fun r4 m3 => (r4 = (0 : Int32) → Q (-3 : Int32) m3) ∧ (¬ r4 = (0 : Int32) → ix_takeOut ((1 : Int32) <<< ((m3 ((90 + 2 * a1.toNatClampNeg) + 1) 0) &&& 31)) m3 (fun m5 => ix_count m5 (fun r7 m6 => Q r7 m6))))))))
def sx_remove_pt : sl_PT := fun As μ Q => match As with
  | [.inr (.inr (some (c0, a0))), .inl a1] => if c0 = 11 then (if a0 = 0 then (sx_remove a1 μ (fun r μ' => Q (some (.inl r)) μ')) else False) else False
  | _ => False
def sx_remove_cd : List sl_Ent := [(0, .iload_n 1, 1, 0, [1], [], false), (1, .iconst 3, 1, 3, [], [], false), (2, .invokestatic 97, 3, 0, [0], [], false), (5, .ifCond .ne 5, 3, 0, [10], [], false), (8, .iconst (-1), 1, (-1), [], [], false), (9, .ireturn, 1, 0, [], [], false), (10, .aload_n 0, 1, 0, [0], [], false), (11, .getfield 32, 3, 0, [11, 3, 2, 24, 42], [], false), (14, .iload_n 1, 1, 0, [1], [], false), (15, .aaload, 1, 0, [], [], false), (16, .astore_n 2, 1, 0, [2], [], false), (17, .aload_n 2, 1, 0, [2], [], false), (18, .getfield 167, 3, 0, [4, 0, 1, 0, 0], [], false), (21, .ifCond .eq 27, 3, 0, [48], [], false), (24, .aload_n 2, 1, 0, [2], [], false), (25, .getfield 179, 3, 0, [4, 2, 1, 0, 0], [], false), (28, .ifCond .eq 20, 3, 0, [48], [], false), (31, .aload_n 0, 1, 0, [0], [], false), (32, .getfield 10, 3, 0, [11, 0, 2, 5, 1], [], false), (35, .aload_n 2, 1, 0, [2], [], false), (36, .getfield 182, 3, 0, [4, 3, 2, 9, 1], [], false), (39, .getfield 150, 3, 0, [9, 0, 0, 0, 0], [], false), (42, .invokevirtual 101, 3, 0, [1], [], false), (45, .ifCond .ne 6, 3, 0, [51], [], false), (48, .bipush (-3), 2, (-3), [], [], false), (50, .ireturn, 1, 0, [], [], false), (51, .aload_n 0, 1, 0, [0], [], false), (52, .getfield 10, 3, 0, [11, 0, 2, 5, 1], [], false), (55, .iconst 1, 1, 1, [], [], false), (56, .aload_n 2, 1, 0, [2], [], false), (57, .getfield 182, 3, 0, [4, 3, 2, 9, 1], [], false), (60, .getfield 150, 3, 0, [9, 0, 0, 0, 0], [], false), (63, .ishl, 1, 0, [], [], false), (64, .invokevirtual 105, 3, 0, [2], [], false), (67, .aload_n 0, 1, 0, [0], [], false), (68, .getfield 10, 3, 0, [11, 0, 2, 5, 1], [], false), (71, .invokevirtual 109, 3, 0, [3], [], false), (74, .ireturn, 1, 0, [], [], false)]
def sx_remove_y : MethodName := ⟨"SpanLayers", "remove", "(I)I"⟩
theorem sx_remove_tb : sl_tbOK sl_R11 prog_1_method_17_code 3 (some .int) lk_sx [(97, 1), (101, 0), (105, 0), (109, 0)] sx_remove_cd = true := by decide +kernel
def sx_remove_ct : List sl_Ct := [(2, 1, 0, sx_isBelow_pt), (2, 0, 5, ix_isIn_pt), (2, 0, 5, ix_takeOut_pt), (1, 0, 5, ix_count_pt)]
theorem sx_remove_hc (g : sl_G) : sl_HC g sl_R11 6 sx_remove_ct [(97, 1), (101, 0), (105, 0), (109, 0)] := sl_HC_cons (cs_sx_97 g (by decide)) (sl_HC_cons (cs_sx_101 g (by decide)) (sl_HC_cons (cs_sx_105 g (by decide)) (sl_HC_cons (cs_sx_109 g (by decide)) (sl_HC_nil g sl_R11 6))))
set_option maxRecDepth 20000 in
set_option maxHeartbeats 2000000 in
theorem sx_remove_snd (g : sl_G) : sl_Snd g sx_remove_y prog_1_method_17_code 3 (some .int) 6 (sx_remove_pt) := by
  intro As μ Q hw h
  unfold sx_remove_pt at h
  split at h
  next c0 a0 a1 =>
    split at h
    next e_ =>
      subst e_
      split at h
      next e_ =>
        subst e_
        refine sl_mk2 g [true, true, false] (cst := [some (.inr (.inr (some (11, 0)))), some (.inl a1)]) (lv0 := [none, none, none]) (by decide) rfl hw rfl rfl rfl lk_sx_ok (sx_remove_hc g) sx_remove_tb rfl ?_
        intro X M
        exact ⟨_, sl_VV0, h⟩
      next => exact h.elim
    next => exact h.elim
  next => exact h.elim
def sx_covered (a1 : Int32) (μ : sl_M) (Q : Int32 → sl_M → Prop) : Prop := sx_isBelow a1 (5 : Int32) μ (fun r2 m1 => (r2 = (0 : Int32) → Q (-1 : Int32) m1) ∧ (¬ r2 = (0 : Int32) → cv_readFrom m1 (fun m3 => cv_total a1 m3 (fun r5 m4 => Q r5 m4))))
def sx_covered_pt : sl_PT := fun As μ Q => match As with
  | [.inr (.inr (some (c0, a0))), .inl a1] => if c0 = 11 then (if a0 = 0 then (sx_covered a1 μ (fun r μ' => Q (some (.inl r)) μ')) else False) else False
  | _ => False
def sx_covered_cd : List sl_Ent := [(0, .iload_n 1, 1, 0, [1], [], false), (1, .iconst 5, 1, 5, [], [], false), (2, .invokestatic 97, 3, 0, [0], [], false), (5, .ifCond .ne 5, 3, 0, [10], [], false), (8, .iconst (-1), 1, (-1), [], [], false), (9, .ireturn, 1, 0, [], [], false), (10, .aload_n 0, 1, 0, [0], [], false), (11, .getfield 19, 3, 0, [11, 1, 2, 3, 34], [], false), (14, .aload_n 0, 1, 0, [0], [], false), (15, .getfield 10, 3, 0, [11, 0, 2, 5, 1], [], false), (18, .invokevirtual 186, 3, 0, [1], [], false), (21, .aload_n 0, 1, 0, [0], [], false), (22, .getfield 19, 3, 0, [11, 1, 2, 3, 34], [], false), (25, .iload_n 1, 1, 0, [1], [], false), (26, .invokevirtual 190, 3, 0, [2], [], false), (29, .ireturn, 1, 0, [], [], false)]
def sx_covered_y : MethodName := ⟨"SpanLayers", "covered", "(I)I"⟩
theorem sx_covered_tb : sl_tbOK sl_R11 prog_1_method_18_code 2 (some .int) lk_sx [(97, 1), (186, 0), (190, 0)] sx_covered_cd = true := by decide +kernel
theorem cv_readFrom_w2 : Cond.instanceMethod cv_readFrom_y ∈ sl_T0 := sl_in1 607 (by decide +kernel) rfl
theorem cv_readFrom_w3 : Cond.selects cv_readFrom_y.cls cv_readFrom_y cv_readFrom_y ∈ sl_T0 := sl_in1 608 (by decide +kernel) rfl
theorem cv_readFrom_w4 : Cond.initialized cv_readFrom_y.cls ∈ sl_T0 := sl_in1 89 (by decide +kernel) rfl
theorem cv_readFrom_w5 : Cond.code cv_readFrom_y prog_5_method_2_code 5 none ∈ sl_T0 := sl_in1 609 (by decide +kernel) rfl
theorem cv_readFrom_w6 : cv_readFrom_y.cls ≠ "java/lang/invoke/MethodHandle" ∧ cv_readFrom_y.cls ≠ "java/lang/invoke/VarHandle" ∧ (parseMethodDescriptor cv_readFrom_y.desc).map (fun d => d.parameters.length) = some 1 := by decide +kernel
theorem cs_sx_186 (g : sl_G) {hh : Nat} (h : 5 ≤ hh) : sl_CallS g sl_R11 186 0 3 hh 2 cv_readFrom_pt := sl_callV (y := cv_readFrom_y) (T := sl_F3) (N := 4) (cv_readFrom_snd g) h (by decide) (sl_in1 606 (by decide +kernel) rfl) cv_readFrom_w2 cv_readFrom_w3 cv_readFrom_w4 cv_readFrom_w5 cv_readFrom_w6 rfl (by decide)
theorem cv_total_w2 : Cond.instanceMethod cv_total_y ∈ sl_T0 := sl_in1 613 (by decide +kernel) rfl
theorem cv_total_w3 : Cond.selects cv_total_y.cls cv_total_y cv_total_y ∈ sl_T0 := sl_in1 614 (by decide +kernel) rfl
theorem cv_total_w4 : Cond.initialized cv_total_y.cls ∈ sl_T0 := sl_in1 89 (by decide +kernel) rfl
theorem cv_total_w5 : Cond.code cv_total_y prog_5_method_4_code 2 (some .int) ∈ sl_T0 := sl_in1 615 (by decide +kernel) rfl
theorem cv_total_w6 : cv_total_y.cls ≠ "java/lang/invoke/MethodHandle" ∧ cv_total_y.cls ≠ "java/lang/invoke/VarHandle" ∧ (parseMethodDescriptor cv_total_y.desc).map (fun d => d.parameters.length) = some 1 := by decide +kernel
theorem cs_sx_190 (g : sl_G) {hh : Nat} (h : 3 ≤ hh) : sl_CallS g sl_R11 190 0 3 hh 2 cv_total_pt := sl_callV (y := cv_total_y) (T := sl_F3) (N := 4) (cv_total_snd g) h (by decide) (sl_in1 612 (by decide +kernel) rfl) cv_total_w2 cv_total_w3 cv_total_w4 cv_total_w5 cv_total_w6 rfl (by decide)
def sx_covered_ct : List sl_Ct := [(2, 1, 0, sx_isBelow_pt), (2, 0, 3, cv_readFrom_pt), (2, 0, 3, cv_total_pt)]
theorem sx_covered_hc (g : sl_G) : sl_HC g sl_R11 5 sx_covered_ct [(97, 1), (186, 0), (190, 0)] := sl_HC_cons (cs_sx_97 g (by decide)) (sl_HC_cons (cs_sx_186 g (by decide)) (sl_HC_cons (cs_sx_190 g (by decide)) (sl_HC_nil g sl_R11 5)))
set_option maxRecDepth 20000 in
set_option maxHeartbeats 2000000 in
theorem sx_covered_snd (g : sl_G) : sl_Snd g sx_covered_y prog_1_method_18_code 2 (some .int) 5 (sx_covered_pt) := by
  intro As μ Q hw h
  unfold sx_covered_pt at h
  split at h
  next c0 a0 a1 =>
    split at h
    next e_ =>
      subst e_
      split at h
      next e_ =>
        subst e_
        refine sl_mk2 g [true, true] (cst := [some (.inr (.inr (some (11, 0)))), some (.inl a1)]) (lv0 := [none, none]) (by decide) rfl hw rfl rfl rfl lk_sx_ok (sx_covered_hc g) sx_covered_tb rfl ?_
        intro X M
        exact ⟨_, sl_VV0, h⟩
      next => exact h.elim
    next => exact h.elim
  next => exact h.elim
def sx_piece (a1 : Int32) (a2 : Int32) (μ : sl_M) (Q : Int32 → sl_M → Prop) : Prop := cv_readFrom μ (fun m1 => sx_isBelow a1 (m1 34 3) m1 (fun r3 m2 => (r3 = (0 : Int32) → Q (-1 : Int32) m2) ∧ (¬ r3 = (0 : Int32) → sx_isBelow a2 (3 : Int32) m2 (fun r5 m4 => (r5 = (0 : Int32) → Q (-1 : Int32) m4) ∧ (¬ r5 = (0 : Int32) → (a2 = (0 : Int32) → vp_in a1 30 ∧ Q (m4 35 a1.toNatClampNeg) m4) ∧ (¬ a2 = (0 : Int32) → (a2 = (1 : Int32) → vp_in a1 30 ∧ Q (m4 36 a1.toNatClampNeg) m4) ∧ (¬ a2 = (1 : Int32) → vp_in a1 30 ∧ Q (m4 37 a1.toNatClampNeg) m4)))))))
def sx_piece_pt : sl_PT := fun As μ Q => match As with
  | [.inr (.inr (some (c0, a0))), .inl a1, .inl a2] => if c0 = 11 then (if a0 = 0 then (sx_piece a1 a2 μ (fun r μ' => Q (some (.inl r)) μ')) else False) else False
  | _ => False
def sx_piece_cd : List sl_Ent := [(0, .aload_n 0, 1, 0, [0], [], false), (1, .getfield 19, 3, 0, [11, 1, 2, 3, 34], [], false), (4, .aload_n 0, 1, 0, [0], [], false), (5, .getfield 10, 3, 0, [11, 0, 2, 5, 1], [], false), (8, .invokevirtual 186, 3, 0, [0], [], false), (11, .iload_n 1, 1, 0, [1], [], false), (12, .aload_n 0, 1, 0, [0], [], false), (13, .getfield 19, 3, 0, [11, 1, 2, 3, 34], [], false), (16, .getfield 193, 3, 0, [3, 3, 0, 0, 0], [], false), (19, .invokestatic 97, 3, 0, [1], [], false), (22, .ifCond .eq 11, 3, 0, [33], [], false), (25, .iload_n 2, 1, 0, [2], [], false), (26, .iconst 3, 1, 3, [], [], false), (27, .invokestatic 97, 3, 0, [1], [], false), (30, .ifCond .ne 5, 3, 0, [35], [], false), (33, .iconst (-1), 1, (-1), [], [], false), (34, .ireturn, 1, 0, [], [], false), (35, .iload_n 2, 1, 0, [2], [], false), (36, .ifCond .ne 15, 3, 0, [51], [], false), (39, .aload_n 0, 1, 0, [0], [], false), (40, .getfield 19, 3, 0, [11, 1, 2, 3, 34], [], false), (43, .getfield 196, 3, 0, [3, 0, 2, 20, 1], [], false), (46, .iload_n 1, 1, 0, [1], [], false), (47, .iaload, 1, 0, [], [], false), (48, .goto 29, 3, 0, [77], [], false), (51, .iload_n 2, 1, 0, [2], [], false), (52, .iconst 1, 1, 1, [], [], false), (53, .if_icmp .ne 15, 3, 0, [68], [], false), (56, .aload_n 0, 1, 0, [0], [], false), (57, .getfield 19, 3, 0, [11, 1, 2, 3, 34], [], false), (60, .getfield 200, 3, 0, [3, 1, 2, 20, 2], [], false), (63, .iload_n 1, 1, 0, [1], [], false), (64, .iaload, 1, 0, [], [], false), (65, .goto 12, 3, 0, [77], [], false), (68, .aload_n 0, 1, 0, [0], [], false), (69, .getfield 19, 3, 0, [11, 1, 2, 3, 34], [], false), (72, .getfield 202, 3, 0, [3, 2, 2, 20, 3], [], false), (75, .iload_n 1, 1, 0, [1], [], false), (76, .iaload, 1, 0, [], [], false), (77, .ireturn, 1, 0, [], [], false)]
def sx_piece_y : MethodName := ⟨"SpanLayers", "piece", "(II)I"⟩
theorem sx_piece_tb : sl_tbOK sl_R11 prog_1_method_19_code 3 (some .int) lk_sx [(186, 0), (97, 1)] sx_piece_cd = true := by decide +kernel
def sx_piece_ct : List sl_Ct := [(2, 0, 3, cv_readFrom_pt), (2, 1, 0, sx_isBelow_pt)]
theorem sx_piece_hc (g : sl_G) : sl_HC g sl_R11 5 sx_piece_ct [(186, 0), (97, 1)] := sl_HC_cons (cs_sx_186 g (by decide)) (sl_HC_cons (cs_sx_97 g (by decide)) (sl_HC_nil g sl_R11 5))
set_option maxRecDepth 20000 in
set_option maxHeartbeats 2000000 in
theorem sx_piece_snd (g : sl_G) : sl_Snd g sx_piece_y prog_1_method_19_code 3 (some .int) 5 (sx_piece_pt) := by
  intro As μ Q hw h
  unfold sx_piece_pt at h
  split at h
  next c0 a0 a1 a2 =>
    split at h
    next e_ =>
      subst e_
      split at h
      next e_ =>
        subst e_
        refine sl_mk2 g [true, true, true] (cst := [some (.inr (.inr (some (11, 0)))), some (.inl a1), some (.inl a2)]) (lv0 := [none, none, none]) (by decide) rfl hw rfl rfl rfl lk_sx_ok (sx_piece_hc g) sx_piece_tb rfl ?_
        intro X M
        exact ⟨_, sl_VV0, h⟩
      next => exact h.elim
    next => exact h.elim
  next => exact h.elim
def sx_hole (a1 : Int32) (a2 : Int32) (μ : sl_M) (Q : Int32 → sl_M → Prop) : Prop := cv_readFrom μ (fun m1 => cv_countHoles m1 (fun r3 m2 => sx_isBelow a1 r3 m2 (fun r5 m4 => (r5 = (0 : Int32) → Q (-1 : Int32) m4) ∧ (¬ r5 = (0 : Int32) → sx_isBelow a2 (2 : Int32) m4 (fun r7 m6 => (r7 = (0 : Int32) → Q (-1 : Int32) m6) ∧ (¬ r7 = (0 : Int32) → (a2 = (0 : Int32) → vp_in a1 30 ∧ Q ((m6 36 a1.toNatClampNeg) + (1 : Int32)) m6) ∧ (¬ a2 = (0 : Int32) → vp_in (a1 + (1 : Int32)) 30 ∧ Q ((m6 35 (a1 + (1 : Int32)).toNatClampNeg) - (1 : Int32)) m6)))))))
def sx_hole_pt : sl_PT := fun As μ Q => match As with
  | [.inr (.inr (some (c0, a0))), .inl a1, .inl a2] => if c0 = 11 then (if a0 = 0 then (sx_hole a1 a2 μ (fun r μ' => Q (some (.inl r)) μ')) else False) else False
  | _ => False
def sx_hole_cd : List sl_Ent := [(0, .aload_n 0, 1, 0, [0], [], false), (1, .getfield 19, 3, 0, [11, 1, 2, 3, 34], [], false), (4, .aload_n 0, 1, 0, [0], [], false), (5, .getfield 10, 3, 0, [11, 0, 2, 5, 1], [], false), (8, .invokevirtual 186, 3, 0, [0], [], false), (11, .iload_n 1, 1, 0, [1], [], false), (12, .aload_n 0, 1, 0, [0], [], false), (13, .getfield 19, 3, 0, [11, 1, 2, 3, 34], [], false), (16, .invokevirtual 204, 3, 0, [1], [], false), (19, .invokestatic 97, 3, 0, [2], [], false), (22, .ifCond .eq 11, 3, 0, [33], [], false), (25, .iload_n 2, 1, 0, [2], [], false), (26, .iconst 2, 1, 2, [], [], false), (27, .invokestatic 97, 3, 0, [2], [], false), (30, .ifCond .ne 5, 3, 0, [35], [], false), (33, .iconst (-1), 1, (-1), [], [], false), (34, .ireturn, 1, 0, [], [], false), (35, .iload_n 2, 1, 0, [2], [], false), (36, .ifCond .ne 17, 3, 0, [53], [], false), (39, .aload_n 0, 1, 0, [0], [], false), (40, .getfield 19, 3, 0, [11, 1, 2, 3, 34], [], false), (43, .getfield 200, 3, 0, [3, 1, 2, 20, 2], [], false), (46, .iload_n 1, 1, 0, [1], [], false), (47, .iaload, 1, 0, [], [], false), (48, .iconst 1, 1, 1, [], [], false), (49, .iadd, 1, 0, [], [], false), (50, .goto 16, 3, 0, [66], [], false), (53, .aload_n 0, 1, 0, [0], [], false), (54, .getfield 19, 3, 0, [11, 1, 2, 3, 34], [], false), (57, .getfield 196, 3, 0, [3, 0, 2, 20, 1], [], false), (60, .iload_n 1, 1, 0, [1], [], false), (61, .iconst 1, 1, 1, [], [], false), (62, .iadd, 1, 0, [], [], false), (63, .iaload, 1, 0, [], [], false), (64, .iconst 1, 1, 1, [], [], false), (65, .isub, 1, 0, [], [], false), (66, .ireturn, 1, 0, [], [], false)]
def sx_hole_y : MethodName := ⟨"SpanLayers", "hole", "(II)I"⟩
theorem sx_hole_tb : sl_tbOK sl_R11 prog_1_method_20_code 3 (some .int) lk_sx [(186, 0), (204, 0), (97, 1)] sx_hole_cd = true := by decide +kernel
theorem cs_sx_204 (g : sl_G) {hh : Nat} (h : 2 ≤ hh) : sl_CallS g sl_R11 204 0 3 hh 1 cv_countHoles_pt := sl_callV (y := cv_countHoles_y) (T := sl_F3) (N := 4) (cv_countHoles_snd g) h (by decide) (sl_in1 640 (by decide +kernel) rfl) cv_countHoles_w2 cv_countHoles_w3 cv_countHoles_w4 cv_countHoles_w5 cv_countHoles_w6 rfl (by decide)
def sx_hole_ct : List sl_Ct := [(2, 0, 3, cv_readFrom_pt), (1, 0, 3, cv_countHoles_pt), (2, 1, 0, sx_isBelow_pt)]
theorem sx_hole_hc (g : sl_G) : sl_HC g sl_R11 5 sx_hole_ct [(186, 0), (204, 0), (97, 1)] := sl_HC_cons (cs_sx_186 g (by decide)) (sl_HC_cons (cs_sx_204 g (by decide)) (sl_HC_cons (cs_sx_97 g (by decide)) (sl_HC_nil g sl_R11 5)))
set_option maxRecDepth 20000 in
set_option maxHeartbeats 2000000 in
theorem sx_hole_snd (g : sl_G) : sl_Snd g sx_hole_y prog_1_method_20_code 3 (some .int) 5 (sx_hole_pt) := by
  intro As μ Q hw h
  unfold sx_hole_pt at h
  split at h
  next c0 a0 a1 a2 =>
    split at h
    next e_ =>
      subst e_
      split at h
      next e_ =>
        subst e_
        refine sl_mk2 g [true, true, true] (cst := [some (.inr (.inr (some (11, 0)))), some (.inl a1), some (.inl a2)]) (lv0 := [none, none, none]) (by decide) rfl hw rfl rfl rfl lk_sx_ok (sx_hole_hc g) sx_hole_tb rfl ?_
        intro X M
        exact ⟨_, sl_VV0, h⟩
      next => exact h.elim
    next => exact h.elim
  next => exact h.elim
def sx_depth (a1 : Int32) (a2 : Int32) (μ : sl_M) (Q : Int32 → sl_M → Prop) : Prop := sx_isPlace a1 μ (fun r2 m1 => (r2 = (0 : Int32) → Q (-2 : Int32) m1) ∧ (¬ r2 = (0 : Int32) → sx_isBelow a2 (2 : Int32) m1 (fun r4 m3 => (r4 = (0 : Int32) → Q (-1 : Int32) m3) ∧ (¬ r4 = (0 : Int32) → ix_heightAt a1 a2 m3 (fun r6 m5 => Q r6 m5)))))
def sx_depth_pt : sl_PT := fun As μ Q => match As with
  | [.inr (.inr (some (c0, a0))), .inl a1, .inl a2] => if c0 = 11 then (if a0 = 0 then (sx_depth a1 a2 μ (fun r μ' => Q (some (.inl r)) μ')) else False) else False
  | _ => False
def sx_depth_cd : List sl_Ent := [(0, .iload_n 1, 1, 0, [1], [], false), (1, .invokestatic 126, 3, 0, [0], [], false), (4, .ifCond .ne 6, 3, 0, [10], [], false), (7, .bipush (-2), 2, (-2), [], [], false), (9, .ireturn, 1, 0, [], [], false), (10, .iload_n 2, 1, 0, [2], [], false), (11, .iconst 2, 1, 2, [], [], false), (12, .invokestatic 97, 3, 0, [1], [], false), (15, .ifCond .eq 15, 3, 0, [30], [], false), (18, .aload_n 0, 1, 0, [0], [], false), (19, .getfield 10, 3, 0, [11, 0, 2, 5, 1], [], false), (22, .iload_n 1, 1, 0, [1], [], false), (23, .iload_n 2, 1, 0, [2], [], false), (24, .invokevirtual 207, 3, 0, [2], [], false), (27, .goto 4, 3, 0, [31], [], false), (30, .iconst (-1), 1, (-1), [], [], false), (31, .ireturn, 1, 0, [], [], false)]
def sx_depth_y : MethodName := ⟨"SpanLayers", "depth", "(II)I"⟩
theorem sx_depth_tb : sl_tbOK sl_R11 prog_1_method_21_code 3 (some .int) lk_sx [(126, 1), (97, 1), (207, 0)] sx_depth_cd = true := by decide +kernel
theorem cs_sx_207 (g : sl_G) {hh : Nat} (h : 2 ≤ hh) : sl_CallS g sl_R11 207 0 5 hh 3 ix_heightAt_pt := sl_callV (y := ix_heightAt_y) (T := sl_F5) (N := 2) (ix_heightAt_snd g) h (by decide) (sl_in1 645 (by decide +kernel) rfl) ix_heightAt_w2 ix_heightAt_w3 ix_heightAt_w4 ix_heightAt_w5 ix_heightAt_w6 rfl (by decide)
def sx_depth_ct : List sl_Ct := [(1, 1, 0, sx_isPlace_pt), (2, 1, 0, sx_isBelow_pt), (3, 0, 5, ix_heightAt_pt)]
theorem sx_depth_hc (g : sl_G) : sl_HC g sl_R11 2 sx_depth_ct [(126, 1), (97, 1), (207, 0)] := sl_HC_cons (cs_sx_126 g (by decide)) (sl_HC_cons (cs_sx_97 g (by decide)) (sl_HC_cons (cs_sx_207 g (by decide)) (sl_HC_nil g sl_R11 2)))
set_option maxRecDepth 20000 in
set_option maxHeartbeats 2000000 in
theorem sx_depth_snd (g : sl_G) : sl_Snd g sx_depth_y prog_1_method_21_code 3 (some .int) 2 (sx_depth_pt) := by
  intro As μ Q hw h
  unfold sx_depth_pt at h
  split at h
  next c0 a0 a1 a2 =>
    split at h
    next e_ =>
      subst e_
      split at h
      next e_ =>
        subst e_
        refine sl_mk2 g [true, true, true] (cst := [some (.inr (.inr (some (11, 0)))), some (.inl a1), some (.inl a2)]) (lv0 := [none, none, none]) (by decide) rfl hw rfl rfl rfl lk_sx_ok (sx_depth_hc g) sx_depth_tb rfl ?_
        intro X M
        exact ⟨_, sl_VV0, h⟩
      next => exact h.elim
    next => exact h.elim
  next => exact h.elim
def sx_deepest (a1 : Int32) (μ : sl_M) (Q : Int32 → sl_M → Prop) : Prop := sx_isBelow a1 (6 : Int32) μ (fun r2 m1 => (r2 = (0 : Int32) → Q (-1 : Int32) m1) ∧ (¬ r2 = (0 : Int32) → ¬ (2 : Int32) = 0 ∧ ix_topPlace (a1 / (2 : Int32)) m1 (fun r4 m3 => ¬ (2 : Int32) = 0 ∧ ((a1 - a1 / (2 : Int32) * (2 : Int32)) = (0 : Int32) → Q r4 m3) ∧ (¬ (a1 - a1 / (2 : Int32) * (2 : Int32)) = (0 : Int32) → (a1 = (1 : Int32) → ix_heightAt r4 (0 : Int32) m3 (fun r6 m5 => Q r6 m5)) ∧ (¬ a1 = (1 : Int32) → ix_heightAt r4 (1 : Int32) m3 (fun r8 m7 => Q r8 m7))))))
def sx_deepest_pt : sl_PT := fun As μ Q => match As with
  | [.inr (.inr (some (c0, a0))), .inl a1] => if c0 = 11 then (if a0 = 0 then (sx_deepest a1 μ (fun r μ' => Q (some (.inl r)) μ')) else False) else False
  | _ => False
def sx_deepest_cd : List sl_Ent := [(0, .iload_n 1, 1, 0, [1], [], false), (1, .bipush 6, 2, 6, [], [], false), (3, .invokestatic 97, 3, 0, [0], [], false), (6, .ifCond .ne 5, 3, 0, [11], [], false), (9, .iconst (-1), 1, (-1), [], [], false), (10, .ireturn, 1, 0, [], [], false), (11, .aload_n 0, 1, 0, [0], [], false), (12, .getfield 10, 3, 0, [11, 0, 2, 5, 1], [], false), (15, .iload_n 1, 1, 0, [1], [], false), (16, .iconst 2, 1, 2, [], [], false), (17, .idiv, 1, 0, [], [], false), (18, .invokevirtual 210, 3, 0, [1], [], false), (21, .istore_n 2, 1, 0, [2], [], false), (22, .iload_n 1, 1, 0, [1], [], false), (23, .iconst 2, 1, 2, [], [], false), (24, .irem, 1, 0, [], [], false), (25, .ifCond .ne 5, 3, 0, [30], [], false), (28, .iload_n 2, 1, 0, [2], [], false), (29, .ireturn, 1, 0, [], [], false), (30, .aload_n 0, 1, 0, [0], [], false), (31, .getfield 10, 3, 0, [11, 0, 2, 5, 1], [], false), (34, .iload_n 2, 1, 0, [2], [], false), (35, .iload_n 1, 1, 0, [1], [], false), (36, .iconst 1, 1, 1, [], [], false), (37, .if_icmp .ne 7, 3, 0, [44], [], false), (40, .iconst 0, 1, 0, [], [], false), (41, .goto 4, 3, 0, [45], [], false), (44, .iconst 1, 1, 1, [], [], false), (45, .invokevirtual 207, 3, 0, [2], [], false), (48, .ireturn, 1, 0, [], [], false)]
def sx_deepest_y : MethodName := ⟨"SpanLayers", "deepest", "(I)I"⟩
theorem sx_deepest_tb : sl_tbOK sl_R11 prog_1_method_22_code 3 (some .int) lk_sx [(97, 1), (210, 0), (207, 0)] sx_deepest_cd = true := by decide +kernel
theorem ix_topPlace_w2 : Cond.instanceMethod ix_topPlace_y ∈ sl_T0 := sl_in1 658 (by decide +kernel) rfl
theorem ix_topPlace_w3 : Cond.selects ix_topPlace_y.cls ix_topPlace_y ix_topPlace_y ∈ sl_T0 := sl_in1 659 (by decide +kernel) rfl
theorem ix_topPlace_w4 : Cond.initialized ix_topPlace_y.cls ∈ sl_T0 := sl_in1 87 (by decide +kernel) rfl
theorem ix_topPlace_w5 : Cond.code ix_topPlace_y prog_7_method_22_code 4 (some .int) ∈ sl_T0 := sl_in1 660 (by decide +kernel) rfl
theorem ix_topPlace_w6 : ix_topPlace_y.cls ≠ "java/lang/invoke/MethodHandle" ∧ ix_topPlace_y.cls ≠ "java/lang/invoke/VarHandle" ∧ (parseMethodDescriptor ix_topPlace_y.desc).map (fun d => d.parameters.length) = some 1 := by decide +kernel
theorem cs_sx_210 (g : sl_G) {hh : Nat} (h : 4 ≤ hh) : sl_CallS g sl_R11 210 0 5 hh 2 ix_topPlace_pt := sl_callV (y := ix_topPlace_y) (T := sl_F5) (N := 2) (ix_topPlace_snd g) h (by decide) (sl_in1 657 (by decide +kernel) rfl) ix_topPlace_w2 ix_topPlace_w3 ix_topPlace_w4 ix_topPlace_w5 ix_topPlace_w6 rfl (by decide)
def sx_deepest_ct : List sl_Ct := [(2, 1, 0, sx_isBelow_pt), (2, 0, 5, ix_topPlace_pt), (3, 0, 5, ix_heightAt_pt)]
theorem sx_deepest_hc (g : sl_G) : sl_HC g sl_R11 4 sx_deepest_ct [(97, 1), (210, 0), (207, 0)] := sl_HC_cons (cs_sx_97 g (by decide)) (sl_HC_cons (cs_sx_210 g (by decide)) (sl_HC_cons (cs_sx_207 g (by decide)) (sl_HC_nil g sl_R11 4)))
set_option maxRecDepth 20000 in
set_option maxHeartbeats 2000000 in
theorem sx_deepest_snd (g : sl_G) : sl_Snd g sx_deepest_y prog_1_method_22_code 3 (some .int) 4 (sx_deepest_pt) := by
  intro As μ Q hw h
  unfold sx_deepest_pt at h
  split at h
  next c0 a0 a1 =>
    split at h
    next e_ =>
      subst e_
      split at h
      next e_ =>
        subst e_
        refine sl_mk2 g [true, true, false] (cst := [some (.inr (.inr (some (11, 0)))), some (.inl a1)]) (lv0 := [none, none, none]) (by decide) rfl hw rfl rfl rfl lk_sx_ok (sx_deepest_hc g) sx_deepest_tb rfl ?_
        intro X M
        exact ⟨_, sl_VV0, h⟩
      next => exact h.elim
    next => exact h.elim
  next => exact h.elim
def sx_points (a1 : Int32) (μ : sl_M) (Q : Int32 → sl_M → Prop) : Prop := co_takeApart μ (fun m1 => (a1 = (-1 : Int32) → Q (m1 38 2) m1) ∧ (¬ a1 = (-1 : Int32) → sx_isBelow a1 (m1 38 2) m1 (fun r3 m2 => (r3 = (0 : Int32) → Q (-1 : Int32) m2) ∧ (¬ r3 = (0 : Int32) → vp_in a1 30 ∧ Q (m2 40 a1.toNatClampNeg) m2))))
def sx_points_pt : sl_PT := fun As μ Q => match As with
  | [.inr (.inr (some (c0, a0))), .inl a1] => if c0 = 11 then (if a0 = 0 then (sx_points a1 μ (fun r μ' => Q (some (.inl r)) μ')) else False) else False
  | _ => False
def sx_points_cd : List sl_Ent := [(0, .aload_n 0, 1, 0, [0], [], false), (1, .getfield 26, 3, 0, [11, 2, 2, 1, 38], [], false), (4, .aload_n 0, 1, 0, [0], [], false), (5, .getfield 10, 3, 0, [11, 0, 2, 5, 1], [], false), (8, .invokevirtual 213, 3, 0, [0], [], false), (11, .iload_n 1, 1, 0, [1], [], false), (12, .iconst (-1), 1, (-1), [], [], false), (13, .if_icmp .ne 11, 3, 0, [24], [], false), (16, .aload_n 0, 1, 0, [0], [], false), (17, .getfield 26, 3, 0, [11, 2, 2, 1, 38], [], false), (20, .getfield 216, 3, 0, [1, 2, 0, 0, 0], [], false), (23, .ireturn, 1, 0, [], [], false), (24, .iload_n 1, 1, 0, [1], [], false), (25, .aload_n 0, 1, 0, [0], [], false), (26, .getfield 26, 3, 0, [11, 2, 2, 1, 38], [], false), (29, .getfield 216, 3, 0, [1, 2, 0, 0, 0], [], false), (32, .invokestatic 97, 3, 0, [1], [], false), (35, .ifCond .eq 15, 3, 0, [50], [], false), (38, .aload_n 0, 1, 0, [0], [], false), (39, .getfield 26, 3, 0, [11, 2, 2, 1, 38], [], false), (42, .getfield 218, 3, 0, [1, 1, 2, 20, 2], [], false), (45, .iload_n 1, 1, 0, [1], [], false), (46, .iaload, 1, 0, [], [], false), (47, .goto 4, 3, 0, [51], [], false), (50, .iconst (-1), 1, (-1), [], [], false), (51, .ireturn, 1, 0, [], [], false)]
def sx_points_y : MethodName := ⟨"SpanLayers", "points", "(I)I"⟩
theorem sx_points_tb : sl_tbOK sl_R11 prog_1_method_23_code 2 (some .int) lk_sx [(213, 0), (97, 1)] sx_points_cd = true := by decide +kernel
theorem co_takeApart_w2 : Cond.instanceMethod co_takeApart_y ∈ sl_T0 := sl_in1 671 (by decide +kernel) rfl
theorem co_takeApart_w3 : Cond.selects co_takeApart_y.cls co_takeApart_y co_takeApart_y ∈ sl_T0 := sl_in1 672 (by decide +kernel) rfl
theorem co_takeApart_w4 : Cond.initialized co_takeApart_y.cls ∈ sl_T0 := sl_in1 90 (by decide +kernel) rfl
theorem co_takeApart_w5 : Cond.code co_takeApart_y prog_3_method_2_code 5 none ∈ sl_T0 := sl_in1 673 (by decide +kernel) rfl
theorem co_takeApart_w6 : co_takeApart_y.cls ≠ "java/lang/invoke/MethodHandle" ∧ co_takeApart_y.cls ≠ "java/lang/invoke/VarHandle" ∧ (parseMethodDescriptor co_takeApart_y.desc).map (fun d => d.parameters.length) = some 1 := by decide +kernel
theorem cs_sx_213 (g : sl_G) {hh : Nat} (h : 2 ≤ hh) : sl_CallS g sl_R11 213 0 1 hh 2 co_takeApart_pt := sl_callV (y := co_takeApart_y) (T := sl_F1) (N := 4) (co_takeApart_snd g) h (by decide) (sl_in1 670 (by decide +kernel) rfl) co_takeApart_w2 co_takeApart_w3 co_takeApart_w4 co_takeApart_w5 co_takeApart_w6 rfl (by decide)
def sx_points_ct : List sl_Ct := [(2, 0, 1, co_takeApart_pt), (2, 1, 0, sx_isBelow_pt)]
theorem sx_points_hc (g : sl_G) : sl_HC g sl_R11 2 sx_points_ct [(213, 0), (97, 1)] := sl_HC_cons (cs_sx_213 g (by decide)) (sl_HC_cons (cs_sx_97 g (by decide)) (sl_HC_nil g sl_R11 2))
set_option maxRecDepth 20000 in
set_option maxHeartbeats 2000000 in
theorem sx_points_snd (g : sl_G) : sl_Snd g sx_points_y prog_1_method_23_code 2 (some .int) 2 (sx_points_pt) := by
  intro As μ Q hw h
  unfold sx_points_pt at h
  split at h
  next c0 a0 a1 =>
    split at h
    next e_ =>
      subst e_
      split at h
      next e_ =>
        subst e_
        refine sl_mk2 g [true, true] (cst := [some (.inr (.inr (some (11, 0)))), some (.inl a1)]) (lv0 := [none, none]) (by decide) rfl hw rfl rfl rfl lk_sx_ok (sx_points_hc g) sx_points_tb rfl ?_
        intro X M
        exact ⟨_, sl_VV0, h⟩
      next => exact h.elim
    next => exact h.elim
  next => exact h.elim
def sx_apart (a1 : Int32) (μ : sl_M) (Q : Int32 → sl_M → Prop) : Prop := co_takeApart μ (fun m1 => (a1 = (-1 : Int32) → Q (m1 38 2) m1) ∧ (¬ a1 = (-1 : Int32) → sx_isBelow a1 (m1 38 2) m1 (fun r3 m2 => (r3 = (0 : Int32) → Q (-1 : Int32) m2) ∧ (¬ r3 = (0 : Int32) → vp_in a1 30 ∧ Q (m2 39 a1.toNatClampNeg) m2))))
def sx_apart_pt : sl_PT := fun As μ Q => match As with
  | [.inr (.inr (some (c0, a0))), .inl a1] => if c0 = 11 then (if a0 = 0 then (sx_apart a1 μ (fun r μ' => Q (some (.inl r)) μ')) else False) else False
  | _ => False
def sx_apart_cd : List sl_Ent := [(0, .aload_n 0, 1, 0, [0], [], false), (1, .getfield 26, 3, 0, [11, 2, 2, 1, 38], [], false), (4, .aload_n 0, 1, 0, [0], [], false), (5, .getfield 10, 3, 0, [11, 0, 2, 5, 1], [], false), (8, .invokevirtual 213, 3, 0, [0], [], false), (11, .iload_n 1, 1, 0, [1], [], false), (12, .iconst (-1), 1, (-1), [], [], false), (13, .if_icmp .ne 11, 3, 0, [24], [], false), (16, .aload_n 0, 1, 0, [0], [], false), (17, .getfield 26, 3, 0, [11, 2, 2, 1, 38], [], false), (20, .getfield 216, 3, 0, [1, 2, 0, 0, 0], [], false), (23, .ireturn, 1, 0, [], [], false), (24, .iload_n 1, 1, 0, [1], [], false), (25, .aload_n 0, 1, 0, [0], [], false), (26, .getfield 26, 3, 0, [11, 2, 2, 1, 38], [], false), (29, .getfield 216, 3, 0, [1, 2, 0, 0, 0], [], false), (32, .invokestatic 97, 3, 0, [1], [], false), (35, .ifCond .eq 15, 3, 0, [50], [], false), (38, .aload_n 0, 1, 0, [0], [], false), (39, .getfield 26, 3, 0, [11, 2, 2, 1, 38], [], false), (42, .getfield 221, 3, 0, [1, 0, 2, 20, 1], [], false), (45, .iload_n 1, 1, 0, [1], [], false), (46, .iaload, 1, 0, [], [], false), (47, .goto 4, 3, 0, [51], [], false), (50, .iconst (-1), 1, (-1), [], [], false), (51, .ireturn, 1, 0, [], [], false)]
def sx_apart_y : MethodName := ⟨"SpanLayers", "apart", "(I)I"⟩
theorem sx_apart_tb : sl_tbOK sl_R11 prog_1_method_24_code 2 (some .int) lk_sx [(213, 0), (97, 1)] sx_apart_cd = true := by decide +kernel
def sx_apart_ct : List sl_Ct := [(2, 0, 1, co_takeApart_pt), (2, 1, 0, sx_isBelow_pt)]
theorem sx_apart_hc (g : sl_G) : sl_HC g sl_R11 2 sx_apart_ct [(213, 0), (97, 1)] := sl_HC_cons (cs_sx_213 g (by decide)) (sl_HC_cons (cs_sx_97 g (by decide)) (sl_HC_nil g sl_R11 2))
set_option maxRecDepth 20000 in
set_option maxHeartbeats 2000000 in
theorem sx_apart_snd (g : sl_G) : sl_Snd g sx_apart_y prog_1_method_24_code 2 (some .int) 2 (sx_apart_pt) := by
  intro As μ Q hw h
  unfold sx_apart_pt at h
  split at h
  next c0 a0 a1 =>
    split at h
    next e_ =>
      subst e_
      split at h
      next e_ =>
        subst e_
        refine sl_mk2 g [true, true] (cst := [some (.inr (.inr (some (11, 0)))), some (.inl a1)]) (lv0 := [none, none]) (by decide) rfl hw rfl rfl rfl lk_sx_ok (sx_apart_hc g) sx_apart_tb rfl ?_
        intro X M
        exact ⟨_, sl_VV0, h⟩
      next => exact h.elim
    next => exact h.elim
  next => exact h.elim
def sx_heaviest (μ : sl_M) (Q : Int32 → sl_M → Prop) : Prop := co_heaviestOf μ (fun r2 m1 => Q r2 m1)
def sx_heaviest_pt : sl_PT := fun As μ Q => match As with
  | [.inr (.inr (some (c0, a0)))] => if c0 = 11 then (if a0 = 0 then (sx_heaviest μ (fun r μ' => Q (some (.inl r)) μ')) else False) else False
  | _ => False
def sx_heaviest_cd : List sl_Ent := [(0, .aload_n 0, 1, 0, [0], [], false), (1, .getfield 26, 3, 0, [11, 2, 2, 1, 38], [], false), (4, .aload_n 0, 1, 0, [0], [], false), (5, .getfield 10, 3, 0, [11, 0, 2, 5, 1], [], false), (8, .invokevirtual 224, 3, 0, [0], [], false), (11, .ireturn, 1, 0, [], [], false)]
def sx_heaviest_y : MethodName := ⟨"SpanLayers", "heaviest", "()I"⟩
theorem sx_heaviest_tb : sl_tbOK sl_R11 prog_1_method_25_code 1 (some .int) lk_sx [(224, 0)] sx_heaviest_cd = true := by decide +kernel
theorem co_heaviestOf_w2 : Cond.instanceMethod co_heaviestOf_y ∈ sl_T0 := sl_in1 686 (by decide +kernel) rfl
theorem co_heaviestOf_w3 : Cond.selects co_heaviestOf_y.cls co_heaviestOf_y co_heaviestOf_y ∈ sl_T0 := sl_in1 687 (by decide +kernel) rfl
theorem co_heaviestOf_w4 : Cond.initialized co_heaviestOf_y.cls ∈ sl_T0 := sl_in1 90 (by decide +kernel) rfl
theorem co_heaviestOf_w5 : Cond.code co_heaviestOf_y prog_3_method_4_code 5 (some .int) ∈ sl_T0 := sl_in1 688 (by decide +kernel) rfl
theorem co_heaviestOf_w6 : co_heaviestOf_y.cls ≠ "java/lang/invoke/MethodHandle" ∧ co_heaviestOf_y.cls ≠ "java/lang/invoke/VarHandle" ∧ (parseMethodDescriptor co_heaviestOf_y.desc).map (fun d => d.parameters.length) = some 1 := by decide +kernel
theorem cs_sx_224 (g : sl_G) {hh : Nat} (h : 5 ≤ hh) : sl_CallS g sl_R11 224 0 1 hh 2 co_heaviestOf_pt := sl_callV (y := co_heaviestOf_y) (T := sl_F1) (N := 4) (co_heaviestOf_snd g) h (by decide) (sl_in1 685 (by decide +kernel) rfl) co_heaviestOf_w2 co_heaviestOf_w3 co_heaviestOf_w4 co_heaviestOf_w5 co_heaviestOf_w6 rfl (by decide)
def sx_heaviest_ct : List sl_Ct := [(2, 0, 1, co_heaviestOf_pt)]
theorem sx_heaviest_hc (g : sl_G) : sl_HC g sl_R11 5 sx_heaviest_ct [(224, 0)] := sl_HC_cons (cs_sx_224 g (by decide)) (sl_HC_nil g sl_R11 5)
set_option maxRecDepth 20000 in
set_option maxHeartbeats 2000000 in
theorem sx_heaviest_snd (g : sl_G) : sl_Snd g sx_heaviest_y prog_1_method_25_code 1 (some .int) 5 (sx_heaviest_pt) := by
  intro As μ Q hw h
  unfold sx_heaviest_pt at h
  split at h
  next c0 a0 =>
    split at h
    next e_ =>
      subst e_
      split at h
      next e_ =>
        subst e_
        refine sl_mk2 g [true] (cst := [some (.inr (.inr (some (11, 0))))]) (lv0 := [none]) (by decide) rfl hw rfl rfl rfl lk_sx_ok (sx_heaviest_hc g) sx_heaviest_tb rfl ?_
        intro X M
        exact ⟨_, sl_VV0, h⟩
      next => exact h.elim
    next => exact h.elim
  next => exact h.elim
def sx_group (a1 : Int32) (a2 : Int32) (μ : sl_M) (Q : Int32 → sl_M → Prop) : Prop := ix_countHighs μ (fun r2 m1 => sx_isBelow a1 r2 m1 (fun r4 m3 => (r4 = (0 : Int32) → Q (-1 : Int32) m3) ∧ (¬ r4 = (0 : Int32) → sx_isBelow a2 (4 : Int32) m3 (fun r6 m5 => (r6 = (0 : Int32) → Q (-1 : Int32) m5) ∧ (¬ r6 = (0 : Int32) → ix_highAt a1 m5 (fun r8 m7 => ix_ofThoseEndingAt r8 a2 m7 (fun r10 m9 => Q r10 m9)))))))
def sx_group_pt : sl_PT := fun As μ Q => match As with
  | [.inr (.inr (some (c0, a0))), .inl a1, .inl a2] => if c0 = 11 then (if a0 = 0 then (sx_group a1 a2 μ (fun r μ' => Q (some (.inl r)) μ')) else False) else False
  | _ => False
def sx_group_cd : List sl_Ent := [(0, .iload_n 1, 1, 0, [1], [], false), (1, .aload_n 0, 1, 0, [0], [], false), (2, .getfield 10, 3, 0, [11, 0, 2, 5, 1], [], false), (5, .invokevirtual 228, 3, 0, [0], [], false), (8, .invokestatic 97, 3, 0, [1], [], false), (11, .ifCond .eq 11, 3, 0, [22], [], false), (14, .iload_n 2, 1, 0, [2], [], false), (15, .iconst 4, 1, 4, [], [], false), (16, .invokestatic 97, 3, 0, [1], [], false), (19, .ifCond .ne 5, 3, 0, [24], [], false), (22, .iconst (-1), 1, (-1), [], [], false), (23, .ireturn, 1, 0, [], [], false), (24, .aload_n 0, 1, 0, [0], [], false), (25, .getfield 10, 3, 0, [11, 0, 2, 5, 1], [], false), (28, .aload_n 0, 1, 0, [0], [], false), (29, .getfield 10, 3, 0, [11, 0, 2, 5, 1], [], false), (32, .iload_n 1, 1, 0, [1], [], false), (33, .invokevirtual 231, 3, 0, [2], [], false), (36, .iload_n 2, 1, 0, [2], [], false), (37, .invokevirtual 234, 3, 0, [3], [], false), (40, .ireturn, 1, 0, [], [], false)]
def sx_group_y : MethodName := ⟨"SpanLayers", "group", "(II)I"⟩
theorem sx_group_tb : sl_tbOK sl_R11 prog_1_method_26_code 3 (some .int) lk_sx [(228, 0), (97, 1), (231, 0), (234, 0)] sx_group_cd = true := by decide +kernel
theorem ix_countHighs_w2 : Cond.instanceMethod ix_countHighs_y ∈ sl_T0 := sl_in1 696 (by decide +kernel) rfl
theorem ix_countHighs_w3 : Cond.selects ix_countHighs_y.cls ix_countHighs_y ix_countHighs_y ∈ sl_T0 := sl_in1 697 (by decide +kernel) rfl
theorem ix_countHighs_w4 : Cond.initialized ix_countHighs_y.cls ∈ sl_T0 := sl_in1 87 (by decide +kernel) rfl
theorem ix_countHighs_w5 : Cond.code ix_countHighs_y prog_7_method_27_code 4 (some .int) ∈ sl_T0 := sl_in1 698 (by decide +kernel) rfl
theorem ix_countHighs_w6 : ix_countHighs_y.cls ≠ "java/lang/invoke/MethodHandle" ∧ ix_countHighs_y.cls ≠ "java/lang/invoke/VarHandle" ∧ (parseMethodDescriptor ix_countHighs_y.desc).map (fun d => d.parameters.length) = some 0 := by decide +kernel
theorem cs_sx_228 (g : sl_G) {hh : Nat} (h : 5 ≤ hh) : sl_CallS g sl_R11 228 0 5 hh 1 ix_countHighs_pt := sl_callV (y := ix_countHighs_y) (T := sl_F5) (N := 2) (ix_countHighs_snd g) h (by decide) (sl_in1 695 (by decide +kernel) rfl) ix_countHighs_w2 ix_countHighs_w3 ix_countHighs_w4 ix_countHighs_w5 ix_countHighs_w6 rfl (by decide)
theorem ix_highAt_w2 : Cond.instanceMethod ix_highAt_y ∈ sl_T0 := sl_in1 700 (by decide +kernel) rfl
theorem ix_highAt_w3 : Cond.selects ix_highAt_y.cls ix_highAt_y ix_highAt_y ∈ sl_T0 := sl_in1 701 (by decide +kernel) rfl
theorem ix_highAt_w4 : Cond.initialized ix_highAt_y.cls ∈ sl_T0 := sl_in1 87 (by decide +kernel) rfl
theorem ix_highAt_w5 : Cond.code ix_highAt_y prog_7_method_28_code 5 (some .int) ∈ sl_T0 := sl_in1 702 (by decide +kernel) rfl
theorem ix_highAt_w6 : ix_highAt_y.cls ≠ "java/lang/invoke/MethodHandle" ∧ ix_highAt_y.cls ≠ "java/lang/invoke/VarHandle" ∧ (parseMethodDescriptor ix_highAt_y.desc).map (fun d => d.parameters.length) = some 1 := by decide +kernel
theorem cs_sx_231 (g : sl_G) {hh : Nat} (h : 5 ≤ hh) : sl_CallS g sl_R11 231 0 5 hh 2 ix_highAt_pt := sl_callV (y := ix_highAt_y) (T := sl_F5) (N := 2) (ix_highAt_snd g) h (by decide) (sl_in1 699 (by decide +kernel) rfl) ix_highAt_w2 ix_highAt_w3 ix_highAt_w4 ix_highAt_w5 ix_highAt_w6 rfl (by decide)
theorem ix_ofThoseEndingAt_w2 : Cond.instanceMethod ix_ofThoseEndingAt_y ∈ sl_T0 := sl_in1 704 (by decide +kernel) rfl
theorem ix_ofThoseEndingAt_w3 : Cond.selects ix_ofThoseEndingAt_y.cls ix_ofThoseEndingAt_y ix_ofThoseEndingAt_y ∈ sl_T0 := sl_in1 705 (by decide +kernel) rfl
theorem ix_ofThoseEndingAt_w4 : Cond.initialized ix_ofThoseEndingAt_y.cls ∈ sl_T0 := sl_in1 87 (by decide +kernel) rfl
theorem ix_ofThoseEndingAt_w5 : Cond.code ix_ofThoseEndingAt_y prog_7_method_29_code 6 (some .int) ∈ sl_T0 := sl_in1 706 (by decide +kernel) rfl
theorem ix_ofThoseEndingAt_w6 : ix_ofThoseEndingAt_y.cls ≠ "java/lang/invoke/MethodHandle" ∧ ix_ofThoseEndingAt_y.cls ≠ "java/lang/invoke/VarHandle" ∧ (parseMethodDescriptor ix_ofThoseEndingAt_y.desc).map (fun d => d.parameters.length) = some 2 := by decide +kernel
theorem cs_sx_234 (g : sl_G) {hh : Nat} (h : 2 ≤ hh) : sl_CallS g sl_R11 234 0 5 hh 3 ix_ofThoseEndingAt_pt := sl_callV (y := ix_ofThoseEndingAt_y) (T := sl_F5) (N := 2) (ix_ofThoseEndingAt_snd g) h (by decide) (sl_in1 703 (by decide +kernel) rfl) ix_ofThoseEndingAt_w2 ix_ofThoseEndingAt_w3 ix_ofThoseEndingAt_w4 ix_ofThoseEndingAt_w5 ix_ofThoseEndingAt_w6 rfl (by decide)
def sx_group_ct : List sl_Ct := [(1, 0, 5, ix_countHighs_pt), (2, 1, 0, sx_isBelow_pt), (2, 0, 5, ix_highAt_pt), (3, 0, 5, ix_ofThoseEndingAt_pt)]
theorem sx_group_hc (g : sl_G) : sl_HC g sl_R11 5 sx_group_ct [(228, 0), (97, 1), (231, 0), (234, 0)] := sl_HC_cons (cs_sx_228 g (by decide)) (sl_HC_cons (cs_sx_97 g (by decide)) (sl_HC_cons (cs_sx_231 g (by decide)) (sl_HC_cons (cs_sx_234 g (by decide)) (sl_HC_nil g sl_R11 5))))
set_option maxRecDepth 20000 in
set_option maxHeartbeats 2000000 in
theorem sx_group_snd (g : sl_G) : sl_Snd g sx_group_y prog_1_method_26_code 3 (some .int) 5 (sx_group_pt) := by
  intro As μ Q hw h
  unfold sx_group_pt at h
  split at h
  next c0 a0 a1 a2 =>
    split at h
    next e_ =>
      subst e_
      split at h
      next e_ =>
        subst e_
        refine sl_mk2 g [true, true, true] (cst := [some (.inr (.inr (some (11, 0)))), some (.inl a1), some (.inl a2)]) (lv0 := [none, none, none]) (by decide) rfl hw rfl rfl rfl lk_sx_ok (sx_group_hc g) sx_group_tb rfl ?_
        intro X M
        exact ⟨_, sl_VV0, h⟩
      next => exact h.elim
    next => exact h.elim
  next => exact h.elim
def sx_feed (a1 : Int32) (μ : sl_M) (Q : Int32 → sl_M → Prop) : Prop := (a1 < (1 : Int32) → Q (-2 : Int32) μ) ∧ (¬ a1 < (1 : Int32) → (a1 ≤ (127 : Int32) → tp_append a1 μ (fun r2 m1 => (r2 = (0 : Int32) → Q (-4 : Int32) m1) ∧ (¬ r2 = (0 : Int32) → Q (m1 43 1) m1))) ∧ (¬ a1 ≤ (127 : Int32) → Q (-2 : Int32) μ))
def sx_feed_pt : sl_PT := fun As μ Q => match As with
  | [.inr (.inr (some (c0, a0))), .inl a1] => if c0 = 11 then (if a0 = 0 then (sx_feed a1 μ (fun r μ' => Q (some (.inl r)) μ')) else False) else False
  | _ => False
def sx_feed_cd : List sl_Ent := [(0, .iload_n 1, 1, 0, [1], [], false), (1, .iconst 1, 1, 1, [], [], false), (2, .if_icmp .lt 9, 3, 0, [11], [], false), (5, .iload_n 1, 1, 0, [1], [], false), (6, .bipush 127, 2, 127, [], [], false), (8, .if_icmp .le 6, 3, 0, [14], [], false), (11, .bipush (-2), 2, (-2), [], [], false), (13, .ireturn, 1, 0, [], [], false), (14, .aload_n 0, 1, 0, [0], [], false), (15, .getfield 39, 3, 0, [11, 4, 2, 10, 43], [], false), (18, .iload_n 1, 1, 0, [1], [], false), (19, .invokevirtual 237, 3, 0, [0], [], false), (22, .ifCond .eq 13, 3, 0, [35], [], false), (25, .aload_n 0, 1, 0, [0], [], false), (26, .getfield 39, 3, 0, [11, 4, 2, 10, 43], [], false), (29, .getfield 240, 3, 0, [10, 1, 0, 0, 0], [], false), (32, .goto 5, 3, 0, [37], [], false), (35, .bipush (-4), 2, (-4), [], [], false), (37, .ireturn, 1, 0, [], [], false)]
def sx_feed_y : MethodName := ⟨"SpanLayers", "feed", "(I)I"⟩
theorem sx_feed_tb : sl_tbOK sl_R11 prog_1_method_27_code 2 (some .int) lk_sx [(237, 0)] sx_feed_cd = true := by decide +kernel
theorem tp_append_w2 : Cond.instanceMethod tp_append_y ∈ sl_T0 := sl_in1 712 (by decide +kernel) rfl
theorem tp_append_w3 : Cond.selects tp_append_y.cls tp_append_y tp_append_y ∈ sl_T0 := sl_in1 713 (by decide +kernel) rfl
theorem tp_append_w4 : Cond.initialized tp_append_y.cls ∈ sl_T0 := sl_in1 91 (by decide +kernel) rfl
theorem tp_append_w5 : Cond.code tp_append_y prog_12_method_2_code 2 (some .boolean) ∈ sl_T0 := sl_in1 714 (by decide +kernel) rfl
theorem tp_append_w6 : tp_append_y.cls ≠ "java/lang/invoke/MethodHandle" ∧ tp_append_y.cls ≠ "java/lang/invoke/VarHandle" ∧ (parseMethodDescriptor tp_append_y.desc).map (fun d => d.parameters.length) = some 1 := by decide +kernel
theorem cs_sx_237 (g : sl_G) {hh : Nat} (h : 1 ≤ hh) : sl_CallS g sl_R11 237 0 10 hh 2 tp_append_pt := sl_callV (y := tp_append_y) (T := sl_F10) (N := 4) (tp_append_snd g) h (by decide) (sl_in1 711 (by decide +kernel) rfl) tp_append_w2 tp_append_w3 tp_append_w4 tp_append_w5 tp_append_w6 rfl (by decide)
def sx_feed_ct : List sl_Ct := [(2, 0, 10, tp_append_pt)]
theorem sx_feed_hc (g : sl_G) : sl_HC g sl_R11 1 sx_feed_ct [(237, 0)] := sl_HC_cons (cs_sx_237 g (by decide)) (sl_HC_nil g sl_R11 1)
set_option maxRecDepth 20000 in
set_option maxHeartbeats 2000000 in
theorem sx_feed_snd (g : sl_G) : sl_Snd g sx_feed_y prog_1_method_27_code 2 (some .int) 1 (sx_feed_pt) := by
  intro As μ Q hw h
  unfold sx_feed_pt at h
  split at h
  next c0 a0 a1 =>
    split at h
    next e_ =>
      subst e_
      split at h
      next e_ =>
        subst e_
        refine sl_mk2 g [true, true] (cst := [some (.inr (.inr (some (11, 0)))), some (.inl a1)]) (lv0 := [none, none]) (by decide) rfl hw rfl rfl rfl lk_sx_ok (sx_feed_hc g) sx_feed_tb rfl ?_
        intro X M
        exact ⟨_, sl_VV0, h⟩
      next => exact h.elim
    next => exact h.elim
  next => exact h.elim
def sx_clear (μ : sl_M) (Q : Int32 → sl_M → Prop) : Prop := ∀ v1, v1 = (μ 43 1) → tp_empty μ (fun r3 m2 => Q v1 m2)
def sx_clear_pt : sl_PT := fun As μ Q => match As with
  | [.inr (.inr (some (c0, a0)))] => if c0 = 11 then (if a0 = 0 then (sx_clear μ (fun r μ' => Q (some (.inl r)) μ')) else False) else False
  | _ => False
def sx_clear_cd : List sl_Ent := [(0, .aload_n 0, 1, 0, [0], [], false), (1, .getfield 39, 3, 0, [11, 4, 2, 10, 43], [], false), (4, .getfield 240, 3, 0, [10, 1, 0, 0, 0], [], false), (7, .istore_n 1, 1, 0, [1, 1], [], false), (8, .aload_n 0, 1, 0, [0], [], false), (9, .getfield 39, 3, 0, [11, 4, 2, 10, 43], [], false), (12, .invokevirtual 243, 3, 0, [0], [], false), (15, .pop, 1, 0, [], [], false), (16, .iload_n 1, 1, 0, [1], [], false), (17, .ireturn, 1, 0, [], [], false)]
def sx_clear_y : MethodName := ⟨"SpanLayers", "clear", "()I"⟩
theorem sx_clear_tb : sl_tbOK sl_R11 prog_1_method_28_code 2 (some .int) lk_sx [(243, 0)] sx_clear_cd = true := by decide +kernel
theorem tp_empty_w2 : Cond.instanceMethod tp_empty_y ∈ sl_T0 := sl_in1 720 (by decide +kernel) rfl
theorem tp_empty_w3 : Cond.selects tp_empty_y.cls tp_empty_y tp_empty_y ∈ sl_T0 := sl_in1 721 (by decide +kernel) rfl
theorem tp_empty_w4 : Cond.initialized tp_empty_y.cls ∈ sl_T0 := sl_in1 91 (by decide +kernel) rfl
theorem tp_empty_w5 : Cond.code tp_empty_y prog_12_method_3_code 2 (some .int) ∈ sl_T0 := sl_in1 722 (by decide +kernel) rfl
theorem tp_empty_w6 : tp_empty_y.cls ≠ "java/lang/invoke/MethodHandle" ∧ tp_empty_y.cls ≠ "java/lang/invoke/VarHandle" ∧ (parseMethodDescriptor tp_empty_y.desc).map (fun d => d.parameters.length) = some 0 := by decide +kernel
theorem cs_sx_243 (g : sl_G) {hh : Nat} (h : 1 ≤ hh) : sl_CallS g sl_R11 243 0 10 hh 1 tp_empty_pt := sl_callV (y := tp_empty_y) (T := sl_F10) (N := 4) (tp_empty_snd g) h (by decide) (sl_in1 719 (by decide +kernel) rfl) tp_empty_w2 tp_empty_w3 tp_empty_w4 tp_empty_w5 tp_empty_w6 rfl (by decide)
def sx_clear_ct : List sl_Ct := [(1, 0, 10, tp_empty_pt)]
theorem sx_clear_hc (g : sl_G) : sl_HC g sl_R11 1 sx_clear_ct [(243, 0)] := sl_HC_cons (cs_sx_243 g (by decide)) (sl_HC_nil g sl_R11 1)
set_option maxRecDepth 20000 in
set_option maxHeartbeats 2000000 in
theorem sx_clear_snd (g : sl_G) : sl_Snd g sx_clear_y prog_1_method_28_code 2 (some .int) 1 (sx_clear_pt) := by
  intro As μ Q hw h
  unfold sx_clear_pt at h
  split at h
  next c0 a0 =>
    split at h
    next e_ =>
      subst e_
      split at h
      next e_ =>
        subst e_
        refine sl_mk2 g [true, false] (cst := [some (.inr (.inr (some (11, 0))))]) (lv0 := [none, none]) (by decide) rfl hw rfl rfl rfl lk_sx_ok (sx_clear_hc g) sx_clear_tb rfl ?_
        intro X M
        exact ⟨_, sl_VV0, h⟩
      next => exact h.elim
    next => exact h.elim
  next => exact h.elim
def sx_pick (μ : sl_M) (Q : Int32 → sl_M → Prop) : Prop := cn_readFrom μ (fun r2 m1 => tp_empty m1 (fun r4 m3 => (r4 < (0 : Int32) → Q r2 m3) ∧ (¬ r4 < (0 : Int32) → Q ((-100 : Int32) - r4) m3)))
def sx_pick_pt : sl_PT := fun As μ Q => match As with
  | [.inr (.inr (some (c0, a0)))] => if c0 = 11 then (if a0 = 0 then (sx_pick μ (fun r μ' => Q (some (.inl r)) μ')) else False) else False
  | _ => False
def sx_pick_cd : List sl_Ent := [(0, .aload_n 0, 1, 0, [0], [], false), (1, .getfield 46, 3, 0, [11, 5, 2, 2, 45], [], false), (4, .aload_n 0, 1, 0, [0], [], false), (5, .getfield 39, 3, 0, [11, 4, 2, 10, 43], [], false), (8, .aload_n 0, 1, 0, [0], [], false), (9, .getfield 10, 3, 0, [11, 0, 2, 5, 1], [], false), (12, .invokevirtual 246, 3, 0, [0], [], false), (15, .istore_n 1, 1, 0, [1], [], false), (16, .aload_n 0, 1, 0, [0], [], false), (17, .getfield 39, 3, 0, [11, 4, 2, 10, 43], [], false), (20, .invokevirtual 243, 3, 0, [1], [], false), (23, .istore_n 2, 1, 0, [2], [], false), (24, .iload_n 2, 1, 0, [2], [], false), (25, .ifCond .ge 7, 3, 0, [32], [], false), (28, .iload_n 1, 1, 0, [1], [], false), (29, .goto 7, 3, 0, [36], [], false), (32, .bipush (-100), 2, (-100), [], [], false), (34, .iload_n 2, 1, 0, [2], [], false), (35, .isub, 1, 0, [], [], false), (36, .ireturn, 1, 0, [], [], false)]
def sx_pick_y : MethodName := ⟨"SpanLayers", "pick", "()I"⟩
theorem sx_pick_tb : sl_tbOK sl_R11 prog_1_method_29_code 3 (some .int) lk_sx [(246, 0), (243, 0)] sx_pick_cd = true := by decide +kernel
theorem cn_readFrom_w2 : Cond.instanceMethod cn_readFrom_y ∈ sl_T0 := sl_in1 728 (by decide +kernel) rfl
theorem cn_readFrom_w3 : Cond.selects cn_readFrom_y.cls cn_readFrom_y cn_readFrom_y ∈ sl_T0 := sl_in1 729 (by decide +kernel) rfl
theorem cn_readFrom_w4 : Cond.initialized cn_readFrom_y.cls ∈ sl_T0 := sl_in1 92 (by decide +kernel) rfl
theorem cn_readFrom_w5 : Cond.code cn_readFrom_y prog_4_method_2_code 4 (some .int) ∈ sl_T0 := sl_in1 730 (by decide +kernel) rfl
theorem cn_readFrom_w6 : cn_readFrom_y.cls ≠ "java/lang/invoke/MethodHandle" ∧ cn_readFrom_y.cls ≠ "java/lang/invoke/VarHandle" ∧ (parseMethodDescriptor cn_readFrom_y.desc).map (fun d => d.parameters.length) = some 2 := by decide +kernel
theorem cs_sx_246 (g : sl_G) {hh : Nat} (h : 46 ≤ hh) : sl_CallS g sl_R11 246 0 2 hh 3 cn_readFrom_pt := sl_callV (y := cn_readFrom_y) (T := sl_F2) (N := 0) (cn_readFrom_snd g) h (by decide) (sl_in1 727 (by decide +kernel) rfl) cn_readFrom_w2 cn_readFrom_w3 cn_readFrom_w4 cn_readFrom_w5 cn_readFrom_w6 rfl (by decide)
def sx_pick_ct : List sl_Ct := [(3, 0, 2, cn_readFrom_pt), (1, 0, 10, tp_empty_pt)]
theorem sx_pick_hc (g : sl_G) : sl_HC g sl_R11 46 sx_pick_ct [(246, 0), (243, 0)] := sl_HC_cons (cs_sx_246 g (by decide)) (sl_HC_cons (cs_sx_243 g (by decide)) (sl_HC_nil g sl_R11 46))
set_option maxRecDepth 20000 in
set_option maxHeartbeats 2000000 in
theorem sx_pick_snd (g : sl_G) : sl_Snd g sx_pick_y prog_1_method_29_code 3 (some .int) 46 (sx_pick_pt) := by
  intro As μ Q hw h
  unfold sx_pick_pt at h
  split at h
  next c0 a0 =>
    split at h
    next e_ =>
      subst e_
      split at h
      next e_ =>
        subst e_
        refine sl_mk2 g [true, false, false] (cst := [some (.inr (.inr (some (11, 0))))]) (lv0 := [none, none, none]) (by decide) rfl hw rfl rfl rfl lk_sx_ok (sx_pick_hc g) sx_pick_tb rfl ?_
        intro X M
        exact ⟨_, sl_VV0, h⟩
      next => exact h.elim
    next => exact h.elim
  next => exact h.elim
def sx_many (μ : sl_M) (Q : Int32 → sl_M → Prop) : Prop := cn_readFrom μ (fun r2 m1 => tp_empty m1 (fun r4 m3 => (r4 < (0 : Int32) → it_bitCount r2 m3 (fun r6 m5 => Q r6 m5)) ∧ (¬ r4 < (0 : Int32) → Q ((-100 : Int32) - r4) m3)))
def sx_many_pt : sl_PT := fun As μ Q => match As with
  | [.inr (.inr (some (c0, a0)))] => if c0 = 11 then (if a0 = 0 then (sx_many μ (fun r μ' => Q (some (.inl r)) μ')) else False) else False
  | _ => False
def sx_many_cd : List sl_Ent := [(0, .aload_n 0, 1, 0, [0], [], false), (1, .getfield 46, 3, 0, [11, 5, 2, 2, 45], [], false), (4, .aload_n 0, 1, 0, [0], [], false), (5, .getfield 39, 3, 0, [11, 4, 2, 10, 43], [], false), (8, .aload_n 0, 1, 0, [0], [], false), (9, .getfield 10, 3, 0, [11, 0, 2, 5, 1], [], false), (12, .invokevirtual 246, 3, 0, [0], [], false), (15, .istore_n 1, 1, 0, [1], [], false), (16, .aload_n 0, 1, 0, [0], [], false), (17, .getfield 39, 3, 0, [11, 4, 2, 10, 43], [], false), (20, .invokevirtual 243, 3, 0, [1], [], false), (23, .istore_n 2, 1, 0, [2], [], false), (24, .iload_n 2, 1, 0, [2], [], false), (25, .ifCond .ge 10, 3, 0, [35], [], false), (28, .iload_n 1, 1, 0, [1], [], false), (29, .invokestatic 249, 3, 0, [2], [], false), (32, .goto 7, 3, 0, [39], [], false), (35, .bipush (-100), 2, (-100), [], [], false), (37, .iload_n 2, 1, 0, [2], [], false), (38, .isub, 1, 0, [], [], false), (39, .ireturn, 1, 0, [], [], false)]
def sx_many_y : MethodName := ⟨"SpanLayers", "many", "()I"⟩
theorem sx_many_tb : sl_tbOK sl_R11 prog_1_method_30_code 3 (some .int) lk_sx [(246, 0), (243, 0), (249, 1)] sx_many_cd = true := by decide +kernel
theorem cs_sx_249 (g : sl_G) {hh : Nat} (h : 1 ≤ hh) : sl_CallS g sl_R11 249 1 0 hh 1 it_bitCount_pt := sl_callS (y := it_bitCount_y) (it_bitCount_snd g) h (by decide) (sl_in1 856 (by decide +kernel) rfl) it_bitCount_w2 it_bitCount_w4 it_bitCount_w5 it_bitCount_w6
def sx_many_ct : List sl_Ct := [(3, 0, 2, cn_readFrom_pt), (1, 0, 10, tp_empty_pt), (1, 1, 0, it_bitCount_pt)]
theorem sx_many_hc (g : sl_G) : sl_HC g sl_R11 46 sx_many_ct [(246, 0), (243, 0), (249, 1)] := sl_HC_cons (cs_sx_246 g (by decide)) (sl_HC_cons (cs_sx_243 g (by decide)) (sl_HC_cons (cs_sx_249 g (by decide)) (sl_HC_nil g sl_R11 46)))
set_option maxRecDepth 20000 in
set_option maxHeartbeats 2000000 in
theorem sx_many_snd (g : sl_G) : sl_Snd g sx_many_y prog_1_method_30_code 3 (some .int) 46 (sx_many_pt) := by
  intro As μ Q hw h
  unfold sx_many_pt at h
  split at h
  next c0 a0 =>
    split at h
    next e_ =>
      subst e_
      split at h
      next e_ =>
        subst e_
        refine sl_mk2 g [true, false, false] (cst := [some (.inr (.inr (some (11, 0))))]) (lv0 := [none, none, none]) (by decide) rfl hw rfl rfl rfl lk_sx_ok (sx_many_hc g) sx_many_tb rfl ?_
        intro X M
        exact ⟨_, sl_VV0, h⟩
      next => exact h.elim
    next => exact h.elim
  next => exact h.elim
def sx_cull (μ : sl_M) (Q : Int32 → sl_M → Prop) : Prop := cn_readFrom μ (fun r2 m1 => tp_empty m1 (fun r4 m3 => (r4 < (0 : Int32) → ix_takeOut r2 m3 (fun m5 => it_bitCount r2 m5 (fun r7 m6 => Q r7 m6))) ∧ (¬ r4 < (0 : Int32) → Q ((-100 : Int32) - r4) m3)))
def sx_cull_pt : sl_PT := fun As μ Q => match As with
  | [.inr (.inr (some (c0, a0)))] => if c0 = 11 then (if a0 = 0 then (sx_cull μ (fun r μ' => Q (some (.inl r)) μ')) else False) else False
  | _ => False
def sx_cull_cd : List sl_Ent := [(0, .aload_n 0, 1, 0, [0], [], false), (1, .getfield 46, 3, 0, [11, 5, 2, 2, 45], [], false), (4, .aload_n 0, 1, 0, [0], [], false), (5, .getfield 39, 3, 0, [11, 4, 2, 10, 43], [], false), (8, .aload_n 0, 1, 0, [0], [], false), (9, .getfield 10, 3, 0, [11, 0, 2, 5, 1], [], false), (12, .invokevirtual 246, 3, 0, [0], [], false), (15, .istore_n 1, 1, 0, [1], [], false), (16, .aload_n 0, 1, 0, [0], [], false), (17, .getfield 39, 3, 0, [11, 4, 2, 10, 43], [], false), (20, .invokevirtual 243, 3, 0, [1], [], false), (23, .istore_n 2, 1, 0, [2], [], false), (24, .iload_n 2, 1, 0, [2], [], false), (25, .ifCond .lt 8, 3, 0, [33], [], false), (28, .bipush (-100), 2, (-100), [], [], false), (30, .iload_n 2, 1, 0, [2], [], false), (31, .isub, 1, 0, [], [], false), (32, .ireturn, 1, 0, [], [], false), (33, .aload_n 0, 1, 0, [0], [], false), (34, .getfield 10, 3, 0, [11, 0, 2, 5, 1], [], false), (37, .iload_n 1, 1, 0, [1], [], false), (38, .invokevirtual 105, 3, 0, [2], [], false), (41, .iload_n 1, 1, 0, [1], [], false), (42, .invokestatic 249, 3, 0, [3], [], false), (45, .ireturn, 1, 0, [], [], false)]
def sx_cull_y : MethodName := ⟨"SpanLayers", "cull", "()I"⟩
theorem sx_cull_tb : sl_tbOK sl_R11 prog_1_method_31_code 3 (some .int) lk_sx [(246, 0), (243, 0), (105, 0), (249, 1)] sx_cull_cd = true := by decide +kernel
def sx_cull_ct : List sl_Ct := [(3, 0, 2, cn_readFrom_pt), (1, 0, 10, tp_empty_pt), (2, 0, 5, ix_takeOut_pt), (1, 1, 0, it_bitCount_pt)]
theorem sx_cull_hc (g : sl_G) : sl_HC g sl_R11 46 sx_cull_ct [(246, 0), (243, 0), (105, 0), (249, 1)] := sl_HC_cons (cs_sx_246 g (by decide)) (sl_HC_cons (cs_sx_243 g (by decide)) (sl_HC_cons (cs_sx_105 g (by decide)) (sl_HC_cons (cs_sx_249 g (by decide)) (sl_HC_nil g sl_R11 46))))
set_option maxRecDepth 20000 in
set_option maxHeartbeats 2000000 in
theorem sx_cull_snd (g : sl_G) : sl_Snd g sx_cull_y prog_1_method_31_code 3 (some .int) 46 (sx_cull_pt) := by
  intro As μ Q hw h
  unfold sx_cull_pt at h
  split at h
  next c0 a0 =>
    split at h
    next e_ =>
      subst e_
      split at h
      next e_ =>
        subst e_
        refine sl_mk2 g [true, false, false] (cst := [some (.inr (.inr (some (11, 0))))]) (lv0 := [none, none, none]) (by decide) rfl hw rfl rfl rfl lk_sx_ok (sx_cull_hc g) sx_cull_tb rfl ?_
        intro X M
        exact ⟨_, sl_VV0, h⟩
      next => exact h.elim
    next => exact h.elim
  next => exact h.elim
def sx_change (a1 : Int32) (μ : sl_M) (Q : Int32 → sl_M → Prop) : Prop := (a1 < (-1 : Int32) → Q (-2 : Int32) μ) ∧ (¬ a1 < (-1 : Int32) → ch_readFrom μ (fun m1 => tp_empty m1 (fun r3 m2 => (r3 < (0 : Int32) → ch_changeAll a1 m2 (fun r5 m4 => Q r5 m4)) ∧ (¬ r3 < (0 : Int32) → Q ((-100 : Int32) - r3) m2))))
def sx_change_pt : sl_PT := fun As μ Q => match As with
  | [.inr (.inr (some (c0, a0))), .inl a1] => if c0 = 11 then (if a0 = 0 then (sx_change a1 μ (fun r μ' => Q (some (.inl r)) μ')) else False) else False
  | _ => False
def sx_change_cd : List sl_Ent := [(0, .iload_n 1, 1, 0, [1], [], false), (1, .iconst (-1), 1, (-1), [], [], false), (2, .if_icmp .ge 6, 3, 0, [8], [], false), (5, .bipush (-2), 2, (-2), [], [], false), (7, .ireturn, 1, 0, [], [], false), (8, .aload_n 0, 1, 0, [0], [], false), (9, .getfield 53, 3, 0, [11, 6, 2, 0, 46], [], false), (12, .aload_n 0, 1, 0, [0], [], false), (13, .getfield 39, 3, 0, [11, 4, 2, 10, 43], [], false), (16, .invokevirtual 254, 3, 0, [0], [], false), (19, .aload_n 0, 1, 0, [0], [], false), (20, .getfield 39, 3, 0, [11, 4, 2, 10, 43], [], false), (23, .invokevirtual 243, 3, 0, [1], [], false), (26, .istore_n 2, 1, 0, [2], [], false), (27, .iload_n 2, 1, 0, [2], [], false), (28, .ifCond .ge 18, 3, 0, [46], [], false), (31, .aload_n 0, 1, 0, [0], [], false), (32, .getfield 53, 3, 0, [11, 6, 2, 0, 46], [], false), (35, .aload_n 0, 1, 0, [0], [], false), (36, .getfield 10, 3, 0, [11, 0, 2, 5, 1], [], false), (39, .iload_n 1, 1, 0, [1], [], false), (40, .invokevirtual 257, 3, 0, [2], [], false), (43, .goto 7, 3, 0, [50], [], false), (46, .bipush (-100), 2, (-100), [], [], false), (48, .iload_n 2, 1, 0, [2], [], false), (49, .isub, 1, 0, [], [], false), (50, .ireturn, 1, 0, [], [], false)]
def sx_change_y : MethodName := ⟨"SpanLayers", "change", "(I)I"⟩
theorem sx_change_tb : sl_tbOK sl_R11 prog_1_method_32_code 3 (some .int) lk_sx [(254, 0), (243, 0), (257, 0)] sx_change_cd = true := by decide +kernel
theorem ch_readFrom_w2 : Cond.instanceMethod ch_readFrom_y ∈ sl_T0 := sl_in1 866 (by decide +kernel) rfl
theorem ch_readFrom_w3 : Cond.selects ch_readFrom_y.cls ch_readFrom_y ch_readFrom_y ∈ sl_T0 := sl_in1 867 (by decide +kernel) rfl
theorem ch_readFrom_w4 : Cond.initialized ch_readFrom_y.cls ∈ sl_T0 := sl_in1 93 (by decide +kernel) rfl
theorem ch_readFrom_w5 : Cond.code ch_readFrom_y prog_2_method_2_code 4 none ∈ sl_T0 := sl_in1 868 (by decide +kernel) rfl
theorem ch_readFrom_w6 : ch_readFrom_y.cls ≠ "java/lang/invoke/MethodHandle" ∧ ch_readFrom_y.cls ≠ "java/lang/invoke/VarHandle" ∧ (parseMethodDescriptor ch_readFrom_y.desc).map (fun d => d.parameters.length) = some 1 := by decide +kernel
theorem cs_sx_254 (g : sl_G) {hh : Nat} (h : 11 ≤ hh) : sl_CallS g sl_R11 254 0 0 hh 2 ch_readFrom_pt := sl_callV (y := ch_readFrom_y) (T := sl_F0) (N := 4) (ch_readFrom_snd g) h (by decide) (sl_in1 865 (by decide +kernel) rfl) ch_readFrom_w2 ch_readFrom_w3 ch_readFrom_w4 ch_readFrom_w5 ch_readFrom_w6 rfl (by decide)
theorem ch_changeAll_w2 : Cond.instanceMethod ch_changeAll_y ∈ sl_T0 := sl_in1 885 (by decide +kernel) rfl
theorem ch_changeAll_w3 : Cond.selects ch_changeAll_y.cls ch_changeAll_y ch_changeAll_y ∈ sl_T0 := sl_in1 886 (by decide +kernel) rfl
theorem ch_changeAll_w4 : Cond.initialized ch_changeAll_y.cls ∈ sl_T0 := sl_in1 93 (by decide +kernel) rfl
theorem ch_changeAll_w5 : Cond.code ch_changeAll_y prog_2_method_4_code 5 (some .int) ∈ sl_T0 := sl_in1 887 (by decide +kernel) rfl
theorem ch_changeAll_w6 : ch_changeAll_y.cls ≠ "java/lang/invoke/MethodHandle" ∧ ch_changeAll_y.cls ≠ "java/lang/invoke/VarHandle" ∧ (parseMethodDescriptor ch_changeAll_y.desc).map (fun d => d.parameters.length) = some 2 := by decide +kernel
theorem cs_sx_257 (g : sl_G) {hh : Nat} (h : 6 ≤ hh) : sl_CallS g sl_R11 257 0 0 hh 3 ch_changeAll_pt := sl_callV (y := ch_changeAll_y) (T := sl_F0) (N := 4) (ch_changeAll_snd g) h (by decide) (sl_in1 884 (by decide +kernel) rfl) ch_changeAll_w2 ch_changeAll_w3 ch_changeAll_w4 ch_changeAll_w5 ch_changeAll_w6 rfl (by decide)
def sx_change_ct : List sl_Ct := [(2, 0, 0, ch_readFrom_pt), (1, 0, 10, tp_empty_pt), (3, 0, 0, ch_changeAll_pt)]
theorem sx_change_hc (g : sl_G) : sl_HC g sl_R11 11 sx_change_ct [(254, 0), (243, 0), (257, 0)] := sl_HC_cons (cs_sx_254 g (by decide)) (sl_HC_cons (cs_sx_243 g (by decide)) (sl_HC_cons (cs_sx_257 g (by decide)) (sl_HC_nil g sl_R11 11)))
set_option maxRecDepth 20000 in
set_option maxHeartbeats 2000000 in
theorem sx_change_snd (g : sl_G) : sl_Snd g sx_change_y prog_1_method_32_code 3 (some .int) 11 (sx_change_pt) := by
  intro As μ Q hw h
  unfold sx_change_pt at h
  split at h
  next c0 a0 a1 =>
    split at h
    next e_ =>
      subst e_
      split at h
      next e_ =>
        subst e_
        refine sl_mk2 g [true, true, false] (cst := [some (.inr (.inr (some (11, 0)))), some (.inl a1)]) (lv0 := [none, none, none]) (by decide) rfl hw rfl rfl rfl lk_sx_ok (sx_change_hc g) sx_change_tb rfl ?_
        intro X M
        exact ⟨_, sl_VV0, h⟩
      next => exact h.elim
    next => exact h.elim
  next => exact h.elim
def sx_load (μ : sl_M) (Q : Int32 → sl_M → Prop) : Prop := pa_readFrom μ (fun m1 => tp_empty m1 (fun r3 m2 => (r3 < (0 : Int32) → pa_bringInto m2 (fun r5 m4 => Q r5 m4)) ∧ (¬ r3 < (0 : Int32) → Q ((-100 : Int32) - r3) m2)))
def sx_load_pt : sl_PT := fun As μ Q => match As with
  | [.inr (.inr (some (c0, a0)))] => if c0 = 11 then (if a0 = 0 then (sx_load μ (fun r μ' => Q (some (.inl r)) μ')) else False) else False
  | _ => False
def sx_load_cd : List sl_Ent := [(0, .aload_n 0, 1, 0, [0], [], false), (1, .getfield 60, 3, 0, [11, 7, 2, 7, 50], [], false), (4, .aload_n 0, 1, 0, [0], [], false), (5, .getfield 39, 3, 0, [11, 4, 2, 10, 43], [], false), (8, .invokevirtual 261, 3, 0, [0], [], false), (11, .aload_n 0, 1, 0, [0], [], false), (12, .getfield 39, 3, 0, [11, 4, 2, 10, 43], [], false), (15, .invokevirtual 243, 3, 0, [1], [], false), (18, .istore_n 1, 1, 0, [1], [], false), (19, .iload_n 1, 1, 0, [1], [], false), (20, .ifCond .ge 17, 3, 0, [37], [], false), (23, .aload_n 0, 1, 0, [0], [], false), (24, .getfield 60, 3, 0, [11, 7, 2, 7, 50], [], false), (27, .aload_n 0, 1, 0, [0], [], false), (28, .getfield 10, 3, 0, [11, 0, 2, 5, 1], [], false), (31, .invokevirtual 262, 3, 0, [2], [], false), (34, .goto 7, 3, 0, [41], [], false), (37, .bipush (-100), 2, (-100), [], [], false), (39, .iload_n 1, 1, 0, [1], [], false), (40, .isub, 1, 0, [], [], false), (41, .ireturn, 1, 0, [], [], false)]
def sx_load_y : MethodName := ⟨"SpanLayers", "load", "()I"⟩
theorem sx_load_tb : sl_tbOK sl_R11 prog_1_method_33_code 2 (some .int) lk_sx [(261, 0), (243, 0), (262, 0)] sx_load_cd = true := by decide +kernel
theorem pa_readFrom_w2 : Cond.instanceMethod pa_readFrom_y ∈ sl_T0 := sl_in1 910 (by decide +kernel) rfl
theorem pa_readFrom_w3 : Cond.selects pa_readFrom_y.cls pa_readFrom_y pa_readFrom_y ∈ sl_T0 := sl_in1 911 (by decide +kernel) rfl
theorem pa_readFrom_w4 : Cond.initialized pa_readFrom_y.cls ∈ sl_T0 := sl_in1 94 (by decide +kernel) rfl
theorem pa_readFrom_w5 : Cond.code pa_readFrom_y prog_9_method_2_code 4 none ∈ sl_T0 := sl_in1 912 (by decide +kernel) rfl
theorem pa_readFrom_w6 : pa_readFrom_y.cls ≠ "java/lang/invoke/MethodHandle" ∧ pa_readFrom_y.cls ≠ "java/lang/invoke/VarHandle" ∧ (parseMethodDescriptor pa_readFrom_y.desc).map (fun d => d.parameters.length) = some 1 := by decide +kernel
theorem cs_sx_261 (g : sl_G) {hh : Nat} (h : 5 ≤ hh) : sl_CallS g sl_R11 261 0 7 hh 2 pa_readFrom_pt := sl_callV (y := pa_readFrom_y) (T := sl_F7) (N := 4) (pa_readFrom_snd g) h (by decide) (sl_in1 909 (by decide +kernel) rfl) pa_readFrom_w2 pa_readFrom_w3 pa_readFrom_w4 pa_readFrom_w5 pa_readFrom_w6 rfl (by decide)
theorem pa_bringInto_w2 : Cond.instanceMethod pa_bringInto_y ∈ sl_T0 := sl_in1 921 (by decide +kernel) rfl
theorem pa_bringInto_w3 : Cond.selects pa_bringInto_y.cls pa_bringInto_y pa_bringInto_y ∈ sl_T0 := sl_in1 922 (by decide +kernel) rfl
theorem pa_bringInto_w4 : Cond.initialized pa_bringInto_y.cls ∈ sl_T0 := sl_in1 94 (by decide +kernel) rfl
theorem pa_bringInto_w5 : Cond.code pa_bringInto_y prog_9_method_3_code 5 (some .int) ∈ sl_T0 := sl_in1 923 (by decide +kernel) rfl
theorem pa_bringInto_w6 : pa_bringInto_y.cls ≠ "java/lang/invoke/MethodHandle" ∧ pa_bringInto_y.cls ≠ "java/lang/invoke/VarHandle" ∧ (parseMethodDescriptor pa_bringInto_y.desc).map (fun d => d.parameters.length) = some 1 := by decide +kernel
theorem cs_sx_262 (g : sl_G) {hh : Nat} (h : 6 ≤ hh) : sl_CallS g sl_R11 262 0 7 hh 2 pa_bringInto_pt := sl_callV (y := pa_bringInto_y) (T := sl_F7) (N := 4) (pa_bringInto_snd g) h (by decide) (sl_in1 920 (by decide +kernel) rfl) pa_bringInto_w2 pa_bringInto_w3 pa_bringInto_w4 pa_bringInto_w5 pa_bringInto_w6 rfl (by decide)
def sx_load_ct : List sl_Ct := [(2, 0, 7, pa_readFrom_pt), (1, 0, 10, tp_empty_pt), (2, 0, 7, pa_bringInto_pt)]
theorem sx_load_hc (g : sl_G) : sl_HC g sl_R11 6 sx_load_ct [(261, 0), (243, 0), (262, 0)] := sl_HC_cons (cs_sx_261 g (by decide)) (sl_HC_cons (cs_sx_243 g (by decide)) (sl_HC_cons (cs_sx_262 g (by decide)) (sl_HC_nil g sl_R11 6)))
set_option maxRecDepth 20000 in
set_option maxHeartbeats 2000000 in
theorem sx_load_snd (g : sl_G) : sl_Snd g sx_load_y prog_1_method_33_code 2 (some .int) 6 (sx_load_pt) := by
  intro As μ Q hw h
  unfold sx_load_pt at h
  split at h
  next c0 a0 =>
    split at h
    next e_ =>
      subst e_
      split at h
      next e_ =>
        subst e_
        refine sl_mk2 g [true, false] (cst := [some (.inr (.inr (some (11, 0))))]) (lv0 := [none, none]) (by decide) rfl hw rfl rfl rfl lk_sx_ok (sx_load_hc g) sx_load_tb rfl ?_
        intro X M
        exact ⟨_, sl_VV0, h⟩
      next => exact h.elim
    next => exact h.elim
  next => exact h.elim
def sx_spell (a1 : Int32) (μ : sl_M) (Q : Int32 → sl_M → Prop) : Prop := sx_isBelow a1 (5 : Int32) μ (fun r2 m1 => (r2 = (0 : Int32) → Q (-1 : Int32) m1) ∧ (¬ r2 = (0 : Int32) → pp_writeAll a1 m1 (fun m3 => Q (m3 54 1) m3)))
def sx_spell_pt : sl_PT := fun As μ Q => match As with
  | [.inr (.inr (some (c0, a0))), .inl a1] => if c0 = 11 then (if a0 = 0 then (sx_spell a1 μ (fun r μ' => Q (some (.inl r)) μ')) else False) else False
  | _ => False
def sx_spell_cd : List sl_Ent := [(0, .iload_n 1, 1, 0, [1], [], false), (1, .iconst 5, 1, 5, [], [], false), (2, .invokestatic 97, 3, 0, [0], [], false), (5, .ifCond .ne 5, 3, 0, [10], [], false), (8, .iconst (-1), 1, (-1), [], [], false), (9, .ireturn, 1, 0, [], [], false), (10, .aload_n 0, 1, 0, [0], [], false), (11, .getfield 67, 3, 0, [11, 8, 2, 6, 54], [], false), (14, .aload_n 0, 1, 0, [0], [], false), (15, .getfield 10, 3, 0, [11, 0, 2, 5, 1], [], false), (18, .iload_n 1, 1, 0, [1], [], false), (19, .invokevirtual 265, 3, 0, [1], [], false), (22, .aload_n 0, 1, 0, [0], [], false), (23, .getfield 67, 3, 0, [11, 8, 2, 6, 54], [], false), (26, .getfield 269, 3, 0, [6, 1, 0, 0, 0], [], false), (29, .ireturn, 1, 0, [], [], false)]
def sx_spell_y : MethodName := ⟨"SpanLayers", "spell", "(I)I"⟩
theorem sx_spell_tb : sl_tbOK sl_R11 prog_1_method_34_code 2 (some .int) lk_sx [(97, 1), (265, 0)] sx_spell_cd = true := by decide +kernel
theorem pp_writeAll_w2 : Cond.instanceMethod pp_writeAll_y ∈ sl_T0 := sl_in1 932 (by decide +kernel) rfl
theorem pp_writeAll_w3 : Cond.selects pp_writeAll_y.cls pp_writeAll_y pp_writeAll_y ∈ sl_T0 := sl_in1 933 (by decide +kernel) rfl
theorem pp_writeAll_w4 : Cond.initialized pp_writeAll_y.cls ∈ sl_T0 := sl_in1 95 (by decide +kernel) rfl
theorem pp_writeAll_w5 : Cond.code pp_writeAll_y prog_8_method_2_code 5 none ∈ sl_T0 := sl_in1 934 (by decide +kernel) rfl
theorem pp_writeAll_w6 : pp_writeAll_y.cls ≠ "java/lang/invoke/MethodHandle" ∧ pp_writeAll_y.cls ≠ "java/lang/invoke/VarHandle" ∧ (parseMethodDescriptor pp_writeAll_y.desc).map (fun d => d.parameters.length) = some 2 := by decide +kernel
theorem cs_sx_265 (g : sl_G) {hh : Nat} (h : 5 ≤ hh) : sl_CallS g sl_R11 265 0 6 hh 3 pp_writeAll_pt := sl_callV (y := pp_writeAll_y) (T := sl_F6) (N := 2) (pp_writeAll_snd g) h (by decide) (sl_in1 931 (by decide +kernel) rfl) pp_writeAll_w2 pp_writeAll_w3 pp_writeAll_w4 pp_writeAll_w5 pp_writeAll_w6 rfl (by decide)
def sx_spell_ct : List sl_Ct := [(2, 1, 0, sx_isBelow_pt), (3, 0, 6, pp_writeAll_pt)]
theorem sx_spell_hc (g : sl_G) : sl_HC g sl_R11 5 sx_spell_ct [(97, 1), (265, 0)] := sl_HC_cons (cs_sx_97 g (by decide)) (sl_HC_cons (cs_sx_265 g (by decide)) (sl_HC_nil g sl_R11 5))
set_option maxRecDepth 20000 in
set_option maxHeartbeats 2000000 in
theorem sx_spell_snd (g : sl_G) : sl_Snd g sx_spell_y prog_1_method_34_code 2 (some .int) 5 (sx_spell_pt) := by
  intro As μ Q hw h
  unfold sx_spell_pt at h
  split at h
  next c0 a0 a1 =>
    split at h
    next e_ =>
      subst e_
      split at h
      next e_ =>
        subst e_
        refine sl_mk2 g [true, true] (cst := [some (.inr (.inr (some (11, 0)))), some (.inl a1)]) (lv0 := [none, none]) (by decide) rfl hw rfl rfl rfl lk_sx_ok (sx_spell_hc g) sx_spell_tb rfl ?_
        intro X M
        exact ⟨_, sl_VV0, h⟩
      next => exact h.elim
    next => exact h.elim
  next => exact h.elim
def sx_paper (a1 : Int32) (μ : sl_M) (Q : Int32 → sl_M → Prop) : Prop := sx_isBelow a1 (μ 54 1) μ (fun r2 m1 => (r2 = (0 : Int32) → Q (-1 : Int32) m1) ∧ (¬ r2 = (0 : Int32) → vp_in a1 360 ∧ Q (m1 55 a1.toNatClampNeg) m1))
def sx_paper_pt : sl_PT := fun As μ Q => match As with
  | [.inr (.inr (some (c0, a0))), .inl a1] => if c0 = 11 then (if a0 = 0 then (sx_paper a1 μ (fun r μ' => Q (some (.inl r)) μ')) else False) else False
  | _ => False
def sx_paper_cd : List sl_Ent := [(0, .iload_n 1, 1, 0, [1], [], false), (1, .aload_n 0, 1, 0, [0], [], false), (2, .getfield 67, 3, 0, [11, 8, 2, 6, 54], [], false), (5, .getfield 269, 3, 0, [6, 1, 0, 0, 0], [], false), (8, .invokestatic 97, 3, 0, [0], [], false), (11, .ifCond .eq 15, 3, 0, [26], [], false), (14, .aload_n 0, 1, 0, [0], [], false), (15, .getfield 67, 3, 0, [11, 8, 2, 6, 54], [], false), (18, .getfield 270, 3, 0, [6, 0, 2, 20, 1], [], false), (21, .iload_n 1, 1, 0, [1], [], false), (22, .iaload, 1, 0, [], [], false), (23, .goto 4, 3, 0, [27], [], false), (26, .iconst (-1), 1, (-1), [], [], false), (27, .ireturn, 1, 0, [], [], false)]
def sx_paper_y : MethodName := ⟨"SpanLayers", "paper", "(I)I"⟩
theorem sx_paper_tb : sl_tbOK sl_R11 prog_1_method_35_code 2 (some .int) lk_sx [(97, 1)] sx_paper_cd = true := by decide +kernel
def sx_paper_ct : List sl_Ct := [(2, 1, 0, sx_isBelow_pt)]
theorem sx_paper_hc (g : sl_G) : sl_HC g sl_R11 1 sx_paper_ct [(97, 1)] := sl_HC_cons (cs_sx_97 g (by decide)) (sl_HC_nil g sl_R11 1)
set_option maxRecDepth 20000 in
set_option maxHeartbeats 2000000 in
theorem sx_paper_snd (g : sl_G) : sl_Snd g sx_paper_y prog_1_method_35_code 2 (some .int) 1 (sx_paper_pt) := by
  intro As μ Q hw h
  unfold sx_paper_pt at h
  split at h
  next c0 a0 a1 =>
    split at h
    next e_ =>
      subst e_
      split at h
      next e_ =>
        subst e_
        refine sl_mk2 g [true, true] (cst := [some (.inr (.inr (some (11, 0)))), some (.inl a1)]) (lv0 := [none, none]) (by decide) rfl hw rfl rfl rfl lk_sx_ok (sx_paper_hc g) sx_paper_tb rfl ?_
        intro X M
        exact ⟨_, sl_VV0, h⟩
      next => exact h.elim
    next => exact h.elim
  next => exact h.elim
def sx_told (a1 : Int32) (μ : sl_M) (Q : Int32 → sl_M → Prop) : Prop := (a1 = (0 : Int32) → ix_count μ (fun r2 m1 => Q r2 m1)) ∧ (¬ a1 = (0 : Int32) → (a1 = (1 : Int32) → sx_countOpen μ (fun r4 m3 => Q r4 m3)) ∧ (¬ a1 = (1 : Int32) → (a1 = (2 : Int32) → ix_countLayers μ (fun r6 m5 => Q r6 m5)) ∧ (¬ a1 = (2 : Int32) → (a1 = (3 : Int32) → ix_sumOfWeights μ (fun r8 m7 => Q r8 m7)) ∧ (¬ a1 = (3 : Int32) → (a1 = (4 : Int32) → ix_sumOfLengths μ (fun r10 m9 => Q r10 m9)) ∧ (¬ a1 = (4 : Int32) → (a1 = (5 : Int32) → Q (μ 43 1) μ) ∧ (¬ a1 = (5 : Int32) → (a1 = (6 : Int32) → Q (μ 54 1) μ) ∧ (¬ a1 = (6 : Int32) → (a1 = (7 : Int32) → ix_topPlace (0 : Int32) μ (fun r12 m11 => ix_heightAt r12 (0 : Int32) m11 (fun r14 m13 => Q r14 m13))) ∧ (¬ a1 = (7 : Int32) → (a1 = (8 : Int32) → ix_countHighs μ (fun r16 m15 => Q r16 m15)) ∧ (¬ a1 = (8 : Int32) → Q (-1 : Int32) μ)))))))))
def sx_told_pt : sl_PT := fun As μ Q => match As with
  | [.inr (.inr (some (c0, a0))), .inl a1] => if c0 = 11 then (if a0 = 0 then (sx_told a1 μ (fun r μ' => Q (some (.inl r)) μ')) else False) else False
  | _ => False
def sx_told_cd : List sl_Ent := [(0, .iload_n 1, 1, 0, [1], [], false), (1, .tableswitch 129 0 8 #[51, 59, 64, 72, 80, 88, 96, 104, 121], 51, 0, [130], [(0, 52), (1, 60), (2, 65), (3, 73), (4, 81), (5, 89), (6, 97), (7, 105), (8, 122)], false), (52, .aload_n 0, 1, 0, [0], [], false), (53, .getfield 10, 3, 0, [11, 0, 2, 5, 1], [], false), (56, .invokevirtual 109, 3, 0, [0], [], false), (59, .ireturn, 1, 0, [], [], false), (60, .aload_n 0, 1, 0, [0], [], false), (61, .invokevirtual 164, 3, 0, [1], [], false), (64, .ireturn, 1, 0, [], [], false), (65, .aload_n 0, 1, 0, [0], [], false), (66, .getfield 10, 3, 0, [11, 0, 2, 5, 1], [], false), (69, .invokevirtual 273, 3, 0, [2], [], false), (72, .ireturn, 1, 0, [], [], false), (73, .aload_n 0, 1, 0, [0], [], false), (74, .getfield 10, 3, 0, [11, 0, 2, 5, 1], [], false), (77, .invokevirtual 276, 3, 0, [3], [], false), (80, .ireturn, 1, 0, [], [], false), (81, .aload_n 0, 1, 0, [0], [], false), (82, .getfield 10, 3, 0, [11, 0, 2, 5, 1], [], false), (85, .invokevirtual 279, 3, 0, [4], [], false), (88, .ireturn, 1, 0, [], [], false), (89, .aload_n 0, 1, 0, [0], [], false), (90, .getfield 39, 3, 0, [11, 4, 2, 10, 43], [], false), (93, .getfield 240, 3, 0, [10, 1, 0, 0, 0], [], false), (96, .ireturn, 1, 0, [], [], false), (97, .aload_n 0, 1, 0, [0], [], false), (98, .getfield 67, 3, 0, [11, 8, 2, 6, 54], [], false), (101, .getfield 269, 3, 0, [6, 1, 0, 0, 0], [], false), (104, .ireturn, 1, 0, [], [], false), (105, .aload_n 0, 1, 0, [0], [], false), (106, .getfield 10, 3, 0, [11, 0, 2, 5, 1], [], false), (109, .aload_n 0, 1, 0, [0], [], false), (110, .getfield 10, 3, 0, [11, 0, 2, 5, 1], [], false), (113, .iconst 0, 1, 0, [], [], false), (114, .invokevirtual 210, 3, 0, [5], [], false), (117, .iconst 0, 1, 0, [], [], false), (118, .invokevirtual 207, 3, 0, [6], [], false), (121, .ireturn, 1, 0, [], [], false), (122, .aload_n 0, 1, 0, [0], [], false), (123, .getfield 10, 3, 0, [11, 0, 2, 5, 1], [], false), (126, .invokevirtual 228, 3, 0, [7], [], false), (129, .ireturn, 1, 0, [], [], false), (130, .iconst (-1), 1, (-1), [], [], false), (131, .ireturn, 1, 0, [], [], false)]
def sx_told_y : MethodName := ⟨"SpanLayers", "told", "(I)I"⟩
theorem sx_told_tb : sl_tbOK sl_R11 prog_1_method_36_code 2 (some .int) lk_sx [(109, 0), (164, 0), (273, 0), (276, 0), (279, 0), (210, 0), (207, 0), (228, 0)] sx_told_cd = true := by decide +kernel
theorem ix_countLayers_w2 : Cond.instanceMethod ix_countLayers_y ∈ sl_T0 := sl_in1 960 (by decide +kernel) rfl
theorem ix_countLayers_w3 : Cond.selects ix_countLayers_y.cls ix_countLayers_y ix_countLayers_y ∈ sl_T0 := sl_in1 961 (by decide +kernel) rfl
theorem ix_countLayers_w4 : Cond.initialized ix_countLayers_y.cls ∈ sl_T0 := sl_in1 87 (by decide +kernel) rfl
theorem ix_countLayers_w5 : Cond.code ix_countLayers_y prog_7_method_24_code 3 (some .int) ∈ sl_T0 := sl_in1 962 (by decide +kernel) rfl
theorem ix_countLayers_w6 : ix_countLayers_y.cls ≠ "java/lang/invoke/MethodHandle" ∧ ix_countLayers_y.cls ≠ "java/lang/invoke/VarHandle" ∧ (parseMethodDescriptor ix_countLayers_y.desc).map (fun d => d.parameters.length) = some 0 := by decide +kernel
theorem cs_sx_273 (g : sl_G) {hh : Nat} (h : 2 ≤ hh) : sl_CallS g sl_R11 273 0 5 hh 1 ix_countLayers_pt := sl_callV (y := ix_countLayers_y) (T := sl_F5) (N := 2) (ix_countLayers_snd g) h (by decide) (sl_in1 959 (by decide +kernel) rfl) ix_countLayers_w2 ix_countLayers_w3 ix_countLayers_w4 ix_countLayers_w5 ix_countLayers_w6 rfl (by decide)
theorem ix_sumOfWeights_w2 : Cond.instanceMethod ix_sumOfWeights_y ∈ sl_T0 := sl_in1 964 (by decide +kernel) rfl
theorem ix_sumOfWeights_w3 : Cond.selects ix_sumOfWeights_y.cls ix_sumOfWeights_y ix_sumOfWeights_y ∈ sl_T0 := sl_in1 965 (by decide +kernel) rfl
theorem ix_sumOfWeights_w4 : Cond.initialized ix_sumOfWeights_y.cls ∈ sl_T0 := sl_in1 87 (by decide +kernel) rfl
theorem ix_sumOfWeights_w5 : Cond.code ix_sumOfWeights_y prog_7_method_25_code 3 (some .int) ∈ sl_T0 := sl_in1 966 (by decide +kernel) rfl
theorem ix_sumOfWeights_w6 : ix_sumOfWeights_y.cls ≠ "java/lang/invoke/MethodHandle" ∧ ix_sumOfWeights_y.cls ≠ "java/lang/invoke/VarHandle" ∧ (parseMethodDescriptor ix_sumOfWeights_y.desc).map (fun d => d.parameters.length) = some 0 := by decide +kernel
theorem cs_sx_276 (g : sl_G) {hh : Nat} (h : 1 ≤ hh) : sl_CallS g sl_R11 276 0 5 hh 1 ix_sumOfWeights_pt := sl_callV (y := ix_sumOfWeights_y) (T := sl_F5) (N := 2) (ix_sumOfWeights_snd g) h (by decide) (sl_in1 963 (by decide +kernel) rfl) ix_sumOfWeights_w2 ix_sumOfWeights_w3 ix_sumOfWeights_w4 ix_sumOfWeights_w5 ix_sumOfWeights_w6 rfl (by decide)
theorem ix_sumOfLengths_w2 : Cond.instanceMethod ix_sumOfLengths_y ∈ sl_T0 := sl_in1 968 (by decide +kernel) rfl
theorem ix_sumOfLengths_w3 : Cond.selects ix_sumOfLengths_y.cls ix_sumOfLengths_y ix_sumOfLengths_y ∈ sl_T0 := sl_in1 969 (by decide +kernel) rfl
theorem ix_sumOfLengths_w4 : Cond.initialized ix_sumOfLengths_y.cls ∈ sl_T0 := sl_in1 87 (by decide +kernel) rfl
theorem ix_sumOfLengths_w5 : Cond.code ix_sumOfLengths_y prog_7_method_26_code 3 (some .int) ∈ sl_T0 := sl_in1 970 (by decide +kernel) rfl
theorem ix_sumOfLengths_w6 : ix_sumOfLengths_y.cls ≠ "java/lang/invoke/MethodHandle" ∧ ix_sumOfLengths_y.cls ≠ "java/lang/invoke/VarHandle" ∧ (parseMethodDescriptor ix_sumOfLengths_y.desc).map (fun d => d.parameters.length) = some 0 := by decide +kernel
theorem cs_sx_279 (g : sl_G) {hh : Nat} (h : 2 ≤ hh) : sl_CallS g sl_R11 279 0 5 hh 1 ix_sumOfLengths_pt := sl_callV (y := ix_sumOfLengths_y) (T := sl_F5) (N := 2) (ix_sumOfLengths_snd g) h (by decide) (sl_in1 967 (by decide +kernel) rfl) ix_sumOfLengths_w2 ix_sumOfLengths_w3 ix_sumOfLengths_w4 ix_sumOfLengths_w5 ix_sumOfLengths_w6 rfl (by decide)
def sx_told_ct : List sl_Ct := [(1, 0, 5, ix_count_pt), (1, 0, 11, sx_countOpen_pt), (1, 0, 5, ix_countLayers_pt), (1, 0, 5, ix_sumOfWeights_pt), (1, 0, 5, ix_sumOfLengths_pt), (2, 0, 5, ix_topPlace_pt), (3, 0, 5, ix_heightAt_pt), (1, 0, 5, ix_countHighs_pt)]
theorem sx_told_hc (g : sl_G) : sl_HC g sl_R11 5 sx_told_ct [(109, 0), (164, 0), (273, 0), (276, 0), (279, 0), (210, 0), (207, 0), (228, 0)] := sl_HC_cons (cs_sx_109 g (by decide)) (sl_HC_cons (cs_sx_164 g (by decide)) (sl_HC_cons (cs_sx_273 g (by decide)) (sl_HC_cons (cs_sx_276 g (by decide)) (sl_HC_cons (cs_sx_279 g (by decide)) (sl_HC_cons (cs_sx_210 g (by decide)) (sl_HC_cons (cs_sx_207 g (by decide)) (sl_HC_cons (cs_sx_228 g (by decide)) (sl_HC_nil g sl_R11 5))))))))
set_option maxRecDepth 20000 in
set_option maxHeartbeats 2000000 in
theorem sx_told_snd (g : sl_G) : sl_Snd g sx_told_y prog_1_method_36_code 2 (some .int) 5 (sx_told_pt) := by
  intro As μ Q hw h
  unfold sx_told_pt at h
  split at h
  next c0 a0 a1 =>
    split at h
    next e_ =>
      subst e_
      split at h
      next e_ =>
        subst e_
        refine sl_mk2 g [true, true] (cst := [some (.inr (.inr (some (11, 0)))), some (.inl a1)]) (lv0 := [none, none]) (by decide) rfl hw rfl rfl rfl lk_sx_ok (sx_told_hc g) sx_told_tb rfl ?_
        intro X M
        exact ⟨_, sl_VV0, h⟩
      next => exact h.elim
    next => exact h.elim
  next => exact h.elim
def sx_list (a1 : Int32) (a2 : Int32) (μ : sl_M) (Q : Int32 → sl_M → Prop) : Prop := sx_isBelow a1 (4 : Int32) μ (fun r2 m1 => (r2 = (0 : Int32) → Q (-1 : Int32) m1) ∧ (¬ r2 = (0 : Int32) → (a2 ≤ (40 : Int32) → (a2 < (0 : Int32) → Q (-14 : Int32) m1) ∧ (¬ a2 < (0 : Int32) → vp_in a1 4 ∧ ro_begin (96 + 2 * a1.toNatClampNeg) a2 m1 (fun m3 => Q (1 : Int32) m3))) ∧ (¬ a2 ≤ (40 : Int32) → Q (-2 : Int32) m1)))
def sx_list_pt : sl_PT := fun As μ Q => match As with
  | [.inr (.inr (some (c0, a0))), .inl a1, .inl a2] => if c0 = 11 then (if a0 = 0 then (sx_list a1 a2 μ (fun r μ' => Q (some (.inl r)) μ')) else False) else False
  | _ => False
def sx_list_cd : List sl_Ent := [(0, .iload_n 1, 1, 0, [1], [], false), (1, .iconst 4, 1, 4, [], [], false), (2, .invokestatic 97, 3, 0, [0], [], false), (5, .ifCond .ne 5, 3, 0, [10], [], false), (8, .iconst (-1), 1, (-1), [], [], false), (9, .ireturn, 1, 0, [], [], false), (10, .iload_n 2, 1, 0, [2], [], false), (11, .bipush 40, 2, 40, [], [], false), (13, .if_icmp .le 6, 3, 0, [19], [], false), (16, .bipush (-2), 2, (-2), [], [], false), (18, .ireturn, 1, 0, [], [], false), (19, .iload_n 2, 1, 0, [2], [], false), (20, .ifCond .ge 6, 3, 0, [26], [], false), (23, .bipush (-14), 2, (-14), [], [], false), (25, .ireturn, 1, 0, [], [], false), (26, .aload_n 0, 1, 0, [0], [], false), (27, .getfield 73, 3, 0, [11, 9, 2, 25, 56], [], false), (30, .iload_n 1, 1, 0, [1], [], false), (31, .aaload, 1, 0, [], [], false), (32, .iload_n 2, 1, 0, [2], [], false), (33, .invokevirtual 282, 3, 0, [1], [], false), (36, .iconst 1, 1, 1, [], [], false), (37, .ireturn, 1, 0, [], [], false)]
def sx_list_y : MethodName := ⟨"SpanLayers", "list", "(II)I"⟩
theorem sx_list_tb : sl_tbOK sl_R11 prog_1_method_37_code 3 (some .int) lk_sx [(97, 1), (282, 0)] sx_list_cd = true := by decide +kernel
theorem ro_begin_w2 : Cond.instanceMethod ro_begin_y ∈ sl_T0 := sl_in1 976 (by decide +kernel) rfl
theorem ro_begin_w3 : Cond.selects ro_begin_y.cls ro_begin_y ro_begin_y ∈ sl_T0 := sl_in1 977 (by decide +kernel) rfl
theorem ro_begin_w4 : Cond.initialized ro_begin_y.cls ∈ sl_T0 := sl_in1 97 (by decide +kernel) rfl
theorem ro_begin_w5 : Cond.code ro_begin_y prog_10_method_2_code 3 none ∈ sl_T0 := sl_in1 978 (by decide +kernel) rfl
theorem ro_begin_w6 : ro_begin_y.cls ≠ "java/lang/invoke/MethodHandle" ∧ ro_begin_y.cls ≠ "java/lang/invoke/VarHandle" ∧ (parseMethodDescriptor ro_begin_y.desc).map (fun d => d.parameters.length) = some 1 := by decide +kernel
theorem cs_sx_282 (g : sl_G) {hh : Nat} (h : 1 ≤ hh) : sl_CallS g sl_R11 282 0 8 hh 2 ro_begin_pt := sl_callV (y := ro_begin_y) (T := sl_F8) (N := 3) (ro_begin_snd g) h (by decide) (sl_in1 975 (by decide +kernel) rfl) ro_begin_w2 ro_begin_w3 ro_begin_w4 ro_begin_w5 ro_begin_w6 rfl (by decide)
def sx_list_ct : List sl_Ct := [(2, 1, 0, sx_isBelow_pt), (2, 0, 8, ro_begin_pt)]
theorem sx_list_hc (g : sl_G) : sl_HC g sl_R11 1 sx_list_ct [(97, 1), (282, 0)] := sl_HC_cons (cs_sx_97 g (by decide)) (sl_HC_cons (cs_sx_282 g (by decide)) (sl_HC_nil g sl_R11 1))
set_option maxRecDepth 20000 in
set_option maxHeartbeats 2000000 in
theorem sx_list_snd (g : sl_G) : sl_Snd g sx_list_y prog_1_method_37_code 3 (some .int) 1 (sx_list_pt) := by
  intro As μ Q hw h
  unfold sx_list_pt at h
  split at h
  next c0 a0 a1 a2 =>
    split at h
    next e_ =>
      subst e_
      split at h
      next e_ =>
        subst e_
        refine sl_mk2 g [true, true, true] (cst := [some (.inr (.inr (some (11, 0)))), some (.inl a1), some (.inl a2)]) (lv0 := [none, none, none]) (by decide) rfl hw rfl rfl rfl lk_sx_ok (sx_list_hc g) sx_list_tb rfl ?_
        intro X M
        exact ⟨_, sl_VV0, h⟩
      next => exact h.elim
    next => exact h.elim
  next => exact h.elim
def sx_set (a1 : Int32) (a2 : Int32) (a3 : Int32) (μ : sl_M) (Q : Int32 → sl_M → Prop) : Prop := sx_isBelow a1 (4 : Int32) μ (fun r2 m1 => (r2 = (0 : Int32) → Q (-1 : Int32) m1) ∧ (¬ r2 = (0 : Int32) → vp_in a1 4 ∧ ((sl_bz (m1 (96 + 2 * a1.toNatClampNeg) 1)) = (0 : Int32) → Q (-11 : Int32) m1) ∧ (¬ (sl_bz (m1 (96 + 2 * a1.toNatClampNeg) 1)) = (0 : Int32) → vp_in a1 4 ∧ ro_write (96 + 2 * a1.toNatClampNeg) a2 a3 m1 (fun r4 m3 => (r4 = (0 : Int32) → Q (-13 : Int32) m3) ∧ (¬ r4 = (0 : Int32) → Q (1 : Int32) m3)))))
def sx_set_pt : sl_PT := fun As μ Q => match As with
  | [.inr (.inr (some (c0, a0))), .inl a1, .inl a2, .inl a3] => if c0 = 11 then (if a0 = 0 then (sx_set a1 a2 a3 μ (fun r μ' => Q (some (.inl r)) μ')) else False) else False
  | _ => False
def sx_set_cd : List sl_Ent := [(0, .iload_n 1, 1, 0, [1], [], false), (1, .iconst 4, 1, 4, [], [], false), (2, .invokestatic 97, 3, 0, [0], [], false), (5, .ifCond .ne 5, 3, 0, [10], [], false), (8, .iconst (-1), 1, (-1), [], [], false), (9, .ireturn, 1, 0, [], [], false), (10, .aload_n 0, 1, 0, [0], [], false), (11, .getfield 73, 3, 0, [11, 9, 2, 25, 56], [], false), (14, .iload_n 1, 1, 0, [1], [], false), (15, .aaload, 1, 0, [], [], false), (16, .getfield 283, 3, 0, [8, 1, 1, 0, 0], [], false), (19, .ifCond .ne 6, 3, 0, [25], [], false), (22, .bipush (-11), 2, (-11), [], [], false), (24, .ireturn, 1, 0, [], [], false), (25, .aload_n 0, 1, 0, [0], [], false), (26, .getfield 73, 3, 0, [11, 9, 2, 25, 56], [], false), (29, .iload_n 1, 1, 0, [1], [], false), (30, .aaload, 1, 0, [], [], false), (31, .iload_n 2, 1, 0, [2], [], false), (32, .iload_n 3, 1, 0, [3], [], false), (33, .invokevirtual 286, 3, 0, [1], [], false), (36, .ifCond .eq 7, 3, 0, [43], [], false), (39, .iconst 1, 1, 1, [], [], false), (40, .goto 5, 3, 0, [45], [], false), (43, .bipush (-13), 2, (-13), [], [], false), (45, .ireturn, 1, 0, [], [], false)]
def sx_set_y : MethodName := ⟨"SpanLayers", "set", "(III)I"⟩
theorem sx_set_tb : sl_tbOK sl_R11 prog_1_method_38_code 4 (some .int) lk_sx [(97, 1), (286, 0)] sx_set_cd = true := by decide +kernel
theorem ro_write_w2 : Cond.instanceMethod ro_write_y ∈ sl_T0 := sl_in1 984 (by decide +kernel) rfl
theorem ro_write_w3 : Cond.selects ro_write_y.cls ro_write_y ro_write_y ∈ sl_T0 := sl_in1 985 (by decide +kernel) rfl
theorem ro_write_w4 : Cond.initialized ro_write_y.cls ∈ sl_T0 := sl_in1 97 (by decide +kernel) rfl
theorem ro_write_w5 : Cond.code ro_write_y prog_10_method_4_code 3 (some .boolean) ∈ sl_T0 := sl_in1 986 (by decide +kernel) rfl
theorem ro_write_w6 : ro_write_y.cls ≠ "java/lang/invoke/MethodHandle" ∧ ro_write_y.cls ≠ "java/lang/invoke/VarHandle" ∧ (parseMethodDescriptor ro_write_y.desc).map (fun d => d.parameters.length) = some 2 := by decide +kernel
theorem cs_sx_286 (g : sl_G) {hh : Nat} (h : 3 ≤ hh) : sl_CallS g sl_R11 286 0 8 hh 3 ro_write_pt := sl_callV (y := ro_write_y) (T := sl_F8) (N := 3) (ro_write_snd g) h (by decide) (sl_in1 983 (by decide +kernel) rfl) ro_write_w2 ro_write_w3 ro_write_w4 ro_write_w5 ro_write_w6 rfl (by decide)
def sx_set_ct : List sl_Ct := [(2, 1, 0, sx_isBelow_pt), (3, 0, 8, ro_write_pt)]
theorem sx_set_hc (g : sl_G) : sl_HC g sl_R11 3 sx_set_ct [(97, 1), (286, 0)] := sl_HC_cons (cs_sx_97 g (by decide)) (sl_HC_cons (cs_sx_286 g (by decide)) (sl_HC_nil g sl_R11 3))
set_option maxRecDepth 20000 in
set_option maxHeartbeats 2000000 in
theorem sx_set_snd (g : sl_G) : sl_Snd g sx_set_y prog_1_method_38_code 4 (some .int) 3 (sx_set_pt) := by
  intro As μ Q hw h
  unfold sx_set_pt at h
  split at h
  next c0 a0 a1 a2 a3 =>
    split at h
    next e_ =>
      subst e_
      split at h
      next e_ =>
        subst e_
        refine sl_mk2 g [true, true, true, true] (cst := [some (.inr (.inr (some (11, 0)))), some (.inl a1), some (.inl a2), some (.inl a3)]) (lv0 := [none, none, none, none]) (by decide) rfl hw rfl rfl rfl lk_sx_ok (sx_set_hc g) sx_set_tb rfl ?_
        intro X M
        exact ⟨_, sl_VV0, h⟩
      next => exact h.elim
    next => exact h.elim
  next => exact h.elim
def sx_get (a1 : Int32) (a2 : Int32) (μ : sl_M) (Q : Int32 → sl_M → Prop) : Prop := sx_isBelow a1 (4 : Int32) μ (fun r2 m1 => (r2 = (0 : Int32) → Q (-2000000000 : Int32) m1) ∧ (¬ r2 = (0 : Int32) → vp_in a1 4 ∧ ((sl_bz (m1 (96 + 2 * a1.toNatClampNeg) 1)) = (0 : Int32) → Q (-2000000000 : Int32) m1) ∧ (¬ (sl_bz (m1 (96 + 2 * a1.toNatClampNeg) 1)) = (0 : Int32) → vp_in a1 4 ∧ ro_hasPlace (96 + 2 * a1.toNatClampNeg) a2 m1 (fun r4 m3 => (r4 = (0 : Int32) → Q (-2000000000 : Int32) m3) ∧ (¬ r4 = (0 : Int32) → vp_in a1 4 ∧ vp_in a2 (sl_len ((96 + 2 * a1.toNatClampNeg) + 1)) ∧ Q (m3 ((96 + 2 * a1.toNatClampNeg) + 1) a2.toNatClampNeg) m3)))))
def sx_get_pt : sl_PT := fun As μ Q => match As with
  | [.inr (.inr (some (c0, a0))), .inl a1, .inl a2] => if c0 = 11 then (if a0 = 0 then (sx_get a1 a2 μ (fun r μ' => Q (some (.inl r)) μ')) else False) else False
  | _ => False
def sx_get_cd : List sl_Ent := [(0, .iload_n 1, 1, 0, [1], [], false), (1, .iconst 4, 1, 4, [], [], false), (2, .invokestatic 97, 3, 0, [0], [], false), (5, .ifCond .eq 28, 3, 0, [33], [], false), (8, .aload_n 0, 1, 0, [0], [], false), (9, .getfield 73, 3, 0, [11, 9, 2, 25, 56], [], false), (12, .iload_n 1, 1, 0, [1], [], false), (13, .aaload, 1, 0, [], [], false), (14, .getfield 283, 3, 0, [8, 1, 1, 0, 0], [], false), (17, .ifCond .eq 16, 3, 0, [33], [], false), (20, .aload_n 0, 1, 0, [0], [], false), (21, .getfield 73, 3, 0, [11, 9, 2, 25, 56], [], false), (24, .iload_n 1, 1, 0, [1], [], false), (25, .aaload, 1, 0, [], [], false), (26, .iload_n 2, 1, 0, [2], [], false), (27, .invokevirtual 289, 3, 0, [1], [], false), (30, .ifCond .ne 7, 3, 0, [37], [], false), (33, .ldc_w 292, 3, (-2000000000), [], [], false), (36, .ireturn, 1, 0, [], [], false), (37, .aload_n 0, 1, 0, [0], [], false), (38, .getfield 73, 3, 0, [11, 9, 2, 25, 56], [], false), (41, .iload_n 1, 1, 0, [1], [], false), (42, .aaload, 1, 0, [], [], false), (43, .getfield 293, 3, 0, [8, 0, 2, 20, 1], [], false), (46, .iload_n 2, 1, 0, [2], [], false), (47, .iaload, 1, 0, [], [], false), (48, .ireturn, 1, 0, [], [], false)]
def sx_get_y : MethodName := ⟨"SpanLayers", "get", "(II)I"⟩
theorem sx_get_tb : sl_tbOK sl_R11 prog_1_method_39_code 3 (some .int) lk_sx [(97, 1), (289, 0)] sx_get_cd = true := by decide +kernel
theorem cs_sx_289 (g : sl_G) {hh : Nat} (h : 2 ≤ hh) : sl_CallS g sl_R11 289 0 8 hh 2 ro_hasPlace_pt := sl_callV (y := ro_hasPlace_y) (T := sl_F8) (N := 3) (ro_hasPlace_snd g) h (by decide) (sl_in1 996 (by decide +kernel) rfl) ro_hasPlace_w2 ro_hasPlace_w3 ro_hasPlace_w4 ro_hasPlace_w5 ro_hasPlace_w6 rfl (by decide)
def sx_get_ct : List sl_Ct := [(2, 1, 0, sx_isBelow_pt), (2, 0, 8, ro_hasPlace_pt)]
theorem sx_get_hc (g : sl_G) : sl_HC g sl_R11 2 sx_get_ct [(97, 1), (289, 0)] := sl_HC_cons (cs_sx_97 g (by decide)) (sl_HC_cons (cs_sx_289 g (by decide)) (sl_HC_nil g sl_R11 2))
set_option maxRecDepth 20000 in
set_option maxHeartbeats 2000000 in
theorem sx_get_snd (g : sl_G) : sl_Snd g sx_get_y prog_1_method_39_code 3 (some .int) 2 (sx_get_pt) := by
  intro As μ Q hw h
  unfold sx_get_pt at h
  split at h
  next c0 a0 a1 a2 =>
    split at h
    next e_ =>
      subst e_
      split at h
      next e_ =>
        subst e_
        refine sl_mk2 g [true, true, true] (cst := [some (.inr (.inr (some (11, 0)))), some (.inl a1), some (.inl a2)]) (lv0 := [none, none, none]) (by decide) rfl hw rfl rfl rfl lk_sx_ok (sx_get_hc g) sx_get_tb rfl ?_
        intro X M
        exact ⟨_, sl_VV0, h⟩
      next => exact h.elim
    next => exact h.elim
  next => exact h.elim
def sx_lay_L46 (a1 : Int32) (a2 : Int32) (a3 : Int32) (Q : Int32 → sl_M → Prop) : Nat → Int32 → Int32 → sl_M → Prop
  | 0, _, _, _ => False
  | n + 1, x4, x5, μ => (x5 < x4 → vp_in a1 4 ∧ vp_in x5 30 ∧ sl_kd (μ 3 x5.toNatClampNeg).toNatClampNeg = 9 ∧ ro_write (96 + 2 * a1.toNatClampNeg) (a2 + x5) (μ ((μ 3 x5.toNatClampNeg).toNatClampNeg) 0) μ (fun r2 m1 => (r2 = (0 : Int32) → Q (-13 : Int32) m1) ∧ (¬ r2 = (0 : Int32) → (sx_lay_L46 a1 a2 a3 Q n) x4 (x5 + (1 : Int32)) m1))) ∧ (¬ x5 < x4 → Q x4 μ)
def sx_lay (a1 : Int32) (a2 : Int32) (a3 : Int32) (μ : sl_M) (Q : Int32 → sl_M → Prop) : Prop := sx_isBelow a1 (4 : Int32) μ (fun r4 m3 => (r4 = (0 : Int32) → Q (-1 : Int32) m3) ∧ (¬ r4 = (0 : Int32) → sx_isBelow a3 (5 : Int32) m3 (fun r6 m5 => (r6 = (0 : Int32) → Q (-1 : Int32) m5) ∧ (¬ r6 = (0 : Int32) → vp_in a1 4 ∧ ((sl_bz (m5 (96 + 2 * a1.toNatClampNeg) 1)) = (0 : Int32) → Q (-11 : Int32) m5) ∧ (¬ (sl_bz (m5 (96 + 2 * a1.toNatClampNeg) 1)) = (0 : Int32) → ix_sortBy a3 m5 (fun r8 m7 => ∃ n9, sx_lay_L46 a1 a2 a3 Q n9 r8 (0 : Int32) m7))))))
def sx_lay_pt : sl_PT := fun As μ Q => match As with
  | [.inr (.inr (some (c0, a0))), .inl a1, .inl a2, .inl a3] => if c0 = 11 then (if a0 = 0 then (sx_lay a1 a2 a3 μ (fun r μ' => Q (some (.inl r)) μ')) else False) else False
  | _ => False
def sx_lay_cd : List sl_Ent := [(0, .iload_n 1, 1, 0, [1], [], false), (1, .iconst 4, 1, 4, [], [], false), (2, .invokestatic 97, 3, 0, [0], [], false), (5, .ifCond .eq 11, 3, 0, [16], [], false), (8, .iload_n 3, 1, 0, [3], [], false), (9, .iconst 5, 1, 5, [], [], false), (10, .invokestatic 97, 3, 0, [0], [], false), (13, .ifCond .ne 5, 3, 0, [18], [], false), (16, .iconst (-1), 1, (-1), [], [], false), (17, .ireturn, 1, 0, [], [], false), (18, .aload_n 0, 1, 0, [0], [], false), (19, .getfield 73, 3, 0, [11, 9, 2, 25, 56], [], false), (22, .iload_n 1, 1, 0, [1], [], false), (23, .aaload, 1, 0, [], [], false), (24, .getfield 283, 3, 0, [8, 1, 1, 0, 0], [], false), (27, .ifCond .ne 6, 3, 0, [33], [], false), (30, .bipush (-11), 2, (-11), [], [], false), (32, .ireturn, 1, 0, [], [], false), (33, .aload_n 0, 1, 0, [0], [], false), (34, .getfield 10, 3, 0, [11, 0, 2, 5, 1], [], false), (37, .iload_n 3, 1, 0, [3], [], false), (38, .invokevirtual 144, 3, 0, [1], [], false), (41, .istore 4, 2, 0, [4], [], false), (43, .iconst 0, 1, 0, [], [], false), (44, .istore 5, 2, 0, [5], [], false), (46, .iload 5, 2, 0, [5], [], true), (48, .iload 4, 2, 0, [4], [], false), (50, .if_icmp .ge 41, 3, 0, [91], [], false), (53, .aload_n 0, 1, 0, [0], [], false), (54, .getfield 73, 3, 0, [11, 9, 2, 25, 56], [], false), (57, .iload_n 1, 1, 0, [1], [], false), (58, .aaload, 1, 0, [], [], false), (59, .iload_n 2, 1, 0, [2], [], false), (60, .iload 5, 2, 0, [5], [], false), (62, .iadd, 1, 0, [], [], false), (63, .aload_n 0, 1, 0, [0], [], false), (64, .getfield 10, 3, 0, [11, 0, 2, 5, 1], [], false), (67, .getfield 147, 3, 0, [5, 1, 2, 23, 2], [], false), (70, .iload 5, 2, 0, [5], [], false), (72, .aaload, 1, 0, [], [], false), (73, .getfield 150, 3, 0, [9, 0, 0, 0, 0], [], false), (76, .invokevirtual 286, 3, 0, [2], [], false), (79, .ifCond .ne 6, 3, 0, [85], [], false), (82, .bipush (-13), 2, (-13), [], [], false), (84, .ireturn, 1, 0, [], [], false), (85, .iinc 5 1, 3, 1, [], [], false), (88, .goto (-42), 3, 0, [46], [], false), (91, .iload 4, 2, 0, [4], [], false), (93, .ireturn, 1, 0, [], [], false)]
def sx_lay_y : MethodName := ⟨"SpanLayers", "lay", "(III)I"⟩
theorem sx_lay_tb : sl_tbOK sl_R11 prog_1_method_40_code 6 (some .int) lk_sx [(97, 1), (144, 0), (286, 0)] sx_lay_cd = true := by decide +kernel
def sx_lay_ct : List sl_Ct := [(2, 1, 0, sx_isBelow_pt), (2, 0, 5, ix_sortBy_pt), (3, 0, 8, ro_write_pt)]
theorem sx_lay_hc (g : sl_G) : sl_HC g sl_R11 4 sx_lay_ct [(97, 1), (144, 0), (286, 0)] := sl_HC_cons (cs_sx_97 g (by decide)) (sl_HC_cons (cs_sx_144 g (by decide)) (sl_HC_cons (cs_sx_286 g (by decide)) (sl_HC_nil g sl_R11 4)))
set_option maxRecDepth 20000 in
set_option maxHeartbeats 2000000 in
theorem sx_lay_snd (g : sl_G) : sl_Snd g sx_lay_y prog_1_method_40_code 6 (some .int) 4 (sx_lay_pt) := by
  intro As μ Q hw h
  unfold sx_lay_pt at h
  split at h
  next c0 a0 a1 a2 a3 =>
    split at h
    next e_ =>
      subst e_
      split at h
      next e_ =>
        subst e_
        refine sl_mk2 g [true, true, true, true, false, false] (cst := [some (.inr (.inr (some (11, 0)))), some (.inl a1), some (.inl a2), some (.inl a3)]) (lv0 := [none, none, none, none, none, none]) (by decide) rfl hw rfl rfl rfl lk_sx_ok (sx_lay_hc g) sx_lay_tb rfl ?_
        intro X M
        have v46 := sl_extL M sl_VV0 46 (fun n lv st μ => match lv, st with | [_, _, _, _, some (.inl x4), some (.inl x5)], [] => sx_lay_L46 a1 a2 a3 (fun r μ' => Q (some (.inl r)) μ') n x4 x5 μ | _, _ => False) (by
            intro lv st μ h
            split at h
            · exact h
            · exact h) (by
            intro n46 w46
            refine ⟨_, w46, ?_⟩
            intro lv st μ h
            split at h
            · exact h
            · exact h.elim)
        exact ⟨_, v46, h⟩
      next => exact h.elim
    next => exact h.elim
  next => exact h.elim
def sx_judge_L46 (a1 : Int32) (a2 : Int32) (a3 : Int32) (Q : Int32 → sl_M → Prop) : Nat → Int32 → Int32 → sl_M → Prop
  | 0, _, _, _ => False
  | n + 1, x4, x5, μ => (x5 < x4 → vp_in a1 4 ∧ ro_hasPlace (96 + 2 * a1.toNatClampNeg) (a2 + x5) μ (fun r2 m1 => (r2 = (0 : Int32) → Q ((100 : Int32) + x5) m1) ∧ (¬ r2 = (0 : Int32) → vp_in a1 4 ∧ vp_in (a2 + x5) (sl_len ((96 + 2 * a1.toNatClampNeg) + 1)) ∧ vp_in x5 30 ∧ sl_kd (m1 3 x5.toNatClampNeg).toNatClampNeg = 9 ∧ ((m1 ((96 + 2 * a1.toNatClampNeg) + 1) (a2 + x5).toNatClampNeg) = (m1 ((m1 3 x5.toNatClampNeg).toNatClampNeg) 0) → (sx_judge_L46 a1 a2 a3 Q n) x4 (x5 + (1 : Int32)) m1) ∧ (¬ (m1 ((96 + 2 * a1.toNatClampNeg) + 1) (a2 + x5).toNatClampNeg) = (m1 ((m1 3 x5.toNatClampNeg).toNatClampNeg) 0) → Q x5 m1)))) ∧ (¬ x5 < x4 → Q (-5 : Int32) μ)
def sx_judge (a1 : Int32) (a2 : Int32) (a3 : Int32) (μ : sl_M) (Q : Int32 → sl_M → Prop) : Prop := sx_isBelow a1 (4 : Int32) μ (fun r4 m3 => (r4 = (0 : Int32) → Q (-1 : Int32) m3) ∧ (¬ r4 = (0 : Int32) → sx_isBelow a3 (5 : Int32) m3 (fun r6 m5 => (r6 = (0 : Int32) → Q (-1 : Int32) m5) ∧ (¬ r6 = (0 : Int32) → vp_in a1 4 ∧ ((sl_bz (m5 (96 + 2 * a1.toNatClampNeg) 1)) = (0 : Int32) → Q (-11 : Int32) m5) ∧ (¬ (sl_bz (m5 (96 + 2 * a1.toNatClampNeg) 1)) = (0 : Int32) → ix_sortBy a3 m5 (fun r8 m7 => ∃ n9, sx_judge_L46 a1 a2 a3 Q n9 r8 (0 : Int32) m7))))))
def sx_judge_pt : sl_PT := fun As μ Q => match As with
  | [.inr (.inr (some (c0, a0))), .inl a1, .inl a2, .inl a3] => if c0 = 11 then (if a0 = 0 then (sx_judge a1 a2 a3 μ (fun r μ' => Q (some (.inl r)) μ')) else False) else False
  | _ => False
def sx_judge_cd : List sl_Ent := [(0, .iload_n 1, 1, 0, [1], [], false), (1, .iconst 4, 1, 4, [], [], false), (2, .invokestatic 97, 3, 0, [0], [], false), (5, .ifCond .eq 11, 3, 0, [16], [], false), (8, .iload_n 3, 1, 0, [3], [], false), (9, .iconst 5, 1, 5, [], [], false), (10, .invokestatic 97, 3, 0, [0], [], false), (13, .ifCond .ne 5, 3, 0, [18], [], false), (16, .iconst (-1), 1, (-1), [], [], false), (17, .ireturn, 1, 0, [], [], false), (18, .aload_n 0, 1, 0, [0], [], false), (19, .getfield 73, 3, 0, [11, 9, 2, 25, 56], [], false), (22, .iload_n 1, 1, 0, [1], [], false), (23, .aaload, 1, 0, [], [], false), (24, .getfield 283, 3, 0, [8, 1, 1, 0, 0], [], false), (27, .ifCond .ne 6, 3, 0, [33], [], false), (30, .bipush (-11), 2, (-11), [], [], false), (32, .ireturn, 1, 0, [], [], false), (33, .aload_n 0, 1, 0, [0], [], false), (34, .getfield 10, 3, 0, [11, 0, 2, 5, 1], [], false), (37, .iload_n 3, 1, 0, [3], [], false), (38, .invokevirtual 144, 3, 0, [1], [], false), (41, .istore 4, 2, 0, [4], [], false), (43, .iconst 0, 1, 0, [], [], false), (44, .istore 5, 2, 0, [5], [], false), (46, .iload 5, 2, 0, [5], [], true), (48, .iload 4, 2, 0, [4], [], false), (50, .if_icmp .ge 64, 3, 0, [114], [], false), (53, .aload_n 0, 1, 0, [0], [], false), (54, .getfield 73, 3, 0, [11, 9, 2, 25, 56], [], false), (57, .iload_n 1, 1, 0, [1], [], false), (58, .aaload, 1, 0, [], [], false), (59, .iload_n 2, 1, 0, [2], [], false), (60, .iload 5, 2, 0, [5], [], false), (62, .iadd, 1, 0, [], [], false), (63, .invokevirtual 289, 3, 0, [2], [], false), (66, .ifCond .ne 9, 3, 0, [75], [], false), (69, .bipush 100, 2, 100, [], [], false), (71, .iload 5, 2, 0, [5], [], false), (73, .iadd, 1, 0, [], [], false), (74, .ireturn, 1, 0, [], [], false), (75, .aload_n 0, 1, 0, [0], [], false), (76, .getfield 73, 3, 0, [11, 9, 2, 25, 56], [], false), (79, .iload_n 1, 1, 0, [1], [], false), (80, .aaload, 1, 0, [], [], false), (81, .getfield 293, 3, 0, [8, 0, 2, 20, 1], [], false), (84, .iload_n 2, 1, 0, [2], [], false), (85, .iload 5, 2, 0, [5], [], false), (87, .iadd, 1, 0, [], [], false), (88, .iaload, 1, 0, [], [], false), (89, .aload_n 0, 1, 0, [0], [], false), (90, .getfield 10, 3, 0, [11, 0, 2, 5, 1], [], false), (93, .getfield 147, 3, 0, [5, 1, 2, 23, 2], [], false), (96, .iload 5, 2, 0, [5], [], false), (98, .aaload, 1, 0, [], [], false), (99, .getfield 150, 3, 0, [9, 0, 0, 0, 0], [], false), (102, .if_icmp .eq 6, 3, 0, [108], [], false), (105, .iload 5, 2, 0, [5], [], false), (107, .ireturn, 1, 0, [], [], false), (108, .iinc 5 1, 3, 1, [], [], false), (111, .goto (-65), 3, 0, [46], [], false), (114, .bipush (-5), 2, (-5), [], [], false), (116, .ireturn, 1, 0, [], [], false)]
def sx_judge_y : MethodName := ⟨"SpanLayers", "judge", "(III)I"⟩
theorem sx_judge_tb : sl_tbOK sl_R11 prog_1_method_41_code 6 (some .int) lk_sx [(97, 1), (144, 0), (289, 0)] sx_judge_cd = true := by decide +kernel
def sx_judge_ct : List sl_Ct := [(2, 1, 0, sx_isBelow_pt), (2, 0, 5, ix_sortBy_pt), (2, 0, 8, ro_hasPlace_pt)]
theorem sx_judge_hc (g : sl_G) : sl_HC g sl_R11 4 sx_judge_ct [(97, 1), (144, 0), (289, 0)] := sl_HC_cons (cs_sx_97 g (by decide)) (sl_HC_cons (cs_sx_144 g (by decide)) (sl_HC_cons (cs_sx_289 g (by decide)) (sl_HC_nil g sl_R11 4)))
set_option maxRecDepth 20000 in
set_option maxHeartbeats 2000000 in
theorem sx_judge_snd (g : sl_G) : sl_Snd g sx_judge_y prog_1_method_41_code 6 (some .int) 4 (sx_judge_pt) := by
  intro As μ Q hw h
  unfold sx_judge_pt at h
  split at h
  next c0 a0 a1 a2 a3 =>
    split at h
    next e_ =>
      subst e_
      split at h
      next e_ =>
        subst e_
        refine sl_mk2 g [true, true, true, true, false, false] (cst := [some (.inr (.inr (some (11, 0)))), some (.inl a1), some (.inl a2), some (.inl a3)]) (lv0 := [none, none, none, none, none, none]) (by decide) rfl hw rfl rfl rfl lk_sx_ok (sx_judge_hc g) sx_judge_tb rfl ?_
        intro X M
        have v46 := sl_extL M sl_VV0 46 (fun n lv st μ => match lv, st with | [_, _, _, _, some (.inl x4), some (.inl x5)], [] => sx_judge_L46 a1 a2 a3 (fun r μ' => Q (some (.inl r)) μ') n x4 x5 μ | _, _ => False) (by
            intro lv st μ h
            split at h
            · exact h
            · exact h) (by
            intro n46 w46
            refine ⟨_, w46, ?_⟩
            intro lv st μ h
            split at h
            · exact h
            · exact h.elim)
        exact ⟨_, v46, h⟩
      next => exact h.elim
    next => exact h.elim
  next => exact h.elim
def sx_image (μ : sl_M) (Q : Int32 → sl_M → Prop) : Prop := ix_copyFrom_k μ (fun m1 => sl_bz (1 : Int32) = (1 : Int32) ∧ ∀ m2, m2 = sl_up m1 0 11 (1 : Int32) → ix_count_k m2 (fun r4 m3 => Q r4 m3))
def sx_image_pt : sl_PT := fun As μ Q => match As with
  | [.inr (.inr (some (c0, a0)))] => if c0 = 11 then (if a0 = 0 then (sx_image μ (fun r μ' => Q (some (.inl r)) μ')) else False) else False
  | _ => False
def sx_image_cd : List sl_Ent := [(0, .aload_n 0, 1, 0, [0], [], false), (1, .getfield 77, 3, 0, [11, 10, 2, 5, 57], [], false), (4, .aload_n 0, 1, 0, [0], [], false), (5, .getfield 10, 3, 0, [11, 0, 2, 5, 1], [], false), (8, .invokevirtual 296, 3, 0, [0], [], false), (11, .aload_n 0, 1, 0, [0], [], false), (12, .iconst 1, 1, 1, [], [], false), (13, .putfield 299, 3, 0, [11, 11, 1], [], false), (16, .aload_n 0, 1, 0, [0], [], false), (17, .getfield 77, 3, 0, [11, 10, 2, 5, 57], [], false), (20, .invokevirtual 109, 3, 0, [1], [], false), (23, .ireturn, 1, 0, [], [], false)]
def sx_image_y : MethodName := ⟨"SpanLayers", "image", "()I"⟩
theorem sx_image_tb : sl_tbOK sl_R11 prog_1_method_42_code 1 (some .int) lk_sx [(296, 0), (109, 0)] sx_image_cd = true := by decide +kernel
theorem ix_copyFrom_w2 : Cond.instanceMethod ix_copyFrom_y ∈ sl_T0 := sl_in1 1011 (by decide +kernel) rfl
theorem ix_copyFrom_w3 : Cond.selects ix_copyFrom_y.cls ix_copyFrom_y ix_copyFrom_y ∈ sl_T0 := sl_in1 1012 (by decide +kernel) rfl
theorem ix_copyFrom_w4 : Cond.initialized ix_copyFrom_y.cls ∈ sl_T0 := sl_in1 87 (by decide +kernel) rfl
theorem ix_copyFrom_w5 : Cond.code ix_copyFrom_y prog_7_method_2_code 3 none ∈ sl_T0 := sl_in1 1013 (by decide +kernel) rfl
theorem ix_copyFrom_w6 : ix_copyFrom_y.cls ≠ "java/lang/invoke/MethodHandle" ∧ ix_copyFrom_y.cls ≠ "java/lang/invoke/VarHandle" ∧ (parseMethodDescriptor ix_copyFrom_y.desc).map (fun d => d.parameters.length) = some 1 := by decide +kernel
theorem cs_sx_296 (g : sl_G) {hh : Nat} (h : 2 ≤ hh) : sl_CallS g sl_R11 296 0 5 hh 2 ix_copyFrom_pt := sl_callV (y := ix_copyFrom_y) (T := sl_F5) (N := 2) (ix_copyFrom_snd g) h (by decide) (sl_in1 1010 (by decide +kernel) rfl) ix_copyFrom_w2 ix_copyFrom_w3 ix_copyFrom_w4 ix_copyFrom_w5 ix_copyFrom_w6 rfl (by decide)
def sx_image_ct : List sl_Ct := [(2, 0, 5, ix_copyFrom_pt), (1, 0, 5, ix_count_pt)]
theorem sx_image_hc (g : sl_G) : sl_HC g sl_R11 2 sx_image_ct [(296, 0), (109, 0)] := sl_HC_cons (cs_sx_296 g (by decide)) (sl_HC_cons (cs_sx_109 g (by decide)) (sl_HC_nil g sl_R11 2))
set_option maxRecDepth 20000 in
set_option maxHeartbeats 2000000 in
theorem sx_image_snd (g : sl_G) : sl_Snd g sx_image_y prog_1_method_42_code 1 (some .int) 2 (sx_image_pt) := by
  intro As μ Q hw h
  unfold sx_image_pt at h
  split at h
  next c0 a0 =>
    split at h
    next e_ =>
      subst e_
      split at h
      next e_ =>
        subst e_
        refine sl_mk2 g [true] (cst := [some (.inr (.inr (some (11, 0))))]) (lv0 := [none]) (by decide) rfl hw rfl rfl rfl lk_sx_ok (sx_image_hc g) sx_image_tb rfl ?_
        intro X M
        exact ⟨_, sl_VV0, h⟩
      next => exact h.elim
    next => exact h.elim
  next => exact h.elim
def sx_undo_L23 (Q : Int32 → sl_M → Prop) : Nat → Int32 → sl_M → Prop
  | 0, _, _ => False
  | n + 1, x1, μ => (x1 < (3 : Int32) → vp_in x1 3 ∧ sl_bz (0 : Int32) = (0 : Int32) ∧ ∀ m1, m1 = sl_up μ (90 + 2 * x1.toNatClampNeg) 0 (0 : Int32) → (sx_undo_L23 Q n) (x1 + (1 : Int32)) m1) ∧ (¬ x1 < (3 : Int32) → ix_count μ (fun r3 m2 => Q r3 m2))
def sx_undo (μ : sl_M) (Q : Int32 → sl_M → Prop) : Prop := ((sl_bz (μ 0 11)) = (0 : Int32) → Q (-3 : Int32) μ) ∧ (¬ (sl_bz (μ 0 11)) = (0 : Int32) → ix_copyFrom_u μ (fun m4 => ∃ n5, sx_undo_L23 Q n5 (0 : Int32) m4))
def sx_undo_pt : sl_PT := fun As μ Q => match As with
  | [.inr (.inr (some (c0, a0)))] => if c0 = 11 then (if a0 = 0 then (sx_undo μ (fun r μ' => Q (some (.inl r)) μ')) else False) else False
  | _ => False
def sx_undo_cd : List sl_Ent := [(0, .aload_n 0, 1, 0, [0], [], false), (1, .getfield 299, 3, 0, [11, 11, 1, 0, 0], [], false), (4, .ifCond .ne 6, 3, 0, [10], [], false), (7, .bipush (-3), 2, (-3), [], [], false), (9, .ireturn, 1, 0, [], [], false), (10, .aload_n 0, 1, 0, [0], [], false), (11, .getfield 10, 3, 0, [11, 0, 2, 5, 1], [], false), (14, .aload_n 0, 1, 0, [0], [], false), (15, .getfield 77, 3, 0, [11, 10, 2, 5, 57], [], false), (18, .invokevirtual 296, 3, 0, [0], [], false), (21, .iconst 0, 1, 0, [], [], false), (22, .istore_n 1, 1, 0, [1], [], false), (23, .iload_n 1, 1, 0, [1], [], true), (24, .iconst 3, 1, 3, [], [], false), (25, .if_icmp .ge 19, 3, 0, [44], [], false), (28, .aload_n 0, 1, 0, [0], [], false), (29, .getfield 32, 3, 0, [11, 3, 2, 24, 42], [], false), (32, .iload_n 1, 1, 0, [1], [], false), (33, .aaload, 1, 0, [], [], false), (34, .iconst 0, 1, 0, [], [], false), (35, .putfield 167, 3, 0, [4, 0, 1], [], false), (38, .iinc 1 1, 3, 1, [], [], false), (41, .goto (-18), 3, 0, [23], [], false), (44, .aload_n 0, 1, 0, [0], [], false), (45, .getfield 10, 3, 0, [11, 0, 2, 5, 1], [], false), (48, .invokevirtual 109, 3, 0, [1], [], false), (51, .ireturn, 1, 0, [], [], false)]
def sx_undo_y : MethodName := ⟨"SpanLayers", "undo", "()I"⟩
theorem sx_undo_tb : sl_tbOK sl_R11 prog_1_method_43_code 2 (some .int) lk_sx [(296, 0), (109, 0)] sx_undo_cd = true := by decide +kernel
def sx_undo_ct : List sl_Ct := [(2, 0, 5, ix_copyFrom_pt), (1, 0, 5, ix_count_pt)]
theorem sx_undo_hc (g : sl_G) : sl_HC g sl_R11 2 sx_undo_ct [(296, 0), (109, 0)] := sl_HC_cons (cs_sx_296 g (by decide)) (sl_HC_cons (cs_sx_109 g (by decide)) (sl_HC_nil g sl_R11 2))
set_option maxRecDepth 20000 in
set_option maxHeartbeats 2000000 in
theorem sx_undo_snd (g : sl_G) : sl_Snd g sx_undo_y prog_1_method_43_code 2 (some .int) 2 (sx_undo_pt) := by
  intro As μ Q hw h
  unfold sx_undo_pt at h
  split at h
  next c0 a0 =>
    split at h
    next e_ =>
      subst e_
      split at h
      next e_ =>
        subst e_
        refine sl_mk2 g [true, false] (cst := [some (.inr (.inr (some (11, 0))))]) (lv0 := [none, none]) (by decide) rfl hw rfl rfl rfl lk_sx_ok (sx_undo_hc g) sx_undo_tb rfl ?_
        intro X M
        have v23 := sl_extL M sl_VV0 23 (fun n lv st μ => match lv, st with | [_, some (.inl x1)], [] => sx_undo_L23 (fun r μ' => Q (some (.inl r)) μ') n x1 μ | _, _ => False) (by
            intro lv st μ h
            split at h
            · exact h
            · exact h) (by
            intro n23 w23
            refine ⟨_, w23, ?_⟩
            intro lv st μ h
            split at h
            · exact h
            · exact h.elim)
        exact ⟨_, v23, h⟩
      next => exact h.elim
    next => exact h.elim
  next => exact h.elim
end
