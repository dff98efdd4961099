section
-- ===== PART A: goes FIRST, ahead of the names: the tables' words, and 'selects' of the private methods out of them =====
/-- a private method of a class that the tables say can be made, by its rows of tables_1 -/
def lw_okq (q : MethodName × Nat) : Prop := (q.1.cls ≠ "java/lang/invoke/MethodHandle" ∧ q.1.cls ≠ "java/lang/invoke/VarHandle") ∧ Cond.instantiable q.1.cls q.2 ∈ tables_1 ∧ Cond.privateMethod q.1 ∈ tables_1 ∧ Cond.instanceMethod q.1 ∈ tables_1
theorem lw_p0 : lw_okq (⟨"SpanLayers$Span", "gapByFirst", "(LSpanLayers$Span;I)I"⟩, 6) := ⟨⟨by decide +kernel, by decide +kernel⟩, List.mem_of_getElem? (i := 36) (by decide +kernel), List.mem_of_getElem? (i := 346) (by decide +kernel), List.mem_of_getElem? (i := 347) (by decide +kernel)⟩
theorem lw_p1 : lw_okq (⟨"SpanLayers$Span", "gapBySecond", "(LSpanLayers$Span;I)I"⟩, 6) := ⟨⟨by decide +kernel, by decide +kernel⟩, List.mem_of_getElem? (i := 36) (by decide +kernel), List.mem_of_getElem? (i := 354) (by decide +kernel), List.mem_of_getElem? (i := 355) (by decide +kernel)⟩
theorem lw_p2 : lw_okq (⟨"SpanLayers$Index", "countCovering", "(LSpanLayers$Span;)I"⟩, 2) := ⟨⟨by decide +kernel, by decide +kernel⟩, List.mem_of_getElem? (i := 29) (by decide +kernel), List.mem_of_getElem? (i := 398) (by decide +kernel), List.mem_of_getElem? (i := 399) (by decide +kernel)⟩
theorem lw_p3 : lw_okq (⟨"SpanLayers$Index", "countCovered", "(LSpanLayers$Span;)I"⟩, 2) := ⟨⟨by decide +kernel, by decide +kernel⟩, List.mem_of_getElem? (i := 29) (by decide +kernel), List.mem_of_getElem? (i := 402) (by decide +kernel), List.mem_of_getElem? (i := 403) (by decide +kernel)⟩
theorem lw_p4 : lw_okq (⟨"SpanLayers$Span", "lieAhead", "(LSpanLayers$Span;)I"⟩, 6) := ⟨⟨by decide +kernel, by decide +kernel⟩, List.mem_of_getElem? (i := 36) (by decide +kernel), List.mem_of_getElem? (i := 428) (by decide +kernel), List.mem_of_getElem? (i := 429) (by decide +kernel)⟩
theorem lw_p5 : lw_okq (⟨"SpanLayers", "countOpen", "()I"⟩, 12) := ⟨⟨by decide +kernel, by decide +kernel⟩, List.mem_of_getElem? (i := 21) (by decide +kernel), List.mem_of_getElem? (i := 490) (by decide +kernel), List.mem_of_getElem? (i := 491) (by decide +kernel)⟩
theorem lw_p6 : lw_okq (⟨"SpanLayers$Coverage", "sumOfPieces", "()I"⟩, 4) := ⟨⟨by decide +kernel, by decide +kernel⟩, List.mem_of_getElem? (i := 98) (by decide +kernel), List.mem_of_getElem? (i := 532) (by decide +kernel), List.mem_of_getElem? (i := 533) (by decide +kernel)⟩
theorem lw_p7 : lw_okq (⟨"SpanLayers$Coverage", "sumOfHoles", "()I"⟩, 4) := ⟨⟨by decide +kernel, by decide +kernel⟩, List.mem_of_getElem? (i := 98) (by decide +kernel), List.mem_of_getElem? (i := 540) (by decide +kernel), List.mem_of_getElem? (i := 541) (by decide +kernel)⟩
theorem lw_p8 : lw_okq (⟨"SpanLayers$Coverage", "greatestHole", "()I"⟩, 4) := ⟨⟨by decide +kernel, by decide +kernel⟩, List.mem_of_getElem? (i := 98) (by decide +kernel), List.mem_of_getElem? (i := 544) (by decide +kernel), List.mem_of_getElem? (i := 545) (by decide +kernel)⟩
theorem lw_p9 : lw_okq (⟨"SpanLayers$Index", "higherOf", "(III)I"⟩, 2) := ⟨⟨by decide +kernel, by decide +kernel⟩, List.mem_of_getElem? (i := 29) (by decide +kernel), List.mem_of_getElem? (i := 577) (by decide +kernel), List.mem_of_getElem? (i := 578) (by decide +kernel)⟩
theorem lw_p10 : lw_okq (⟨"SpanLayers$Condition", "readEither", "(LSpanLayers$Tape;LSpanLayers$Index;I)I"⟩, 0) := ⟨⟨by decide +kernel, by decide +kernel⟩, List.mem_of_getElem? (i := 167) (by decide +kernel), List.mem_of_getElem? (i := 647) (by decide +kernel), List.mem_of_getElem? (i := 648) (by decide +kernel)⟩
theorem lw_p11 : lw_okq (⟨"SpanLayers$Condition", "readBoth", "(LSpanLayers$Tape;LSpanLayers$Index;I)I"⟩, 0) := ⟨⟨by decide +kernel, by decide +kernel⟩, List.mem_of_getElem? (i := 167) (by decide +kernel), List.mem_of_getElem? (i := 651) (by decide +kernel), List.mem_of_getElem? (i := 652) (by decide +kernel)⟩
theorem lw_p12 : lw_okq (⟨"SpanLayers$Condition", "readFactor", "(LSpanLayers$Tape;LSpanLayers$Index;I)I"⟩, 0) := ⟨⟨by decide +kernel, by decide +kernel⟩, List.mem_of_getElem? (i := 167) (by decide +kernel), List.mem_of_getElem? (i := 655) (by decide +kernel), List.mem_of_getElem? (i := 656) (by decide +kernel)⟩
theorem lw_p13 : lw_okq (⟨"SpanLayers$Tape", "letter", "()I"⟩, 4) := ⟨⟨by decide +kernel, by decide +kernel⟩, List.mem_of_getElem? (i := 146) (by decide +kernel), List.mem_of_getElem? (i := 663) (by decide +kernel), List.mem_of_getElem? (i := 664) (by decide +kernel)⟩
theorem lw_p14 : lw_okq (⟨"SpanLayers$Condition", "readPlain", "(LSpanLayers$Tape;LSpanLayers$Index;I)I"⟩, 0) := ⟨⟨by decide +kernel, by decide +kernel⟩, List.mem_of_getElem? (i := 167) (by decide +kernel), List.mem_of_getElem? (i := 672) (by decide +kernel), List.mem_of_getElem? (i := 673) (by decide +kernel)⟩
theorem lw_p15 : lw_okq (⟨"SpanLayers$Tape", "isSame", "(ILjava/lang/String;II)Z"⟩, 4) := ⟨⟨by decide +kernel, by decide +kernel⟩, List.mem_of_getElem? (i := 146) (by decide +kernel), List.mem_of_getElem? (i := 741) (by decide +kernel), List.mem_of_getElem? (i := 742) (by decide +kernel)⟩
def lw_privs_1 : List (MethodName × Nat) := [(⟨"SpanLayers$Span", "gapByFirst", "(LSpanLayers$Span;I)I"⟩, 6), (⟨"SpanLayers$Span", "gapBySecond", "(LSpanLayers$Span;I)I"⟩, 6), (⟨"SpanLayers$Index", "countCovering", "(LSpanLayers$Span;)I"⟩, 2), (⟨"SpanLayers$Index", "countCovered", "(LSpanLayers$Span;)I"⟩, 2), (⟨"SpanLayers$Span", "lieAhead", "(LSpanLayers$Span;)I"⟩, 6), (⟨"SpanLayers", "countOpen", "()I"⟩, 12), (⟨"SpanLayers$Coverage", "sumOfPieces", "()I"⟩, 4), (⟨"SpanLayers$Coverage", "sumOfHoles", "()I"⟩, 4), (⟨"SpanLayers$Coverage", "greatestHole", "()I"⟩, 4), (⟨"SpanLayers$Index", "higherOf", "(III)I"⟩, 2), (⟨"SpanLayers$Condition", "readEither", "(LSpanLayers$Tape;LSpanLayers$Index;I)I"⟩, 0), (⟨"SpanLayers$Condition", "readBoth", "(LSpanLayers$Tape;LSpanLayers$Index;I)I"⟩, 0), (⟨"SpanLayers$Condition", "readFactor", "(LSpanLayers$Tape;LSpanLayers$Index;I)I"⟩, 0), (⟨"SpanLayers$Tape", "letter", "()I"⟩, 4), (⟨"SpanLayers$Condition", "readPlain", "(LSpanLayers$Tape;LSpanLayers$Index;I)I"⟩, 0), (⟨"SpanLayers$Tape", "isSame", "(ILjava/lang/String;II)Z"⟩, 4)]
theorem lw_r1 : ∀ q ∈ lw_privs_1, lw_okq q := List.forall_mem_cons.mpr ⟨lw_p0, List.forall_mem_cons.mpr ⟨lw_p1, List.forall_mem_cons.mpr ⟨lw_p2, List.forall_mem_cons.mpr ⟨lw_p3, List.forall_mem_cons.mpr ⟨lw_p4, List.forall_mem_cons.mpr ⟨lw_p5, List.forall_mem_cons.mpr ⟨lw_p6, List.forall_mem_cons.mpr ⟨lw_p7, List.forall_mem_cons.mpr ⟨lw_p8, List.forall_mem_cons.mpr ⟨lw_p9, List.forall_mem_cons.mpr ⟨lw_p10, List.forall_mem_cons.mpr ⟨lw_p11, List.forall_mem_cons.mpr ⟨lw_p12, List.forall_mem_cons.mpr ⟨lw_p13, List.forall_mem_cons.mpr ⟨lw_p14, List.forall_mem_cons.mpr ⟨lw_p15, fun _ h => absurd h List.not_mem_nil⟩⟩⟩⟩⟩⟩⟩⟩⟩⟩⟩⟩⟩⟩⟩⟩
theorem lw_p16 : lw_okq (⟨"SpanLayers$Change", "readStep", "(LSpanLayers$Tape;I)V"⟩, 4) := ⟨⟨by decide +kernel, by decide +kernel⟩, List.mem_of_getElem? (i := 174) (by decide +kernel), List.mem_of_getElem? (i := 785) (by decide +kernel), List.mem_of_getElem? (i := 786) (by decide +kernel)⟩
theorem lw_p17 : lw_okq (⟨"SpanLayers$Change", "changeOne", "(LSpanLayers$Span;)V"⟩, 4) := ⟨⟨by decide +kernel, by decide +kernel⟩, List.mem_of_getElem? (i := 174) (by decide +kernel), List.mem_of_getElem? (i := 805) (by decide +kernel), List.mem_of_getElem? (i := 806) (by decide +kernel)⟩
theorem lw_p18 : lw_okq (⟨"SpanLayers$Paper", "write", "(I)V"⟩, 2) := ⟨⟨by decide +kernel, by decide +kernel⟩, List.mem_of_getElem? (i := 212) (by decide +kernel), List.mem_of_getElem? (i := 852) (by decide +kernel), List.mem_of_getElem? (i := 853) (by decide +kernel)⟩
theorem lw_p19 : lw_okq (⟨"SpanLayers$Paper", "writePart", "(LSpanLayers$Span;)V"⟩, 2) := ⟨⟨by decide +kernel, by decide +kernel⟩, List.mem_of_getElem? (i := 212) (by decide +kernel), List.mem_of_getElem? (i := 856) (by decide +kernel), List.mem_of_getElem? (i := 857) (by decide +kernel)⟩
theorem lw_p20 : lw_okq (⟨"SpanLayers$Paper", "writeNumber", "(I)V"⟩, 2) := ⟨⟨by decide +kernel, by decide +kernel⟩, List.mem_of_getElem? (i := 212) (by decide +kernel), List.mem_of_getElem? (i := 860) (by decide +kernel), List.mem_of_getElem? (i := 861) (by decide +kernel)⟩
theorem lw_p21 : lw_okq (⟨"SpanLayersModel", "leastOut", "()I"⟩, 50) := ⟨⟨by decide +kernel, by decide +kernel⟩, List.mem_of_getElem? (i := 935) (by decide +kernel), List.mem_of_getElem? (i := 1106) (by decide +kernel), List.mem_of_getElem? (i := 1107) (by decide +kernel)⟩
theorem lw_p22 : lw_okq (⟨"SpanLayersModel", "comes", "(IIII)V"⟩, 50) := ⟨⟨by decide +kernel, by decide +kernel⟩, List.mem_of_getElem? (i := 935) (by decide +kernel), List.mem_of_getElem? (i := 1110) (by decide +kernel), List.mem_of_getElem? (i := 1111) (by decide +kernel)⟩
theorem lw_p23 : lw_okq (⟨"SpanLayersModel", "isHere", "(I)Z"⟩, 50) := ⟨⟨by decide +kernel, by decide +kernel⟩, List.mem_of_getElem? (i := 935) (by decide +kernel), List.mem_of_getElem? (i := 1126) (by decide +kernel), List.mem_of_getElem? (i := 1127) (by decide +kernel)⟩
theorem lw_p24 : lw_okq (⟨"SpanLayersModel", "manyIn", "()I"⟩, 50) := ⟨⟨by decide +kernel, by decide +kernel⟩, List.mem_of_getElem? (i := 935) (by decide +kernel), List.mem_of_getElem? (i := 1130) (by decide +kernel), List.mem_of_getElem? (i := 1131) (by decide +kernel)⟩
theorem lw_p25 : lw_okq (⟨"SpanLayersModel", "layLayers", "()V"⟩, 50) := ⟨⟨by decide +kernel, by decide +kernel⟩, List.mem_of_getElem? (i := 935) (by decide +kernel), List.mem_of_getElem? (i := 1139) (by decide +kernel), List.mem_of_getElem? (i := 1140) (by decide +kernel)⟩
theorem lw_p26 : lw_okq (⟨"SpanLayersModel", "covers", "(II)Z"⟩, 50) := ⟨⟨by decide +kernel, by decide +kernel⟩, List.mem_of_getElem? (i := 935) (by decide +kernel), List.mem_of_getElem? (i := 1143) (by decide +kernel), List.mem_of_getElem? (i := 1144) (by decide +kernel)⟩
theorem lw_p27 : lw_okq (⟨"SpanLayersModel", "lengthOf", "(I)I"⟩, 50) := ⟨⟨by decide +kernel, by decide +kernel⟩, List.mem_of_getElem? (i := 935) (by decide +kernel), List.mem_of_getElem? (i := 1147) (by decide +kernel), List.mem_of_getElem? (i := 1148) (by decide +kernel)⟩
theorem lw_p28 : lw_okq (⟨"SpanLayersModel", "countOf", "(II)I"⟩, 50) := ⟨⟨by decide +kernel, by decide +kernel⟩, List.mem_of_getElem? (i := 935) (by decide +kernel), List.mem_of_getElem? (i := 1151) (by decide +kernel), List.mem_of_getElem? (i := 1152) (by decide +kernel)⟩
theorem lw_p29 : lw_okq (⟨"SpanLayersModel", "meets", "(II)Z"⟩, 50) := ⟨⟨by decide +kernel, by decide +kernel⟩, List.mem_of_getElem? (i := 935) (by decide +kernel), List.mem_of_getElem? (i := 1155) (by decide +kernel), List.mem_of_getElem? (i := 1156) (by decide +kernel)⟩
theorem lw_p30 : lw_okq (⟨"SpanLayersModel", "howOf", "(II)I"⟩, 50) := ⟨⟨by decide +kernel, by decide +kernel⟩, List.mem_of_getElem? (i := 935) (by decide +kernel), List.mem_of_getElem? (i := 1163) (by decide +kernel), List.mem_of_getElem? (i := 1164) (by decide +kernel)⟩
theorem lw_p31 : lw_okq (⟨"SpanLayersModel", "plainHow", "(II)I"⟩, 50) := ⟨⟨by decide +kernel, by decide +kernel⟩, List.mem_of_getElem? (i := 935) (by decide +kernel), List.mem_of_getElem? (i := 1167) (by decide +kernel), List.mem_of_getElem? (i := 1168) (by decide +kernel)⟩
def lw_privs_2 : List (MethodName × Nat) := [(⟨"SpanLayers$Change", "readStep", "(LSpanLayers$Tape;I)V"⟩, 4), (⟨"SpanLayers$Change", "changeOne", "(LSpanLayers$Span;)V"⟩, 4), (⟨"SpanLayers$Paper", "write", "(I)V"⟩, 2), (⟨"SpanLayers$Paper", "writePart", "(LSpanLayers$Span;)V"⟩, 2), (⟨"SpanLayers$Paper", "writeNumber", "(I)V"⟩, 2), (⟨"SpanLayersModel", "leastOut", "()I"⟩, 50), (⟨"SpanLayersModel", "comes", "(IIII)V"⟩, 50), (⟨"SpanLayersModel", "isHere", "(I)Z"⟩, 50), (⟨"SpanLayersModel", "manyIn", "()I"⟩, 50), (⟨"SpanLayersModel", "layLayers", "()V"⟩, 50), (⟨"SpanLayersModel", "covers", "(II)Z"⟩, 50), (⟨"SpanLayersModel", "lengthOf", "(I)I"⟩, 50), (⟨"SpanLayersModel", "countOf", "(II)I"⟩, 50), (⟨"SpanLayersModel", "meets", "(II)Z"⟩, 50), (⟨"SpanLayersModel", "howOf", "(II)I"⟩, 50), (⟨"SpanLayersModel", "plainHow", "(II)I"⟩, 50)]
theorem lw_r2 : ∀ q ∈ lw_privs_2, lw_okq q := List.forall_mem_cons.mpr ⟨lw_p16, List.forall_mem_cons.mpr ⟨lw_p17, List.forall_mem_cons.mpr ⟨lw_p18, List.forall_mem_cons.mpr ⟨lw_p19, List.forall_mem_cons.mpr ⟨lw_p20, List.forall_mem_cons.mpr ⟨lw_p21, List.forall_mem_cons.mpr ⟨lw_p22, List.forall_mem_cons.mpr ⟨lw_p23, List.forall_mem_cons.mpr ⟨lw_p24, List.forall_mem_cons.mpr ⟨lw_p25, List.forall_mem_cons.mpr ⟨lw_p26, List.forall_mem_cons.mpr ⟨lw_p27, List.forall_mem_cons.mpr ⟨lw_p28, List.forall_mem_cons.mpr ⟨lw_p29, List.forall_mem_cons.mpr ⟨lw_p30, List.forall_mem_cons.mpr ⟨lw_p31, fun _ h => absurd h List.not_mem_nil⟩⟩⟩⟩⟩⟩⟩⟩⟩⟩⟩⟩⟩⟩⟩⟩
theorem lw_p32 : lw_okq (⟨"SpanLayersModel", "metBits", "(II)I"⟩, 50) := ⟨⟨by decide +kernel, by decide +kernel⟩, List.mem_of_getElem? (i := 935) (by decide +kernel), List.mem_of_getElem? (i := 1175) (by decide +kernel), List.mem_of_getElem? (i := 1176) (by decide +kernel)⟩
theorem lw_p33 : lw_okq (⟨"SpanLayersModel", "layOrder", "(I)V"⟩, 50) := ⟨⟨by decide +kernel, by decide +kernel⟩, List.mem_of_getElem? (i := 935) (by decide +kernel), List.mem_of_getElem? (i := 1183) (by decide +kernel), List.mem_of_getElem? (i := 1184) (by decide +kernel)⟩
theorem lw_p34 : lw_okq (⟨"SpanLayersModel", "aheadOf", "(II)I"⟩, 50) := ⟨⟨by decide +kernel, by decide +kernel⟩, List.mem_of_getElem? (i := 935) (by decide +kernel), List.mem_of_getElem? (i := 1187) (by decide +kernel), List.mem_of_getElem? (i := 1188) (by decide +kernel)⟩
theorem lw_p35 : lw_okq (⟨"SpanLayersModel", "isAhead", "(III)Z"⟩, 50) := ⟨⟨by decide +kernel, by decide +kernel⟩, List.mem_of_getElem? (i := 935) (by decide +kernel), List.mem_of_getElem? (i := 1191) (by decide +kernel), List.mem_of_getElem? (i := 1192) (by decide +kernel)⟩
theorem lw_p36 : lw_okq (⟨"SpanLayersModel", "first", "(II)I"⟩, 50) := ⟨⟨by decide +kernel, by decide +kernel⟩, List.mem_of_getElem? (i := 935) (by decide +kernel), List.mem_of_getElem? (i := 1195) (by decide +kernel), List.mem_of_getElem? (i := 1196) (by decide +kernel)⟩
theorem lw_p37 : lw_okq (⟨"SpanLayersModel", "second", "(II)I"⟩, 50) := ⟨⟨by decide +kernel, by decide +kernel⟩, List.mem_of_getElem? (i := 935) (by decide +kernel), List.mem_of_getElem? (i := 1202) (by decide +kernel), List.mem_of_getElem? (i := 1203) (by decide +kernel)⟩
theorem lw_p38 : lw_okq (⟨"SpanLayersModel", "has", "(II)Z"⟩, 50) := ⟨⟨by decide +kernel, by decide +kernel⟩, List.mem_of_getElem? (i := 935) (by decide +kernel), List.mem_of_getElem? (i := 1212) (by decide +kernel), List.mem_of_getElem? (i := 1213) (by decide +kernel)⟩
theorem lw_p39 : lw_okq (⟨"SpanLayersModel", "isPair", "(III)Z"⟩, 50) := ⟨⟨by decide +kernel, by decide +kernel⟩, List.mem_of_getElem? (i := 935) (by decide +kernel), List.mem_of_getElem? (i := 1225) (by decide +kernel), List.mem_of_getElem? (i := 1226) (by decide +kernel)⟩
theorem lw_p40 : lw_okq (⟨"SpanLayersModel", "opens", "()I"⟩, 50) := ⟨⟨by decide +kernel, by decide +kernel⟩, List.mem_of_getElem? (i := 935) (by decide +kernel), List.mem_of_getElem? (i := 1247) (by decide +kernel), List.mem_of_getElem? (i := 1248) (by decide +kernel)⟩
theorem lw_p41 : lw_okq (⟨"SpanLayersModel", "isBehindTold", "(II)Z"⟩, 50) := ⟨⟨by decide +kernel, by decide +kernel⟩, List.mem_of_getElem? (i := 935) (by decide +kernel), List.mem_of_getElem? (i := 1259) (by decide +kernel), List.mem_of_getElem? (i := 1260) (by decide +kernel)⟩
theorem lw_p42 : lw_okq (⟨"SpanLayersModel", "layRuns", "(Z)V"⟩, 50) := ⟨⟨by decide +kernel, by decide +kernel⟩, List.mem_of_getElem? (i := 935) (by decide +kernel), List.mem_of_getElem? (i := 1271) (by decide +kernel), List.mem_of_getElem? (i := 1272) (by decide +kernel)⟩
theorem lw_p43 : lw_okq (⟨"SpanLayersModel", "layDepths", "()V"⟩, 50) := ⟨⟨by decide +kernel, by decide +kernel⟩, List.mem_of_getElem? (i := 935) (by decide +kernel), List.mem_of_getElem? (i := 1275) (by decide +kernel), List.mem_of_getElem? (i := 1276) (by decide +kernel)⟩
theorem lw_p44 : lw_okq (⟨"SpanLayersModel", "greatestHigh", "()I"⟩, 50) := ⟨⟨by decide +kernel, by decide +kernel⟩, List.mem_of_getElem? (i := 935) (by decide +kernel), List.mem_of_getElem? (i := 1279) (by decide +kernel), List.mem_of_getElem? (i := 1280) (by decide +kernel)⟩
theorem lw_p45 : lw_okq (⟨"SpanLayersModel", "leastLow", "()I"⟩, 50) := ⟨⟨by decide +kernel, by decide +kernel⟩, List.mem_of_getElem? (i := 935) (by decide +kernel), List.mem_of_getElem? (i := 1283) (by decide +kernel), List.mem_of_getElem? (i := 1284) (by decide +kernel)⟩
theorem lw_p46 : lw_okq (⟨"SpanLayersModel", "runPlaces", "()I"⟩, 50) := ⟨⟨by decide +kernel, by decide +kernel⟩, List.mem_of_getElem? (i := 935) (by decide +kernel), List.mem_of_getElem? (i := 1287) (by decide +kernel), List.mem_of_getElem? (i := 1288) (by decide +kernel)⟩
theorem lw_p47 : lw_okq (⟨"SpanLayersModel", "greatestRun", "()I"⟩, 50) := ⟨⟨by decide +kernel, by decide +kernel⟩, List.mem_of_getElem? (i := 935) (by decide +kernel), List.mem_of_getElem? (i := 1291) (by decide +kernel), List.mem_of_getElem? (i := 1292) (by decide +kernel)⟩
def lw_privs_3 : List (MethodName × Nat) := [(⟨"SpanLayersModel", "metBits", "(II)I"⟩, 50), (⟨"SpanLayersModel", "layOrder", "(I)V"⟩, 50), (⟨"SpanLayersModel", "aheadOf", "(II)I"⟩, 50), (⟨"SpanLayersModel", "isAhead", "(III)Z"⟩, 50), (⟨"SpanLayersModel", "first", "(II)I"⟩, 50), (⟨"SpanLayersModel", "second", "(II)I"⟩, 50), (⟨"SpanLayersModel", "has", "(II)Z"⟩, 50), (⟨"SpanLayersModel", "isPair", "(III)Z"⟩, 50), (⟨"SpanLayersModel", "opens", "()I"⟩, 50), (⟨"SpanLayersModel", "isBehindTold", "(II)Z"⟩, 50), (⟨"SpanLayersModel", "layRuns", "(Z)V"⟩, 50), (⟨"SpanLayersModel", "layDepths", "()V"⟩, 50), (⟨"SpanLayersModel", "greatestHigh", "()I"⟩, 50), (⟨"SpanLayersModel", "leastLow", "()I"⟩, 50), (⟨"SpanLayersModel", "runPlaces", "()I"⟩, 50), (⟨"SpanLayersModel", "greatestRun", "()I"⟩, 50)]
theorem lw_r3 : ∀ q ∈ lw_privs_3, lw_okq q := List.forall_mem_cons.mpr ⟨lw_p32, List.forall_mem_cons.mpr ⟨lw_p33, List.forall_mem_cons.mpr ⟨lw_p34, List.forall_mem_cons.mpr ⟨lw_p35, List.forall_mem_cons.mpr ⟨lw_p36, List.forall_mem_cons.mpr ⟨lw_p37, List.forall_mem_cons.mpr ⟨lw_p38, List.forall_mem_cons.mpr ⟨lw_p39, List.forall_mem_cons.mpr ⟨lw_p40, List.forall_mem_cons.mpr ⟨lw_p41, List.forall_mem_cons.mpr ⟨lw_p42, List.forall_mem_cons.mpr ⟨lw_p43, List.forall_mem_cons.mpr ⟨lw_p44, List.forall_mem_cons.mpr ⟨lw_p45, List.forall_mem_cons.mpr ⟨lw_p46, List.forall_mem_cons.mpr ⟨lw_p47, fun _ h => absurd h List.not_mem_nil⟩⟩⟩⟩⟩⟩⟩⟩⟩⟩⟩⟩⟩⟩⟩⟩
theorem lw_p48 : lw_okq (⟨"SpanLayersModel", "onesOf", "(I)I"⟩, 50) := ⟨⟨by decide +kernel, by decide +kernel⟩, List.mem_of_getElem? (i := 935) (by decide +kernel), List.mem_of_getElem? (i := 1299) (by decide +kernel), List.mem_of_getElem? (i := 1300) (by decide +kernel)⟩
theorem lw_p49 : lw_okq (⟨"SpanLayersModel", "deepestOf", "(I)I"⟩, 50) := ⟨⟨by decide +kernel, by decide +kernel⟩, List.mem_of_getElem? (i := 935) (by decide +kernel), List.mem_of_getElem? (i := 1316) (by decide +kernel), List.mem_of_getElem? (i := 1317) (by decide +kernel)⟩
theorem lw_p50 : lw_okq (⟨"SpanLayersModel", "numberAt", "(II)I"⟩, 50) := ⟨⟨by decide +kernel, by decide +kernel⟩, List.mem_of_getElem? (i := 935) (by decide +kernel), List.mem_of_getElem? (i := 1320) (by decide +kernel), List.mem_of_getElem? (i := 1321) (by decide +kernel)⟩
theorem lw_p51 : lw_okq (⟨"SpanLayersModel", "layTaken", "()V"⟩, 50) := ⟨⟨by decide +kernel, by decide +kernel⟩, List.mem_of_getElem? (i := 935) (by decide +kernel), List.mem_of_getElem? (i := 1328) (by decide +kernel), List.mem_of_getElem? (i := 1329) (by decide +kernel)⟩
theorem lw_p52 : lw_okq (⟨"SpanLayersModel", "groupOf", "(I)I"⟩, 50) := ⟨⟨by decide +kernel, by decide +kernel⟩, List.mem_of_getElem? (i := 935) (by decide +kernel), List.mem_of_getElem? (i := 1344) (by decide +kernel), List.mem_of_getElem? (i := 1345) (by decide +kernel)⟩
theorem lw_p53 : lw_okq (⟨"SpanLayersModel", "groupBits", "(I)I"⟩, 50) := ⟨⟨by decide +kernel, by decide +kernel⟩, List.mem_of_getElem? (i := 935) (by decide +kernel), List.mem_of_getElem? (i := 1348) (by decide +kernel), List.mem_of_getElem? (i := 1349) (by decide +kernel)⟩
theorem lw_p54 : lw_okq (⟨"SpanLayersModel", "weightOf", "(I)I"⟩, 50) := ⟨⟨by decide +kernel, by decide +kernel⟩, List.mem_of_getElem? (i := 935) (by decide +kernel), List.mem_of_getElem? (i := 1352) (by decide +kernel), List.mem_of_getElem? (i := 1353) (by decide +kernel)⟩
theorem lw_p55 : lw_okq (⟨"SpanLayersModel", "readCondition", "()I"⟩, 50) := ⟨⟨by decide +kernel, by decide +kernel⟩, List.mem_of_getElem? (i := 935) (by decide +kernel), List.mem_of_getElem? (i := 1369) (by decide +kernel), List.mem_of_getElem? (i := 1370) (by decide +kernel)⟩
theorem lw_p56 : lw_okq (⟨"SpanLayersModel", "readFactor", "()V"⟩, 50) := ⟨⟨by decide +kernel, by decide +kernel⟩, List.mem_of_getElem? (i := 935) (by decide +kernel), List.mem_of_getElem? (i := 1373) (by decide +kernel), List.mem_of_getElem? (i := 1374) (by decide +kernel)⟩
theorem lw_p57 : lw_okq (⟨"SpanLayersModel", "here", "()I"⟩, 50) := ⟨⟨by decide +kernel, by decide +kernel⟩, List.mem_of_getElem? (i := 935) (by decide +kernel), List.mem_of_getElem? (i := 1377) (by decide +kernel), List.mem_of_getElem? (i := 1378) (by decide +kernel)⟩
theorem lw_p58 : lw_okq (⟨"SpanLayersModel", "waitFor", "(I)V"⟩, 50) := ⟨⟨by decide +kernel, by decide +kernel⟩, List.mem_of_getElem? (i := 935) (by decide +kernel), List.mem_of_getElem? (i := 1381) (by decide +kernel), List.mem_of_getElem? (i := 1382) (by decide +kernel)⟩
theorem lw_p59 : lw_okq (⟨"SpanLayersModel", "readTest", "()V"⟩, 50) := ⟨⟨by decide +kernel, by decide +kernel⟩, List.mem_of_getElem? (i := 935) (by decide +kernel), List.mem_of_getElem? (i := 1385) (by decide +kernel), List.mem_of_getElem? (i := 1386) (by decide +kernel)⟩
theorem lw_p60 : lw_okq (⟨"SpanLayersModel", "testWordHere", "()I"⟩, 50) := ⟨⟨by decide +kernel, by decide +kernel⟩, List.mem_of_getElem? (i := 935) (by decide +kernel), List.mem_of_getElem? (i := 1389) (by decide +kernel), List.mem_of_getElem? (i := 1390) (by decide +kernel)⟩
theorem lw_p61 : lw_okq (⟨"SpanLayersModel", "wordHere", "()J"⟩, 50) := ⟨⟨by decide +kernel, by decide +kernel⟩, List.mem_of_getElem? (i := 935) (by decide +kernel), List.mem_of_getElem? (i := 1393) (by decide +kernel), List.mem_of_getElem? (i := 1394) (by decide +kernel)⟩
theorem lw_p62 : lw_okq (⟨"SpanLayersModel", "passWord", "()V"⟩, 50) := ⟨⟨by decide +kernel, by decide +kernel⟩, List.mem_of_getElem? (i := 935) (by decide +kernel), List.mem_of_getElem? (i := 1404) (by decide +kernel), List.mem_of_getElem? (i := 1405) (by decide +kernel)⟩
theorem lw_p63 : lw_okq (⟨"SpanLayersModel", "readSigned", "(I)I"⟩, 50) := ⟨⟨by decide +kernel, by decide +kernel⟩, List.mem_of_getElem? (i := 935) (by decide +kernel), List.mem_of_getElem? (i := 1408) (by decide +kernel), List.mem_of_getElem? (i := 1409) (by decide +kernel)⟩
def lw_privs_4 : List (MethodName × Nat) := [(⟨"SpanLayersModel", "onesOf", "(I)I"⟩, 50), (⟨"SpanLayersModel", "deepestOf", "(I)I"⟩, 50), (⟨"SpanLayersModel", "numberAt", "(II)I"⟩, 50), (⟨"SpanLayersModel", "layTaken", "()V"⟩, 50), (⟨"SpanLayersModel", "groupOf", "(I)I"⟩, 50), (⟨"SpanLayersModel", "groupBits", "(I)I"⟩, 50), (⟨"SpanLayersModel", "weightOf", "(I)I"⟩, 50), (⟨"SpanLayersModel", "readCondition", "()I"⟩, 50), (⟨"SpanLayersModel", "readFactor", "()V"⟩, 50), (⟨"SpanLayersModel", "here", "()I"⟩, 50), (⟨"SpanLayersModel", "waitFor", "(I)V"⟩, 50), (⟨"SpanLayersModel", "readTest", "()V"⟩, 50), (⟨"SpanLayersModel", "testWordHere", "()I"⟩, 50), (⟨"SpanLayersModel", "wordHere", "()J"⟩, 50), (⟨"SpanLayersModel", "passWord", "()V"⟩, 50), (⟨"SpanLayersModel", "readSigned", "(I)I"⟩, 50)]
theorem lw_r4 : ∀ q ∈ lw_privs_4, lw_okq q := List.forall_mem_cons.mpr ⟨lw_p48, List.forall_mem_cons.mpr ⟨lw_p49, List.forall_mem_cons.mpr ⟨lw_p50, List.forall_mem_cons.mpr ⟨lw_p51, List.forall_mem_cons.mpr ⟨lw_p52, List.forall_mem_cons.mpr ⟨lw_p53, List.forall_mem_cons.mpr ⟨lw_p54, List.forall_mem_cons.mpr ⟨lw_p55, List.forall_mem_cons.mpr ⟨lw_p56, List.forall_mem_cons.mpr ⟨lw_p57, List.forall_mem_cons.mpr ⟨lw_p58, List.forall_mem_cons.mpr ⟨lw_p59, List.forall_mem_cons.mpr ⟨lw_p60, List.forall_mem_cons.mpr ⟨lw_p61, List.forall_mem_cons.mpr ⟨lw_p62, List.forall_mem_cons.mpr ⟨lw_p63, fun _ h => absurd h List.not_mem_nil⟩⟩⟩⟩⟩⟩⟩⟩⟩⟩⟩⟩⟩⟩⟩⟩
theorem lw_p64 : lw_okq (⟨"SpanLayersModel", "goesOn", "(I)Z"⟩, 50) := ⟨⟨by decide +kernel, by decide +kernel⟩, List.mem_of_getElem? (i := 935) (by decide +kernel), List.mem_of_getElem? (i := 1412) (by decide +kernel), List.mem_of_getElem? (i := 1413) (by decide +kernel)⟩
theorem lw_p65 : lw_okq (⟨"SpanLayersModel", "readFigures", "(I)I"⟩, 50) := ⟨⟨by decide +kernel, by decide +kernel⟩, List.mem_of_getElem? (i := 935) (by decide +kernel), List.mem_of_getElem? (i := 1416) (by decide +kernel), List.mem_of_getElem? (i := 1417) (by decide +kernel)⟩
theorem lw_p66 : lw_okq (⟨"SpanLayersModel", "doneIs", "(I)V"⟩, 50) := ⟨⟨by decide +kernel, by decide +kernel⟩, List.mem_of_getElem? (i := 935) (by decide +kernel), List.mem_of_getElem? (i := 1422) (by decide +kernel), List.mem_of_getElem? (i := 1423) (by decide +kernel)⟩
theorem lw_p67 : lw_okq (⟨"SpanLayersModel", "readsOn", "()Z"⟩, 50) := ⟨⟨by decide +kernel, by decide +kernel⟩, List.mem_of_getElem? (i := 935) (by decide +kernel), List.mem_of_getElem? (i := 1426) (by decide +kernel), List.mem_of_getElem? (i := 1427) (by decide +kernel)⟩
theorem lw_p68 : lw_okq (⟨"SpanLayersModel", "popsWhile", "(II)V"⟩, 50) := ⟨⟨by decide +kernel, by decide +kernel⟩, List.mem_of_getElem? (i := 935) (by decide +kernel), List.mem_of_getElem? (i := 1430) (by decide +kernel), List.mem_of_getElem? (i := 1431) (by decide +kernel)⟩
theorem lw_p69 : lw_okq (⟨"SpanLayersModel", "heldBits", "()I"⟩, 50) := ⟨⟨by decide +kernel, by decide +kernel⟩, List.mem_of_getElem? (i := 935) (by decide +kernel), List.mem_of_getElem? (i := 1434) (by decide +kernel), List.mem_of_getElem? (i := 1435) (by decide +kernel)⟩
theorem lw_p70 : lw_okq (⟨"SpanLayersModel", "holds", "(I)Z"⟩, 50) := ⟨⟨by decide +kernel, by decide +kernel⟩, List.mem_of_getElem? (i := 935) (by decide +kernel), List.mem_of_getElem? (i := 1438) (by decide +kernel), List.mem_of_getElem? (i := 1439) (by decide +kernel)⟩
theorem lw_p71 : lw_okq (⟨"SpanLayersModel", "isTest", "(II)Z"⟩, 50) := ⟨⟨by decide +kernel, by decide +kernel⟩, List.mem_of_getElem? (i := 935) (by decide +kernel), List.mem_of_getElem? (i := 1442) (by decide +kernel), List.mem_of_getElem? (i := 1443) (by decide +kernel)⟩
theorem lw_p72 : lw_okq (⟨"SpanLayersModel", "numberOf", "(II)I"⟩, 50) := ⟨⟨by decide +kernel, by decide +kernel⟩, List.mem_of_getElem? (i := 935) (by decide +kernel), List.mem_of_getElem? (i := 1446) (by decide +kernel), List.mem_of_getElem? (i := 1447) (by decide +kernel)⟩
theorem lw_p73 : lw_okq (⟨"SpanLayersModel", "readChange", "()I"⟩, 50) := ⟨⟨by decide +kernel, by decide +kernel⟩, List.mem_of_getElem? (i := 935) (by decide +kernel), List.mem_of_getElem? (i := 1462) (by decide +kernel), List.mem_of_getElem? (i := 1463) (by decide +kernel)⟩
theorem lw_p74 : lw_okq (⟨"SpanLayersModel", "readStep", "()V"⟩, 50) := ⟨⟨by decide +kernel, by decide +kernel⟩, List.mem_of_getElem? (i := 935) (by decide +kernel), List.mem_of_getElem? (i := 1466) (by decide +kernel), List.mem_of_getElem? (i := 1467) (by decide +kernel)⟩
theorem lw_p75 : lw_okq (⟨"SpanLayersModel", "stepWordHere", "()I"⟩, 50) := ⟨⟨by decide +kernel, by decide +kernel⟩, List.mem_of_getElem? (i := 935) (by decide +kernel), List.mem_of_getElem? (i := 1470) (by decide +kernel), List.mem_of_getElem? (i := 1471) (by decide +kernel)⟩
theorem lw_p76 : lw_okq (⟨"SpanLayersModel", "wants", "(I)V"⟩, 50) := ⟨⟨by decide +kernel, by decide +kernel⟩, List.mem_of_getElem? (i := 935) (by decide +kernel), List.mem_of_getElem? (i := 1474) (by decide +kernel), List.mem_of_getElem? (i := 1475) (by decide +kernel)⟩
theorem lw_p77 : lw_okq (⟨"SpanLayersModel", "readNotLess", "(I)I"⟩, 50) := ⟨⟨by decide +kernel, by decide +kernel⟩, List.mem_of_getElem? (i := 935) (by decide +kernel), List.mem_of_getElem? (i := 1478) (by decide +kernel), List.mem_of_getElem? (i := 1479) (by decide +kernel)⟩
theorem lw_p78 : lw_okq (⟨"SpanLayersModel", "changes", "(I)V"⟩, 50) := ⟨⟨by decide +kernel, by decide +kernel⟩, List.mem_of_getElem? (i := 935) (by decide +kernel), List.mem_of_getElem? (i := 1482) (by decide +kernel), List.mem_of_getElem? (i := 1483) (by decide +kernel)⟩
theorem lw_p79 : lw_okq (⟨"SpanLayersModel", "doesStep", "(I)V"⟩, 50) := ⟨⟨by decide +kernel, by decide +kernel⟩, List.mem_of_getElem? (i := 935) (by decide +kernel), List.mem_of_getElem? (i := 1486) (by decide +kernel), List.mem_of_getElem? (i := 1487) (by decide +kernel)⟩
def lw_privs_5 : List (MethodName × Nat) := [(⟨"SpanLayersModel", "goesOn", "(I)Z"⟩, 50), (⟨"SpanLayersModel", "readFigures", "(I)I"⟩, 50), (⟨"SpanLayersModel", "doneIs", "(I)V"⟩, 50), (⟨"SpanLayersModel", "readsOn", "()Z"⟩, 50), (⟨"SpanLayersModel", "popsWhile", "(II)V"⟩, 50), (⟨"SpanLayersModel", "heldBits", "()I"⟩, 50), (⟨"SpanLayersModel", "holds", "(I)Z"⟩, 50), (⟨"SpanLayersModel", "isTest", "(II)Z"⟩, 50), (⟨"SpanLayersModel", "numberOf", "(II)I"⟩, 50), (⟨"SpanLayersModel", "readChange", "()I"⟩, 50), (⟨"SpanLayersModel", "readStep", "()V"⟩, 50), (⟨"SpanLayersModel", "stepWordHere", "()I"⟩, 50), (⟨"SpanLayersModel", "wants", "(I)V"⟩, 50), (⟨"SpanLayersModel", "readNotLess", "(I)I"⟩, 50), (⟨"SpanLayersModel", "changes", "(I)V"⟩, 50), (⟨"SpanLayersModel", "doesStep", "(I)V"⟩, 50)]
theorem lw_r5 : ∀ q ∈ lw_privs_5, lw_okq q := List.forall_mem_cons.mpr ⟨lw_p64, List.forall_mem_cons.mpr ⟨lw_p65, List.forall_mem_cons.mpr ⟨lw_p66, List.forall_mem_cons.mpr ⟨lw_p67, List.forall_mem_cons.mpr ⟨lw_p68, List.forall_mem_cons.mpr ⟨lw_p69, List.forall_mem_cons.mpr ⟨lw_p70, List.forall_mem_cons.mpr ⟨lw_p71, List.forall_mem_cons.mpr ⟨lw_p72, List.forall_mem_cons.mpr ⟨lw_p73, List.forall_mem_cons.mpr ⟨lw_p74, List.forall_mem_cons.mpr ⟨lw_p75, List.forall_mem_cons.mpr ⟨lw_p76, List.forall_mem_cons.mpr ⟨lw_p77, List.forall_mem_cons.mpr ⟨lw_p78, List.forall_mem_cons.mpr ⟨lw_p79, fun _ h => absurd h List.not_mem_nil⟩⟩⟩⟩⟩⟩⟩⟩⟩⟩⟩⟩⟩⟩⟩⟩
theorem lw_p80 : lw_okq (⟨"SpanLayersModel", "readPart", "()V"⟩, 50) := ⟨⟨by decide +kernel, by decide +kernel⟩, List.mem_of_getElem? (i := 935) (by decide +kernel), List.mem_of_getElem? (i := 1497) (by decide +kernel), List.mem_of_getElem? (i := 1498) (by decide +kernel)⟩
theorem lw_p81 : lw_okq (⟨"SpanLayersModel", "writes", "(I)V"⟩, 50) := ⟨⟨by decide +kernel, by decide +kernel⟩, List.mem_of_getElem? (i := 935) (by decide +kernel), List.mem_of_getElem? (i := 1505) (by decide +kernel), List.mem_of_getElem? (i := 1506) (by decide +kernel)⟩
theorem lw_p82 : lw_okq (⟨"SpanLayersModel", "writesNumber", "(I)V"⟩, 50) := ⟨⟨by decide +kernel, by decide +kernel⟩, List.mem_of_getElem? (i := 935) (by decide +kernel), List.mem_of_getElem? (i := 1509) (by decide +kernel), List.mem_of_getElem? (i := 1510) (by decide +kernel)⟩
theorem lw_p83 : lw_okq (⟨"SpanLayersModel", "layerMany", "()I"⟩, 50) := ⟨⟨by decide +kernel, by decide +kernel⟩, List.mem_of_getElem? (i := 935) (by decide +kernel), List.mem_of_getElem? (i := 1521) (by decide +kernel), List.mem_of_getElem? (i := 1522) (by decide +kernel)⟩
theorem lw_p84 : lw_okq (⟨"SpanLayersModel", "sumOf", "(Z)I"⟩, 50) := ⟨⟨by decide +kernel, by decide +kernel⟩, List.mem_of_getElem? (i := 935) (by decide +kernel), List.mem_of_getElem? (i := 1525) (by decide +kernel), List.mem_of_getElem? (i := 1526) (by decide +kernel)⟩
def lw_privs_6 : List (MethodName × Nat) := [(⟨"SpanLayersModel", "readPart", "()V"⟩, 50), (⟨"SpanLayersModel", "writes", "(I)V"⟩, 50), (⟨"SpanLayersModel", "writesNumber", "(I)V"⟩, 50), (⟨"SpanLayersModel", "layerMany", "()I"⟩, 50), (⟨"SpanLayersModel", "sumOf", "(Z)I"⟩, 50)]
theorem lw_r6 : ∀ q ∈ lw_privs_6, lw_okq q := List.forall_mem_cons.mpr ⟨lw_p80, List.forall_mem_cons.mpr ⟨lw_p81, List.forall_mem_cons.mpr ⟨lw_p82, List.forall_mem_cons.mpr ⟨lw_p83, List.forall_mem_cons.mpr ⟨lw_p84, fun _ h => absurd h List.not_mem_nil⟩⟩⟩⟩⟩
def lw_privs : List (MethodName × Nat) := lw_privs_1 ++ (lw_privs_2 ++ (lw_privs_3 ++ (lw_privs_4 ++ (lw_privs_5 ++ (lw_privs_6)))))
def lw_tbl : List Cond := k2_sels lw_privs ++ tables_1
theorem lw_privs_ok : ∀ q ∈ lw_privs, lw_okq q := by
  show ∀ q ∈ lw_privs_1 ++ (lw_privs_2 ++ (lw_privs_3 ++ (lw_privs_4 ++ (lw_privs_5 ++ (lw_privs_6))))), lw_okq q
  exact List.forall_mem_append.mpr ⟨lw_r1, List.forall_mem_append.mpr ⟨lw_r2, List.forall_mem_append.mpr ⟨lw_r3, List.forall_mem_append.mpr ⟨lw_r4, List.forall_mem_append.mpr ⟨lw_r5, lw_r6⟩⟩⟩⟩⟩
-- ===== end of PART A; then your names; then what follows =====
end
section
/-! classes and their fields, cells by kinds (printed by wip/whole/gen/names.py) -/
def sl_T0 : List Cond := lw_tbl.filter goodWord
theorem sl_in1 {w : Cond} (i : Nat) (h : lw_tbl[i]? = some w) (hg : goodWord w = true) : w ∈ sl_T0 := List.mem_filter.mpr ⟨List.mem_of_getElem? h, hg⟩
theorem sl_inL {ws : List Cond} (ps : List Nat) (h : ws = ps.filterMap (fun i => lw_tbl[i]?)) (hg : ws.all goodWord = true) : ∀ w ∈ ws, w ∈ sl_T0 := by
  intro w hw
  have hg1 := List.all_eq_true.mp hg w hw
  rw [h] at hw
  obtain ⟨i, -, hi⟩ := List.mem_filterMap.mp hw
  exact sl_in1 i hi hg1
theorem sl_T0_good {w : Cond} (h : w ∈ sl_T0) : goodWord w = true := (List.mem_filter.mp h).2
theorem sl_T0_tbl {w : Cond} (h : w ∈ sl_T0) : w ∈ lw_tbl := (List.mem_filter.mp h).1
def sl_R0 : String := "SpanLayers$Change"
def sl_F0 : u_T := fun k => match k with
  | 0 => ("SpanLayers$Change", "kinds", "[I", true)
  | 1 => ("SpanLayers$Change", "firsts", "[I", true)
  | 2 => ("SpanLayers$Change", "seconds", "[I", true)
  | _ => ("SpanLayers$Change", "count", "I", false)
def sl_t0 : Nat → FieldType := fun k => match k with
  | 0 => .array .int
  | 1 => .array .int
  | 2 => .array .int
  | _ => .int
theorem sl_nm0 : ∀ a, a < 4 → ∀ b, b < 4 → a ≠ b → (sl_F0 a).2.1 ≠ (sl_F0 b).2.1 := by decide +kernel
theorem sl_ty0 : ∀ k, k < 4 → parseFieldDescriptor (sl_F0 k).2.2.1 = some (sl_t0 k) := by decide +kernel
theorem sl_i0 : ∀ w ∈ u_ws sl_R0 sl_F0 4, w ∈ sl_T0 := sl_inL [268, 270, 272, 274] (by decide +kernel) (by decide +kernel)
def sl_R1 : String := "SpanLayers$Choice"
def sl_F1 : u_T := fun k => match k with
  | 0 => ("SpanLayers$Choice", "numbers", "[I", true)
  | 1 => ("SpanLayers$Choice", "highs", "[I", true)
  | 2 => ("SpanLayers$Choice", "count", "I", false)
  | _ => ("SpanLayers$Choice", "best", "[I", true)
def sl_t1 : Nat → FieldType := fun k => match k with
  | 0 => .array .int
  | 1 => .array .int
  | 2 => .int
  | _ => .array .int
theorem sl_nm1 : ∀ a, a < 4 → ∀ b, b < 4 → a ≠ b → (sl_F1 a).2.1 ≠ (sl_F1 b).2.1 := by decide +kernel
theorem sl_ty1 : ∀ k, k < 4 → parseFieldDescriptor (sl_F1 k).2.2.1 = some (sl_t1 k) := by decide +kernel
theorem sl_i1 : ∀ w ∈ u_ws sl_R1 sl_F1 4, w ∈ sl_T0 := sl_inL [219, 221, 223, 225] (by decide +kernel) (by decide +kernel)
def sl_R2 : String := "SpanLayers$Condition"
def sl_F2 : u_T := fun k => match k with
  | _ => ("", "", "", false)
def sl_t2 : Nat → FieldType := fun k => match k with
  | _ => .int
theorem sl_nm2 : ∀ a, a < 0 → ∀ b, b < 0 → a ≠ b → (sl_F2 a).2.1 ≠ (sl_F2 b).2.1 := by decide +kernel
theorem sl_ty2 : ∀ k, k < 0 → parseFieldDescriptor (sl_F2 k).2.2.1 = some (sl_t2 k) := by decide +kernel
theorem sl_i2 : ∀ w ∈ u_ws sl_R2 sl_F2 0, w ∈ sl_T0 := sl_inL [] (by decide +kernel) (by decide +kernel)
def sl_R3 : String := "SpanLayers$Coverage"
def sl_F3 : u_T := fun k => match k with
  | 0 => ("SpanLayers$Coverage", "first", "[I", true)
  | 1 => ("SpanLayers$Coverage", "last", "[I", true)
  | 2 => ("SpanLayers$Coverage", "spans", "[I", true)
  | _ => ("SpanLayers$Coverage", "pieces", "I", false)
def sl_t3 : Nat → FieldType := fun k => match k with
  | 0 => .array .int
  | 1 => .array .int
  | 2 => .array .int
  | _ => .int
theorem sl_nm3 : ∀ a, a < 4 → ∀ b, b < 4 → a ≠ b → (sl_F3 a).2.1 ≠ (sl_F3 b).2.1 := by decide +kernel
theorem sl_ty3 : ∀ k, k < 4 → parseFieldDescriptor (sl_F3 k).2.2.1 = some (sl_t3 k) := by decide +kernel
theorem sl_i3 : ∀ w ∈ u_ws sl_R3 sl_F3 4, w ∈ sl_T0 := sl_inL [196, 198, 200, 202] (by decide +kernel) (by decide +kernel)
def sl_R4 : String := "SpanLayers$Cursor"
def sl_F4 : u_T := fun k => match k with
  | 0 => ("SpanLayers$Cursor", "isOpen", "Z", false)
  | 1 => ("SpanLayers$Cursor", "order", "I", false)
  | 2 => ("SpanLayers$Cursor", "hasTold", "Z", false)
  | _ => ("SpanLayers$Cursor", "last", "LSpanLayers$Span;", true)
def sl_t4 : Nat → FieldType := fun k => match k with
  | 0 => .boolean
  | 1 => .int
  | 2 => .boolean
  | _ => .object "SpanLayers$Span"
theorem sl_nm4 : ∀ a, a < 4 → ∀ b, b < 4 → a ≠ b → (sl_F4 a).2.1 ≠ (sl_F4 b).2.1 := by decide +kernel
theorem sl_ty4 : ∀ k, k < 4 → parseFieldDescriptor (sl_F4 k).2.2.1 = some (sl_t4 k) := by decide +kernel
theorem sl_i4 : ∀ w ∈ u_ws sl_R4 sl_F4 4, w ∈ sl_T0 := sl_inL [330, 332, 334, 336] (by decide +kernel) (by decide +kernel)
def sl_R5 : String := "SpanLayers$Index"
def sl_F5 : u_T := fun k => match k with
  | 0 => ("SpanLayers$Index", "spans", "[LSpanLayers$Span;", true)
  | _ => ("SpanLayers$Index", "sorted", "[LSpanLayers$Span;", true)
def sl_t5 : Nat → FieldType := fun k => match k with
  | 0 => .array (.object "SpanLayers$Span")
  | _ => .array (.object "SpanLayers$Span")
theorem sl_nm5 : ∀ a, a < 2 → ∀ b, b < 2 → a ≠ b → (sl_F5 a).2.1 ≠ (sl_F5 b).2.1 := by decide +kernel
theorem sl_ty5 : ∀ k, k < 2 → parseFieldDescriptor (sl_F5 k).2.2.1 = some (sl_t5 k) := by decide +kernel
theorem sl_i5 : ∀ w ∈ u_ws sl_R5 sl_F5 2, w ∈ sl_T0 := sl_inL [177, 179] (by decide +kernel) (by decide +kernel)
def sl_R6 : String := "SpanLayers$Paper"
def sl_F6 : u_T := fun k => match k with
  | 0 => ("SpanLayers$Paper", "bytes", "[I", true)
  | _ => ("SpanLayers$Paper", "used", "I", false)
def sl_t6 : Nat → FieldType := fun k => match k with
  | 0 => .array .int
  | _ => .int
theorem sl_nm6 : ∀ a, a < 2 → ∀ b, b < 2 → a ≠ b → (sl_F6 a).2.1 ≠ (sl_F6 b).2.1 := by decide +kernel
theorem sl_ty6 : ∀ k, k < 2 → parseFieldDescriptor (sl_F6 k).2.2.1 = some (sl_t6 k) := by decide +kernel
theorem sl_i6 : ∀ w ∈ u_ws sl_R6 sl_F6 2, w ∈ sl_T0 := sl_inL [306, 308] (by decide +kernel) (by decide +kernel)
def sl_R7 : String := "SpanLayers$Parts"
def sl_F7 : u_T := fun k => match k with
  | 0 => ("SpanLayers$Parts", "lows", "[I", true)
  | 1 => ("SpanLayers$Parts", "highs", "[I", true)
  | 2 => ("SpanLayers$Parts", "weights", "[I", true)
  | _ => ("SpanLayers$Parts", "count", "I", false)
def sl_t7 : Nat → FieldType := fun k => match k with
  | 0 => .array .int
  | 1 => .array .int
  | 2 => .array .int
  | _ => .int
theorem sl_nm7 : ∀ a, a < 4 → ∀ b, b < 4 → a ≠ b → (sl_F7 a).2.1 ≠ (sl_F7 b).2.1 := by decide +kernel
theorem sl_ty7 : ∀ k, k < 4 → parseFieldDescriptor (sl_F7 k).2.2.1 = some (sl_t7 k) := by decide +kernel
theorem sl_i7 : ∀ w ∈ u_ws sl_R7 sl_F7 4, w ∈ sl_T0 := sl_inL [287, 289, 291, 293] (by decide +kernel) (by decide +kernel)
def sl_R8 : String := "SpanLayers$Row"
def sl_F8 : u_T := fun k => match k with
  | 0 => ("SpanLayers$Row", "places", "[I", true)
  | 1 => ("SpanLayers$Row", "isHeld", "Z", false)
  | _ => ("SpanLayers$Row", "size", "I", false)
def sl_t8 : Nat → FieldType := fun k => match k with
  | 0 => .array .int
  | 1 => .boolean
  | _ => .int
theorem sl_nm8 : ∀ a, a < 3 → ∀ b, b < 3 → a ≠ b → (sl_F8 a).2.1 ≠ (sl_F8 b).2.1 := by decide +kernel
theorem sl_ty8 : ∀ k, k < 3 → parseFieldDescriptor (sl_F8 k).2.2.1 = some (sl_t8 k) := by decide +kernel
theorem sl_i8 : ∀ w ∈ u_ws sl_R8 sl_F8 3, w ∈ sl_T0 := sl_inL [349, 351, 353] (by decide +kernel) (by decide +kernel)
def sl_R9 : String := "SpanLayers$Span"
def sl_F9 : u_T := fun k => match k with
  | 0 => ("SpanLayers$Span", "number", "I", false)
  | 1 => ("SpanLayers$Span", "isIn", "Z", false)
  | 2 => ("SpanLayers$Span", "low", "I", false)
  | 3 => ("SpanLayers$Span", "high", "I", false)
  | 4 => ("SpanLayers$Span", "weight", "I", false)
  | _ => ("SpanLayers$Span", "layer", "I", false)
def sl_t9 : Nat → FieldType := fun k => match k with
  | 0 => .int
  | 1 => .boolean
  | 2 => .int
  | 3 => .int
  | 4 => .int
  | _ => .int
theorem sl_nm9 : ∀ a, a < 6 → ∀ b, b < 6 → a ≠ b → (sl_F9 a).2.1 ≠ (sl_F9 b).2.1 := by decide +kernel
theorem sl_ty9 : ∀ k, k < 6 → parseFieldDescriptor (sl_F9 k).2.2.1 = some (sl_t9 k) := by decide +kernel
theorem sl_i9 : ∀ w ∈ u_ws sl_R9 sl_F9 6, w ∈ sl_T0 := sl_inL [154, 156, 158, 160, 162, 164] (by decide +kernel) (by decide +kernel)
def sl_R10 : String := "SpanLayers$Tape"
def sl_F10 : u_T := fun k => match k with
  | 0 => ("SpanLayers$Tape", "bytes", "[I", true)
  | 1 => ("SpanLayers$Tape", "used", "I", false)
  | 2 => ("SpanLayers$Tape", "at", "I", false)
  | _ => ("SpanLayers$Tape", "fault", "I", false)
def sl_t10 : Nat → FieldType := fun k => match k with
  | 0 => .array .int
  | 1 => .int
  | 2 => .int
  | _ => .int
theorem sl_nm10 : ∀ a, a < 4 → ∀ b, b < 4 → a ≠ b → (sl_F10 a).2.1 ≠ (sl_F10 b).2.1 := by decide +kernel
theorem sl_ty10 : ∀ k, k < 4 → parseFieldDescriptor (sl_F10 k).2.2.1 = some (sl_t10 k) := by decide +kernel
theorem sl_i10 : ∀ w ∈ u_ws sl_R10 sl_F10 4, w ∈ sl_T0 := sl_inL [242, 244, 246, 248] (by decide +kernel) (by decide +kernel)
def sl_R11 : String := "SpanLayers"
def sl_F11 : u_T := fun k => match k with
  | 0 => ("SpanLayers", "index", "LSpanLayers$Index;", true)
  | 1 => ("SpanLayers", "coverage", "LSpanLayers$Coverage;", true)
  | 2 => ("SpanLayers", "choice", "LSpanLayers$Choice;", true)
  | 3 => ("SpanLayers", "cursors", "[LSpanLayers$Cursor;", true)
  | 4 => ("SpanLayers", "tape", "LSpanLayers$Tape;", true)
  | 5 => ("SpanLayers", "condition", "LSpanLayers$Condition;", true)
  | 6 => ("SpanLayers", "steps", "LSpanLayers$Change;", true)
  | 7 => ("SpanLayers", "parts", "LSpanLayers$Parts;", true)
  | 8 => ("SpanLayers", "sheet", "LSpanLayers$Paper;", true)
  | 9 => ("SpanLayers", "rows", "[LSpanLayers$Row;", true)
  | 10 => ("SpanLayers", "kept", "LSpanLayers$Index;", true)
  | _ => ("SpanLayers", "isKept", "Z", false)
def sl_t11 : Nat → FieldType := fun k => match k with
  | 0 => .object "SpanLayers$Index"
  | 1 => .object "SpanLayers$Coverage"
  | 2 => .object "SpanLayers$Choice"
  | 3 => .array (.object "SpanLayers$Cursor")
  | 4 => .object "SpanLayers$Tape"
  | 5 => .object "SpanLayers$Condition"
  | 6 => .object "SpanLayers$Change"
  | 7 => .object "SpanLayers$Parts"
  | 8 => .object "SpanLayers$Paper"
  | 9 => .array (.object "SpanLayers$Row")
  | 10 => .object "SpanLayers$Index"
  | _ => .boolean
theorem sl_nm11 : ∀ a, a < 12 → ∀ b, b < 12 → a ≠ b → (sl_F11 a).2.1 ≠ (sl_F11 b).2.1 := by decide +kernel
theorem sl_ty11 : ∀ k, k < 12 → parseFieldDescriptor (sl_F11 k).2.2.1 = some (sl_t11 k) := by decide +kernel
theorem sl_i11 : ∀ w ∈ u_ws sl_R11 sl_F11 12, w ∈ sl_T0 := sl_inL [368, 370, 372, 374, 376, 378, 380, 382, 384, 386, 388, 390] (by decide +kernel) (by decide +kernel)
def sl_R12 : String := "SpanLayersModel"
def sl_F12 : u_T := fun k => match k with
  | 0 => ("SpanLayersModel", "lows", "[I", true)
  | 1 => ("SpanLayersModel", "highs", "[I", true)
  | 2 => ("SpanLayersModel", "weights", "[I", true)
  | 3 => ("SpanLayersModel", "isIn", "[I", true)
  | 4 => ("SpanLayersModel", "layers", "[I", true)
  | 5 => ("SpanLayersModel", "thrown", "I", false)
  | 6 => ("SpanLayersModel", "ordered", "[I", true)
  | 7 => ("SpanLayersModel", "orders", "[I", true)
  | 8 => ("SpanLayersModel", "toldOf", "[I", true)
  | 9 => ("SpanLayersModel", "toldFirst", "[I", true)
  | 10 => ("SpanLayersModel", "toldSecond", "[I", true)
  | 11 => ("SpanLayersModel", "depths", "[I", true)
  | 12 => ("SpanLayersModel", "loads", "[I", true)
  | 13 => ("SpanLayersModel", "runs", "I", false)
  | 14 => ("SpanLayersModel", "runFrom", "[I", true)
  | 15 => ("SpanLayersModel", "runTo", "[I", true)
  | 16 => ("SpanLayersModel", "many0", "I", false)
  | 17 => ("SpanLayersModel", "taken", "[I", true)
  | 18 => ("SpanLayersModel", "bests", "[I", true)
  | 19 => ("SpanLayersModel", "tape", "[I", true)
  | 20 => ("SpanLayersModel", "size", "I", false)
  | 21 => ("SpanLayersModel", "place0", "I", false)
  | 22 => ("SpanLayersModel", "isBad", "Z", false)
  | 23 => ("SpanLayersModel", "done0", "I", false)
  | 24 => ("SpanLayersModel", "doneWhat", "[I", true)
  | 25 => ("SpanLayersModel", "testWord", "[I", true)
  | 26 => ("SpanLayersModel", "testSign", "[I", true)
  | 27 => ("SpanLayersModel", "testNumber", "[I", true)
  | 28 => ("SpanLayersModel", "waiting", "I", false)
  | 29 => ("SpanLayersModel", "waits", "[I", true)
  | 30 => ("SpanLayersModel", "brackets", "I", false)
  | 31 => ("SpanLayersModel", "held0", "[Z", true)
  | 32 => ("SpanLayersModel", "steps", "I", false)
  | 33 => ("SpanLayersModel", "stepWhat", "[I", true)
  | 34 => ("SpanLayersModel", "stepA", "[I", true)
  | 35 => ("SpanLayersModel", "stepB", "[I", true)
  | 36 => ("SpanLayersModel", "lowNow", "I", false)
  | 37 => ("SpanLayersModel", "highNow", "I", false)
  | 38 => ("SpanLayersModel", "weightNow", "I", false)
  | 39 => ("SpanLayersModel", "parts", "I", false)
  | 40 => ("SpanLayersModel", "partLow", "[I", true)
  | 41 => ("SpanLayersModel", "partHigh", "[I", true)
  | 42 => ("SpanLayersModel", "partWeight", "[I", true)
  | 43 => ("SpanLayersModel", "paper0", "[I", true)
  | 44 => ("SpanLayersModel", "paperSize", "I", false)
  | 45 => ("SpanLayersModel", "holdsList", "[Z", true)
  | 46 => ("SpanLayersModel", "listMany", "[I", true)
  | 47 => ("SpanLayersModel", "listed", "[I", true)
  | 48 => ("SpanLayersModel", "hasImage", "Z", false)
  | _ => ("SpanLayersModel", "imaged", "[I", true)
def sl_t12 : Nat → FieldType := fun k => match k with
  | 0 => .array .int
  | 1 => .array .int
  | 2 => .array .int
  | 3 => .array .int
  | 4 => .array .int
  | 5 => .int
  | 6 => .array .int
  | 7 => .array .int
  | 8 => .array .int
  | 9 => .array .int
  | 10 => .array .int
  | 11 => .array .int
  | 12 => .array .int
  | 13 => .int
  | 14 => .array .int
  | 15 => .array .int
  | 16 => .int
  | 17 => .array .int
  | 18 => .array .int
  | 19 => .array .int
  | 20 => .int
  | 21 => .int
  | 22 => .boolean
  | 23 => .int
  | 24 => .array .int
  | 25 => .array .int
  | 26 => .array .int
  | 27 => .array .int
  | 28 => .int
  | 29 => .array .int
  | 30 => .int
  | 31 => .array .boolean
  | 32 => .int
  | 33 => .array .int
  | 34 => .array .int
  | 35 => .array .int
  | 36 => .int
  | 37 => .int
  | 38 => .int
  | 39 => .int
  | 40 => .array .int
  | 41 => .array .int
  | 42 => .array .int
  | 43 => .array .int
  | 44 => .int
  | 45 => .array .boolean
  | 46 => .array .int
  | 47 => .array .int
  | 48 => .boolean
  | _ => .array .int
theorem sl_nm12 : ∀ a, a < 50 → ∀ b, b < 50 → a ≠ b → (sl_F12 a).2.1 ≠ (sl_F12 b).2.1 := by decide +kernel
theorem sl_ty12 : ∀ k, k < 50 → parseFieldDescriptor (sl_F12 k).2.2.1 = some (sl_t12 k) := by decide +kernel
theorem sl_i12 : ∀ w ∈ u_ws sl_R12 sl_F12 50, w ∈ sl_T0 := sl_inL [1075, 1077, 1079, 1081, 1083, 1085, 1087, 1089, 1091, 1093, 1095, 1097, 1099, 1101, 1103, 1105, 1107, 1109, 1111, 1113, 1115, 1117, 1119, 1121, 1123, 1125, 1127, 1129, 1131, 1133, 1135, 1137, 1139, 1141, 1143, 1145, 1147, 1149, 1151, 1153, 1155, 1157, 1159, 1161, 1163, 1165, 1167, 1169, 1171, 1173] (by decide +kernel) (by decide +kernel)
abbrev sl_cl : List vw_C := [(sl_R0, sl_F0, 4), (sl_R1, sl_F1, 4), (sl_R2, sl_F2, 0), (sl_R3, sl_F3, 4), (sl_R4, sl_F4, 4), (sl_R5, sl_F5, 2), (sl_R6, sl_F6, 2), (sl_R7, sl_F7, 4), (sl_R8, sl_F8, 3), (sl_R9, sl_F9, 6), (sl_R10, sl_F10, 4), (sl_R11, sl_F11, 12), (sl_R12, sl_F12, 50)]
def sl_N : Nat := 139
def sl_kinds : List Nat := [11, 5, 22, 23, 9, 9, 9, 9, 9, 9, 9, 9, 9, 9, 9, 9, 9, 9, 9, 9, 9, 9, 9, 9, 9, 9, 9, 9, 9, 9, 9, 9, 9, 9, 3, 20, 20, 20, 1, 20, 20, 20, 24, 10, 20, 2, 0, 20, 20, 20, 7, 20, 20, 20, 6, 20, 25, 5, 22, 23, 9, 9, 9, 9, 9, 9, 9, 9, 9, 9, 9, 9, 9, 9, 9, 9, 9, 9, 9, 9, 9, 9, 9, 9, 9, 9, 9, 9, 9, 9, 4, 9, 4, 9, 4, 9, 8, 20, 8, 20, 8, 20, 8, 20, 12, 20, 20, 20, 20, 20, 20, 20, 20, 20, 20, 20, 20, 20, 20, 20, 20, 20, 20, 20, 20, 20, 20, 21, 20, 20, 20, 20, 20, 20, 20, 21, 20, 20, 20]
def sl_lens : List Nat := [0, 0, 30, 30, 0, 0, 0, 0, 0, 0, 0, 0, 0, 0, 0, 0, 0, 0, 0, 0, 0, 0, 0, 0, 0, 0, 0, 0, 0, 0, 0, 0, 0, 0, 0, 30, 30, 30, 0, 30, 30, 31, 3, 0, 80, 0, 0, 5, 5, 5, 0, 20, 20, 20, 0, 360, 4, 0, 30, 30, 0, 0, 0, 0, 0, 0, 0, 0, 0, 0, 0, 0, 0, 0, 0, 0, 0, 0, 0, 0, 0, 0, 0, 0, 0, 0, 0, 0, 0, 0, 0, 0, 0, 0, 0, 0, 0, 40, 0, 40, 0, 40, 0, 40, 0, 30, 30, 30, 30, 30, 30, 3, 3, 3, 3, 1000, 1000, 31, 31, 30, 1001, 80, 90, 90, 90, 90, 90, 90, 5, 5, 5, 27, 27, 27, 400, 4, 4, 160, 120]
def sl_ft : List (List (Nat × Nat × Nat)) := [[(2, 20, 1), (2, 20, 2), (2, 20, 3), (0, 0, 0)], [(2, 20, 1), (2, 20, 2), (0, 0, 0), (2, 20, 3)], [], [(2, 20, 1), (2, 20, 2), (2, 20, 3), (0, 0, 0)], [(1, 0, 0), (0, 0, 0), (1, 0, 0), (2, 9, 1)], [(2, 22, 1), (2, 23, 2)], [(2, 20, 1), (0, 0, 0)], [(2, 20, 1), (2, 20, 2), (2, 20, 3), (0, 0, 0)], [(2, 20, 1), (1, 0, 0), (0, 0, 0)], [(0, 0, 0), (1, 0, 0), (0, 0, 0), (0, 0, 0), (0, 0, 0), (0, 0, 0)], [(2, 20, 1), (0, 0, 0), (0, 0, 0), (0, 0, 0)], [(2, 5, 1), (2, 3, 34), (2, 1, 38), (2, 24, 42), (2, 10, 43), (2, 2, 45), (2, 0, 46), (2, 7, 50), (2, 6, 54), (2, 25, 56), (2, 5, 57), (1, 0, 0)], [(2, 20, 1), (2, 20, 2), (2, 20, 3), (2, 20, 4), (2, 20, 5), (0, 0, 0), (2, 20, 6), (2, 20, 7), (2, 20, 8), (2, 20, 9), (2, 20, 10), (2, 20, 11), (2, 20, 12), (0, 0, 0), (2, 20, 13), (2, 20, 14), (0, 0, 0), (2, 20, 15), (2, 20, 16), (2, 20, 17), (0, 0, 0), (0, 0, 0), (1, 0, 0), (0, 0, 0), (2, 20, 18), (2, 20, 19), (2, 20, 20), (2, 20, 21), (0, 0, 0), (2, 20, 22), (0, 0, 0), (2, 21, 23), (0, 0, 0), (2, 20, 24), (2, 20, 25), (2, 20, 26), (0, 0, 0), (0, 0, 0), (0, 0, 0), (0, 0, 0), (2, 20, 27), (2, 20, 28), (2, 20, 29), (2, 20, 30), (0, 0, 0), (2, 21, 31), (2, 20, 32), (2, 20, 33), (1, 0, 0), (2, 20, 34)]]
end
section
/-! THE SMALL MACHINE: values (int, long, reference by class and number, null), memory by cells and places, the world of all cells -/
abbrev sl_V : Type := Int32 ⊕ (Int64 ⊕ Option (Nat × Nat))
abbrev sl_M : Type := Nat → Nat → Int32
abbrev sl_L : Type := List (Option sl_V)
abbrev sl_Qt : Type := Option sl_V → sl_M → Prop
abbrev sl_PT : Type := List sl_V → sl_M → sl_Qt → Prop
abbrev sl_It : Type := sl_L → List sl_V → sl_M → Prop
abbrev sl_Ent : Type := Nat × Instr × Nat × Int32 × List Nat × List (Int32 × Nat) × Bool
abbrev sl_Ct : Type := Nat × Nat × Nat × sl_PT
/-- launch, class ids, slots of fields, classes of arrays, first address of the world, addresses of what lies outside it (90: texts, 92: their bytes) -/
abbrev sl_G : Type := Launch × (Nat → ClassId) × (Nat → Nat → Nat) × (Nat → ClassId) × Nat × (Nat → Nat → Nat)
def sl_kd (o : Nat) : Nat := sl_kinds.getD o 99
def sl_len (o : Nat) : Nat := sl_lens.getD o 0
def sl_fi (c k : Nat) : Nat × Nat × Nat := (sl_ft.getD c []).getD k (9, 0, 0)
def sl_nf (c : Nat) : Nat := (sl_ft.getD c []).length
def sl_bz (x : Int32) : Int32 := if x = 0 then 0 else 1
def sl_up (μ : sl_M) (o k : Nat) (v : Int32) : sl_M := fun o' k' => if o' = o ∧ k' = k then v else μ o' k'
def sl_gD (g : sl_G) : va_G := (g.2.1, g.2.2.1)
def sl_ca (g : sl_G) : Nat → ClassId := g.2.2.2.1
def sl_b (g : sl_G) : Nat := g.2.2.2.2.1
def sl_gs (g : sl_G) : Nat → Nat → Nat := g.2.2.2.2.2
def sl_A (g : sl_G) : Nat → Prop := fun q => sl_b g ≤ q
def sl_ad (g : sl_G) (c o : Nat) : Nat := if c < 90 then sl_b g + o else sl_gs g c o
def sl_tv (g : sl_G) : sl_V → Value
  | .inl x => .int x
  | .inr (.inl x) => .long x
  | .inr (.inr none) => .null
  | .inr (.inr (some q)) => .ref (sl_ad g q.1 q.2)
def sl_wk : sl_V → Prop
  | .inr (.inr (some q)) => q.1 < 90 → sl_kd q.2 = q.1
  | _ => True
def sl_rf (f : Nat → Option Nat) : (Nat → Int32) ⊕ (Nat → Int64) ⊕ (Nat → UInt32) ⊕ (Nat → UInt64) ⊕ (Nat → Option Nat) := .inr (.inr (.inr (.inr f)))
def sl_fv (g : sl_G) (μ : sl_M) (c o k : Nat) : Value := match sl_fi c k with
  | (0, _, _) => .int (μ o k)
  | (1, _, _) => .int (sl_bz (μ o k))
  | (_, _, off) => .ref (sl_b g + (o + off))
def sl_E (g : sl_G) (μ : sl_M) (o : Nat) : va_E := match sl_kd o with
  | 20 => .inl (sl_ca g 0, sl_len o, .inl (μ o))
  | 21 => .inl (sl_ca g 1, sl_len o, .inl (fun i => sl_bz (μ o i)))
  | 22 => .inl (sl_ca g 2, sl_len o, sl_rf (fun i => some (sl_b g + (o + 2 + i))))
  | 23 => .inl (sl_ca g 2, sl_len o, sl_rf (fun i => some (sl_b g + (μ o i).toNatClampNeg)))
  | 24 => .inl (sl_ca g 3, sl_len o, sl_rf (fun i => some (sl_b g + (o + 48 + 2 * i))))
  | 25 => .inl (sl_ca g 4, sl_len o, sl_rf (fun i => some (sl_b g + (o + 40 + 2 * i))))
  | c => .inr (c, (List.range (sl_nf c)).map (sl_fv g μ c o))
def sl_wl (g : sl_G) (μ : sl_M) : va_W := (List.range sl_N).map (fun o => (sl_b g + o, sl_E g μ o))
def sl_Wd (g : sl_G) (μ : sl_M) (H : Heap) : Prop := va_P (sl_gD g) sl_cl (sl_wl g μ) H
def sl_tys (g : sl_G) : List (ClassId × FieldType) := [(sl_ca g 0, .int), (sl_ca g 1, .boolean), (sl_ca g 2, .object sl_R9), (sl_ca g 3, .object sl_R4), (sl_ca g 4, .object sl_R8)]
theorem sl_kd_lt {o : Nat} (h : sl_kd o ≠ 99) : o < sl_N := by
  rcases Nat.lt_or_ge o sl_N with q | q
  · exact q
  · refine absurd ?_ h
    unfold sl_kd
    rw [List.getD_eq_getElem?_getD, List.getElem?_eq_none (show sl_kinds.length ≤ o from Nat.le_trans (show sl_kinds.length ≤ sl_N by decide +kernel) q)]
    rfl
theorem sl_wl_get (g : sl_G) (μ : sl_M) {o : Nat} (h : o < sl_N) : (sl_wl g μ)[o]? = some (sl_b g + o, sl_E g μ o) := by
  unfold sl_wl
  rw [List.getElem?_map, List.getElem?_range h]
  rfl
theorem sl_wl_len (g : sl_G) (μ : sl_M) : (sl_wl g μ).length = sl_N := by
  unfold sl_wl
  rw [List.length_map, List.length_range]
theorem sl_wl_inv {g : sl_G} {μ : sl_M} {o : Nat} {q : Nat × va_E} (h : (sl_wl g μ)[o]? = some q) : o < sl_N ∧ q = (sl_b g + o, sl_E g μ o) := by
  have h1 : o < (sl_wl g μ).length := (List.getElem?_eq_some_iff.mp h).1
  rw [sl_wl_len] at h1
  rw [sl_wl_get g μ h1] at h
  exact ⟨h1, (Option.some.inj h).symm⟩
theorem sl_wl_D (g : sl_G) (μ : sl_M) : va_D (sl_A g) (sl_wl g μ) := by
  refine ⟨fun i j p q hi hj hpq => ?_, fun k q hk => ?_⟩
  · obtain ⟨-, rfl⟩ := sl_wl_inv hi
    obtain ⟨-, rfl⟩ := sl_wl_inv hj
    exact Nat.add_left_cancel hpq
  · obtain ⟨-, rfl⟩ := sl_wl_inv hk
    exact Nat.le_add_right _ _
theorem sl_E_congr {g : sl_G} {μ μ' : sl_M} {o : Nat} (h : μ' o = μ o) : sl_E g μ' o = sl_E g μ o := by
  unfold sl_E sl_fv
  rw [h]
theorem sl_wl_set {g : sl_G} {μ μ' : sl_M} {o : Nat} {e : va_E} (ho : o < sl_N) (he : sl_E g μ' o = e) (hr : ∀ o', o' ≠ o → μ' o' = μ o') : (sl_wl g μ).set o (sl_b g + o, e) = sl_wl g μ' := by
  apply List.ext_getElem?
  intro i
  rw [List.getElem?_set]
  by_cases hi : o = i
  · subst hi
    rw [if_pos rfl, if_pos (by rw [sl_wl_len]; exact ho), sl_wl_get g μ' ho, he]
  · rw [if_neg hi]
    rcases Nat.lt_or_ge i sl_N with q | q
    · rw [sl_wl_get g μ q, sl_wl_get g μ' q, sl_E_congr (hr i (fun h => hi h.symm))]
    · rw [List.getElem?_eq_none (by rw [sl_wl_len]; exact q), List.getElem?_eq_none (by rw [sl_wl_len]; exact q)]
theorem sl_up_row {μ : sl_M} {o k : Nat} {v : Int32} {o' : Nat} (h : o' ≠ o) : sl_up μ o k v o' = μ o' := by
  funext k'
  unfold sl_up
  rw [if_neg (fun q => h q.1)]
theorem sl_up_at {μ : sl_M} {o k : Nat} {v : Int32} : sl_up μ o k v o = upd (μ o) k v := by
  funext k'
  unfold sl_up upd
  by_cases h : k' = k
  · rw [if_pos ⟨rfl, h⟩, if_pos h]
  · rw [if_neg (fun q => h q.2), if_neg h]
/-! locals -/
def sl_nth : sl_L → Nat → Option sl_V
  | [], _ => none
  | a :: _, 0 => a
  | _ :: l, n + 1 => sl_nth l n
def sl_get (cst lv : sl_L) (i : Nat) : Option sl_V := match sl_nth cst i with
  | some v => some v
  | none => sl_nth lv i
def sl_set : sl_L → Nat → Option sl_V → sl_L
  | [], _, _ => []
  | _ :: l, 0, v => v :: l
  | a :: l, n + 1, v => a :: sl_set l n v
def sl_isJ : Option sl_V → Bool
  | some (.inr (.inl _)) => true
  | _ => false
/-- whether a place may be written: it is no constant one, no long begins just ahead of it -/
def sl_wr (cst lv : sl_L) (i : Nat) : Bool := (sl_nth cst i).isNone && (match i with
  | 0 => true
  | j + 1 => !(sl_isJ (sl_get cst lv j)))
def sl_lh (g : sl_G) (ls : Array Slot) (nL : Nat) (cst lv : sl_L) : Prop := ls.size = nL ∧ lv_wf ls ∧ ∀ (i : Nat) (v : sl_V), sl_get cst lv i = some v → ls[i]? = some (.val (sl_tv g v))
def sl_prs (g : sl_G) (cst lv : sl_L) (nL : Nat) : List (Nat × Value) := (List.range nL).filterMap (fun i => (sl_get cst lv i).map (fun v => (i, sl_tv g v)))
theorem sl_nth_set {l : sl_L} {i : Nat} {v : Option sl_V} {j : Nat} (h : j ≠ i) : sl_nth (sl_set l i v) j = sl_nth l j := by
  induction l generalizing i j with
  | nil => rfl
  | cons a l ih =>
    cases i with
    | zero =>
      cases j with
      | zero => exact absurd rfl h
      | succ j => rfl
    | succ i =>
      cases j with
      | zero => rfl
      | succ j => exact ih (fun q => h (by rw [q]))
theorem sl_nth_set_self {l : sl_L} {i : Nat} {v : Option sl_V} {w : sl_V} (h : sl_nth (sl_set l i v) i = some w) : v = some w := by
  induction l generalizing i with
  | nil => cases h
  | cons a l ih =>
    cases i with
    | zero => exact h
    | succ i => exact ih h
theorem sl_lh.has {g : sl_G} {ls : Array Slot} {nL : Nat} {cst lv : sl_L} (h : sl_lh g ls nL cst lv) : lv_has ls nL (sl_prs g cst lv nL) := by
  refine ⟨h.1, h.2.1, fun q hq => ?_⟩
  obtain ⟨i, -, hi⟩ := List.mem_filterMap.mp hq
  cases hg : sl_get cst lv i with
  | none => rw [hg] at hi; cases hi
  | some v =>
    rw [hg] at hi
    cases hi
    exact h.2.2 i v hg
theorem sl_prs_mem {g : sl_G} {cst lv : sl_L} {nL i : Nat} {v : sl_V} (hi : i < nL) (h : sl_get cst lv i = some v) : (i, sl_tv g v) ∈ sl_prs g cst lv nL :=
  List.mem_filterMap.mpr ⟨i, List.mem_range.mpr hi, by rw [h]; rfl⟩
theorem sl_tv_cat {g : sl_G} {v : sl_V} : (sl_tv g v).category = 2 ↔ sl_isJ (some v) = true := by
  match v with
  | .inl x => exact ⟨(fun h => by cases h), (fun h => by cases h)⟩
  | .inr (.inl x) => exact ⟨fun _ => rfl, fun _ => rfl⟩
  | .inr (.inr none) => exact ⟨(fun h => by cases h), (fun h => by cases h)⟩
  | .inr (.inr (some q)) => exact ⟨(fun h => by cases h), (fun h => by cases h)⟩
theorem sl_lh.store {g : sl_G} {ls ls' : Array Slot} {nL : Nat} {cst lv : sl_L} {i : Nat} {v : sl_V} (h : sl_lh g ls nL cst lv) (hw : sl_wr cst lv i = true)
    (h' : lv_has ls' nL ((i, sl_tv g v) :: (sl_prs g cst lv nL).filter (fun q => !(q.1 == i) && !(q.1 + 1 == i && q.2.category == 2)))) : sl_lh g ls' nL cst (sl_set lv i (some v)) := by
  unfold sl_wr at hw
  rw [Bool.and_eq_true] at hw
  have hc : sl_nth cst i = none := Option.isNone_iff_eq_none.mp hw.1
  refine ⟨h'.1, h'.2.1, fun j w hj => ?_⟩
  by_cases hji : j = i
  · subst hji
    unfold sl_get at hj
    rw [hc] at hj
    have hv := sl_nth_set_self hj
    cases hv
    exact h'.2.2 _ List.mem_cons_self
  · have hj2 : sl_get cst lv j = some w := by
      unfold sl_get at hj ⊢
      rw [sl_nth_set hji] at hj
      exact hj
    have hlt : j < nL := by
      have := h.2.2 j w hj2
      rw [← h.1]
      exact (Array.getElem?_eq_some_iff.mp this).1
    refine h'.2.2 (j, sl_tv g w) (List.mem_cons_of_mem _ (List.mem_filter.mpr ⟨sl_prs_mem hlt hj2, ?_⟩))
    have n1 : (j == i) = false := by simp [hji]
    have n2 : (j + 1 == i && (sl_tv g w).category == 2) = false := by
      by_cases e : j + 1 = i
      · subst e
        have h3 := hw.2
        simp only at h3
        rw [hj2] at h3
        have h4 : ¬ (sl_tv g w).category = 2 := fun q => by rw [sl_tv_cat.mp q] at h3; cases h3
        simp [h4]
      · simp [e]
    simp [n1, n2]
theorem sl_lh.store2 {g : sl_G} {ls ls' : Array Slot} {nL : Nat} {cst lv : sl_L} {i : Nat} {v : sl_V} (h : sl_lh g ls nL cst lv) (hw : sl_wr cst lv i = true) (hw2 : sl_nth cst (i + 1) = none)
    (h' : lv_has ls' nL ((i, sl_tv g v) :: (sl_prs g cst lv nL).filter (fun q => !(q.1 == i) && (!(q.1 == i + 1) && !(q.1 + 1 == i && q.2.category == 2))))) : sl_lh g ls' nL cst (sl_set (sl_set lv i (some v)) (i + 1) none) := by
  unfold sl_wr at hw
  rw [Bool.and_eq_true] at hw
  have hc : sl_nth cst i = none := Option.isNone_iff_eq_none.mp hw.1
  refine ⟨h'.1, h'.2.1, fun j w hj => ?_⟩
  by_cases hj1 : j = i + 1
  · subst hj1
    unfold sl_get at hj
    rw [hw2] at hj
    have hv := sl_nth_set_self hj
    cases hv
  by_cases hji : j = i
  · subst hji
    unfold sl_get at hj
    rw [hc] at hj
    have hj := (sl_nth_set (l := sl_set lv j (some v)) (v := none) (show j ≠ j + 1 by omega)).symm.trans hj
    have hv := sl_nth_set_self hj
    cases hv
    exact h'.2.2 _ List.mem_cons_self
  · have hj2 : sl_get cst lv j = some w := by
      unfold sl_get at hj ⊢
      rw [sl_nth_set hj1, sl_nth_set hji] at hj
      exact hj
    have hlt : j < nL := by
      have := h.2.2 j w hj2
      rw [← h.1]
      exact (Array.getElem?_eq_some_iff.mp this).1
    refine h'.2.2 (j, sl_tv g w) (List.mem_cons_of_mem _ (List.mem_filter.mpr ⟨sl_prs_mem hlt hj2, ?_⟩))
    have n1 : (j == i) = false := by simp [hji]
    have n3 : (j == i + 1) = false := by simp [hj1]
    have n2 : (j + 1 == i && (sl_tv g w).category == 2) = false := by
      by_cases e : j + 1 = i
      · subst e
        have h3 := hw.2
        simp only at h3
        rw [hj2] at h3
        have h4 : ¬ (sl_tv g w).category = 2 := fun q => by rw [sl_tv_cat.mp q] at h3; cases h3
        simp [h4]
      · simp [e]
    simp [n1, n2, n3]
end
section
/-! THE WP OF A METHOD'S CODE over the small machine: what must hold at an instruction so that the method comes to Q -/
def sl_pop : Nat → List sl_V → List sl_V → Option (List sl_V × List sl_V)
  | 0, acc, st => some (acc, st)
  | n + 1, acc, v :: st => sl_pop n (v :: acc) st
  | _ + 1, _, [] => none
def sl_ctg : sl_V → Nat
  | .inr (.inl _) => 2
  | _ => 1
def sl_cat : List sl_V → Nat
  | [] => 0
  | v :: l => sl_ctg v + sl_cat l
def sl_recv (kind ci : Nat) (as : List sl_V) : Bool := match kind with
  | 0 => (match as with
    | .inr (.inr (some q)) :: _ => q.1 == ci
    | _ => false)
  | _ => true
def sl_ifc (c : ClassFile.Cond) (x y : Int32) (A B : Prop) : Prop := match c with
  | .eq => (x = y → A) ∧ (¬ x = y → B)
  | .ne => (x = y → B) ∧ (¬ x = y → A)
  | .lt => (x < y → A) ∧ (¬ x < y → B)
  | .ge => (x < y → B) ∧ (¬ x < y → A)
  | .gt => (x ≤ y → B) ∧ (¬ x ≤ y → A)
  | .le => (x ≤ y → A) ∧ (¬ x ≤ y → B)
def sl_sw (v : Int32) (D : Prop) (J : Nat → Prop) : List (Int32 × Nat) → Prop
  | [] => D
  | q :: r => (v = q.1 → J q.2) ∧ (¬ v = q.1 → sl_sw v D J r)
def sl_look (pc : Nat) : List (Nat × sl_It) → Option sl_It
  | [] => none
  | q :: r => if q.1 = pc then some q.2 else sl_look pc r
def sl_find (t : Nat) : List sl_Ent → List sl_Ent
  | [] => []
  | e :: r => if e.1 = t then e :: r else sl_find t r
def sl_ldr (cst lv : sl_L) (i : Nat) (K : sl_V → Prop) : Prop := match sl_get cst lv i with
  | some (.inr (.inr r)) => K (.inr (.inr r))
  | _ => False
def sl_ldi (cst lv : sl_L) (i : Nat) (K : sl_V → Prop) : Prop := match sl_get cst lv i with
  | some (.inl r) => K (.inl r)
  | _ => False
def sl_ldj (cst lv : sl_L) (i : Nat) (K : sl_V → Prop) : Prop := match sl_get cst lv i with
  | some (.inr (.inl r)) => K (.inr (.inl r))
  | _ => False
def sl_sti (cst lv : sl_L) (i : Nat) (nm : List Nat) (st : List sl_V) (K : sl_L → List sl_V → Prop) : Prop := match st with
  | .inl v :: st' => if sl_wr cst lv i = true then (match nm with
    | [] => K (sl_set lv i (some (.inl v))) st'
    | _ => ∀ v', v' = v → K (sl_set lv i (some (.inl v'))) st') else False
  | _ => False
def sl_str (cst lv : sl_L) (i : Nat) (st : List sl_V) (K : sl_L → List sl_V → Prop) : Prop := match st with
  | .inr (.inr v) :: st' => if sl_wr cst lv i = true then K (sl_set lv i (some (.inr (.inr v)))) st' else False
  | _ => False
def sl_stj (cst lv : sl_L) (i : Nat) (st : List sl_V) (K : sl_L → List sl_V → Prop) : Prop := match st with
  | .inr (.inl v) :: st' => if sl_wr cst lv i = true then (if (sl_nth cst (i + 1)).isNone = true then K (sl_set (sl_set lv i (some (.inr (.inl v)))) (i + 1) none) st' else False) else False
  | _ => False
def sl_bin (f : Int32 → Int32 → Int32) (st : List sl_V) (K : List sl_V → Prop) : Prop := match st with
  | .inl y :: .inl x :: st' => K (.inl (f x y) :: st')
  | _ => False
def sl_bij (f : Int64 → Int64 → Int64) (st : List sl_V) (K : List sl_V → Prop) : Prop := match st with
  | .inr (.inl y) :: .inr (.inl x) :: st' => K (.inr (.inl (f x y)) :: st')
  | _ => False
def sl_call (ct : List sl_Ct) (j : Nat) (st : List sl_V) (μ : sl_M) (K : List sl_V → sl_M → Prop) : Prop := match ct[j]? with
  | some q => (match sl_pop q.1 [] st with
    | some w => if sl_cat w.2 ≤ 8 then (if sl_recv q.2.1 q.2.2.1 w.1 = true then q.2.2.2 w.1 μ (fun r μ' => K (r.toList ++ w.2) μ') else False) else False
    | none => False)
  | none => False
def sl_getf (d : List Nat) (st : List sl_V) (μ : sl_M) (K : List sl_V → Prop) : Prop := match d, st with
  | [c, k, ty, rc, off], .inr (.inr (some q)) :: st' => if q.1 = c then (match ty with
    | 0 => K (.inl (μ q.2 k) :: st')
    | 1 => K (.inl (sl_bz (μ q.2 k)) :: st')
    | _ => K (.inr (.inr (some (rc, q.2 + off))) :: st')) else False
  | _, _ => False
def sl_putf (d : List Nat) (st : List sl_V) (μ : sl_M) (K : List sl_V → sl_M → Prop) : Prop := match d, st with
  | [c, k, ty], .inl v :: .inr (.inr (some q)) :: st' => if q.1 = c then (match ty with
    | 0 => ∀ μ', μ' = sl_up μ q.2 k v → K st' μ'
    | _ => sl_bz v = v ∧ ∀ μ', μ' = sl_up μ q.2 k v → K st' μ') else False
  | _, _ => False
def sl_ald (st : List sl_V) (μ : sl_M) (K : List sl_V → Prop) : Prop := match st with
  | .inl i :: .inr (.inr (some q)) :: st' => if q.1 = 20 then vp_in i (sl_len q.2) ∧ K (.inl (μ q.2 i.toNatClampNeg) :: st') else False
  | _ => False
def sl_ast (st : List sl_V) (μ : sl_M) (K : List sl_V → sl_M → Prop) : Prop := match st with
  | .inl v :: .inl i :: .inr (.inr (some q)) :: st' => if q.1 = 20 then vp_in i (sl_len q.2) ∧ ∀ μ', μ' = sl_up μ q.2 i.toNatClampNeg v → K st' μ' else False
  | _ => False
def sl_zld (st : List sl_V) (μ : sl_M) (K : List sl_V → Prop) : Prop := match st with
  | .inl i :: .inr (.inr (some q)) :: st' => if q.1 = 21 then vp_in i (sl_len q.2) ∧ K (.inl (sl_bz (μ q.2 i.toNatClampNeg)) :: st') else False
  | _ => False
def sl_zst (st : List sl_V) (μ : sl_M) (K : List sl_V → sl_M → Prop) : Prop := match st with
  | .inl v :: .inl i :: .inr (.inr (some q)) :: st' => if q.1 = 21 then vp_in i (sl_len q.2) ∧ sl_bz v = v ∧ ∀ μ', μ' = sl_up μ q.2 i.toNatClampNeg v → K st' μ' else False
  | _ => False
def sl_rld (st : List sl_V) (μ : sl_M) (K : List sl_V → Prop) : Prop := match st with
  | .inl i :: .inr (.inr (some q)) :: st' => (match q.1 with
    | 22 => vp_in i (sl_len q.2) ∧ K (.inr (.inr (some (9, q.2 + 2 + i.toNatClampNeg))) :: st')
    | 23 => vp_in i (sl_len q.2) ∧ sl_kd (μ q.2 i.toNatClampNeg).toNatClampNeg = 9 ∧ K (.inr (.inr (some (9, (μ q.2 i.toNatClampNeg).toNatClampNeg))) :: st')
    | 24 => vp_in i (sl_len q.2) ∧ K (.inr (.inr (some (4, q.2 + 48 + 2 * i.toNatClampNeg))) :: st')
    | 25 => vp_in i (sl_len q.2) ∧ K (.inr (.inr (some (8, q.2 + 40 + 2 * i.toNatClampNeg))) :: st')
    | _ => False)
  | _ => False
def sl_rst (st : List sl_V) (μ : sl_M) (K : List sl_V → sl_M → Prop) : Prop := match st with
  | .inr (.inr (some w)) :: .inl i :: .inr (.inr (some q)) :: st' => if q.1 = 23 then (if w.1 = 9 then vp_in i (sl_len q.2) ∧ ∀ μ', μ' = sl_up μ q.2 i.toNatClampNeg (nI w.2) → K st' μ' else False) else False
  | _ => False
def sl_nul (st : List sl_V) (A B : List sl_V → Prop) : Prop := match st with
  | .inr (.inr none) :: st' => A st'
  | .inr (.inr (some _)) :: st' => B st'
  | _ => False
def sl_step (Q : sl_Qt) (ct : List sl_Ct) (cst : sl_L) (ins : Instr) (x : Int32) (d : List Nat) (sw : List (Int32 × Nat)) (K : sl_It) (J : Nat → sl_It) : sl_It := fun lv st μ => match ins with
  | .iconst _ => K lv (.inl x :: st) μ
  | .bipush _ => K lv (.inl x :: st) μ
  | .sipush _ => K lv (.inl x :: st) μ
  | .ldc _ => (match d with
    | [] => K lv (.inl x :: st) μ
    | o :: _ => K lv (.inr (.inr (some (90, o))) :: st) μ)
  | .ldc_w _ => K lv (.inl x :: st) μ
  | .lconst _ => K lv (.inr (.inl x.toInt64) :: st) μ
  | .ldc2_w _ => K lv (.inr (.inl x.toInt64) :: st) μ
  | .aconst_null => K lv (.inr (.inr none) :: st) μ
  | .iload i => sl_ldi cst lv i (fun v => K lv (v :: st) μ)
  | .iload_n _ => sl_ldi cst lv (d.headD 0) (fun v => K lv (v :: st) μ)
  | .lload i => sl_ldj cst lv i (fun v => K lv (v :: st) μ)
  | .lload_n _ => sl_ldj cst lv (d.headD 0) (fun v => K lv (v :: st) μ)
  | .aload i => sl_ldr cst lv i (fun v => K lv (v :: st) μ)
  | .aload_n _ => sl_ldr cst lv (d.headD 0) (fun v => K lv (v :: st) μ)
  | .istore i => sl_sti cst lv i d.tail st (fun lv st => K lv st μ)
  | .istore_n _ => sl_sti cst lv (d.headD 0) d.tail st (fun lv st => K lv st μ)
  | .lstore i => sl_stj cst lv i st (fun lv st => K lv st μ)
  | .lstore_n _ => sl_stj cst lv (d.headD 0) st (fun lv st => K lv st μ)
  | .astore i => sl_str cst lv i st (fun lv st => K lv st μ)
  | .astore_n _ => sl_str cst lv (d.headD 0) st (fun lv st => K lv st μ)
  | .iinc i _ => sl_ldi cst lv i (fun v => sl_bin (· + ·) [.inl x, v] (fun w => sl_sti cst lv i [] w (fun lv _ => K lv st μ)))
  | .iadd => sl_bin (· + ·) st (fun st => K lv st μ)
  | .isub => sl_bin (· - ·) st (fun st => K lv st μ)
  | .imul => sl_bin (· * ·) st (fun st => K lv st μ)
  | .iand => sl_bin (· &&& ·) st (fun st => K lv st μ)
  | .ior => sl_bin (· ||| ·) st (fun st => K lv st μ)
  | .ixor => sl_bin (· ^^^ ·) st (fun st => K lv st μ)
  | .ishl => sl_bin (fun x y => x <<< (y &&& 31)) st (fun st => K lv st μ)
  | .ishr => sl_bin (fun x y => x >>> (y &&& 31)) st (fun st => K lv st μ)
  | .iushr => sl_bin (fun x y => (x.toUInt32 >>> (y.toUInt32 &&& Int32.toUInt32 31)).toInt32) st (fun st => K lv st μ)
  | .idiv => (match st with
    | .inl y :: .inl x :: st' => ¬ y = 0 ∧ K lv (.inl (x / y) :: st') μ
    | _ => False)
  | .irem => (match st with
    | .inl y :: .inl x :: st' => ¬ y = 0 ∧ K lv (.inl (x - x / y * y) :: st') μ
    | _ => False)
  | .ineg => (match st with
    | .inl x :: st' => K lv (.inl (-x) :: st') μ
    | _ => False)
  | .ladd => sl_bij (· + ·) st (fun st => K lv st μ)
  | .lsub => sl_bij (· - ·) st (fun st => K lv st μ)
  | .lmul => sl_bij (· * ·) st (fun st => K lv st μ)
  | .i2l => (match st with
    | .inl x :: st' => K lv (.inr (.inl x.toInt64) :: st') μ
    | _ => False)
  | .lcmp => (match st with
    | .inr (.inl y) :: .inr (.inl x) :: st' => K lv (.inl (lg_cmp x y) :: st') μ
    | _ => False)
  | .dup => (match st with
    | .inl v :: st' => K lv (.inl v :: .inl v :: st') μ
    | .inr (.inr v) :: st' => K lv (.inr (.inr v) :: .inr (.inr v) :: st') μ
    | _ => False)
  | .dup2 => (match st with
    | .inl v :: .inr (.inr w) :: st' => K lv (.inl v :: .inr (.inr w) :: .inl v :: .inr (.inr w) :: st') μ
    | _ => False)
  | .pop => (match st with
    | .inl _ :: st' => K lv st' μ
    | _ => False)
  | .ifCond c _ => (match st with
    | .inl v :: st' => sl_ifc c v 0 (J (d.headD 0) lv st' μ) (K lv st' μ)
    | _ => False)
  | .if_icmp c _ => (match st with
    | .inl w :: .inl v :: st' => sl_ifc c v w (J (d.headD 0) lv st' μ) (K lv st' μ)
    | _ => False)
  | .ifnull _ => sl_nul st (fun st => J (d.headD 0) lv st μ) (fun st => K lv st μ)
  | .ifnonnull _ => sl_nul st (fun st => K lv st μ) (fun st => J (d.headD 0) lv st μ)
  | .goto _ => J (d.headD 0) lv st μ
  | .tableswitch _ _ _ _ => (match st with
    | .inl v :: st' => sl_sw v (J (d.headD 0) lv st' μ) (fun t => J t lv st' μ) sw
    | _ => False)
  | .lookupswitch _ _ => (match st with
    | .inl v :: st' => sl_sw v (J (d.headD 0) lv st' μ) (fun t => J t lv st' μ) sw
    | _ => False)
  | .ireturn => (match d, st with
    | [], [.inl v] => Q (some (.inl v)) μ
    | _ :: _, [.inl v] => sl_bz v = v ∧ Q (some (.inl v)) μ
    | _, _ => False)
  | .lreturn => (match st with
    | [.inr (.inl v)] => Q (some (.inr (.inl v))) μ
    | _ => False)
  | .areturn => (match st with
    | [.inr (.inr v)] => Q (some (.inr (.inr v))) μ
    | _ => False)
  | .return_ => (match st with
    | [] => Q none μ
    | _ => False)
  | .getfield _ => sl_getf d st μ (fun st => K lv st μ)
  | .putfield _ => sl_putf d st μ (fun st μ => K lv st μ)
  | .iaload => sl_ald st μ (fun st => K lv st μ)
  | .iastore => sl_ast st μ (fun st μ => K lv st μ)
  | .baload => sl_zld st μ (fun st => K lv st μ)
  | .bastore => sl_zst st μ (fun st μ => K lv st μ)
  | .aaload => sl_rld st μ (fun st => K lv st μ)
  | .aastore => sl_rst st μ (fun st μ => K lv st μ)
  | .invokevirtual _ => sl_call ct (d.headD 0) st μ (fun st μ => K lv st μ)
  | .invokestatic _ => sl_call ct (d.headD 0) st μ (fun st μ => K lv st μ)
  | _ => False
def sl_wp (cd : List sl_Ent) (ct : List sl_Ct) (cst : sl_L) (Q : sl_Qt) (cuts : List (Nat × sl_It)) : Nat → Bool → List sl_Ent → sl_It
  | 0, _, _ => fun _ _ _ => False
  | _ + 1, _, [] => fun _ _ _ => False
  | n + 1, chk, e :: es => fun lv st μ => match (if (chk && e.2.2.2.2.2.2) = true then sl_look e.1 cuts else none) with
    | some I => I lv st μ
    | none => sl_step Q ct cst e.2.1 e.2.2.2.1 e.2.2.2.2.1 e.2.2.2.2.2.1 (sl_wp cd ct cst Q cuts n true es) (fun t => sl_wp cd ct cst Q cuts n true (sl_find t cd)) lv st μ
end
section
/-! SOUNDNESS of the small machine's wp over the machine itself -/
def sl_sl : List Nat := [36, 34]
def sl_sb : List (List Int32) := [[108, 111, 119, 32, 104, 105, 103, 104, 32, 119, 101, 105, 103, 104, 116, 32, 108, 101, 110, 103, 116, 104, 32, 110, 117, 109, 98, 101, 114, 32, 108, 97, 121, 101, 114, 32], [115, 104, 105, 102, 116, 32, 103, 114, 111, 119, 32, 99, 108, 105, 112, 32, 109, 105, 114, 114, 111, 114, 32, 116, 105, 109, 101, 115, 32, 104, 101, 97, 112, 32]]
def sl_s0 : String := "low high weight length number layer "
def sl_s1 : String := "shift grow clip mirror times heap "
def sl_own (o : Nat) : String := if o = 0 then sl_R2 else sl_R0
def sl_six (o : Nat) : Nat := if o = 0 then 47 else 38
def sl_stx (o : Nat) : String := if o = 0 then sl_s0 else sl_s1
/-- what lies outside the world: the two texts, a static of String's -/
def sl_Z (g : sl_G) (U : State) : Prop := vk_S 2 sl_sl sl_sb (sl_gs g 90) (sl_gs g 92) (sl_A g) U U.heap ∧ (∀ o, o < 2 → vk_R (sl_own o) (sl_six o) (sl_stx o) (sl_gs g 90 o) U) ∧ va_Z "java/lang/String" "COMPACT_STRINGS" "Z" (.int 1) (sl_A g) U U.heap
def sl_K (g : sl_G) (U : State) : Prop := va_K (sl_gD g) sl_cl (sl_tys g) U ∧ sl_Z g U
theorem sl_K.go {g : sl_G} {s U : State} {locs : List Loc} (h : sl_K g s) (hS : va_S (sl_A g) s.heap U.heap locs) (hW : s.WarmedH U.vm) : sl_K g U :=
  ⟨va_K.moved hW.alike h.1, vk_S.moved hW.alike (h.2.1.kept hS.2.1), fun o ho => vk_R.warm hW (h.2.2.1 o ho), va_Z.moved hW.alike (h.2.2.2.kept hS.2.1)⟩
abbrev sl_X : Type := Program × Env × Room × State × MethodId × Array Value × List Frame × Method × Code × Nat × Nat × (State → Prop)
def sl_Vw (g : sl_G) (X : sl_X) (nL : Nat) (cst : sl_L) (pc : Nat) (lv : sl_L) (st : List sl_V) (μ : sl_M) : Prop := match X with
  | (p, e, R, s, m, args, below, meth, c, cells, slots, Qp) => ∀ (H : Heap) (locs : List Loc) (ls : Array Slot), sl_Wd g μ H → va_S (sl_A g) s.heap H locs → sl_lh g ls nL cst lv → W p g.1 e R s m args below meth c H locs cells slots Qp (F0 m pc ls (st.map (sl_tv g)))
def sl_rmok (R : Room) (h cells slots : Nat) : Prop := h ≤ R.frames ∧ 64 * h ≤ R.locals ∧ cells ≤ R.cells ∧ slots ≤ R.slots
def sl_Fx (g : sl_G) (X : sl_X) (own : String) (cc : ByteArray) (nL h : Nat) : Prop := match X with
  | (p, _, R, s, m, args, _, _, c, cells, slots, _) => p.tables.exec = Jvm.exec ∧ c.code = cc ∧ c.maxLocals = nL ∧ s.vm.findClass own = some m.cls ∧ (∀ w ∈ sl_T0, w.before args s = true) ∧ sl_K g s ∧ sl_rmok R h cells slots
def sl_Qc (g : sl_G) (Q : sl_Qt) : Array Value → State → Outcome → State → Prop := fun _ st oc t => (∃ (r : Option sl_V) (μ' : sl_M), oc = .returned (r.map (sl_tv g)) ∧ (∀ v, r = some v → sl_wk v) ∧ Q r μ' ∧ sl_Wd g μ' t.heap) ∧ va_F (sl_A g) st t
def sl_Rt (g : sl_G) (X : sl_X) (rt : Option FieldType) (Q : sl_Qt) : Prop := match X with
  | (_, _, _, s, _, args, below, meth, _, cells, slots, Qp) => meth.sig.returnType = rt ∧ meth.locks = false ∧ Qp = MQ below (sl_Qc g Q) args s cells slots (sl_A g)
def sl_rm (h : Nat) : Room := { frames := h, cells := 0, slots := 0, locals := 64 * h }
def sl_Met (g : sl_G) (y : MethodName) (bytes : ByteArray) (maxL : Nat) (ret : Option FieldType) (h : Nat) (As : List sl_V) (μ : sl_M) (Q : sl_Qt) : Prop :=
  Met g.1 y (Cond.code y bytes maxL ret :: sl_T0) (sl_rm h) (va_Pc (As.map (sl_tv g)) (fun U => sl_Wd g μ U.heap ∧ sl_K g U)) (sl_Qc g Q) 0 0 (sl_A g)
def sl_Snd (g : sl_G) (y : MethodName) (bytes : ByteArray) (maxL : Nat) (ret : Option FieldType) (h : Nat) (pt : sl_PT) : Prop := ∀ (As : List sl_V) (μ : sl_M) (Q : sl_Qt), (∀ v ∈ As, sl_wk v) → pt As μ Q → sl_Met g y bytes maxL ret h As μ Q
def sl_ins (kind idx : Nat) : Instr := match kind with
  | 0 => .invokevirtual idx
  | _ => .invokestatic idx
def sl_CallS (g : sl_G) (own : String) (idx kind ci h n : Nat) (pt : sl_PT) : Prop :=
  ∀ (p : Program) (e : Env) (R : Room) (s : State) (m : MethodId) (args : Array Value) (below : List Frame) (meth : Method) (c : Code) (cells slots : Nat) (Qp : State → Prop) (cc : ByteArray) (nL : Nat), sl_Fx g (p, e, R, s, m, args, below, meth, c, cells, slots, Qp) own cc nL h →
  ∀ (pc : Nat), decode cc pc = .ok (sl_ins kind idx, 3) → ∀ (μ : sl_M) (H : Heap) (locs : List Loc) (ls : Array Slot) (As : List sl_V) (rest : List Value) (Q' : sl_Qt), As.length = n → (∀ v ∈ As, sl_wk v) → sl_recv kind ci As = true → sl_Wd g μ H → va_S (sl_A g) s.heap H locs → ls.size = nL → (rest.map fun v => v.category).sum ≤ 8 → pt As μ Q' →
  (∀ (r : Option sl_V) (μ' : sl_M) (H1 : Heap) (locs1 : List Loc), Q' r μ' → (∀ v, r = some v → sl_wk v) → sl_Wd g μ' H1 → va_S (sl_A g) s.heap H1 locs1 → W p g.1 e R s m args below meth c H1 locs1 cells slots Qp (F0 m (pc + 3) ls ((r.map (sl_tv g)).toList ++ rest))) →
  W p g.1 e R s m args below meth c H locs cells slots Qp (F0 m pc ls ((As.map (sl_tv g)).reverse ++ rest))
/-- a call goes on: from its run, by its contract -/
theorem sl_goes {g : sl_G} {p : Program} {e : Env} {R : Room} {s : State} {m : MethodId} {args : Array Value} {below : List Frame} {meth : Method} {c : Code} {H : Heap} {locs : List Loc} {cells slots : Nat} {Qp : State → Prop} {pc : Nat} {ls : Array Slot} {st0 rest : List Value} {a : Array Value} {Q' : sl_Qt}
    (hr : va_Run p g.1 e R s m args below meth c H locs cells slots 0 0 (F0 m pc ls st0) rest (sl_Qc g Q' a) (sl_A g)) (hS : va_S (sl_A g) s.heap H locs)
    (kk : ∀ (r : Option sl_V) (μ' : sl_M) (H1 : Heap) (locs1 : List Loc), Q' r μ' → (∀ v, r = some v → sl_wk v) → sl_Wd g μ' H1 → va_S (sl_A g) s.heap H1 locs1 → W p g.1 e R s m args below meth c H1 locs1 cells slots Qp (F0 m (pc + 3) ls ((r.map (sl_tv g)).toList ++ rest))) : W p g.1 e R s m args below meth c H locs cells slots Qp (F0 m pc ls st0) := by
  intro T hT X
  obtain ⟨v, st₀, t, T', L, h0, X', hL, e1, e2, ⟨⟨r, μ', hv, hw, hq, hd⟩, hz, hk⟩, st⟩ := hr T hT X
  cases hv
  rw [h0] at hz hk
  obtain ⟨t2, a1, b1⟩ := kk r μ' T'.heap (locs ++ L) hq hw (by rw [e1]; exact hd)
    ⟨Nat.le_trans hS.1 (by rw [e1]; exact hz), fun q h1 h2 => by rw [e1, hk q (Nat.lt_of_lt_of_le h1 hS.1) h2]; exact hS.2.1 q h1 h2, fun q hq => by
      rcases List.mem_append.mp hq with h | h
      · exact hS.2.2 q h
      · exact hL q h⟩ T' rfl X'
  exact ⟨t2, st t2 a1, b1⟩
theorem sl_blind {g : sl_G} {av : List Value} {μ : sl_M} : FrameBlind (va_Pc av (fun U => sl_Wd g μ U.heap ∧ sl_K g U)) := by
  intro a U gg mk q
  obtain ⟨q1, q2, q3, q4, q5, q6⟩ := q
  exact ⟨q1, q2, va_K.moved (u := U) (U := U.calling gg mk a) (Vm.Alike.refl U.vm) q3, vk_S.moved (u := U) (U := U.calling gg mk a) (Vm.Alike.refl U.vm) q4, fun o ho => vk_R.same (u := U) (U := U.calling gg mk a) rfl (q5 o ho), va_Z.moved (u := U) (U := U.calling gg mk a) (Vm.Alike.refl U.vm) q6⟩
theorem sl_goodIn {y : MethodName} {bytes : ByteArray} {maxL : Nat} {ret : Option FieldType} (h : Cond.code y bytes maxL ret ∈ sl_T0) : GoodIn sl_T0 (Cond.code y bytes maxL ret :: sl_T0) := by
  intro w hw
  rcases List.mem_cons.mp hw with rfl | hw
  · exact ⟨h, good_of_word (sl_T0_good h)⟩
  · exact ⟨hw, good_of_word (sl_T0_good hw)⟩
theorem sl_callV {g : sl_G} {own : String} {idx ci h h' n N maxL : Nat} {T : u_T} {y : MethodName} {bytes : ByteArray} {ret : Option FieldType} {pt : sl_PT} (hs : sl_Snd g y bytes maxL ret h' pt) (hh : h' + 1 ≤ h) (hm : maxL ≤ 40)
    (w1 : Cond.methodLink own idx y ∈ sl_T0) (w2 : Cond.instanceMethod y ∈ sl_T0) (w3 : Cond.selects y.cls y y ∈ sl_T0) (w4 : Cond.initialized y.cls ∈ sl_T0) (w5 : Cond.code y bytes maxL ret ∈ sl_T0)
    (hd : y.cls ≠ "java/lang/invoke/MethodHandle" ∧ y.cls ≠ "java/lang/invoke/VarHandle" ∧ (parseMethodDescriptor y.desc).map (fun d => d.parameters.length) = some n) (hcl : sl_cl[ci]? = some (y.cls, T, N)) (hci : ci < 20) : sl_CallS g own idx 0 ci h (n + 1) pt := by
  intro p e R s m args below meth c cells slots Qp cc nL F pc hdec μ H locs ls As rest Q' hn hw hrc hWd hS hsz hcat hpt kk
  obtain ⟨hx, hb, hml, hown, hts, hK, hf, hl, hc, hsl⟩ := F
  match As, hn, hw, hrc, hpt with
  | .inr (.inr (some q)) :: As', hn, hw, hrc, hpt =>
    obtain ⟨c0, o⟩ := q
    have hc0 : c0 = ci := by simpa [sl_recv] using hrc
    subst hc0
    have hkd : sl_kd o = c0 := hw _ List.mem_cons_self (show c0 < 90 by omega)
    have ho : o < sl_N := sl_kd_lt (by rw [hkd]; omega)
    have had : sl_tv g (.inr (.inr (some (c0, o)))) = .ref (sl_b g + o) := by
      show Value.ref (sl_ad g c0 o) = _
      unfold sl_ad
      rw [if_pos (show c0 < 90 by omega)]
    have hE : sl_E g μ o = .inr (c0, (List.range (sl_nf c0)).map (sl_fv g μ c0 o)) := by
      unfold sl_E
      rw [hkd]
      have h20 : c0 ≠ 20 := by omega
      have h21 : c0 ≠ 21 := by omega
      have h22 : c0 ≠ 22 := by omega
      have h23 : c0 ≠ 23 := by omega
      have h24 : c0 ≠ 24 := by omega
      have h25 : c0 ≠ 25 := by omega
      split <;> first | (exact absurd rfl ‹_›) | contradiction | rfl
    have hget := sl_wl_get g μ ho
    rw [hE] at hget
    have hcw : CallW R s args own y.cls idx y bytes maxL ret (Cond.code y bytes maxL ret :: sl_T0) (sl_rm h') 0 0 n := by
      refine ⟨callB_of n hts (sl_goodIn w5) rfl rfl rfl (hts _ w4) (hts _ w1) hd ⟨?_, ?_⟩, hts _ w2, hts _ w3⟩
      · show h' + 1 ≤ R.frames
        omega
      · show 8 + (maxL + 11) + 64 * h' ≤ R.locals
        omega
    have hstk : ((.inr (.inr (some (c0, o))) :: As').map (sl_tv g)).reverse ++ rest = (As'.map (sl_tv g)).reverse ++ .ref (sl_b g + o) :: rest := by
      rw [List.map_cons, List.reverse_cons, had, List.append_assoc]
      rfl
    rw [hstk]
    refine sl_goes (va_runV (As := As'.map (sl_tv g)) (rest := rest) (C := y.cls) ⟨hx, hb, hml, hown, hts⟩ (hs _ μ Q' hw hpt) hcw ⟨sl_blind, va_recv hK.1 hWd hcl hget, fun U hU hWm => ⟨by rw [List.map_cons, had], by rw [hU]; exact hWd, sl_K.go (U := U) (locs := locs) hK (by rw [hU]; exact hS) hWm⟩⟩ rfl (by rw [List.length_map]; exact Nat.succ.inj hn) hsz rfl (lv_room hcat) hdec ⟨hc, hsl⟩) hS kk
  | [], hn, hw, hrc, hpt => cases hrc
  | .inl _ :: _, hn, hw, hrc, hpt => cases hrc
  | .inr (.inl _) :: _, hn, hw, hrc, hpt => cases hrc
  | .inr (.inr none) :: _, hn, hw, hrc, hpt => cases hrc
theorem sl_callS {g : sl_G} {own : String} {idx h h' n maxL : Nat} {y : MethodName} {bytes : ByteArray} {ret : Option FieldType} {pt : sl_PT} (hs : sl_Snd g y bytes maxL ret h' pt) (hh : h' + 1 ≤ h) (hm : maxL ≤ 40)
    (w1 : Cond.methodLink own idx y ∈ sl_T0) (w2 : Cond.static y ∈ sl_T0) (w4 : Cond.initialized y.cls ∈ sl_T0) (w5 : Cond.code y bytes maxL ret ∈ sl_T0)
    (hd : y.cls ≠ "java/lang/invoke/MethodHandle" ∧ y.cls ≠ "java/lang/invoke/VarHandle" ∧ (parseMethodDescriptor y.desc).map (fun d => d.parameters.length) = some n) : sl_CallS g own idx 1 0 h n pt := by
  intro p e R s m args below meth c cells slots Qp cc nL F pc hdec μ H locs ls As rest Q' hn hw hrc hWd hS hsz hcat hpt kk
  obtain ⟨hx, hb, hml, hown, hts, hK, hf, hl, hc, hsl⟩ := F
  have hcw : CallB R s args own idx y bytes maxL ret (Cond.code y bytes maxL ret :: sl_T0) (sl_rm h') 0 0 n ∧ (Cond.static y).before args s = true := by
    refine ⟨callB_of n hts (sl_goodIn w5) rfl rfl rfl (hts _ w4) (hts _ w1) hd ⟨?_, ?_⟩, hts _ w2⟩
    · show h' + 1 ≤ R.frames
      omega
    · show 8 + (maxL + 11) + 64 * h' ≤ R.locals
      omega
  refine sl_goes (va_runS (As := As.map (sl_tv g)) (rest := rest) ⟨hx, hb, hml, hown, hts⟩ (hs _ μ Q' hw hpt) hcw ⟨sl_blind, fun U hU hWm => ⟨rfl, by rw [hU]; exact hWd, sl_K.go (U := U) (locs := locs) hK (by rw [hU]; exact hS) hWm⟩⟩ rfl (by rw [List.length_map]; exact hn) hsz rfl (lv_room hcat) hdec ⟨hc, hsl⟩) hS kk
theorem sl_callN {g : sl_G} {own host : String} {idx h h' n maxL : Nat} {y : MethodName} {bytes : ByteArray} {ret : Option FieldType} {pt : sl_PT} (hs : sl_Snd g y bytes maxL ret h' pt) (hh : h' + 1 ≤ h) (hm : maxL ≤ 40)
    (w1 : Cond.methodLinkNest own idx y host ∈ sl_T0) (w2 : Cond.static y ∈ sl_T0) (w4 : Cond.initialized y.cls ∈ sl_T0) (w5 : Cond.code y bytes maxL ret ∈ sl_T0)
    (hd : y.cls ≠ "java/lang/invoke/MethodHandle" ∧ y.cls ≠ "java/lang/invoke/VarHandle" ∧ (parseMethodDescriptor y.desc).map (fun d => d.parameters.length) = some n) : sl_CallS g own idx 1 0 h n pt := by
  intro p e R s m args below meth c cells slots Qp cc nL F pc hdec μ H locs ls As rest Q' hn hw hrc hWd hS hsz hcat hpt kk
  obtain ⟨hx, hb, hml, hown, hts, hK, hf, hl, hc, hsl⟩ := F
  have hcw : va_CN R s args own idx y host bytes maxL ret (Cond.code y bytes maxL ret :: sl_T0) (sl_rm h') 0 0 n ∧ (Cond.static y).before args s = true ∧ True := by
    refine ⟨va_cnB n hts (sl_goodIn w5) rfl rfl rfl (va_tabs rfl rfl (hts _ w1)) (hts _ w4) hd ⟨?_, ?_⟩, hts _ w2, trivial⟩
    · show h' + 1 ≤ R.frames
      omega
    · show 8 + (maxL + 11) + 64 * h' ≤ R.locals
      omega
  refine sl_goes (va_runSN (As := As.map (sl_tv g)) (rest := rest) ⟨hx, hb, hml, hown, hts⟩ (hs _ μ Q' hw hpt) hcw ⟨sl_blind, fun U hU hWm => ⟨rfl, by rw [hU]; exact hWd, sl_K.go (U := U) (locs := locs) hK (by rw [hU]; exact hS) hWm⟩⟩ rfl (by rw [List.length_map]; exact hn) hsz rfl (lv_room hcat) hdec ⟨hc, hsl⟩) hS kk
end
section
/-! the tables' check of an instruction, and its step -/
def sl_tsOK (pc : Nat) : Int → List Int → List (Int32 × Nat) → Bool
  | _, [], [] => true
  | lo, o :: os, q :: r => decide (q.1.toInt = lo) && (decide ((pc : Int) + o = (q.2 : Int)) && sl_tsOK pc (lo + 1) os r)
  | _, _, _ => false
def sl_lsOK (pc : Nat) : List (Int × Int) → List (Int32 × Nat) → Bool
  | [], [] => true
  | a :: os, q :: r => decide (q.1.toInt = a.1) && (decide ((pc : Int) + a.2 = (q.2 : Int)) && sl_lsOK pc os r)
  | _, _ => false
/-- the links of a class: fields (index, class, place), ints and longs (index, value) -/
abbrev sl_Lk : Type := List (Nat × Nat × Nat) × List (Nat × Int32) × List (Nat × Int32)
def sl_LkOK (own : String) (lk : sl_Lk) : Prop := (∀ q ∈ lk.1, ∃ (C : String) (T : u_T) (N : Nat) (t0 : Nat → FieldType), sl_cl[q.2.1]? = some (C, T, N) ∧ q.2.2 < N ∧ (T q.2.2).1 = C ∧ Cond.fieldLink own q.1 C (T q.2.2).2.1 (T q.2.2).2.2.1 ∈ sl_T0 ∧ (∀ w ∈ u_ws C T N, w ∈ sl_T0) ∧ (∀ k, k < N → parseFieldDescriptor (T k).2.2.1 = some (t0 k)) ∧ (∀ a, a < N → ∀ b, b < N → a ≠ b → (T a).2.1 ≠ (T b).2.1)) ∧ (∀ q ∈ lk.2.1, Cond.constant own q.1 q.2 ∈ sl_T0) ∧ ∀ q ∈ lk.2.2, Cond.constantLong own q.1 q.2.toInt64 ∈ sl_T0
/-- a field that may be written: its kind agrees with its descriptor, it isn't final -/
def sl_pfOK (c k ty : Nat) : Bool := match sl_cl[c]? with
  | some q => (q.2.1 k).2.2.2 == false && (match ty with
    | 0 => (q.2.1 k).2.2.1 == "I"
    | 1 => (q.2.1 k).2.2.1 == "Z"
    | _ => false)
  | none => false
def sl_okE (own : String) (nL : Nat) (rt : Option FieldType) (lk : sl_Lk) (cx : List (Nat × Nat)) (e : sl_Ent) : Bool := match e with
  | (pc, ins, len, x, d, sw, _) => match ins with
    | .iconst n => decide (Int32.ofInt n = x) && decide (len = 1)
    | .bipush n => decide ((Int8.ofInt n).toInt32 = x) && decide (len = 2)
    | .sipush n => decide ((Int16.ofInt n).toInt32 = x) && decide (len = 3)
    | .ldc i => decide (len = 2) && (match d with
      | [] => lk.2.1.contains (i, x)
      | o :: _ => decide (o < 2) && (decide (own = sl_own o) && decide (i = sl_six o)))
    | .ldc_w i => decide (len = 3) && lk.2.1.contains (i, x)
    | .lconst n => decide (Int64.ofNat (n : Nat) = x.toInt64) && decide (len = 1)
    | .ldc2_w i => decide (len = 3) && lk.2.2.contains (i, x)
    | .iload _ => decide (len = 2)
    | .lload _ => decide (len = 2)
    | .aload _ => decide (len = 2)
    | .iload_n k => decide (len = 1) && decide ((k : Nat) = d.headD 0)
    | .lload_n k => decide (len = 1) && decide ((k : Nat) = d.headD 0)
    | .aload_n k => decide (len = 1) && decide ((k : Nat) = d.headD 0)
    | .istore i => decide (len = 2) && decide (i < nL)
    | .lstore i => decide (len = 2) && decide (i + 1 < nL)
    | .astore i => decide (len = 2) && decide (i < nL)
    | .istore_n k => decide (len = 1) && (decide ((k : Nat) = d.headD 0) && decide (d.headD 0 < nL))
    | .lstore_n k => decide (len = 1) && (decide ((k : Nat) = d.headD 0) && decide (d.headD 0 + 1 < nL))
    | .astore_n k => decide (len = 1) && (decide ((k : Nat) = d.headD 0) && decide (d.headD 0 < nL))
    | .iinc i n => decide (len = 3) && (decide (Int32.ofInt n = x) && decide (i < nL))
    | .ifCond _ off => decide (len = 3) && decide ((pc : Int) + off = ((d.headD 0 : Nat) : Int))
    | .if_icmp _ off => decide (len = 3) && decide ((pc : Int) + off = ((d.headD 0 : Nat) : Int))
    | .ifnull off => decide (len = 3) && decide ((pc : Int) + off = ((d.headD 0 : Nat) : Int))
    | .ifnonnull off => decide (len = 3) && decide ((pc : Int) + off = ((d.headD 0 : Nat) : Int))
    | .goto off => decide (len = 3) && decide ((pc : Int) + off = ((d.headD 0 : Nat) : Int))
    | .tableswitch dflt lo hi offs => decide ((pc : Int) + dflt = ((d.headD 0 : Nat) : Int)) && (decide (hi + 1 = lo + (offs.toList.length : Int)) && sl_tsOK pc lo offs.toList sw)
    | .lookupswitch dflt ps => decide ((pc : Int) + dflt = ((d.headD 0 : Nat) : Int)) && ((ps.toList.zip (ps.toList.drop 1)).all (fun (a, next) => a.1 < next.1) && sl_lsOK pc ps.toList sw)
    | .ireturn => decide (len = 1) && (match d with
      | [] => decide (rt = some .int)
      | _ => decide (rt = some .boolean))
    | .lreturn => decide (len = 1) && decide (rt = some .long)
    | .areturn => decide (len = 1) && (match rt with
      | some (.object _) => true
      | _ => false)
    | .return_ => decide (len = 1) && decide (rt = none)
    | .getfield i => decide (len = 3) && (match d with
      | [c, k, ty, rc, off] => lk.1.contains (i, c, k) && (decide (sl_fi c k = (ty, rc, off)) && (decide (c < 20) && (decide (k < sl_nf c) && decide (rc < 90))))
      | _ => false)
    | .putfield i => decide (len = 3) && (match d with
      | [c, k, ty] => lk.1.contains (i, c, k) && (decide ((sl_fi c k).1 = ty) && (sl_pfOK c k ty && (decide (c < 20) && decide (k < sl_nf c))))
      | _ => false)
    | .invokevirtual i => decide (len = 3) && decide (cx[d.headD 0]? = some (i, 0))
    | .invokestatic i => decide (len = 3) && decide (cx[d.headD 0]? = some (i, 1))
    | _ => decide (len = 1)
def sl_HC (g : sl_G) (own : String) (h : Nat) (ct : List sl_Ct) (cx : List (Nat × Nat)) : Prop := ∀ (j : Nat) (q : sl_Ct), ct[j]? = some q → ∃ idx : Nat, cx[j]? = some (idx, q.2.1) ∧ sl_CallS g own idx q.2.1 q.2.2.1 h q.1 q.2.2.2
theorem sl_HC_nil (g : sl_G) (own : String) (h : Nat) : sl_HC g own h [] [] := fun j q hq => by simp at hq
theorem sl_HC_cons {g : sl_G} {own : String} {h : Nat} {ct : List sl_Ct} {cx : List (Nat × Nat)} {idx kind ci n : Nat} {pt : sl_PT} (h1 : sl_CallS g own idx kind ci h n pt) (h2 : sl_HC g own h ct cx) : sl_HC g own h ((n, kind, ci, pt) :: ct) ((idx, kind) :: cx) := by
  intro j q hq
  cases j with
  | zero =>
    simp at hq
    subst hq
    exact ⟨idx, rfl, h1⟩
  | succ j =>
    obtain ⟨i, a, b⟩ := h2 j q (by simpa using hq)
    exact ⟨i, by simpa using a, b⟩
theorem sl_pop_spec : ∀ (n : Nat) (acc st as st' : List sl_V), sl_pop n acc st = some (as, st') → acc.reverse ++ st = as.reverse ++ st' ∧ as.length = acc.length + n ∧ (∀ v ∈ as, v ∈ acc ∨ v ∈ st) ∧ ∀ v ∈ st', v ∈ st := by
  intro n
  induction n with
  | zero =>
    intro acc st as st' h
    cases h
    exact ⟨rfl, rfl, fun v h => Or.inl h, fun v h => h⟩
  | succ n ih =>
    intro acc st as st' h
    cases st with
    | nil => cases h
    | cons v st =>
      obtain ⟨h1, h2, h3, h4⟩ := ih (v :: acc) st as st' h
      refine ⟨by rw [← h1]; simp, by rw [h2]; simp; omega, fun w hw => ?_, fun w hw => List.mem_cons_of_mem _ (h4 w hw)⟩
      rcases h3 w hw with h | h
      · rcases List.mem_cons.mp h with rfl | h
        · exact Or.inr List.mem_cons_self
        · exact Or.inl h
      · exact Or.inr (List.mem_cons_of_mem _ h)
theorem sl_cat_map (g : sl_G) (st : List sl_V) : (List.map (fun v => v.category) (st.map (sl_tv g))).sum = sl_cat st := by
  induction st with
  | nil => rfl
  | cons v st ih =>
    have hv : (sl_tv g v).category = sl_ctg v := by
      match v with
      | .inl x => rfl
      | .inr (.inl x) => rfl
      | .inr (.inr none) => rfl
      | .inr (.inr (some q)) => rfl
    simp only [List.map_cons, List.sum_cons, sl_cat]
    rw [ih, hv]
theorem sl_ts_spec {pc : Nat} {v : Int32} {D : Prop} {J : Nat → Prop} : ∀ (os : List Int) (sw : List (Int32 × Nat)) (lo : Int), sl_tsOK pc lo os sw = true → sl_sw v D J sw → (∃ (i : Nat) (o : Int) (t : Nat), os[i]? = some o ∧ v.toInt = lo + (i : Int) ∧ (pc : Int) + o = (t : Int) ∧ J t) ∨ ((v.toInt < lo ∨ lo + (os.length : Int) ≤ v.toInt) ∧ D) := by
  intro os
  induction os with
  | nil =>
    intro sw lo h1 h2
    cases sw with
    | nil => exact Or.inr ⟨by simp; omega, h2⟩
    | cons q r => cases h1
  | cons o os ih =>
    intro sw lo h1 h2
    cases sw with
    | nil => cases h1
    | cons q r =>
      simp only [sl_tsOK, Bool.and_eq_true, decide_eq_true_eq] at h1
      obtain ⟨e1, e2, e3⟩ := h1
      by_cases hv : v = q.1
      · exact Or.inl ⟨0, o, q.2, rfl, by rw [hv, e1]; simp, e2, h2.1 hv⟩
      · have hne : ¬ v.toInt = lo := fun h => hv (Int32.toInt_inj.mp (h.trans e1.symm))
        rcases ih r (lo + 1) e3 (h2.2 hv) with ⟨i, o', t, g1, g2, g3, g4⟩ | ⟨g1, g2⟩
        · exact Or.inl ⟨i + 1, o', t, by simpa using g1, by rw [g2]; push_cast; omega, g3, g4⟩
        · refine Or.inr ⟨?_, g2⟩
          simp only [List.length_cons]
          push_cast
          rcases g1 with g1 | g1
          · left; omega
          · right; omega
theorem sl_ls_spec {pc : Nat} {v : Int32} {D : Prop} {J : Nat → Prop} {dflt : Int} {t0 : Nat} (h0 : (pc : Int) + dflt = (t0 : Int)) (hD : D → J t0) : ∀ (os : List (Int × Int)) (sw : List (Int32 × Nat)), sl_lsOK pc os sw = true → sl_sw v D J sw → ∃ (o : Int) (t : Nat), Op.lookupswitch.offset os dflt v.toInt = o ∧ (pc : Int) + o = (t : Int) ∧ J t := by
  intro os
  induction os with
  | nil =>
    intro sw h1 h2
    cases sw with
    | nil => exact ⟨dflt, t0, rfl, h0, hD h2⟩
    | cons q r => cases h1
  | cons o os ih =>
    intro sw h1 h2
    cases sw with
    | nil => cases h1
    | cons q r =>
      obtain ⟨a, o⟩ := o
      simp only [sl_lsOK, Bool.and_eq_true, decide_eq_true_eq] at h1
      obtain ⟨e1, e2, e3⟩ := h1
      by_cases hv : v = q.1
      · refine ⟨o, q.2, ?_, e2, h2.1 hv⟩
        rw [Op.lookupswitch.offset_cons, if_pos (by rw [hv, e1])]
      · obtain ⟨o', t, g1, g2, g3⟩ := ih r e3 (h2.2 hv)
        exact ⟨o', t, by rw [lv_osw hv e1]; exact g1, g2, g3⟩
end
section
/-! each instruction's step -/
def sl_wkL (lv : sl_L) : Prop := ∀ (i : Nat) (v : sl_V), sl_nth lv i = some v → sl_wk v
def sl_wkS (st : List sl_V) : Prop := ∀ v ∈ st, sl_wk v
theorem sl_wkS.cons {v : sl_V} {st : List sl_V} (h : sl_wk v) (hs : sl_wkS st) : sl_wkS (v :: st) := fun w hw => by
  rcases List.mem_cons.mp hw with rfl | hw
  · exact h
  · exact hs w hw
theorem sl_wkS.tl {v : sl_V} {st : List sl_V} (hs : sl_wkS (v :: st)) : sl_wkS st := fun w hw => hs w (List.mem_cons_of_mem _ hw)
theorem sl_wkS.hd {v : sl_V} {st : List sl_V} (hs : sl_wkS (v :: st)) : sl_wk v := hs v List.mem_cons_self
theorem sl_wkL.set {lv : sl_L} {i : Nat} {v : Option sl_V} (h : sl_wkL lv) (hv : ∀ w, v = some w → sl_wk w) : sl_wkL (sl_set lv i v) := by
  intro j w hj
  by_cases e : j = i
  · subst e
    exact hv w (sl_nth_set_self hj)
  · rw [sl_nth_set e] at hj
    exact h j w hj
theorem sl_get_wk {cst lv : sl_L} {i : Nat} {v : sl_V} (hc : sl_wkL cst) (hl : sl_wkL lv) (h : sl_get cst lv i = some v) : sl_wk v := by
  unfold sl_get at h
  cases e : sl_nth cst i with
  | none => rw [e] at h; exact hl i v h
  | some w =>
    rw [e] at h
    obtain rfl := Option.some.inj h
    exact hc i w e
theorem sl_ldi_inv {cst lv : sl_L} {i : Nat} {K : sl_V → Prop} (h : sl_ldi cst lv i K) : ∃ r, sl_get cst lv i = some (.inl r) ∧ K (.inl r) := by
  unfold sl_ldi at h
  split at h
  next r e => exact ⟨r, e, h⟩
  next => exact h.elim
theorem sl_ldj_inv {cst lv : sl_L} {i : Nat} {K : sl_V → Prop} (h : sl_ldj cst lv i K) : ∃ r, sl_get cst lv i = some (.inr (.inl r)) ∧ K (.inr (.inl r)) := by
  unfold sl_ldj at h
  split at h
  next r e => exact ⟨r, e, h⟩
  next => exact h.elim
theorem sl_ldr_inv {cst lv : sl_L} {i : Nat} {K : sl_V → Prop} (h : sl_ldr cst lv i K) : ∃ r, sl_get cst lv i = some (.inr (.inr r)) ∧ K (.inr (.inr r)) := by
  unfold sl_ldr at h
  split at h
  next r e => exact ⟨r, e, h⟩
  next => exact h.elim
theorem sl_sti_inv {cst lv : sl_L} {i : Nat} {nm : List Nat} {st : List sl_V} {K : sl_L → List sl_V → Prop} (h : sl_sti cst lv i nm st K) : ∃ v st', st = .inl v :: st' ∧ sl_wr cst lv i = true ∧ K (sl_set lv i (some (.inl v))) st' := by
  unfold sl_sti at h
  split at h
  next v st' =>
    split at h
    next hw =>
      refine ⟨v, st', rfl, hw, ?_⟩
      split at h
      · exact h
      · exact h v rfl
    next => exact h.elim
  next => exact h.elim
theorem sl_str_inv {cst lv : sl_L} {i : Nat} {st : List sl_V} {K : sl_L → List sl_V → Prop} (h : sl_str cst lv i st K) : ∃ v st', st = .inr (.inr v) :: st' ∧ sl_wr cst lv i = true ∧ K (sl_set lv i (some (.inr (.inr v)))) st' := by
  unfold sl_str at h
  split at h
  next v st' =>
    split at h
    next hw => exact ⟨v, st', rfl, hw, h⟩
    next => exact h.elim
  next => exact h.elim
theorem sl_stj_inv {cst lv : sl_L} {i : Nat} {st : List sl_V} {K : sl_L → List sl_V → Prop} (h : sl_stj cst lv i st K) : ∃ v st', st = .inr (.inl v) :: st' ∧ sl_wr cst lv i = true ∧ sl_nth cst (i + 1) = none ∧ K (sl_set (sl_set lv i (some (.inr (.inl v)))) (i + 1) none) st' := by
  unfold sl_stj at h
  split at h
  next v st' =>
    split at h
    next hw =>
      split at h
      next hw2 => exact ⟨v, st', rfl, hw, Option.isNone_iff_eq_none.mp hw2, h⟩
      next => exact h.elim
    next => exact h.elim
  next => exact h.elim
theorem sl_bin_inv {f : Int32 → Int32 → Int32} {st : List sl_V} {K : List sl_V → Prop} (h : sl_bin f st K) : ∃ x y st', st = .inl y :: .inl x :: st' ∧ K (.inl (f x y) :: st') := by
  unfold sl_bin at h
  split at h
  next y x st' => exact ⟨x, y, st', rfl, h⟩
  next => exact h.elim
theorem sl_bij_inv {f : Int64 → Int64 → Int64} {st : List sl_V} {K : List sl_V → Prop} (h : sl_bij f st K) : ∃ x y st', st = .inr (.inl y) :: .inr (.inl x) :: st' ∧ K (.inr (.inl (f x y)) :: st') := by
  unfold sl_bij at h
  split at h
  next y x st' => exact ⟨x, y, st', rfl, h⟩
  next => exact h.elim
theorem sl_call_inv {ct : List sl_Ct} {j : Nat} {st : List sl_V} {μ : sl_M} {K : List sl_V → sl_M → Prop} (h : sl_call ct j st μ K) : ∃ q as st', ct[j]? = some q ∧ sl_pop q.1 [] st = some (as, st') ∧ sl_cat st' ≤ 8 ∧ sl_recv q.2.1 q.2.2.1 as = true ∧ q.2.2.2 as μ (fun r μ' => K (r.toList ++ st') μ') := by
  unfold sl_call at h
  split at h
  next q e =>
    split at h
    next w e2 =>
      split at h
      next h8 =>
        split at h
        next hr => exact ⟨q, w.1, w.2, e, e2, h8, hr, h⟩
        next => exact h.elim
      next => exact h.elim
    next => exact h.elim
  next => exact h.elim
theorem sl_bz_fit {v : Int32} (h : sl_bz v = v) : v = 0 ∨ v = 1 := by
  unfold sl_bz at h
  split at h
  · exact Or.inl h.symm
  · exact Or.inr h.symm
theorem sl_bz_nar {v : Int32} (h : sl_bz v = v) : narrow .boolean (.int v) = .int v ∧ fits .boolean (.int v) = true ∧ vp_nar .boolean v = v := by
  rcases sl_bz_fit h with rfl | rfl
  · exact ⟨rfl, rfl, rfl⟩
  · exact ⟨rfl, rfl, rfl⟩
theorem sl_refT : (List.range sl_N).all (fun o => (List.range (sl_nf (sl_kd o))).all (fun k => decide ((sl_fi (sl_kd o) k).1 < 2) || decide (sl_kd (o + (sl_fi (sl_kd o) k).2.2) = (sl_fi (sl_kd o) k).2.1))) = true := by decide +kernel
theorem sl_ref_kd {o c k ty rc off : Nat} (hc : sl_kd o = c) (hc20 : c < 20) (hk : k < sl_nf c) (hf : sl_fi c k = (ty, rc, off)) (ht : ¬ ty < 2) : sl_kd (o + off) = rc := by
  have ho : o < sl_N := sl_kd_lt (by rw [hc]; omega)
  have h1 := List.all_eq_true.mp (List.all_eq_true.mp sl_refT o (List.mem_range.mpr ho)) k (List.mem_range.mpr (by rw [hc]; exact hk))
  rw [hc, hf] at h1
  simp only [Bool.or_eq_true, decide_eq_true_eq] at h1
  rcases h1 with h1 | h1
  · exact absurd h1 ht
  · exact h1
theorem sl_arT : (List.range sl_N).all (fun o => (List.range (sl_len o)).all (fun i => (decide (sl_kd o ≠ 22) || decide (sl_kd (o + 2 + i) = 9)) && ((decide (sl_kd o ≠ 24) || decide (sl_kd (o + 48 + 2 * i) = 4)) && (decide (sl_kd o ≠ 25) || decide (sl_kd (o + 40 + 2 * i) = 8))))) = true := by decide +kernel
theorem sl_ar_kd {o i : Nat} (hi : i < sl_len o) (ho : o < sl_N) : (sl_kd o = 22 → sl_kd (o + 2 + i) = 9) ∧ (sl_kd o = 24 → sl_kd (o + 48 + 2 * i) = 4) ∧ (sl_kd o = 25 → sl_kd (o + 40 + 2 * i) = 8) := by
  have h1 := List.all_eq_true.mp (List.all_eq_true.mp sl_arT o (List.mem_range.mpr ho)) i (List.mem_range.mpr hi)
  simp only [Bool.and_eq_true, Bool.or_eq_true, decide_eq_true_eq] at h1
  obtain ⟨h1, h2, h3⟩ := h1
  exact ⟨fun q => h1.elim (fun z => absurd q z) id, fun q => h2.elim (fun z => absurd q z) id, fun q => h3.elim (fun z => absurd q z) id⟩
theorem sl_E_obj (g : sl_G) (μ : sl_M) {o c : Nat} (hkd : sl_kd o = c) (hc : c < 20) : sl_E g μ o = .inr (c, (List.range (sl_nf c)).map (sl_fv g μ c o)) := by
  unfold sl_E
  rw [hkd]
  split <;> first | omega | rfl
theorem sl_in_lt {i : Int32} {n : Nat} (h : vp_in i n) : i.toNatClampNeg < n := Nat.not_le.mp fun q => h (Or.inr q)
theorem sl_flds_set {g : sl_G} {μ : sl_M} {c o k : Nat} {v : Int32} (hv : sl_fv g (sl_up μ o k v) c o k = .int v) : ((List.range (sl_nf c)).map (sl_fv g μ c o)).set k (.int v) = (List.range (sl_nf c)).map (sl_fv g (sl_up μ o k v) c o) := by
  apply List.ext_getElem?
  intro j
  rw [List.getElem?_set]
  by_cases hj : k = j
  · subst hj
    rw [if_pos rfl]
    by_cases hl : k < sl_nf c
    · rw [if_pos (by simpa using hl), List.getElem?_map, List.getElem?_range hl]
      show _ = some (sl_fv g (sl_up μ o k v) c o k)
      rw [hv]
    · rw [if_neg (by simpa using hl), List.getElem?_eq_none (by simpa using Nat.le_of_not_lt hl)]
  · rw [if_neg hj, List.getElem?_map, List.getElem?_map]
    by_cases hl : j < sl_nf c
    · rw [List.getElem?_range hl]
      have e : sl_up μ o k v o j = μ o j := by
        unfold sl_up
        rw [if_neg (fun q => hj q.2.symm)]
      show some (sl_fv g μ c o j) = some (sl_fv g (sl_up μ o k v) c o j)
      unfold sl_fv
      rw [e]
    · rw [List.getElem?_eq_none (by simpa using Nat.le_of_not_lt hl)]
      rfl
theorem sl_fv_0 {g : sl_G} {μ : sl_M} {c o k : Nat} (h : (sl_fi c k).1 = 0) : sl_fv g μ c o k = .int (μ o k) := by
  unfold sl_fv
  generalize sl_fi c k = q at h ⊢
  obtain ⟨a, b, d⟩ := q
  simp only at h
  subst h
  rfl
theorem sl_fv_1 {g : sl_G} {μ : sl_M} {c o k : Nat} (h : (sl_fi c k).1 = 1) : sl_fv g μ c o k = .int (sl_bz (μ o k)) := by
  unfold sl_fv
  generalize sl_fi c k = q at h ⊢
  obtain ⟨a, b, d⟩ := q
  simp only at h
  subst h
  rfl
theorem sl_tv_ref {g : sl_G} {c o : Nat} (h : c < 90) : sl_tv g (.inr (.inr (some (c, o)))) = .ref (sl_b g + o) := by
  show Value.ref (sl_ad g c o) = _
  unfold sl_ad
  rw [if_pos h]
section STEP
variable {g : sl_G} {X : sl_X} {own : String} {cc : ByteArray} {nL hh : Nat} {rt : Option FieldType} {Q : sl_Qt} {lk : sl_Lk} {cx : List (Nat × Nat)} {ct : List sl_Ct} {cst : sl_L} {pc : Nat} {lv : sl_L} {st : List sl_V} {μ : sl_M}
theorem sl_s_getf (F : sl_Fx g X own cc nL hh) (HL : sl_LkOK own lk) (ws : sl_wkS st) {i : Nat} {d : List Nat} (hdec : decode cc pc = .ok (.getfield i, 3)) (hok : (match d with
      | [c, k, ty, rc, off] => lk.1.contains (i, c, k) && (decide (sl_fi c k = (ty, rc, off)) && (decide (c < 20) && (decide (k < sl_nf c) && decide (rc < 90))))
      | _ => false) = true) {K : List sl_V → Prop} (h : sl_getf d st μ K) (hK : ∀ st', sl_wkS st' → K st' → sl_Vw g X nL cst (pc + 3) lv st' μ) : sl_Vw g X nL cst pc lv st μ := by
  unfold sl_getf at h
  split at h
  next c k ty rc off q st' =>
    obtain ⟨c0, o⟩ := q
    split at h
    next hc0 =>
      simp only at hc0
      subst hc0
      simp only [Bool.and_eq_true, decide_eq_true_eq] at hok
      obtain ⟨hm, hfi, hc20, hknf, hrc⟩ := hok
      obtain ⟨C, T, N, t0, q1, q2, q3, q4, q5, q6, q7⟩ := HL.1 _ (List.contains_iff_mem.mp hm)
      simp only at q1 q2 q3 q4 q5 q6 q7
      have hkd : sl_kd o = c0 := ws.hd (show c0 < 90 by omega)
      have ho : o < sl_N := sl_kd_lt (by rw [hkd]; omega)
      have hget := sl_wl_get g μ ho
      rw [sl_E_obj g μ hkd hc20] at hget
      obtain ⟨p, e, R, s, m, args, below, meth, c, cells, slots, Qp⟩ := X
      intro H locs ls hW hS hl
      obtain ⟨hx, hb, hml, hown, hts, hK0, hrm⟩ := id F
      have key : ∀ (v : sl_V), sl_wk v → sl_fv g μ c0 o k = sl_tv g v → K (v :: st') → W p g.1 e R s m args below meth c H locs cells slots Qp (F0 m pc ls ((Sum.inr (Sum.inr (some (c0, o))) :: st').map (sl_tv g))) := by
        intro v hv he hk
        rw [List.map_cons, sl_tv_ref (show c0 < 90 by omega)]
        exact va_get (C := C) (T := T) (N := N) (v := sl_tv g v) hx hb hts q5 hown hK0.1 hW o hget q1 k q2 (hts _ q4) (fun x hx => by rw [q3] at hx; exact hx) (by rw [List.getElem?_map, List.getElem?_range hknf]; show some (sl_fv g μ c0 o k) = _; rw [he]) hdec (hK _ (ws.tl.cons hv) hk H locs ls hW hS hl)
      split at h
      next => exact key (.inl _) trivial (by unfold sl_fv; rw [hfi]; rfl) h
      next => exact key (.inl _) trivial (by unfold sl_fv; rw [hfi]; rfl) h
      next h0 h1 =>
        have hty : ¬ ty < 2 := by
          intro hlt
          have : ty = 0 ∨ ty = 1 := by omega
          rcases this with e | e
          · exact h0 e
          · exact h1 e
        refine key (.inr (.inr (some (rc, o + off)))) (fun _ => sl_ref_kd hkd hc20 hknf hfi hty) ?_ h
        rw [sl_tv_ref hrc]
        unfold sl_fv
        rw [hfi]
        split
        next e => exact absurd (congrArg Prod.fst e) h0
        next e => exact absurd (congrArg Prod.fst e) h1
        next => 
          rename_i e
          cases e
          rfl
    next => exact h.elim
  next => exact h.elim
theorem sl_s_putf (F : sl_Fx g X own cc nL hh) (HL : sl_LkOK own lk) (ws : sl_wkS st) {i : Nat} {d : List Nat} (hdec : decode cc pc = .ok (.putfield i, 3)) (hok : (match d with
      | [c, k, ty] => lk.1.contains (i, c, k) && (decide ((sl_fi c k).1 = ty) && (sl_pfOK c k ty && (decide (c < 20) && decide (k < sl_nf c))))
      | _ => false) = true) {K : List sl_V → sl_M → Prop} (h : sl_putf d st μ K) (hK : ∀ st' μ', sl_wkS st' → K st' μ' → sl_Vw g X nL cst (pc + 3) lv st' μ') : sl_Vw g X nL cst pc lv st μ := by
  unfold sl_putf at h
  split at h
  next c k ty v q st' =>
    obtain ⟨c0, o⟩ := q
    split at h
    next hc0 =>
      simp only at hc0
      subst hc0
      simp only [Bool.and_eq_true, decide_eq_true_eq] at hok
      obtain ⟨hm, hfi, hpf, hc20, hknf⟩ := hok
      obtain ⟨C, T, N, t0, q1, q2, q3, q4, q5, q6, q7⟩ := HL.1 _ (List.contains_iff_mem.mp hm)
      simp only at q1 q2 q3 q4 q5 q6 q7
      have hkd : sl_kd o = c0 := ws.tl.hd (show c0 < 90 by omega)
      have ho : o < sl_N := sl_kd_lt (by rw [hkd]; omega)
      have hget := sl_wl_get g μ ho
      rw [sl_E_obj g μ hkd hc20] at hget
      obtain ⟨p, e, R, s, m, args, below, meth, c, cells, slots, Qp⟩ := X
      intro H locs ls hW hS hl
      obtain ⟨hx, hb, hml, hown, hts, hK0, hrm⟩ := id F
      unfold sl_pfOK at hpf
      rw [q1] at hpf
      simp only [Bool.and_eq_true, beq_iff_eq] at hpf
      obtain ⟨hfin, hty⟩ := hpf
      have key : ∀ (ft : FieldType), parseFieldDescriptor (T k).2.2.1 = some ft → narrow ft (.int v) = .int v → fits ft (.int v) = true → sl_fv g (sl_up μ o k v) c0 o k = .int v → K st' (sl_up μ o k v) → W p g.1 e R s m args below meth c H locs cells slots Qp (F0 m pc ls ((Sum.inl v :: Sum.inr (Sum.inr (some (c0, o))) :: st').map (sl_tv g))) := by
        intro ft h1 h2 h3 h4 hk
        rw [List.map_cons, List.map_cons, sl_tv_ref (show c0 < 90 by omega)]
        refine va_put (C := C) (T := T) (N := N) (v := .int v) hx hb hts q5 t0 q6 q7 hown hK0.1 hW (sl_wl_D g μ) hS o hget q1 k q2 (hts _ q4) (fun x hx => by rw [q3] at hx; exact hx) hfin h1 h2 h3 (by simpa using hknf) hdec (fun H1 locs1 hP1 hD1 hS1 => ?_)
        refine hK _ _ ws.tl.tl hk H1 locs1 ls ?_ hS1 hl
        unfold sl_Wd
        rw [← sl_wl_set (g := g) (μ := μ) (μ' := sl_up μ o k v) ho (e := .inr (c0, ((List.range (sl_nf c0)).map (sl_fv g μ c0 o)).set k (.int v))) (by rw [sl_E_obj g _ hkd hc20, sl_flds_set h4]) (fun o' h => sl_up_row h)]
        exact hP1
      have hup : sl_up μ o k v o k = v := by
        unfold sl_up
        rw [if_pos ⟨rfl, rfl⟩]
      split at h
      next =>
        rw [show (0 : Nat) = 0 from rfl] at hty
        have hd : (T k).2.2.1 = "I" := by simpa using hty
        refine key .int (by rw [hd]; decide +kernel) rfl rfl ?_ (h _ rfl)
        rw [sl_fv_0 hfi, hup]
      next h0 =>
        have hd : ty = 1 ∧ (T k).2.2.1 = "Z" := by
          split at hty
          next => exact absurd rfl h0
          next => exact ⟨rfl, by simpa using hty⟩
          next => cases hty
        obtain ⟨rfl, hd⟩ := hd
        obtain ⟨hbz, h⟩ := h
        obtain ⟨n1, n2, n3⟩ := sl_bz_nar hbz
        refine key .boolean (by rw [hd]; decide +kernel) n1 n2 ?_ (h _ rfl)
        rw [sl_fv_1 hfi, hup, hbz]
    next => exact h.elim
  next => exact h.elim
theorem sl_s_ald (F : sl_Fx g X own cc nL hh) (ws : sl_wkS st) (hdec : decode cc pc = .ok (.iaload, 1)) {K : List sl_V → Prop} (h : sl_ald st μ K) (hK : ∀ st', sl_wkS st' → K st' → sl_Vw g X nL cst (pc + 1) lv st' μ) : sl_Vw g X nL cst pc lv st μ := by
  unfold sl_ald at h
  split at h
  next i q st' =>
    obtain ⟨c0, o⟩ := q
    split at h
    next hc0 =>
      simp only at hc0
      subst hc0
      obtain ⟨hin, h⟩ := h
      have hkd : sl_kd o = 20 := ws.tl.hd (show 20 < 90 by omega)
      have ho : o < sl_N := sl_kd_lt (by rw [hkd]; omega)
      have hget := sl_wl_get g μ ho
      rw [show sl_E g μ o = .inl (sl_ca g 0, sl_len o, .inl (μ o)) by unfold sl_E; rw [hkd]; rfl] at hget
      obtain ⟨p, e, R, s, m, args, below, meth, c, cells, slots, Qp⟩ := X
      intro H locs ls hW hS hl
      obtain ⟨hx, hb, hml, hown, hts, hK0, hrm⟩ := id F
      rw [List.map_cons, List.map_cons, sl_tv_ref (show 20 < 90 by omega)]
      exact va_iald hx hb hK0.1 hW o 0 hget rfl hin hdec (hK (.inl (μ o i.toNatClampNeg) :: st') (sl_wkS.cons trivial ws.tl.tl) h H locs ls hW hS hl)
    next => exact h.elim
  next => exact h.elim
theorem sl_s_ast (F : sl_Fx g X own cc nL hh) (ws : sl_wkS st) (hdec : decode cc pc = .ok (.iastore, 1)) {K : List sl_V → sl_M → Prop} (h : sl_ast st μ K) (hK : ∀ st' μ', sl_wkS st' → K st' μ' → sl_Vw g X nL cst (pc + 1) lv st' μ') : sl_Vw g X nL cst pc lv st μ := by
  unfold sl_ast at h
  split at h
  next v i q st' =>
    obtain ⟨c0, o⟩ := q
    split at h
    next hc0 =>
      simp only at hc0
      subst hc0
      obtain ⟨hin, h⟩ := h
      have hkd : sl_kd o = 20 := ws.tl.tl.hd (show 20 < 90 by omega)
      have ho : o < sl_N := sl_kd_lt (by rw [hkd]; omega)
      have hget := sl_wl_get g μ ho
      rw [show sl_E g μ o = .inl (sl_ca g 0, sl_len o, .inl (μ o)) by unfold sl_E; rw [hkd]; rfl] at hget
      obtain ⟨p, e, R, s, m, args, below, meth, c, cells, slots, Qp⟩ := X
      intro H locs ls hW hS hl
      obtain ⟨hx, hb, hml, hown, hts, hK0, hrm⟩ := id F
      rw [List.map_cons, List.map_cons, List.map_cons, sl_tv_ref (show 20 < 90 by omega)]
      refine va_iast hx hb hK0.1 hW (sl_wl_D g μ) hS o 0 hget rfl hin hdec (fun H1 locs1 hP1 hD1 hS1 => ?_)
      refine hK _ _ ws.tl.tl.tl (h _ rfl) H1 locs1 ls ?_ hS1 hl
      unfold sl_Wd
      rw [← sl_wl_set (g := g) (μ := μ) (μ' := sl_up μ o i.toNatClampNeg v) ho (e := .inl (sl_ca g 0, sl_len o, .inl (upd (μ o) i.toNatClampNeg v))) (by unfold sl_E; rw [hkd]; simp only [sl_up_at]) (fun o' h => sl_up_row h)]
      exact hP1
    next => exact h.elim
  next => exact h.elim
theorem sl_s_zld (F : sl_Fx g X own cc nL hh) (ws : sl_wkS st) (hdec : decode cc pc = .ok (.baload, 1)) {K : List sl_V → Prop} (h : sl_zld st μ K) (hK : ∀ st', sl_wkS st' → K st' → sl_Vw g X nL cst (pc + 1) lv st' μ) : sl_Vw g X nL cst pc lv st μ := by
  unfold sl_zld at h
  split at h
  next i q st' =>
    obtain ⟨c0, o⟩ := q
    split at h
    next hc0 =>
      simp only at hc0
      subst hc0
      obtain ⟨hin, h⟩ := h
      have hkd : sl_kd o = 21 := ws.tl.hd (show 21 < 90 by omega)
      have ho : o < sl_N := sl_kd_lt (by rw [hkd]; omega)
      have hget := sl_wl_get g μ ho
      rw [show sl_E g μ o = .inl (sl_ca g 1, sl_len o, .inl (fun i => sl_bz (μ o i))) by unfold sl_E; rw [hkd]; rfl] at hget
      obtain ⟨p, e, R, s, m, args, below, meth, c, cells, slots, Qp⟩ := X
      intro H locs ls hW hS hl
      obtain ⟨hx, hb, hml, hown, hts, hK0, hrm⟩ := id F
      rw [List.map_cons, List.map_cons, sl_tv_ref (show 21 < 90 by omega)]
      exact va_zald hx hb hK0.1 hW o 1 hget rfl hin hdec (hK (.inl (sl_bz (μ o i.toNatClampNeg)) :: st') (sl_wkS.cons trivial ws.tl.tl) h H locs ls hW hS hl)
    next => exact h.elim
  next => exact h.elim
theorem sl_s_zst (F : sl_Fx g X own cc nL hh) (ws : sl_wkS st) (hdec : decode cc pc = .ok (.bastore, 1)) {K : List sl_V → sl_M → Prop} (h : sl_zst st μ K) (hK : ∀ st' μ', sl_wkS st' → K st' μ' → sl_Vw g X nL cst (pc + 1) lv st' μ') : sl_Vw g X nL cst pc lv st μ := by
  unfold sl_zst at h
  split at h
  next v i q st' =>
    obtain ⟨c0, o⟩ := q
    split at h
    next hc0 =>
      simp only at hc0
      subst hc0
      obtain ⟨hin, hbz, h⟩ := h
      have hkd : sl_kd o = 21 := ws.tl.tl.hd (show 21 < 90 by omega)
      have ho : o < sl_N := sl_kd_lt (by rw [hkd]; omega)
      have hget := sl_wl_get g μ ho
      rw [show sl_E g μ o = .inl (sl_ca g 1, sl_len o, .inl (fun i => sl_bz (μ o i))) by unfold sl_E; rw [hkd]; rfl] at hget
      obtain ⟨p, e, R, s, m, args, below, meth, c, cells, slots, Qp⟩ := X
      intro H locs ls hW hS hl
      obtain ⟨hx, hb, hml, hown, hts, hK0, hrm⟩ := id F
      rw [List.map_cons, List.map_cons, List.map_cons, sl_tv_ref (show 21 < 90 by omega)]
      refine va_zast hx hb hK0.1 hW (sl_wl_D g μ) hS o 1 hget rfl hin hdec (fun H1 locs1 hP1 hD1 hS1 => ?_)
      refine hK _ _ ws.tl.tl.tl (h _ rfl) H1 locs1 ls ?_ hS1 hl
      unfold sl_Wd
      have hf : (fun j => sl_bz (sl_up μ o i.toNatClampNeg v o j)) = upd (fun j => sl_bz (μ o j)) i.toNatClampNeg (vp_nar .boolean v) := by
        funext j
        rw [sl_up_at]
        unfold upd
        split
        · rw [(sl_bz_nar hbz).2.2, hbz]
        · rfl
      rw [← sl_wl_set (g := g) (μ := μ) (μ' := sl_up μ o i.toNatClampNeg v) ho (e := .inl (sl_ca g 1, sl_len o, .inl (upd (fun j => sl_bz (μ o j)) i.toNatClampNeg (vp_nar .boolean v)))) (by unfold sl_E; rw [hkd]; simp only [hf]) (fun o' h => sl_up_row h)]
      exact hP1
    next => exact h.elim
  next => exact h.elim
theorem sl_s_rld (F : sl_Fx g X own cc nL hh) (ws : sl_wkS st) (hdec : decode cc pc = .ok (.aaload, 1)) {K : List sl_V → Prop} (h : sl_rld st μ K) (hK : ∀ st', sl_wkS st' → K st' → sl_Vw g X nL cst (pc + 1) lv st' μ) : sl_Vw g X nL cst pc lv st μ := by
  unfold sl_rld at h
  split at h
  next i q st' =>
    obtain ⟨c0, o⟩ := q
    have key : ∀ (t0 c1 t : Nat) (C : String) (f : Nat → Option Nat), c0 < 90 → c0 ≠ 99 → c1 < 90 → vp_in i (sl_len o) → (sl_kd o = c0 → sl_E g μ o = .inl (sl_ca g t0, sl_len o, sl_rf f)) → (sl_tys g)[t0]? = some (sl_ca g t0, .object C) → f i.toNatClampNeg = some (sl_b g + t) → (sl_kd o = c0 → o < sl_N → sl_kd t = c1) → K (.inr (.inr (some (c1, t))) :: st') → sl_Vw g X nL cst pc lv (.inl i :: .inr (.inr (some (c0, o))) :: st') μ := by
      intro t0 c1 t C f hc0 hc9 hc1 hin hE hty hf hkt hk
      have hkd : sl_kd o = c0 := ws.tl.hd hc0
      have ho : o < sl_N := sl_kd_lt (by rw [hkd]; exact hc9)
      have hget := sl_wl_get g μ ho
      rw [hE hkd] at hget
      obtain ⟨p, e, R, s, m, args, below, meth, c, cells, slots, Qp⟩ := X
      intro H locs ls hW hS hl
      obtain ⟨hx, hb, hml, hown, hts, hK0, hrm⟩ := id F
      rw [List.map_cons, List.map_cons, sl_tv_ref hc0]
      refine va_aldq (C := C) hx hb hK0.1 hW o t0 hget hty hin hdec ?_
      rw [hf]
      have := hK (.inr (.inr (some (c1, t))) :: st') (sl_wkS.cons (fun _ => hkt hkd ho) ws.tl.tl) hk H locs ls hW hS hl
      rw [List.map_cons, sl_tv_ref hc1] at this
      exact this
    simp only at h
    split at h
    next => exact key 2 9 (o + 2 + i.toNatClampNeg) sl_R9 (fun i => some (sl_b g + (o + 2 + i))) (by omega) (by omega) (by omega) h.1 (fun hkd => by unfold sl_E; rw [hkd]; rfl) rfl rfl (fun hkd ho => (sl_ar_kd (sl_in_lt h.1) ho).1 hkd) h.2
    next => exact key 2 9 _ sl_R9 (fun i => some (sl_b g + (μ o i).toNatClampNeg)) (by omega) (by omega) (by omega) h.1 (fun hkd => by unfold sl_E; rw [hkd]; rfl) rfl rfl (fun _ _ => h.2.1) h.2.2
    next => exact key 3 4 (o + 48 + 2 * i.toNatClampNeg) sl_R4 (fun i => some (sl_b g + (o + 48 + 2 * i))) (by omega) (by omega) (by omega) h.1 (fun hkd => by unfold sl_E; rw [hkd]; rfl) rfl rfl (fun hkd ho => (sl_ar_kd (sl_in_lt h.1) ho).2.1 hkd) h.2
    next => exact key 4 8 (o + 40 + 2 * i.toNatClampNeg) sl_R8 (fun i => some (sl_b g + (o + 40 + 2 * i))) (by omega) (by omega) (by omega) h.1 (fun hkd => by unfold sl_E; rw [hkd]; rfl) rfl rfl (fun hkd ho => (sl_ar_kd (sl_in_lt h.1) ho).2.2 hkd) h.2
    next => exact h.elim
  next => exact h.elim
theorem sl_s_rst (F : sl_Fx g X own cc nL hh) (ws : sl_wkS st) (hdec : decode cc pc = .ok (.aastore, 1)) {K : List sl_V → sl_M → Prop} (h : sl_rst st μ K) (hK : ∀ st' μ', sl_wkS st' → K st' μ' → sl_Vw g X nL cst (pc + 1) lv st' μ') : sl_Vw g X nL cst pc lv st μ := by
  unfold sl_rst at h
  split at h
  next w i q st' =>
    obtain ⟨c0, o⟩ := q
    obtain ⟨c1, t⟩ := w
    split at h
    next hc0 =>
      split at h
      next hc1 =>
        simp only at hc0 hc1
        subst hc0
        subst hc1
        obtain ⟨hin, h⟩ := h
        have hkd : sl_kd o = 23 := ws.tl.tl.hd (show 23 < 90 by omega)
        have ho : o < sl_N := sl_kd_lt (by rw [hkd]; omega)
        have hkt : sl_kd t = 9 := ws.hd (show 9 < 90 by omega)
        have ht : t < sl_N := sl_kd_lt (by rw [hkt]; omega)
        have hget := sl_wl_get g μ ho
        rw [show sl_E g μ o = .inl (sl_ca g 2, sl_len o, sl_rf (fun i => some (sl_b g + (μ o i).toNatClampNeg))) by unfold sl_E; rw [hkd]; rfl] at hget
        have hgt := sl_wl_get g μ ht
        rw [sl_E_obj g μ hkt (by omega)] at hgt
        obtain ⟨p, e, R, s, m, args, below, meth, c, cells, slots, Qp⟩ := X
        intro H locs ls hW hS hl
        obtain ⟨hx, hb, hml, hown, hts, hK0, hrm⟩ := id F
        rw [List.map_cons, List.map_cons, List.map_cons, sl_tv_ref (show 23 < 90 by omega), sl_tv_ref (show 9 < 90 by omega)]
        refine va_astq (r := (sl_R9, sl_F9, 6)) hx hb hK0.1 hW (sl_wl_D g μ) hS o 2 t 9 hget rfl hgt rfl hin hdec (fun H1 locs1 hP1 hD1 hS1 => ?_)
        refine hK _ _ ws.tl.tl.tl (h _ rfl) H1 locs1 ls ?_ hS1 hl
        unfold sl_Wd
        have hnt : (nI t).toNatClampNeg = t := nI_clamp (Nat.lt_trans ht (by decide))
        have hf : (fun j => some (sl_b g + (sl_up μ o i.toNatClampNeg (nI t) o j).toNatClampNeg)) = va_up (fun j => some (sl_b g + (μ o j).toNatClampNeg)) i.toNatClampNeg (some (sl_b g + t)) := by
          funext j
          rw [sl_up_at]
          unfold upd va_up
          split
          · rw [hnt]
          · rfl
        rw [← sl_wl_set (g := g) (μ := μ) (μ' := sl_up μ o i.toNatClampNeg (nI t)) ho (e := .inl (sl_ca g 2, sl_len o, sl_rf (va_up (fun j => some (sl_b g + (μ o j).toNatClampNeg)) i.toNatClampNeg (some (sl_b g + t))))) (by unfold sl_E; rw [hkd]; simp only [hf]) (fun o' h => sl_up_row h)]
        exact hP1
      next => exact h.elim
    next => exact h.elim
  next => exact h.elim
end STEP
end
section
/-! a step of any instruction, runs, cuts, methods -/
theorem sl_wkS.ci {x : Int32} {st : List sl_V} (hs : sl_wkS st) : sl_wkS (.inl x :: st) := sl_wkS.cons (v := .inl x) trivial hs
theorem sl_wkS.cj {x : Int64} {st : List sl_V} (hs : sl_wkS st) : sl_wkS (.inr (.inl x) :: st) := sl_wkS.cons (v := .inr (.inl x)) trivial hs
section RUN
variable {g : sl_G} {X : sl_X} {own : String} {cc : ByteArray} {nL hh : Nat} {rt : Option FieldType} {Q : sl_Qt} {lk : sl_Lk} {cx : List (Nat × Nat)} {ct : List sl_Ct} {cst : sl_L} {pc : Nat} {lv : sl_L} {st : List sl_V} {μ : sl_M}
theorem sl_s_call (F : sl_Fx g X own cc nL hh) (HC : sl_HC g own hh ct cx) (ws : sl_wkS st) {kind idx j : Nat} (hdec : decode cc pc = .ok (sl_ins kind idx, 3)) (hj : cx[j]? = some (idx, kind)) {K : List sl_V → sl_M → Prop} (h : sl_call ct j st μ K) (hK : ∀ st' μ', sl_wkS st' → K st' μ' → sl_Vw g X nL cst (pc + 3) lv st' μ') : sl_Vw g X nL cst pc lv st μ := by
  obtain ⟨q, as, st', h1, h2, h3, h4, h5⟩ := sl_call_inv h
  obtain ⟨idx', e1, e2⟩ := HC j q h1
  have e3 : (idx', q.2.1) = (idx, kind) := Option.some.inj (e1.symm.trans hj)
  cases e3
  obtain ⟨p1, p2, p3, p4⟩ := sl_pop_spec _ _ _ _ _ h2
  simp only [List.reverse_nil, List.nil_append] at p1
  obtain ⟨p, e, R, s, m, args, below, meth, c, cells, slots, Qp⟩ := X
  intro H locs ls hW hS hl
  subst p1
  rw [List.map_append, List.map_reverse]
  refine e2 p e R s m args below meth c cells slots Qp cc nL F pc hdec μ H locs ls as (st'.map (sl_tv g)) _ (by rw [p2]; simp) (fun v hv => ws v ((p3 v hv).elim (fun z => absurd z List.not_mem_nil) id)) h4 hW hS hl.1 (by rw [sl_cat_map]; exact h3) h5 ?_
  intro r μ' H1 locs1 hq hw hW1 hS1
  have := hK (r.toList ++ st') μ' (fun v hv => by
    rcases List.mem_append.mp hv with z | z
    · exact hw v (by cases r with | none => cases z | some w => simp at z; rw [z])
    · exact ws v (List.mem_append_right _ z)) hq H1 locs1 ls hW1 hS1 hl
  rw [List.map_append] at this
  have e4 : (Option.map (sl_tv g) r).toList = List.map (sl_tv g) r.toList := by cases r <;> rfl
  rw [e4]
  exact this
theorem sl_s_ifc (F : sl_Fx g X own cc nL hh) {c : ClassFile.Cond} {off : Int} {t : Nat} (hdec : decode cc pc = .ok (.ifCond c off, 3)) (ht : (pc : Int) + off = (t : Int)) {v : Int32} {A B : Prop} (hA : A → sl_Vw g X nL cst t lv st μ) (hB : B → sl_Vw g X nL cst (pc + 3) lv st μ) (h : sl_ifc c v 0 A B) : sl_Vw g X nL cst pc lv (.inl v :: st) μ := by
  obtain ⟨p, e, R, s, m, args, below, meth, c0, cells, slots, Qp⟩ := X
  intro H locs ls hW hS hl
  obtain ⟨hx, hb, hml, hown, hts, hK0, hrm⟩ := id F
  cases c with
  | eq => exact lv_if_eq hx hb hdec ht (fun z => hA (h.1 z) H locs ls hW hS hl) (fun z => hB (h.2 z) H locs ls hW hS hl)
  | ne => exact lv_if_ne hx hb hdec ht (fun z => hA (h.2 z) H locs ls hW hS hl) (fun z => hB (h.1 z) H locs ls hW hS hl)
  | lt => exact lv_if_lt hx hb hdec ht (fun z => hA (h.1 z) H locs ls hW hS hl) (fun z => hB (h.2 z) H locs ls hW hS hl)
  | ge => exact lv_if_ge hx hb hdec ht (fun z => hA (h.2 (Int32.not_lt.mpr z)) H locs ls hW hS hl) (fun z => hB (h.1 (Int32.not_le.mp z)) H locs ls hW hS hl)
  | gt => exact lv_if_gt hx hb hdec ht (fun z => hA (h.2 (Int32.not_le.mpr z)) H locs ls hW hS hl) (fun z => hB (h.1 (Int32.not_lt.mp z)) H locs ls hW hS hl)
  | le => exact lv_if_le hx hb hdec ht (fun z => hA (h.1 z) H locs ls hW hS hl) (fun z => hB (h.2 z) H locs ls hW hS hl)
theorem sl_s_icm (F : sl_Fx g X own cc nL hh) {c : ClassFile.Cond} {off : Int} {t : Nat} (hdec : decode cc pc = .ok (.if_icmp c off, 3)) (ht : (pc : Int) + off = (t : Int)) {v w : Int32} {A B : Prop} (hA : A → sl_Vw g X nL cst t lv st μ) (hB : B → sl_Vw g X nL cst (pc + 3) lv st μ) (h : sl_ifc c v w A B) : sl_Vw g X nL cst pc lv (.inl w :: .inl v :: st) μ := by
  obtain ⟨p, e, R, s, m, args, below, meth, c0, cells, slots, Qp⟩ := X
  intro H locs ls hW hS hl
  obtain ⟨hx, hb, hml, hown, hts, hK0, hrm⟩ := id F
  cases c with
  | eq => exact lv_icmp_eq hx hb hdec ht (fun z => hA (h.1 z) H locs ls hW hS hl) (fun z => hB (h.2 z) H locs ls hW hS hl)
  | ne => exact lv_icmp_ne hx hb hdec ht (fun z => hA (h.2 z) H locs ls hW hS hl) (fun z => hB (h.1 z) H locs ls hW hS hl)
  | lt => exact lv_icmp_lt hx hb hdec ht (fun z => hA (h.1 z) H locs ls hW hS hl) (fun z => hB (h.2 z) H locs ls hW hS hl)
  | ge => exact lv_icmp_ge hx hb hdec ht (fun z => hA (h.2 (Int32.not_lt.mpr z)) H locs ls hW hS hl) (fun z => hB (h.1 (Int32.not_le.mp z)) H locs ls hW hS hl)
  | gt => exact lv_icmp_gt hx hb hdec ht (fun z => hA (h.2 (Int32.not_le.mpr z)) H locs ls hW hS hl) (fun z => hB (h.1 (Int32.not_lt.mp z)) H locs ls hW hS hl)
  | le => exact lv_icmp_le hx hb hdec ht (fun z => hA (h.1 z) H locs ls hW hS hl) (fun z => hB (h.2 z) H locs ls hW hS hl)
set_option maxHeartbeats 4000000 in
theorem sl_step_ok (F : sl_Fx g X own cc nL hh) (Rt : sl_Rt g X rt Q) (HL : sl_LkOK own lk) (HC : sl_HC g own hh ct cx) (wc : sl_wkL cst) {ins : Instr} {len : Nat} {x : Int32} {d : List Nat} {sw : List (Int32 × Nat)} {fl : Bool}
    (hdec : decode cc pc = .ok (ins, len)) (hok : sl_okE own nL rt lk cx (pc, ins, len, x, d, sw, fl) = true) {K : sl_It} {J : Nat → sl_It}
    (hK : ∀ lv st μ, sl_wkL lv → sl_wkS st → K lv st μ → sl_Vw g X nL cst (pc + len) lv st μ) (hJ : ∀ t lv st μ, sl_wkL lv → sl_wkS st → J t lv st μ → sl_Vw g X nL cst t lv st μ)
    (wl : sl_wkL lv) (ws : sl_wkS st) (h : sl_step Q ct cst ins x d sw K J lv st μ) : sl_Vw g X nL cst pc lv st μ := by
  cases ins with
  | iconst n =>
    simp only [sl_okE, Bool.and_eq_true, decide_eq_true_eq] at hok
    obtain ⟨e1, rfl⟩ := hok
    have hk := hK lv (.inl x :: st) μ wl (ws.cons trivial) h
    obtain ⟨p, e, R, s, m, args, below, meth, c, cells, slots, Qp⟩ := X
    intro H locs ls hW hS hl
    obtain ⟨hx, hb, hml, hown, hts, hK0, hrm⟩ := id F
    exact lv_iconst hx hb hdec e1 (hk H locs ls hW hS hl)
  | bipush n =>
    simp only [sl_okE, Bool.and_eq_true, decide_eq_true_eq] at hok
    obtain ⟨e1, rfl⟩ := hok
    have hk := hK lv (.inl x :: st) μ wl (ws.cons trivial) h
    obtain ⟨p, e, R, s, m, args, below, meth, c, cells, slots, Qp⟩ := X
    intro H locs ls hW hS hl
    obtain ⟨hx, hb, hml, hown, hts, hK0, hrm⟩ := id F
    exact lv_bipush hx hb hdec e1 (hk H locs ls hW hS hl)
  | sipush n =>
    simp only [sl_okE, Bool.and_eq_true, decide_eq_true_eq] at hok
    obtain ⟨e1, rfl⟩ := hok
    have hk := hK lv (.inl x :: st) μ wl (ws.cons trivial) h
    obtain ⟨p, e, R, s, m, args, below, meth, c, cells, slots, Qp⟩ := X
    intro H locs ls hW hS hl
    obtain ⟨hx, hb, hml, hown, hts, hK0, hrm⟩ := id F
    exact lv_sipush hx hb hdec e1 (hk H locs ls hW hS hl)
  | ldc i =>
    simp only [sl_okE, Bool.and_eq_true, decide_eq_true_eq] at hok
    obtain ⟨rfl, hok⟩ := hok
    cases d with
    | nil =>
      have hk := hK lv (.inl x :: st) μ wl (ws.cons trivial) h
      obtain ⟨p, e, R, s, m, args, below, meth, c, cells, slots, Qp⟩ := X
      intro H locs ls hW hS hl
      obtain ⟨hx, hb, hml, hown, hts, hK0, hrm⟩ := id F
      exact lv_ldc hx hb hown (hts _ (HL.2.1 _ (List.contains_iff_mem.mp hok))) hdec (hk H locs ls hW hS hl)
    | cons o dd =>
      simp only [Bool.and_eq_true, decide_eq_true_eq] at hok
      obtain ⟨ho, rfl, rfl⟩ := hok
      have hk := hK lv (.inr (.inr (some (90, o))) :: st) μ wl (ws.cons (fun q => absurd q (Nat.lt_irrefl 90))) h
      obtain ⟨p, e, R, s, m, args, below, meth, c, cells, slots, Qp⟩ := X
      intro H locs ls hW hS hl
      obtain ⟨hx, hb, hml, hown, hts, hK0, hrm⟩ := id F
      exact va_ldcS hx hb hown (hK0.2.2.1 o ho) hdec (hk H locs ls hW hS hl)
  | ldc_w i =>
    simp only [sl_okE, Bool.and_eq_true, decide_eq_true_eq] at hok
    obtain ⟨rfl, hok⟩ := hok
    have hk := hK lv (.inl x :: st) μ wl (ws.cons trivial) h
    obtain ⟨p, e, R, s, m, args, below, meth, c, cells, slots, Qp⟩ := X
    intro H locs ls hW hS hl
    obtain ⟨hx, hb, hml, hown, hts, hK0, hrm⟩ := id F
    exact lv_ldcw hx hb hown (hts _ (HL.2.1 _ (List.contains_iff_mem.mp hok))) hdec (hk H locs ls hW hS hl)
  | lconst n =>
    simp only [sl_okE, Bool.and_eq_true, decide_eq_true_eq] at hok
    obtain ⟨e1, rfl⟩ := hok
    have hk := hK lv (.inr (.inl x.toInt64) :: st) μ wl (ws.cons trivial) h
    obtain ⟨p, e, R, s, m, args, below, meth, c, cells, slots, Qp⟩ := X
    intro H locs ls hW hS hl
    obtain ⟨hx, hb, hml, hown, hts, hK0, hrm⟩ := id F
    exact lv_lconst hx hb hdec e1 (hk H locs ls hW hS hl)
  | ldc2_w i =>
    simp only [sl_okE, Bool.and_eq_true, decide_eq_true_eq] at hok
    obtain ⟨rfl, hok⟩ := hok
    have hk := hK lv (.inr (.inl x.toInt64) :: st) μ wl (ws.cons trivial) h
    obtain ⟨p, e, R, s, m, args, below, meth, c, cells, slots, Qp⟩ := X
    intro H locs ls hW hS hl
    obtain ⟨hx, hb, hml, hown, hts, hK0, hrm⟩ := id F
    exact lv_ldc2 hx hb hown (hts _ (HL.2.2 _ (List.contains_iff_mem.mp hok))) hdec (hk H locs ls hW hS hl)
  | aconst_null =>
    simp only [sl_okE, decide_eq_true_eq] at hok
    subst hok
    have hk := hK lv (.inr (.inr none) :: st) μ wl (ws.cons trivial) h
    obtain ⟨p, e, R, s, m, args, below, meth, c, cells, slots, Qp⟩ := X
    intro H locs ls hW hS hl
    obtain ⟨hx, hb, hml, hown, hts, hK0, hrm⟩ := id F
    exact lv_null hx hb hdec (hk H locs ls hW hS hl)
  | iload i =>
    simp only [sl_okE, decide_eq_true_eq] at hok
    subst hok
    simp only [sl_step] at h
    obtain ⟨r, e1, h⟩ := sl_ldi_inv h
    have hk := hK lv _ μ wl (ws.cons (sl_get_wk wc wl e1)) h
    obtain ⟨p, e, R, s, m, args, below, meth, c, cells, slots, Qp⟩ := X
    intro H locs ls hW hS hl
    obtain ⟨hx, hb, hml, hown, hts, hK0, hrm⟩ := id F
    exact lv_iload hx hb hdec (hl.2.2 _ _ e1) (hk H locs ls hW hS hl)
  | iload_n i =>
    simp only [sl_okE, Bool.and_eq_true, decide_eq_true_eq] at hok
    obtain ⟨rfl, e2⟩ := hok
    simp only [sl_step] at h
    obtain ⟨r, e1, h⟩ := sl_ldi_inv h
    have hk := hK lv _ μ wl (ws.cons (sl_get_wk wc wl e1)) h
    obtain ⟨p, e, R, s, m, args, below, meth, c, cells, slots, Qp⟩ := X
    intro H locs ls hW hS hl
    obtain ⟨hx, hb, hml, hown, hts, hK0, hrm⟩ := id F
    exact lv_iload_n hx hb hdec e2 (hl.2.2 _ _ e1) (hk H locs ls hW hS hl)
  | lload i =>
    simp only [sl_okE, decide_eq_true_eq] at hok
    subst hok
    simp only [sl_step] at h
    obtain ⟨r, e1, h⟩ := sl_ldj_inv h
    have hk := hK lv _ μ wl (ws.cons (sl_get_wk wc wl e1)) h
    obtain ⟨p, e, R, s, m, args, below, meth, c, cells, slots, Qp⟩ := X
    intro H locs ls hW hS hl
    obtain ⟨hx, hb, hml, hown, hts, hK0, hrm⟩ := id F
    exact lv_lload hx hb hdec (hl.2.2 _ _ e1) (hk H locs ls hW hS hl)
  | lload_n i =>
    simp only [sl_okE, Bool.and_eq_true, decide_eq_true_eq] at hok
    obtain ⟨rfl, e2⟩ := hok
    simp only [sl_step] at h
    obtain ⟨r, e1, h⟩ := sl_ldj_inv h
    have hk := hK lv _ μ wl (ws.cons (sl_get_wk wc wl e1)) h
    obtain ⟨p, e, R, s, m, args, below, meth, c, cells, slots, Qp⟩ := X
    intro H locs ls hW hS hl
    obtain ⟨hx, hb, hml, hown, hts, hK0, hrm⟩ := id F
    exact lv_lload_n hx hb hdec e2 (hl.2.2 _ _ e1) (hk H locs ls hW hS hl)
  | aload i =>
    simp only [sl_okE, decide_eq_true_eq] at hok
    subst hok
    simp only [sl_step] at h
    obtain ⟨r, e1, h⟩ := sl_ldr_inv h
    have hk := hK lv _ μ wl (ws.cons (sl_get_wk wc wl e1)) h
    obtain ⟨p, e, R, s, m, args, below, meth, c, cells, slots, Qp⟩ := X
    intro H locs ls hW hS hl
    obtain ⟨hx, hb, hml, hown, hts, hK0, hrm⟩ := id F
    cases r with
    | none => exact lv_aloadN hx hb hdec (hl.2.2 _ _ e1) (hk H locs ls hW hS hl)
    | some q => exact lv_aload hx hb hdec (hl.2.2 _ _ e1) (hk H locs ls hW hS hl)
  | aload_n i =>
    simp only [sl_okE, Bool.and_eq_true, decide_eq_true_eq] at hok
    obtain ⟨rfl, e2⟩ := hok
    simp only [sl_step] at h
    obtain ⟨r, e1, h⟩ := sl_ldr_inv h
    have hk := hK lv _ μ wl (ws.cons (sl_get_wk wc wl e1)) h
    obtain ⟨p, e, R, s, m, args, below, meth, c, cells, slots, Qp⟩ := X
    intro H locs ls hW hS hl
    obtain ⟨hx, hb, hml, hown, hts, hK0, hrm⟩ := id F
    cases r with
    | none => exact lv_aload_nN hx hb hdec e2 (hl.2.2 _ _ e1) (hk H locs ls hW hS hl)
    | some q => exact lv_aload_n hx hb hdec e2 (hl.2.2 _ _ e1) (hk H locs ls hW hS hl)
  | istore i =>
    simp only [sl_okE, Bool.and_eq_true, decide_eq_true_eq] at hok
    obtain ⟨rfl, hn⟩ := hok
    simp only [sl_step] at h
    obtain ⟨v, st', rfl, hw, h⟩ := sl_sti_inv h
    have hk := hK _ st' μ (wl.set (fun w hw => by cases hw; trivial)) ws.tl h
    obtain ⟨p, e, R, s, m, args, below, meth, c, cells, slots, Qp⟩ := X
    intro H locs ls hW hS hl
    obtain ⟨hx, hb, hml, hown, hts, hK0, hrm⟩ := id F
    exact lv_istore hx hb hdec hl.has hn rfl (fun ls' h' => hk H locs ls' hW hS (hl.store (v := .inl v) hw h'))
  | istore_n i =>
    simp only [sl_okE, Bool.and_eq_true, decide_eq_true_eq] at hok
    obtain ⟨rfl, e2, hn⟩ := hok
    simp only [sl_step] at h
    obtain ⟨v, st', rfl, hw, h⟩ := sl_sti_inv h
    have hk := hK _ st' μ (wl.set (fun w hw => by cases hw; trivial)) ws.tl h
    obtain ⟨p, e, R, s, m, args, below, meth, c, cells, slots, Qp⟩ := X
    intro H locs ls hW hS hl
    obtain ⟨hx, hb, hml, hown, hts, hK0, hrm⟩ := id F
    exact lv_istore_n hx hb hdec e2 hl.has hn rfl (fun ls' h' => hk H locs ls' hW hS (hl.store (v := .inl v) hw h'))
  | lstore i =>
    simp only [sl_okE, Bool.and_eq_true, decide_eq_true_eq] at hok
    obtain ⟨rfl, hn⟩ := hok
    simp only [sl_step] at h
    obtain ⟨v, st', rfl, hw, hw2, h⟩ := sl_stj_inv h
    have hk := hK _ st' μ ((wl.set (fun w hw => by cases hw; trivial)).set (fun w hw => by cases hw)) ws.tl h
    obtain ⟨p, e, R, s, m, args, below, meth, c, cells, slots, Qp⟩ := X
    intro H locs ls hW hS hl
    obtain ⟨hx, hb, hml, hown, hts, hK0, hrm⟩ := id F
    exact lv_lstore hx hb hdec hl.has hn rfl (fun ls' h' => hk H locs ls' hW hS (hl.store2 (v := .inr (.inl v)) hw hw2 h'))
  | lstore_n i =>
    simp only [sl_okE, Bool.and_eq_true, decide_eq_true_eq] at hok
    obtain ⟨rfl, e2, hn⟩ := hok
    simp only [sl_step] at h
    obtain ⟨v, st', rfl, hw, hw2, h⟩ := sl_stj_inv h
    have hk := hK _ st' μ ((wl.set (fun w hw => by cases hw; trivial)).set (fun w hw => by cases hw)) ws.tl h
    obtain ⟨p, e, R, s, m, args, below, meth, c, cells, slots, Qp⟩ := X
    intro H locs ls hW hS hl
    obtain ⟨hx, hb, hml, hown, hts, hK0, hrm⟩ := id F
    exact lv_lstore_n hx hb hdec e2 hl.has hn rfl (fun ls' h' => hk H locs ls' hW hS (hl.store2 (v := .inr (.inl v)) hw hw2 h'))
  | astore i =>
    simp only [sl_okE, Bool.and_eq_true, decide_eq_true_eq] at hok
    obtain ⟨rfl, hn⟩ := hok
    simp only [sl_step] at h
    obtain ⟨v, st', rfl, hw, h⟩ := sl_str_inv h
    have hk := hK _ st' μ (wl.set (fun w hw => by cases hw; exact ws.hd)) ws.tl h
    obtain ⟨p, e, R, s, m, args, below, meth, c, cells, slots, Qp⟩ := X
    intro H locs ls hW hS hl
    obtain ⟨hx, hb, hml, hown, hts, hK0, hrm⟩ := id F
    cases v with
    | none => exact lv_astoreN hx hb hdec hl.has hn rfl (fun ls' h' => hk H locs ls' hW hS (hl.store (v := .inr (.inr none)) hw h'))
    | some q => exact lv_astore hx hb hdec hl.has hn rfl (fun ls' h' => hk H locs ls' hW hS (hl.store (v := .inr (.inr (some q))) hw h'))
  | astore_n i =>
    simp only [sl_okE, Bool.and_eq_true, decide_eq_true_eq] at hok
    obtain ⟨rfl, e2, hn⟩ := hok
    simp only [sl_step] at h
    obtain ⟨v, st', rfl, hw, h⟩ := sl_str_inv h
    have hk := hK _ st' μ (wl.set (fun w hw => by cases hw; exact ws.hd)) ws.tl h
    obtain ⟨p, e, R, s, m, args, below, meth, c, cells, slots, Qp⟩ := X
    intro H locs ls hW hS hl
    obtain ⟨hx, hb, hml, hown, hts, hK0, hrm⟩ := id F
    cases v with
    | none => exact lv_astore_nN hx hb hdec e2 hl.has hn rfl (fun ls' h' => hk H locs ls' hW hS (hl.store (v := .inr (.inr none)) hw h'))
    | some q => exact lv_astore_n hx hb hdec e2 hl.has hn rfl (fun ls' h' => hk H locs ls' hW hS (hl.store (v := .inr (.inr (some q))) hw h'))
  | iinc i n =>
    simp only [sl_okE, Bool.and_eq_true, decide_eq_true_eq] at hok
    obtain ⟨rfl, e2, hn⟩ := hok
    simp only [sl_step] at h
    obtain ⟨r, e1, h⟩ := sl_ldi_inv h
    obtain ⟨a0, b0, s0, e0, h⟩ := sl_bin_inv h
    cases e0
    obtain ⟨v, st', e3, hw, h⟩ := sl_sti_inv h
    cases e3
    have hk := hK _ st μ (wl.set (fun w hw => by cases hw; trivial)) ws h
    obtain ⟨p, e, R, s, m, args, below, meth, c, cells, slots, Qp⟩ := X
    intro H locs ls hW hS hl
    obtain ⟨hx, hb, hml, hown, hts, hK0, hrm⟩ := id F
    obtain ⟨k, hk2⟩ := List.getElem?_of_mem (sl_prs_mem (g := g) hn e1)
    exact lv_iinc hx hb hdec hl.has hk2 (by rw [e2]) hn rfl (fun ls' h' => hk H locs ls' hW hS (hl.store (v := .inl (r + x)) hw h'))
  | iadd =>
    simp only [sl_okE, decide_eq_true_eq] at hok
    subst hok
    simp only [sl_step] at h
    obtain ⟨a, b, st', rfl, h⟩ := sl_bin_inv h
    have hk := hK lv _ μ wl ws.tl.tl.ci h
    obtain ⟨p, e, R, s, m, args, below, meth, c, cells, slots, Qp⟩ := X
    intro H locs ls hW hS hl
    obtain ⟨hx, hb, hml, hown, hts, hK0, hrm⟩ := id F
    exact lv_iadd hx hb hdec (hk H locs ls hW hS hl)
  | isub =>
    simp only [sl_okE, decide_eq_true_eq] at hok
    subst hok
    simp only [sl_step] at h
    obtain ⟨a, b, st', rfl, h⟩ := sl_bin_inv h
    have hk := hK lv _ μ wl ws.tl.tl.ci h
    obtain ⟨p, e, R, s, m, args, below, meth, c, cells, slots, Qp⟩ := X
    intro H locs ls hW hS hl
    obtain ⟨hx, hb, hml, hown, hts, hK0, hrm⟩ := id F
    exact lv_isub hx hb hdec (hk H locs ls hW hS hl)
  | imul =>
    simp only [sl_okE, decide_eq_true_eq] at hok
    subst hok
    simp only [sl_step] at h
    obtain ⟨a, b, st', rfl, h⟩ := sl_bin_inv h
    have hk := hK lv _ μ wl ws.tl.tl.ci h
    obtain ⟨p, e, R, s, m, args, below, meth, c, cells, slots, Qp⟩ := X
    intro H locs ls hW hS hl
    obtain ⟨hx, hb, hml, hown, hts, hK0, hrm⟩ := id F
    exact lv_imul hx hb hdec (hk H locs ls hW hS hl)
  | iand =>
    simp only [sl_okE, decide_eq_true_eq] at hok
    subst hok
    simp only [sl_step] at h
    obtain ⟨a, b, st', rfl, h⟩ := sl_bin_inv h
    have hk := hK lv _ μ wl ws.tl.tl.ci h
    obtain ⟨p, e, R, s, m, args, below, meth, c, cells, slots, Qp⟩ := X
    intro H locs ls hW hS hl
    obtain ⟨hx, hb, hml, hown, hts, hK0, hrm⟩ := id F
    exact lv_iand hx hb hdec (hk H locs ls hW hS hl)
  | ior =>
    simp only [sl_okE, decide_eq_true_eq] at hok
    subst hok
    simp only [sl_step] at h
    obtain ⟨a, b, st', rfl, h⟩ := sl_bin_inv h
    have hk := hK lv _ μ wl ws.tl.tl.ci h
    obtain ⟨p, e, R, s, m, args, below, meth, c, cells, slots, Qp⟩ := X
    intro H locs ls hW hS hl
    obtain ⟨hx, hb, hml, hown, hts, hK0, hrm⟩ := id F
    exact lv_ior hx hb hdec (hk H locs ls hW hS hl)
  | ixor =>
    simp only [sl_okE, decide_eq_true_eq] at hok
    subst hok
    simp only [sl_step] at h
    obtain ⟨a, b, st', rfl, h⟩ := sl_bin_inv h
    have hk := hK lv _ μ wl ws.tl.tl.ci h
    obtain ⟨p, e, R, s, m, args, below, meth, c, cells, slots, Qp⟩ := X
    intro H locs ls hW hS hl
    obtain ⟨hx, hb, hml, hown, hts, hK0, hrm⟩ := id F
    exact lv_ixor hx hb hdec (hk H locs ls hW hS hl)
  | ishl =>
    simp only [sl_okE, decide_eq_true_eq] at hok
    subst hok
    simp only [sl_step] at h
    obtain ⟨a, b, st', rfl, h⟩ := sl_bin_inv h
    have hk := hK lv _ μ wl ws.tl.tl.ci h
    obtain ⟨p, e, R, s, m, args, below, meth, c, cells, slots, Qp⟩ := X
    intro H locs ls hW hS hl
    obtain ⟨hx, hb, hml, hown, hts, hK0, hrm⟩ := id F
    exact lv_ishl hx hb hdec (hk H locs ls hW hS hl)
  | ishr =>
    simp only [sl_okE, decide_eq_true_eq] at hok
    subst hok
    simp only [sl_step] at h
    obtain ⟨a, b, st', rfl, h⟩ := sl_bin_inv h
    have hk := hK lv _ μ wl ws.tl.tl.ci h
    obtain ⟨p, e, R, s, m, args, below, meth, c, cells, slots, Qp⟩ := X
    intro H locs ls hW hS hl
    obtain ⟨hx, hb, hml, hown, hts, hK0, hrm⟩ := id F
    exact lv_ishr hx hb hdec (hk H locs ls hW hS hl)
  | iushr =>
    simp only [sl_okE, decide_eq_true_eq] at hok
    subst hok
    simp only [sl_step] at h
    obtain ⟨a, b, st', rfl, h⟩ := sl_bin_inv h
    have hk := hK lv _ μ wl ws.tl.tl.ci h
    obtain ⟨p, e, R, s, m, args, below, meth, c, cells, slots, Qp⟩ := X
    intro H locs ls hW hS hl
    obtain ⟨hx, hb, hml, hown, hts, hK0, hrm⟩ := id F
    exact lv_iushr hx hb hdec rfl (hk H locs ls hW hS hl)
  | idiv =>
    simp only [sl_okE, decide_eq_true_eq] at hok
    subst hok
    simp only [sl_step] at h
    split at h
    next b a st' =>
      have hk := hK lv _ μ wl ws.tl.tl.ci h.2
      obtain ⟨p, e, R, s, m, args, below, meth, c, cells, slots, Qp⟩ := X
      intro H locs ls hW hS hl
      obtain ⟨hx, hb, hml, hown, hts, hK0, hrm⟩ := id F
      exact lv_idiv hx hb hdec h.1 (hk H locs ls hW hS hl)
    next => exact h.elim
  | irem =>
    simp only [sl_okE, decide_eq_true_eq] at hok
    subst hok
    simp only [sl_step] at h
    split at h
    next b a st' =>
      have hk := hK lv _ μ wl ws.tl.tl.ci h.2
      obtain ⟨p, e, R, s, m, args, below, meth, c, cells, slots, Qp⟩ := X
      intro H locs ls hW hS hl
      obtain ⟨hx, hb, hml, hown, hts, hK0, hrm⟩ := id F
      exact lv_irem hx hb hdec h.1 (hk H locs ls hW hS hl)
    next => exact h.elim
  | ineg =>
    simp only [sl_okE, decide_eq_true_eq] at hok
    subst hok
    simp only [sl_step] at h
    split at h
    next a st' =>
      have hk := hK lv _ μ wl ws.tl.ci h
      obtain ⟨p, e, R, s, m, args, below, meth, c, cells, slots, Qp⟩ := X
      intro H locs ls hW hS hl
      obtain ⟨hx, hb, hml, hown, hts, hK0, hrm⟩ := id F
      exact lv_ineg hx hb hdec (hk H locs ls hW hS hl)
    next => exact h.elim
  | ladd =>
    simp only [sl_okE, decide_eq_true_eq] at hok
    subst hok
    simp only [sl_step] at h
    obtain ⟨a, b, st', rfl, h⟩ := sl_bij_inv h
    have hk := hK lv _ μ wl ws.tl.tl.cj h
    obtain ⟨p, e, R, s, m, args, below, meth, c, cells, slots, Qp⟩ := X
    intro H locs ls hW hS hl
    obtain ⟨hx, hb, hml, hown, hts, hK0, hrm⟩ := id F
    exact lv_ladd hx hb hdec (hk H locs ls hW hS hl)
  | lsub =>
    simp only [sl_okE, decide_eq_true_eq] at hok
    subst hok
    simp only [sl_step] at h
    obtain ⟨a, b, st', rfl, h⟩ := sl_bij_inv h
    have hk := hK lv _ μ wl ws.tl.tl.cj h
    obtain ⟨p, e, R, s, m, args, below, meth, c, cells, slots, Qp⟩ := X
    intro H locs ls hW hS hl
    obtain ⟨hx, hb, hml, hown, hts, hK0, hrm⟩ := id F
    exact lv_lsub hx hb hdec (hk H locs ls hW hS hl)
  | lmul =>
    simp only [sl_okE, decide_eq_true_eq] at hok
    subst hok
    simp only [sl_step] at h
    obtain ⟨a, b, st', rfl, h⟩ := sl_bij_inv h
    have hk := hK lv _ μ wl ws.tl.tl.cj h
    obtain ⟨p, e, R, s, m, args, below, meth, c, cells, slots, Qp⟩ := X
    intro H locs ls hW hS hl
    obtain ⟨hx, hb, hml, hown, hts, hK0, hrm⟩ := id F
    exact lv_lmul hx hb hdec (hk H locs ls hW hS hl)
  | i2l =>
    simp only [sl_okE, decide_eq_true_eq] at hok
    subst hok
    simp only [sl_step] at h
    split at h
    next a st' =>
      have hk := hK lv _ μ wl ws.tl.cj h
      obtain ⟨p, e, R, s, m, args, below, meth, c, cells, slots, Qp⟩ := X
      intro H locs ls hW hS hl
      obtain ⟨hx, hb, hml, hown, hts, hK0, hrm⟩ := id F
      exact lv_i2l hx hb hdec rfl (hk H locs ls hW hS hl)
    next => exact h.elim
  | lcmp =>
    simp only [sl_okE, decide_eq_true_eq] at hok
    subst hok
    simp only [sl_step] at h
    split at h
    next b a st' =>
      have hk := hK lv _ μ wl ws.tl.tl.ci h
      obtain ⟨p, e, R, s, m, args, below, meth, c, cells, slots, Qp⟩ := X
      intro H locs ls hW hS hl
      obtain ⟨hx, hb, hml, hown, hts, hK0, hrm⟩ := id F
      exact W.lcmp hx hb hdec (hk H locs ls hW hS hl)
    next => exact h.elim
  | dup =>
    simp only [sl_okE, decide_eq_true_eq] at hok
    subst hok
    simp only [sl_step] at h
    split at h
    next v st' =>
      have hk := hK lv _ μ wl ws.ci h
      obtain ⟨p, e, R, s, m, args, below, meth, c, cells, slots, Qp⟩ := X
      intro H locs ls hW hS hl
      obtain ⟨hx, hb, hml, hown, hts, hK0, hrm⟩ := id F
      exact lv_dup hx hb hdec rfl (hk H locs ls hW hS hl)
    next v st' =>
      have hk := hK lv _ μ wl (sl_wkS.cons ws.hd ws) h
      obtain ⟨p, e, R, s, m, args, below, meth, c, cells, slots, Qp⟩ := X
      intro H locs ls hW hS hl
      obtain ⟨hx, hb, hml, hown, hts, hK0, hrm⟩ := id F
      exact lv_dup hx hb hdec (by cases v <;> rfl) (hk H locs ls hW hS hl)
    next => exact h.elim
  | dup2 =>
    simp only [sl_okE, decide_eq_true_eq] at hok
    subst hok
    simp only [sl_step] at h
    split at h
    next v w st' =>
      have hk := hK lv _ μ wl (sl_wkS.cons ws.tl.hd ws).ci h
      obtain ⟨p, e, R, s, m, args, below, meth, c, cells, slots, Qp⟩ := X
      intro H locs ls hW hS hl
      obtain ⟨hx, hb, hml, hown, hts, hK0, hrm⟩ := id F
      exact lv_dup2_11 hx hb hdec rfl (by cases w <;> rfl) (hk H locs ls hW hS hl)
    next => exact h.elim
  | pop =>
    simp only [sl_okE, decide_eq_true_eq] at hok
    subst hok
    simp only [sl_step] at h
    split at h
    next v st' =>
      have hk := hK lv _ μ wl ws.tl h
      obtain ⟨p, e, R, s, m, args, below, meth, c, cells, slots, Qp⟩ := X
      intro H locs ls hW hS hl
      obtain ⟨hx, hb, hml, hown, hts, hK0, hrm⟩ := id F
      exact lv_pop hx hb hdec rfl (hk H locs ls hW hS hl)
    next => exact h.elim
  | ifCond c off =>
    simp only [sl_okE, Bool.and_eq_true, decide_eq_true_eq] at hok
    obtain ⟨rfl, e1⟩ := hok
    simp only [sl_step] at h
    split at h
    next v st' => exact sl_s_ifc F hdec e1 (fun z => hJ _ _ _ _ wl ws.tl z) (fun z => hK _ _ _ wl ws.tl z) h
    next => exact h.elim
  | if_icmp c off =>
    simp only [sl_okE, Bool.and_eq_true, decide_eq_true_eq] at hok
    obtain ⟨rfl, e1⟩ := hok
    simp only [sl_step] at h
    split at h
    next w v st' => exact sl_s_icm F hdec e1 (fun z => hJ _ _ _ _ wl ws.tl.tl z) (fun z => hK _ _ _ wl ws.tl.tl z) h
    next => exact h.elim
  | ifnull off =>
    simp only [sl_okE, Bool.and_eq_true, decide_eq_true_eq] at hok
    obtain ⟨rfl, e1⟩ := hok
    simp only [sl_step, sl_nul] at h
    split at h
    next st' =>
      have hj := hJ _ _ _ _ wl ws.tl h
      obtain ⟨p, e, R, s, m, args, below, meth, c, cells, slots, Qp⟩ := X
      intro H locs ls hW hS hl
      obtain ⟨hx, hb, hml, hown, hts, hK0, hrm⟩ := id F
      exact lv_ifnullN hx hb hdec e1 (hj H locs ls hW hS hl)
    next q st' =>
      have hk := hK _ _ _ wl ws.tl h
      obtain ⟨p, e, R, s, m, args, below, meth, c, cells, slots, Qp⟩ := X
      intro H locs ls hW hS hl
      obtain ⟨hx, hb, hml, hown, hts, hK0, hrm⟩ := id F
      exact lv_ifnull hx hb hdec (hk H locs ls hW hS hl)
    next => exact h.elim
  | ifnonnull off =>
    simp only [sl_okE, Bool.and_eq_true, decide_eq_true_eq] at hok
    obtain ⟨rfl, e1⟩ := hok
    simp only [sl_step, sl_nul] at h
    split at h
    next st' =>
      have hk := hK _ _ _ wl ws.tl h
      obtain ⟨p, e, R, s, m, args, below, meth, c, cells, slots, Qp⟩ := X
      intro H locs ls hW hS hl
      obtain ⟨hx, hb, hml, hown, hts, hK0, hrm⟩ := id F
      exact lv_ifnonnullN hx hb hdec (hk H locs ls hW hS hl)
    next q st' =>
      have hj := hJ _ _ _ _ wl ws.tl h
      obtain ⟨p, e, R, s, m, args, below, meth, c, cells, slots, Qp⟩ := X
      intro H locs ls hW hS hl
      obtain ⟨hx, hb, hml, hown, hts, hK0, hrm⟩ := id F
      exact lv_ifnonnull hx hb hdec e1 (hj H locs ls hW hS hl)
    next => exact h.elim
  | goto off =>
    simp only [sl_okE, Bool.and_eq_true, decide_eq_true_eq] at hok
    obtain ⟨rfl, e1⟩ := hok
    have hj := hJ _ _ _ _ wl ws h
    obtain ⟨p, e, R, s, m, args, below, meth, c, cells, slots, Qp⟩ := X
    intro H locs ls hW hS hl
    obtain ⟨hx, hb, hml, hown, hts, hK0, hrm⟩ := id F
    exact lv_goto hx hb hdec e1 (hj H locs ls hW hS hl)
  | tableswitch dflt lo hi offs =>
    simp only [sl_okE, Bool.and_eq_true, decide_eq_true_eq] at hok
    obtain ⟨e1, e2, e3⟩ := hok
    simp only [sl_step] at h
    split at h
    next v st' =>
      obtain ⟨p, e, R, s, m, args, below, meth, c, cells, slots, Qp⟩ := X
      intro H locs ls hW hS hl
      obtain ⟨hx, hb, hml, hown, hts, hK0, hrm⟩ := id F
      rcases sl_ts_spec _ _ _ e3 h with ⟨i, o, t, g1, g2, g3, g4⟩ | ⟨g1, g2⟩
      · have hi2 : i < offs.toList.length := (List.getElem?_eq_some_iff.mp g1).1
        refine lv_tableIn hx hb hdec (by omega) (by omega) (off := o) ?_ g3 (hJ _ _ _ _ wl ws.tl g4 H locs ls hW hS hl)
        rw [show (v.toInt - lo).toNat = i by omega, ← Array.getElem?_toList]
        exact g1
      · exact lv_tableOut hx hb hdec (by omega) e1 (hJ _ _ _ _ wl ws.tl g2 H locs ls hW hS hl)
    next => exact h.elim
  | lookupswitch dflt ps =>
    simp only [sl_okE, Bool.and_eq_true, decide_eq_true_eq] at hok
    obtain ⟨e1, e2, e3⟩ := hok
    simp only [sl_step] at h
    split at h
    next v st' =>
      obtain ⟨o, t, g1, g2, g3⟩ := sl_ls_spec (J := fun t => J t lv st' μ) e1 id _ _ e3 h
      have hj := hJ _ _ _ _ wl ws.tl g3
      obtain ⟨p, e, R, s, m, args, below, meth, c, cells, slots, Qp⟩ := X
      intro H locs ls hW hS hl
      obtain ⟨hx, hb, hml, hown, hts, hK0, hrm⟩ := id F
      exact lv_lookup hx hb hdec e2 g1 g2 (hj H locs ls hW hS hl)
    next => exact h.elim
  | ireturn =>
    simp only [sl_okE, Bool.and_eq_true, decide_eq_true_eq] at hok
    obtain ⟨rfl, e1⟩ := hok
    obtain ⟨p, e, R, s, m, args, below, meth, c, cells, slots, Qp⟩ := X
    intro H locs ls hW hS hl
    obtain ⟨hx, hb, hml, hown, hts, hK0, hrm⟩ := id F
    obtain ⟨hr, hlocks, rfl⟩ := id Rt
    simp only [sl_step] at h
    split at h
    next v =>
      have e1 : rt = some .int := by simpa using e1
      subst e1
      exact W.iret hx hb hr (fun t ht hWm => ⟨⟨some (.inl v), μ, rfl, fun w hw => by cases hw; trivial, h, by rw [ht]; exact hW⟩, hS.F ht⟩) hS.2.2 hdec hlocks
    next d0 dd v =>
      have e1 : rt = some .boolean := by simpa using e1
      subst e1
      exact W.zret hx hb hr (sl_bz_nar h.1).1 (fun t ht hWm => ⟨⟨some (.inl v), μ, rfl, fun w hw => by cases hw; trivial, h.2, by rw [ht]; exact hW⟩, hS.F ht⟩) hS.2.2 hdec hlocks
    next => exact h.elim
  | lreturn =>
    simp only [sl_okE, Bool.and_eq_true, decide_eq_true_eq] at hok
    obtain ⟨rfl, rfl⟩ := hok
    obtain ⟨p, e, R, s, m, args, below, meth, c, cells, slots, Qp⟩ := X
    intro H locs ls hW hS hl
    obtain ⟨hx, hb, hml, hown, hts, hK0, hrm⟩ := id F
    obtain ⟨hr, hlocks, rfl⟩ := id Rt
    simp only [sl_step] at h
    split at h
    next v => exact W.lret hx hb hr (fun t ht hWm => ⟨⟨some (.inr (.inl v)), μ, rfl, fun w hw => by cases hw; trivial, h, by rw [ht]; exact hW⟩, hS.F ht⟩) hS.2.2 hdec hlocks
    next => exact h.elim
  | areturn =>
    simp only [sl_okE, Bool.and_eq_true, decide_eq_true_eq] at hok
    obtain ⟨rfl, e1⟩ := hok
    obtain ⟨p, e, R, s, m, args, below, meth, c, cells, slots, Qp⟩ := X
    intro H locs ls hW hS hl
    obtain ⟨hx, hb, hml, hown, hts, hK0, hrm⟩ := id F
    obtain ⟨hr, hlocks, rfl⟩ := id Rt
    simp only [sl_step] at h
    split at h
    next v =>
      split at e1
      next n => exact W.aret (v := sl_tv g (.inr (.inr v))) hx hb hr (Or.inl ⟨n, rfl⟩) (by cases v with | none => exact Or.inl rfl | some q => exact Or.inr ⟨_, rfl⟩) (fun t ht hWm => ⟨⟨some (.inr (.inr v)), μ, rfl, fun w hw => by cases hw; exact ws.hd, h, by rw [ht]; exact hW⟩, hS.F ht⟩) hS.2.2 hdec hlocks
      next => cases e1
    next => exact h.elim
  | return_ =>
    simp only [sl_okE, Bool.and_eq_true, decide_eq_true_eq] at hok
    obtain ⟨rfl, rfl⟩ := hok
    obtain ⟨p, e, R, s, m, args, below, meth, c, cells, slots, Qp⟩ := X
    intro H locs ls hW hS hl
    obtain ⟨hx, hb, hml, hown, hts, hK0, hrm⟩ := id F
    obtain ⟨hr, hlocks, rfl⟩ := id Rt
    simp only [sl_step] at h
    split at h
    next => exact W.vret hx hb hr (fun t ht hWm => ⟨⟨none, μ, rfl, (fun w hw => by cases hw), h, by rw [ht]; exact hW⟩, hS.F ht⟩) hS.2.2 hdec hlocks
    next => exact h.elim
  | getfield i =>
    simp only [sl_okE, Bool.and_eq_true] at hok
    obtain ⟨e1, e2⟩ := hok
    obtain rfl := of_decide_eq_true e1
    simp only [sl_step] at h
    exact sl_s_getf F HL ws hdec e2 h (fun st' w' k' => hK _ _ _ wl w' k')
  | putfield i =>
    simp only [sl_okE, Bool.and_eq_true] at hok
    obtain ⟨e1, e2⟩ := hok
    obtain rfl := of_decide_eq_true e1
    simp only [sl_step] at h
    exact sl_s_putf F HL ws hdec e2 h (fun st' μ' w' k' => hK _ _ _ wl w' k')
  | iaload =>
    simp only [sl_okE, decide_eq_true_eq] at hok
    subst hok
    simp only [sl_step] at h
    exact sl_s_ald F ws hdec h (fun st' w' k' => hK _ _ _ wl w' k')
  | iastore =>
    simp only [sl_okE, decide_eq_true_eq] at hok
    subst hok
    simp only [sl_step] at h
    exact sl_s_ast F ws hdec h (fun st' μ' w' k' => hK _ _ _ wl w' k')
  | baload =>
    simp only [sl_okE, decide_eq_true_eq] at hok
    subst hok
    simp only [sl_step] at h
    exact sl_s_zld F ws hdec h (fun st' w' k' => hK _ _ _ wl w' k')
  | bastore =>
    simp only [sl_okE, decide_eq_true_eq] at hok
    subst hok
    simp only [sl_step] at h
    exact sl_s_zst F ws hdec h (fun st' μ' w' k' => hK _ _ _ wl w' k')
  | aaload =>
    simp only [sl_okE, decide_eq_true_eq] at hok
    subst hok
    simp only [sl_step] at h
    exact sl_s_rld F ws hdec h (fun st' w' k' => hK _ _ _ wl w' k')
  | aastore =>
    simp only [sl_okE, decide_eq_true_eq] at hok
    subst hok
    simp only [sl_step] at h
    exact sl_s_rst F ws hdec h (fun st' μ' w' k' => hK _ _ _ wl w' k')
  | invokevirtual i =>
    simp only [sl_okE, Bool.and_eq_true, decide_eq_true_eq] at hok
    obtain ⟨rfl, e1⟩ := hok
    simp only [sl_step] at h
    exact sl_s_call F HC ws (kind := 0) (idx := i) hdec e1 h (fun st' μ' w' k' => hK _ _ _ wl w' k')
  | invokestatic i =>
    simp only [sl_okE, Bool.and_eq_true, decide_eq_true_eq] at hok
    obtain ⟨rfl, e1⟩ := hok
    simp only [sl_step] at h
    exact sl_s_call F HC ws (kind := 1) (idx := i) hdec e1 h (fun st' μ' w' k' => hK _ _ _ wl w' k')
  | _ => exact False.elim h
/-! runs of a method's code -/
def sl_pcs : List sl_Ent → Nat
  | [] => 0
  | e :: _ => e.1
/-- the code's table: each instruction decodes and is checked, the next stands behind it -/
def sl_tbOK (own : String) (cc : ByteArray) (nL : Nat) (rt : Option FieldType) (lk : sl_Lk) (cx : List (Nat × Nat)) : List sl_Ent → Bool
  | [] => true
  | e :: es => decide (decode cc e.1 = .ok (e.2.1, e.2.2.1)) && (sl_okE own nL rt lk cx e && ((match es with
    | [] => true
    | f :: _ => decide (f.1 = e.1 + e.2.2.1)) && sl_tbOK own cc nL rt lk cx es))
/-- what a method's walk stands on -/
def sl_MC (g : sl_G) (X : sl_X) (own : String) (cc : ByteArray) (nL hh : Nat) (rt : Option FieldType) (Q : sl_Qt) (lk : sl_Lk) (cx : List (Nat × Nat)) (ct : List sl_Ct) (cst : sl_L) (cd : List sl_Ent) : Prop :=
  sl_Fx g X own cc nL hh ∧ sl_Rt g X rt Q ∧ sl_LkOK own lk ∧ sl_HC g own hh ct cx ∧ sl_wkL cst ∧ sl_tbOK own cc nL rt lk cx cd = true
def sl_VV (g : sl_G) (X : sl_X) (nL : Nat) (cst : sl_L) (cuts : List (Nat × sl_It)) : Prop := ∀ (pc : Nat) (I : sl_It), sl_look pc cuts = some I → ∀ (lv : sl_L) (st : List sl_V) (μ : sl_M), sl_wkL lv → sl_wkS st → I lv st μ → sl_Vw g X nL cst pc lv st μ
theorem sl_tbOK_find {own : String} {cc : ByteArray} {nL : Nat} {rt : Option FieldType} {lk : sl_Lk} {cx : List (Nat × Nat)} {t : Nat} {cd : List sl_Ent} (h : sl_tbOK own cc nL rt lk cx cd = true) : sl_tbOK own cc nL rt lk cx (sl_find t cd) = true := by
  induction cd with
  | nil => rfl
  | cons e es ih =>
    unfold sl_find
    split
    · exact h
    · simp only [sl_tbOK, Bool.and_eq_true] at h
      exact ih h.2.2.2
theorem sl_find_pc {t : Nat} {cd : List sl_Ent} {e : sl_Ent} {es : List sl_Ent} (h : sl_find t cd = e :: es) : e.1 = t := by
  induction cd with
  | nil => cases h
  | cons f fs ih =>
    unfold sl_find at h
    split at h
    next he =>
      have := (List.cons.inj h).1
      rw [← this]
      exact he
    next => exact ih h
theorem sl_run {cd : List sl_Ent} {cuts : List (Nat × sl_It)} (M : sl_MC g X own cc nL hh rt Q lk cx ct cst cd) (vv : sl_VV g X nL cst cuts) : ∀ (n : Nat) (chk : Bool) (es : List sl_Ent), sl_tbOK own cc nL rt lk cx es = true → ∀ (lv : sl_L) (st : List sl_V) (μ : sl_M), sl_wkL lv → sl_wkS st → sl_wp cd ct cst Q cuts n chk es lv st μ → sl_Vw g X nL cst (sl_pcs es) lv st μ := by
  intro n
  induction n with
  | zero =>
    intro chk es hes lv st μ wl ws h
    exact False.elim h
  | succ n ih =>
    intro chk es hes lv st μ wl ws h
    cases es with
    | nil => exact False.elim h
    | cons e es =>
      obtain ⟨F, Rt, HL, HC, wc, htb⟩ := M
      unfold sl_wp at h
      split at h
      next I hI =>
        split at hI
        · exact vv _ _ hI lv st μ wl ws h
        · cases hI
      next =>
        obtain ⟨pc, ins, len, x, d, sw, fl⟩ := e
        simp only [sl_tbOK, Bool.and_eq_true, decide_eq_true_eq] at hes
        obtain ⟨h1, h2, h3, h4⟩ := hes
        refine sl_step_ok F Rt HL HC wc h1 h2 (fun lv st μ wl ws k => ?_) (fun t lv st μ wl ws k => ?_) wl ws h
        · have := ih true es h4 lv st μ wl ws k
          cases es with
          | nil =>
            cases n with
            | zero => exact False.elim k
            | succ n => exact False.elim k
          | cons f fs =>
            have h5 : f.1 = pc + len := by simpa using h3
            show sl_Vw g X nL cst (pc + len) lv st μ
            rw [← h5]
            exact this
        · have := ih true (sl_find t cd) (sl_tbOK_find htb) lv st μ wl ws k
          cases hf : sl_find t cd with
          | nil =>
            rw [hf] at k
            cases n with
            | zero => exact False.elim k
            | succ n => exact False.elim k
          | cons f fs =>
            rw [hf] at this
            have h5 : f.1 = t := sl_find_pc hf
            rw [← h5]
            exact this
theorem sl_VV0 : sl_VV g X nL cst [] := fun pc I h => by cases h
theorem sl_runF {cd : List sl_Ent} {cuts : List (Nat × sl_It)} (M : sl_MC g X own cc nL hh rt Q lk cx ct cst cd) (vv : sl_VV g X nL cst cuts) {n : Nat} {chk : Bool} {t : Nat} {lv : sl_L} {st : List sl_V} {μ : sl_M} (wl : sl_wkL lv) (ws : sl_wkS st) (h : sl_wp cd ct cst Q cuts n chk (sl_find t cd) lv st μ) : sl_Vw g X nL cst t lv st μ := by
  have h1 := sl_run M vv n chk (sl_find t cd) (sl_tbOK_find M.2.2.2.2.2) lv st μ wl ws h
  cases hf : sl_find t cd with
  | nil =>
    rw [hf] at h
    cases n with
    | zero => exact False.elim h
    | succ n => exact False.elim h
  | cons f fs =>
    rw [hf] at h1
    have h5 : f.1 = t := sl_find_pc hf
    rw [← h5]
    exact h1
theorem sl_ext {cd : List sl_Ent} {cuts : List (Nat × sl_It)} (M : sl_MC g X own cc nL hh rt Q lk cx ct cst cd) (vv : sl_VV g X nL cst cuts) (t : Nat) (I : sl_It) (h : ∀ lv st μ, I lv st μ → sl_wp cd ct cst Q cuts 1000 false (sl_find t cd) lv st μ) : sl_VV g X nL cst ((t, I) :: cuts) := by
  intro pc I' hl lv st μ wl ws hI
  unfold sl_look at hl
  split at hl
  next he =>
    cases hl
    simp only at he
    rw [← he]
    exact sl_runF M vv wl ws (h lv st μ hI)
  next => exact vv pc I' hl lv st μ wl ws hI
theorem sl_extL {cd : List sl_Ent} {cuts : List (Nat × sl_It)} (M : sl_MC g X own cc nL hh rt Q lk cx ct cst cd) (vv : sl_VV g X nL cst cuts) (t : Nat) (F : Nat → sl_It) (h0 : ∀ lv st μ, ¬ F 0 lv st μ)
    (h : ∀ n, sl_VV g X nL cst ((t, F n) :: cuts) → ∃ cuts', sl_VV g X nL cst cuts' ∧ ∀ lv st μ, F (n + 1) lv st μ → sl_wp cd ct cst Q cuts' 1000 false (sl_find t cd) lv st μ) : sl_VV g X nL cst ((t, fun lv st μ => ∃ n, F n lv st μ) :: cuts) := by
  have key : ∀ n, sl_VV g X nL cst ((t, F n) :: cuts) := by
    intro n
    induction n with
    | zero =>
      intro pc I' hl lv st μ wl ws hI
      unfold sl_look at hl
      split at hl
      next he =>
        cases hl
        exact absurd hI (h0 lv st μ)
      next => exact vv pc I' hl lv st μ wl ws hI
    | succ n ih =>
      obtain ⟨cuts', vv', hw⟩ := h n ih
      intro pc I' hl lv st μ wl ws hI
      unfold sl_look at hl
      split at hl
      next he =>
        cases hl
        simp only at he
        rw [← he]
        exact sl_runF M vv' wl ws (hw lv st μ hI)
      next => exact vv pc I' hl lv st μ wl ws hI
  intro pc I' hl lv st μ wl ws hI
  unfold sl_look at hl
  split at hl
  next he =>
    cases hl
    obtain ⟨n, hI⟩ := hI
    refine key n pc (F n) ?_ lv st μ wl ws hI
    unfold sl_look
    rw [if_pos he]
  next => exact vv pc I' hl lv st μ wl ws hI
end RUN
/-! a method's contract out of its walk -/
def sl_slots : List sl_V → sl_L
  | [] => []
  | v :: l => match v with
    | .inr (.inl _) => some v :: none :: sl_slots l
    | _ => some v :: sl_slots l
/-- constant places (1) and the others, out of the arguments' slots -/
def sl_mc : List Bool → sl_L → sl_L
  | true :: m, a :: l => a :: sl_mc m l
  | false :: m, _ :: l => none :: sl_mc m l
  | _, _ => []
def sl_ml : List Bool → sl_L → sl_L
  | true :: m, _ :: l => none :: sl_ml m l
  | false :: m, a :: l => a :: sl_ml m l
  | false :: m, [] => none :: sl_ml m []
  | true :: m, [] => none :: sl_ml m []
  | [], _ => []
theorem sl_m_get : ∀ (m : List Bool) (l : sl_L) (i : Nat) (v : sl_V), sl_get (sl_mc m l) (sl_ml m l) i = some v → sl_nth l i = some v := by
  intro m
  induction m with
  | nil =>
    intro l i v h
    cases l <;> cases h
  | cons b m ih =>
    intro l i v h
    cases l with
    | nil =>
      cases b <;> cases i with
      | zero => cases h
      | succ i =>
        have h2 : sl_nth (sl_ml m []) i = some v := h
        refine ih [] i v ?_
        unfold sl_get
        have : sl_nth (sl_mc m []) i = none := by cases m with
          | nil => rfl
          | cons b m => cases b <;> rfl
        rw [this]
        exact h2
    | cons a l =>
      cases b <;> cases i with
      | zero =>
        first
        | exact h
        | (unfold sl_get at h
           cases a with
           | none => cases h
           | some w => exact h)
      | succ i => exact ih l i v h
theorem sl_slots_args {g : sl_G} : ∀ (As : List sl_V) (i j : Nat) (v : sl_V), sl_nth (sl_slots As) j = some v → (i + j, sl_tv g v) ∈ lv_args i (As.map (sl_tv g)) := by
  intro As
  induction As with
  | nil =>
    intro i j v h
    cases h
  | cons a As ih =>
    intro i j v h
    have hcat : (sl_tv g a).category = 2 ↔ sl_isJ (some a) = true := sl_tv_cat
    match a with
    | .inr (.inl x) =>
      show (i + j, sl_tv g v) ∈ (i, Value.long x) :: lv_args (i + 2) (As.map (sl_tv g))
      match j, h with
      | 0, h => cases h; exact List.mem_cons_self
      | 1, h => cases h
      | j + 2, h =>
        have := ih (i + 2) j v h
        rw [show i + 2 + j = i + (j + 2) by omega] at this
        exact List.mem_cons_of_mem _ this
    | .inl x =>
      show (i + j, sl_tv g v) ∈ (i, Value.int x) :: lv_args (i + 1) (As.map (sl_tv g))
      match j, h with
      | 0, h => cases h; exact List.mem_cons_self
      | j + 1, h =>
        have := ih (i + 1) j v h
        rw [show i + 1 + j = i + (j + 1) by omega] at this
        exact List.mem_cons_of_mem _ this
    | .inr (.inr none) =>
      show (i + j, sl_tv g v) ∈ (i, Value.null) :: lv_args (i + 1) (As.map (sl_tv g))
      match j, h with
      | 0, h => cases h; exact List.mem_cons_self
      | j + 1, h =>
        have := ih (i + 1) j v h
        rw [show i + 1 + j = i + (j + 1) by omega] at this
        exact List.mem_cons_of_mem _ this
    | .inr (.inr (some q)) =>
      show (i + j, sl_tv g v) ∈ (i, Value.ref (sl_ad g q.1 q.2)) :: lv_args (i + 1) (As.map (sl_tv g))
      match j, h with
      | 0, h => cases h; exact List.mem_cons_self
      | j + 1, h =>
        have := ih (i + 1) j v h
        rw [show i + 1 + j = i + (j + 1) by omega] at this
        exact List.mem_cons_of_mem _ this
theorem sl_slots_wk : ∀ (As : List sl_V), (∀ v ∈ As, sl_wk v) → sl_wkL (sl_slots As) := by
  intro As
  induction As with
  | nil => intro _ i v h; cases h
  | cons a As ih =>
    intro hw i v h
    have ih := ih (fun v hv => hw v (List.mem_cons_of_mem _ hv))
    match a, i, h with
    | .inr (.inl x), 0, h => cases h; trivial
    | .inr (.inl x), 1, h => cases h
    | .inr (.inl x), i + 2, h => exact ih i v h
    | .inl x, 0, h => cases h; trivial
    | .inl x, i + 1, h => exact ih i v h
    | .inr (.inr none), 0, h => cases h; trivial
    | .inr (.inr none), i + 1, h => exact ih i v h
    | .inr (.inr (some q)), 0, h => cases h; exact hw _ List.mem_cons_self
    | .inr (.inr (some q)), i + 1, h => exact ih i v h
theorem sl_slots_len {g : sl_G} : ∀ (As : List sl_V), (lg_sl (As.map (sl_tv g))).length = (sl_slots As).length := by
  intro As
  induction As with
  | nil => rfl
  | cons a As ih =>
    match a with
    | .inr (.inl x) => 
      show (Slot.val (.long x) :: Slot.second :: lg_sl (As.map (sl_tv g))).length = _
      simp [sl_slots, ih]
    | .inl x =>
      show (Slot.val (.int x) :: lg_sl (As.map (sl_tv g))).length = _
      simp [sl_slots, ih]
    | .inr (.inr none) =>
      show (Slot.val .null :: lg_sl (As.map (sl_tv g))).length = _
      simp [sl_slots, ih]
    | .inr (.inr (some q)) =>
      show (Slot.val (.ref _) :: lg_sl (As.map (sl_tv g))).length = _
      simp [sl_slots, ih]
theorem sl_mk (g : sl_G) {y : MethodName} {own : String} {cc : ByteArray} {nL hh : Nat} {rt : Option FieldType} {lk : sl_Lk} {cx : List (Nat × Nat)} {ct : List sl_Ct} {cd : List sl_Ent} (msk : List Bool) {As : List sl_V} {μ : sl_M} {Q : sl_Qt} (hy : plainName y.cls = true) (hyc : y.cls = own) (hw : ∀ v ∈ As, sl_wk v) (hln : (sl_slots As).length ≤ nL) (HL : sl_LkOK own lk) (HC : sl_HC g own hh ct cx) (htb : sl_tbOK own cc nL rt lk cx cd = true)
    (body : ∀ X : sl_X, sl_MC g X own cc nL hh rt Q lk cx ct (sl_mc msk (sl_slots As)) cd → sl_Vw g X nL (sl_mc msk (sl_slots As)) 0 (sl_ml msk (sl_slots As)) [] μ) : sl_Met g y cc nL rt hh As μ Q := by
  unfold sl_Met
  refine Met.ofW (cc := cc) (maxL := nL) (ret := rt) hy rfl ?_
  intro p e s m args below meth c s₁ B hml hv
  obtain ⟨rfl, hWd, hK⟩ := hv
  have hts := atoms_spec (ws := Cond.code y cc nL rt :: sl_T0) B.pre
  have hown : s.vm.findClass own = some m.cls := hyc ▸ findClass_of_methodNamed B.named
  have hl := lv_entry (As.map (sl_tv g)) (n := nL) (by rw [sl_slots_len]; exact hln)
  rw [lg_entry_eq]
  generalize (lg_sl (As.map (sl_tv g)) ++ List.replicate (nL - (lg_sl (As.map (sl_tv g))).length) Slot.unset).toArray = ls at hl ⊢
  have wk0 := sl_slots_wk As hw
  have hlh : sl_lh g ls nL (sl_mc msk (sl_slots As)) (sl_ml msk (sl_slots As)) := by
    refine ⟨hl.1, hl.2.1, fun i v h => ?_⟩
    have := sl_slots_args (g := g) As 0 i v (sl_m_get _ _ _ _ h)
    rw [Nat.zero_add] at this
    exact hl.2.2 _ this
  have wc : sl_wkL (sl_mc msk (sl_slots As)) := fun i v h => by
    refine wk0 i v (sl_m_get msk _ i v ?_)
    unfold sl_get
    rw [h]
  exact body (p, e, sl_rm hh, s, m, (As.map (sl_tv g)).toArray, below, meth, c, 0, 0, MQ below (sl_Qc g Q) (As.map (sl_tv g)).toArray s 0 0 (sl_A g)) ⟨⟨B.exec, B.bytes, hml, hown, fun w hw => hts w (List.mem_cons_of_mem _ hw), hK, Nat.le_refl _, Nat.le_refl _, Nat.le_refl _, Nat.le_refl _⟩, ⟨B.returns, B.notSynchronized, rfl⟩, HL, HC, wc, htb⟩ s.heap [] ls hWd va_S.rf hlh
end
section
/-! what the printed methods use -/
abbrev sl_ET : Type := Int32 → sl_M → (Int32 → sl_M → Prop) → Prop
theorem sl_mk2 (g : sl_G) {y : MethodName} {own : String} {cc : ByteArray} {nL hh : Nat} {rt : Option FieldType} {lk : sl_Lk} {cx : List (Nat × Nat)} {ct : List sl_Ct} {cd : List sl_Ent} (msk : List Bool) {As : List sl_V} {μ : sl_M} {Q : sl_Qt} {cst lv0 : sl_L} (hy : plainName y.cls = true) (hyc : y.cls = own) (hw : ∀ v ∈ As, sl_wk v) (hln : Nat.ble (sl_slots As).length nL = true) (e1 : sl_mc msk (sl_slots As) = cst) (e2 : sl_ml msk (sl_slots As) = lv0) (HL : sl_LkOK own lk) (HC : sl_HC g own hh ct cx) (htb : sl_tbOK own cc nL rt lk cx cd = true) (hpc : sl_pcs cd = 0)
    (body : ∀ X : sl_X, sl_MC g X own cc nL hh rt Q lk cx ct cst cd → ∃ cuts, sl_VV g X nL cst cuts ∧ sl_wp cd ct cst Q cuts 1000 true cd lv0 [] μ) : sl_Met g y cc nL rt hh As μ Q := by
  subst e1
  subst e2
  refine sl_mk g msk hy hyc hw (Nat.le_of_ble_eq_true hln) HL HC htb (fun X M => ?_)
  obtain ⟨cuts, vv, h⟩ := body X M
  have wl : sl_wkL (sl_ml msk (sl_slots As)) := fun i v h => by
    refine sl_slots_wk As hw i v ?_
    cases hc : sl_nth (sl_mc msk (sl_slots As)) i with
    | none =>
      refine sl_m_get msk _ i v ?_
      unfold sl_get
      rw [hc]
      exact h
    | some w =>
      exfalso
      have : ∀ (m : List Bool) (l : sl_L) (i : Nat) (v w : sl_V), sl_nth (sl_ml m l) i = some v → sl_nth (sl_mc m l) i = some w → False := by
        intro m
        induction m with
        | nil => intro l i v w h1 h2; cases l <;> cases h2
        | cons b m ih =>
          intro l i v w h1 h2
          cases l with
          | nil => cases b <;> cases h2
          | cons a l =>
            cases b <;> cases i with
            | zero => first | (cases h2; done) | (cases h1; done)
            | succ i => exact ih l i v w h1 h2
      exact this _ _ _ _ _ h hc
  have := sl_run M vv 1000 true cd htb _ [] μ wl (fun v hv => by cases hv) h
  rw [hpc] at this
  exact this
end
section
def lk_mo : sl_Lk := ([(7, 12, 0), (13, 12, 1), (16, 12, 2), (19, 12, 3), (22, 12, 4), (25, 12, 6), (28, 12, 7), (31, 12, 8), (34, 12, 9), (37, 12, 10), (40, 12, 11), (43, 12, 12), (46, 12, 14), (49, 12, 15), (52, 12, 17), (55, 12, 18), (58, 12, 19), (61, 12, 24), (64, 12, 25), (67, 12, 26), (70, 12, 27), (73, 12, 29), (76, 12, 31), (80, 12, 33), (83, 12, 34), (86, 12, 35), (89, 12, 40), (92, 12, 41), (95, 12, 42), (98, 12, 43), (101, 12, 45), (104, 12, 46), (107, 12, 47), (110, 12, 49), (113, 12, 5), (229, 12, 13), (259, 12, 16), (276, 12, 20), (279, 12, 21), (282, 12, 22), (314, 12, 23), (329, 12, 28), (332, 12, 30), (370, 12, 32), (382, 12, 36), (385, 12, 37), (388, 12, 38), (403, 12, 39), (409, 12, 44), (429, 12, 48)], [(428, (-2000000000))], [(164, 999), (166, (-99)), (168, 99), (117, 29), (190, 7), (211, 3), (216, 4), (218, 2), (254, 5), (274, 127), (298, 97), (300, 122), (302, 27), (304, (-1)), (291, 48), (293, 57)])
set_option maxRecDepth 20000 in
theorem lk_mo_ok : sl_LkOK sl_R12 lk_mo := ⟨List.forall_mem_cons.mpr ⟨⟨sl_R12, sl_F12, 50, sl_t12, rfl, by decide, rfl, sl_in1 1025 (by decide +kernel) rfl, sl_i12, sl_ty12, sl_nm12⟩, List.forall_mem_cons.mpr ⟨⟨sl_R12, sl_F12, 50, sl_t12, rfl, by decide, rfl, sl_in1 1026 (by decide +kernel) rfl, sl_i12, sl_ty12, sl_nm12⟩, List.forall_mem_cons.mpr ⟨⟨sl_R12, sl_F12, 50, sl_t12, rfl, by decide, rfl, sl_in1 1027 (by decide +kernel) rfl, sl_i12, sl_ty12, sl_nm12⟩, List.forall_mem_cons.mpr ⟨⟨sl_R12, sl_F12, 50, sl_t12, rfl, by decide, rfl, sl_in1 1028 (by decide +kernel) rfl, sl_i12, sl_ty12, sl_nm12⟩, List.forall_mem_cons.mpr ⟨⟨sl_R12, sl_F12, 50, sl_t12, rfl, by decide, rfl, sl_in1 1029 (by decide +kernel) rfl, sl_i12, sl_ty12, sl_nm12⟩, List.forall_mem_cons.mpr ⟨⟨sl_R12, sl_F12, 50, sl_t12, rfl, by decide, rfl, sl_in1 1031 (by decide +kernel) rfl, sl_i12, sl_ty12, sl_nm12⟩, List.forall_mem_cons.mpr ⟨⟨sl_R12, sl_F12, 50, sl_t12, rfl, by decide, rfl, sl_in1 1032 (by decide +kernel) rfl, sl_i12, sl_ty12, sl_nm12⟩, List.forall_mem_cons.mpr ⟨⟨sl_R12, sl_F12, 50, sl_t12, rfl, by decide, rfl, sl_in1 1033 (by decide +kernel) rfl, sl_i12, sl_ty12, sl_nm12⟩, List.forall_mem_cons.mpr ⟨⟨sl_R12, sl_F12, 50, sl_t12, rfl, by decide, rfl, sl_in1 1034 (by decide +kernel) rfl, sl_i12, sl_ty12, sl_nm12⟩, List.forall_mem_cons.mpr ⟨⟨sl_R12, sl_F12, 50, sl_t12, rfl, by decide, rfl, sl_in1 1035 (by decide +kernel) rfl, sl_i12, sl_ty12, sl_nm12⟩, List.forall_mem_cons.mpr ⟨⟨sl_R12, sl_F12, 50, sl_t12, rfl, by decide, rfl, sl_in1 1036 (by decide +kernel) rfl, sl_i12, sl_ty12, sl_nm12⟩, List.forall_mem_cons.mpr ⟨⟨sl_R12, sl_F12, 50, sl_t12, rfl, by decide, rfl, sl_in1 1037 (by decide +kernel) rfl, sl_i12, sl_ty12, sl_nm12⟩, List.forall_mem_cons.mpr ⟨⟨sl_R12, sl_F12, 50, sl_t12, rfl, by decide, rfl, sl_in1 1039 (by decide +kernel) rfl, sl_i12, sl_ty12, sl_nm12⟩, List.forall_mem_cons.mpr ⟨⟨sl_R12, sl_F12, 50, sl_t12, rfl, by decide, rfl, sl_in1 1040 (by decide +kernel) rfl, sl_i12, sl_ty12, sl_nm12⟩, List.forall_mem_cons.mpr ⟨⟨sl_R12, sl_F12, 50, sl_t12, rfl, by decide, rfl, sl_in1 1042 (by decide +kernel) rfl, sl_i12, sl_ty12, sl_nm12⟩, List.forall_mem_cons.mpr ⟨⟨sl_R12, sl_F12, 50, sl_t12, rfl, by decide, rfl, sl_in1 1043 (by decide +kernel) rfl, sl_i12, sl_ty12, sl_nm12⟩, List.forall_mem_cons.mpr ⟨⟨sl_R12, sl_F12, 50, sl_t12, rfl, by decide, rfl, sl_in1 1044 (by decide +kernel) rfl, sl_i12, sl_ty12, sl_nm12⟩, List.forall_mem_cons.mpr ⟨⟨sl_R12, sl_F12, 50, sl_t12, rfl, by decide, rfl, sl_in1 1049 (by decide +kernel) rfl, sl_i12, sl_ty12, sl_nm12⟩, List.forall_mem_cons.mpr ⟨⟨sl_R12, sl_F12, 50, sl_t12, rfl, by decide, rfl, sl_in1 1050 (by decide +kernel) rfl, sl_i12, sl_ty12, sl_nm12⟩, List.forall_mem_cons.mpr ⟨⟨sl_R12, sl_F12, 50, sl_t12, rfl, by decide, rfl, sl_in1 1051 (by decide +kernel) rfl, sl_i12, sl_ty12, sl_nm12⟩, List.forall_mem_cons.mpr ⟨⟨sl_R12, sl_F12, 50, sl_t12, rfl, by decide, rfl, sl_in1 1052 (by decide +kernel) rfl, sl_i12, sl_ty12, sl_nm12⟩, List.forall_mem_cons.mpr ⟨⟨sl_R12, sl_F12, 50, sl_t12, rfl, by decide, rfl, sl_in1 1054 (by decide +kernel) rfl, sl_i12, sl_ty12, sl_nm12⟩, List.forall_mem_cons.mpr ⟨⟨sl_R12, sl_F12, 50, sl_t12, rfl, by decide, rfl, sl_in1 1056 (by decide +kernel) rfl, sl_i12, sl_ty12, sl_nm12⟩, List.forall_mem_cons.mpr ⟨⟨sl_R12, sl_F12, 50, sl_t12, rfl, by decide, rfl, sl_in1 1058 (by decide +kernel) rfl, sl_i12, sl_ty12, sl_nm12⟩, List.forall_mem_cons.mpr ⟨⟨sl_R12, sl_F12, 50, sl_t12, rfl, by decide, rfl, sl_in1 1059 (by decide +kernel) rfl, sl_i12, sl_ty12, sl_nm12⟩, List.forall_mem_cons.mpr ⟨⟨sl_R12, sl_F12, 50, sl_t12, rfl, by decide, rfl, sl_in1 1060 (by decide +kernel) rfl, sl_i12, sl_ty12, sl_nm12⟩, List.forall_mem_cons.mpr ⟨⟨sl_R12, sl_F12, 50, sl_t12, rfl, by decide, rfl, sl_in1 1065 (by decide +kernel) rfl, sl_i12, sl_ty12, sl_nm12⟩, List.forall_mem_cons.mpr ⟨⟨sl_R12, sl_F12, 50, sl_t12, rfl, by decide, rfl, sl_in1 1066 (by decide +kernel) rfl, sl_i12, sl_ty12, sl_nm12⟩, List.forall_mem_cons.mpr ⟨⟨sl_R12, sl_F12, 50, sl_t12, rfl, by decide, rfl, sl_in1 1067 (by decide +kernel) rfl, sl_i12, sl_ty12, sl_nm12⟩, List.forall_mem_cons.mpr ⟨⟨sl_R12, sl_F12, 50, sl_t12, rfl, by decide, rfl, sl_in1 1068 (by decide +kernel) rfl, sl_i12, sl_ty12, sl_nm12⟩, List.forall_mem_cons.mpr ⟨⟨sl_R12, sl_F12, 50, sl_t12, rfl, by decide, rfl, sl_in1 1070 (by decide +kernel) rfl, sl_i12, sl_ty12, sl_nm12⟩, List.forall_mem_cons.mpr ⟨⟨sl_R12, sl_F12, 50, sl_t12, rfl, by decide, rfl, sl_in1 1071 (by decide +kernel) rfl, sl_i12, sl_ty12, sl_nm12⟩, List.forall_mem_cons.mpr ⟨⟨sl_R12, sl_F12, 50, sl_t12, rfl, by decide, rfl, sl_in1 1072 (by decide +kernel) rfl, sl_i12, sl_ty12, sl_nm12⟩, List.forall_mem_cons.mpr ⟨⟨sl_R12, sl_F12, 50, sl_t12, rfl, by decide, rfl, sl_in1 1074 (by decide +kernel) rfl, sl_i12, sl_ty12, sl_nm12⟩, List.forall_mem_cons.mpr ⟨⟨sl_R12, sl_F12, 50, sl_t12, rfl, by decide, rfl, sl_in1 1030 (by decide +kernel) rfl, sl_i12, sl_ty12, sl_nm12⟩, List.forall_mem_cons.mpr ⟨⟨sl_R12, sl_F12, 50, sl_t12, rfl, by decide, rfl, sl_in1 1038 (by decide +kernel) rfl, sl_i12, sl_ty12, sl_nm12⟩, List.forall_mem_cons.mpr ⟨⟨sl_R12, sl_F12, 50, sl_t12, rfl, by decide, rfl, sl_in1 1041 (by decide +kernel) rfl, sl_i12, sl_ty12, sl_nm12⟩, List.forall_mem_cons.mpr ⟨⟨sl_R12, sl_F12, 50, sl_t12, rfl, by decide, rfl, sl_in1 1045 (by decide +kernel) rfl, sl_i12, sl_ty12, sl_nm12⟩, List.forall_mem_cons.mpr ⟨⟨sl_R12, sl_F12, 50, sl_t12, rfl, by decide, rfl, sl_in1 1046 (by decide +kernel) rfl, sl_i12, sl_ty12, sl_nm12⟩, List.forall_mem_cons.mpr ⟨⟨sl_R12, sl_F12, 50, sl_t12, rfl, by decide, rfl, sl_in1 1047 (by decide +kernel) rfl, sl_i12, sl_ty12, sl_nm12⟩, List.forall_mem_cons.mpr ⟨⟨sl_R12, sl_F12, 50, sl_t12, rfl, by decide, rfl, sl_in1 1048 (by decide +kernel) rfl, sl_i12, sl_ty12, sl_nm12⟩, List.forall_mem_cons.mpr ⟨⟨sl_R12, sl_F12, 50, sl_t12, rfl, by decide, rfl, sl_in1 1053 (by decide +kernel) rfl, sl_i12, sl_ty12, sl_nm12⟩, List.forall_mem_cons.mpr ⟨⟨sl_R12, sl_F12, 50, sl_t12, rfl, by decide, rfl, sl_in1 1055 (by decide +kernel) rfl, sl_i12, sl_ty12, sl_nm12⟩, List.forall_mem_cons.mpr ⟨⟨sl_R12, sl_F12, 50, sl_t12, rfl, by decide, rfl, sl_in1 1057 (by decide +kernel) rfl, sl_i12, sl_ty12, sl_nm12⟩, List.forall_mem_cons.mpr ⟨⟨sl_R12, sl_F12, 50, sl_t12, rfl, by decide, rfl, sl_in1 1061 (by decide +kernel) rfl, sl_i12, sl_ty12, sl_nm12⟩, List.forall_mem_cons.mpr ⟨⟨sl_R12, sl_F12, 50, sl_t12, rfl, by decide, rfl, sl_in1 1062 (by decide +kernel) rfl, sl_i12, sl_ty12, sl_nm12⟩, List.forall_mem_cons.mpr ⟨⟨sl_R12, sl_F12, 50, sl_t12, rfl, by decide, rfl, sl_in1 1063 (by decide +kernel) rfl, sl_i12, sl_ty12, sl_nm12⟩, List.forall_mem_cons.mpr ⟨⟨sl_R12, sl_F12, 50, sl_t12, rfl, by decide, rfl, sl_in1 1064 (by decide +kernel) rfl, sl_i12, sl_ty12, sl_nm12⟩, List.forall_mem_cons.mpr ⟨⟨sl_R12, sl_F12, 50, sl_t12, rfl, by decide, rfl, sl_in1 1069 (by decide +kernel) rfl, sl_i12, sl_ty12, sl_nm12⟩, List.forall_mem_cons.mpr ⟨⟨sl_R12, sl_F12, 50, sl_t12, rfl, by decide, rfl, sl_in1 1073 (by decide +kernel) rfl, sl_i12, sl_ty12, sl_nm12⟩, fun _ h => absurd h List.not_mem_nil⟩⟩⟩⟩⟩⟩⟩⟩⟩⟩⟩⟩⟩⟩⟩⟩⟩⟩⟩⟩⟩⟩⟩⟩⟩⟩⟩⟩⟩⟩⟩⟩⟩⟩⟩⟩⟩⟩⟩⟩⟩⟩⟩⟩⟩⟩⟩⟩⟩⟩, List.forall_mem_cons.mpr ⟨sl_in1 1628 (by decide +kernel) rfl, fun _ h => absurd h List.not_mem_nil⟩, List.forall_mem_cons.mpr ⟨sl_in1 1184 (by decide +kernel) rfl, List.forall_mem_cons.mpr ⟨sl_in1 1188 (by decide +kernel) rfl, List.forall_mem_cons.mpr ⟨sl_in1 1189 (by decide +kernel) rfl, List.forall_mem_cons.mpr ⟨sl_in1 1205 (by decide +kernel) rfl, List.forall_mem_cons.mpr ⟨sl_in1 1222 (by decide +kernel) rfl, List.forall_mem_cons.mpr ⟨sl_in1 1308 (by decide +kernel) rfl, List.forall_mem_cons.mpr ⟨sl_in1 1317 (by decide +kernel) rfl, List.forall_mem_cons.mpr ⟨sl_in1 1330 (by decide +kernel) rfl, List.forall_mem_cons.mpr ⟨sl_in1 1399 (by decide +kernel) rfl, List.forall_mem_cons.mpr ⟨sl_in1 1444 (by decide +kernel) rfl, List.forall_mem_cons.mpr ⟨sl_in1 1481 (by decide +kernel) rfl, List.forall_mem_cons.mpr ⟨sl_in1 1482 (by decide +kernel) rfl, List.forall_mem_cons.mpr ⟨sl_in1 1483 (by decide +kernel) rfl, List.forall_mem_cons.mpr ⟨sl_in1 1484 (by decide +kernel) rfl, List.forall_mem_cons.mpr ⟨sl_in1 1504 (by decide +kernel) rfl, List.forall_mem_cons.mpr ⟨sl_in1 1505 (by decide +kernel) rfl, fun _ h => absurd h List.not_mem_nil⟩⟩⟩⟩⟩⟩⟩⟩⟩⟩⟩⟩⟩⟩⟩⟩⟩
def mo_in (a0 : Int64) (a2 : Int64) (a4 : Int64) (μ : sl_M) (Q : Int32 → sl_M → Prop) : Prop := ((lg_cmp a0 a2) < (0 : Int32) → sl_bz (0 : Int32) = (0 : Int32) ∧ Q (0 : Int32) μ) ∧ (¬ (lg_cmp a0 a2) < (0 : Int32) → ((lg_cmp a0 a4) ≤ (0 : Int32) → sl_bz (1 : Int32) = (1 : Int32) ∧ Q (1 : Int32) μ) ∧ (¬ (lg_cmp a0 a4) ≤ (0 : Int32) → sl_bz (0 : Int32) = (0 : Int32) ∧ Q (0 : Int32) μ))
def mo_in_pt : sl_PT := fun As μ Q => match As with
  | [.inr (.inl a0), .inr (.inl a2), .inr (.inl a4)] => mo_in a0 a2 a4 μ (fun r μ' => Q (some (.inl r)) μ')
  | _ => False
def mo_in_cd : List sl_Ent := [(0, .lload_n 0, 1, 0, [0], [], false), (1, .lload_n 2, 1, 0, [2], [], false), (2, .lcmp, 1, 0, [], [], false), (3, .ifCond .lt 14, 3, 0, [17], [], false), (6, .lload_n 0, 1, 0, [0], [], false), (7, .lload 4, 2, 0, [4], [], false), (9, .lcmp, 1, 0, [], [], false), (10, .ifCond .gt 7, 3, 0, [17], [], false), (13, .iconst 1, 1, 1, [], [], false), (14, .goto 4, 3, 0, [18], [], false), (17, .iconst 0, 1, 0, [], [], false), (18, .ireturn, 1, 0, [1], [], false)]
def mo_in_y : MethodName := ⟨"SpanLayersModel", "in", "(JJJ)Z"⟩
theorem mo_in_tb : sl_tbOK sl_R12 prog_14_method_3_code 6 (some .boolean) lk_mo [] mo_in_cd = true := by decide +kernel
def mo_in_ct : List sl_Ct := []
theorem mo_in_hc (g : sl_G) : sl_HC g sl_R12 0 mo_in_ct [] := sl_HC_nil g sl_R12 0
set_option maxRecDepth 20000 in
set_option maxHeartbeats 4000000 in
theorem mo_in_snd (g : sl_G) : sl_Snd g mo_in_y prog_14_method_3_code 6 (some .boolean) 0 (mo_in_pt) := by
  intro As μ Q hw h
  unfold mo_in_pt at h
  split at h
  next a0 a2 a4 =>
    refine sl_mk2 g [true, false, true, false, true, false] (cst := [some (.inr (.inl a0)), none, some (.inr (.inl a2)), none, some (.inr (.inl a4)), none]) (lv0 := [none, none, none, none, none, none]) (by decide) rfl hw rfl rfl rfl lk_mo_ok (mo_in_hc g) mo_in_tb rfl ?_
    intro X M
    exact ⟨_, sl_VV0, h⟩
  next => exact h.elim
def mo_lengthOf (a1 : Int32) (μ : sl_M) (Q : Int32 → sl_M → Prop) : Prop := vp_in a1 30 ∧ vp_in a1 30 ∧ Q (((μ 106 a1.toNatClampNeg) - (μ 105 a1.toNatClampNeg)) + (1 : Int32)) μ
def mo_lengthOf_pt : sl_PT := fun As μ Q => match As with
  | [.inr (.inr (some (c0, a0))), .inl a1] => if c0 = 12 then (if a0 = 104 then (mo_lengthOf a1 μ (fun r μ' => Q (some (.inl r)) μ')) else False) else False
  | _ => False
def mo_lengthOf_cd : List sl_Ent := [(0, .aload_n 0, 1, 0, [0], [], false), (1, .getfield 13, 3, 0, [12, 1, 2, 20, 2], [], false), (4, .iload_n 1, 1, 0, [1], [], false), (5, .iaload, 1, 0, [], [], false), (6, .aload_n 0, 1, 0, [0], [], false), (7, .getfield 7, 3, 0, [12, 0, 2, 20, 1], [], false), (10, .iload_n 1, 1, 0, [1], [], false), (11, .iaload, 1, 0, [], [], false), (12, .isub, 1, 0, [], [], false), (13, .iconst 1, 1, 1, [], [], false), (14, .iadd, 1, 0, [], [], false), (15, .ireturn, 1, 0, [], [], false)]
def mo_lengthOf_y : MethodName := ⟨"SpanLayersModel", "lengthOf", "(I)I"⟩
theorem mo_lengthOf_tb : sl_tbOK sl_R12 prog_14_method_7_code 2 (some .int) lk_mo [] mo_lengthOf_cd = true := by decide +kernel
def mo_lengthOf_ct : List sl_Ct := []
theorem mo_lengthOf_hc (g : sl_G) : sl_HC g sl_R12 0 mo_lengthOf_ct [] := sl_HC_nil g sl_R12 0
set_option maxRecDepth 20000 in
set_option maxHeartbeats 4000000 in
theorem mo_lengthOf_snd (g : sl_G) : sl_Snd g mo_lengthOf_y prog_14_method_7_code 2 (some .int) 0 (mo_lengthOf_pt) := by
  intro As μ Q hw h
  unfold mo_lengthOf_pt at h
  split at h
  next c0 a0 a1 =>
    split at h
    next e_ =>
      subst e_
      split at h
      next e_ =>
        subst e_
        refine sl_mk2 g [true, true] (cst := [some (.inr (.inr (some (12, 104)))), some (.inl a1)]) (lv0 := [none, none]) (by decide) rfl hw rfl rfl rfl lk_mo_ok (mo_lengthOf_hc g) mo_lengthOf_tb rfl ?_
        intro X M
        exact ⟨_, sl_VV0, h⟩
      next => exact h.elim
    next => exact h.elim
  next => exact h.elim
def mo_covers_B61 (a1 : Int32) (a2 : Int32) (Q : Int32 → sl_M → Prop) : Int32 → sl_M → Prop
  | x3, μ => (x3 = (0 : Int32) → sl_bz (0 : Int32) = (0 : Int32) ∧ Q (0 : Int32) μ) ∧ (¬ x3 = (0 : Int32) → mo_lengthOf a1 μ (fun r2 m1 => mo_lengthOf a2 m1 (fun r4 m3 => (r2 ≤ r4 → (a1 < a2 → sl_bz (1 : Int32) = (1 : Int32) ∧ Q (1 : Int32) m3) ∧ (¬ a1 < a2 → sl_bz (0 : Int32) = (0 : Int32) ∧ Q (0 : Int32) m3)) ∧ (¬ r2 ≤ r4 → sl_bz (1 : Int32) = (1 : Int32) ∧ Q (1 : Int32) m3))))
def mo_covers (a1 : Int32) (a2 : Int32) (μ : sl_M) (Q : Int32 → sl_M → Prop) : Prop := vp_in a1 30 ∧ ((μ 108 a1.toNatClampNeg) = (1 : Int32) → vp_in a2 30 ∧ ((μ 108 a2.toNatClampNeg) = (1 : Int32) → (a1 = a2 → mo_covers_B61 a1 a2 Q (0 : Int32) μ) ∧ (¬ a1 = a2 → vp_in a1 30 ∧ vp_in a2 30 ∧ ((μ 105 a1.toNatClampNeg) ≤ (μ 105 a2.toNatClampNeg) → vp_in a1 30 ∧ vp_in a2 30 ∧ ((μ 106 a1.toNatClampNeg) < (μ 106 a2.toNatClampNeg) → mo_covers_B61 a1 a2 Q (0 : Int32) μ) ∧ (¬ (μ 106 a1.toNatClampNeg) < (μ 106 a2.toNatClampNeg) → mo_covers_B61 a1 a2 Q (1 : Int32) μ)) ∧ (¬ (μ 105 a1.toNatClampNeg) ≤ (μ 105 a2.toNatClampNeg) → mo_covers_B61 a1 a2 Q (0 : Int32) μ))) ∧ (¬ (μ 108 a2.toNatClampNeg) = (1 : Int32) → mo_covers_B61 a1 a2 Q (0 : Int32) μ)) ∧ (¬ (μ 108 a1.toNatClampNeg) = (1 : Int32) → mo_covers_B61 a1 a2 Q (0 : Int32) μ)
def mo_covers_pt : sl_PT := fun As μ Q => match As with
  | [.inr (.inr (some (c0, a0))), .inl a1, .inl a2] => if c0 = 12 then (if a0 = 104 then (mo_covers a1 a2 μ (fun r μ' => Q (some (.inl r)) μ')) else False) else False
  | _ => False
def mo_covers_cd : List sl_Ent := [(0, .aload_n 0, 1, 0, [0], [], false), (1, .getfield 19, 3, 0, [12, 3, 2, 20, 4], [], false), (4, .iload_n 1, 1, 0, [1], [], false), (5, .iaload, 1, 0, [], [], false), (6, .iconst 1, 1, 1, [], [], false), (7, .if_icmp .ne 52, 3, 0, [59], [], false), (10, .aload_n 0, 1, 0, [0], [], false), (11, .getfield 19, 3, 0, [12, 3, 2, 20, 4], [], false), (14, .iload_n 2, 1, 0, [2], [], false), (15, .iaload, 1, 0, [], [], false), (16, .iconst 1, 1, 1, [], [], false), (17, .if_icmp .ne 42, 3, 0, [59], [], false), (20, .iload_n 1, 1, 0, [1], [], false), (21, .iload_n 2, 1, 0, [2], [], false), (22, .if_icmp .eq 37, 3, 0, [59], [], false), (25, .aload_n 0, 1, 0, [0], [], false), (26, .getfield 7, 3, 0, [12, 0, 2, 20, 1], [], false), (29, .iload_n 1, 1, 0, [1], [], false), (30, .iaload, 1, 0, [], [], false), (31, .aload_n 0, 1, 0, [0], [], false), (32, .getfield 7, 3, 0, [12, 0, 2, 20, 1], [], false), (35, .iload_n 2, 1, 0, [2], [], false), (36, .iaload, 1, 0, [], [], false), (37, .if_icmp .gt 22, 3, 0, [59], [], false), (40, .aload_n 0, 1, 0, [0], [], false), (41, .getfield 13, 3, 0, [12, 1, 2, 20, 2], [], false), (44, .iload_n 1, 1, 0, [1], [], false), (45, .iaload, 1, 0, [], [], false), (46, .aload_n 0, 1, 0, [0], [], false), (47, .getfield 13, 3, 0, [12, 1, 2, 20, 2], [], false), (50, .iload_n 2, 1, 0, [2], [], false), (51, .iaload, 1, 0, [], [], false), (52, .if_icmp .lt 7, 3, 0, [59], [], false), (55, .iconst 1, 1, 1, [], [], false), (56, .goto 4, 3, 0, [60], [], false), (59, .iconst 0, 1, 0, [], [], false), (60, .istore_n 3, 1, 0, [3], [], false), (61, .iload_n 3, 1, 0, [3], [], true), (62, .ifCond .eq 25, 3, 0, [87], [], false), (65, .aload_n 0, 1, 0, [0], [], false), (66, .iload_n 1, 1, 0, [1], [], false), (67, .invokevirtual 127, 3, 0, [0], [], false), (70, .aload_n 0, 1, 0, [0], [], false), (71, .iload_n 2, 1, 0, [2], [], false), (72, .invokevirtual 127, 3, 0, [0], [], false), (75, .if_icmp .gt 8, 3, 0, [83], [], false), (78, .iload_n 1, 1, 0, [1], [], false), (79, .iload_n 2, 1, 0, [2], [], false), (80, .if_icmp .ge 7, 3, 0, [87], [], false), (83, .iconst 1, 1, 1, [], [], false), (84, .goto 4, 3, 0, [88], [], false), (87, .iconst 0, 1, 0, [], [], false), (88, .ireturn, 1, 0, [1], [], false)]
def mo_covers_y : MethodName := ⟨"SpanLayersModel", "covers", "(II)Z"⟩
theorem mo_covers_tb : sl_tbOK sl_R12 prog_14_method_9_code 4 (some .boolean) lk_mo [(127, 0)] mo_covers_cd = true := by decide +kernel
theorem mo_lengthOf_w2 : Cond.instanceMethod mo_lengthOf_y ∈ sl_T0 := sl_in1 1233 (by decide +kernel) rfl
theorem mo_lengthOf_w3 : Cond.selects mo_lengthOf_y.cls mo_lengthOf_y mo_lengthOf_y ∈ sl_T0 := sl_in1 27 (by decide +kernel) rfl
theorem mo_lengthOf_w4 : Cond.initialized mo_lengthOf_y.cls ∈ sl_T0 := sl_in1 98 (by decide +kernel) rfl
theorem mo_lengthOf_w5 : Cond.code mo_lengthOf_y prog_14_method_7_code 2 (some .int) ∈ sl_T0 := sl_in1 1234 (by decide +kernel) rfl
theorem mo_lengthOf_w6 : mo_lengthOf_y.cls ≠ "java/lang/invoke/MethodHandle" ∧ mo_lengthOf_y.cls ≠ "java/lang/invoke/VarHandle" ∧ (parseMethodDescriptor mo_lengthOf_y.desc).map (fun d => d.parameters.length) = some 1 := by decide +kernel
theorem cs_mo_127 (g : sl_G) {hh : Nat} (h : 1 ≤ hh) : sl_CallS g sl_R12 127 0 12 hh 2 mo_lengthOf_pt := sl_callV (y := mo_lengthOf_y) (T := sl_F12) (N := 50) (mo_lengthOf_snd g) h (by decide) (sl_in1 1231 (by decide +kernel) rfl) mo_lengthOf_w2 mo_lengthOf_w3 mo_lengthOf_w4 mo_lengthOf_w5 mo_lengthOf_w6 rfl (by decide)
def mo_covers_ct : List sl_Ct := [(2, 0, 12, mo_lengthOf_pt)]
theorem mo_covers_hc (g : sl_G) : sl_HC g sl_R12 1 mo_covers_ct [(127, 0)] := sl_HC_cons (cs_mo_127 g (by decide)) (sl_HC_nil g sl_R12 1)
set_option maxRecDepth 20000 in
set_option maxHeartbeats 4000000 in
theorem mo_covers_snd (g : sl_G) : sl_Snd g mo_covers_y prog_14_method_9_code 4 (some .boolean) 1 (mo_covers_pt) := by
  intro As μ Q hw h
  unfold mo_covers_pt at h
  split at h
  next c0 a0 a1 a2 =>
    split at h
    next e_ =>
      subst e_
      split at h
      next e_ =>
        subst e_
        refine sl_mk2 g [true, true, true, false] (cst := [some (.inr (.inr (some (12, 104)))), some (.inl a1), some (.inl a2)]) (lv0 := [none, none, none, none]) (by decide) rfl hw rfl rfl rfl lk_mo_ok (mo_covers_hc g) mo_covers_tb rfl ?_
        intro X M
        have v61 := sl_ext M sl_VV0 61 (fun lv st μ => match lv, st with | [_, _, _, some (.inl x3)], [] => mo_covers_B61 a1 a2 (fun r μ' => Q (some (.inl r)) μ') x3 μ | _, _ => False) (by
            intro lv st μ h
            split at h
            · exact h
            · exact h.elim)
        exact ⟨_, v61, h⟩
      next => exact h.elim
    next => exact h.elim
  next => exact h.elim
def mo_layLayers_L39 (Q : sl_M → Prop) (k23 : Int32 → sl_M → Prop) (k31 : Int32 → Int32 → sl_M → Prop) : Nat → Int32 → Int32 → Int32 → sl_M → Prop
  | 0, _, _, _, _ => False
  | n + 1, x1, x2, x3, μ => (x3 < (30 : Int32) → mo_covers x2 x3 μ (fun r6 m5 => (r6 = (0 : Int32) → (mo_layLayers_L39 Q k23 k31 n) x1 x2 (x3 + (1 : Int32)) m5) ∧ (¬ r6 = (0 : Int32) → vp_in x3 30 ∧ vp_in x2 30 ∧ ((m5 109 x3.toNatClampNeg) ≤ (m5 109 x2.toNatClampNeg) → vp_in x2 30 ∧ vp_in x3 30 ∧ ∀ m7, m7 = sl_up m5 109 x3.toNatClampNeg ((m5 109 x2.toNatClampNeg) + (1 : Int32)) → (mo_layLayers_L39 Q k23 k31 n) (1 : Int32) x2 (x3 + (1 : Int32)) m7) ∧ (¬ (m5 109 x3.toNatClampNeg) ≤ (m5 109 x2.toNatClampNeg) → (mo_layLayers_L39 Q k23 k31 n) x1 x2 (x3 + (1 : Int32)) m5)))) ∧ (¬ x3 < (30 : Int32) → k31 x1 (x2 + (1 : Int32)) μ)
def mo_layLayers_L31 (Q : sl_M → Prop) (k23 : Int32 → sl_M → Prop) : Nat → Int32 → Int32 → sl_M → Prop
  | 0, _, _, _ => False
  | n + 1, x1, x2, μ => (x2 < (30 : Int32) → ∃ n4, mo_layLayers_L39 Q k23 (mo_layLayers_L31 Q k23 n) n4 x1 x2 (0 : Int32) μ) ∧ (¬ x2 < (30 : Int32) → k23 x1 μ)
def mo_layLayers_L23 (Q : sl_M → Prop) : Nat → Int32 → sl_M → Prop
  | 0, _, _ => False
  | n + 1, x1, μ => (x1 = (0 : Int32) → Q μ) ∧ (¬ x1 = (0 : Int32) → ∃ n3, mo_layLayers_L31 Q (mo_layLayers_L23 Q n) n3 (0 : Int32) (0 : Int32) μ)
def mo_layLayers_L2 (Q : sl_M → Prop) : Nat → Int32 → sl_M → Prop
  | 0, _, _ => False
  | n + 1, x1, μ => (x1 < (30 : Int32) → vp_in x1 30 ∧ ∀ m1, m1 = sl_up μ 109 x1.toNatClampNeg (0 : Int32) → (mo_layLayers_L2 Q n) (x1 + (1 : Int32)) m1) ∧ (¬ x1 < (30 : Int32) → ∃ n2, mo_layLayers_L23 Q n2 (1 : Int32) μ)
def mo_layLayers (μ : sl_M) (Q : sl_M → Prop) : Prop := ∃ n8, mo_layLayers_L2 Q n8 (0 : Int32) μ
def mo_layLayers_pt : sl_PT := fun As μ Q => match As with
  | [.inr (.inr (some (c0, a0)))] => if c0 = 12 then (if a0 = 104 then (mo_layLayers μ (fun μ' => Q none μ')) else False) else False
  | _ => False
def mo_layLayers_cd : List sl_Ent := [(0, .iconst 0, 1, 0, [], [], false), (1, .istore_n 1, 1, 0, [1], [], false), (2, .iload_n 1, 1, 0, [1], [], true), (3, .bipush 30, 2, 30, [], [], false), (5, .if_icmp .ge 16, 3, 0, [21], [], false), (8, .aload_n 0, 1, 0, [0], [], false), (9, .getfield 22, 3, 0, [12, 4, 2, 20, 5], [], false), (12, .iload_n 1, 1, 0, [1], [], false), (13, .iconst 0, 1, 0, [], [], false), (14, .iastore, 1, 0, [], [], false), (15, .iinc 1 1, 3, 1, [], [], false), (18, .goto (-16), 3, 0, [2], [], false), (21, .iconst 1, 1, 1, [], [], false), (22, .istore_n 1, 1, 0, [1], [], false), (23, .iload_n 1, 1, 0, [1], [], true), (24, .ifCond .eq 76, 3, 0, [100], [], false), (27, .iconst 0, 1, 0, [], [], false), (28, .istore_n 1, 1, 0, [1], [], false), (29, .iconst 0, 1, 0, [], [], false), (30, .istore_n 2, 1, 0, [2], [], false), (31, .iload_n 2, 1, 0, [2], [], true), (32, .bipush 30, 2, 30, [], [], false), (34, .if_icmp .ge 63, 3, 0, [97], [], false), (37, .iconst 0, 1, 0, [], [], false), (38, .istore_n 3, 1, 0, [3], [], false), (39, .iload_n 3, 1, 0, [3], [], true), (40, .bipush 30, 2, 30, [], [], false), (42, .if_icmp .ge 49, 3, 0, [91], [], false), (45, .aload_n 0, 1, 0, [0], [], false), (46, .iload_n 2, 1, 0, [2], [], false), (47, .iload_n 3, 1, 0, [3], [], false), (48, .invokevirtual 131, 3, 0, [0], [], false), (51, .ifCond .eq 34, 3, 0, [85], [], false), (54, .aload_n 0, 1, 0, [0], [], false), (55, .getfield 22, 3, 0, [12, 4, 2, 20, 5], [], false), (58, .iload_n 3, 1, 0, [3], [], false), (59, .iaload, 1, 0, [], [], false), (60, .aload_n 0, 1, 0, [0], [], false), (61, .getfield 22, 3, 0, [12, 4, 2, 20, 5], [], false), (64, .iload_n 2, 1, 0, [2], [], false), (65, .iaload, 1, 0, [], [], false), (66, .if_icmp .gt 19, 3, 0, [85], [], false), (69, .aload_n 0, 1, 0, [0], [], false), (70, .getfield 22, 3, 0, [12, 4, 2, 20, 5], [], false), (73, .iload_n 3, 1, 0, [3], [], false), (74, .aload_n 0, 1, 0, [0], [], false), (75, .getfield 22, 3, 0, [12, 4, 2, 20, 5], [], false), (78, .iload_n 2, 1, 0, [2], [], false), (79, .iaload, 1, 0, [], [], false), (80, .iconst 1, 1, 1, [], [], false), (81, .iadd, 1, 0, [], [], false), (82, .iastore, 1, 0, [], [], false), (83, .iconst 1, 1, 1, [], [], false), (84, .istore_n 1, 1, 0, [1], [], false), (85, .iinc 3 1, 3, 1, [], [], false), (88, .goto (-49), 3, 0, [39], [], false), (91, .iinc 2 1, 3, 1, [], [], false), (94, .goto (-63), 3, 0, [31], [], false), (97, .goto (-74), 3, 0, [23], [], false), (100, .return_, 1, 0, [], [], false)]
def mo_layLayers_y : MethodName := ⟨"SpanLayersModel", "layLayers", "()V"⟩
theorem mo_layLayers_tb : sl_tbOK sl_R12 prog_14_method_11_code 4 none lk_mo [(131, 0)] mo_layLayers_cd = true := by decide +kernel
theorem mo_covers_w2 : Cond.instanceMethod mo_covers_y ∈ sl_T0 := sl_in1 1229 (by decide +kernel) rfl
theorem mo_covers_w3 : Cond.selects mo_covers_y.cls mo_covers_y mo_covers_y ∈ sl_T0 := sl_in1 26 (by decide +kernel) rfl
theorem mo_covers_w4 : Cond.initialized mo_covers_y.cls ∈ sl_T0 := sl_in1 98 (by decide +kernel) rfl
theorem mo_covers_w5 : Cond.code mo_covers_y prog_14_method_9_code 4 (some .boolean) ∈ sl_T0 := sl_in1 1230 (by decide +kernel) rfl
theorem mo_covers_w6 : mo_covers_y.cls ≠ "java/lang/invoke/MethodHandle" ∧ mo_covers_y.cls ≠ "java/lang/invoke/VarHandle" ∧ (parseMethodDescriptor mo_covers_y.desc).map (fun d => d.parameters.length) = some 2 := by decide +kernel
theorem cs_mo_131 (g : sl_G) {hh : Nat} (h : 2 ≤ hh) : sl_CallS g sl_R12 131 0 12 hh 3 mo_covers_pt := sl_callV (y := mo_covers_y) (T := sl_F12) (N := 50) (mo_covers_snd g) h (by decide) (sl_in1 1227 (by decide +kernel) rfl) mo_covers_w2 mo_covers_w3 mo_covers_w4 mo_covers_w5 mo_covers_w6 rfl (by decide)
def mo_layLayers_ct : List sl_Ct := [(3, 0, 12, mo_covers_pt)]
theorem mo_layLayers_hc (g : sl_G) : sl_HC g sl_R12 2 mo_layLayers_ct [(131, 0)] := sl_HC_cons (cs_mo_131 g (by decide)) (sl_HC_nil g sl_R12 2)
set_option maxRecDepth 20000 in
set_option maxHeartbeats 4000000 in
theorem mo_layLayers_snd (g : sl_G) : sl_Snd g mo_layLayers_y prog_14_method_11_code 4 none 2 (mo_layLayers_pt) := by
  intro As μ Q hw h
  unfold mo_layLayers_pt at h
  split at h
  next c0 a0 =>
    split at h
    next e_ =>
      subst e_
      split at h
      next e_ =>
        subst e_
        refine sl_mk2 g [true, false, false, false] (cst := [some (.inr (.inr (some (12, 104))))]) (lv0 := [none, none, none, none]) (by decide) rfl hw rfl rfl rfl lk_mo_ok (mo_layLayers_hc g) mo_layLayers_tb rfl ?_
        intro X M
        have v23 := sl_extL M sl_VV0 23 (fun n lv st μ => match lv, st with | [_, some (.inl x1), _, _], [] => mo_layLayers_L23 (fun μ' => Q none μ') n x1 μ | _, _ => False) (by
            intro lv st μ h
            split at h
            · exact h
            · exact h) (by
            intro n23 w23
            have v31 := sl_extL M w23 31 (fun n lv st μ => match lv, st with | [_, some (.inl x1), some (.inl x2), _], [] => mo_layLayers_L31 (fun μ' => Q none μ') (mo_layLayers_L23 (fun μ' => Q none μ') n23) n x1 x2 μ | _, _ => False) (by
                intro lv st μ h
                split at h
                · exact h
                · exact h) (by
                intro n31 w31
                have v39 := sl_extL M w31 39 (fun n lv st μ => match lv, st with | [_, some (.inl x1), some (.inl x2), some (.inl x3)], [] => mo_layLayers_L39 (fun μ' => Q none μ') (mo_layLayers_L23 (fun μ' => Q none μ') n23) (mo_layLayers_L31 (fun μ' => Q none μ') (mo_layLayers_L23 (fun μ' => Q none μ') n23) n31) n x1 x2 x3 μ | _, _ => False) (by
                    intro lv st μ h
                    split at h
                    · exact h
                    · exact h) (by
                    intro n39 w39
                    refine ⟨_, w39, ?_⟩
                    intro lv st μ h
                    split at h
                    · exact h
                    · exact h.elim)
                refine ⟨_, v39, ?_⟩
                intro lv st μ h
                split at h
                · exact h
                · exact h.elim)
            refine ⟨_, v31, ?_⟩
            intro lv st μ h
            split at h
            · exact h
            · exact h.elim)
        have v2 := sl_extL M v23 2 (fun n lv st μ => match lv, st with | [_, some (.inl x1), _, _], [] => mo_layLayers_L2 (fun μ' => Q none μ') n x1 μ | _, _ => False) (by
            intro lv st μ h
            split at h
            · exact h
            · exact h) (by
            intro n2 w2
            refine ⟨_, w2, ?_⟩
            intro lv st μ h
            split at h
            · exact h
            · exact h.elim)
        exact ⟨_, v2, h⟩
      next => exact h.elim
    next => exact h.elim
  next => exact h.elim
def mo_firstOf (a0 : Int32) (a1 : Int32) (a2 : Int32) (a3 : Int32) (a4 : Int32) (μ : sl_M) (Q : Int32 → sl_M → Prop) : Prop := (a0 = (0 : Int32) → Q a1 μ) ∧ (¬ a0 = (0 : Int32) → (a0 = (1 : Int32) → Q (-a2) μ) ∧ (¬ a0 = (1 : Int32) → (a0 = (2 : Int32) → Q (a1 - a2) μ) ∧ (¬ a0 = (2 : Int32) → (a0 = (3 : Int32) → Q (-a3) μ) ∧ (¬ a0 = (3 : Int32) → Q a4 μ))))
def mo_firstOf_pt : sl_PT := fun As μ Q => match As with
  | [.inl a0, .inl a1, .inl a2, .inl a3, .inl a4] => mo_firstOf a0 a1 a2 a3 a4 μ (fun r μ' => Q (some (.inl r)) μ')
  | _ => False
def mo_firstOf_cd : List sl_Ent := [(0, .iload_n 0, 1, 0, [0], [], false), (1, .tableswitch 43 0 3 #[31, 33, 36, 40], 31, 0, [44], [(0, 32), (1, 34), (2, 37), (3, 41)], false), (32, .iload_n 1, 1, 0, [1], [], false), (33, .ireturn, 1, 0, [], [], false), (34, .iload_n 2, 1, 0, [2], [], false), (35, .ineg, 1, 0, [], [], false), (36, .ireturn, 1, 0, [], [], false), (37, .iload_n 1, 1, 0, [1], [], false), (38, .iload_n 2, 1, 0, [2], [], false), (39, .isub, 1, 0, [], [], false), (40, .ireturn, 1, 0, [], [], false), (41, .iload_n 3, 1, 0, [3], [], false), (42, .ineg, 1, 0, [], [], false), (43, .ireturn, 1, 0, [], [], false), (44, .iload 4, 2, 0, [4], [], false), (46, .ireturn, 1, 0, [], [], false)]
def mo_firstOf_y : MethodName := ⟨"SpanLayersModel", "firstOf", "(IIIII)I"⟩
theorem mo_firstOf_tb : sl_tbOK sl_R12 prog_14_method_12_code 5 (some .int) lk_mo [] mo_firstOf_cd = true := by decide +kernel
def mo_firstOf_ct : List sl_Ct := []
theorem mo_firstOf_hc (g : sl_G) : sl_HC g sl_R12 0 mo_firstOf_ct [] := sl_HC_nil g sl_R12 0
set_option maxRecDepth 20000 in
set_option maxHeartbeats 4000000 in
theorem mo_firstOf_snd (g : sl_G) : sl_Snd g mo_firstOf_y prog_14_method_12_code 5 (some .int) 0 (mo_firstOf_pt) := by
  intro As μ Q hw h
  unfold mo_firstOf_pt at h
  split at h
  next a0 a1 a2 a3 a4 =>
    refine sl_mk2 g [true, true, true, true, true] (cst := [some (.inl a0), some (.inl a1), some (.inl a2), some (.inl a3), some (.inl a4)]) (lv0 := [none, none, none, none, none]) (by decide) rfl hw rfl rfl rfl lk_mo_ok (mo_firstOf_hc g) mo_firstOf_tb rfl ?_
    intro X M
    exact ⟨_, sl_VV0, h⟩
  next => exact h.elim
def mo_first (a1 : Int32) (a2 : Int32) (μ : sl_M) (Q : Int32 → sl_M → Prop) : Prop := vp_in a2 30 ∧ vp_in a2 30 ∧ vp_in a2 30 ∧ vp_in a2 30 ∧ mo_firstOf a1 (μ 105 a2.toNatClampNeg) (μ 106 a2.toNatClampNeg) (μ 107 a2.toNatClampNeg) (μ 109 a2.toNatClampNeg) μ (fun r2 m1 => Q r2 m1)
def mo_first_pt : sl_PT := fun As μ Q => match As with
  | [.inr (.inr (some (c0, a0))), .inl a1, .inl a2] => if c0 = 12 then (if a0 = 104 then (mo_first a1 a2 μ (fun r μ' => Q (some (.inl r)) μ')) else False) else False
  | _ => False
def mo_first_cd : List sl_Ent := [(0, .iload_n 1, 1, 0, [1], [], false), (1, .aload_n 0, 1, 0, [0], [], false), (2, .getfield 7, 3, 0, [12, 0, 2, 20, 1], [], false), (5, .iload_n 2, 1, 0, [2], [], false), (6, .iaload, 1, 0, [], [], false), (7, .aload_n 0, 1, 0, [0], [], false), (8, .getfield 13, 3, 0, [12, 1, 2, 20, 2], [], false), (11, .iload_n 2, 1, 0, [2], [], false), (12, .iaload, 1, 0, [], [], false), (13, .aload_n 0, 1, 0, [0], [], false), (14, .getfield 16, 3, 0, [12, 2, 2, 20, 3], [], false), (17, .iload_n 2, 1, 0, [2], [], false), (18, .iaload, 1, 0, [], [], false), (19, .aload_n 0, 1, 0, [0], [], false), (20, .getfield 22, 3, 0, [12, 4, 2, 20, 5], [], false), (23, .iload_n 2, 1, 0, [2], [], false), (24, .iaload, 1, 0, [], [], false), (25, .invokestatic 135, 3, 0, [0], [], false), (28, .ireturn, 1, 0, [], [], false)]
def mo_first_y : MethodName := ⟨"SpanLayersModel", "first", "(II)I"⟩
theorem mo_first_tb : sl_tbOK sl_R12 prog_14_method_15_code 3 (some .int) lk_mo [(135, 1)] mo_first_cd = true := by decide +kernel
theorem mo_firstOf_w2 : Cond.static mo_firstOf_y ∈ sl_T0 := sl_in1 1284 (by decide +kernel) rfl
theorem mo_firstOf_w4 : Cond.initialized mo_firstOf_y.cls ∈ sl_T0 := sl_in1 98 (by decide +kernel) rfl
theorem mo_firstOf_w5 : Cond.code mo_firstOf_y prog_14_method_12_code 5 (some .int) ∈ sl_T0 := sl_in1 1285 (by decide +kernel) rfl
theorem mo_firstOf_w6 : mo_firstOf_y.cls ≠ "java/lang/invoke/MethodHandle" ∧ mo_firstOf_y.cls ≠ "java/lang/invoke/VarHandle" ∧ (parseMethodDescriptor mo_firstOf_y.desc).map (fun d => d.parameters.length) = some 5 := by decide +kernel
theorem cs_mo_135 (g : sl_G) {hh : Nat} (h : 1 ≤ hh) : sl_CallS g sl_R12 135 1 0 hh 5 mo_firstOf_pt := sl_callS (y := mo_firstOf_y) (mo_firstOf_snd g) h (by decide) (sl_in1 1283 (by decide +kernel) rfl) mo_firstOf_w2 mo_firstOf_w4 mo_firstOf_w5 mo_firstOf_w6
def mo_first_ct : List sl_Ct := [(5, 1, 0, mo_firstOf_pt)]
theorem mo_first_hc (g : sl_G) : sl_HC g sl_R12 1 mo_first_ct [(135, 1)] := sl_HC_cons (cs_mo_135 g (by decide)) (sl_HC_nil g sl_R12 1)
set_option maxRecDepth 20000 in
set_option maxHeartbeats 4000000 in
theorem mo_first_snd (g : sl_G) : sl_Snd g mo_first_y prog_14_method_15_code 3 (some .int) 1 (mo_first_pt) := by
  intro As μ Q hw h
  unfold mo_first_pt at h
  split at h
  next c0 a0 a1 a2 =>
    split at h
    next e_ =>
      subst e_
      split at h
      next e_ =>
        subst e_
        refine sl_mk2 g [true, true, true] (cst := [some (.inr (.inr (some (12, 104)))), some (.inl a1), some (.inl a2)]) (lv0 := [none, none, none]) (by decide) rfl hw rfl rfl rfl lk_mo_ok (mo_first_hc g) mo_first_tb rfl ?_
        intro X M
        exact ⟨_, sl_VV0, h⟩
      next => exact h.elim
    next => exact h.elim
  next => exact h.elim
def mo_secondOf (a0 : Int32) (a1 : Int32) (a2 : Int32) (μ : sl_M) (Q : Int32 → sl_M → Prop) : Prop := (a0 = (0 : Int32) → Q a2 μ) ∧ (¬ a0 = (0 : Int32) → (a0 = (3 : Int32) → Q (a1 - a2) μ) ∧ (¬ a0 = (3 : Int32) → Q a1 μ))
def mo_secondOf_pt : sl_PT := fun As μ Q => match As with
  | [.inl a0, .inl a1, .inl a2] => mo_secondOf a0 a1 a2 μ (fun r μ' => Q (some (.inl r)) μ')
  | _ => False
def mo_secondOf_cd : List sl_Ent := [(0, .iload_n 0, 1, 0, [0], [], false), (1, .ifCond .ne 7, 3, 0, [8], [], false), (4, .iload_n 2, 1, 0, [2], [], false), (5, .goto 15, 3, 0, [20], [], false), (8, .iload_n 0, 1, 0, [0], [], false), (9, .iconst 3, 1, 3, [], [], false), (10, .if_icmp .ne 9, 3, 0, [19], [], false), (13, .iload_n 1, 1, 0, [1], [], false), (14, .iload_n 2, 1, 0, [2], [], false), (15, .isub, 1, 0, [], [], false), (16, .goto 4, 3, 0, [20], [], false), (19, .iload_n 1, 1, 0, [1], [], false), (20, .ireturn, 1, 0, [], [], false)]
def mo_secondOf_y : MethodName := ⟨"SpanLayersModel", "secondOf", "(III)I"⟩
theorem mo_secondOf_tb : sl_tbOK sl_R12 prog_14_method_13_code 3 (some .int) lk_mo [] mo_secondOf_cd = true := by decide +kernel
def mo_secondOf_ct : List sl_Ct := []
theorem mo_secondOf_hc (g : sl_G) : sl_HC g sl_R12 0 mo_secondOf_ct [] := sl_HC_nil g sl_R12 0
set_option maxRecDepth 20000 in
set_option maxHeartbeats 4000000 in
theorem mo_secondOf_snd (g : sl_G) : sl_Snd g mo_secondOf_y prog_14_method_13_code 3 (some .int) 0 (mo_secondOf_pt) := by
  intro As μ Q hw h
  unfold mo_secondOf_pt at h
  split at h
  next a0 a1 a2 =>
    refine sl_mk2 g [true, true, true] (cst := [some (.inl a0), some (.inl a1), some (.inl a2)]) (lv0 := [none, none, none]) (by decide) rfl hw rfl rfl rfl lk_mo_ok (mo_secondOf_hc g) mo_secondOf_tb rfl ?_
    intro X M
    exact ⟨_, sl_VV0, h⟩
  next => exact h.elim
def mo_second (a1 : Int32) (a2 : Int32) (μ : sl_M) (Q : Int32 → sl_M → Prop) : Prop := vp_in a2 30 ∧ vp_in a2 30 ∧ mo_secondOf a1 (μ 105 a2.toNatClampNeg) (μ 106 a2.toNatClampNeg) μ (fun r2 m1 => Q r2 m1)
def mo_second_pt : sl_PT := fun As μ Q => match As with
  | [.inr (.inr (some (c0, a0))), .inl a1, .inl a2] => if c0 = 12 then (if a0 = 104 then (mo_second a1 a2 μ (fun r μ' => Q (some (.inl r)) μ')) else False) else False
  | _ => False
def mo_second_cd : List sl_Ent := [(0, .iload_n 1, 1, 0, [1], [], false), (1, .aload_n 0, 1, 0, [0], [], false), (2, .getfield 7, 3, 0, [12, 0, 2, 20, 1], [], false), (5, .iload_n 2, 1, 0, [2], [], false), (6, .iaload, 1, 0, [], [], false), (7, .aload_n 0, 1, 0, [0], [], false), (8, .getfield 13, 3, 0, [12, 1, 2, 20, 2], [], false), (11, .iload_n 2, 1, 0, [2], [], false), (12, .iaload, 1, 0, [], [], false), (13, .invokestatic 139, 3, 0, [0], [], false), (16, .ireturn, 1, 0, [], [], false)]
def mo_second_y : MethodName := ⟨"SpanLayersModel", "second", "(II)I"⟩
theorem mo_second_tb : sl_tbOK sl_R12 prog_14_method_16_code 3 (some .int) lk_mo [(139, 1)] mo_second_cd = true := by decide +kernel
theorem mo_secondOf_w2 : Cond.static mo_secondOf_y ∈ sl_T0 := sl_in1 1291 (by decide +kernel) rfl
theorem mo_secondOf_w4 : Cond.initialized mo_secondOf_y.cls ∈ sl_T0 := sl_in1 98 (by decide +kernel) rfl
theorem mo_secondOf_w5 : Cond.code mo_secondOf_y prog_14_method_13_code 3 (some .int) ∈ sl_T0 := sl_in1 1292 (by decide +kernel) rfl
theorem mo_secondOf_w6 : mo_secondOf_y.cls ≠ "java/lang/invoke/MethodHandle" ∧ mo_secondOf_y.cls ≠ "java/lang/invoke/VarHandle" ∧ (parseMethodDescriptor mo_secondOf_y.desc).map (fun d => d.parameters.length) = some 3 := by decide +kernel
theorem cs_mo_139 (g : sl_G) {hh : Nat} (h : 1 ≤ hh) : sl_CallS g sl_R12 139 1 0 hh 3 mo_secondOf_pt := sl_callS (y := mo_secondOf_y) (mo_secondOf_snd g) h (by decide) (sl_in1 1290 (by decide +kernel) rfl) mo_secondOf_w2 mo_secondOf_w4 mo_secondOf_w5 mo_secondOf_w6
def mo_second_ct : List sl_Ct := [(3, 1, 0, mo_secondOf_pt)]
theorem mo_second_hc (g : sl_G) : sl_HC g sl_R12 1 mo_second_ct [(139, 1)] := sl_HC_cons (cs_mo_139 g (by decide)) (sl_HC_nil g sl_R12 1)
set_option maxRecDepth 20000 in
set_option maxHeartbeats 4000000 in
theorem mo_second_snd (g : sl_G) : sl_Snd g mo_second_y prog_14_method_16_code 3 (some .int) 1 (mo_second_pt) := by
  intro As μ Q hw h
  unfold mo_second_pt at h
  split at h
  next c0 a0 a1 a2 =>
    split at h
    next e_ =>
      subst e_
      split at h
      next e_ =>
        subst e_
        refine sl_mk2 g [true, true, true] (cst := [some (.inr (.inr (some (12, 104)))), some (.inl a1), some (.inl a2)]) (lv0 := [none, none, none]) (by decide) rfl hw rfl rfl rfl lk_mo_ok (mo_second_hc g) mo_second_tb rfl ?_
        intro X M
        exact ⟨_, sl_VV0, h⟩
      next => exact h.elim
    next => exact h.elim
  next => exact h.elim
def mo_isLess (a0 : Int32) (a1 : Int32) (a2 : Int32) (a3 : Int32) (a4 : Int32) (a5 : Int32) (μ : sl_M) (Q : Int32 → sl_M → Prop) : Prop := (a0 < a3 → sl_bz (1 : Int32) = (1 : Int32) ∧ Q (1 : Int32) μ) ∧ (¬ a0 < a3 → (a0 = a3 → (a1 < a4 → sl_bz (1 : Int32) = (1 : Int32) ∧ Q (1 : Int32) μ) ∧ (¬ a1 < a4 → (a1 = a4 → (a2 < a5 → sl_bz (1 : Int32) = (1 : Int32) ∧ Q (1 : Int32) μ) ∧ (¬ a2 < a5 → sl_bz (0 : Int32) = (0 : Int32) ∧ Q (0 : Int32) μ)) ∧ (¬ a1 = a4 → sl_bz (0 : Int32) = (0 : Int32) ∧ Q (0 : Int32) μ))) ∧ (¬ a0 = a3 → sl_bz (0 : Int32) = (0 : Int32) ∧ Q (0 : Int32) μ))
def mo_isLess_pt : sl_PT := fun As μ Q => match As with
  | [.inl a0, .inl a1, .inl a2, .inl a3, .inl a4, .inl a5] => mo_isLess a0 a1 a2 a3 a4 a5 μ (fun r μ' => Q (some (.inl r)) μ')
  | _ => False
def mo_isLess_cd : List sl_Ent := [(0, .iload_n 0, 1, 0, [0], [], false), (1, .iload_n 3, 1, 0, [3], [], false), (2, .if_icmp .lt 26, 3, 0, [28], [], false), (5, .iload_n 0, 1, 0, [0], [], false), (6, .iload_n 3, 1, 0, [3], [], false), (7, .if_icmp .ne 25, 3, 0, [32], [], false), (10, .iload_n 1, 1, 0, [1], [], false), (11, .iload 4, 2, 0, [4], [], false), (13, .if_icmp .lt 15, 3, 0, [28], [], false), (16, .iload_n 1, 1, 0, [1], [], false), (17, .iload 4, 2, 0, [4], [], false), (19, .if_icmp .ne 13, 3, 0, [32], [], false), (22, .iload_n 2, 1, 0, [2], [], false), (23, .iload 5, 2, 0, [5], [], false), (25, .if_icmp .ge 7, 3, 0, [32], [], false), (28, .iconst 1, 1, 1, [], [], false), (29, .goto 4, 3, 0, [33], [], false), (32, .iconst 0, 1, 0, [], [], false), (33, .ireturn, 1, 0, [1], [], false)]
def mo_isLess_y : MethodName := ⟨"SpanLayersModel", "isLess", "(IIIIII)Z"⟩
theorem mo_isLess_tb : sl_tbOK sl_R12 prog_14_method_14_code 6 (some .boolean) lk_mo [] mo_isLess_cd = true := by decide +kernel
def mo_isLess_ct : List sl_Ct := []
theorem mo_isLess_hc (g : sl_G) : sl_HC g sl_R12 0 mo_isLess_ct [] := sl_HC_nil g sl_R12 0
set_option maxRecDepth 20000 in
set_option maxHeartbeats 4000000 in
theorem mo_isLess_snd (g : sl_G) : sl_Snd g mo_isLess_y prog_14_method_14_code 6 (some .boolean) 0 (mo_isLess_pt) := by
  intro As μ Q hw h
  unfold mo_isLess_pt at h
  split at h
  next a0 a1 a2 a3 a4 a5 =>
    refine sl_mk2 g [true, true, true, true, true, true] (cst := [some (.inl a0), some (.inl a1), some (.inl a2), some (.inl a3), some (.inl a4), some (.inl a5)]) (lv0 := [none, none, none, none, none, none]) (by decide) rfl hw rfl rfl rfl lk_mo_ok (mo_isLess_hc g) mo_isLess_tb rfl ?_
    intro X M
    exact ⟨_, sl_VV0, h⟩
  next => exact h.elim
def mo_isAhead (a1 : Int32) (a2 : Int32) (a3 : Int32) (μ : sl_M) (Q : Int32 → sl_M → Prop) : Prop := mo_first a1 a2 μ (fun r2 m1 => mo_second a1 a2 m1 (fun r4 m3 => mo_first a1 a3 m3 (fun r6 m5 => mo_second a1 a3 m5 (fun r8 m7 => mo_isLess r2 r4 a2 r6 r8 a3 m7 (fun r10 m9 => sl_bz r10 = r10 ∧ Q r10 m9)))))
def mo_isAhead_pt : sl_PT := fun As μ Q => match As with
  | [.inr (.inr (some (c0, a0))), .inl a1, .inl a2, .inl a3] => if c0 = 12 then (if a0 = 104 then (mo_isAhead a1 a2 a3 μ (fun r μ' => Q (some (.inl r)) μ')) else False) else False
  | _ => False
def mo_isAhead_cd : List sl_Ent := [(0, .aload_n 0, 1, 0, [0], [], false), (1, .iload_n 1, 1, 0, [1], [], false), (2, .iload_n 2, 1, 0, [2], [], false), (3, .invokevirtual 143, 3, 0, [0], [], false), (6, .aload_n 0, 1, 0, [0], [], false), (7, .iload_n 1, 1, 0, [1], [], false), (8, .iload_n 2, 1, 0, [2], [], false), (9, .invokevirtual 147, 3, 0, [1], [], false), (12, .iload_n 2, 1, 0, [2], [], false), (13, .aload_n 0, 1, 0, [0], [], false), (14, .iload_n 1, 1, 0, [1], [], false), (15, .iload_n 3, 1, 0, [3], [], false), (16, .invokevirtual 143, 3, 0, [0], [], false), (19, .aload_n 0, 1, 0, [0], [], false), (20, .iload_n 1, 1, 0, [1], [], false), (21, .iload_n 3, 1, 0, [3], [], false), (22, .invokevirtual 147, 3, 0, [1], [], false), (25, .iload_n 3, 1, 0, [3], [], false), (26, .invokestatic 150, 3, 0, [2], [], false), (29, .ireturn, 1, 0, [1], [], false)]
def mo_isAhead_y : MethodName := ⟨"SpanLayersModel", "isAhead", "(III)Z"⟩
theorem mo_isAhead_tb : sl_tbOK sl_R12 prog_14_method_17_code 4 (some .boolean) lk_mo [(143, 0), (147, 0), (150, 1)] mo_isAhead_cd = true := by decide +kernel
theorem mo_first_w2 : Cond.instanceMethod mo_first_y ∈ sl_T0 := sl_in1 1281 (by decide +kernel) rfl
theorem mo_first_w3 : Cond.selects mo_first_y.cls mo_first_y mo_first_y ∈ sl_T0 := sl_in1 36 (by decide +kernel) rfl
theorem mo_first_w4 : Cond.initialized mo_first_y.cls ∈ sl_T0 := sl_in1 98 (by decide +kernel) rfl
theorem mo_first_w5 : Cond.code mo_first_y prog_14_method_15_code 3 (some .int) ∈ sl_T0 := sl_in1 1282 (by decide +kernel) rfl
theorem mo_first_w6 : mo_first_y.cls ≠ "java/lang/invoke/MethodHandle" ∧ mo_first_y.cls ≠ "java/lang/invoke/VarHandle" ∧ (parseMethodDescriptor mo_first_y.desc).map (fun d => d.parameters.length) = some 2 := by decide +kernel
theorem cs_mo_143 (g : sl_G) {hh : Nat} (h : 2 ≤ hh) : sl_CallS g sl_R12 143 0 12 hh 3 mo_first_pt := sl_callV (y := mo_first_y) (T := sl_F12) (N := 50) (mo_first_snd g) h (by decide) (sl_in1 1279 (by decide +kernel) rfl) mo_first_w2 mo_first_w3 mo_first_w4 mo_first_w5 mo_first_w6 rfl (by decide)
theorem mo_second_w2 : Cond.instanceMethod mo_second_y ∈ sl_T0 := sl_in1 1288 (by decide +kernel) rfl
theorem mo_second_w3 : Cond.selects mo_second_y.cls mo_second_y mo_second_y ∈ sl_T0 := sl_in1 37 (by decide +kernel) rfl
theorem mo_second_w4 : Cond.initialized mo_second_y.cls ∈ sl_T0 := sl_in1 98 (by decide +kernel) rfl
theorem mo_second_w5 : Cond.code mo_second_y prog_14_method_16_code 3 (some .int) ∈ sl_T0 := sl_in1 1289 (by decide +kernel) rfl
theorem mo_second_w6 : mo_second_y.cls ≠ "java/lang/invoke/MethodHandle" ∧ mo_second_y.cls ≠ "java/lang/invoke/VarHandle" ∧ (parseMethodDescriptor mo_second_y.desc).map (fun d => d.parameters.length) = some 2 := by decide +kernel
theorem cs_mo_147 (g : sl_G) {hh : Nat} (h : 2 ≤ hh) : sl_CallS g sl_R12 147 0 12 hh 3 mo_second_pt := sl_callV (y := mo_second_y) (T := sl_F12) (N := 50) (mo_second_snd g) h (by decide) (sl_in1 1286 (by decide +kernel) rfl) mo_second_w2 mo_second_w3 mo_second_w4 mo_second_w5 mo_second_w6 rfl (by decide)
theorem mo_isLess_w2 : Cond.static mo_isLess_y ∈ sl_T0 := sl_in1 1294 (by decide +kernel) rfl
theorem mo_isLess_w4 : Cond.initialized mo_isLess_y.cls ∈ sl_T0 := sl_in1 98 (by decide +kernel) rfl
theorem mo_isLess_w5 : Cond.code mo_isLess_y prog_14_method_14_code 6 (some .boolean) ∈ sl_T0 := sl_in1 1295 (by decide +kernel) rfl
theorem mo_isLess_w6 : mo_isLess_y.cls ≠ "java/lang/invoke/MethodHandle" ∧ mo_isLess_y.cls ≠ "java/lang/invoke/VarHandle" ∧ (parseMethodDescriptor mo_isLess_y.desc).map (fun d => d.parameters.length) = some 6 := by decide +kernel
theorem cs_mo_150 (g : sl_G) {hh : Nat} (h : 1 ≤ hh) : sl_CallS g sl_R12 150 1 0 hh 6 mo_isLess_pt := sl_callS (y := mo_isLess_y) (mo_isLess_snd g) h (by decide) (sl_in1 1293 (by decide +kernel) rfl) mo_isLess_w2 mo_isLess_w4 mo_isLess_w5 mo_isLess_w6
def mo_isAhead_ct : List sl_Ct := [(3, 0, 12, mo_first_pt), (3, 0, 12, mo_second_pt), (6, 1, 0, mo_isLess_pt)]
theorem mo_isAhead_hc (g : sl_G) : sl_HC g sl_R12 2 mo_isAhead_ct [(143, 0), (147, 0), (150, 1)] := sl_HC_cons (cs_mo_143 g (by decide)) (sl_HC_cons (cs_mo_147 g (by decide)) (sl_HC_cons (cs_mo_150 g (by decide)) (sl_HC_nil g sl_R12 2)))
set_option maxRecDepth 20000 in
set_option maxHeartbeats 4000000 in
theorem mo_isAhead_snd (g : sl_G) : sl_Snd g mo_isAhead_y prog_14_method_17_code 4 (some .boolean) 2 (mo_isAhead_pt) := by
  intro As μ Q hw h
  unfold mo_isAhead_pt at h
  split at h
  next c0 a0 a1 a2 a3 =>
    split at h
    next e_ =>
      subst e_
      split at h
      next e_ =>
        subst e_
        refine sl_mk2 g [true, true, true, true] (cst := [some (.inr (.inr (some (12, 104)))), some (.inl a1), some (.inl a2), some (.inl a3)]) (lv0 := [none, none, none, none]) (by decide) rfl hw rfl rfl rfl lk_mo_ok (mo_isAhead_hc g) mo_isAhead_tb rfl ?_
        intro X M
        exact ⟨_, sl_VV0, h⟩
      next => exact h.elim
    next => exact h.elim
  next => exact h.elim
def mo_aheadOf_L5 (a1 : Int32) (a2 : Int32) (Q : Int32 → sl_M → Prop) : Nat → Int32 → Int32 → sl_M → Prop
  | 0, _, _, _ => False
  | n + 1, x3, x4, μ => (x4 < (30 : Int32) → vp_in x4 30 ∧ ((μ 108 x4.toNatClampNeg) = (1 : Int32) → mo_isAhead a1 x4 a2 μ (fun r2 m1 => (r2 = (0 : Int32) → ∀ v3, v3 = (x3 + (0 : Int32)) → (mo_aheadOf_L5 a1 a2 Q n) v3 (x4 + (1 : Int32)) m1) ∧ (¬ r2 = (0 : Int32) → ∀ v4, v4 = (x3 + (1 : Int32)) → (mo_aheadOf_L5 a1 a2 Q n) v4 (x4 + (1 : Int32)) m1))) ∧ (¬ (μ 108 x4.toNatClampNeg) = (1 : Int32) → ∀ v5, v5 = (x3 + (0 : Int32)) → (mo_aheadOf_L5 a1 a2 Q n) v5 (x4 + (1 : Int32)) μ)) ∧ (¬ x4 < (30 : Int32) → Q x3 μ)
def mo_aheadOf (a1 : Int32) (a2 : Int32) (μ : sl_M) (Q : Int32 → sl_M → Prop) : Prop := ∃ n6, mo_aheadOf_L5 a1 a2 Q n6 (0 : Int32) (0 : Int32) μ
def mo_aheadOf_pt : sl_PT := fun As μ Q => match As with
  | [.inr (.inr (some (c0, a0))), .inl a1, .inl a2] => if c0 = 12 then (if a0 = 104 then (mo_aheadOf a1 a2 μ (fun r μ' => Q (some (.inl r)) μ')) else False) else False
  | _ => False
def mo_aheadOf_cd : List sl_Ent := [(0, .iconst 0, 1, 0, [], [], false), (1, .istore_n 3, 1, 0, [3], [], false), (2, .iconst 0, 1, 0, [], [], false), (3, .istore 4, 2, 0, [4], [], false), (5, .iload 4, 2, 0, [4], [], true), (7, .bipush 30, 2, 30, [], [], false), (9, .if_icmp .ge 39, 3, 0, [48], [], false), (12, .iload_n 3, 1, 0, [3], [], false), (13, .aload_n 0, 1, 0, [0], [], false), (14, .getfield 19, 3, 0, [12, 3, 2, 20, 4], [], false), (17, .iload 4, 2, 0, [4], [], false), (19, .iaload, 1, 0, [], [], false), (20, .iconst 1, 1, 1, [], [], false), (21, .if_icmp .ne 18, 3, 0, [39], [], false), (24, .aload_n 0, 1, 0, [0], [], false), (25, .iload_n 1, 1, 0, [1], [], false), (26, .iload 4, 2, 0, [4], [], false), (28, .iload_n 2, 1, 0, [2], [], false), (29, .invokevirtual 154, 3, 0, [0], [], false), (32, .ifCond .eq 7, 3, 0, [39], [], false), (35, .iconst 1, 1, 1, [], [], false), (36, .goto 4, 3, 0, [40], [], false), (39, .iconst 0, 1, 0, [], [], false), (40, .iadd, 1, 0, [], [], false), (41, .istore_n 3, 1, 0, [3, 1], [], false), (42, .iinc 4 1, 3, 1, [], [], false), (45, .goto (-40), 3, 0, [5], [], false), (48, .iload_n 3, 1, 0, [3], [], false), (49, .ireturn, 1, 0, [], [], false)]
def mo_aheadOf_y : MethodName := ⟨"SpanLayersModel", "aheadOf", "(II)I"⟩
theorem mo_aheadOf_tb : sl_tbOK sl_R12 prog_14_method_18_code 5 (some .int) lk_mo [(154, 0)] mo_aheadOf_cd = true := by decide +kernel
theorem mo_isAhead_w2 : Cond.instanceMethod mo_isAhead_y ∈ sl_T0 := sl_in1 1277 (by decide +kernel) rfl
theorem mo_isAhead_w3 : Cond.selects mo_isAhead_y.cls mo_isAhead_y mo_isAhead_y ∈ sl_T0 := sl_in1 35 (by decide +kernel) rfl
theorem mo_isAhead_w4 : Cond.initialized mo_isAhead_y.cls ∈ sl_T0 := sl_in1 98 (by decide +kernel) rfl
theorem mo_isAhead_w5 : Cond.code mo_isAhead_y prog_14_method_17_code 4 (some .boolean) ∈ sl_T0 := sl_in1 1278 (by decide +kernel) rfl
theorem mo_isAhead_w6 : mo_isAhead_y.cls ≠ "java/lang/invoke/MethodHandle" ∧ mo_isAhead_y.cls ≠ "java/lang/invoke/VarHandle" ∧ (parseMethodDescriptor mo_isAhead_y.desc).map (fun d => d.parameters.length) = some 3 := by decide +kernel
theorem cs_mo_154 (g : sl_G) {hh : Nat} (h : 3 ≤ hh) : sl_CallS g sl_R12 154 0 12 hh 4 mo_isAhead_pt := sl_callV (y := mo_isAhead_y) (T := sl_F12) (N := 50) (mo_isAhead_snd g) h (by decide) (sl_in1 1275 (by decide +kernel) rfl) mo_isAhead_w2 mo_isAhead_w3 mo_isAhead_w4 mo_isAhead_w5 mo_isAhead_w6 rfl (by decide)
def mo_aheadOf_ct : List sl_Ct := [(4, 0, 12, mo_isAhead_pt)]
theorem mo_aheadOf_hc (g : sl_G) : sl_HC g sl_R12 3 mo_aheadOf_ct [(154, 0)] := sl_HC_cons (cs_mo_154 g (by decide)) (sl_HC_nil g sl_R12 3)
set_option maxRecDepth 20000 in
set_option maxHeartbeats 4000000 in
theorem mo_aheadOf_snd (g : sl_G) : sl_Snd g mo_aheadOf_y prog_14_method_18_code 5 (some .int) 3 (mo_aheadOf_pt) := by
  intro As μ Q hw h
  unfold mo_aheadOf_pt at h
  split at h
  next c0 a0 a1 a2 =>
    split at h
    next e_ =>
      subst e_
      split at h
      next e_ =>
        subst e_
        refine sl_mk2 g [true, true, true, false, false] (cst := [some (.inr (.inr (some (12, 104)))), some (.inl a1), some (.inl a2)]) (lv0 := [none, none, none, none, none]) (by decide) rfl hw rfl rfl rfl lk_mo_ok (mo_aheadOf_hc g) mo_aheadOf_tb rfl ?_
        intro X M
        have v5 := sl_extL M sl_VV0 5 (fun n lv st μ => match lv, st with | [_, _, _, some (.inl x3), some (.inl x4)], [] => mo_aheadOf_L5 a1 a2 (fun r μ' => Q (some (.inl r)) μ') n x3 x4 μ | _, _ => False) (by
            intro lv st μ h
            split at h
            · exact h
            · exact h) (by
            intro n5 w5
            refine ⟨_, w5, ?_⟩
            intro lv st μ h
            split at h
            · exact h
            · exact h.elim)
        exact ⟨_, v5, h⟩
      next => exact h.elim
    next => exact h.elim
  next => exact h.elim
def mo_layOrder_L6 (a1 : Int32) (Q : sl_M → Prop) : Nat → Int32 → sl_M → Prop
  | 0, _, _ => False
  | n + 1, x2, μ => (x2 < (30 : Int32) → vp_in x2 30 ∧ ((μ 108 x2.toNatClampNeg) = (1 : Int32) → mo_aheadOf a1 x2 μ (fun r2 m1 => vp_in r2 30 ∧ ∀ m3, m3 = sl_up m1 110 r2.toNatClampNeg x2 → (mo_layOrder_L6 a1 Q n) (x2 + (1 : Int32)) m3)) ∧ (¬ (μ 108 x2.toNatClampNeg) = (1 : Int32) → (mo_layOrder_L6 a1 Q n) (x2 + (1 : Int32)) μ)) ∧ (¬ x2 < (30 : Int32) → Q μ)
def mo_layOrder (a1 : Int32) (μ : sl_M) (Q : sl_M → Prop) : Prop := mo_layLayers μ (fun m4 => ∃ n5, mo_layOrder_L6 a1 Q n5 (0 : Int32) m4)
def mo_layOrder_pt : sl_PT := fun As μ Q => match As with
  | [.inr (.inr (some (c0, a0))), .inl a1] => if c0 = 12 then (if a0 = 104 then (mo_layOrder a1 μ (fun μ' => Q none μ')) else False) else False
  | _ => False
def mo_layOrder_cd : List sl_Ent := [(0, .aload_n 0, 1, 0, [0], [], false), (1, .invokevirtual 158, 3, 0, [0], [], false), (4, .iconst 0, 1, 0, [], [], false), (5, .istore_n 2, 1, 0, [2], [], false), (6, .iload_n 2, 1, 0, [2], [], true), (7, .bipush 30, 2, 30, [], [], false), (9, .if_icmp .ge 31, 3, 0, [40], [], false), (12, .aload_n 0, 1, 0, [0], [], false), (13, .getfield 19, 3, 0, [12, 3, 2, 20, 4], [], false), (16, .iload_n 2, 1, 0, [2], [], false), (17, .iaload, 1, 0, [], [], false), (18, .iconst 1, 1, 1, [], [], false), (19, .if_icmp .ne 15, 3, 0, [34], [], false), (22, .aload_n 0, 1, 0, [0], [], false), (23, .getfield 25, 3, 0, [12, 6, 2, 20, 6], [], false), (26, .aload_n 0, 1, 0, [0], [], false), (27, .iload_n 1, 1, 0, [1], [], false), (28, .iload_n 2, 1, 0, [2], [], false), (29, .invokevirtual 161, 3, 0, [1], [], false), (32, .iload_n 2, 1, 0, [2], [], false), (33, .iastore, 1, 0, [], [], false), (34, .iinc 2 1, 3, 1, [], [], false), (37, .goto (-31), 3, 0, [6], [], false), (40, .return_, 1, 0, [], [], false)]
def mo_layOrder_y : MethodName := ⟨"SpanLayersModel", "layOrder", "(I)V"⟩
theorem mo_layOrder_tb : sl_tbOK sl_R12 prog_14_method_19_code 3 none lk_mo [(158, 0), (161, 0)] mo_layOrder_cd = true := by decide +kernel
theorem mo_layLayers_w2 : Cond.instanceMethod mo_layLayers_y ∈ sl_T0 := sl_in1 1225 (by decide +kernel) rfl
theorem mo_layLayers_w3 : Cond.selects mo_layLayers_y.cls mo_layLayers_y mo_layLayers_y ∈ sl_T0 := sl_in1 25 (by decide +kernel) rfl
theorem mo_layLayers_w4 : Cond.initialized mo_layLayers_y.cls ∈ sl_T0 := sl_in1 98 (by decide +kernel) rfl
theorem mo_layLayers_w5 : Cond.code mo_layLayers_y prog_14_method_11_code 4 none ∈ sl_T0 := sl_in1 1226 (by decide +kernel) rfl
theorem mo_layLayers_w6 : mo_layLayers_y.cls ≠ "java/lang/invoke/MethodHandle" ∧ mo_layLayers_y.cls ≠ "java/lang/invoke/VarHandle" ∧ (parseMethodDescriptor mo_layLayers_y.desc).map (fun d => d.parameters.length) = some 0 := by decide +kernel
theorem cs_mo_158 (g : sl_G) {hh : Nat} (h : 3 ≤ hh) : sl_CallS g sl_R12 158 0 12 hh 1 mo_layLayers_pt := sl_callV (y := mo_layLayers_y) (T := sl_F12) (N := 50) (mo_layLayers_snd g) h (by decide) (sl_in1 1223 (by decide +kernel) rfl) mo_layLayers_w2 mo_layLayers_w3 mo_layLayers_w4 mo_layLayers_w5 mo_layLayers_w6 rfl (by decide)
theorem mo_aheadOf_w2 : Cond.instanceMethod mo_aheadOf_y ∈ sl_T0 := sl_in1 1273 (by decide +kernel) rfl
theorem mo_aheadOf_w3 : Cond.selects mo_aheadOf_y.cls mo_aheadOf_y mo_aheadOf_y ∈ sl_T0 := sl_in1 34 (by decide +kernel) rfl
theorem mo_aheadOf_w4 : Cond.initialized mo_aheadOf_y.cls ∈ sl_T0 := sl_in1 98 (by decide +kernel) rfl
theorem mo_aheadOf_w5 : Cond.code mo_aheadOf_y prog_14_method_18_code 5 (some .int) ∈ sl_T0 := sl_in1 1274 (by decide +kernel) rfl
theorem mo_aheadOf_w6 : mo_aheadOf_y.cls ≠ "java/lang/invoke/MethodHandle" ∧ mo_aheadOf_y.cls ≠ "java/lang/invoke/VarHandle" ∧ (parseMethodDescriptor mo_aheadOf_y.desc).map (fun d => d.parameters.length) = some 2 := by decide +kernel
theorem cs_mo_161 (g : sl_G) {hh : Nat} (h : 4 ≤ hh) : sl_CallS g sl_R12 161 0 12 hh 3 mo_aheadOf_pt := sl_callV (y := mo_aheadOf_y) (T := sl_F12) (N := 50) (mo_aheadOf_snd g) h (by decide) (sl_in1 1271 (by decide +kernel) rfl) mo_aheadOf_w2 mo_aheadOf_w3 mo_aheadOf_w4 mo_aheadOf_w5 mo_aheadOf_w6 rfl (by decide)
def mo_layOrder_ct : List sl_Ct := [(1, 0, 12, mo_layLayers_pt), (3, 0, 12, mo_aheadOf_pt)]
theorem mo_layOrder_hc (g : sl_G) : sl_HC g sl_R12 4 mo_layOrder_ct [(158, 0), (161, 0)] := sl_HC_cons (cs_mo_158 g (by decide)) (sl_HC_cons (cs_mo_161 g (by decide)) (sl_HC_nil g sl_R12 4))
set_option maxRecDepth 20000 in
set_option maxHeartbeats 4000000 in
theorem mo_layOrder_snd (g : sl_G) : sl_Snd g mo_layOrder_y prog_14_method_19_code 3 none 4 (mo_layOrder_pt) := by
  intro As μ Q hw h
  unfold mo_layOrder_pt at h
  split at h
  next c0 a0 a1 =>
    split at h
    next e_ =>
      subst e_
      split at h
      next e_ =>
        subst e_
        refine sl_mk2 g [true, true, false] (cst := [some (.inr (.inr (some (12, 104)))), some (.inl a1)]) (lv0 := [none, none, none]) (by decide) rfl hw rfl rfl rfl lk_mo_ok (mo_layOrder_hc g) mo_layOrder_tb rfl ?_
        intro X M
        have v6 := sl_extL M sl_VV0 6 (fun n lv st μ => match lv, st with | [_, _, some (.inl x2)], [] => mo_layOrder_L6 a1 (fun μ' => Q none μ') n x2 μ | _, _ => False) (by
            intro lv st μ h
            split at h
            · exact h
            · exact h) (by
            intro n6 w6
            refine ⟨_, w6, ?_⟩
            intro lv st μ h
            split at h
            · exact h
            · exact h.elim)
        exact ⟨_, v6, h⟩
      next => exact h.elim
    next => exact h.elim
  next => exact h.elim
def mo_manyIn_L4 (Q : Int32 → sl_M → Prop) : Nat → Int32 → Int32 → sl_M → Prop
  | 0, _, _, _ => False
  | n + 1, x1, x2, μ => (x2 < (30 : Int32) → vp_in x2 30 ∧ ∀ v1, v1 = (x1 + (μ 108 x2.toNatClampNeg)) → (mo_manyIn_L4 Q n) v1 (x2 + (1 : Int32)) μ) ∧ (¬ x2 < (30 : Int32) → Q x1 μ)
def mo_manyIn (μ : sl_M) (Q : Int32 → sl_M → Prop) : Prop := ∃ n2, mo_manyIn_L4 Q n2 (0 : Int32) (0 : Int32) μ
def mo_manyIn_pt : sl_PT := fun As μ Q => match As with
  | [.inr (.inr (some (c0, a0)))] => if c0 = 12 then (if a0 = 104 then (mo_manyIn μ (fun r μ' => Q (some (.inl r)) μ')) else False) else False
  | _ => False
def mo_manyIn_cd : List sl_Ent := [(0, .iconst 0, 1, 0, [], [], false), (1, .istore_n 1, 1, 0, [1], [], false), (2, .iconst 0, 1, 0, [], [], false), (3, .istore_n 2, 1, 0, [2], [], false), (4, .iload_n 2, 1, 0, [2], [], true), (5, .bipush 30, 2, 30, [], [], false), (7, .if_icmp .ge 18, 3, 0, [25], [], false), (10, .iload_n 1, 1, 0, [1], [], false), (11, .aload_n 0, 1, 0, [0], [], false), (12, .getfield 19, 3, 0, [12, 3, 2, 20, 4], [], false), (15, .iload_n 2, 1, 0, [2], [], false), (16, .iaload, 1, 0, [], [], false), (17, .iadd, 1, 0, [], [], false), (18, .istore_n 1, 1, 0, [1, 1], [], false), (19, .iinc 2 1, 3, 1, [], [], false), (22, .goto (-18), 3, 0, [4], [], false), (25, .iload_n 1, 1, 0, [1], [], false), (26, .ireturn, 1, 0, [], [], false)]
def mo_manyIn_y : MethodName := ⟨"SpanLayersModel", "manyIn", "()I"⟩
theorem mo_manyIn_tb : sl_tbOK sl_R12 prog_14_method_6_code 3 (some .int) lk_mo [] mo_manyIn_cd = true := by decide +kernel
def mo_manyIn_ct : List sl_Ct := []
theorem mo_manyIn_hc (g : sl_G) : sl_HC g sl_R12 0 mo_manyIn_ct [] := sl_HC_nil g sl_R12 0
set_option maxRecDepth 20000 in
set_option maxHeartbeats 4000000 in
theorem mo_manyIn_snd (g : sl_G) : sl_Snd g mo_manyIn_y prog_14_method_6_code 3 (some .int) 0 (mo_manyIn_pt) := by
  intro As μ Q hw h
  unfold mo_manyIn_pt at h
  split at h
  next c0 a0 =>
    split at h
    next e_ =>
      subst e_
      split at h
      next e_ =>
        subst e_
        refine sl_mk2 g [true, false, false] (cst := [some (.inr (.inr (some (12, 104))))]) (lv0 := [none, none, none]) (by decide) rfl hw rfl rfl rfl lk_mo_ok (mo_manyIn_hc g) mo_manyIn_tb rfl ?_
        intro X M
        have v4 := sl_extL M sl_VV0 4 (fun n lv st μ => match lv, st with | [_, some (.inl x1), some (.inl x2)], [] => mo_manyIn_L4 (fun r μ' => Q (some (.inl r)) μ') n x1 x2 μ | _, _ => False) (by
            intro lv st μ h
            split at h
            · exact h
            · exact h) (by
            intro n4 w4
            refine ⟨_, w4, ?_⟩
            intro lv st μ h
            split at h
            · exact h
            · exact h.elim)
        exact ⟨_, v4, h⟩
      next => exact h.elim
    next => exact h.elim
  next => exact h.elim
def mo_has (a1 : Int32) (a2 : Int32) (μ : sl_M) (Q : Int32 → sl_M → Prop) : Prop := vp_in a1 30 ∧ ((μ 108 a1.toNatClampNeg) = (1 : Int32) → vp_in a1 30 ∧ vp_in a1 30 ∧ mo_in a2.toInt64 ((μ 105 a1.toNatClampNeg).toInt64) ((μ 106 a1.toNatClampNeg).toInt64) μ (fun r2 m1 => (r2 = (0 : Int32) → sl_bz (0 : Int32) = (0 : Int32) ∧ Q (0 : Int32) m1) ∧ (¬ r2 = (0 : Int32) → sl_bz (1 : Int32) = (1 : Int32) ∧ Q (1 : Int32) m1))) ∧ (¬ (μ 108 a1.toNatClampNeg) = (1 : Int32) → sl_bz (0 : Int32) = (0 : Int32) ∧ Q (0 : Int32) μ)
def mo_has_pt : sl_PT := fun As μ Q => match As with
  | [.inr (.inr (some (c0, a0))), .inl a1, .inl a2] => if c0 = 12 then (if a0 = 104 then (mo_has a1 a2 μ (fun r μ' => Q (some (.inl r)) μ')) else False) else False
  | _ => False
def mo_has_cd : List sl_Ent := [(0, .aload_n 0, 1, 0, [0], [], false), (1, .getfield 19, 3, 0, [12, 3, 2, 20, 4], [], false), (4, .iload_n 1, 1, 0, [1], [], false), (5, .iaload, 1, 0, [], [], false), (6, .iconst 1, 1, 1, [], [], false), (7, .if_icmp .ne 29, 3, 0, [36], [], false), (10, .iload_n 2, 1, 0, [2], [], false), (11, .i2l, 1, 0, [], [], false), (12, .aload_n 0, 1, 0, [0], [], false), (13, .getfield 7, 3, 0, [12, 0, 2, 20, 1], [], false), (16, .iload_n 1, 1, 0, [1], [], false), (17, .iaload, 1, 0, [], [], false), (18, .i2l, 1, 0, [], [], false), (19, .aload_n 0, 1, 0, [0], [], false), (20, .getfield 13, 3, 0, [12, 1, 2, 20, 2], [], false), (23, .iload_n 1, 1, 0, [1], [], false), (24, .iaload, 1, 0, [], [], false), (25, .i2l, 1, 0, [], [], false), (26, .invokestatic 119, 3, 0, [0], [], false), (29, .ifCond .eq 7, 3, 0, [36], [], false), (32, .iconst 1, 1, 1, [], [], false), (33, .goto 4, 3, 0, [37], [], false), (36, .iconst 0, 1, 0, [], [], false), (37, .ireturn, 1, 0, [1], [], false)]
def mo_has_y : MethodName := ⟨"SpanLayersModel", "has", "(II)Z"⟩
theorem mo_has_tb : sl_tbOK sl_R12 prog_14_method_8_code 3 (some .boolean) lk_mo [(119, 1)] mo_has_cd = true := by decide +kernel
theorem mo_in_w2 : Cond.static mo_in_y ∈ sl_T0 := sl_in1 1186 (by decide +kernel) rfl
theorem mo_in_w4 : Cond.initialized mo_in_y.cls ∈ sl_T0 := sl_in1 98 (by decide +kernel) rfl
theorem mo_in_w5 : Cond.code mo_in_y prog_14_method_3_code 6 (some .boolean) ∈ sl_T0 := sl_in1 1187 (by decide +kernel) rfl
theorem mo_in_w6 : mo_in_y.cls ≠ "java/lang/invoke/MethodHandle" ∧ mo_in_y.cls ≠ "java/lang/invoke/VarHandle" ∧ (parseMethodDescriptor mo_in_y.desc).map (fun d => d.parameters.length) = some 3 := by decide +kernel
theorem cs_mo_119 (g : sl_G) {hh : Nat} (h : 1 ≤ hh) : sl_CallS g sl_R12 119 1 0 hh 3 mo_in_pt := sl_callS (y := mo_in_y) (mo_in_snd g) h (by decide) (sl_in1 1185 (by decide +kernel) rfl) mo_in_w2 mo_in_w4 mo_in_w5 mo_in_w6
def mo_has_ct : List sl_Ct := [(3, 1, 0, mo_in_pt)]
theorem mo_has_hc (g : sl_G) : sl_HC g sl_R12 1 mo_has_ct [(119, 1)] := sl_HC_cons (cs_mo_119 g (by decide)) (sl_HC_nil g sl_R12 1)
set_option maxRecDepth 20000 in
set_option maxHeartbeats 4000000 in
theorem mo_has_snd (g : sl_G) : sl_Snd g mo_has_y prog_14_method_8_code 3 (some .boolean) 1 (mo_has_pt) := by
  intro As μ Q hw h
  unfold mo_has_pt at h
  split at h
  next c0 a0 a1 a2 =>
    split at h
    next e_ =>
      subst e_
      split at h
      next e_ =>
        subst e_
        refine sl_mk2 g [true, true, true] (cst := [some (.inr (.inr (some (12, 104)))), some (.inl a1), some (.inl a2)]) (lv0 := [none, none, none]) (by decide) rfl hw rfl rfl rfl lk_mo_ok (mo_has_hc g) mo_has_tb rfl ?_
        intro X M
        exact ⟨_, sl_VV0, h⟩
      next => exact h.elim
    next => exact h.elim
  next => exact h.elim
def mo_stabbed_L42 (a1 : Int32) (a2 : Int32) (a3 : Int32) (Q : Int32 → sl_M → Prop) : Nat → Int32 → Int32 → sl_M → Prop
  | 0, _, _, _ => False
  | n + 1, x4, x5, μ => mo_manyIn μ (fun r2 m1 => (x5 < r2 → vp_in x5 30 ∧ ∀ v3, v3 = (m1 110 x5.toNatClampNeg) → mo_has v3 a1 m1 (fun r5 m4 => (r5 = (0 : Int32) → (mo_stabbed_L42 a1 a2 a3 Q n) x4 (x5 + (1 : Int32)) m4) ∧ (¬ r5 = (0 : Int32) → (a2 = (-1 : Int32) → (x4 = (0 : Int32) → Q v3 m4) ∧ (¬ x4 = (0 : Int32) → (mo_stabbed_L42 a1 a2 a3 Q n) (x4 + (-1 : Int32)) (x5 + (1 : Int32)) m4)) ∧ (¬ a2 = (-1 : Int32) → vp_in v3 30 ∧ ((m4 109 v3.toNatClampNeg) = a2 → (x4 = (0 : Int32) → Q v3 m4) ∧ (¬ x4 = (0 : Int32) → (mo_stabbed_L42 a1 a2 a3 Q n) (x4 + (-1 : Int32)) (x5 + (1 : Int32)) m4)) ∧ (¬ (m4 109 v3.toNatClampNeg) = a2 → (mo_stabbed_L42 a1 a2 a3 Q n) x4 (x5 + (1 : Int32)) m4))))) ∧ (¬ x5 < r2 → Q (-5 : Int32) m1))
def mo_stabbed (a1 : Int32) (a2 : Int32) (a3 : Int32) (μ : sl_M) (Q : Int32 → sl_M → Prop) : Prop := ∀ m6, m6 = sl_up μ 104 5 (0 : Int32) → mo_in a1.toInt64 ((0 : Int32).toInt64) ((999 : Int32).toInt64) m6 (fun r8 m7 => (r8 = (0 : Int32) → Q (-2 : Int32) m7) ∧ (¬ r8 = (0 : Int32) → (a2 < (-1 : Int32) → Q (-1 : Int32) m7) ∧ (¬ a2 < (-1 : Int32) → (a3 < (0 : Int32) → Q (-1 : Int32) m7) ∧ (¬ a3 < (0 : Int32) → mo_layOrder (0 : Int32) m7 (fun m9 => ∃ n10, mo_stabbed_L42 a1 a2 a3 Q n10 a3 (0 : Int32) m9)))))
def mo_stabbed_pt : sl_PT := fun As μ Q => match As with
  | [.inr (.inr (some (c0, a0))), .inl a1, .inl a2, .inl a3] => if c0 = 12 then (if a0 = 104 then (mo_stabbed a1 a2 a3 μ (fun r μ' => Q (some (.inl r)) μ')) else False) else False
  | _ => False
def mo_stabbed_cd : List sl_Ent := [(0, .aload_n 0, 1, 0, [0], [], false), (1, .iconst 0, 1, 0, [], [], false), (2, .putfield 113, 3, 0, [12, 5, 0], [], false), (5, .iload_n 1, 1, 0, [1], [], false), (6, .i2l, 1, 0, [], [], false), (7, .lconst 0, 1, 0, [], [], false), (8, .ldc2_w 164, 3, 999, [], [], false), (11, .invokestatic 119, 3, 0, [0], [], false), (14, .ifCond .ne 6, 3, 0, [20], [], false), (17, .bipush (-2), 2, (-2), [], [], false), (19, .ireturn, 1, 0, [], [], false), (20, .iload_n 2, 1, 0, [2], [], false), (21, .iconst (-1), 1, (-1), [], [], false), (22, .if_icmp .lt 7, 3, 0, [29], [], false), (25, .iload_n 3, 1, 0, [3], [], false), (26, .ifCond .ge 5, 3, 0, [31], [], false), (29, .iconst (-1), 1, (-1), [], [], false), (30, .ireturn, 1, 0, [], [], false), (31, .aload_n 0, 1, 0, [0], [], false), (32, .iconst 0, 1, 0, [], [], false), (33, .invokevirtual 204, 3, 0, [1], [], false), (36, .iload_n 3, 1, 0, [3], [], false), (37, .istore 4, 2, 0, [4], [], false), (39, .iconst 0, 1, 0, [], [], false), (40, .istore 5, 2, 0, [5], [], false), (42, .iload 5, 2, 0, [5], [], true), (44, .aload_n 0, 1, 0, [0], [], false), (45, .invokevirtual 184, 3, 0, [2], [], false), (48, .if_icmp .ge 55, 3, 0, [103], [], false), (51, .aload_n 0, 1, 0, [0], [], false), (52, .getfield 25, 3, 0, [12, 6, 2, 20, 6], [], false), (55, .iload 5, 2, 0, [5], [], false), (57, .iaload, 1, 0, [], [], false), (58, .istore 6, 2, 0, [6, 1], [], false), (60, .aload_n 0, 1, 0, [0], [], false), (61, .iload 6, 2, 0, [6], [], false), (63, .iload_n 1, 1, 0, [1], [], false), (64, .invokevirtual 208, 3, 0, [3], [], false), (67, .ifCond .eq 30, 3, 0, [97], [], false), (70, .iload_n 2, 1, 0, [2], [], false), (71, .iconst (-1), 1, (-1), [], [], false), (72, .if_icmp .eq 14, 3, 0, [86], [], false), (75, .aload_n 0, 1, 0, [0], [], false), (76, .getfield 22, 3, 0, [12, 4, 2, 20, 5], [], false), (79, .iload 6, 2, 0, [6], [], false), (81, .iaload, 1, 0, [], [], false), (82, .iload_n 2, 1, 0, [2], [], false), (83, .if_icmp .ne 14, 3, 0, [97], [], false), (86, .iload 4, 2, 0, [4], [], false), (88, .ifCond .ne 6, 3, 0, [94], [], false), (91, .iload 6, 2, 0, [6], [], false), (93, .ireturn, 1, 0, [], [], false), (94, .iinc 4 (-1), 3, (-1), [], [], false), (97, .iinc 5 1, 3, 1, [], [], false), (100, .goto (-58), 3, 0, [42], [], false), (103, .bipush (-5), 2, (-5), [], [], false), (105, .ireturn, 1, 0, [], [], false)]
def mo_stabbed_y : MethodName := ⟨"SpanLayersModel", "stabbed", "(III)I"⟩
theorem mo_stabbed_tb : sl_tbOK sl_R12 prog_14_method_33_code 7 (some .int) lk_mo [(119, 1), (204, 0), (184, 0), (208, 0)] mo_stabbed_cd = true := by decide +kernel
theorem mo_layOrder_w2 : Cond.instanceMethod mo_layOrder_y ∈ sl_T0 := sl_in1 1269 (by decide +kernel) rfl
theorem mo_layOrder_w3 : Cond.selects mo_layOrder_y.cls mo_layOrder_y mo_layOrder_y ∈ sl_T0 := sl_in1 33 (by decide +kernel) rfl
theorem mo_layOrder_w4 : Cond.initialized mo_layOrder_y.cls ∈ sl_T0 := sl_in1 98 (by decide +kernel) rfl
theorem mo_layOrder_w5 : Cond.code mo_layOrder_y prog_14_method_19_code 3 none ∈ sl_T0 := sl_in1 1270 (by decide +kernel) rfl
theorem mo_layOrder_w6 : mo_layOrder_y.cls ≠ "java/lang/invoke/MethodHandle" ∧ mo_layOrder_y.cls ≠ "java/lang/invoke/VarHandle" ∧ (parseMethodDescriptor mo_layOrder_y.desc).map (fun d => d.parameters.length) = some 1 := by decide +kernel
theorem cs_mo_204 (g : sl_G) {hh : Nat} (h : 5 ≤ hh) : sl_CallS g sl_R12 204 0 12 hh 2 mo_layOrder_pt := sl_callV (y := mo_layOrder_y) (T := sl_F12) (N := 50) (mo_layOrder_snd g) h (by decide) (sl_in1 1267 (by decide +kernel) rfl) mo_layOrder_w2 mo_layOrder_w3 mo_layOrder_w4 mo_layOrder_w5 mo_layOrder_w6 rfl (by decide)
theorem mo_manyIn_w2 : Cond.instanceMethod mo_manyIn_y ∈ sl_T0 := sl_in1 1216 (by decide +kernel) rfl
theorem mo_manyIn_w3 : Cond.selects mo_manyIn_y.cls mo_manyIn_y mo_manyIn_y ∈ sl_T0 := sl_in1 24 (by decide +kernel) rfl
theorem mo_manyIn_w4 : Cond.initialized mo_manyIn_y.cls ∈ sl_T0 := sl_in1 98 (by decide +kernel) rfl
theorem mo_manyIn_w5 : Cond.code mo_manyIn_y prog_14_method_6_code 3 (some .int) ∈ sl_T0 := sl_in1 1217 (by decide +kernel) rfl
theorem mo_manyIn_w6 : mo_manyIn_y.cls ≠ "java/lang/invoke/MethodHandle" ∧ mo_manyIn_y.cls ≠ "java/lang/invoke/VarHandle" ∧ (parseMethodDescriptor mo_manyIn_y.desc).map (fun d => d.parameters.length) = some 0 := by decide +kernel
theorem cs_mo_184 (g : sl_G) {hh : Nat} (h : 1 ≤ hh) : sl_CallS g sl_R12 184 0 12 hh 1 mo_manyIn_pt := sl_callV (y := mo_manyIn_y) (T := sl_F12) (N := 50) (mo_manyIn_snd g) h (by decide) (sl_in1 1214 (by decide +kernel) rfl) mo_manyIn_w2 mo_manyIn_w3 mo_manyIn_w4 mo_manyIn_w5 mo_manyIn_w6 rfl (by decide)
theorem mo_has_w2 : Cond.instanceMethod mo_has_y ∈ sl_T0 := sl_in1 1298 (by decide +kernel) rfl
theorem mo_has_w3 : Cond.selects mo_has_y.cls mo_has_y mo_has_y ∈ sl_T0 := sl_in1 38 (by decide +kernel) rfl
theorem mo_has_w4 : Cond.initialized mo_has_y.cls ∈ sl_T0 := sl_in1 98 (by decide +kernel) rfl
theorem mo_has_w5 : Cond.code mo_has_y prog_14_method_8_code 3 (some .boolean) ∈ sl_T0 := sl_in1 1299 (by decide +kernel) rfl
theorem mo_has_w6 : mo_has_y.cls ≠ "java/lang/invoke/MethodHandle" ∧ mo_has_y.cls ≠ "java/lang/invoke/VarHandle" ∧ (parseMethodDescriptor mo_has_y.desc).map (fun d => d.parameters.length) = some 2 := by decide +kernel
theorem cs_mo_208 (g : sl_G) {hh : Nat} (h : 2 ≤ hh) : sl_CallS g sl_R12 208 0 12 hh 3 mo_has_pt := sl_callV (y := mo_has_y) (T := sl_F12) (N := 50) (mo_has_snd g) h (by decide) (sl_in1 1296 (by decide +kernel) rfl) mo_has_w2 mo_has_w3 mo_has_w4 mo_has_w5 mo_has_w6 rfl (by decide)
def mo_stabbed_ct : List sl_Ct := [(3, 1, 0, mo_in_pt), (2, 0, 12, mo_layOrder_pt), (1, 0, 12, mo_manyIn_pt), (3, 0, 12, mo_has_pt)]
theorem mo_stabbed_hc (g : sl_G) : sl_HC g sl_R12 5 mo_stabbed_ct [(119, 1), (204, 0), (184, 0), (208, 0)] := sl_HC_cons (cs_mo_119 g (by decide)) (sl_HC_cons (cs_mo_204 g (by decide)) (sl_HC_cons (cs_mo_184 g (by decide)) (sl_HC_cons (cs_mo_208 g (by decide)) (sl_HC_nil g sl_R12 5))))
set_option maxRecDepth 20000 in
set_option maxHeartbeats 4000000 in
theorem mo_stabbed_snd (g : sl_G) : sl_Snd g mo_stabbed_y prog_14_method_33_code 7 (some .int) 5 (mo_stabbed_pt) := by
  intro As μ Q hw h
  unfold mo_stabbed_pt at h
  split at h
  next c0 a0 a1 a2 a3 =>
    split at h
    next e_ =>
      subst e_
      split at h
      next e_ =>
        subst e_
        refine sl_mk2 g [true, true, true, true, false, false, false] (cst := [some (.inr (.inr (some (12, 104)))), some (.inl a1), some (.inl a2), some (.inl a3)]) (lv0 := [none, none, none, none, none, none, none]) (by decide) rfl hw rfl rfl rfl lk_mo_ok (mo_stabbed_hc g) mo_stabbed_tb rfl ?_
        intro X M
        have v42 := sl_extL M sl_VV0 42 (fun n lv st μ => match lv, st with | [_, _, _, _, some (.inl x4), some (.inl x5), _], [] => mo_stabbed_L42 a1 a2 a3 (fun r μ' => Q (some (.inl r)) μ') n x4 x5 μ | _, _ => False) (by
            intro lv st μ h
            split at h
            · exact h
            · exact h) (by
            intro n42 w42
            refine ⟨_, w42, ?_⟩
            intro lv st μ h
            split at h
            · exact h
            · exact h.elim)
        exact ⟨_, v42, h⟩
      next => exact h.elim
    next => exact h.elim
  next => exact h.elim
end
