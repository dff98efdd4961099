section
-- ===== PART A: goes FIRST, ahead of the names: the tables' words, and 'selects' of the private methods out of them =====
/-- a private method of a class that the tables say can be made, by its rows of tables_1 -/
def lw_okq (q : MethodName × Nat) : Prop := (q.1.cls ≠ "java/lang/invoke/MethodHandle" ∧ q.1.cls ≠ "java/lang/invoke/VarHandle") ∧ Cond.instantiable q.1.cls q.2 ∈ tables_1 ∧ Cond.privateMethod q.1 ∈ tables_1 ∧ Cond.instanceMethod q.1 ∈ tables_1
theorem lw_p0 : lw_okq (⟨"SpanLayers$Span", "gapByFirst", "(LSpanLayers$Span;I)I"⟩, 6) := ⟨⟨by decide +kernel, by decide +kernel⟩, List.mem_of_getElem? (i := 36) (by decide +kernel), List.mem_of_getElem? (i := 346) (by decide +kernel), List.mem_of_getElem? (i := 347) (by decide +kernel)⟩
theorem lw_p1 : lw_okq (⟨"SpanLayers$Span", "gapBySecond", "(LSpanLayers$Span;I)I"⟩, 6) := ⟨⟨by decide +kernel, by decide +kernel⟩, List.mem_of_getElem? (i := 36) (by decide +kernel), List.mem_of_getElem? (i := 354) (by decide +kernel), List.mem_of_getElem? (i := 355) (by decide +kernel)⟩
theorem lw_p2 : lw_okq (⟨"SpanLayers$Index", "countCovering", "(LSpanLayers$Span;)I"⟩, 2) := ⟨⟨by decide +kernel, by decide +kernel⟩, List.mem_of_getElem? (i := 29) (by decide +kernel), List.mem_of_getElem? (i := 398) (by decide +kernel), List.mem_of_getElem? (i := 399) (by decide +kernel)⟩
theorem lw_p3 : lw_okq (⟨"SpanLayers$Index", "countCovered", "(LSpanLayers$Span;)I"⟩, 2) := ⟨⟨by decide +kernel, by decide +kernel⟩, List.mem_of_getElem? (i := 29) (by decide +kernel), List.mem_of_getElem? (i := 402) (by decide +kernel), List.mem_of_getElem? (i := 403) (by decide +kernel)⟩
theorem lw_p4 : lw_okq (⟨"SpanLayers$Span", "lieAhead", "(LSpanLayers$Span;)I"⟩, 6) := ⟨⟨by decide +kernel, by decide +kernel⟩, List.mem_of_getElem? (i := 36) (by decide +kernel), List.mem_of_getElem? (i := 428) (by decide +kernel), List.mem_of_getElem? (i := 429) (by decide +kernel)⟩
theorem lw_p5 : lw_okq (⟨"SpanLayers", "countOpen", "()I"⟩, 12) := ⟨⟨by decide +kernel, by decide +kernel⟩, List.mem_of_getElem? (i := 21) (by decide +kernel), List.mem_of_getElem? (i := 490) (by decide +kernel), List.mem_of_getElem? (i := 491) (by decide +kernel)⟩
theorem lw_p6 : lw_okq (⟨"SpanLayers$Coverage", "sumOfPieces", "()I"⟩, 4) := ⟨⟨by decide +kernel, by decide +kernel⟩, List.mem_of_getElem? (i := 98) (by decide +kernel), List.mem_of_getElem? (i := 532) (by decide +kernel), List.mem_of_getElem? (i := 533) (by decide +kernel)⟩
theorem lw_p7 : lw_okq (⟨"SpanLayers$Coverage", "sumOfHoles", "()I"⟩, 4) := ⟨⟨by decide +kernel, by decide +kernel⟩, List.mem_of_getElem? (i := 98) (by decide +kernel), List.mem_of_getElem? (i := 540) (by decide +kernel), List.mem_of_getElem? (i := 541) (by decide +kernel)⟩
theorem lw_p8 : lw_okq (⟨"SpanLayers$Coverage", "greatestHole", "()I"⟩, 4) := ⟨⟨by decide +kernel, by decide +kernel⟩, List.mem_of_getElem? (i := 98) (by decide +kernel), List.mem_of_getElem? (i := 544) (by decide +kernel), List.mem_of_getElem? (i := 545) (by decide +kernel)⟩
theorem lw_p9 : lw_okq (⟨"SpanLayers$Index", "higherOf", "(III)I"⟩, 2) := ⟨⟨by decide +kernel, by decide +kernel⟩, List.mem_of_getElem? (i := 29) (by decide +kernel), List.mem_of_getElem? (i := 577) (by decide +kernel), List.mem_of_getElem? (i := 578) (by decide +kernel)⟩
theorem lw_p10 : lw_okq (⟨"SpanLayers$Condition", "readEither", "(LSpanLayers$Tape;LSpanLayers$Index;I)I"⟩, 0) := ⟨⟨by decide +kernel, by decide +kernel⟩, List.mem_of_getElem? (i := 167) (by decide +kernel), List.mem_of_getElem? (i := 647) (by decide +kernel), List.mem_of_getElem? (i := 648) (by decide +kernel)⟩
theorem lw_p11 : lw_okq (⟨"SpanLayers$Condition", "readBoth", "(LSpanLayers$Tape;LSpanLayers$Index;I)I"⟩, 0) := ⟨⟨by decide +kernel, by decide +kernel⟩, List.mem_of_getElem? (i := 167) (by decide +kernel), List.mem_of_getElem? (i := 651) (by decide +kernel), List.mem_of_getElem? (i := 652) (by decide +kernel)⟩
theorem lw_p12 : lw_okq (⟨"SpanLayers$Condition", "readFactor", "(LSpanLayers$Tape;LSpanLayers$Index;I)I"⟩, 0) := ⟨⟨by decide +kernel, by decide +kernel⟩, List.mem_of_getElem? (i := 167) (by decide +kernel), List.mem_of_getElem? (i := 655) (by decide +kernel), List.mem_of_getElem? (i := 656) (by decide +kernel)⟩
theorem lw_p13 : lw_okq (⟨"SpanLayers$Tape", "letter", "()I"⟩, 4) := ⟨⟨by decide +kernel, by decide +kernel⟩, List.mem_of_getElem? (i := 146) (by decide +kernel), List.mem_of_getElem? (i := 663) (by decide +kernel), List.mem_of_getElem? (i := 664) (by decide +kernel)⟩
theorem lw_p14 : lw_okq (⟨"SpanLayers$Condition", "readPlain", "(LSpanLayers$Tape;LSpanLayers$Index;I)I"⟩, 0) := ⟨⟨by decide +kernel, by decide +kernel⟩, List.mem_of_getElem? (i := 167) (by decide +kernel), List.mem_of_getElem? (i := 672) (by decide +kernel), List.mem_of_getElem? (i := 673) (by decide +kernel)⟩
theorem lw_p15 : lw_okq (⟨"SpanLayers$Tape", "isSame", "(ILjava/lang/String;II)Z"⟩, 4) := ⟨⟨by decide +kernel, by decide +kernel⟩, List.mem_of_getElem? (i := 146) (by decide +kernel), List.mem_of_getElem? (i := 741) (by decide +kernel), List.mem_of_getElem? (i := 742) (by decide +kernel)⟩
def lw_privs_1 : List (MethodName × Nat) := [(⟨"SpanLayers$Span", "gapByFirst", "(LSpanLayers$Span;I)I"⟩, 6), (⟨"SpanLayers$Span", "gapBySecond", "(LSpanLayers$Span;I)I"⟩, 6), (⟨"SpanLayers$Index", "countCovering", "(LSpanLayers$Span;)I"⟩, 2), (⟨"SpanLayers$Index", "countCovered", "(LSpanLayers$Span;)I"⟩, 2), (⟨"SpanLayers$Span", "lieAhead", "(LSpanLayers$Span;)I"⟩, 6), (⟨"SpanLayers", "countOpen", "()I"⟩, 12), (⟨"SpanLayers$Coverage", "sumOfPieces", "()I"⟩, 4), (⟨"SpanLayers$Coverage", "sumOfHoles", "()I"⟩, 4), (⟨"SpanLayers$Coverage", "greatestHole", "()I"⟩, 4), (⟨"SpanLayers$Index", "higherOf", "(III)I"⟩, 2), (⟨"SpanLayers$Condition", "readEither", "(LSpanLayers$Tape;LSpanLayers$Index;I)I"⟩, 0), (⟨"SpanLayers$Condition", "readBoth", "(LSpanLayers$Tape;LSpanLayers$Index;I)I"⟩, 0), (⟨"SpanLayers$Condition", "readFactor", "(LSpanLayers$Tape;LSpanLayers$Index;I)I"⟩, 0), (⟨"SpanLayers$Tape", "letter", "()I"⟩, 4), (⟨"SpanLayers$Condition", "readPlain", "(LSpanLayers$Tape;LSpanLayers$Index;I)I"⟩, 0), (⟨"SpanLayers$Tape", "isSame", "(ILjava/lang/String;II)Z"⟩, 4)]
theorem lw_r1 : ∀ q ∈ lw_privs_1, lw_okq q := List.forall_mem_cons.mpr ⟨lw_p0, List.forall_mem_cons.mpr ⟨lw_p1, List.forall_mem_cons.mpr ⟨lw_p2, List.forall_mem_cons.mpr ⟨lw_p3, List.forall_mem_cons.mpr ⟨lw_p4, List.forall_mem_cons.mpr ⟨lw_p5, List.forall_mem_cons.mpr ⟨lw_p6, List.forall_mem_cons.mpr ⟨lw_p7, List.forall_mem_cons.mpr ⟨lw_p8, List.forall_mem_cons.mpr ⟨lw_p9, List.forall_mem_cons.mpr ⟨lw_p10, List.forall_mem_cons.mpr ⟨lw_p11, List.forall_mem_cons.mpr ⟨lw_p12, List.forall_mem_cons.mpr ⟨lw_p13, List.forall_mem_cons.mpr ⟨lw_p14, List.forall_mem_cons.mpr ⟨lw_p15, fun _ h => absurd h List.not_mem_nil⟩⟩⟩⟩⟩⟩⟩⟩⟩⟩⟩⟩⟩⟩⟩⟩
theorem lw_p16 : lw_okq (⟨"SpanLayers$Change", "readStep", "(LSpanLayers$Tape;I)V"⟩, 4) := ⟨⟨by decide +kernel, by decide +kernel⟩, List.mem_of_getElem? (i := 174) (by decide +kernel), List.mem_of_getElem? (i := 785) (by decide +kernel), List.mem_of_getElem? (i := 786) (by decide +kernel)⟩
theorem lw_p17 : lw_okq (⟨"SpanLayers$Change", "changeOne", "(LSpanLayers$Span;)V"⟩, 4) := ⟨⟨by decide +kernel, by decide +kernel⟩, List.mem_of_getElem? (i := 174) (by decide +kernel), List.mem_of_getElem? (i := 805) (by decide +kernel), List.mem_of_getElem? (i := 806) (by decide +kernel)⟩
theorem lw_p18 : lw_okq (⟨"SpanLayers$Paper", "write", "(I)V"⟩, 2) := ⟨⟨by decide +kernel, by decide +kernel⟩, List.mem_of_getElem? (i := 212) (by decide +kernel), List.mem_of_getElem? (i := 852) (by decide +kernel), List.mem_of_getElem? (i := 853) (by decide +kernel)⟩
theorem lw_p19 : lw_okq (⟨"SpanLayers$Paper", "writePart", "(LSpanLayers$Span;)V"⟩, 2) := ⟨⟨by decide +kernel, by decide +kernel⟩, List.mem_of_getElem? (i := 212) (by decide +kernel), List.mem_of_getElem? (i := 856) (by decide +kernel), List.mem_of_getElem? (i := 857) (by decide +kernel)⟩
theorem lw_p20 : lw_okq (⟨"SpanLayers$Paper", "writeNumber", "(I)V"⟩, 2) := ⟨⟨by decide +kernel, by decide +kernel⟩, List.mem_of_getElem? (i := 212) (by decide +kernel), List.mem_of_getElem? (i := 860) (by decide +kernel), List.mem_of_getElem? (i := 861) (by decide +kernel)⟩
theorem lw_p21 : lw_okq (⟨"SpanLayersModel", "leastOut", "()I"⟩, 50) := ⟨⟨by decide +kernel, by decide +kernel⟩, List.mem_of_getElem? (i := 935) (by decide +kernel), List.mem_of_getElem? (i := 1106) (by decide +kernel), List.mem_of_getElem? (i := 1107) (by decide +kernel)⟩
theorem lw_p22 : lw_okq (⟨"SpanLayersModel", "comes", "(IIII)V"⟩, 50) := ⟨⟨by decide +kernel, by decide +kernel⟩, List.mem_of_getElem? (i := 935) (by decide +kernel), List.mem_of_getElem? (i := 1110) (by decide +kernel), List.mem_of_getElem? (i := 1111) (by decide +kernel)⟩
theorem lw_p23 : lw_okq (⟨"SpanLayersModel", "isHere", "(I)Z"⟩, 50) := ⟨⟨by decide +kernel, by decide +kernel⟩, List.mem_of_getElem? (i := 935) (by decide +kernel), List.mem_of_getElem? (i := 1126) (by decide +kernel), List.mem_of_getElem? (i := 1127) (by decide +kernel)⟩
theorem lw_p24 : lw_okq (⟨"SpanLayersModel", "manyIn", "()I"⟩, 50) := ⟨⟨by decide +kernel, by decide +kernel⟩, List.mem_of_getElem? (i := 935) (by decide +kernel), List.mem_of_getElem? (i := 1130) (by decide +kernel), List.mem_of_getElem? (i := 1131) (by decide +kernel)⟩
theorem lw_p25 : lw_okq (⟨"SpanLayersModel", "layLayers", "()V"⟩, 50) := ⟨⟨by decide +kernel, by decide +kernel⟩, List.mem_of_getElem? (i := 935) (by decide +kernel), List.mem_of_getElem? (i := 1139) (by decide +kernel), List.mem_of_getElem? (i := 1140) (by decide +kernel)⟩
theorem lw_p26 : lw_okq (⟨"SpanLayersModel", "covers", "(II)Z"⟩, 50) := ⟨⟨by decide +kernel, by decide +kernel⟩, List.mem_of_getElem? (i := 935) (by decide +kernel), List.mem_of_getElem? (i := 1143) (by decide +kernel), List.mem_of_getElem? (i := 1144) (by decide +kernel)⟩
theorem lw_p27 : lw_okq (⟨"SpanLayersModel", "lengthOf", "(I)I"⟩, 50) := ⟨⟨by decide +kernel, by decide +kernel⟩, List.mem_of_getElem? (i := 935) (by decide +kernel), List.mem_of_getElem? (i := 1147) (by decide +kernel), List.mem_of_getElem? (i := 1148) (by decide +kernel)⟩
theorem lw_p28 : lw_okq (⟨"SpanLayersModel", "countOf", "(II)I"⟩, 50) := ⟨⟨by decide +kernel, by decide +kernel⟩, List.mem_of_getElem? (i := 935) (by decide +kernel), List.mem_of_getElem? (i := 1151) (by decide +kernel), List.mem_of_getElem? (i := 1152) (by decide +kernel)⟩
theorem lw_p29 : lw_okq (⟨"SpanLayersModel", "meets", "(II)Z"⟩, 50) := ⟨⟨by decide +kernel, by decide +kernel⟩, List.mem_of_getElem? (i := 935) (by decide +kernel), List.mem_of_getElem? (i := 1155) (by decide +kernel), List.mem_of_getElem? (i := 1156) (by decide +kernel)⟩
theorem lw_p30 : lw_okq (⟨"SpanLayersModel", "howOf", "(II)I"⟩, 50) := ⟨⟨by decide +kernel, by decide +kernel⟩, List.mem_of_getElem? (i := 935) (by decide +kernel), List.mem_of_getElem? (i := 1163) (by decide +kernel), List.mem_of_getElem? (i := 1164) (by decide +kernel)⟩
theorem lw_p31 : lw_okq (⟨"SpanLayersModel", "plainHow", "(II)I"⟩, 50) := ⟨⟨by decide +kernel, by decide +kernel⟩, List.mem_of_getElem? (i := 935) (by decide +kernel), List.mem_of_getElem? (i := 1167) (by decide +kernel), List.mem_of_getElem? (i := 1168) (by decide +kernel)⟩
def lw_privs_2 : List (MethodName × Nat) := [(⟨"SpanLayers$Change", "readStep", "(LSpanLayers$Tape;I)V"⟩, 4), (⟨"SpanLayers$Change", "changeOne", "(LSpanLayers$Span;)V"⟩, 4), (⟨"SpanLayers$Paper", "write", "(I)V"⟩, 2), (⟨"SpanLayers$Paper", "writePart", "(LSpanLayers$Span;)V"⟩, 2), (⟨"SpanLayers$Paper", "writeNumber", "(I)V"⟩, 2), (⟨"SpanLayersModel", "leastOut", "()I"⟩, 50), (⟨"SpanLayersModel", "comes", "(IIII)V"⟩, 50), (⟨"SpanLayersModel", "isHere", "(I)Z"⟩, 50), (⟨"SpanLayersModel", "manyIn", "()I"⟩, 50), (⟨"SpanLayersModel", "layLayers", "()V"⟩, 50), (⟨"SpanLayersModel", "covers", "(II)Z"⟩, 50), (⟨"SpanLayersModel", "lengthOf", "(I)I"⟩, 50), (⟨"SpanLayersModel", "countOf", "(II)I"⟩, 50), (⟨"SpanLayersModel", "meets", "(II)Z"⟩, 50), (⟨"SpanLayersModel", "howOf", "(II)I"⟩, 50), (⟨"SpanLayersModel", "plainHow", "(II)I"⟩, 50)]
theorem lw_r2 : ∀ q ∈ lw_privs_2, lw_okq q := List.forall_mem_cons.mpr ⟨lw_p16, List.forall_mem_cons.mpr ⟨lw_p17, List.forall_mem_cons.mpr ⟨lw_p18, List.forall_mem_cons.mpr ⟨lw_p19, List.forall_mem_cons.mpr ⟨lw_p20, List.forall_mem_cons.mpr ⟨lw_p21, List.forall_mem_cons.mpr ⟨lw_p22, List.forall_mem_cons.mpr ⟨lw_p23, List.forall_mem_cons.mpr ⟨lw_p24, List.forall_mem_cons.mpr ⟨lw_p25, List.forall_mem_cons.mpr ⟨lw_p26, List.forall_mem_cons.mpr ⟨lw_p27, List.forall_mem_cons.mpr ⟨lw_p28, List.forall_mem_cons.mpr ⟨lw_p29, List.forall_mem_cons.mpr ⟨lw_p30, List.forall_mem_cons.mpr ⟨lw_p31, fun _ h => absurd h List.not_mem_nil⟩⟩⟩⟩⟩⟩⟩⟩⟩⟩⟩⟩⟩⟩⟩⟩
theorem lw_p32 : lw_okq (⟨"SpanLayersModel", "metBits", "(II)I"⟩, 50) := ⟨⟨by decide +kernel, by decide +kernel⟩, List.mem_of_getElem? (i := 935) (by decide +kernel), List.mem_of_getElem? (i := 1175) (by decide +kernel), List.mem_of_getElem? (i := 1176) (by decide +kernel)⟩
theorem lw_p33 : lw_okq (⟨"SpanLayersModel", "layOrder", "(I)V"⟩, 50) := ⟨⟨by decide +kernel, by decide +kernel⟩, List.mem_of_getElem? (i := 935) (by decide +kernel), List.mem_of_getElem? (i := 1183) (by decide +kernel), List.mem_of_getElem? (i := 1184) (by decide +kernel)⟩
theorem lw_p34 : lw_okq (⟨"SpanLayersModel", "aheadOf", "(II)I"⟩, 50) := ⟨⟨by decide +kernel, by decide +kernel⟩, List.mem_of_getElem? (i := 935) (by decide +kernel), List.mem_of_getElem? (i := 1187) (by decide +kernel), List.mem_of_getElem? (i := 1188) (by decide +kernel)⟩
theorem lw_p35 : lw_okq (⟨"SpanLayersModel", "isAhead", "(III)Z"⟩, 50) := ⟨⟨by decide +kernel, by decide +kernel⟩, List.mem_of_getElem? (i := 935) (by decide +kernel), List.mem_of_getElem? (i := 1191) (by decide +kernel), List.mem_of_getElem? (i := 1192) (by decide +kernel)⟩
theorem lw_p36 : lw_okq (⟨"SpanLayersModel", "first", "(II)I"⟩, 50) := ⟨⟨by decide +kernel, by decide +kernel⟩, List.mem_of_getElem? (i := 935) (by decide +kernel), List.mem_of_getElem? (i := 1195) (by decide +kernel), List.mem_of_getElem? (i := 1196) (by decide +kernel)⟩
theorem lw_p37 : lw_okq (⟨"SpanLayersModel", "second", "(II)I"⟩, 50) := ⟨⟨by decide +kernel, by decide +kernel⟩, List.mem_of_getElem? (i := 935) (by decide +kernel), List.mem_of_getElem? (i := 1202) (by decide +kernel), List.mem_of_getElem? (i := 1203) (by decide +kernel)⟩
theorem lw_p38 : lw_okq (⟨"SpanLayersModel", "has", "(II)Z"⟩, 50) := ⟨⟨by decide +kernel, by decide +kernel⟩, List.mem_of_getElem? (i := 935) (by decide +kernel), List.mem_of_getElem? (i := 1212) (by decide +kernel), List.mem_of_getElem? (i := 1213) (by decide +kernel)⟩
theorem lw_p39 : lw_okq (⟨"SpanLayersModel", "isPair", "(III)Z"⟩, 50) := ⟨⟨by decide +kernel, by decide +kernel⟩, List.mem_of_getElem? (i := 935) (by decide +kernel), List.mem_of_getElem? (i := 1225) (by decide +kernel), List.mem_of_getElem? (i := 1226) (by decide +kernel)⟩
theorem lw_p40 : lw_okq (⟨"SpanLayersModel", "opens", "()I"⟩, 50) := ⟨⟨by decide +kernel, by decide +kernel⟩, List.mem_of_getElem? (i := 935) (by decide +kernel), List.mem_of_getElem? (i := 1247) (by decide +kernel), List.mem_of_getElem? (i := 1248) (by decide +kernel)⟩
theorem lw_p41 : lw_okq (⟨"SpanLayersModel", "isBehindTold", "(II)Z"⟩, 50) := ⟨⟨by decide +kernel, by decide +kernel⟩, List.mem_of_getElem? (i := 935) (by decide +kernel), List.mem_of_getElem? (i := 1259) (by decide +kernel), List.mem_of_getElem? (i := 1260) (by decide +kernel)⟩
theorem lw_p42 : lw_okq (⟨"SpanLayersModel", "layRuns", "(Z)V"⟩, 50) := ⟨⟨by decide +kernel, by decide +kernel⟩, List.mem_of_getElem? (i := 935) (by decide +kernel), List.mem_of_getElem? (i := 1271) (by decide +kernel), List.mem_of_getElem? (i := 1272) (by decide +kernel)⟩
theorem lw_p43 : lw_okq (⟨"SpanLayersModel", "layDepths", "()V"⟩, 50) := ⟨⟨by decide +kernel, by decide +kernel⟩, List.mem_of_getElem? (i := 935) (by decide +kernel), List.mem_of_getElem? (i := 1275) (by decide +kernel), List.mem_of_getElem? (i := 1276) (by decide +kernel)⟩
theorem lw_p44 : lw_okq (⟨"SpanLayersModel", "greatestHigh", "()I"⟩, 50) := ⟨⟨by decide +kernel, by decide +kernel⟩, List.mem_of_getElem? (i := 935) (by decide +kernel), List.mem_of_getElem? (i := 1279) (by decide +kernel), List.mem_of_getElem? (i := 1280) (by decide +kernel)⟩
theorem lw_p45 : lw_okq (⟨"SpanLayersModel", "leastLow", "()I"⟩, 50) := ⟨⟨by decide +kernel, by decide +kernel⟩, List.mem_of_getElem? (i := 935) (by decide +kernel), List.mem_of_getElem? (i := 1283) (by decide +kernel), List.mem_of_getElem? (i := 1284) (by decide +kernel)⟩
theorem lw_p46 : lw_okq (⟨"SpanLayersModel", "runPlaces", "()I"⟩, 50) := ⟨⟨by decide +kernel, by decide +kernel⟩, List.mem_of_getElem? (i := 935) (by decide +kernel), List.mem_of_getElem? (i := 1287) (by decide +kernel), List.mem_of_getElem? (i := 1288) (by decide +kernel)⟩
theorem lw_p47 : lw_okq (⟨"SpanLayersModel", "greatestRun", "()I"⟩, 50) := ⟨⟨by decide +kernel, by decide +kernel⟩, List.mem_of_getElem? (i := 935) (by decide +kernel), List.mem_of_getElem? (i := 1291) (by decide +kernel), List.mem_of_getElem? (i := 1292) (by decide +kernel)⟩
def lw_privs_3 : List (MethodName × Nat) := [(⟨"SpanLayersModel", "metBits", "(II)I"⟩, 50), (⟨"SpanLayersModel", "layOrder", "(I)V"⟩, 50), (⟨"SpanLayersModel", "aheadOf", "(II)I"⟩, 50), (⟨"SpanLayersModel", "isAhead", "(III)Z"⟩, 50), (⟨"SpanLayersModel", "first", "(II)I"⟩, 50), (⟨"SpanLayersModel", "second", "(II)I"⟩, 50), (⟨"SpanLayersModel", "has", "(II)Z"⟩, 50), (⟨"SpanLayersModel", "isPair", "(III)Z"⟩, 50), (⟨"SpanLayersModel", "opens", "()I"⟩, 50), (⟨"SpanLayersModel", "isBehindTold", "(II)Z"⟩, 50), (⟨"SpanLayersModel", "layRuns", "(Z)V"⟩, 50), (⟨"SpanLayersModel", "layDepths", "()V"⟩, 50), (⟨"SpanLayersModel", "greatestHigh", "()I"⟩, 50), (⟨"SpanLayersModel", "leastLow", "()I"⟩, 50), (⟨"SpanLayersModel", "runPlaces", "()I"⟩, 50), (⟨"SpanLayersModel", "greatestRun", "()I"⟩, 50)]
theorem lw_r3 : ∀ q ∈ lw_privs_3, lw_okq q := List.forall_mem_cons.mpr ⟨lw_p32, List.forall_mem_cons.mpr ⟨lw_p33, List.forall_mem_cons.mpr ⟨lw_p34, List.forall_mem_cons.mpr ⟨lw_p35, List.forall_mem_cons.mpr ⟨lw_p36, List.forall_mem_cons.mpr ⟨lw_p37, List.forall_mem_cons.mpr ⟨lw_p38, List.forall_mem_cons.mpr ⟨lw_p39, List.forall_mem_cons.mpr ⟨lw_p40, List.forall_mem_cons.mpr ⟨lw_p41, List.forall_mem_cons.mpr ⟨lw_p42, List.forall_mem_cons.mpr ⟨lw_p43, List.forall_mem_cons.mpr ⟨lw_p44, List.forall_mem_cons.mpr ⟨lw_p45, List.forall_mem_cons.mpr ⟨lw_p46, List.forall_mem_cons.mpr ⟨lw_p47, fun _ h => absurd h List.not_mem_nil⟩⟩⟩⟩⟩⟩⟩⟩⟩⟩⟩⟩⟩⟩⟩⟩
theorem lw_p48 : lw_okq (⟨"SpanLayersModel", "onesOf", "(I)I"⟩, 50) := ⟨⟨by decide +kernel, by decide +kernel⟩, List.mem_of_getElem? (i := 935) (by decide +kernel), List.mem_of_getElem? (i := 1299) (by decide +kernel), List.mem_of_getElem? (i := 1300) (by decide +kernel)⟩
theorem lw_p49 : lw_okq (⟨"SpanLayersModel", "deepestOf", "(I)I"⟩, 50) := ⟨⟨by decide +kernel, by decide +kernel⟩, List.mem_of_getElem? (i := 935) (by decide +kernel), List.mem_of_getElem? (i := 1316) (by decide +kernel), List.mem_of_getElem? (i := 1317) (by decide +kernel)⟩
theorem lw_p50 : lw_okq (⟨"SpanLayersModel", "numberAt", "(II)I"⟩, 50) := ⟨⟨by decide +kernel, by decide +kernel⟩, List.mem_of_getElem? (i := 935) (by decide +kernel), List.mem_of_getElem? (i := 1320) (by decide +kernel), List.mem_of_getElem? (i := 1321) (by decide +kernel)⟩
theorem lw_p51 : lw_okq (⟨"SpanLayersModel", "layTaken", "()V"⟩, 50) := ⟨⟨by decide +kernel, by decide +kernel⟩, List.mem_of_getElem? (i := 935) (by decide +kernel), List.mem_of_getElem? (i := 1328) (by decide +kernel), List.mem_of_getElem? (i := 1329) (by decide +kernel)⟩
theorem lw_p52 : lw_okq (⟨"SpanLayersModel", "groupOf", "(I)I"⟩, 50) := ⟨⟨by decide +kernel, by decide +kernel⟩, List.mem_of_getElem? (i := 935) (by decide +kernel), List.mem_of_getElem? (i := 1344) (by decide +kernel), List.mem_of_getElem? (i := 1345) (by decide +kernel)⟩
theorem lw_p53 : lw_okq (⟨"SpanLayersModel", "groupBits", "(I)I"⟩, 50) := ⟨⟨by decide +kernel, by decide +kernel⟩, List.mem_of_getElem? (i := 935) (by decide +kernel), List.mem_of_getElem? (i := 1348) (by decide +kernel), List.mem_of_getElem? (i := 1349) (by decide +kernel)⟩
theorem lw_p54 : lw_okq (⟨"SpanLayersModel", "weightOf", "(I)I"⟩, 50) := ⟨⟨by decide +kernel, by decide +kernel⟩, List.mem_of_getElem? (i := 935) (by decide +kernel), List.mem_of_getElem? (i := 1352) (by decide +kernel), List.mem_of_getElem? (i := 1353) (by decide +kernel)⟩
theorem lw_p55 : lw_okq (⟨"SpanLayersModel", "readCondition", "()I"⟩, 50) := ⟨⟨by decide +kernel, by decide +kernel⟩, List.mem_of_getElem? (i := 935) (by decide +kernel), List.mem_of_getElem? (i := 1369) (by decide +kernel), List.mem_of_getElem? (i := 1370) (by decide +kernel)⟩
theorem lw_p56 : lw_okq (⟨"SpanLayersModel", "readFactor", "()V"⟩, 50) := ⟨⟨by decide +kernel, by decide +kernel⟩, List.mem_of_getElem? (i := 935) (by decide +kernel), List.mem_of_getElem? (i := 1373) (by decide +kernel), List.mem_of_getElem? (i := 1374) (by decide +kernel)⟩
theorem lw_p57 : lw_okq (⟨"SpanLayersModel", "here", "()I"⟩, 50) := ⟨⟨by decide +kernel, by decide +kernel⟩, List.mem_of_getElem? (i := 935) (by decide +kernel), List.mem_of_getElem? (i := 1377) (by decide +kernel), List.mem_of_getElem? (i := 1378) (by decide +kernel)⟩
theorem lw_p58 : lw_okq (⟨"SpanLayersModel", "waitFor", "(I)V"⟩, 50) := ⟨⟨by decide +kernel, by decide +kernel⟩, List.mem_of_getElem? (i := 935) (by decide +kernel), List.mem_of_getElem? (i := 1381) (by decide +kernel), List.mem_of_getElem? (i := 1382) (by decide +kernel)⟩
theorem lw_p59 : lw_okq (⟨"SpanLayersModel", "readTest", "()V"⟩, 50) := ⟨⟨by decide +kernel, by decide +kernel⟩, List.mem_of_getElem? (i := 935) (by decide +kernel), List.mem_of_getElem? (i := 1385) (by decide +kernel), List.mem_of_getElem? (i := 1386) (by decide +kernel)⟩
theorem lw_p60 : lw_okq (⟨"SpanLayersModel", "testWordHere", "()I"⟩, 50) := ⟨⟨by decide +kernel, by decide +kernel⟩, List.mem_of_getElem? (i := 935) (by decide +kernel), List.mem_of_getElem? (i := 1389) (by decide +kernel), List.mem_of_getElem? (i := 1390) (by decide +kernel)⟩
theorem lw_p61 : lw_okq (⟨"SpanLayersModel", "wordHere", "()J"⟩, 50) := ⟨⟨by decide +kernel, by decide +kernel⟩, List.mem_of_getElem? (i := 935) (by decide +kernel), List.mem_of_getElem? (i := 1393) (by decide +kernel), List.mem_of_getElem? (i := 1394) (by decide +kernel)⟩
theorem lw_p62 : lw_okq (⟨"SpanLayersModel", "passWord", "()V"⟩, 50) := ⟨⟨by decide +kernel, by decide +kernel⟩, List.mem_of_getElem? (i := 935) (by decide +kernel), List.mem_of_getElem? (i := 1404) (by decide +kernel), List.mem_of_getElem? (i := 1405) (by decide +kernel)⟩
theorem lw_p63 : lw_okq (⟨"SpanLayersModel", "readSigned", "(I)I"⟩, 50) := ⟨⟨by decide +kernel, by decide +kernel⟩, List.mem_of_getElem? (i := 935) (by decide +kernel), List.mem_of_getElem? (i := 1408) (by decide +kernel), List.mem_of_getElem? (i := 1409) (by decide +kernel)⟩
def lw_privs_4 : List (MethodName × Nat) := [(⟨"SpanLayersModel", "onesOf", "(I)I"⟩, 50), (⟨"SpanLayersModel", "deepestOf", "(I)I"⟩, 50), (⟨"SpanLayersModel", "numberAt", "(II)I"⟩, 50), (⟨"SpanLayersModel", "layTaken", "()V"⟩, 50), (⟨"SpanLayersModel", "groupOf", "(I)I"⟩, 50), (⟨"SpanLayersModel", "groupBits", "(I)I"⟩, 50), (⟨"SpanLayersModel", "weightOf", "(I)I"⟩, 50), (⟨"SpanLayersModel", "readCondition", "()I"⟩, 50), (⟨"SpanLayersModel", "readFactor", "()V"⟩, 50), (⟨"SpanLayersModel", "here", "()I"⟩, 50), (⟨"SpanLayersModel", "waitFor", "(I)V"⟩, 50), (⟨"SpanLayersModel", "readTest", "()V"⟩, 50), (⟨"SpanLayersModel", "testWordHere", "()I"⟩, 50), (⟨"SpanLayersModel", "wordHere", "()J"⟩, 50), (⟨"SpanLayersModel", "passWord", "()V"⟩, 50), (⟨"SpanLayersModel", "readSigned", "(I)I"⟩, 50)]
theorem lw_r4 : ∀ q ∈ lw_privs_4, lw_okq q := List.forall_mem_cons.mpr ⟨lw_p48, List.forall_mem_cons.mpr ⟨lw_p49, List.forall_mem_cons.mpr ⟨lw_p50, List.forall_mem_cons.mpr ⟨lw_p51, List.forall_mem_cons.mpr ⟨lw_p52, List.forall_mem_cons.mpr ⟨lw_p53, List.forall_mem_cons.mpr ⟨lw_p54, List.forall_mem_cons.mpr ⟨lw_p55, List.forall_mem_cons.mpr ⟨lw_p56, List.forall_mem_cons.mpr ⟨lw_p57, List.forall_mem_cons.mpr ⟨lw_p58, List.forall_mem_cons.mpr ⟨lw_p59, List.forall_mem_cons.mpr ⟨lw_p60, List.forall_mem_cons.mpr ⟨lw_p61, List.forall_mem_cons.mpr ⟨lw_p62, List.forall_mem_cons.mpr ⟨lw_p63, fun _ h => absurd h List.not_mem_nil⟩⟩⟩⟩⟩⟩⟩⟩⟩⟩⟩⟩⟩⟩⟩⟩
theorem lw_p64 : lw_okq (⟨"SpanLayersModel", "goesOn", "(I)Z"⟩, 50) := ⟨⟨by decide +kernel, by decide +kernel⟩, List.mem_of_getElem? (i := 935) (by decide +kernel), List.mem_of_getElem? (i := 1412) (by decide +kernel), List.mem_of_getElem? (i := 1413) (by decide +kernel)⟩
theorem lw_p65 : lw_okq (⟨"SpanLayersModel", "readFigures", "(I)I"⟩, 50) := ⟨⟨by decide +kernel, by decide +kernel⟩, List.mem_of_getElem? (i := 935) (by decide +kernel), List.mem_of_getElem? (i := 1416) (by decide +kernel), List.mem_of_getElem? (i := 1417) (by decide +kernel)⟩
theorem lw_p66 : lw_okq (⟨"SpanLayersModel", "doneIs", "(I)V"⟩, 50) := ⟨⟨by decide +kernel, by decide +kernel⟩, List.mem_of_getElem? (i := 935) (by decide +kernel), List.mem_of_getElem? (i := 1422) (by decide +kernel), List.mem_of_getElem? (i := 1423) (by decide +kernel)⟩
theorem lw_p67 : lw_okq (⟨"SpanLayersModel", "readsOn", "()Z"⟩, 50) := ⟨⟨by decide +kernel, by decide +kernel⟩, List.mem_of_getElem? (i := 935) (by decide +kernel), List.mem_of_getElem? (i := 1426) (by decide +kernel), List.mem_of_getElem? (i := 1427) (by decide +kernel)⟩
theorem lw_p68 : lw_okq (⟨"SpanLayersModel", "popsWhile", "(II)V"⟩, 50) := ⟨⟨by decide +kernel, by decide +kernel⟩, List.mem_of_getElem? (i := 935) (by decide +kernel), List.mem_of_getElem? (i := 1430) (by decide +kernel), List.mem_of_getElem? (i := 1431) (by decide +kernel)⟩
theorem lw_p69 : lw_okq (⟨"SpanLayersModel", "heldBits", "()I"⟩, 50) := ⟨⟨by decide +kernel, by decide +kernel⟩, List.mem_of_getElem? (i := 935) (by decide +kernel), List.mem_of_getElem? (i := 1434) (by decide +kernel), List.mem_of_getElem? (i := 1435) (by decide +kernel)⟩
theorem lw_p70 : lw_okq (⟨"SpanLayersModel", "holds", "(I)Z"⟩, 50) := ⟨⟨by decide +kernel, by decide +kernel⟩, List.mem_of_getElem? (i := 935) (by decide +kernel), List.mem_of_getElem? (i := 1438) (by decide +kernel), List.mem_of_getElem? (i := 1439) (by decide +kernel)⟩
theorem lw_p71 : lw_okq (⟨"SpanLayersModel", "isTest", "(II)Z"⟩, 50) := ⟨⟨by decide +kernel, by decide +kernel⟩, List.mem_of_getElem? (i := 935) (by decide +kernel), List.mem_of_getElem? (i := 1442) (by decide +kernel), List.mem_of_getElem? (i := 1443) (by decide +kernel)⟩
theorem lw_p72 : lw_okq (⟨"SpanLayersModel", "numberOf", "(II)I"⟩, 50) := ⟨⟨by decide +kernel, by decide +kernel⟩, List.mem_of_getElem? (i := 935) (by decide +kernel), List.mem_of_getElem? (i := 1446) (by decide +kernel), List.mem_of_getElem? (i := 1447) (by decide +kernel)⟩
theorem lw_p73 : lw_okq (⟨"SpanLayersModel", "readChange", "()I"⟩, 50) := ⟨⟨by decide +kernel, by decide +kernel⟩, List.mem_of_getElem? (i := 935) (by decide +kernel), List.mem_of_getElem? (i := 1462) (by decide +kernel), List.mem_of_getElem? (i := 1463) (by decide +kernel)⟩
theorem lw_p74 : lw_okq (⟨"SpanLayersModel", "readStep", "()V"⟩, 50) := ⟨⟨by decide +kernel, by decide +kernel⟩, List.mem_of_getElem? (i := 935) (by decide +kernel), List.mem_of_getElem? (i := 1466) (by decide +kernel), List.mem_of_getElem? (i := 1467) (by decide +kernel)⟩
theorem lw_p75 : lw_okq (⟨"SpanLayersModel", "stepWordHere", "()I"⟩, 50) := ⟨⟨by decide +kernel, by decide +kernel⟩, List.mem_of_getElem? (i := 935) (by decide +kernel), List.mem_of_getElem? (i := 1470) (by decide +kernel), List.mem_of_getElem? (i := 1471) (by decide +kernel)⟩
theorem lw_p76 : lw_okq (⟨"SpanLayersModel", "wants", "(I)V"⟩, 50) := ⟨⟨by decide +kernel, by decide +kernel⟩, List.mem_of_getElem? (i := 935) (by decide +kernel), List.mem_of_getElem? (i := 1474) (by decide +kernel), List.mem_of_getElem? (i := 1475) (by decide +kernel)⟩
theorem lw_p77 : lw_okq (⟨"SpanLayersModel", "readNotLess", "(I)I"⟩, 50) := ⟨⟨by decide +kernel, by decide +kernel⟩, List.mem_of_getElem? (i := 935) (by decide +kernel), List.mem_of_getElem? (i := 1478) (by decide +kernel), List.mem_of_getElem? (i := 1479) (by decide +kernel)⟩
theorem lw_p78 : lw_okq (⟨"SpanLayersModel", "changes", "(I)V"⟩, 50) := ⟨⟨by decide +kernel, by decide +kernel⟩, List.mem_of_getElem? (i := 935) (by decide +kernel), List.mem_of_getElem? (i := 1482) (by decide +kernel), List.mem_of_getElem? (i := 1483) (by decide +kernel)⟩
theorem lw_p79 : lw_okq (⟨"SpanLayersModel", "doesStep", "(I)V"⟩, 50) := ⟨⟨by decide +kernel, by decide +kernel⟩, List.mem_of_getElem? (i := 935) (by decide +kernel), List.mem_of_getElem? (i := 1486) (by decide +kernel), List.mem_of_getElem? (i := 1487) (by decide +kernel)⟩
def lw_privs_5 : List (MethodName × Nat) := [(⟨"SpanLayersModel", "goesOn", "(I)Z"⟩, 50), (⟨"SpanLayersModel", "readFigures", "(I)I"⟩, 50), (⟨"SpanLayersModel", "doneIs", "(I)V"⟩, 50), (⟨"SpanLayersModel", "readsOn", "()Z"⟩, 50), (⟨"SpanLayersModel", "popsWhile", "(II)V"⟩, 50), (⟨"SpanLayersModel", "heldBits", "()I"⟩, 50), (⟨"SpanLayersModel", "holds", "(I)Z"⟩, 50), (⟨"SpanLayersModel", "isTest", "(II)Z"⟩, 50), (⟨"SpanLayersModel", "numberOf", "(II)I"⟩, 50), (⟨"SpanLayersModel", "readChange", "()I"⟩, 50), (⟨"SpanLayersModel", "readStep", "()V"⟩, 50), (⟨"SpanLayersModel", "stepWordHere", "()I"⟩, 50), (⟨"SpanLayersModel", "wants", "(I)V"⟩, 50), (⟨"SpanLayersModel", "readNotLess", "(I)I"⟩, 50), (⟨"SpanLayersModel", "changes", "(I)V"⟩, 50), (⟨"SpanLayersModel", "doesStep", "(I)V"⟩, 50)]
theorem lw_r5 : ∀ q ∈ lw_privs_5, lw_okq q := List.forall_mem_cons.mpr ⟨lw_p64, List.forall_mem_cons.mpr ⟨lw_p65, List.forall_mem_cons.mpr ⟨lw_p66, List.forall_mem_cons.mpr ⟨lw_p67, List.forall_mem_cons.mpr ⟨lw_p68, List.forall_mem_cons.mpr ⟨lw_p69, List.forall_mem_cons.mpr ⟨lw_p70, List.forall_mem_cons.mpr ⟨lw_p71, List.forall_mem_cons.mpr ⟨lw_p72, List.forall_mem_cons.mpr ⟨lw_p73, List.forall_mem_cons.mpr ⟨lw_p74, List.forall_mem_cons.mpr ⟨lw_p75, List.forall_mem_cons.mpr ⟨lw_p76, List.forall_mem_cons.mpr ⟨lw_p77, List.forall_mem_cons.mpr ⟨lw_p78, List.forall_mem_cons.mpr ⟨lw_p79, fun _ h => absurd h List.not_mem_nil⟩⟩⟩⟩⟩⟩⟩⟩⟩⟩⟩⟩⟩⟩⟩⟩
theorem lw_p80 : lw_okq (⟨"SpanLayersModel", "readPart", "()V"⟩, 50) := ⟨⟨by decide +kernel, by decide +kernel⟩, List.mem_of_getElem? (i := 935) (by decide +kernel), List.mem_of_getElem? (i := 1497) (by decide +kernel), List.mem_of_getElem? (i := 1498) (by decide +kernel)⟩
theorem lw_p81 : lw_okq (⟨"SpanLayersModel", "writes", "(I)V"⟩, 50) := ⟨⟨by decide +kernel, by decide +kernel⟩, List.mem_of_getElem? (i := 935) (by decide +kernel), List.mem_of_getElem? (i := 1505) (by decide +kernel), List.mem_of_getElem? (i := 1506) (by decide +kernel)⟩
theorem lw_p82 : lw_okq (⟨"SpanLayersModel", "writesNumber", "(I)V"⟩, 50) := ⟨⟨by decide +kernel, by decide +kernel⟩, List.mem_of_getElem? (i := 935) (by decide +kernel), List.mem_of_getElem? (i := 1509) (by decide +kernel), List.mem_of_getElem? (i := 1510) (by decide +kernel)⟩
theorem lw_p83 : lw_okq (⟨"SpanLayersModel", "layerMany", "()I"⟩, 50) := ⟨⟨by decide +kernel, by decide +kernel⟩, List.mem_of_getElem? (i := 935) (by decide +kernel), List.mem_of_getElem? (i := 1521) (by decide +kernel), List.mem_of_getElem? (i := 1522) (by decide +kernel)⟩
theorem lw_p84 : lw_okq (⟨"SpanLayersModel", "sumOf", "(Z)I"⟩, 50) := ⟨⟨by decide +kernel, by decide +kernel⟩, List.mem_of_getElem? (i := 935) (by decide +kernel), List.mem_of_getElem? (i := 1525) (by decide +kernel), List.mem_of_getElem? (i := 1526) (by decide +kernel)⟩
def lw_privs_6 : List (MethodName × Nat) := [(⟨"SpanLayersModel", "readPart", "()V"⟩, 50), (⟨"SpanLayersModel", "writes", "(I)V"⟩, 50), (⟨"SpanLayersModel", "writesNumber", "(I)V"⟩, 50), (⟨"SpanLayersModel", "layerMany", "()I"⟩, 50), (⟨"SpanLayersModel", "sumOf", "(Z)I"⟩, 50)]
theorem lw_r6 : ∀ q ∈ lw_privs_6, lw_okq q := List.forall_mem_cons.mpr ⟨lw_p80, List.forall_mem_cons.mpr ⟨lw_p81, List.forall_mem_cons.mpr ⟨lw_p82, List.forall_mem_cons.mpr ⟨lw_p83, List.forall_mem_cons.mpr ⟨lw_p84, fun _ h => absurd h List.not_mem_nil⟩⟩⟩⟩⟩
def lw_privs : List (MethodName × Nat) := lw_privs_1 ++ (lw_privs_2 ++ (lw_privs_3 ++ (lw_privs_4 ++ (lw_privs_5 ++ (lw_privs_6)))))
def lw_tbl : List Cond := k2_sels lw_privs ++ tables_1
theorem lw_privs_ok : ∀ q ∈ lw_privs, lw_okq q := by
  show ∀ q ∈ lw_privs_1 ++ (lw_privs_2 ++ (lw_privs_3 ++ (lw_privs_4 ++ (lw_privs_5 ++ (lw_privs_6))))), lw_okq q
  exact List.forall_mem_append.mpr ⟨lw_r1, List.forall_mem_append.mpr ⟨lw_r2, List.forall_mem_append.mpr ⟨lw_r3, List.forall_mem_append.mpr ⟨lw_r4, List.forall_mem_append.mpr ⟨lw_r5, lw_r6⟩⟩⟩⟩⟩
-- ===== end of PART A; then your names; then what follows =====
end
section
/-! classes and their fields, cells by kinds (printed by wip/whole/gen/names.py) -/
def sl_T0 : List Cond := lw_tbl.filter goodWord
theorem sl_in1 {w : Cond} (i : Nat) (h : lw_tbl[i]? = some w) (hg : goodWord w = true) : w ∈ sl_T0 := List.mem_filter.mpr ⟨List.mem_of_getElem? h, hg⟩
theorem sl_inL {ws : List Cond} (ps : List Nat) (h : ws = ps.filterMap (fun i => lw_tbl[i]?)) (hg : ws.all goodWord = true) : ∀ w ∈ ws, w ∈ sl_T0 := by
  intro w hw
  have hg1 := List.all_eq_true.mp hg w hw
  rw [h] at hw
  obtain ⟨i, -, hi⟩ := List.mem_filterMap.mp hw
  exact sl_in1 i hi hg1
theorem sl_T0_good {w : Cond} (h : w ∈ sl_T0) : goodWord w = true := (List.mem_filter.mp h).2
theorem sl_T0_tbl {w : Cond} (h : w ∈ sl_T0) : w ∈ lw_tbl := (List.mem_filter.mp h).1
def sl_R0 : String := "SpanLayers$Change"
def sl_F0 : u_T := fun k => match k with
  | 0 => ("SpanLayers$Change", "kinds", "[I", true)
  | 1 => ("SpanLayers$Change", "firsts", "[I", true)
  | 2 => ("SpanLayers$Change", "seconds", "[I", true)
  | _ => ("SpanLayers$Change", "count", "I", false)
def sl_t0 : Nat → FieldType := fun k => match k with
  | 0 => .array .int
  | 1 => .array .int
  | 2 => .array .int
  | _ => .int
theorem sl_nm0 : ∀ a, a < 4 → ∀ b, b < 4 → a ≠ b → (sl_F0 a).2.1 ≠ (sl_F0 b).2.1 := by decide +kernel
theorem sl_ty0 : ∀ k, k < 4 → parseFieldDescriptor (sl_F0 k).2.2.1 = some (sl_t0 k) := by decide +kernel
theorem sl_i0 : ∀ w ∈ u_ws sl_R0 sl_F0 4, w ∈ sl_T0 := sl_inL [268, 270, 272, 274] (by decide +kernel) (by decide +kernel)
def sl_R1 : String := "SpanLayers$Choice"
def sl_F1 : u_T := fun k => match k with
  | 0 => ("SpanLayers$Choice", "numbers", "[I", true)
  | 1 => ("SpanLayers$Choice", "highs", "[I", true)
  | 2 => ("SpanLayers$Choice", "count", "I", false)
  | _ => ("SpanLayers$Choice", "best", "[I", true)
def sl_t1 : Nat → FieldType := fun k => match k with
  | 0 => .array .int
  | 1 => .array .int
  | 2 => .int
  | _ => .array .int
theorem sl_nm1 : ∀ a, a < 4 → ∀ b, b < 4 → a ≠ b → (sl_F1 a).2.1 ≠ (sl_F1 b).2.1 := by decide +kernel
theorem sl_ty1 : ∀ k, k < 4 → parseFieldDescriptor (sl_F1 k).2.2.1 = some (sl_t1 k) := by decide +kernel
theorem sl_i1 : ∀ w ∈ u_ws sl_R1 sl_F1 4, w ∈ sl_T0 := sl_inL [219, 221, 223, 225] (by decide +kernel) (by decide +kernel)
def sl_R2 : String := "SpanLayers$Condition"
def sl_F2 : u_T := fun k => match k with
  | _ => ("", "", "", false)
def sl_t2 : Nat → FieldType := fun k => match k with
  | _ => .int
theorem sl_nm2 : ∀ a, a < 0 → ∀ b, b < 0 → a ≠ b → (sl_F2 a).2.1 ≠ (sl_F2 b).2.1 := by decide +kernel
theorem sl_ty2 : ∀ k, k < 0 → parseFieldDescriptor (sl_F2 k).2.2.1 = some (sl_t2 k) := by decide +kernel
theorem sl_i2 : ∀ w ∈ u_ws sl_R2 sl_F2 0, w ∈ sl_T0 := sl_inL [] (by decide +kernel) (by decide +kernel)
def sl_R3 : String := "SpanLayers$Coverage"
def sl_F3 : u_T := fun k => match k with
  | 0 => ("SpanLayers$Coverage", "first", "[I", true)
  | 1 => ("SpanLayers$Coverage", "last", "[I", true)
  | 2 => ("SpanLayers$Coverage", "spans", "[I", true)
  | _ => ("SpanLayers$Coverage", "pieces", "I", false)
def sl_t3 : Nat → FieldType := fun k => match k with
  | 0 => .array .int
  | 1 => .array .int
  | 2 => .array .int
  | _ => .int
theorem sl_nm3 : ∀ a, a < 4 → ∀ b, b < 4 → a ≠ b → (sl_F3 a).2.1 ≠ (sl_F3 b).2.1 := by decide +kernel
theorem sl_ty3 : ∀ k, k < 4 → parseFieldDescriptor (sl_F3 k).2.2.1 = some (sl_t3 k) := by decide +kernel
theorem sl_i3 : ∀ w ∈ u_ws sl_R3 sl_F3 4, w ∈ sl_T0 := sl_inL [196, 198, 200, 202] (by decide +kernel) (by decide +kernel)
def sl_R4 : String := "SpanLayers$Cursor"
def sl_F4 : u_T := fun k => match k with
  | 0 => ("SpanLayers$Cursor", "isOpen", "Z", false)
  | 1 => ("SpanLayers$Cursor", "order", "I", false)
  | 2 => ("SpanLayers$Cursor", "hasTold", "Z", false)
  | _ => ("SpanLayers$Cursor", "last", "LSpanLayers$Span;", true)
def sl_t4 : Nat → FieldType := fun k => match k with
  | 0 => .boolean
  | 1 => .int
  | 2 => .boolean
  | _ => .object "SpanLayers$Span"
theorem sl_nm4 : ∀ a, a < 4 → ∀ b, b < 4 → a ≠ b → (sl_F4 a).2.1 ≠ (sl_F4 b).2.1 := by decide +kernel
theorem sl_ty4 : ∀ k, k < 4 → parseFieldDescriptor (sl_F4 k).2.2.1 = some (sl_t4 k) := by decide +kernel
theorem sl_i4 : ∀ w ∈ u_ws sl_R4 sl_F4 4, w ∈ sl_T0 := sl_inL [330, 332, 334, 336] (by decide +kernel) (by decide +kernel)
def sl_R5 : String := "SpanLayers$Index"
def sl_F5 : u_T := fun k => match k with
  | 0 => ("SpanLayers$Index", "spans", "[LSpanLayers$Span;", true)
  | _ => ("SpanLayers$Index", "sorted", "[LSpanLayers$Span;", true)
def sl_t5 : Nat → FieldType := fun k => match k with
  | 0 => .array (.object "SpanLayers$Span")
  | _ => .array (.object "SpanLayers$Span")
theorem sl_nm5 : ∀ a, a < 2 → ∀ b, b < 2 → a ≠ b → (sl_F5 a).2.1 ≠ (sl_F5 b).2.1 := by decide +kernel
theorem sl_ty5 : ∀ k, k < 2 → parseFieldDescriptor (sl_F5 k).2.2.1 = some (sl_t5 k) := by decide +kernel
theorem sl_i5 : ∀ w ∈ u_ws sl_R5 sl_F5 2, w ∈ sl_T0 := sl_inL [177, 179] (by decide +kernel) (by decide +kernel)
def sl_R6 : String := "SpanLayers$Paper"
def sl_F6 : u_T := fun k => match k with
  | 0 => ("SpanLayers$Paper", "bytes", "[I", true)
  | _ => ("SpanLayers$Paper", "used", "I", false)
def sl_t6 : Nat → FieldType := fun k => match k with
  | 0 => .array .int
  | _ => .int
theorem sl_nm6 : ∀ a, a < 2 → ∀ b, b < 2 → a ≠ b → (sl_F6 a).2.1 ≠ (sl_F6 b).2.1 := by decide +kernel
theorem sl_ty6 : ∀ k, k < 2 → parseFieldDescriptor (sl_F6 k).2.2.1 = some (sl_t6 k) := by decide +kernel
theorem sl_i6 : ∀ w ∈ u_ws sl_R6 sl_F6 2, w ∈ sl_T0 := sl_inL [306, 308] (by decide +kernel) (by decide +kernel)
def sl_R7 : String := "SpanLayers$Parts"
def sl_F7 : u_T := fun k => match k with
  | 0 => ("SpanLayers$Parts", "lows", "[I", true)
  | 1 => ("SpanLayers$Parts", "highs", "[I", true)
  | 2 => ("SpanLayers$Parts", "weights", "[I", true)
  | _ => ("SpanLayers$Parts", "count", "I", false)
def sl_t7 : Nat → FieldType := fun k => match k with
  | 0 => .array .int
  | 1 => .array .int
  | 2 => .array .int
  | _ => .int
theorem sl_nm7 : ∀ a, a < 4 → ∀ b, b < 4 → a ≠ b → (sl_F7 a).2.1 ≠ (sl_F7 b).2.1 := by decide +kernel
theorem sl_ty7 : ∀ k, k < 4 → parseFieldDescriptor (sl_F7 k).2.2.1 = some (sl_t7 k) := by decide +kernel
theorem sl_i7 : ∀ w ∈ u_ws sl_R7 sl_F7 4, w ∈ sl_T0 := sl_inL [287, 289, 291, 293] (by decide +kernel) (by decide +kernel)
def sl_R8 : String := "SpanLayers$Row"
def sl_F8 : u_T := fun k => match k with
  | 0 => ("SpanLayers$Row", "places", "[I", true)
  | 1 => ("SpanLayers$Row", "isHeld", "Z", false)
  | _ => ("SpanLayers$Row", "size", "I", false)
def sl_t8 : Nat → FieldType := fun k => match k with
  | 0 => .array .int
  | 1 => .boolean
  | _ => .int
theorem sl_nm8 : ∀ a, a < 3 → ∀ b, b < 3 → a ≠ b → (sl_F8 a).2.1 ≠ (sl_F8 b).2.1 := by decide +kernel
theorem sl_ty8 : ∀ k, k < 3 → parseFieldDescriptor (sl_F8 k).2.2.1 = some (sl_t8 k) := by decide +kernel
theorem sl_i8 : ∀ w ∈ u_ws sl_R8 sl_F8 3, w ∈ sl_T0 := sl_inL [349, 351, 353] (by decide +kernel) (by decide +kernel)
def sl_R9 : String := "SpanLayers$Span"
def sl_F9 : u_T := fun k => match k with
  | 0 => ("SpanLayers$Span", "number", "I", false)
  | 1 => ("SpanLayers$Span", "isIn", "Z", false)
  | 2 => ("SpanLayers$Span", "low", "I", false)
  | 3 => ("SpanLayers$Span", "high", "I", false)
  | 4 => ("SpanLayers$Span", "weight", "I", false)
  | _ => ("SpanLayers$Span", "layer", "I", false)
def sl_t9 : Nat → FieldType := fun k => match k with
  | 0 => .int
  | 1 => .boolean
  | 2 => .int
  | 3 => .int
  | 4 => .int
  | _ => .int
theorem sl_nm9 : ∀ a, a < 6 → ∀ b, b < 6 → a ≠ b → (sl_F9 a).2.1 ≠ (sl_F9 b).2.1 := by decide +kernel
theorem sl_ty9 : ∀ k, k < 6 → parseFieldDescriptor (sl_F9 k).2.2.1 = some (sl_t9 k) := by decide +kernel
theorem sl_i9 : ∀ w ∈ u_ws sl_R9 sl_F9 6, w ∈ sl_T0 := sl_inL [154, 156, 158, 160, 162, 164] (by decide +kernel) (by decide +kernel)
def sl_R10 : String := "SpanLayers$Tape"
def sl_F10 : u_T := fun k => match k with
  | 0 => ("SpanLayers$Tape", "bytes", "[I", true)
  | 1 => ("SpanLayers$Tape", "used", "I", false)
  | 2 => ("SpanLayers$Tape", "at", "I", false)
  | _ => ("SpanLayers$Tape", "fault", "I", false)
def sl_t10 : Nat → FieldType := fun k => match k with
  | 0 => .array .int
  | 1 => .int
  | 2 => .int
  | _ => .int
theorem sl_nm10 : ∀ a, a < 4 → ∀ b, b < 4 → a ≠ b → (sl_F10 a).2.1 ≠ (sl_F10 b).2.1 := by decide +kernel
theorem sl_ty10 : ∀ k, k < 4 → parseFieldDescriptor (sl_F10 k).2.2.1 = some (sl_t10 k) := by decide +kernel
theorem sl_i10 : ∀ w ∈ u_ws sl_R10 sl_F10 4, w ∈ sl_T0 := sl_inL [242, 244, 246, 248] (by decide +kernel) (by decide +kernel)
def sl_R11 : String := "SpanLayers"
def sl_F11 : u_T := fun k => match k with
  | 0 => ("SpanLayers", "index", "LSpanLayers$Index;", true)
  | 1 => ("SpanLayers", "coverage", "LSpanLayers$Coverage;", true)
  | 2 => ("SpanLayers", "choice", "LSpanLayers$Choice;", true)
  | 3 => ("SpanLayers", "cursors", "[LSpanLayers$Cursor;", true)
  | 4 => ("SpanLayers", "tape", "LSpanLayers$Tape;", true)
  | 5 => ("SpanLayers", "condition", "LSpanLayers$Condition;", true)
  | 6 => ("SpanLayers", "steps", "LSpanLayers$Change;", true)
  | 7 => ("SpanLayers", "parts", "LSpanLayers$Parts;", true)
  | 8 => ("SpanLayers", "sheet", "LSpanLayers$Paper;", true)
  | 9 => ("SpanLayers", "rows", "[LSpanLayers$Row;", true)
  | 10 => ("SpanLayers", "kept", "LSpanLayers$Index;", true)
  | _ => ("SpanLayers", "isKept", "Z", false)
def sl_t11 : Nat → FieldType := fun k => match k with
  | 0 => .object "SpanLayers$Index"
  | 1 => .object "SpanLayers$Coverage"
  | 2 => .object "SpanLayers$Choice"
  | 3 => .array (.object "SpanLayers$Cursor")
  | 4 => .object "SpanLayers$Tape"
  | 5 => .object "SpanLayers$Condition"
  | 6 => .object "SpanLayers$Change"
  | 7 => .object "SpanLayers$Parts"
  | 8 => .object "SpanLayers$Paper"
  | 9 => .array (.object "SpanLayers$Row")
  | 10 => .object "SpanLayers$Index"
  | _ => .boolean
theorem sl_nm11 : ∀ a, a < 12 → ∀ b, b < 12 → a ≠ b → (sl_F11 a).2.1 ≠ (sl_F11 b).2.1 := by decide +kernel
theorem sl_ty11 : ∀ k, k < 12 → parseFieldDescriptor (sl_F11 k).2.2.1 = some (sl_t11 k) := by decide +kernel
theorem sl_i11 : ∀ w ∈ u_ws sl_R11 sl_F11 12, w ∈ sl_T0 := sl_inL [368, 370, 372, 374, 376, 378, 380, 382, 384, 386, 388, 390] (by decide +kernel) (by decide +kernel)
def sl_R12 : String := "SpanLayersModel"
def sl_F12 : u_T := fun k => match k with
  | 0 => ("SpanLayersModel", "lows", "[I", true)
  | 1 => ("SpanLayersModel", "highs", "[I", true)
  | 2 => ("SpanLayersModel", "weights", "[I", true)
  | 3 => ("SpanLayersModel", "isIn", "[I", true)
  | 4 => ("SpanLayersModel", "layers", "[I", true)
  | 5 => ("SpanLayersModel", "thrown", "I", false)
  | 6 => ("SpanLayersModel", "ordered", "[I", true)
  | 7 => ("SpanLayersModel", "orders", "[I", true)
  | 8 => ("SpanLayersModel", "toldOf", "[I", true)
  | 9 => ("SpanLayersModel", "toldFirst", "[I", true)
  | 10 => ("SpanLayersModel", "toldSecond", "[I", true)
  | 11 => ("SpanLayersModel", "depths", "[I", true)
  | 12 => ("SpanLayersModel", "loads", "[I", true)
  | 13 => ("SpanLayersModel", "runs", "I", false)
  | 14 => ("SpanLayersModel", "runFrom", "[I", true)
  | 15 => ("SpanLayersModel", "runTo", "[I", true)
  | 16 => ("SpanLayersModel", "many0", "I", false)
  | 17 => ("SpanLayersModel", "taken", "[I", true)
  | 18 => ("SpanLayersModel", "bests", "[I", true)
  | 19 => ("SpanLayersModel", "tape", "[I", true)
  | 20 => ("SpanLayersModel", "size", "I", false)
  | 21 => ("SpanLayersModel", "place0", "I", false)
  | 22 => ("SpanLayersModel", "isBad", "Z", false)
  | 23 => ("SpanLayersModel", "done0", "I", false)
  | 24 => ("SpanLayersModel", "doneWhat", "[I", true)
  | 25 => ("SpanLayersModel", "testWord", "[I", true)
  | 26 => ("SpanLayersModel", "testSign", "[I", true)
  | 27 => ("SpanLayersModel", "testNumber", "[I", true)
  | 28 => ("SpanLayersModel", "waiting", "I", false)
  | 29 => ("SpanLayersModel", "waits", "[I", true)
  | 30 => ("SpanLayersModel", "brackets", "I", false)
  | 31 => ("SpanLayersModel", "held0", "[Z", true)
  | 32 => ("SpanLayersModel", "steps", "I", false)
  | 33 => ("SpanLayersModel", "stepWhat", "[I", true)
  | 34 => ("SpanLayersModel", "stepA", "[I", true)
  | 35 => ("SpanLayersModel", "stepB", "[I", true)
  | 36 => ("SpanLayersModel", "lowNow", "I", false)
  | 37 => ("SpanLayersModel", "highNow", "I", false)
  | 38 => ("SpanLayersModel", "weightNow", "I", false)
  | 39 => ("SpanLayersModel", "parts", "I", false)
  | 40 => ("SpanLayersModel", "partLow", "[I", true)
  | 41 => ("SpanLayersModel", "partHigh", "[I", true)
  | 42 => ("SpanLayersModel", "partWeight", "[I", true)
  | 43 => ("SpanLayersModel", "paper0", "[I", true)
  | 44 => ("SpanLayersModel", "paperSize", "I", false)
  | 45 => ("SpanLayersModel", "holdsList", "[Z", true)
  | 46 => ("SpanLayersModel", "listMany", "[I", true)
  | 47 => ("SpanLayersModel", "listed", "[I", true)
  | 48 => ("SpanLayersModel", "hasImage", "Z", false)
  | _ => ("SpanLayersModel", "imaged", "[I", true)
def sl_t12 : Nat → FieldType := fun k => match k with
  | 0 => .array .int
  | 1 => .array .int
  | 2 => .array .int
  | 3 => .array .int
  | 4 => .array .int
  | 5 => .int
  | 6 => .array .int
  | 7 => .array .int
  | 8 => .array .int
  | 9 => .array .int
  | 10 => .array .int
  | 11 => .array .int
  | 12 => .array .int
  | 13 => .int
  | 14 => .array .int
  | 15 => .array .int
  | 16 => .int
  | 17 => .array .int
  | 18 => .array .int
  | 19 => .array .int
  | 20 => .int
  | 21 => .int
  | 22 => .boolean
  | 23 => .int
  | 24 => .array .int
  | 25 => .array .int
  | 26 => .array .int
  | 27 => .array .int
  | 28 => .int
  | 29 => .array .int
  | 30 => .int
  | 31 => .array .boolean
  | 32 => .int
  | 33 => .array .int
  | 34 => .array .int
  | 35 => .array .int
  | 36 => .int
  | 37 => .int
  | 38 => .int
  | 39 => .int
  | 40 => .array .int
  | 41 => .array .int
  | 42 => .array .int
  | 43 => .array .int
  | 44 => .int
  | 45 => .array .boolean
  | 46 => .array .int
  | 47 => .array .int
  | 48 => .boolean
  | _ => .array .int
theorem sl_nm12 : ∀ a, a < 50 → ∀ b, b < 50 → a ≠ b → (sl_F12 a).2.1 ≠ (sl_F12 b).2.1 := by decide +kernel
theorem sl_ty12 : ∀ k, k < 50 → parseFieldDescriptor (sl_F12 k).2.2.1 = some (sl_t12 k) := by decide +kernel
theorem sl_i12 : ∀ w ∈ u_ws sl_R12 sl_F12 50, w ∈ sl_T0 := sl_inL [1075, 1077, 1079, 1081, 1083, 1085, 1087, 1089, 1091, 1093, 1095, 1097, 1099, 1101, 1103, 1105, 1107, 1109, 1111, 1113, 1115, 1117, 1119, 1121, 1123, 1125, 1127, 1129, 1131, 1133, 1135, 1137, 1139, 1141, 1143, 1145, 1147, 1149, 1151, 1153, 1155, 1157, 1159, 1161, 1163, 1165, 1167, 1169, 1171, 1173] (by decide +kernel) (by decide +kernel)
abbrev sl_cl : List vw_C := [(sl_R0, sl_F0, 4), (sl_R1, sl_F1, 4), (sl_R2, sl_F2, 0), (sl_R3, sl_F3, 4), (sl_R4, sl_F4, 4), (sl_R5, sl_F5, 2), (sl_R6, sl_F6, 2), (sl_R7, sl_F7, 4), (sl_R8, sl_F8, 3), (sl_R9, sl_F9, 6), (sl_R10, sl_F10, 4), (sl_R11, sl_F11, 12), (sl_R12, sl_F12, 50)]
def sl_N : Nat := 139
def sl_kinds : List Nat := [11, 5, 22, 23, 9, 9, 9, 9, 9, 9, 9, 9, 9, 9, 9, 9, 9, 9, 9, 9, 9, 9, 9, 9, 9, 9, 9, 9, 9, 9, 9, 9, 9, 9, 3, 20, 20, 20, 1, 20, 20, 20, 24, 10, 20, 2, 0, 20, 20, 20, 7, 20, 20, 20, 6, 20, 25, 5, 22, 23, 9, 9, 9, 9, 9, 9, 9, 9, 9, 9, 9, 9, 9, 9, 9, 9, 9, 9, 9, 9, 9, 9, 9, 9, 9, 9, 9, 9, 9, 9, 4, 9, 4, 9, 4, 9, 8, 20, 8, 20, 8, 20, 8, 20, 12, 20, 20, 20, 20, 20, 20, 20, 20, 20, 20, 20, 20, 20, 20, 20, 20, 20, 20, 20, 20, 20, 20, 21, 20, 20, 20, 20, 20, 20, 20, 21, 20, 20, 20]
def sl_lens : List Nat := [0, 0, 30, 30, 0, 0, 0, 0, 0, 0, 0, 0, 0, 0, 0, 0, 0, 0, 0, 0, 0, 0, 0, 0, 0, 0, 0, 0, 0, 0, 0, 0, 0, 0, 0, 30, 30, 30, 0, 30, 30, 31, 3, 0, 80, 0, 0, 5, 5, 5, 0, 20, 20, 20, 0, 360, 4, 0, 30, 30, 0, 0, 0, 0, 0, 0, 0, 0, 0, 0, 0, 0, 0, 0, 0, 0, 0, 0, 0, 0, 0, 0, 0, 0, 0, 0, 0, 0, 0, 0, 0, 0, 0, 0, 0, 0, 0, 40, 0, 40, 0, 40, 0, 40, 0, 30, 30, 30, 30, 30, 30, 3, 3, 3, 3, 1000, 1000, 31, 31, 30, 1001, 80, 90, 90, 90, 90, 90, 90, 5, 5, 5, 27, 27, 27, 400, 4, 4, 160, 120]
def sl_ft : List (List (Nat × Nat × Nat)) := [[(2, 20, 1), (2, 20, 2), (2, 20, 3), (0, 0, 0)], [(2, 20, 1), (2, 20, 2), (0, 0, 0), (2, 20, 3)], [], [(2, 20, 1), (2, 20, 2), (2, 20, 3), (0, 0, 0)], [(1, 0, 0), (0, 0, 0), (1, 0, 0), (2, 9, 1)], [(2, 22, 1), (2, 23, 2)], [(2, 20, 1), (0, 0, 0)], [(2, 20, 1), (2, 20, 2), (2, 20, 3), (0, 0, 0)], [(2, 20, 1), (1, 0, 0), (0, 0, 0)], [(0, 0, 0), (1, 0, 0), (0, 0, 0), (0, 0, 0), (0, 0, 0), (0, 0, 0)], [(2, 20, 1), (0, 0, 0), (0, 0, 0), (0, 0, 0)], [(2, 5, 1), (2, 3, 34), (2, 1, 38), (2, 24, 42), (2, 10, 43), (2, 2, 45), (2, 0, 46), (2, 7, 50), (2, 6, 54), (2, 25, 56), (2, 5, 57), (1, 0, 0)], [(2, 20, 1), (2, 20, 2), (2, 20, 3), (2, 20, 4), (2, 20, 5), (0, 0, 0), (2, 20, 6), (2, 20, 7), (2, 20, 8), (2, 20, 9), (2, 20, 10), (2, 20, 11), (2, 20, 12), (0, 0, 0), (2, 20, 13), (2, 20, 14), (0, 0, 0), (2, 20, 15), (2, 20, 16), (2, 20, 17), (0, 0, 0), (0, 0, 0), (1, 0, 0), (0, 0, 0), (2, 20, 18), (2, 20, 19), (2, 20, 20), (2, 20, 21), (0, 0, 0), (2, 20, 22), (0, 0, 0), (2, 21, 23), (0, 0, 0), (2, 20, 24), (2, 20, 25), (2, 20, 26), (0, 0, 0), (0, 0, 0), (0, 0, 0), (0, 0, 0), (2, 20, 27), (2, 20, 28), (2, 20, 29), (2, 20, 30), (0, 0, 0), (2, 21, 31), (2, 20, 32), (2, 20, 33), (1, 0, 0), (2, 20, 34)]]
end
section
/-! THE SMALL MACHINE: values (int, long, reference by class and number, null), memory by cells and places, the world of all cells -/
abbrev sl_V : Type := Int32 ⊕ (Int64 ⊕ Option (Nat × Nat))
abbrev sl_M : Type := Nat → Nat → Int32
abbrev sl_L : Type := List (Option sl_V)
abbrev sl_Qt : Type := Option sl_V → sl_M → Prop
abbrev sl_PT : Type := List sl_V → sl_M → sl_Qt → Prop
abbrev sl_It : Type := sl_L → List sl_V → sl_M → Prop
abbrev sl_Ent : Type := Nat × Instr × Nat × Int32 × List Nat × List (Int32 × Nat) × Bool
abbrev sl_Ct : Type := Nat × Nat × Nat × sl_PT
/-- launch, class ids, slots of fields, classes of arrays, first address of the world, addresses of what lies outside it (90: texts, 92: their bytes) -/
abbrev sl_G : Type := Launch × (Nat → ClassId) × (Nat → Nat → Nat) × (Nat → ClassId) × Nat × (Nat → Nat → Nat)
def sl_kd (o : Nat) : Nat := sl_kinds.getD o 99
def sl_len (o : Nat) : Nat := sl_lens.getD o 0
def sl_fi (c k : Nat) : Nat × Nat × Nat := (sl_ft.getD c []).getD k (9, 0, 0)
def sl_nf (c : Nat) : Nat := (sl_ft.getD c []).length
def sl_bz (x : Int32) : Int32 := if x = 0 then 0 else 1
def sl_up (μ : sl_M) (o k : Nat) (v : Int32) : sl_M := fun o' k' => if o' = o ∧ k' = k then v else μ o' k'
def sl_gD (g : sl_G) : va_G := (g.2.1, g.2.2.1)
def sl_ca (g : sl_G) : Nat → ClassId := g.2.2.2.1
def sl_b (g : sl_G) : Nat := g.2.2.2.2.1
def sl_gs (g : sl_G) : Nat → Nat → Nat := g.2.2.2.2.2
def sl_A (g : sl_G) : Nat → Prop := fun q => sl_b g ≤ q
def sl_ad (g : sl_G) (c o : Nat) : Nat := if c < 90 then sl_b g + o else sl_gs g c o
def sl_tv (g : sl_G) : sl_V → Value
  | .inl x => .int x
  | .inr (.inl x) => .long x
  | .inr (.inr none) => .null
  | .inr (.inr (some q)) => .ref (sl_ad g q.1 q.2)
def sl_wk : sl_V → Prop
  | .inr (.inr (some q)) => q.1 < 90 → sl_kd q.2 = q.1
  | _ => True
def sl_rf (f : Nat → Option Nat) : (Nat → Int32) ⊕ (Nat → Int64) ⊕ (Nat → UInt32) ⊕ (Nat → UInt64) ⊕ (Nat → Option Nat) := .inr (.inr (.inr (.inr f)))
def sl_fv (g : sl_G) (μ : sl_M) (c o k : Nat) : Value := match sl_fi c k with
  | (0, _, _) => .int (μ o k)
  | (1, _, _) => .int (sl_bz (μ o k))
  | (_, _, off) => .ref (sl_b g + (o + off))
def sl_E (g : sl_G) (μ : sl_M) (o : Nat) : va_E := match sl_kd o with
  | 20 => .inl (sl_ca g 0, sl_len o, .inl (μ o))
  | 21 => .inl (sl_ca g 1, sl_len o, .inl (fun i => sl_bz (μ o i)))
  | 22 => .inl (sl_ca g 2, sl_len o, sl_rf (fun i => some (sl_b g + (o + 2 + i))))
  | 23 => .inl (sl_ca g 2, sl_len o, sl_rf (fun i => some (sl_b g + (μ o i).toNatClampNeg)))
  | 24 => .inl (sl_ca g 3, sl_len o, sl_rf (fun i => some (sl_b g + (o + 48 + 2 * i))))
  | 25 => .inl (sl_ca g 4, sl_len o, sl_rf (fun i => some (sl_b g + (o + 40 + 2 * i))))
  | c => .inr (c, (List.range (sl_nf c)).map (sl_fv g μ c o))
def sl_wl (g : sl_G) (μ : sl_M) : va_W := (List.range sl_N).map (fun o => (sl_b g + o, sl_E g μ o))
def sl_Wd (g : sl_G) (μ : sl_M) (H : Heap) : Prop := va_P (sl_gD g) sl_cl (sl_wl g μ) H
def sl_tys (g : sl_G) : List (ClassId × FieldType) := [(sl_ca g 0, .int), (sl_ca g 1, .boolean), (sl_ca g 2, .object sl_R9), (sl_ca g 3, .object sl_R4), (sl_ca g 4, .object sl_R8)]
theorem sl_kd_lt {o : Nat} (h : sl_kd o ≠ 99) : o < sl_N := by
  rcases Nat.lt_or_ge o sl_N with q | q
  · exact q
  · refine absurd ?_ h
    unfold sl_kd
    rw [List.getD_eq_getElem?_getD, List.getElem?_eq_none (show sl_kinds.length ≤ o from Nat.le_trans (show sl_kinds.length ≤ sl_N by decide +kernel) q)]
    rfl
theorem sl_wl_get (g : sl_G) (μ : sl_M) {o : Nat} (h : o < sl_N) : (sl_wl g μ)[o]? = some (sl_b g + o, sl_E g μ o) := by
  unfold sl_wl
  rw [List.getElem?_map, List.getElem?_range h]
  rfl
theorem sl_wl_len (g : sl_G) (μ : sl_M) : (sl_wl g μ).length = sl_N := by
  unfold sl_wl
  rw [List.length_map, List.length_range]
theorem sl_wl_inv {g : sl_G} {μ : sl_M} {o : Nat} {q : Nat × va_E} (h : (sl_wl g μ)[o]? = some q) : o < sl_N ∧ q = (sl_b g + o, sl_E g μ o) := by
  have h1 : o < (sl_wl g μ).length := (List.getElem?_eq_some_iff.mp h).1
  rw [sl_wl_len] at h1
  rw [sl_wl_get g μ h1] at h
  exact ⟨h1, (Option.some.inj h).symm⟩
theorem sl_wl_D (g : sl_G) (μ : sl_M) : va_D (sl_A g) (sl_wl g μ) := by
  refine ⟨fun i j p q hi hj hpq => ?_, fun k q hk => ?_⟩
  · obtain ⟨-, rfl⟩ := sl_wl_inv hi
    obtain ⟨-, rfl⟩ := sl_wl_inv hj
    exact Nat.add_left_cancel hpq
  · obtain ⟨-, rfl⟩ := sl_wl_inv hk
    exact Nat.le_add_right _ _
theorem sl_E_congr {g : sl_G} {μ μ' : sl_M} {o : Nat} (h : μ' o = μ o) : sl_E g μ' o = sl_E g μ o := by
  unfold sl_E sl_fv
  rw [h]
theorem sl_wl_set {g : sl_G} {μ μ' : sl_M} {o : Nat} {e : va_E} (ho : o < sl_N) (he : sl_E g μ' o = e) (hr : ∀ o', o' ≠ o → μ' o' = μ o') : (sl_wl g μ).set o (sl_b g + o, e) = sl_wl g μ' := by
  apply List.ext_getElem?
  intro i
  rw [List.getElem?_set]
  by_cases hi : o = i
  · subst hi
    rw [if_pos rfl, if_pos (by rw [sl_wl_len]; exact ho), sl_wl_get g μ' ho, he]
  · rw [if_neg hi]
    rcases Nat.lt_or_ge i sl_N with q | q
    · rw [sl_wl_get g μ q, sl_wl_get g μ' q, sl_E_congr (hr i (fun h => hi h.symm))]
    · rw [List.getElem?_eq_none (by rw [sl_wl_len]; exact q), List.getElem?_eq_none (by rw [sl_wl_len]; exact q)]
theorem sl_up_row {μ : sl_M} {o k : Nat} {v : Int32} {o' : Nat} (h : o' ≠ o) : sl_up μ o k v o' = μ o' := by
  funext k'
  unfold sl_up
  rw [if_neg (fun q => h q.1)]
theorem sl_up_at {μ : sl_M} {o k : Nat} {v : Int32} : sl_up μ o k v o = upd (μ o) k v := by
  funext k'
  unfold sl_up upd
  by_cases h : k' = k
  · rw [if_pos ⟨rfl, h⟩, if_pos h]
  · rw [if_neg (fun q => h q.2), if_neg h]
/-! locals -/
def sl_nth : sl_L → Nat → Option sl_V
  | [], _ => none
  | a :: _, 0 => a
  | _ :: l, n + 1 => sl_nth l n
def sl_get (cst lv : sl_L) (i : Nat) : Option sl_V := match sl_nth cst i with
  | some v => some v
  | none => sl_nth lv i
def sl_set : sl_L → Nat → Option sl_V → sl_L
  | [], _, _ => []
  | _ :: l, 0, v => v :: l
  | a :: l, n + 1, v => a :: sl_set l n v
def sl_isJ : Option sl_V → Bool
  | some (.inr (.inl _)) => true
  | _ => false
/-- whether a place may be written: it is no constant one, no long begins just ahead of it -/
def sl_wr (cst lv : sl_L) (i : Nat) : Bool := (sl_nth cst i).isNone && (match i with
  | 0 => true
  | j + 1 => !(sl_isJ (sl_get cst lv j)))
def sl_lh (g : sl_G) (ls : Array Slot) (nL : Nat) (cst lv : sl_L) : Prop := ls.size = nL ∧ lv_wf ls ∧ ∀ (i : Nat) (v : sl_V), sl_get cst lv i = some v → ls[i]? = some (.val (sl_tv g v))
def sl_prs (g : sl_G) (cst lv : sl_L) (nL : Nat) : List (Nat × Value) := (List.range nL).filterMap (fun i => (sl_get cst lv i).map (fun v => (i, sl_tv g v)))
theorem sl_nth_set {l : sl_L} {i : Nat} {v : Option sl_V} {j : Nat} (h : j ≠ i) : sl_nth (sl_set l i v) j = sl_nth l j := by
  induction l generalizing i j with
  | nil => rfl
  | cons a l ih =>
    cases i with
    | zero =>
      cases j with
      | zero => exact absurd rfl h
      | succ j => rfl
    | succ i =>
      cases j with
      | zero => rfl
      | succ j => exact ih (fun q => h (by rw [q]))
theorem sl_nth_set_self {l : sl_L} {i : Nat} {v : Option sl_V} {w : sl_V} (h : sl_nth (sl_set l i v) i = some w) : v = some w := by
  induction l generalizing i with
  | nil => cases h
  | cons a l ih =>
    cases i with
    | zero => exact h
    | succ i => exact ih h
theorem sl_lh.has {g : sl_G} {ls : Array Slot} {nL : Nat} {cst lv : sl_L} (h : sl_lh g ls nL cst lv) : lv_has ls nL (sl_prs g cst lv nL) := by
  refine ⟨h.1, h.2.1, fun q hq => ?_⟩
  obtain ⟨i, -, hi⟩ := List.mem_filterMap.mp hq
  cases hg : sl_get cst lv i with
  | none => rw [hg] at hi; cases hi
  | some v =>
    rw [hg] at hi
    cases hi
    exact h.2.2 i v hg
theorem sl_prs_mem {g : sl_G} {cst lv : sl_L} {nL i : Nat} {v : sl_V} (hi : i < nL) (h : sl_get cst lv i = some v) : (i, sl_tv g v) ∈ sl_prs g cst lv nL :=
  List.mem_filterMap.mpr ⟨i, List.mem_range.mpr hi, by rw [h]; rfl⟩
theorem sl_tv_cat {g : sl_G} {v : sl_V} : (sl_tv g v).category = 2 ↔ sl_isJ (some v) = true := by
  match v with
  | .inl x => exact ⟨(fun h => by cases h), (fun h => by cases h)⟩
  | .inr (.inl x) => exact ⟨fun _ => rfl, fun _ => rfl⟩
  | .inr (.inr none) => exact ⟨(fun h => by cases h), (fun h => by cases h)⟩
  | .inr (.inr (some q)) => exact ⟨(fun h => by cases h), (fun h => by cases h)⟩
theorem sl_lh.store {g : sl_G} {ls ls' : Array Slot} {nL : Nat} {cst lv : sl_L} {i : Nat} {v : sl_V} (h : sl_lh g ls nL cst lv) (hw : sl_wr cst lv i = true)
    (h' : lv_has ls' nL ((i, sl_tv g v) :: (sl_prs g cst lv nL).filter (fun q => !(q.1 == i) && !(q.1 + 1 == i && q.2.category == 2)))) : sl_lh g ls' nL cst (sl_set lv i (some v)) := by
  unfold sl_wr at hw
  rw [Bool.and_eq_true] at hw
  have hc : sl_nth cst i = none := Option.isNone_iff_eq_none.mp hw.1
  refine ⟨h'.1, h'.2.1, fun j w hj => ?_⟩
  by_cases hji : j = i
  · subst hji
    unfold sl_get at hj
    rw [hc] at hj
    have hv := sl_nth_set_self hj
    cases hv
    exact h'.2.2 _ List.mem_cons_self
  · have hj2 : sl_get cst lv j = some w := by
      unfold sl_get at hj ⊢
      rw [sl_nth_set hji] at hj
      exact hj
    have hlt : j < nL := by
      have := h.2.2 j w hj2
      rw [← h.1]
      exact (Array.getElem?_eq_some_iff.mp this).1
    refine h'.2.2 (j, sl_tv g w) (List.mem_cons_of_mem _ (List.mem_filter.mpr ⟨sl_prs_mem hlt hj2, ?_⟩))
    have n1 : (j == i) = false := by simp [hji]
    have n2 : (j + 1 == i && (sl_tv g w).category == 2) = false := by
      by_cases e : j + 1 = i
      · subst e
        have h3 := hw.2
        simp only at h3
        rw [hj2] at h3
        have h4 : ¬ (sl_tv g w).category = 2 := fun q => by rw [sl_tv_cat.mp q] at h3; cases h3
        simp [h4]
      · simp [e]
    simp [n1, n2]
theorem sl_lh.store2 {g : sl_G} {ls ls' : Array Slot} {nL : Nat} {cst lv : sl_L} {i : Nat} {v : sl_V} (h : sl_lh g ls nL cst lv) (hw : sl_wr cst lv i = true) (hw2 : sl_nth cst (i + 1) = none)
    (h' : lv_has ls' nL ((i, sl_tv g v) :: (sl_prs g cst lv nL).filter (fun q => !(q.1 == i) && (!(q.1 == i + 1) && !(q.1 + 1 == i && q.2.category == 2))))) : sl_lh g ls' nL cst (sl_set (sl_set lv i (some v)) (i + 1) none) := by
  unfold sl_wr at hw
  rw [Bool.and_eq_true] at hw
  have hc : sl_nth cst i = none := Option.isNone_iff_eq_none.mp hw.1
  refine ⟨h'.1, h'.2.1, fun j w hj => ?_⟩
  by_cases hj1 : j = i + 1
  · subst hj1
    unfold sl_get at hj
    rw [hw2] at hj
    have hv := sl_nth_set_self hj
    cases hv
  by_cases hji : j = i
  · subst hji
    unfold sl_get at hj
    rw [hc] at hj
    have hj := (sl_nth_set (l := sl_set lv j (some v)) (v := none) (show j ≠ j + 1 by omega)).symm.trans hj
    have hv := sl_nth_set_self hj
    cases hv
    exact h'.2.2 _ List.mem_cons_self
  · have hj2 : sl_get cst lv j = some w := by
      unfold sl_get at hj ⊢
      rw [sl_nth_set hj1, sl_nth_set hji] at hj
      exact hj
    have hlt : j < nL := by
      have := h.2.2 j w hj2
      rw [← h.1]
      exact (Array.getElem?_eq_some_iff.mp this).1
    refine h'.2.2 (j, sl_tv g w) (List.mem_cons_of_mem _ (List.mem_filter.mpr ⟨sl_prs_mem hlt hj2, ?_⟩))
    have n1 : (j == i) = false := by simp [hji]
    have n3 : (j == i + 1) = false := by simp [hj1]
    have n2 : (j + 1 == i && (sl_tv g w).category == 2) = false := by
      by_cases e : j + 1 = i
      · subst e
        have h3 := hw.2
        simp only at h3
        rw [hj2] at h3
        have h4 : ¬ (sl_tv g w).category = 2 := fun q => by rw [sl_tv_cat.mp q] at h3; cases h3
        simp [h4]
      · simp [e]
    simp [n1, n2, n3]
end
