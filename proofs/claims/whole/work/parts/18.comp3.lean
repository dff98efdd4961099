/-! the recursive readers of a condition: over what readEither does one bracket deeper (E) -/
def cn_readEither_y : MethodName := ⟨"SpanLayers$Condition", "readEither", "(LSpanLayers$Tape;LSpanLayers$Index;I)I"⟩
def cn_readEither_ptE (E : sl_ET) : sl_PT := fun As μ Q => match As with
  | [.inr (.inr (some (c0, a0))), .inr (.inr (some (c1, a1))), .inr (.inr (some (c2, a2))), .inl a3] => if c0 = 2 then (if c1 = 10 then (if c2 = 5 then (if a0 = 45 then (if a1 = 43 then (if a2 = 1 then (E a3 μ (fun r μ' => Q (some (.inl r)) μ')) else False) else False) else False) else False) else False) else False
  | _ => False
def cn_readPlain (E : sl_ET) (a3 : Int32) (μ : sl_M) (Q : Int32 → sl_M → Prop) : Prop := (a3 < (5 : Int32) → tp_skip (40 : Int32) μ (fun r2 m1 => (r2 = (0 : Int32) → cn_readTest m1 (fun r4 m3 => Q r4 m3)) ∧ (¬ r2 = (0 : Int32) → E (a3 + (1 : Int32)) m1 (fun r6 m5 => tp_expect (41 : Int32) m5 (fun m7 => Q r6 m7))))) ∧ (¬ a3 < (5 : Int32) → cn_readTest μ (fun r9 m8 => Q r9 m8))
def cn_readPlain_pt (E : sl_ET) : sl_PT := fun As μ Q => match As with
  | [.inr (.inr (some (c0, a0))), .inr (.inr (some (c1, a1))), .inr (.inr (some (c2, a2))), .inl a3] => if c0 = 2 then (if c1 = 10 then (if c2 = 5 then (if a0 = 45 then (if a1 = 43 then (if a2 = 1 then (cn_readPlain E a3 μ (fun r μ' => Q (some (.inl r)) μ')) else False) else False) else False) else False) else False) else False
  | _ => False
theorem cn_readEither_w2 : Cond.instanceMethod cn_readEither_y ∈ sl_T0 := sl_in1 733 (by decide +kernel) rfl
theorem cn_readEither_w3 : Cond.selects cn_readEither_y.cls cn_readEither_y cn_readEither_y ∈ sl_T0 := sl_in1 10 (by decide +kernel) rfl
theorem cn_readEither_w4 : Cond.initialized cn_readEither_y.cls ∈ sl_T0 := sl_in1 92 (by decide +kernel) rfl
theorem cn_readEither_w5 : Cond.code cn_readEither_y prog_4_method_3_code 6 (some .int) ∈ sl_T0 := sl_in1 734 (by decide +kernel) rfl
theorem cn_readEither_w6 : cn_readEither_y.cls ≠ "java/lang/invoke/MethodHandle" ∧ cn_readEither_y.cls ≠ "java/lang/invoke/VarHandle" ∧ (parseMethodDescriptor cn_readEither_y.desc).map (fun d => d.parameters.length) = some 3 := by decide +kernel
theorem cn_readTest_w2 : Cond.static cn_readTest_y ∈ sl_T0 := sl_in1 770 (by decide +kernel) rfl
theorem cn_readTest_w4 : Cond.initialized cn_readTest_y.cls ∈ sl_T0 := sl_in1 92 (by decide +kernel) rfl
theorem cn_readTest_w5 : Cond.code cn_readTest_y prog_4_method_7_code 8 (some .int) ∈ sl_T0 := sl_in1 771 (by decide +kernel) rfl
theorem cn_readTest_w6 : cn_readTest_y.cls ≠ "java/lang/invoke/MethodHandle" ∧ cn_readTest_y.cls ≠ "java/lang/invoke/VarHandle" ∧ (parseMethodDescriptor cn_readTest_y.desc).map (fun d => d.parameters.length) = some 2 := by decide +kernel
theorem cs_cn_43 (g : sl_G) {hh : Nat} (h : 10 ≤ hh) : sl_CallS g sl_R2 43 1 0 hh 2 cn_readTest_pt := sl_callS (y := cn_readTest_y) (cn_readTest_snd g) h (by decide) (sl_in1 769 (by decide +kernel) rfl) cn_readTest_w2 cn_readTest_w4 cn_readTest_w5 cn_readTest_w6
def cn_readPlain_cd : List sl_Ent := [(0, .iload_n 3, 1, 0, [3], [], false), (1, .iconst 5, 1, 5, [], [], false), (2, .if_icmp .ge 32, 3, 0, [34], [], false), (5, .aload_n 1, 1, 0, [1], [], false), (6, .bipush 40, 2, 40, [], [], false), (8, .invokevirtual 23, 3, 0, [0], [], false), (11, .ifCond .eq 23, 3, 0, [34], [], false), (14, .aload_n 0, 1, 0, [0], [], false), (15, .aload_n 1, 1, 0, [1], [], false), (16, .aload_n 2, 1, 0, [2], [], false), (17, .iload_n 3, 1, 0, [3], [], false), (18, .iconst 1, 1, 1, [], [], false), (19, .iadd, 1, 0, [], [], false), (20, .invokevirtual 9, 3, 0, [1], [], false), (23, .istore 4, 2, 0, [4], [], false), (25, .aload_n 1, 1, 0, [1], [], false), (26, .bipush 41, 2, 41, [], [], false), (28, .invokevirtual 39, 3, 0, [2], [], false), (31, .iload 4, 2, 0, [4], [], false), (33, .ireturn, 1, 0, [], [], false), (34, .aload_n 1, 1, 0, [1], [], false), (35, .aload_n 2, 1, 0, [2], [], false), (36, .invokestatic 43, 3, 0, [3], [], false), (39, .ireturn, 1, 0, [], [], false)]
def cn_readPlain_y : MethodName := ⟨"SpanLayers$Condition", "readPlain", "(LSpanLayers$Tape;LSpanLayers$Index;I)I"⟩
theorem cn_readPlain_tb : sl_tbOK sl_R2 prog_4_method_6_code 5 (some .int) lk_cn [(23, 0), (9, 0), (39, 0), (43, 1)] cn_readPlain_cd = true := by decide +kernel
def cn_readPlain_ct (E : sl_ET) : List sl_Ct := [(2, 0, 10, tp_skip_pt), (4, 0, 2, (cn_readEither_ptE E)), (2, 0, 10, tp_expect_pt), (2, 1, 0, cn_readTest_pt)]
theorem cn_readPlain_hc (g : sl_G) (E : sl_ET) (hN : Nat) (h20 : 20 ≤ hN) (hE : sl_Snd g cn_readEither_y prog_4_method_3_code 6 (some .int) hN (cn_readEither_ptE E)) : sl_HC g sl_R2 (hN + 1) (cn_readPlain_ct E) [(23, 0), (9, 0), (39, 0), (43, 1)] := sl_HC_cons (cs_cn_23 g (Nat.le_trans (show 3 ≤ 20 by decide) (by omega))) (sl_HC_cons (sl_callV (y := cn_readEither_y) (T := sl_F2) (N := 0) hE (by omega) (by decide) (sl_in1 731 (by decide +kernel) rfl) cn_readEither_w2 cn_readEither_w3 cn_readEither_w4 cn_readEither_w5 cn_readEither_w6 rfl (by decide)) (sl_HC_cons (cs_cn_39 g (Nat.le_trans (show 4 ≤ 20 by decide) (by omega))) (sl_HC_cons (cs_cn_43 g (Nat.le_trans (show 10 ≤ 20 by decide) (by omega))) (sl_HC_nil g sl_R2 (hN + 1)))))
set_option maxRecDepth 20000 in
set_option maxHeartbeats 2000000 in
theorem cn_readPlain_snd (g : sl_G) (E : sl_ET) (hN : Nat) (h20 : 20 ≤ hN) (hE : sl_Snd g cn_readEither_y prog_4_method_3_code 6 (some .int) hN (cn_readEither_ptE E)) : sl_Snd g cn_readPlain_y prog_4_method_6_code 5 (some .int) (hN + 1) (cn_readPlain_pt E) := by
  intro As μ Q hw h
  unfold cn_readPlain_pt at h
  split at h
  next c0 a0 c1 a1 c2 a2 a3 =>
    split at h
    next e_ =>
      subst e_
      split at h
      next e_ =>
        subst e_
        split at h
        next e_ =>
          subst e_
          split at h
          next e_ =>
            subst e_
            split at h
            next e_ =>
              subst e_
              split at h
              next e_ =>
                subst e_
                refine sl_mk2 g [true, true, true, true, false] (cst := [some (.inr (.inr (some (2, 45)))), some (.inr (.inr (some (10, 43)))), some (.inr (.inr (some (5, 1)))), some (.inl a3)]) (lv0 := [none, none, none, none, none]) (by decide) rfl hw rfl rfl rfl lk_cn_ok (cn_readPlain_hc g E hN h20 hE) cn_readPlain_tb rfl ?_
                intro X M
                exact ⟨_, sl_VV0, h⟩
              next => exact h.elim
            next => exact h.elim
          next => exact h.elim
        next => exact h.elim
      next => exact h.elim
    next => exact h.elim
  next => exact h.elim
def cn_readFactor (E : sl_ET) (a3 : Int32) (μ : sl_M) (Q : Int32 → sl_M → Prop) : Prop := tp_skip (33 : Int32) μ (fun r2 m1 => (r2 = (0 : Int32) → cn_readPlain E a3 m1 (fun r4 m3 => Q r4 m3)) ∧ (¬ r2 = (0 : Int32) → ix_allBits m1 (fun r6 m5 => cn_readPlain E a3 m5 (fun r8 m7 => Q (r6 &&& (r8 ^^^ (-1 : Int32))) m7))))
def cn_readFactor_pt (E : sl_ET) : sl_PT := fun As μ Q => match As with
  | [.inr (.inr (some (c0, a0))), .inr (.inr (some (c1, a1))), .inr (.inr (some (c2, a2))), .inl a3] => if c0 = 2 then (if c1 = 10 then (if c2 = 5 then (if a0 = 45 then (if a1 = 43 then (if a2 = 1 then (cn_readFactor E a3 μ (fun r μ' => Q (some (.inl r)) μ')) else False) else False) else False) else False) else False) else False
  | _ => False
theorem ix_allBits_w2 : Cond.instanceMethod ix_allBits_y ∈ sl_T0 := sl_in1 753 (by decide +kernel) rfl
theorem ix_allBits_w3 : Cond.selects ix_allBits_y.cls ix_allBits_y ix_allBits_y ∈ sl_T0 := sl_in1 754 (by decide +kernel) rfl
theorem ix_allBits_w4 : Cond.initialized ix_allBits_y.cls ∈ sl_T0 := sl_in1 87 (by decide +kernel) rfl
theorem ix_allBits_w5 : Cond.code ix_allBits_y prog_7_method_10_code 1 (some .int) ∈ sl_T0 := sl_in1 755 (by decide +kernel) rfl
theorem ix_allBits_w6 : ix_allBits_y.cls ≠ "java/lang/invoke/MethodHandle" ∧ ix_allBits_y.cls ≠ "java/lang/invoke/VarHandle" ∧ (parseMethodDescriptor ix_allBits_y.desc).map (fun d => d.parameters.length) = some 0 := by decide +kernel
theorem cs_cn_30 (g : sl_G) {hh : Nat} (h : 3 ≤ hh) : sl_CallS g sl_R2 30 0 5 hh 1 ix_allBits_pt := sl_callV (y := ix_allBits_y) (T := sl_F5) (N := 2) (ix_allBits_snd g) h (by decide) (sl_in1 752 (by decide +kernel) rfl) ix_allBits_w2 ix_allBits_w3 ix_allBits_w4 ix_allBits_w5 ix_allBits_w6 rfl (by decide)
theorem cn_readPlain_w2 : Cond.instanceMethod cn_readPlain_y ∈ sl_T0 := sl_in1 758 (by decide +kernel) rfl
theorem cn_readPlain_w3 : Cond.selects cn_readPlain_y.cls cn_readPlain_y cn_readPlain_y ∈ sl_T0 := sl_in1 14 (by decide +kernel) rfl
theorem cn_readPlain_w4 : Cond.initialized cn_readPlain_y.cls ∈ sl_T0 := sl_in1 92 (by decide +kernel) rfl
theorem cn_readPlain_w5 : Cond.code cn_readPlain_y prog_4_method_6_code 5 (some .int) ∈ sl_T0 := sl_in1 759 (by decide +kernel) rfl
theorem cn_readPlain_w6 : cn_readPlain_y.cls ≠ "java/lang/invoke/MethodHandle" ∧ cn_readPlain_y.cls ≠ "java/lang/invoke/VarHandle" ∧ (parseMethodDescriptor cn_readPlain_y.desc).map (fun d => d.parameters.length) = some 3 := by decide +kernel
def cn_readFactor_cd : List sl_Ent := [(0, .aload_n 1, 1, 0, [1], [], false), (1, .bipush 33, 2, 33, [], [], false), (3, .invokevirtual 23, 3, 0, [0], [], false), (6, .ifCond .eq 18, 3, 0, [24], [], false), (9, .aload_n 2, 1, 0, [2], [], false), (10, .invokevirtual 30, 3, 0, [1], [], false), (13, .aload_n 0, 1, 0, [0], [], false), (14, .aload_n 1, 1, 0, [1], [], false), (15, .aload_n 2, 1, 0, [2], [], false), (16, .iload_n 3, 1, 0, [3], [], false), (17, .invokevirtual 36, 3, 0, [2], [], false), (20, .iconst (-1), 1, (-1), [], [], false), (21, .ixor, 1, 0, [], [], false), (22, .iand, 1, 0, [], [], false), (23, .ireturn, 1, 0, [], [], false), (24, .aload_n 0, 1, 0, [0], [], false), (25, .aload_n 1, 1, 0, [1], [], false), (26, .aload_n 2, 1, 0, [2], [], false), (27, .iload_n 3, 1, 0, [3], [], false), (28, .invokevirtual 36, 3, 0, [2], [], false), (31, .ireturn, 1, 0, [], [], false)]
def cn_readFactor_y : MethodName := ⟨"SpanLayers$Condition", "readFactor", "(LSpanLayers$Tape;LSpanLayers$Index;I)I"⟩
theorem cn_readFactor_tb : sl_tbOK sl_R2 prog_4_method_5_code 4 (some .int) lk_cn [(23, 0), (30, 0), (36, 0)] cn_readFactor_cd = true := by decide +kernel
def cn_readFactor_ct (E : sl_ET) : List sl_Ct := [(2, 0, 10, tp_skip_pt), (1, 0, 5, ix_allBits_pt), (4, 0, 2, (cn_readPlain_pt E))]
theorem cn_readFactor_hc (g : sl_G) (E : sl_ET) (hN : Nat) (h20 : 20 ≤ hN) (hE : sl_Snd g cn_readEither_y prog_4_method_3_code 6 (some .int) hN (cn_readEither_ptE E)) : sl_HC g sl_R2 (hN + 2) (cn_readFactor_ct E) [(23, 0), (30, 0), (36, 0)] := sl_HC_cons (cs_cn_23 g (Nat.le_trans (show 3 ≤ 20 by decide) (by omega))) (sl_HC_cons (cs_cn_30 g (Nat.le_trans (show 3 ≤ 20 by decide) (by omega))) (sl_HC_cons (sl_callV (y := cn_readPlain_y) (T := sl_F2) (N := 0) (cn_readPlain_snd g E hN h20 hE) (by omega) (by decide) (sl_in1 756 (by decide +kernel) rfl) cn_readPlain_w2 cn_readPlain_w3 cn_readPlain_w4 cn_readPlain_w5 cn_readPlain_w6 rfl (by decide)) (sl_HC_nil g sl_R2 (hN + 2))))
set_option maxRecDepth 20000 in
set_option maxHeartbeats 2000000 in
theorem cn_readFactor_snd (g : sl_G) (E : sl_ET) (hN : Nat) (h20 : 20 ≤ hN) (hE : sl_Snd g cn_readEither_y prog_4_method_3_code 6 (some .int) hN (cn_readEither_ptE E)) : sl_Snd g cn_readFactor_y prog_4_method_5_code 4 (some .int) (hN + 2) (cn_readFactor_pt E) := by
  intro As μ Q hw h
  unfold cn_readFactor_pt at h
  split at h
  next c0 a0 c1 a1 c2 a2 a3 =>
    split at h
    next e_ =>
      subst e_
      split at h
      next e_ =>
        subst e_
        split at h
        next e_ =>
          subst e_
          split at h
          next e_ =>
            subst e_
            split at h
            next e_ =>
              subst e_
              split at h
              next e_ =>
                subst e_
                refine sl_mk2 g [true, true, true, true] (cst := [some (.inr (.inr (some (2, 45)))), some (.inr (.inr (some (10, 43)))), some (.inr (.inr (some (5, 1)))), some (.inl a3)]) (lv0 := [none, none, none, none]) (by decide) rfl hw rfl rfl rfl lk_cn_ok (cn_readFactor_hc g E hN h20 hE) cn_readFactor_tb rfl ?_
                intro X M
                exact ⟨_, sl_VV0, h⟩
              next => exact h.elim
            next => exact h.elim
          next => exact h.elim
        next => exact h.elim
      next => exact h.elim
    next => exact h.elim
  next => exact h.elim
def cn_readBoth_L12 (a3 : Int32) (E : sl_ET) (Q : Int32 → sl_M → Prop) : Nat → Int32 → Int32 → sl_M → Prop
  | 0, _, _, _ => False
  | n + 1, x4, x5, μ => (x5 < (80 : Int32) → tp_skip (38 : Int32) μ (fun r2 m1 => (r2 = (0 : Int32) → Q x4 m1) ∧ (¬ r2 = (0 : Int32) → cn_readFactor E a3 m1 (fun r4 m3 => ∀ v5, v5 = (x4 &&& r4) → (cn_readBoth_L12 a3 E Q n) v5 (x5 + (1 : Int32)) m3)))) ∧ (¬ x5 < (80 : Int32) → Q x4 μ)
def cn_readBoth (E : sl_ET) (a3 : Int32) (μ : sl_M) (Q : Int32 → sl_M → Prop) : Prop := cn_readFactor E a3 μ (fun r7 m6 => ∃ n8, cn_readBoth_L12 a3 E Q n8 r7 (0 : Int32) m6)
def cn_readBoth_pt (E : sl_ET) : sl_PT := fun As μ Q => match As with
  | [.inr (.inr (some (c0, a0))), .inr (.inr (some (c1, a1))), .inr (.inr (some (c2, a2))), .inl a3] => if c0 = 2 then (if c1 = 10 then (if c2 = 5 then (if a0 = 45 then (if a1 = 43 then (if a2 = 1 then (cn_readBoth E a3 μ (fun r μ' => Q (some (.inl r)) μ')) else False) else False) else False) else False) else False) else False
  | _ => False
theorem cn_readFactor_w2 : Cond.instanceMethod cn_readFactor_y ∈ sl_T0 := sl_in1 741 (by decide +kernel) rfl
theorem cn_readFactor_w3 : Cond.selects cn_readFactor_y.cls cn_readFactor_y cn_readFactor_y ∈ sl_T0 := sl_in1 12 (by decide +kernel) rfl
theorem cn_readFactor_w4 : Cond.initialized cn_readFactor_y.cls ∈ sl_T0 := sl_in1 92 (by decide +kernel) rfl
theorem cn_readFactor_w5 : Cond.code cn_readFactor_y prog_4_method_5_code 4 (some .int) ∈ sl_T0 := sl_in1 742 (by decide +kernel) rfl
theorem cn_readFactor_w6 : cn_readFactor_y.cls ≠ "java/lang/invoke/MethodHandle" ∧ cn_readFactor_y.cls ≠ "java/lang/invoke/VarHandle" ∧ (parseMethodDescriptor cn_readFactor_y.desc).map (fun d => d.parameters.length) = some 3 := by decide +kernel
def cn_readBoth_cd : List sl_Ent := [(0, .aload_n 0, 1, 0, [0], [], false), (1, .aload_n 1, 1, 0, [1], [], false), (2, .aload_n 2, 1, 0, [2], [], false), (3, .iload_n 3, 1, 0, [3], [], false), (4, .invokevirtual 27, 3, 0, [0], [], false), (7, .istore 4, 2, 0, [4], [], false), (9, .iconst 0, 1, 0, [], [], false), (10, .istore 5, 2, 0, [5], [], false), (12, .iload 5, 2, 0, [5], [], true), (14, .bipush 80, 2, 80, [], [], false), (16, .if_icmp .ge 30, 3, 0, [46], [], false), (19, .aload_n 1, 1, 0, [1], [], false), (20, .bipush 38, 2, 38, [], [], false), (22, .invokevirtual 23, 3, 0, [1], [], false), (25, .ifCond .eq 21, 3, 0, [46], [], false), (28, .iload 4, 2, 0, [4], [], false), (30, .aload_n 0, 1, 0, [0], [], false), (31, .aload_n 1, 1, 0, [1], [], false), (32, .aload_n 2, 1, 0, [2], [], false), (33, .iload_n 3, 1, 0, [3], [], false), (34, .invokevirtual 27, 3, 0, [0], [], false), (37, .iand, 1, 0, [], [], false), (38, .istore 4, 2, 0, [4, 1], [], false), (40, .iinc 5 1, 3, 1, [], [], false), (43, .goto (-31), 3, 0, [12], [], false), (46, .iload 4, 2, 0, [4], [], false), (48, .ireturn, 1, 0, [], [], false)]
def cn_readBoth_y : MethodName := ⟨"SpanLayers$Condition", "readBoth", "(LSpanLayers$Tape;LSpanLayers$Index;I)I"⟩
theorem cn_readBoth_tb : sl_tbOK sl_R2 prog_4_method_4_code 6 (some .int) lk_cn [(27, 0), (23, 0)] cn_readBoth_cd = true := by decide +kernel
def cn_readBoth_ct (E : sl_ET) : List sl_Ct := [(4, 0, 2, (cn_readFactor_pt E)), (2, 0, 10, tp_skip_pt)]
theorem cn_readBoth_hc (g : sl_G) (E : sl_ET) (hN : Nat) (h20 : 20 ≤ hN) (hE : sl_Snd g cn_readEither_y prog_4_method_3_code 6 (some .int) hN (cn_readEither_ptE E)) : sl_HC g sl_R2 (hN + 3) (cn_readBoth_ct E) [(27, 0), (23, 0)] := sl_HC_cons (sl_callV (y := cn_readFactor_y) (T := sl_F2) (N := 0) (cn_readFactor_snd g E hN h20 hE) (by omega) (by decide) (sl_in1 739 (by decide +kernel) rfl) cn_readFactor_w2 cn_readFactor_w3 cn_readFactor_w4 cn_readFactor_w5 cn_readFactor_w6 rfl (by decide)) (sl_HC_cons (cs_cn_23 g (Nat.le_trans (show 3 ≤ 20 by decide) (by omega))) (sl_HC_nil g sl_R2 (hN + 3)))
set_option maxRecDepth 20000 in
set_option maxHeartbeats 2000000 in
theorem cn_readBoth_snd (g : sl_G) (E : sl_ET) (hN : Nat) (h20 : 20 ≤ hN) (hE : sl_Snd g cn_readEither_y prog_4_method_3_code 6 (some .int) hN (cn_readEither_ptE E)) : sl_Snd g cn_readBoth_y prog_4_method_4_code 6 (some .int) (hN + 3) (cn_readBoth_pt E) := by
  intro As μ Q hw h
  unfold cn_readBoth_pt at h
  split at h
  next c0 a0 c1 a1 c2 a2 a3 =>
    split at h
    next e_ =>
      subst e_
      split at h
      next e_ =>
        subst e_
        split at h
        next e_ =>
          subst e_
          split at h
          next e_ =>
            subst e_
            split at h
            next e_ =>
              subst e_
              split at h
              next e_ =>
                subst e_
                refine sl_mk2 g [true, true, true, true, false, false] (cst := [some (.inr (.inr (some (2, 45)))), some (.inr (.inr (some (10, 43)))), some (.inr (.inr (some (5, 1)))), some (.inl a3)]) (lv0 := [none, none, none, none, none, none]) (by decide) rfl hw rfl rfl rfl lk_cn_ok (cn_readBoth_hc g E hN h20 hE) cn_readBoth_tb rfl ?_
                intro X M
                have v12 := sl_extL M sl_VV0 12 (fun n lv st μ => match lv, st with | [_, _, _, _, some (.inl x4), some (.inl x5)], [] => cn_readBoth_L12 a3 E (fun r μ' => Q (some (.inl r)) μ') n x4 x5 μ | _, _ => False) (by
                    intro lv st μ h
                    split at h
                    · exact h
                    · exact h) (by
                    intro n12 w12
                    refine ⟨_, w12, ?_⟩
                    intro lv st μ h
                    split at h
                    · exact h
                    · exact h.elim)
                exact ⟨_, v12, h⟩
              next => exact h.elim
            next => exact h.elim
          next => exact h.elim
        next => exact h.elim
      next => exact h.elim
    next => exact h.elim
  next => exact h.elim
def cn_readEither_L12 (a3 : Int32) (E : sl_ET) (Q : Int32 → sl_M → Prop) : Nat → Int32 → Int32 → sl_M → Prop
  | 0, _, _, _ => False
  | n + 1, x4, x5, μ => (x5 < (80 : Int32) → tp_skip (124 : Int32) μ (fun r2 m1 => (r2 = (0 : Int32) → Q x4 m1) ∧ (¬ r2 = (0 : Int32) → cn_readBoth E a3 m1 (fun r4 m3 => ∀ v5, v5 = (x4 ||| r4) → (cn_readEither_L12 a3 E Q n) v5 (x5 + (1 : Int32)) m3)))) ∧ (¬ x5 < (80 : Int32) → Q x4 μ)
def cn_readEither (E : sl_ET) (a3 : Int32) (μ : sl_M) (Q : Int32 → sl_M → Prop) : Prop := cn_readBoth E a3 μ (fun r7 m6 => ∃ n8, cn_readEither_L12 a3 E Q n8 r7 (0 : Int32) m6)
def cn_readEither_pt (E : sl_ET) : sl_PT := fun As μ Q => match As with
  | [.inr (.inr (some (c0, a0))), .inr (.inr (some (c1, a1))), .inr (.inr (some (c2, a2))), .inl a3] => if c0 = 2 then (if c1 = 10 then (if c2 = 5 then (if a0 = 45 then (if a1 = 43 then (if a2 = 1 then (cn_readEither E a3 μ (fun r μ' => Q (some (.inl r)) μ')) else False) else False) else False) else False) else False) else False
  | _ => False
theorem cn_readBoth_w2 : Cond.instanceMethod cn_readBoth_y ∈ sl_T0 := sl_in1 737 (by decide +kernel) rfl
theorem cn_readBoth_w3 : Cond.selects cn_readBoth_y.cls cn_readBoth_y cn_readBoth_y ∈ sl_T0 := sl_in1 11 (by decide +kernel) rfl
theorem cn_readBoth_w4 : Cond.initialized cn_readBoth_y.cls ∈ sl_T0 := sl_in1 92 (by decide +kernel) rfl
theorem cn_readBoth_w5 : Cond.code cn_readBoth_y prog_4_method_4_code 6 (some .int) ∈ sl_T0 := sl_in1 738 (by decide +kernel) rfl
theorem cn_readBoth_w6 : cn_readBoth_y.cls ≠ "java/lang/invoke/MethodHandle" ∧ cn_readBoth_y.cls ≠ "java/lang/invoke/VarHandle" ∧ (parseMethodDescriptor cn_readBoth_y.desc).map (fun d => d.parameters.length) = some 3 := by decide +kernel
def cn_readEither_cd : List sl_Ent := [(0, .aload_n 0, 1, 0, [0], [], false), (1, .aload_n 1, 1, 0, [1], [], false), (2, .aload_n 2, 1, 0, [2], [], false), (3, .iload_n 3, 1, 0, [3], [], false), (4, .invokevirtual 20, 3, 0, [0], [], false), (7, .istore 4, 2, 0, [4], [], false), (9, .iconst 0, 1, 0, [], [], false), (10, .istore 5, 2, 0, [5], [], false), (12, .iload 5, 2, 0, [5], [], true), (14, .bipush 80, 2, 80, [], [], false), (16, .if_icmp .ge 30, 3, 0, [46], [], false), (19, .aload_n 1, 1, 0, [1], [], false), (20, .bipush 124, 2, 124, [], [], false), (22, .invokevirtual 23, 3, 0, [1], [], false), (25, .ifCond .eq 21, 3, 0, [46], [], false), (28, .iload 4, 2, 0, [4], [], false), (30, .aload_n 0, 1, 0, [0], [], false), (31, .aload_n 1, 1, 0, [1], [], false), (32, .aload_n 2, 1, 0, [2], [], false), (33, .iload_n 3, 1, 0, [3], [], false), (34, .invokevirtual 20, 3, 0, [0], [], false), (37, .ior, 1, 0, [], [], false), (38, .istore 4, 2, 0, [4, 1], [], false), (40, .iinc 5 1, 3, 1, [], [], false), (43, .goto (-31), 3, 0, [12], [], false), (46, .iload 4, 2, 0, [4], [], false), (48, .ireturn, 1, 0, [], [], false)]
theorem cn_readEither_tb : sl_tbOK sl_R2 prog_4_method_3_code 6 (some .int) lk_cn [(20, 0), (23, 0)] cn_readEither_cd = true := by decide +kernel
def cn_readEither_ct (E : sl_ET) : List sl_Ct := [(4, 0, 2, (cn_readBoth_pt E)), (2, 0, 10, tp_skip_pt)]
theorem cn_readEither_hc (g : sl_G) (E : sl_ET) (hN : Nat) (h20 : 20 ≤ hN) (hE : sl_Snd g cn_readEither_y prog_4_method_3_code 6 (some .int) hN (cn_readEither_ptE E)) : sl_HC g sl_R2 (hN + 4) (cn_readEither_ct E) [(20, 0), (23, 0)] := sl_HC_cons (sl_callV (y := cn_readBoth_y) (T := sl_F2) (N := 0) (cn_readBoth_snd g E hN h20 hE) (by omega) (by decide) (sl_in1 735 (by decide +kernel) rfl) cn_readBoth_w2 cn_readBoth_w3 cn_readBoth_w4 cn_readBoth_w5 cn_readBoth_w6 rfl (by decide)) (sl_HC_cons (cs_cn_23 g (Nat.le_trans (show 3 ≤ 20 by decide) (by omega))) (sl_HC_nil g sl_R2 (hN + 4)))
set_option maxRecDepth 20000 in
set_option maxHeartbeats 2000000 in
theorem cn_readEither_snd (g : sl_G) (E : sl_ET) (hN : Nat) (h20 : 20 ≤ hN) (hE : sl_Snd g cn_readEither_y prog_4_method_3_code 6 (some .int) hN (cn_readEither_ptE E)) : sl_Snd g cn_readEither_y prog_4_method_3_code 6 (some .int) (hN + 4) (cn_readEither_pt E) := by
  intro As μ Q hw h
  unfold cn_readEither_pt at h
  split at h
  next c0 a0 c1 a1 c2 a2 a3 =>
    split at h
    next e_ =>
      subst e_
      split at h
      next e_ =>
        subst e_
        split at h
        next e_ =>
          subst e_
          split at h
          next e_ =>
            subst e_
            split at h
            next e_ =>
              subst e_
              split at h
              next e_ =>
                subst e_
                refine sl_mk2 g [true, true, true, true, false, false] (cst := [some (.inr (.inr (some (2, 45)))), some (.inr (.inr (some (10, 43)))), some (.inr (.inr (some (5, 1)))), some (.inl a3)]) (lv0 := [none, none, none, none, none, none]) (by decide) rfl hw rfl rfl rfl lk_cn_ok (cn_readEither_hc g E hN h20 hE) cn_readEither_tb rfl ?_
                intro X M
                have v12 := sl_extL M sl_VV0 12 (fun n lv st μ => match lv, st with | [_, _, _, _, some (.inl x4), some (.inl x5)], [] => cn_readEither_L12 a3 E (fun r μ' => Q (some (.inl r)) μ') n x4 x5 μ | _, _ => False) (by
                    intro lv st μ h
                    split at h
                    · exact h
                    · exact h) (by
                    intro n12 w12
                    refine ⟨_, w12, ?_⟩
                    intro lv st μ h
                    split at h
                    · exact h
                    · exact h.elim)
                exact ⟨_, v12, h⟩
              next => exact h.elim
            next => exact h.elim
          next => exact h.elim
        next => exact h.elim
      next => exact h.elim
    next => exact h.elim
  next => exact h.elim
def cn_E : Nat → sl_ET
  | 0 => fun _ _ _ => False
  | d + 1 => cn_readEither (cn_E d)
theorem cn_E_snd (g : sl_G) : ∀ d, sl_Snd g cn_readEither_y prog_4_method_3_code 6 (some .int) (20 + 4 * d) (cn_readEither_ptE (cn_E d)) := by
  intro d
  induction d with
  | zero =>
    intro As μ Q hw h
    unfold cn_readEither_ptE at h
    split at h
    next =>
      (repeat' split at h) <;> exact False.elim h
    next => exact h.elim
  | succ d ih => exact cn_readEither_snd g (cn_E d) (20 + 4 * d) (by omega) ih
def cn_readFrom (μ : sl_M) (Q : Int32 → sl_M → Prop) : Prop := cn_E 6 (0 : Int32) μ (fun r2 m1 => tp_expectEnd m1 (fun m3 => Q r2 m3))
def cn_readFrom_pt : sl_PT := fun As μ Q => match As with
  | [.inr (.inr (some (c0, a0))), .inr (.inr (some (c1, a1))), .inr (.inr (some (c2, a2)))] => if c0 = 2 then (if c1 = 10 then (if c2 = 5 then (if a0 = 45 then (if a1 = 43 then (if a2 = 1 then (cn_readFrom μ (fun r μ' => Q (some (.inl r)) μ')) else False) else False) else False) else False) else False) else False
  | _ => False
def cn_readFrom_cd : List sl_Ent := [(0, .aload_n 0, 1, 0, [0], [], false), (1, .aload_n 1, 1, 0, [1], [], false), (2, .aload_n 2, 1, 0, [2], [], false), (3, .iconst 0, 1, 0, [], [], false), (4, .invokevirtual 9, 3, 0, [0], [], false), (7, .istore_n 3, 1, 0, [3], [], false), (8, .aload_n 1, 1, 0, [1], [], false), (9, .invokevirtual 15, 3, 0, [1], [], false), (12, .iload_n 3, 1, 0, [3], [], false), (13, .ireturn, 1, 0, [], [], false)]
def cn_readFrom_y : MethodName := ⟨"SpanLayers$Condition", "readFrom", "(LSpanLayers$Tape;LSpanLayers$Index;)I"⟩
theorem cn_readFrom_tb : sl_tbOK sl_R2 prog_4_method_2_code 4 (some .int) lk_cn [(9, 0), (15, 0)] cn_readFrom_cd = true := by decide +kernel
theorem cs_cn_9 (g : sl_G) {hh : Nat} (h : 45 ≤ hh) : sl_CallS g sl_R2 9 0 2 hh 4 (cn_readEither_ptE (cn_E 6)) := sl_callV (y := cn_readEither_y) (T := sl_F2) (N := 0) (cn_E_snd g 6) h (by decide) (sl_in1 731 (by decide +kernel) rfl) cn_readEither_w2 cn_readEither_w3 cn_readEither_w4 cn_readEither_w5 cn_readEither_w6 rfl (by decide)
theorem cs_cn_15 (g : sl_G) {hh : Nat} (h : 2 ≤ hh) : sl_CallS g sl_R2 15 0 10 hh 1 tp_expectEnd_pt := sl_callV (y := tp_expectEnd_y) (T := sl_F10) (N := 4) (tp_expectEnd_snd g) h (by decide) (sl_in1 847 (by decide +kernel) rfl) tp_expectEnd_w2 tp_expectEnd_w3 tp_expectEnd_w4 tp_expectEnd_w5 tp_expectEnd_w6 rfl (by decide)
def cn_readFrom_ct : List sl_Ct := [(4, 0, 2, (cn_readEither_ptE (cn_E 6))), (1, 0, 10, tp_expectEnd_pt)]
theorem cn_readFrom_hc (g : sl_G) : sl_HC g sl_R2 45 cn_readFrom_ct [(9, 0), (15, 0)] := sl_HC_cons (cs_cn_9 g (by decide)) (sl_HC_cons (cs_cn_15 g (by decide)) (sl_HC_nil g sl_R2 45))
set_option maxRecDepth 20000 in
set_option maxHeartbeats 2000000 in
theorem cn_readFrom_snd (g : sl_G) : sl_Snd g cn_readFrom_y prog_4_method_2_code 4 (some .int) 45 (cn_readFrom_pt) := by
  intro As μ Q hw h
  unfold cn_readFrom_pt at h
  split at h
  next c0 a0 c1 a1 c2 a2 =>
    split at h
    next e_ =>
      subst e_
      split at h
      next e_ =>
        subst e_
        split at h
        next e_ =>
          subst e_
          split at h
          next e_ =>
            subst e_
            split at h
            next e_ =>
              subst e_
              split at h
              next e_ =>
                subst e_
                refine sl_mk2 g [true, true, true, false] (cst := [some (.inr (.inr (some (2, 45)))), some (.inr (.inr (some (10, 43)))), some (.inr (.inr (some (5, 1))))]) (lv0 := [none, none, none, none]) (by decide) rfl hw rfl rfl rfl lk_cn_ok (cn_readFrom_hc g) cn_readFrom_tb rfl ?_
                intro X M
                exact ⟨_, sl_VV0, h⟩
              next => exact h.elim
            next => exact h.elim
          next => exact h.elim
        next => exact h.elim
      next => exact h.elim
    next => exact h.elim
  next => exact h.elim
