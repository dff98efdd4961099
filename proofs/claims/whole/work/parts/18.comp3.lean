/-! the recursive readers of a condition: over what readEither does one bracket deeper (E) -/
def cn_readEither_y : MethodName := ⟨"SpanLayers$Condition", "readEither", "(LSpanLayers$Tape;LSpanLayers$Index;I)I"⟩
def cn_readEither_ptE (E : sl_ET) : sl_PT := fun As μ Q => match As with
  | [.inr (.inr (some (c0, a0))), .inr (.inr (some (c1, a1))), .inr (.inr (some (c2, a2))), .inl a3] => if c0 = 2 then (if c1 = 10 then (if c2 = 5 then (if a0 = 45 then (if a1 = 43 then (if a2 = 1 then (E a3 μ (fun r μ' => Q (some (.inl r)) μ')) else False) else False) else False) else False) else False) else False
  | _ => False
def cn_readFactor_B49 (a3 : Int32) (E : sl_ET) (Q : Int32 → sl_M → Prop) : Int32 → Int32 → sl_M → Prop
  | x4, x5, μ => (x4 = (0 : Int32) → Q x5 μ) ∧ (¬ x4 = (0 : Int32) → ix_allBits μ (fun r2 m1 => Q (r2 &&& (x5 ^^^ (-1 : Int32))) m1))
def cn_readFactor (E : sl_ET) (a3 : Int32) (μ : sl_M) (Q : Int32 → sl_M → Prop) : Prop := tp_skip (33 : Int32) μ (fun r4 m3 => (a3 < (5 : Int32) → tp_skip (40 : Int32) m3 (fun r6 m5 => (r6 = (0 : Int32) → cn_readTest m5 (fun r8 m7 => cn_readFactor_B49 a3 E Q r4 r8 m7)) ∧ (¬ r6 = (0 : Int32) → E (a3 + (1 : Int32)) m5 (fun r10 m9 => tp_expect (41 : Int32) m9 (fun m11 => cn_readFactor_B49 a3 E Q r4 r10 m11))))) ∧ (¬ a3 < (5 : Int32) → cn_readTest m3 (fun r13 m12 => cn_readFactor_B49 a3 E Q r4 r13 m12)))
def cn_readFactor_pt (E : sl_ET) : sl_PT := fun As μ Q => match As with
  | [.inr (.inr (some (c0, a0))), .inr (.inr (some (c1, a1))), .inr (.inr (some (c2, a2))), .inl a3] => if c0 = 2 then (if c1 = 10 then (if c2 = 5 then (if a0 = 45 then (if a1 = 43 then (if a2 = 1 then (cn_readFactor E a3 μ (fun r μ' => Q (some (.inl r)) μ')) else False) else False) else False) else False) else False) else False
  | _ => False
theorem cn_readEither_w2 : Cond.instanceMethod cn_readEither_y ∈ sl_T0 := sl_in1 729 (by decide +kernel) rfl
theorem cn_readEither_w3 : Cond.selects cn_readEither_y.cls cn_readEither_y cn_readEither_y ∈ sl_T0 := sl_in1 10 (by decide +kernel) rfl
theorem cn_readEither_w4 : Cond.initialized cn_readEither_y.cls ∈ sl_T0 := sl_in1 91 (by decide +kernel) rfl
theorem cn_readEither_w5 : Cond.code cn_readEither_y prog_4_method_2_code 6 (some .int) ∈ sl_T0 := sl_in1 730 (by decide +kernel) rfl
theorem cn_readEither_w6 : cn_readEither_y.cls ≠ "java/lang/invoke/MethodHandle" ∧ cn_readEither_y.cls ≠ "java/lang/invoke/VarHandle" ∧ (parseMethodDescriptor cn_readEither_y.desc).map (fun d => d.parameters.length) = some 3 := by decide +kernel
theorem cs_cn_27 (g : sl_G) {hh : Nat} (h : 3 ≤ hh) : sl_CallS g sl_R2 27 0 10 hh 2 tp_expect_pt := sl_callV (y := tp_expect_y) (T := sl_F10) (N := 4) (tp_expect_snd g) h (by decide) (sl_in1 748 (by decide +kernel) rfl) tp_expect_w2 tp_expect_w3 tp_expect_w4 tp_expect_w5 tp_expect_w6 rfl (by decide)
theorem cn_readTest_w2 : Cond.static cn_readTest_y ∈ sl_T0 := sl_in1 758 (by decide +kernel) rfl
theorem cn_readTest_w4 : Cond.initialized cn_readTest_y.cls ∈ sl_T0 := sl_in1 91 (by decide +kernel) rfl
theorem cn_readTest_w5 : Cond.code cn_readTest_y prog_4_method_5_code 8 (some .int) ∈ sl_T0 := sl_in1 759 (by decide +kernel) rfl
theorem cn_readTest_w6 : cn_readTest_y.cls ≠ "java/lang/invoke/MethodHandle" ∧ cn_readTest_y.cls ≠ "java/lang/invoke/VarHandle" ∧ (parseMethodDescriptor cn_readTest_y.desc).map (fun d => d.parameters.length) = some 2 := by decide +kernel
theorem cs_cn_31 (g : sl_G) {hh : Nat} (h : 10 ≤ hh) : sl_CallS g sl_R2 31 1 0 hh 2 cn_readTest_pt := sl_callS (y := cn_readTest_y) (cn_readTest_snd g) h (by decide) (sl_in1 757 (by decide +kernel) rfl) cn_readTest_w2 cn_readTest_w4 cn_readTest_w5 cn_readTest_w6
theorem ix_allBits_w2 : Cond.instanceMethod ix_allBits_y ∈ sl_T0 := sl_in1 837 (by decide +kernel) rfl
theorem ix_allBits_w3 : Cond.selects ix_allBits_y.cls ix_allBits_y ix_allBits_y ∈ sl_T0 := sl_in1 838 (by decide +kernel) rfl
theorem ix_allBits_w4 : Cond.initialized ix_allBits_y.cls ∈ sl_T0 := sl_in1 86 (by decide +kernel) rfl
theorem ix_allBits_w5 : Cond.code ix_allBits_y prog_7_method_10_code 1 (some .int) ∈ sl_T0 := sl_in1 839 (by decide +kernel) rfl
theorem ix_allBits_w6 : ix_allBits_y.cls ≠ "java/lang/invoke/MethodHandle" ∧ ix_allBits_y.cls ≠ "java/lang/invoke/VarHandle" ∧ (parseMethodDescriptor ix_allBits_y.desc).map (fun d => d.parameters.length) = some 0 := by decide +kernel
theorem cs_cn_35 (g : sl_G) {hh : Nat} (h : 3 ≤ hh) : sl_CallS g sl_R2 35 0 5 hh 1 ix_allBits_pt := sl_callV (y := ix_allBits_y) (T := sl_F5) (N := 2) (ix_allBits_snd g) h (by decide) (sl_in1 836 (by decide +kernel) rfl) ix_allBits_w2 ix_allBits_w3 ix_allBits_w4 ix_allBits_w5 ix_allBits_w6 rfl (by decide)
def cn_readFactor_cd : List sl_Ent := [(0, .aload_n 1, 1, 0, [1], [], false), (1, .bipush 33, 2, 33, [], [], false), (3, .invokevirtual 15, 3, 0, [0], [], false), (6, .istore 4, 2, 0, [4], [], false), (8, .iload_n 3, 1, 0, [3], [], false), (9, .iconst 5, 1, 5, [], [], false), (10, .if_icmp .ge 32, 3, 0, [42], [], false), (13, .aload_n 1, 1, 0, [1], [], false), (14, .bipush 40, 2, 40, [], [], false), (16, .invokevirtual 15, 3, 0, [0], [], false), (19, .ifCond .eq 23, 3, 0, [42], [], false), (22, .aload_n 0, 1, 0, [0], [], false), (23, .aload_n 1, 1, 0, [1], [], false), (24, .aload_n 2, 1, 0, [2], [], false), (25, .iload_n 3, 1, 0, [3], [], false), (26, .iconst 1, 1, 1, [], [], false), (27, .iadd, 1, 0, [], [], false), (28, .invokevirtual 24, 3, 0, [1], [], false), (31, .istore 5, 2, 0, [5], [], false), (33, .aload_n 1, 1, 0, [1], [], false), (34, .bipush 41, 2, 41, [], [], false), (36, .invokevirtual 27, 3, 0, [2], [], false), (39, .goto 10, 3, 0, [49], [], false), (42, .aload_n 1, 1, 0, [1], [], false), (43, .aload_n 2, 1, 0, [2], [], false), (44, .invokestatic 31, 3, 0, [3], [], false), (47, .istore 5, 2, 0, [5], [], false), (49, .iload 4, 2, 0, [4], [], true), (51, .ifCond .eq 15, 3, 0, [66], [], false), (54, .aload_n 2, 1, 0, [2], [], false), (55, .invokevirtual 35, 3, 0, [4], [], false), (58, .iload 5, 2, 0, [5], [], false), (60, .iconst (-1), 1, (-1), [], [], false), (61, .ixor, 1, 0, [], [], false), (62, .iand, 1, 0, [], [], false), (63, .goto 5, 3, 0, [68], [], false), (66, .iload 5, 2, 0, [5], [], false), (68, .ireturn, 1, 0, [], [], false)]
def cn_readFactor_y : MethodName := ⟨"SpanLayers$Condition", "readFactor", "(LSpanLayers$Tape;LSpanLayers$Index;I)I"⟩
theorem cn_readFactor_tb : sl_tbOK sl_R2 prog_4_method_4_code 6 (some .int) lk_cn [(15, 0), (24, 0), (27, 0), (31, 1), (35, 0)] cn_readFactor_cd = true := by decide +kernel
def cn_readFactor_ct (E : sl_ET) : List sl_Ct := [(2, 0, 10, tp_skip_pt), (4, 0, 2, (cn_readEither_ptE E)), (2, 0, 10, tp_expect_pt), (2, 1, 0, cn_readTest_pt), (1, 0, 5, ix_allBits_pt)]
theorem cn_readFactor_hc (g : sl_G) (E : sl_ET) (hN : Nat) (h20 : 20 ≤ hN) (hE : sl_Snd g cn_readEither_y prog_4_method_2_code 6 (some .int) hN (cn_readEither_ptE E)) : sl_HC g sl_R2 (hN + 1) (cn_readFactor_ct E) [(15, 0), (24, 0), (27, 0), (31, 1), (35, 0)] := sl_HC_cons (cs_cn_15 g (Nat.le_trans (show 2 ≤ 20 by decide) (by omega))) (sl_HC_cons (sl_callV (y := cn_readEither_y) (T := sl_F2) (N := 0) hE (by omega) (by decide) (sl_in1 747 (by decide +kernel) rfl) cn_readEither_w2 cn_readEither_w3 cn_readEither_w4 cn_readEither_w5 cn_readEither_w6 rfl (by decide)) (sl_HC_cons (cs_cn_27 g (Nat.le_trans (show 3 ≤ 20 by decide) (by omega))) (sl_HC_cons (cs_cn_31 g (Nat.le_trans (show 10 ≤ 20 by decide) (by omega))) (sl_HC_cons (cs_cn_35 g (Nat.le_trans (show 3 ≤ 20 by decide) (by omega))) (sl_HC_nil g sl_R2 (hN + 1))))))
set_option maxRecDepth 20000 in
set_option maxHeartbeats 2000000 in
theorem cn_readFactor_snd (g : sl_G) (E : sl_ET) (hN : Nat) (h20 : 20 ≤ hN) (hE : sl_Snd g cn_readEither_y prog_4_method_2_code 6 (some .int) hN (cn_readEither_ptE E)) : sl_Snd g cn_readFactor_y prog_4_method_4_code 6 (some .int) (hN + 1) (cn_readFactor_pt E) := by
  intro As μ Q hw h
  unfold cn_readFactor_pt at h
  split at h
  next c0 a0 c1 a1 c2 a2 a3 =>
    split at h
    next e_ =>
      subst e_
      split at h
      next e_ =>
        subst e_
        split at h
        next e_ =>
          subst e_
          split at h
          next e_ =>
            subst e_
            split at h
            next e_ =>
              subst e_
              split at h
              next e_ =>
                subst e_
                refine sl_mk2 g [true, true, true, true, false, false] (cst := [some (.inr (.inr (some (2, 45)))), some (.inr (.inr (some (10, 43)))), some (.inr (.inr (some (5, 1)))), some (.inl a3)]) (lv0 := [none, none, none, none, none, none]) (by decide) rfl hw rfl rfl rfl lk_cn_ok (cn_readFactor_hc g E hN h20 hE) cn_readFactor_tb rfl ?_
                intro X M
                have v49 := sl_ext M sl_VV0 49 (fun lv st μ => match lv, st with | [_, _, _, _, some (.inl x4), some (.inl x5)], [] => cn_readFactor_B49 a3 E (fun r μ' => Q (some (.inl r)) μ') x4 x5 μ | _, _ => False) (by
                    intro lv st μ h
                    split at h
                    · exact h
                    · exact h.elim)
                exact ⟨_, v49, h⟩
              next => exact h.elim
            next => exact h.elim
          next => exact h.elim
        next => exact h.elim
      next => exact h.elim
    next => exact h.elim
  next => exact h.elim
def cn_readBoth_L12 (a3 : Int32) (E : sl_ET) (Q : Int32 → sl_M → Prop) : Nat → Int32 → Int32 → sl_M → Prop
  | 0, _, _, _ => False
  | n + 1, x4, x5, μ => (x5 < (80 : Int32) → tp_skip (38 : Int32) μ (fun r2 m1 => (r2 = (0 : Int32) → Q x4 m1) ∧ (¬ r2 = (0 : Int32) → cn_readFactor E a3 m1 (fun r4 m3 => ∀ v5, v5 = (x4 &&& r4) → (cn_readBoth_L12 a3 E Q n) v5 (x5 + (1 : Int32)) m3)))) ∧ (¬ x5 < (80 : Int32) → Q x4 μ)
def cn_readBoth (E : sl_ET) (a3 : Int32) (μ : sl_M) (Q : Int32 → sl_M → Prop) : Prop := cn_readFactor E a3 μ (fun r7 m6 => ∃ n8, cn_readBoth_L12 a3 E Q n8 r7 (0 : Int32) m6)
def cn_readBoth_pt (E : sl_ET) : sl_PT := fun As μ Q => match As with
  | [.inr (.inr (some (c0, a0))), .inr (.inr (some (c1, a1))), .inr (.inr (some (c2, a2))), .inl a3] => if c0 = 2 then (if c1 = 10 then (if c2 = 5 then (if a0 = 45 then (if a1 = 43 then (if a2 = 1 then (cn_readBoth E a3 μ (fun r μ' => Q (some (.inl r)) μ')) else False) else False) else False) else False) else False) else False
  | _ => False
theorem cn_readFactor_w2 : Cond.instanceMethod cn_readFactor_y ∈ sl_T0 := sl_in1 737 (by decide +kernel) rfl
theorem cn_readFactor_w3 : Cond.selects cn_readFactor_y.cls cn_readFactor_y cn_readFactor_y ∈ sl_T0 := sl_in1 12 (by decide +kernel) rfl
theorem cn_readFactor_w4 : Cond.initialized cn_readFactor_y.cls ∈ sl_T0 := sl_in1 91 (by decide +kernel) rfl
theorem cn_readFactor_w5 : Cond.code cn_readFactor_y prog_4_method_4_code 6 (some .int) ∈ sl_T0 := sl_in1 738 (by decide +kernel) rfl
theorem cn_readFactor_w6 : cn_readFactor_y.cls ≠ "java/lang/invoke/MethodHandle" ∧ cn_readFactor_y.cls ≠ "java/lang/invoke/VarHandle" ∧ (parseMethodDescriptor cn_readFactor_y.desc).map (fun d => d.parameters.length) = some 3 := by decide +kernel
def cn_readBoth_cd : List sl_Ent := [(0, .aload_n 0, 1, 0, [0], [], false), (1, .aload_n 1, 1, 0, [1], [], false), (2, .aload_n 2, 1, 0, [2], [], false), (3, .iload_n 3, 1, 0, [3], [], false), (4, .invokevirtual 21, 3, 0, [0], [], false), (7, .istore 4, 2, 0, [4], [], false), (9, .iconst 0, 1, 0, [], [], false), (10, .istore 5, 2, 0, [5], [], false), (12, .iload 5, 2, 0, [5], [], true), (14, .bipush 80, 2, 80, [], [], false), (16, .if_icmp .ge 30, 3, 0, [46], [], false), (19, .aload_n 1, 1, 0, [1], [], false), (20, .bipush 38, 2, 38, [], [], false), (22, .invokevirtual 15, 3, 0, [1], [], false), (25, .ifCond .eq 21, 3, 0, [46], [], false), (28, .iload 4, 2, 0, [4], [], false), (30, .aload_n 0, 1, 0, [0], [], false), (31, .aload_n 1, 1, 0, [1], [], false), (32, .aload_n 2, 1, 0, [2], [], false), (33, .iload_n 3, 1, 0, [3], [], false), (34, .invokevirtual 21, 3, 0, [0], [], false), (37, .iand, 1, 0, [], [], false), (38, .istore 4, 2, 0, [4, 1], [], false), (40, .iinc 5 1, 3, 1, [], [], false), (43, .goto (-31), 3, 0, [12], [], false), (46, .iload 4, 2, 0, [4], [], false), (48, .ireturn, 1, 0, [], [], false)]
def cn_readBoth_y : MethodName := ⟨"SpanLayers$Condition", "readBoth", "(LSpanLayers$Tape;LSpanLayers$Index;I)I"⟩
theorem cn_readBoth_tb : sl_tbOK sl_R2 prog_4_method_3_code 6 (some .int) lk_cn [(21, 0), (15, 0)] cn_readBoth_cd = true := by decide +kernel
def cn_readBoth_ct (E : sl_ET) : List sl_Ct := [(4, 0, 2, (cn_readFactor_pt E)), (2, 0, 10, tp_skip_pt)]
theorem cn_readBoth_hc (g : sl_G) (E : sl_ET) (hN : Nat) (h20 : 20 ≤ hN) (hE : sl_Snd g cn_readEither_y prog_4_method_2_code 6 (some .int) hN (cn_readEither_ptE E)) : sl_HC g sl_R2 (hN + 2) (cn_readBoth_ct E) [(21, 0), (15, 0)] := sl_HC_cons (sl_callV (y := cn_readFactor_y) (T := sl_F2) (N := 0) (cn_readFactor_snd g E hN h20 hE) (by omega) (by decide) (sl_in1 735 (by decide +kernel) rfl) cn_readFactor_w2 cn_readFactor_w3 cn_readFactor_w4 cn_readFactor_w5 cn_readFactor_w6 rfl (by decide)) (sl_HC_cons (cs_cn_15 g (Nat.le_trans (show 2 ≤ 20 by decide) (by omega))) (sl_HC_nil g sl_R2 (hN + 2)))
set_option maxRecDepth 20000 in
set_option maxHeartbeats 2000000 in
theorem cn_readBoth_snd (g : sl_G) (E : sl_ET) (hN : Nat) (h20 : 20 ≤ hN) (hE : sl_Snd g cn_readEither_y prog_4_method_2_code 6 (some .int) hN (cn_readEither_ptE E)) : sl_Snd g cn_readBoth_y prog_4_method_3_code 6 (some .int) (hN + 2) (cn_readBoth_pt E) := by
  intro As μ Q hw h
  unfold cn_readBoth_pt at h
  split at h
  next c0 a0 c1 a1 c2 a2 a3 =>
    split at h
    next e_ =>
      subst e_
      split at h
      next e_ =>
        subst e_
        split at h
        next e_ =>
          subst e_
          split at h
          next e_ =>
            subst e_
            split at h
            next e_ =>
              subst e_
              split at h
              next e_ =>
                subst e_
                refine sl_mk2 g [true, true, true, true, false, false] (cst := [some (.inr (.inr (some (2, 45)))), some (.inr (.inr (some (10, 43)))), some (.inr (.inr (some (5, 1)))), some (.inl a3)]) (lv0 := [none, none, none, none, none, none]) (by decide) rfl hw rfl rfl rfl lk_cn_ok (cn_readBoth_hc g E hN h20 hE) cn_readBoth_tb rfl ?_
                intro X M
                have v12 := sl_extL M sl_VV0 12 (fun n lv st μ => match lv, st with | [_, _, _, _, some (.inl x4), some (.inl x5)], [] => cn_readBoth_L12 a3 E (fun r μ' => Q (some (.inl r)) μ') n x4 x5 μ | _, _ => False) (by
                    intro lv st μ h
                    split at h
                    · exact h
                    · exact h) (by
                    intro n12 w12
                    refine ⟨_, w12, ?_⟩
                    intro lv st μ h
                    split at h
                    · exact h
                    · exact h.elim)
                exact ⟨_, v12, h⟩
              next => exact h.elim
            next => exact h.elim
          next => exact h.elim
        next => exact h.elim
      next => exact h.elim
    next => exact h.elim
  next => exact h.elim
def cn_readEither_L12 (a3 : Int32) (E : sl_ET) (Q : Int32 → sl_M → Prop) : Nat → Int32 → Int32 → sl_M → Prop
  | 0, _, _, _ => False
  | n + 1, x4, x5, μ => (x5 < (80 : Int32) → tp_skip (124 : Int32) μ (fun r2 m1 => (r2 = (0 : Int32) → Q x4 m1) ∧ (¬ r2 = (0 : Int32) → cn_readBoth E a3 m1 (fun r4 m3 => ∀ v5, v5 = (x4 ||| r4) → (cn_readEither_L12 a3 E Q n) v5 (x5 + (1 : Int32)) m3)))) ∧ (¬ x5 < (80 : Int32) → Q x4 μ)
def cn_readEither (E : sl_ET) (a3 : Int32) (μ : sl_M) (Q : Int32 → sl_M → Prop) : Prop := cn_readBoth E a3 μ (fun r7 m6 => ∃ n8, cn_readEither_L12 a3 E Q n8 r7 (0 : Int32) m6)
def cn_readEither_pt (E : sl_ET) : sl_PT := fun As μ Q => match As with
  | [.inr (.inr (some (c0, a0))), .inr (.inr (some (c1, a1))), .inr (.inr (some (c2, a2))), .inl a3] => if c0 = 2 then (if c1 = 10 then (if c2 = 5 then (if a0 = 45 then (if a1 = 43 then (if a2 = 1 then (cn_readEither E a3 μ (fun r μ' => Q (some (.inl r)) μ')) else False) else False) else False) else False) else False) else False
  | _ => False
theorem cn_readBoth_w2 : Cond.instanceMethod cn_readBoth_y ∈ sl_T0 := sl_in1 733 (by decide +kernel) rfl
theorem cn_readBoth_w3 : Cond.selects cn_readBoth_y.cls cn_readBoth_y cn_readBoth_y ∈ sl_T0 := sl_in1 11 (by decide +kernel) rfl
theorem cn_readBoth_w4 : Cond.initialized cn_readBoth_y.cls ∈ sl_T0 := sl_in1 91 (by decide +kernel) rfl
theorem cn_readBoth_w5 : Cond.code cn_readBoth_y prog_4_method_3_code 6 (some .int) ∈ sl_T0 := sl_in1 734 (by decide +kernel) rfl
theorem cn_readBoth_w6 : cn_readBoth_y.cls ≠ "java/lang/invoke/MethodHandle" ∧ cn_readBoth_y.cls ≠ "java/lang/invoke/VarHandle" ∧ (parseMethodDescriptor cn_readBoth_y.desc).map (fun d => d.parameters.length) = some 3 := by decide +kernel
def cn_readEither_cd : List sl_Ent := [(0, .aload_n 0, 1, 0, [0], [], false), (1, .aload_n 1, 1, 0, [1], [], false), (2, .aload_n 2, 1, 0, [2], [], false), (3, .iload_n 3, 1, 0, [3], [], false), (4, .invokevirtual 9, 3, 0, [0], [], false), (7, .istore 4, 2, 0, [4], [], false), (9, .iconst 0, 1, 0, [], [], false), (10, .istore 5, 2, 0, [5], [], false), (12, .iload 5, 2, 0, [5], [], true), (14, .bipush 80, 2, 80, [], [], false), (16, .if_icmp .ge 30, 3, 0, [46], [], false), (19, .aload_n 1, 1, 0, [1], [], false), (20, .bipush 124, 2, 124, [], [], false), (22, .invokevirtual 15, 3, 0, [1], [], false), (25, .ifCond .eq 21, 3, 0, [46], [], false), (28, .iload 4, 2, 0, [4], [], false), (30, .aload_n 0, 1, 0, [0], [], false), (31, .aload_n 1, 1, 0, [1], [], false), (32, .aload_n 2, 1, 0, [2], [], false), (33, .iload_n 3, 1, 0, [3], [], false), (34, .invokevirtual 9, 3, 0, [0], [], false), (37, .ior, 1, 0, [], [], false), (38, .istore 4, 2, 0, [4, 1], [], false), (40, .iinc 5 1, 3, 1, [], [], false), (43, .goto (-31), 3, 0, [12], [], false), (46, .iload 4, 2, 0, [4], [], false), (48, .ireturn, 1, 0, [], [], false)]
theorem cn_readEither_tb : sl_tbOK sl_R2 prog_4_method_2_code 6 (some .int) lk_cn [(9, 0), (15, 0)] cn_readEither_cd = true := by decide +kernel
def cn_readEither_ct (E : sl_ET) : List sl_Ct := [(4, 0, 2, (cn_readBoth_pt E)), (2, 0, 10, tp_skip_pt)]
theorem cn_readEither_hc (g : sl_G) (E : sl_ET) (hN : Nat) (h20 : 20 ≤ hN) (hE : sl_Snd g cn_readEither_y prog_4_method_2_code 6 (some .int) hN (cn_readEither_ptE E)) : sl_HC g sl_R2 (hN + 3) (cn_readEither_ct E) [(9, 0), (15, 0)] := sl_HC_cons (sl_callV (y := cn_readBoth_y) (T := sl_F2) (N := 0) (cn_readBoth_snd g E hN h20 hE) (by omega) (by decide) (sl_in1 731 (by decide +kernel) rfl) cn_readBoth_w2 cn_readBoth_w3 cn_readBoth_w4 cn_readBoth_w5 cn_readBoth_w6 rfl (by decide)) (sl_HC_cons (cs_cn_15 g (Nat.le_trans (show 2 ≤ 20 by decide) (by omega))) (sl_HC_nil g sl_R2 (hN + 3)))
set_option maxRecDepth 20000 in
set_option maxHeartbeats 2000000 in
theorem cn_readEither_snd (g : sl_G) (E : sl_ET) (hN : Nat) (h20 : 20 ≤ hN) (hE : sl_Snd g cn_readEither_y prog_4_method_2_code 6 (some .int) hN (cn_readEither_ptE E)) : sl_Snd g cn_readEither_y prog_4_method_2_code 6 (some .int) (hN + 3) (cn_readEither_pt E) := by
  intro As μ Q hw h
  unfold cn_readEither_pt at h
  split at h
  next c0 a0 c1 a1 c2 a2 a3 =>
    split at h
    next e_ =>
      subst e_
      split at h
      next e_ =>
        subst e_
        split at h
        next e_ =>
          subst e_
          split at h
          next e_ =>
            subst e_
            split at h
            next e_ =>
              subst e_
              split at h
              next e_ =>
                subst e_
                refine sl_mk2 g [true, true, true, true, false, false] (cst := [some (.inr (.inr (some (2, 45)))), some (.inr (.inr (some (10, 43)))), some (.inr (.inr (some (5, 1)))), some (.inl a3)]) (lv0 := [none, none, none, none, none, none]) (by decide) rfl hw rfl rfl rfl lk_cn_ok (cn_readEither_hc g E hN h20 hE) cn_readEither_tb rfl ?_
                intro X M
                have v12 := sl_extL M sl_VV0 12 (fun n lv st μ => match lv, st with | [_, _, _, _, some (.inl x4), some (.inl x5)], [] => cn_readEither_L12 a3 E (fun r μ' => Q (some (.inl r)) μ') n x4 x5 μ | _, _ => False) (by
                    intro lv st μ h
                    split at h
                    · exact h
                    · exact h) (by
                    intro n12 w12
                    refine ⟨_, w12, ?_⟩
                    intro lv st μ h
                    split at h
                    · exact h
                    · exact h.elim)
                exact ⟨_, v12, h⟩
              next => exact h.elim
            next => exact h.elim
          next => exact h.elim
        next => exact h.elim
      next => exact h.elim
    next => exact h.elim
  next => exact h.elim
def cn_E : Nat → sl_ET
  | 0 => fun _ _ _ => False
  | d + 1 => cn_readEither (cn_E d)
theorem cn_E_snd (g : sl_G) : ∀ d, sl_Snd g cn_readEither_y prog_4_method_2_code 6 (some .int) (20 + 3 * d) (cn_readEither_ptE (cn_E d)) := by
  intro d
  induction d with
  | zero =>
    intro As μ Q hw h
    unfold cn_readEither_ptE at h
    split at h
    next =>
      (repeat' split at h) <;> exact False.elim h
    next => exact h.elim
  | succ d ih => exact cn_readEither_snd g (cn_E d) (20 + 3 * d) (by omega) ih
