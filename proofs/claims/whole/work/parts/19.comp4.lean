def sx_add (a1 : Int32) (a2 : Int32) (a3 : Int32) (μ : sl_M) (Q : Int32 → sl_M → Prop) : Prop := sx_isSpan a1 a2 a3 μ (fun r2 m1 => (r2 = (0 : Int32) → Q (-2 : Int32) m1) ∧ (¬ r2 = (0 : Int32) → ix_leastOut m1 (fun r4 m3 => (r4 < (0 : Int32) → Q (-4 : Int32) m3) ∧ (¬ r4 < (0 : Int32) → ix_bringIn r4 a1 a2 a3 m3 (fun m5 => ix_relayer m5 (fun m6 => Q r4 m6))))))
def sx_add_pt : sl_PT := fun As μ Q => match As with
  | [.inr (.inr (some (c0, a0))), .inl a1, .inl a2, .inl a3] => if c0 = 11 then (if a0 = 0 then (sx_add a1 a2 a3 μ (fun r μ' => Q (some (.inl r)) μ')) else False) else False
  | _ => False
def sx_add_cd : List sl_Ent := [(0, .iload_n 1, 1, 0, [1], [], false), (1, .iload_n 2, 1, 0, [2], [], false), (2, .iload_n 3, 1, 0, [3], [], false), (3, .invokestatic 82, 3, 0, [0], [], false), (6, .ifCond .ne 6, 3, 0, [12], [], false), (9, .bipush (-2), 2, (-2), [], [], false), (11, .ireturn, 1, 0, [], [], false), (12, .aload_n 0, 1, 0, [0], [], false), (13, .getfield 10, 3, 0, [11, 0, 2, 5, 1], [], false), (16, .invokevirtual 86, 3, 0, [1], [], false), (19, .istore 4, 2, 0, [4], [], false), (21, .iload 4, 2, 0, [4], [], false), (23, .ifCond .ge 6, 3, 0, [29], [], false), (26, .bipush (-4), 2, (-4), [], [], false), (28, .ireturn, 1, 0, [], [], false), (29, .aload_n 0, 1, 0, [0], [], false), (30, .getfield 10, 3, 0, [11, 0, 2, 5, 1], [], false), (33, .iload 4, 2, 0, [4], [], false), (35, .iload_n 1, 1, 0, [1], [], false), (36, .iload_n 2, 1, 0, [2], [], false), (37, .iload_n 3, 1, 0, [3], [], false), (38, .invokevirtual 90, 3, 0, [2], [], false), (41, .aload_n 0, 1, 0, [0], [], false), (42, .getfield 10, 3, 0, [11, 0, 2, 5, 1], [], false), (45, .invokevirtual 94, 3, 0, [3], [], false), (48, .iload 4, 2, 0, [4], [], false), (50, .ireturn, 1, 0, [], [], false)]
def sx_add_y : MethodName := ⟨"SpanLayers", "add", "(III)I"⟩
theorem sx_add_tb : sl_tbOK sl_R11 prog_1_method_2_code 5 (some .int) lk_sx [(82, 1), (86, 0), (90, 0), (94, 0)] sx_add_cd = true := by decide +kernel
theorem sx_isSpan_w2 : Cond.static sx_isSpan_y ∈ sl_T0 := sl_in1 398 (by decide +kernel) rfl
theorem sx_isSpan_w4 : Cond.initialized sx_isSpan_y.cls ∈ sl_T0 := sl_in1 85 (by decide +kernel) rfl
theorem sx_isSpan_w5 : Cond.code sx_isSpan_y prog_1_method_48_code 3 (some .boolean) ∈ sl_T0 := sl_in1 399 (by decide +kernel) rfl
theorem sx_isSpan_w6 : sx_isSpan_y.cls ≠ "java/lang/invoke/MethodHandle" ∧ sx_isSpan_y.cls ≠ "java/lang/invoke/VarHandle" ∧ (parseMethodDescriptor sx_isSpan_y.desc).map (fun d => d.parameters.length) = some 3 := by decide +kernel
theorem cs_sx_82 (g : sl_G) {hh : Nat} (h : 4 ≤ hh) : sl_CallS g sl_R11 82 1 0 hh 3 sx_isSpan_pt := sl_callS (y := sx_isSpan_y) (sx_isSpan_snd g) h (by decide) (sl_in1 397 (by decide +kernel) rfl) sx_isSpan_w2 sx_isSpan_w4 sx_isSpan_w5 sx_isSpan_w6
theorem cs_sx_86 (g : sl_G) {hh : Nat} (h : 1 ≤ hh) : sl_CallS g sl_R11 86 0 5 hh 1 ix_leastOut_pt := sl_callV (y := ix_leastOut_y) (T := sl_F5) (N := 2) (ix_leastOut_snd g) h (by decide) (sl_in1 409 (by decide +kernel) rfl) ix_leastOut_w2 ix_leastOut_w3 ix_leastOut_w4 ix_leastOut_w5 ix_leastOut_w6 rfl (by decide)
theorem cs_sx_90 (g : sl_G) {hh : Nat} (h : 2 ≤ hh) : sl_CallS g sl_R11 90 0 5 hh 5 ix_bringIn_pt := sl_callV (y := ix_bringIn_y) (T := sl_F5) (N := 2) (ix_bringIn_snd g) h (by decide) (sl_in1 413 (by decide +kernel) rfl) ix_bringIn_w2 ix_bringIn_w3 ix_bringIn_w4 ix_bringIn_w5 ix_bringIn_w6 rfl (by decide)
theorem cs_sx_94 (g : sl_G) {hh : Nat} (h : 5 ≤ hh) : sl_CallS g sl_R11 94 0 5 hh 1 ix_relayer_pt := sl_callV (y := ix_relayer_y) (T := sl_F5) (N := 2) (ix_relayer_snd g) h (by decide) (sl_in1 418 (by decide +kernel) rfl) ix_relayer_w2 ix_relayer_w3 ix_relayer_w4 ix_relayer_w5 ix_relayer_w6 rfl (by decide)
def sx_add_ct : List sl_Ct := [(3, 1, 0, sx_isSpan_pt), (1, 0, 5, ix_leastOut_pt), (5, 0, 5, ix_bringIn_pt), (1, 0, 5, ix_relayer_pt)]
theorem sx_add_hc (g : sl_G) : sl_HC g sl_R11 5 sx_add_ct [(82, 1), (86, 0), (90, 0), (94, 0)] := sl_HC_cons (cs_sx_82 g (by decide)) (sl_HC_cons (cs_sx_86 g (by decide)) (sl_HC_cons (cs_sx_90 g (by decide)) (sl_HC_cons (cs_sx_94 g (by decide)) (sl_HC_nil g sl_R11 5))))
set_option maxRecDepth 20000 in
set_option maxHeartbeats 2000000 in
theorem sx_add_snd (g : sl_G) : sl_Snd g sx_add_y prog_1_method_2_code 5 (some .int) 5 (sx_add_pt) := by
  intro As μ Q hw h
  unfold sx_add_pt at h
  split at h
  next c0 a0 a1 a2 a3 =>
    split at h
    next e_ =>
      subst e_
      split at h
      next e_ =>
        subst e_
        refine sl_mk2 g [true, true, true, true, false] (cst := [some (.inr (.inr (some (11, 0)))), some (.inl a1), some (.inl a2), some (.inl a3)]) (lv0 := [none, none, none, none, none]) (by decide) rfl hw rfl rfl rfl lk_sx_ok (sx_add_hc g) sx_add_tb rfl ?_
        intro X M
        exact ⟨_, sl_VV0, h⟩
      next => exact h.elim
    next => exact h.elim
  next => exact h.elim
def sx_put (a1 : Int32) (a2 : Int32) (a3 : Int32) (a4 : Int32) (μ : sl_M) (Q : Int32 → sl_M → Prop) : Prop := sx_isBelow a1 (30 : Int32) μ (fun r2 m1 => (r2 = (0 : Int32) → Q (-1 : Int32) m1) ∧ (¬ r2 = (0 : Int32) → sx_isSpan a2 a3 a4 m1 (fun r4 m3 => (r4 = (0 : Int32) → Q (-2 : Int32) m3) ∧ (¬ r4 = (0 : Int32) → ix_isIn a1 m3 (fun r6 m5 => ix_bringIn a1 a2 a3 a4 m5 (fun m7 => ix_relayer m7 (fun m8 => (r6 = (0 : Int32) → Q (0 : Int32) m8) ∧ (¬ r6 = (0 : Int32) → Q (1 : Int32) m8))))))))
def sx_put_pt : sl_PT := fun As μ Q => match As with
  | [.inr (.inr (some (c0, a0))), .inl a1, .inl a2, .inl a3, .inl a4] => if c0 = 11 then (if a0 = 0 then (sx_put a1 a2 a3 a4 μ (fun r μ' => Q (some (.inl r)) μ')) else False) else False
  | _ => False
def sx_put_cd : List sl_Ent := [(0, .iload_n 1, 1, 0, [1], [], false), (1, .bipush 30, 2, 30, [], [], false), (3, .invokestatic 97, 3, 0, [0], [], false), (6, .ifCond .ne 5, 3, 0, [11], [], false), (9, .iconst (-1), 1, (-1), [], [], false), (10, .ireturn, 1, 0, [], [], false), (11, .iload_n 2, 1, 0, [2], [], false), (12, .iload_n 3, 1, 0, [3], [], false), (13, .iload 4, 2, 0, [4], [], false), (15, .invokestatic 82, 3, 0, [1], [], false), (18, .ifCond .ne 6, 3, 0, [24], [], false), (21, .bipush (-2), 2, (-2), [], [], false), (23, .ireturn, 1, 0, [], [], false), (24, .aload_n 0, 1, 0, [0], [], false), (25, .getfield 10, 3, 0, [11, 0, 2, 5, 1], [], false), (28, .iload_n 1, 1, 0, [1], [], false), (29, .invokevirtual 101, 3, 0, [2], [], false), (32, .istore 5, 2, 0, [5], [], false), (34, .aload_n 0, 1, 0, [0], [], false), (35, .getfield 10, 3, 0, [11, 0, 2, 5, 1], [], false), (38, .iload_n 1, 1, 0, [1], [], false), (39, .iload_n 2, 1, 0, [2], [], false), (40, .iload_n 3, 1, 0, [3], [], false), (41, .iload 4, 2, 0, [4], [], false), (43, .invokevirtual 90, 3, 0, [3], [], false), (46, .aload_n 0, 1, 0, [0], [], false), (47, .getfield 10, 3, 0, [11, 0, 2, 5, 1], [], false), (50, .invokevirtual 94, 3, 0, [4], [], false), (53, .iload 5, 2, 0, [5], [], false), (55, .ifCond .eq 7, 3, 0, [62], [], false), (58, .iconst 1, 1, 1, [], [], false), (59, .goto 4, 3, 0, [63], [], false), (62, .iconst 0, 1, 0, [], [], false), (63, .ireturn, 1, 0, [], [], false)]
def sx_put_y : MethodName := ⟨"SpanLayers", "put", "(IIII)I"⟩
theorem sx_put_tb : sl_tbOK sl_R11 prog_1_method_3_code 6 (some .int) lk_sx [(97, 1), (82, 1), (101, 0), (90, 0), (94, 0)] sx_put_cd = true := by decide +kernel
theorem ix_isIn_w2 : Cond.instanceMethod ix_isIn_y ∈ sl_T0 := sl_in1 454 (by decide +kernel) rfl
theorem ix_isIn_w3 : Cond.selects ix_isIn_y.cls ix_isIn_y ix_isIn_y ∈ sl_T0 := sl_in1 455 (by decide +kernel) rfl
theorem ix_isIn_w4 : Cond.initialized ix_isIn_y.cls ∈ sl_T0 := sl_in1 86 (by decide +kernel) rfl
theorem ix_isIn_w5 : Cond.code ix_isIn_y prog_7_method_3_code 2 (some .boolean) ∈ sl_T0 := sl_in1 456 (by decide +kernel) rfl
theorem ix_isIn_w6 : ix_isIn_y.cls ≠ "java/lang/invoke/MethodHandle" ∧ ix_isIn_y.cls ≠ "java/lang/invoke/VarHandle" ∧ (parseMethodDescriptor ix_isIn_y.desc).map (fun d => d.parameters.length) = some 1 := by decide +kernel
theorem cs_sx_101 (g : sl_G) {hh : Nat} (h : 2 ≤ hh) : sl_CallS g sl_R11 101 0 5 hh 2 ix_isIn_pt := sl_callV (y := ix_isIn_y) (T := sl_F5) (N := 2) (ix_isIn_snd g) h (by decide) (sl_in1 453 (by decide +kernel) rfl) ix_isIn_w2 ix_isIn_w3 ix_isIn_w4 ix_isIn_w5 ix_isIn_w6 rfl (by decide)
def sx_put_ct : List sl_Ct := [(2, 1, 0, sx_isBelow_pt), (3, 1, 0, sx_isSpan_pt), (2, 0, 5, ix_isIn_pt), (5, 0, 5, ix_bringIn_pt), (1, 0, 5, ix_relayer_pt)]
theorem sx_put_hc (g : sl_G) : sl_HC g sl_R11 5 sx_put_ct [(97, 1), (82, 1), (101, 0), (90, 0), (94, 0)] := sl_HC_cons (cs_sx_97 g (by decide)) (sl_HC_cons (cs_sx_82 g (by decide)) (sl_HC_cons (cs_sx_101 g (by decide)) (sl_HC_cons (cs_sx_90 g (by decide)) (sl_HC_cons (cs_sx_94 g (by decide)) (sl_HC_nil g sl_R11 5)))))
set_option maxRecDepth 20000 in
set_option maxHeartbeats 2000000 in
theorem sx_put_snd (g : sl_G) : sl_Snd g sx_put_y prog_1_method_3_code 6 (some .int) 5 (sx_put_pt) := by
  intro As μ Q hw h
  unfold sx_put_pt at h
  split at h
  next c0 a0 a1 a2 a3 a4 =>
    split at h
    next e_ =>
      subst e_
      split at h
      next e_ =>
        subst e_
        refine sl_mk2 g [true, true, true, true, true, false] (cst := [some (.inr (.inr (some (11, 0)))), some (.inl a1), some (.inl a2), some (.inl a3), some (.inl a4)]) (lv0 := [none, none, none, none, none, none]) (by decide) rfl hw rfl rfl rfl lk_sx_ok (sx_put_hc g) sx_put_tb rfl ?_
        intro X M
        exact ⟨_, sl_VV0, h⟩
      next => exact h.elim
    next => exact h.elim
  next => exact h.elim
def sx_drop (a1 : Int32) (μ : sl_M) (Q : Int32 → sl_M → Prop) : Prop := sx_isBelow a1 (30 : Int32) μ (fun r2 m1 => (r2 = (0 : Int32) → Q (-1 : Int32) m1) ∧ (¬ r2 = (0 : Int32) → ix_isIn a1 m1 (fun r4 m3 => (r4 = (0 : Int32) → Q (-3 : Int32) m3) ∧ (¬ r4 = (0 : Int32) → ix_takeOut ((1 : Int32) <<< (a1 &&& 31)) m3 (fun m5 => ix_count m5 (fun r7 m6 => Q r7 m6))))))
def sx_drop_pt : sl_PT := fun As μ Q => match As with
  | [.inr (.inr (some (c0, a0))), .inl a1] => if c0 = 11 then (if a0 = 0 then (sx_drop a1 μ (fun r μ' => Q (some (.inl r)) μ')) else False) else False
  | _ => False
def sx_drop_cd : List sl_Ent := [(0, .iload_n 1, 1, 0, [1], [], false), (1, .bipush 30, 2, 30, [], [], false), (3, .invokestatic 97, 3, 0, [0], [], false), (6, .ifCond .ne 5, 3, 0, [11], [], false), (9, .iconst (-1), 1, (-1), [], [], false), (10, .ireturn, 1, 0, [], [], false), (11, .aload_n 0, 1, 0, [0], [], false), (12, .getfield 10, 3, 0, [11, 0, 2, 5, 1], [], false), (15, .iload_n 1, 1, 0, [1], [], false), (16, .invokevirtual 101, 3, 0, [1], [], false), (19, .ifCond .ne 6, 3, 0, [25], [], false), (22, .bipush (-3), 2, (-3), [], [], false), (24, .ireturn, 1, 0, [], [], false), (25, .aload_n 0, 1, 0, [0], [], false), (26, .getfield 10, 3, 0, [11, 0, 2, 5, 1], [], false), (29, .iconst 1, 1, 1, [], [], false), (30, .iload_n 1, 1, 0, [1], [], false), (31, .ishl, 1, 0, [], [], false), (32, .invokevirtual 105, 3, 0, [2], [], false), (35, .aload_n 0, 1, 0, [0], [], false), (36, .getfield 10, 3, 0, [11, 0, 2, 5, 1], [], false), (39, .invokevirtual 109, 3, 0, [3], [], false), (42, .ireturn, 1, 0, [], [], false)]
def sx_drop_y : MethodName := ⟨"SpanLayers", "drop", "(I)I"⟩
theorem sx_drop_tb : sl_tbOK sl_R11 prog_1_method_4_code 2 (some .int) lk_sx [(97, 1), (101, 0), (105, 0), (109, 0)] sx_drop_cd = true := by decide +kernel
theorem ix_takeOut_w2 : Cond.instanceMethod ix_takeOut_y ∈ sl_T0 := sl_in1 462 (by decide +kernel) rfl
theorem ix_takeOut_w3 : Cond.selects ix_takeOut_y.cls ix_takeOut_y ix_takeOut_y ∈ sl_T0 := sl_in1 463 (by decide +kernel) rfl
theorem ix_takeOut_w4 : Cond.initialized ix_takeOut_y.cls ∈ sl_T0 := sl_in1 86 (by decide +kernel) rfl
theorem ix_takeOut_w5 : Cond.code ix_takeOut_y prog_7_method_6_code 3 none ∈ sl_T0 := sl_in1 464 (by decide +kernel) rfl
theorem ix_takeOut_w6 : ix_takeOut_y.cls ≠ "java/lang/invoke/MethodHandle" ∧ ix_takeOut_y.cls ≠ "java/lang/invoke/VarHandle" ∧ (parseMethodDescriptor ix_takeOut_y.desc).map (fun d => d.parameters.length) = some 1 := by decide +kernel
theorem cs_sx_105 (g : sl_G) {hh : Nat} (h : 6 ≤ hh) : sl_CallS g sl_R11 105 0 5 hh 2 ix_takeOut_pt := sl_callV (y := ix_takeOut_y) (T := sl_F5) (N := 2) (ix_takeOut_snd g) h (by decide) (sl_in1 461 (by decide +kernel) rfl) ix_takeOut_w2 ix_takeOut_w3 ix_takeOut_w4 ix_takeOut_w5 ix_takeOut_w6 rfl (by decide)
theorem ix_count_w2 : Cond.instanceMethod ix_count_y ∈ sl_T0 := sl_in1 470 (by decide +kernel) rfl
theorem ix_count_w3 : Cond.selects ix_count_y.cls ix_count_y ix_count_y ∈ sl_T0 := sl_in1 471 (by decide +kernel) rfl
theorem ix_count_w4 : Cond.initialized ix_count_y.cls ∈ sl_T0 := sl_in1 86 (by decide +kernel) rfl
theorem ix_count_w5 : Cond.code ix_count_y prog_7_method_9_code 3 (some .int) ∈ sl_T0 := sl_in1 472 (by decide +kernel) rfl
theorem ix_count_w6 : ix_count_y.cls ≠ "java/lang/invoke/MethodHandle" ∧ ix_count_y.cls ≠ "java/lang/invoke/VarHandle" ∧ (parseMethodDescriptor ix_count_y.desc).map (fun d => d.parameters.length) = some 0 := by decide +kernel
theorem cs_sx_109 (g : sl_G) {hh : Nat} (h : 1 ≤ hh) : sl_CallS g sl_R11 109 0 5 hh 1 ix_count_pt := sl_callV (y := ix_count_y) (T := sl_F5) (N := 2) (ix_count_snd g) h (by decide) (sl_in1 469 (by decide +kernel) rfl) ix_count_w2 ix_count_w3 ix_count_w4 ix_count_w5 ix_count_w6 rfl (by decide)
def sx_drop_ct : List sl_Ct := [(2, 1, 0, sx_isBelow_pt), (2, 0, 5, ix_isIn_pt), (2, 0, 5, ix_takeOut_pt), (1, 0, 5, ix_count_pt)]
theorem sx_drop_hc (g : sl_G) : sl_HC g sl_R11 6 sx_drop_ct [(97, 1), (101, 0), (105, 0), (109, 0)] := sl_HC_cons (cs_sx_97 g (by decide)) (sl_HC_cons (cs_sx_101 g (by decide)) (sl_HC_cons (cs_sx_105 g (by decide)) (sl_HC_cons (cs_sx_109 g (by decide)) (sl_HC_nil g sl_R11 6))))
set_option maxRecDepth 20000 in
set_option maxHeartbeats 2000000 in
theorem sx_drop_snd (g : sl_G) : sl_Snd g sx_drop_y prog_1_method_4_code 2 (some .int) 6 (sx_drop_pt) := by
  intro As μ Q hw h
  unfold sx_drop_pt at h
  split at h
  next c0 a0 a1 =>
    split at h
    next e_ =>
      subst e_
      split at h
      next e_ =>
        subst e_
        refine sl_mk2 g [true, true] (cst := [some (.inr (.inr (some (11, 0)))), some (.inl a1)]) (lv0 := [none, none]) (by decide) rfl hw rfl rfl rfl lk_sx_ok (sx_drop_hc g) sx_drop_tb rfl ?_
        intro X M
        exact ⟨_, sl_VV0, h⟩
      next => exact h.elim
    next => exact h.elim
  next => exact h.elim
def sx_of (a1 : Int32) (a2 : Int32) (μ : sl_M) (Q : Int32 → sl_M → Prop) : Prop := sx_isBelow a1 (30 : Int32) μ (fun r2 m1 => (r2 = (0 : Int32) → Q (-1 : Int32) m1) ∧ (¬ r2 = (0 : Int32) → sx_isBelow a2 (8 : Int32) m1 (fun r4 m3 => (r4 = (0 : Int32) → Q (-1 : Int32) m3) ∧ (¬ r4 = (0 : Int32) → ix_isIn a1 m3 (fun r6 m5 => (r6 = (0 : Int32) → Q (-3 : Int32) m5) ∧ (¬ r6 = (0 : Int32) → vp_in a1 30 ∧ ix_factOf (4 + a1.toNatClampNeg) a2 m5 (fun r8 m7 => Q r8 m7)))))))
def sx_of_pt : sl_PT := fun As μ Q => match As with
  | [.inr (.inr (some (c0, a0))), .inl a1, .inl a2] => if c0 = 11 then (if a0 = 0 then (sx_of a1 a2 μ (fun r μ' => Q (some (.inl r)) μ')) else False) else False
  | _ => False
def sx_of_cd : List sl_Ent := [(0, .iload_n 1, 1, 0, [1], [], false), (1, .bipush 30, 2, 30, [], [], false), (3, .invokestatic 97, 3, 0, [0], [], false), (6, .ifCond .eq 12, 3, 0, [18], [], false), (9, .iload_n 2, 1, 0, [2], [], false), (10, .bipush 8, 2, 8, [], [], false), (12, .invokestatic 97, 3, 0, [0], [], false), (15, .ifCond .ne 5, 3, 0, [20], [], false), (18, .iconst (-1), 1, (-1), [], [], false), (19, .ireturn, 1, 0, [], [], false), (20, .aload_n 0, 1, 0, [0], [], false), (21, .getfield 10, 3, 0, [11, 0, 2, 5, 1], [], false), (24, .iload_n 1, 1, 0, [1], [], false), (25, .invokevirtual 101, 3, 0, [1], [], false), (28, .ifCond .ne 6, 3, 0, [34], [], false), (31, .bipush (-3), 2, (-3), [], [], false), (33, .ireturn, 1, 0, [], [], false), (34, .aload_n 0, 1, 0, [0], [], false), (35, .getfield 10, 3, 0, [11, 0, 2, 5, 1], [], false), (38, .aload_n 0, 1, 0, [0], [], false), (39, .getfield 10, 3, 0, [11, 0, 2, 5, 1], [], false), (42, .getfield 112, 3, 0, [5, 0, 2, 22, 1], [], false), (45, .iload_n 1, 1, 0, [1], [], false), (46, .aaload, 1, 0, [], [], false), (47, .iload_n 2, 1, 0, [2], [], false), (48, .invokevirtual 116, 3, 0, [2], [], false), (51, .ireturn, 1, 0, [], [], false)]
def sx_of_y : MethodName := ⟨"SpanLayers", "of", "(II)I"⟩
theorem sx_of_tb : sl_tbOK sl_R11 prog_1_method_5_code 3 (some .int) lk_sx [(97, 1), (101, 0), (116, 0)] sx_of_cd = true := by decide +kernel
theorem ix_factOf_w2 : Cond.instanceMethod ix_factOf_y ∈ sl_T0 := sl_in1 478 (by decide +kernel) rfl
theorem ix_factOf_w3 : Cond.selects ix_factOf_y.cls ix_factOf_y ix_factOf_y ∈ sl_T0 := sl_in1 479 (by decide +kernel) rfl
theorem ix_factOf_w4 : Cond.initialized ix_factOf_y.cls ∈ sl_T0 := sl_in1 86 (by decide +kernel) rfl
theorem ix_factOf_w5 : Cond.code ix_factOf_y prog_7_method_14_code 3 (some .int) ∈ sl_T0 := sl_in1 480 (by decide +kernel) rfl
theorem ix_factOf_w6 : ix_factOf_y.cls ≠ "java/lang/invoke/MethodHandle" ∧ ix_factOf_y.cls ≠ "java/lang/invoke/VarHandle" ∧ (parseMethodDescriptor ix_factOf_y.desc).map (fun d => d.parameters.length) = some 2 := by decide +kernel
theorem cs_sx_116 (g : sl_G) {hh : Nat} (h : 4 ≤ hh) : sl_CallS g sl_R11 116 0 5 hh 3 ix_factOf_pt := sl_callV (y := ix_factOf_y) (T := sl_F5) (N := 2) (ix_factOf_snd g) h (by decide) (sl_in1 477 (by decide +kernel) rfl) ix_factOf_w2 ix_factOf_w3 ix_factOf_w4 ix_factOf_w5 ix_factOf_w6 rfl (by decide)
def sx_of_ct : List sl_Ct := [(2, 1, 0, sx_isBelow_pt), (2, 0, 5, ix_isIn_pt), (3, 0, 5, ix_factOf_pt)]
theorem sx_of_hc (g : sl_G) : sl_HC g sl_R11 4 sx_of_ct [(97, 1), (101, 0), (116, 0)] := sl_HC_cons (cs_sx_97 g (by decide)) (sl_HC_cons (cs_sx_101 g (by decide)) (sl_HC_cons (cs_sx_116 g (by decide)) (sl_HC_nil g sl_R11 4)))
set_option maxRecDepth 20000 in
set_option maxHeartbeats 2000000 in
theorem sx_of_snd (g : sl_G) : sl_Snd g sx_of_y prog_1_method_5_code 3 (some .int) 4 (sx_of_pt) := by
  intro As μ Q hw h
  unfold sx_of_pt at h
  split at h
  next c0 a0 a1 a2 =>
    split at h
    next e_ =>
      subst e_
      split at h
      next e_ =>
        subst e_
        refine sl_mk2 g [true, true, true] (cst := [some (.inr (.inr (some (11, 0)))), some (.inl a1), some (.inl a2)]) (lv0 := [none, none, none]) (by decide) rfl hw rfl rfl rfl lk_sx_ok (sx_of_hc g) sx_of_tb rfl ?_
        intro X M
        exact ⟨_, sl_VV0, h⟩
      next => exact h.elim
    next => exact h.elim
  next => exact h.elim
def sx_how (a1 : Int32) (a2 : Int32) (μ : sl_M) (Q : Int32 → sl_M → Prop) : Prop := sx_isBelow a1 (30 : Int32) μ (fun r2 m1 => (r2 = (0 : Int32) → Q (-1 : Int32) m1) ∧ (¬ r2 = (0 : Int32) → sx_isBelow a2 (30 : Int32) m1 (fun r4 m3 => (r4 = (0 : Int32) → Q (-1 : Int32) m3) ∧ (¬ r4 = (0 : Int32) → (a1 = a2 → Q (-1 : Int32) m3) ∧ (¬ a1 = a2 → ix_isIn a1 m3 (fun r6 m5 => (r6 = (0 : Int32) → Q (-3 : Int32) m5) ∧ (¬ r6 = (0 : Int32) → ix_isIn a2 m5 (fun r8 m7 => (r8 = (0 : Int32) → Q (-3 : Int32) m7) ∧ (¬ r8 = (0 : Int32) → vp_in a1 30 ∧ vp_in a2 30 ∧ sp_lieTo (4 + a1.toNatClampNeg) (4 + a2.toNatClampNeg) m7 (fun r10 m9 => Q r10 m9))))))))))
def sx_how_pt : sl_PT := fun As μ Q => match As with
  | [.inr (.inr (some (c0, a0))), .inl a1, .inl a2] => if c0 = 11 then (if a0 = 0 then (sx_how a1 a2 μ (fun r μ' => Q (some (.inl r)) μ')) else False) else False
  | _ => False
def sx_how_cd : List sl_Ent := [(0, .iload_n 1, 1, 0, [1], [], false), (1, .bipush 30, 2, 30, [], [], false), (3, .invokestatic 97, 3, 0, [0], [], false), (6, .ifCond .eq 17, 3, 0, [23], [], false), (9, .iload_n 2, 1, 0, [2], [], false), (10, .bipush 30, 2, 30, [], [], false), (12, .invokestatic 97, 3, 0, [0], [], false), (15, .ifCond .eq 8, 3, 0, [23], [], false), (18, .iload_n 1, 1, 0, [1], [], false), (19, .iload_n 2, 1, 0, [2], [], false), (20, .if_icmp .ne 5, 3, 0, [25], [], false), (23, .iconst (-1), 1, (-1), [], [], false), (24, .ireturn, 1, 0, [], [], false), (25, .aload_n 0, 1, 0, [0], [], false), (26, .getfield 10, 3, 0, [11, 0, 2, 5, 1], [], false), (29, .iload_n 1, 1, 0, [1], [], false), (30, .invokevirtual 101, 3, 0, [1], [], false), (33, .ifCond .eq 14, 3, 0, [47], [], false), (36, .aload_n 0, 1, 0, [0], [], false), (37, .getfield 10, 3, 0, [11, 0, 2, 5, 1], [], false), (40, .iload_n 2, 1, 0, [2], [], false), (41, .invokevirtual 101, 3, 0, [1], [], false), (44, .ifCond .ne 6, 3, 0, [50], [], false), (47, .bipush (-3), 2, (-3), [], [], false), (49, .ireturn, 1, 0, [], [], false), (50, .aload_n 0, 1, 0, [0], [], false), (51, .getfield 10, 3, 0, [11, 0, 2, 5, 1], [], false), (54, .getfield 112, 3, 0, [5, 0, 2, 22, 1], [], false), (57, .iload_n 1, 1, 0, [1], [], false), (58, .aaload, 1, 0, [], [], false), (59, .aload_n 0, 1, 0, [0], [], false), (60, .getfield 10, 3, 0, [11, 0, 2, 5, 1], [], false), (63, .getfield 112, 3, 0, [5, 0, 2, 22, 1], [], false), (66, .iload_n 2, 1, 0, [2], [], false), (67, .aaload, 1, 0, [], [], false), (68, .invokevirtual 120, 3, 0, [2], [], false), (71, .ireturn, 1, 0, [], [], false)]
def sx_how_y : MethodName := ⟨"SpanLayers", "how", "(II)I"⟩
theorem sx_how_tb : sl_tbOK sl_R11 prog_1_method_6_code 3 (some .int) lk_sx [(97, 1), (101, 0), (120, 0)] sx_how_cd = true := by decide +kernel
theorem cs_sx_120 (g : sl_G) {hh : Nat} (h : 2 ≤ hh) : sl_CallS g sl_R11 120 0 9 hh 2 sp_lieTo_pt := sl_callV (y := sp_lieTo_y) (T := sl_F9) (N := 6) (sp_lieTo_snd g) h (by decide) (sl_in1 508 (by decide +kernel) rfl) sp_lieTo_w2 sp_lieTo_w3 sp_lieTo_w4 sp_lieTo_w5 sp_lieTo_w6 rfl (by decide)
def sx_how_ct : List sl_Ct := [(2, 1, 0, sx_isBelow_pt), (2, 0, 5, ix_isIn_pt), (2, 0, 9, sp_lieTo_pt)]
theorem sx_how_hc (g : sl_G) : sl_HC g sl_R11 2 sx_how_ct [(97, 1), (101, 0), (120, 0)] := sl_HC_cons (cs_sx_97 g (by decide)) (sl_HC_cons (cs_sx_101 g (by decide)) (sl_HC_cons (cs_sx_120 g (by decide)) (sl_HC_nil g sl_R11 2)))
set_option maxRecDepth 20000 in
set_option maxHeartbeats 2000000 in
theorem sx_how_snd (g : sl_G) : sl_Snd g sx_how_y prog_1_method_6_code 3 (some .int) 2 (sx_how_pt) := by
  intro As μ Q hw h
  unfold sx_how_pt at h
  split at h
  next c0 a0 a1 a2 =>
    split at h
    next e_ =>
      subst e_
      split at h
      next e_ =>
        subst e_
        refine sl_mk2 g [true, true, true] (cst := [some (.inr (.inr (some (11, 0)))), some (.inl a1), some (.inl a2)]) (lv0 := [none, none, none]) (by decide) rfl hw rfl rfl rfl lk_sx_ok (sx_how_hc g) sx_how_tb rfl ?_
        intro X M
        exact ⟨_, sl_VV0, h⟩
      next => exact h.elim
    next => exact h.elim
  next => exact h.elim
def sx_stab (a1 : Int32) (μ : sl_M) (Q : Int32 → sl_M → Prop) : Prop := sx_isPlace a1 μ (fun r2 m1 => (r2 = (0 : Int32) → Q (-2 : Int32) m1) ∧ (¬ r2 = (0 : Int32) → ix_bitsMeeting a1 a1 m1 (fun r4 m3 => Q r4 m3)))
def sx_stab_pt : sl_PT := fun As μ Q => match As with
  | [.inr (.inr (some (c0, a0))), .inl a1] => if c0 = 11 then (if a0 = 0 then (sx_stab a1 μ (fun r μ' => Q (some (.inl r)) μ')) else False) else False
  | _ => False
def sx_stab_cd : List sl_Ent := [(0, .iload_n 1, 1, 0, [1], [], false), (1, .invokestatic 126, 3, 0, [0], [], false), (4, .ifCond .eq 15, 3, 0, [19], [], false), (7, .aload_n 0, 1, 0, [0], [], false), (8, .getfield 10, 3, 0, [11, 0, 2, 5, 1], [], false), (11, .iload_n 1, 1, 0, [1], [], false), (12, .iload_n 1, 1, 0, [1], [], false), (13, .invokevirtual 129, 3, 0, [1], [], false), (16, .goto 5, 3, 0, [21], [], false), (19, .bipush (-2), 2, (-2), [], [], false), (21, .ireturn, 1, 0, [], [], false)]
def sx_stab_y : MethodName := ⟨"SpanLayers", "stab", "(I)I"⟩
theorem sx_stab_tb : sl_tbOK sl_R11 prog_1_method_7_code 2 (some .int) lk_sx [(126, 1), (129, 0)] sx_stab_cd = true := by decide +kernel
theorem cs_sx_129 (g : sl_G) {hh : Nat} (h : 2 ≤ hh) : sl_CallS g sl_R11 129 0 5 hh 3 ix_bitsMeeting_pt := sl_callV (y := ix_bitsMeeting_y) (T := sl_F5) (N := 2) (ix_bitsMeeting_snd g) h (by decide) (sl_in1 520 (by decide +kernel) rfl) ix_bitsMeeting_w2 ix_bitsMeeting_w3 ix_bitsMeeting_w4 ix_bitsMeeting_w5 ix_bitsMeeting_w6 rfl (by decide)
def sx_stab_ct : List sl_Ct := [(1, 1, 0, sx_isPlace_pt), (3, 0, 5, ix_bitsMeeting_pt)]
theorem sx_stab_hc (g : sl_G) : sl_HC g sl_R11 2 sx_stab_ct [(126, 1), (129, 0)] := sl_HC_cons (cs_sx_126 g (by decide)) (sl_HC_cons (cs_sx_129 g (by decide)) (sl_HC_nil g sl_R11 2))
set_option maxRecDepth 20000 in
set_option maxHeartbeats 2000000 in
theorem sx_stab_snd (g : sl_G) : sl_Snd g sx_stab_y prog_1_method_7_code 2 (some .int) 2 (sx_stab_pt) := by
  intro As μ Q hw h
  unfold sx_stab_pt at h
  split at h
  next c0 a0 a1 =>
    split at h
    next e_ =>
      subst e_
      split at h
      next e_ =>
        subst e_
        refine sl_mk2 g [true, true] (cst := [some (.inr (.inr (some (11, 0)))), some (.inl a1)]) (lv0 := [none, none]) (by decide) rfl hw rfl rfl rfl lk_sx_ok (sx_stab_hc g) sx_stab_tb rfl ?_
        intro X M
        exact ⟨_, sl_VV0, h⟩
      next => exact h.elim
    next => exact h.elim
  next => exact h.elim
def sx_stabbed (a1 : Int32) (a2 : Int32) (a3 : Int32) (μ : sl_M) (Q : Int32 → sl_M → Prop) : Prop := sx_isPlace a1 μ (fun r2 m1 => (r2 = (0 : Int32) → Q (-2 : Int32) m1) ∧ (¬ r2 = (0 : Int32) → (a2 < (-1 : Int32) → Q (-1 : Int32) m1) ∧ (¬ a2 < (-1 : Int32) → (a3 < (0 : Int32) → Q (-1 : Int32) m1) ∧ (¬ a3 < (0 : Int32) → ix_stabbedAt a1 a2 a3 m1 (fun r4 m3 => Q r4 m3)))))
def sx_stabbed_pt : sl_PT := fun As μ Q => match As with
  | [.inr (.inr (some (c0, a0))), .inl a1, .inl a2, .inl a3] => if c0 = 11 then (if a0 = 0 then (sx_stabbed a1 a2 a3 μ (fun r μ' => Q (some (.inl r)) μ')) else False) else False
  | _ => False
def sx_stabbed_cd : List sl_Ent := [(0, .iload_n 1, 1, 0, [1], [], false), (1, .invokestatic 126, 3, 0, [0], [], false), (4, .ifCond .ne 6, 3, 0, [10], [], false), (7, .bipush (-2), 2, (-2), [], [], false), (9, .ireturn, 1, 0, [], [], false), (10, .iload_n 2, 1, 0, [2], [], false), (11, .iconst (-1), 1, (-1), [], [], false), (12, .if_icmp .lt 7, 3, 0, [19], [], false), (15, .iload_n 3, 1, 0, [3], [], false), (16, .ifCond .ge 5, 3, 0, [21], [], false), (19, .iconst (-1), 1, (-1), [], [], false), (20, .ireturn, 1, 0, [], [], false), (21, .aload_n 0, 1, 0, [0], [], false), (22, .getfield 10, 3, 0, [11, 0, 2, 5, 1], [], false), (25, .iload_n 1, 1, 0, [1], [], false), (26, .iload_n 2, 1, 0, [2], [], false), (27, .iload_n 3, 1, 0, [3], [], false), (28, .invokevirtual 133, 3, 0, [1], [], false), (31, .ireturn, 1, 0, [], [], false)]
def sx_stabbed_y : MethodName := ⟨"SpanLayers", "stabbed", "(III)I"⟩
theorem sx_stabbed_tb : sl_tbOK sl_R11 prog_1_method_8_code 4 (some .int) lk_sx [(126, 1), (133, 0)] sx_stabbed_cd = true := by decide +kernel
theorem ix_stabbedAt_w2 : Cond.instanceMethod ix_stabbedAt_y ∈ sl_T0 := sl_in1 526 (by decide +kernel) rfl
theorem ix_stabbedAt_w3 : Cond.selects ix_stabbedAt_y.cls ix_stabbedAt_y ix_stabbedAt_y ∈ sl_T0 := sl_in1 527 (by decide +kernel) rfl
theorem ix_stabbedAt_w4 : Cond.initialized ix_stabbedAt_y.cls ∈ sl_T0 := sl_in1 86 (by decide +kernel) rfl
theorem ix_stabbedAt_w5 : Cond.code ix_stabbedAt_y prog_7_method_13_code 8 (some .int) ∈ sl_T0 := sl_in1 528 (by decide +kernel) rfl
theorem ix_stabbedAt_w6 : ix_stabbedAt_y.cls ≠ "java/lang/invoke/MethodHandle" ∧ ix_stabbedAt_y.cls ≠ "java/lang/invoke/VarHandle" ∧ (parseMethodDescriptor ix_stabbedAt_y.desc).map (fun d => d.parameters.length) = some 3 := by decide +kernel
theorem cs_sx_133 (g : sl_G) {hh : Nat} (h : 5 ≤ hh) : sl_CallS g sl_R11 133 0 5 hh 4 ix_stabbedAt_pt := sl_callV (y := ix_stabbedAt_y) (T := sl_F5) (N := 2) (ix_stabbedAt_snd g) h (by decide) (sl_in1 525 (by decide +kernel) rfl) ix_stabbedAt_w2 ix_stabbedAt_w3 ix_stabbedAt_w4 ix_stabbedAt_w5 ix_stabbedAt_w6 rfl (by decide)
def sx_stabbed_ct : List sl_Ct := [(1, 1, 0, sx_isPlace_pt), (4, 0, 5, ix_stabbedAt_pt)]
theorem sx_stabbed_hc (g : sl_G) : sl_HC g sl_R11 5 sx_stabbed_ct [(126, 1), (133, 0)] := sl_HC_cons (cs_sx_126 g (by decide)) (sl_HC_cons (cs_sx_133 g (by decide)) (sl_HC_nil g sl_R11 5))
set_option maxRecDepth 20000 in
set_option maxHeartbeats 2000000 in
theorem sx_stabbed_snd (g : sl_G) : sl_Snd g sx_stabbed_y prog_1_method_8_code 4 (some .int) 5 (sx_stabbed_pt) := by
  intro As μ Q hw h
  unfold sx_stabbed_pt at h
  split at h
  next c0 a0 a1 a2 a3 =>
    split at h
    next e_ =>
      subst e_
      split at h
      next e_ =>
        subst e_
        refine sl_mk2 g [true, true, true, true] (cst := [some (.inr (.inr (some (11, 0)))), some (.inl a1), some (.inl a2), some (.inl a3)]) (lv0 := [none, none, none, none]) (by decide) rfl hw rfl rfl rfl lk_sx_ok (sx_stabbed_hc g) sx_stabbed_tb rfl ?_
        intro X M
        exact ⟨_, sl_VV0, h⟩
      next => exact h.elim
    next => exact h.elim
  next => exact h.elim
def sx_meet (a1 : Int32) (a2 : Int32) (μ : sl_M) (Q : Int32 → sl_M → Prop) : Prop := sx_isRun a1 a2 μ (fun r2 m1 => (r2 = (0 : Int32) → Q (-2 : Int32) m1) ∧ (¬ r2 = (0 : Int32) → ix_bitsMeeting a1 a2 m1 (fun r4 m3 => Q r4 m3)))
def sx_meet_pt : sl_PT := fun As μ Q => match As with
  | [.inr (.inr (some (c0, a0))), .inl a1, .inl a2] => if c0 = 11 then (if a0 = 0 then (sx_meet a1 a2 μ (fun r μ' => Q (some (.inl r)) μ')) else False) else False
  | _ => False
def sx_meet_cd : List sl_Ent := [(0, .iload_n 1, 1, 0, [1], [], false), (1, .iload_n 2, 1, 0, [2], [], false), (2, .invokestatic 137, 3, 0, [0], [], false), (5, .ifCond .eq 15, 3, 0, [20], [], false), (8, .aload_n 0, 1, 0, [0], [], false), (9, .getfield 10, 3, 0, [11, 0, 2, 5, 1], [], false), (12, .iload_n 1, 1, 0, [1], [], false), (13, .iload_n 2, 1, 0, [2], [], false), (14, .invokevirtual 129, 3, 0, [1], [], false), (17, .goto 5, 3, 0, [22], [], false), (20, .bipush (-2), 2, (-2), [], [], false), (22, .ireturn, 1, 0, [], [], false)]
def sx_meet_y : MethodName := ⟨"SpanLayers", "meet", "(II)I"⟩
theorem sx_meet_tb : sl_tbOK sl_R11 prog_1_method_9_code 3 (some .int) lk_sx [(137, 1), (129, 0)] sx_meet_cd = true := by decide +kernel
def sx_meet_ct : List sl_Ct := [(2, 1, 0, sx_isRun_pt), (3, 0, 5, ix_bitsMeeting_pt)]
theorem sx_meet_hc (g : sl_G) : sl_HC g sl_R11 3 sx_meet_ct [(137, 1), (129, 0)] := sl_HC_cons (cs_sx_137 g (by decide)) (sl_HC_cons (cs_sx_129 g (by decide)) (sl_HC_nil g sl_R11 3))
set_option maxRecDepth 20000 in
set_option maxHeartbeats 2000000 in
theorem sx_meet_snd (g : sl_G) : sl_Snd g sx_meet_y prog_1_method_9_code 3 (some .int) 3 (sx_meet_pt) := by
  intro As μ Q hw h
  unfold sx_meet_pt at h
  split at h
  next c0 a0 a1 a2 =>
    split at h
    next e_ =>
      subst e_
      split at h
      next e_ =>
        subst e_
        refine sl_mk2 g [true, true, true] (cst := [some (.inr (.inr (some (11, 0)))), some (.inl a1), some (.inl a2)]) (lv0 := [none, none, none]) (by decide) rfl hw rfl rfl rfl lk_sx_ok (sx_meet_hc g) sx_meet_tb rfl ?_
        intro X M
        exact ⟨_, sl_VV0, h⟩
      next => exact h.elim
    next => exact h.elim
  next => exact h.elim
def sx_pairs (a1 : Int32) (μ : sl_M) (Q : Int32 → sl_M → Prop) : Prop := sx_isBelow a1 (4 : Int32) μ (fun r2 m1 => (r2 = (0 : Int32) → Q (-1 : Int32) m1) ∧ (¬ r2 = (0 : Int32) → ix_countPairs a1 m1 (fun r4 m3 => Q r4 m3)))
def sx_pairs_pt : sl_PT := fun As μ Q => match As with
  | [.inr (.inr (some (c0, a0))), .inl a1] => if c0 = 11 then (if a0 = 0 then (sx_pairs a1 μ (fun r μ' => Q (some (.inl r)) μ')) else False) else False
  | _ => False
def sx_pairs_cd : List sl_Ent := [(0, .iload_n 1, 1, 0, [1], [], false), (1, .iconst 4, 1, 4, [], [], false), (2, .invokestatic 97, 3, 0, [0], [], false), (5, .ifCond .eq 14, 3, 0, [19], [], false), (8, .aload_n 0, 1, 0, [0], [], false), (9, .getfield 10, 3, 0, [11, 0, 2, 5, 1], [], false), (12, .iload_n 1, 1, 0, [1], [], false), (13, .invokevirtual 140, 3, 0, [1], [], false), (16, .goto 4, 3, 0, [20], [], false), (19, .iconst (-1), 1, (-1), [], [], false), (20, .ireturn, 1, 0, [], [], false)]
def sx_pairs_y : MethodName := ⟨"SpanLayers", "pairs", "(I)I"⟩
theorem sx_pairs_tb : sl_tbOK sl_R11 prog_1_method_10_code 2 (some .int) lk_sx [(97, 1), (140, 0)] sx_pairs_cd = true := by decide +kernel
theorem ix_countPairs_w2 : Cond.instanceMethod ix_countPairs_y ∈ sl_T0 := sl_in1 538 (by decide +kernel) rfl
theorem ix_countPairs_w3 : Cond.selects ix_countPairs_y.cls ix_countPairs_y ix_countPairs_y ∈ sl_T0 := sl_in1 539 (by decide +kernel) rfl
theorem ix_countPairs_w4 : Cond.initialized ix_countPairs_y.cls ∈ sl_T0 := sl_in1 86 (by decide +kernel) rfl
theorem ix_countPairs_w5 : Cond.code ix_countPairs_y prog_7_method_17_code 5 (some .int) ∈ sl_T0 := sl_in1 540 (by decide +kernel) rfl
theorem ix_countPairs_w6 : ix_countPairs_y.cls ≠ "java/lang/invoke/MethodHandle" ∧ ix_countPairs_y.cls ≠ "java/lang/invoke/VarHandle" ∧ (parseMethodDescriptor ix_countPairs_y.desc).map (fun d => d.parameters.length) = some 1 := by decide +kernel
theorem cs_sx_140 (g : sl_G) {hh : Nat} (h : 4 ≤ hh) : sl_CallS g sl_R11 140 0 5 hh 2 ix_countPairs_pt := sl_callV (y := ix_countPairs_y) (T := sl_F5) (N := 2) (ix_countPairs_snd g) h (by decide) (sl_in1 537 (by decide +kernel) rfl) ix_countPairs_w2 ix_countPairs_w3 ix_countPairs_w4 ix_countPairs_w5 ix_countPairs_w6 rfl (by decide)
def sx_pairs_ct : List sl_Ct := [(2, 1, 0, sx_isBelow_pt), (2, 0, 5, ix_countPairs_pt)]
theorem sx_pairs_hc (g : sl_G) : sl_HC g sl_R11 4 sx_pairs_ct [(97, 1), (140, 0)] := sl_HC_cons (cs_sx_97 g (by decide)) (sl_HC_cons (cs_sx_140 g (by decide)) (sl_HC_nil g sl_R11 4))
set_option maxRecDepth 20000 in
set_option maxHeartbeats 2000000 in
theorem sx_pairs_snd (g : sl_G) : sl_Snd g sx_pairs_y prog_1_method_10_code 2 (some .int) 4 (sx_pairs_pt) := by
  intro As μ Q hw h
  unfold sx_pairs_pt at h
  split at h
  next c0 a0 a1 =>
    split at h
    next e_ =>
      subst e_
      split at h
      next e_ =>
        subst e_
        refine sl_mk2 g [true, true] (cst := [some (.inr (.inr (some (11, 0)))), some (.inl a1)]) (lv0 := [none, none]) (by decide) rfl hw rfl rfl rfl lk_sx_ok (sx_pairs_hc g) sx_pairs_tb rfl ?_
        intro X M
        exact ⟨_, sl_VV0, h⟩
      next => exact h.elim
    next => exact h.elim
  next => exact h.elim
def sx_nth (a1 : Int32) (a2 : Int32) (μ : sl_M) (Q : Int32 → sl_M → Prop) : Prop := sx_isBelow a1 (5 : Int32) μ (fun r2 m1 => (r2 = (0 : Int32) → Q (-1 : Int32) m1) ∧ (¬ r2 = (0 : Int32) → (a2 < (0 : Int32) → Q (-1 : Int32) m1) ∧ (¬ a2 < (0 : Int32) → ix_sortBy a1 m1 (fun r4 m3 => (a2 < r4 → vp_in a2 30 ∧ sl_kd (m3 3 a2.toNatClampNeg).toNatClampNeg = 9 ∧ Q (m3 ((m3 3 a2.toNatClampNeg).toNatClampNeg) 0) m3) ∧ (¬ a2 < r4 → Q (-5 : Int32) m3)))))
def sx_nth_pt : sl_PT := fun As μ Q => match As with
  | [.inr (.inr (some (c0, a0))), .inl a1, .inl a2] => if c0 = 11 then (if a0 = 0 then (sx_nth a1 a2 μ (fun r μ' => Q (some (.inl r)) μ')) else False) else False
  | _ => False
def sx_nth_cd : List sl_Ent := [(0, .iload_n 1, 1, 0, [1], [], false), (1, .iconst 5, 1, 5, [], [], false), (2, .invokestatic 97, 3, 0, [0], [], false), (5, .ifCond .eq 7, 3, 0, [12], [], false), (8, .iload_n 2, 1, 0, [2], [], false), (9, .ifCond .ge 5, 3, 0, [14], [], false), (12, .iconst (-1), 1, (-1), [], [], false), (13, .ireturn, 1, 0, [], [], false), (14, .aload_n 0, 1, 0, [0], [], false), (15, .getfield 10, 3, 0, [11, 0, 2, 5, 1], [], false), (18, .iload_n 1, 1, 0, [1], [], false), (19, .invokevirtual 144, 3, 0, [1], [], false), (22, .istore_n 3, 1, 0, [3], [], false), (23, .iload_n 2, 1, 0, [2], [], false), (24, .iload_n 3, 1, 0, [3], [], false), (25, .if_icmp .ge 18, 3, 0, [43], [], false), (28, .aload_n 0, 1, 0, [0], [], false), (29, .getfield 10, 3, 0, [11, 0, 2, 5, 1], [], false), (32, .getfield 147, 3, 0, [5, 1, 2, 23, 2], [], false), (35, .iload_n 2, 1, 0, [2], [], false), (36, .aaload, 1, 0, [], [], false), (37, .getfield 150, 3, 0, [9, 0, 0, 0, 0], [], false), (40, .goto 5, 3, 0, [45], [], false), (43, .bipush (-5), 2, (-5), [], [], false), (45, .ireturn, 1, 0, [], [], false)]
def sx_nth_y : MethodName := ⟨"SpanLayers", "nth", "(II)I"⟩
theorem sx_nth_tb : sl_tbOK sl_R11 prog_1_method_11_code 4 (some .int) lk_sx [(97, 1), (144, 0)] sx_nth_cd = true := by decide +kernel
theorem cs_sx_144 (g : sl_G) {hh : Nat} (h : 4 ≤ hh) : sl_CallS g sl_R11 144 0 5 hh 2 ix_sortBy_pt := sl_callV (y := ix_sortBy_y) (T := sl_F5) (N := 2) (ix_sortBy_snd g) h (by decide) (sl_in1 549 (by decide +kernel) rfl) ix_sortBy_w2 ix_sortBy_w3 ix_sortBy_w4 ix_sortBy_w5 ix_sortBy_w6 rfl (by decide)
def sx_nth_ct : List sl_Ct := [(2, 1, 0, sx_isBelow_pt), (2, 0, 5, ix_sortBy_pt)]
theorem sx_nth_hc (g : sl_G) : sl_HC g sl_R11 4 sx_nth_ct [(97, 1), (144, 0)] := sl_HC_cons (cs_sx_97 g (by decide)) (sl_HC_cons (cs_sx_144 g (by decide)) (sl_HC_nil g sl_R11 4))
set_option maxRecDepth 20000 in
set_option maxHeartbeats 2000000 in
theorem sx_nth_snd (g : sl_G) : sl_Snd g sx_nth_y prog_1_method_11_code 4 (some .int) 4 (sx_nth_pt) := by
  intro As μ Q hw h
  unfold sx_nth_pt at h
  split at h
  next c0 a0 a1 a2 =>
    split at h
    next e_ =>
      subst e_
      split at h
      next e_ =>
        subst e_
        refine sl_mk2 g [true, true, true, false] (cst := [some (.inr (.inr (some (11, 0)))), some (.inl a1), some (.inl a2)]) (lv0 := [none, none, none, none]) (by decide) rfl hw rfl rfl rfl lk_sx_ok (sx_nth_hc g) sx_nth_tb rfl ?_
        intro X M
        exact ⟨_, sl_VV0, h⟩
      next => exact h.elim
    next => exact h.elim
  next => exact h.elim
def sx_place (a1 : Int32) (a2 : Int32) (μ : sl_M) (Q : Int32 → sl_M → Prop) : Prop := sx_isBelow a1 (5 : Int32) μ (fun r2 m1 => (r2 = (0 : Int32) → Q (-1 : Int32) m1) ∧ (¬ r2 = (0 : Int32) → sx_isBelow a2 (30 : Int32) m1 (fun r4 m3 => (r4 = (0 : Int32) → Q (-1 : Int32) m3) ∧ (¬ r4 = (0 : Int32) → ix_isIn a2 m3 (fun r6 m5 => (r6 = (0 : Int32) → Q (-3 : Int32) m5) ∧ (¬ r6 = (0 : Int32) → vp_in a2 30 ∧ ix_countAhead a1 (4 + a2.toNatClampNeg) m5 (fun r8 m7 => Q r8 m7)))))))
def sx_place_pt : sl_PT := fun As μ Q => match As with
  | [.inr (.inr (some (c0, a0))), .inl a1, .inl a2] => if c0 = 11 then (if a0 = 0 then (sx_place a1 a2 μ (fun r μ' => Q (some (.inl r)) μ')) else False) else False
  | _ => False
def sx_place_cd : List sl_Ent := [(0, .iload_n 1, 1, 0, [1], [], false), (1, .iconst 5, 1, 5, [], [], false), (2, .invokestatic 97, 3, 0, [0], [], false), (5, .ifCond .eq 12, 3, 0, [17], [], false), (8, .iload_n 2, 1, 0, [2], [], false), (9, .bipush 30, 2, 30, [], [], false), (11, .invokestatic 97, 3, 0, [0], [], false), (14, .ifCond .ne 5, 3, 0, [19], [], false), (17, .iconst (-1), 1, (-1), [], [], false), (18, .ireturn, 1, 0, [], [], false), (19, .aload_n 0, 1, 0, [0], [], false), (20, .getfield 10, 3, 0, [11, 0, 2, 5, 1], [], false), (23, .iload_n 2, 1, 0, [2], [], false), (24, .invokevirtual 101, 3, 0, [1], [], false), (27, .ifCond .ne 6, 3, 0, [33], [], false), (30, .bipush (-3), 2, (-3), [], [], false), (32, .ireturn, 1, 0, [], [], false), (33, .aload_n 0, 1, 0, [0], [], false), (34, .getfield 10, 3, 0, [11, 0, 2, 5, 1], [], false), (37, .iload_n 1, 1, 0, [1], [], false), (38, .aload_n 0, 1, 0, [0], [], false), (39, .getfield 10, 3, 0, [11, 0, 2, 5, 1], [], false), (42, .getfield 112, 3, 0, [5, 0, 2, 22, 1], [], false), (45, .iload_n 2, 1, 0, [2], [], false), (46, .aaload, 1, 0, [], [], false), (47, .invokevirtual 154, 3, 0, [2], [], false), (50, .ireturn, 1, 0, [], [], false)]
def sx_place_y : MethodName := ⟨"SpanLayers", "place", "(II)I"⟩
theorem sx_place_tb : sl_tbOK sl_R11 prog_1_method_12_code 3 (some .int) lk_sx [(97, 1), (101, 0), (154, 0)] sx_place_cd = true := by decide +kernel
theorem ix_countAhead_w2 : Cond.instanceMethod ix_countAhead_y ∈ sl_T0 := sl_in1 555 (by decide +kernel) rfl
theorem ix_countAhead_w3 : Cond.selects ix_countAhead_y.cls ix_countAhead_y ix_countAhead_y ∈ sl_T0 := sl_in1 556 (by decide +kernel) rfl
theorem ix_countAhead_w4 : Cond.initialized ix_countAhead_y.cls ∈ sl_T0 := sl_in1 86 (by decide +kernel) rfl
theorem ix_countAhead_w5 : Cond.code ix_countAhead_y prog_7_method_19_code 5 (some .int) ∈ sl_T0 := sl_in1 557 (by decide +kernel) rfl
theorem ix_countAhead_w6 : ix_countAhead_y.cls ≠ "java/lang/invoke/MethodHandle" ∧ ix_countAhead_y.cls ≠ "java/lang/invoke/VarHandle" ∧ (parseMethodDescriptor ix_countAhead_y.desc).map (fun d => d.parameters.length) = some 2 := by decide +kernel
theorem cs_sx_154 (g : sl_G) {hh : Nat} (h : 4 ≤ hh) : sl_CallS g sl_R11 154 0 5 hh 3 ix_countAhead_pt := sl_callV (y := ix_countAhead_y) (T := sl_F5) (N := 2) (ix_countAhead_snd g) h (by decide) (sl_in1 554 (by decide +kernel) rfl) ix_countAhead_w2 ix_countAhead_w3 ix_countAhead_w4 ix_countAhead_w5 ix_countAhead_w6 rfl (by decide)
def sx_place_ct : List sl_Ct := [(2, 1, 0, sx_isBelow_pt), (2, 0, 5, ix_isIn_pt), (3, 0, 5, ix_countAhead_pt)]
theorem sx_place_hc (g : sl_G) : sl_HC g sl_R11 4 sx_place_ct [(97, 1), (101, 0), (154, 0)] := sl_HC_cons (cs_sx_97 g (by decide)) (sl_HC_cons (cs_sx_101 g (by decide)) (sl_HC_cons (cs_sx_154 g (by decide)) (sl_HC_nil g sl_R11 4)))
set_option maxRecDepth 20000 in
set_option maxHeartbeats 2000000 in
theorem sx_place_snd (g : sl_G) : sl_Snd g sx_place_y prog_1_method_12_code 3 (some .int) 4 (sx_place_pt) := by
  intro As μ Q hw h
  unfold sx_place_pt at h
  split at h
  next c0 a0 a1 a2 =>
    split at h
    next e_ =>
      subst e_
      split at h
      next e_ =>
        subst e_
        refine sl_mk2 g [true, true, true] (cst := [some (.inr (.inr (some (11, 0)))), some (.inl a1), some (.inl a2)]) (lv0 := [none, none, none]) (by decide) rfl hw rfl rfl rfl lk_sx_ok (sx_place_hc g) sx_place_tb rfl ?_
        intro X M
        exact ⟨_, sl_VV0, h⟩
      next => exact h.elim
    next => exact h.elim
  next => exact h.elim
def sx_layer (a1 : Int32) (μ : sl_M) (Q : Int32 → sl_M → Prop) : Prop := (a1 < (0 : Int32) → Q (-1 : Int32) μ) ∧ (¬ a1 < (0 : Int32) → ix_bitsOfLayer a1 μ (fun r2 m1 => Q r2 m1))
def sx_layer_pt : sl_PT := fun As μ Q => match As with
  | [.inr (.inr (some (c0, a0))), .inl a1] => if c0 = 11 then (if a0 = 0 then (sx_layer a1 μ (fun r μ' => Q (some (.inl r)) μ')) else False) else False
  | _ => False
def sx_layer_cd : List sl_Ent := [(0, .iload_n 1, 1, 0, [1], [], false), (1, .ifCond .ge 7, 3, 0, [8], [], false), (4, .iconst (-1), 1, (-1), [], [], false), (5, .goto 11, 3, 0, [16], [], false), (8, .aload_n 0, 1, 0, [0], [], false), (9, .getfield 10, 3, 0, [11, 0, 2, 5, 1], [], false), (12, .iload_n 1, 1, 0, [1], [], false), (13, .invokevirtual 158, 3, 0, [0], [], false), (16, .ireturn, 1, 0, [], [], false)]
def sx_layer_y : MethodName := ⟨"SpanLayers", "layer", "(I)I"⟩
theorem sx_layer_tb : sl_tbOK sl_R11 prog_1_method_13_code 2 (some .int) lk_sx [(158, 0)] sx_layer_cd = true := by decide +kernel
theorem ix_bitsOfLayer_w2 : Cond.instanceMethod ix_bitsOfLayer_y ∈ sl_T0 := sl_in1 563 (by decide +kernel) rfl
theorem ix_bitsOfLayer_w3 : Cond.selects ix_bitsOfLayer_y.cls ix_bitsOfLayer_y ix_bitsOfLayer_y ∈ sl_T0 := sl_in1 564 (by decide +kernel) rfl
theorem ix_bitsOfLayer_w4 : Cond.initialized ix_bitsOfLayer_y.cls ∈ sl_T0 := sl_in1 86 (by decide +kernel) rfl
theorem ix_bitsOfLayer_w5 : Cond.code ix_bitsOfLayer_y prog_7_method_12_code 4 (some .int) ∈ sl_T0 := sl_in1 565 (by decide +kernel) rfl
theorem ix_bitsOfLayer_w6 : ix_bitsOfLayer_y.cls ≠ "java/lang/invoke/MethodHandle" ∧ ix_bitsOfLayer_y.cls ≠ "java/lang/invoke/VarHandle" ∧ (parseMethodDescriptor ix_bitsOfLayer_y.desc).map (fun d => d.parameters.length) = some 1 := by decide +kernel
theorem cs_sx_158 (g : sl_G) {hh : Nat} (h : 1 ≤ hh) : sl_CallS g sl_R11 158 0 5 hh 2 ix_bitsOfLayer_pt := sl_callV (y := ix_bitsOfLayer_y) (T := sl_F5) (N := 2) (ix_bitsOfLayer_snd g) h (by decide) (sl_in1 562 (by decide +kernel) rfl) ix_bitsOfLayer_w2 ix_bitsOfLayer_w3 ix_bitsOfLayer_w4 ix_bitsOfLayer_w5 ix_bitsOfLayer_w6 rfl (by decide)
def sx_layer_ct : List sl_Ct := [(2, 0, 5, ix_bitsOfLayer_pt)]
theorem sx_layer_hc (g : sl_G) : sl_HC g sl_R11 1 sx_layer_ct [(158, 0)] := sl_HC_cons (cs_sx_158 g (by decide)) (sl_HC_nil g sl_R11 1)
set_option maxRecDepth 20000 in
set_option maxHeartbeats 2000000 in
theorem sx_layer_snd (g : sl_G) : sl_Snd g sx_layer_y prog_1_method_13_code 2 (some .int) 1 (sx_layer_pt) := by
  intro As μ Q hw h
  unfold sx_layer_pt at h
  split at h
  next c0 a0 a1 =>
    split at h
    next e_ =>
      subst e_
      split at h
      next e_ =>
        subst e_
        refine sl_mk2 g [true, true] (cst := [some (.inr (.inr (some (11, 0)))), some (.inl a1)]) (lv0 := [none, none]) (by decide) rfl hw rfl rfl rfl lk_sx_ok (sx_layer_hc g) sx_layer_tb rfl ?_
        intro X M
        exact ⟨_, sl_VV0, h⟩
      next => exact h.elim
    next => exact h.elim
  next => exact h.elim
def sx_open (a1 : Int32) (a2 : Int32) (μ : sl_M) (Q : Int32 → sl_M → Prop) : Prop := sx_isBelow a1 (3 : Int32) μ (fun r2 m1 => (r2 = (0 : Int32) → Q (-1 : Int32) m1) ∧ (¬ r2 = (0 : Int32) → sx_isBelow a2 (5 : Int32) m1 (fun r4 m3 => (r4 = (0 : Int32) → Q (-1 : Int32) m3) ∧ (¬ r4 = (0 : Int32) → vp_in a1 3 ∧ cu_begin (90 + 2 * a1.toNatClampNeg) a2 m3 (fun m5 => sx_countOpen m5 (fun r7 m6 => Q r7 m6))))))
def sx_open_pt : sl_PT := fun As μ Q => match As with
  | [.inr (.inr (some (c0, a0))), .inl a1, .inl a2] => if c0 = 11 then (if a0 = 0 then (sx_open a1 a2 μ (fun r μ' => Q (some (.inl r)) μ')) else False) else False
  | _ => False
def sx_open_cd : List sl_Ent := [(0, .iload_n 1, 1, 0, [1], [], false), (1, .iconst 3, 1, 3, [], [], false), (2, .invokestatic 97, 3, 0, [0], [], false), (5, .ifCond .eq 11, 3, 0, [16], [], false), (8, .iload_n 2, 1, 0, [2], [], false), (9, .iconst 5, 1, 5, [], [], false), (10, .invokestatic 97, 3, 0, [0], [], false), (13, .ifCond .ne 5, 3, 0, [18], [], false), (16, .iconst (-1), 1, (-1), [], [], false), (17, .ireturn, 1, 0, [], [], false), (18, .aload_n 0, 1, 0, [0], [], false), (19, .getfield 32, 3, 0, [11, 3, 2, 24, 42], [], false), (22, .iload_n 1, 1, 0, [1], [], false), (23, .aaload, 1, 0, [], [], false), (24, .iload_n 2, 1, 0, [2], [], false), (25, .invokevirtual 161, 3, 0, [1], [], false), (28, .aload_n 0, 1, 0, [0], [], false), (29, .invokevirtual 164, 3, 0, [2], [], false), (32, .ireturn, 1, 0, [], [], false)]
def sx_open_y : MethodName := ⟨"SpanLayers", "open", "(II)I"⟩
theorem sx_open_tb : sl_tbOK sl_R11 prog_1_method_14_code 3 (some .int) lk_sx [(97, 1), (161, 0), (164, 0)] sx_open_cd = true := by decide +kernel
theorem cu_begin_w2 : Cond.instanceMethod cu_begin_y ∈ sl_T0 := sl_in1 571 (by decide +kernel) rfl
theorem cu_begin_w3 : Cond.selects cu_begin_y.cls cu_begin_y cu_begin_y ∈ sl_T0 := sl_in1 572 (by decide +kernel) rfl
theorem cu_begin_w4 : Cond.initialized cu_begin_y.cls ∈ sl_T0 := sl_in1 95 (by decide +kernel) rfl
theorem cu_begin_w5 : Cond.code cu_begin_y prog_6_method_2_code 2 none ∈ sl_T0 := sl_in1 573 (by decide +kernel) rfl
theorem cu_begin_w6 : cu_begin_y.cls ≠ "java/lang/invoke/MethodHandle" ∧ cu_begin_y.cls ≠ "java/lang/invoke/VarHandle" ∧ (parseMethodDescriptor cu_begin_y.desc).map (fun d => d.parameters.length) = some 1 := by decide +kernel
theorem cs_sx_161 (g : sl_G) {hh : Nat} (h : 1 ≤ hh) : sl_CallS g sl_R11 161 0 4 hh 2 cu_begin_pt := sl_callV (y := cu_begin_y) (T := sl_F4) (N := 4) (cu_begin_snd g) h (by decide) (sl_in1 570 (by decide +kernel) rfl) cu_begin_w2 cu_begin_w3 cu_begin_w4 cu_begin_w5 cu_begin_w6 rfl (by decide)
theorem sx_countOpen_w2 : Cond.instanceMethod sx_countOpen_y ∈ sl_T0 := sl_in1 576 (by decide +kernel) rfl
theorem sx_countOpen_w3 : Cond.selects sx_countOpen_y.cls sx_countOpen_y sx_countOpen_y ∈ sl_T0 := sl_in1 5 (by decide +kernel) rfl
theorem sx_countOpen_w4 : Cond.initialized sx_countOpen_y.cls ∈ sl_T0 := sl_in1 85 (by decide +kernel) rfl
theorem sx_countOpen_w5 : Cond.code sx_countOpen_y prog_1_method_44_code 3 (some .int) ∈ sl_T0 := sl_in1 577 (by decide +kernel) rfl
theorem sx_countOpen_w6 : sx_countOpen_y.cls ≠ "java/lang/invoke/MethodHandle" ∧ sx_countOpen_y.cls ≠ "java/lang/invoke/VarHandle" ∧ (parseMethodDescriptor sx_countOpen_y.desc).map (fun d => d.parameters.length) = some 0 := by decide +kernel
theorem cs_sx_164 (g : sl_G) {hh : Nat} (h : 1 ≤ hh) : sl_CallS g sl_R11 164 0 11 hh 1 sx_countOpen_pt := sl_callV (y := sx_countOpen_y) (T := sl_F11) (N := 12) (sx_countOpen_snd g) h (by decide) (sl_in1 574 (by decide +kernel) rfl) sx_countOpen_w2 sx_countOpen_w3 sx_countOpen_w4 sx_countOpen_w5 sx_countOpen_w6 rfl (by decide)
def sx_open_ct : List sl_Ct := [(2, 1, 0, sx_isBelow_pt), (2, 0, 4, cu_begin_pt), (1, 0, 11, sx_countOpen_pt)]
theorem sx_open_hc (g : sl_G) : sl_HC g sl_R11 1 sx_open_ct [(97, 1), (161, 0), (164, 0)] := sl_HC_cons (cs_sx_97 g (by decide)) (sl_HC_cons (cs_sx_161 g (by decide)) (sl_HC_cons (cs_sx_164 g (by decide)) (sl_HC_nil g sl_R11 1)))
set_option maxRecDepth 20000 in
set_option maxHeartbeats 2000000 in
theorem sx_open_snd (g : sl_G) : sl_Snd g sx_open_y prog_1_method_14_code 3 (some .int) 1 (sx_open_pt) := by
  intro As μ Q hw h
  unfold sx_open_pt at h
  split at h
  next c0 a0 a1 a2 =>
    split at h
    next e_ =>
      subst e_
      split at h
      next e_ =>
        subst e_
        refine sl_mk2 g [true, true, true] (cst := [some (.inr (.inr (some (11, 0)))), some (.inl a1), some (.inl a2)]) (lv0 := [none, none, none]) (by decide) rfl hw rfl rfl rfl lk_sx_ok (sx_open_hc g) sx_open_tb rfl ?_
        intro X M
        exact ⟨_, sl_VV0, h⟩
      next => exact h.elim
    next => exact h.elim
  next => exact h.elim
def sx_shut (a1 : Int32) (μ : sl_M) (Q : Int32 → sl_M → Prop) : Prop := sx_isBelow a1 (3 : Int32) μ (fun r2 m1 => (r2 = (0 : Int32) → Q (-1 : Int32) m1) ∧ (¬ r2 = (0 : Int32) → vp_in a1 3 ∧ ((sl_bz (m1 (90 + 2 * a1.toNatClampNeg) 0)) = (0 : Int32) → Q (-3 : Int32) m1) ∧ (¬ (sl_bz (m1 (90 + 2 * a1.toNatClampNeg) 0)) = (0 : Int32) → vp_in a1 3 ∧ sl_bz (0 : Int32) = (0 : Int32) ∧ ∀ m3, m3 = sl_up m1 (90 + 2 * a1.toNatClampNeg) 0 (0 : Int32) → sx_countOpen m3 (fun r5 m4 => Q r5 m4))))
def sx_shut_pt : sl_PT := fun As μ Q => match As with
  | [.inr (.inr (some (c0, a0))), .inl a1] => if c0 = 11 then (if a0 = 0 then (sx_shut a1 μ (fun r μ' => Q (some (.inl r)) μ')) else False) else False
  | _ => False
def sx_shut_cd : List sl_Ent := [(0, .iload_n 1, 1, 0, [1], [], false), (1, .iconst 3, 1, 3, [], [], false), (2, .invokestatic 97, 3, 0, [0], [], false), (5, .ifCond .ne 5, 3, 0, [10], [], false), (8, .iconst (-1), 1, (-1), [], [], false), (9, .ireturn, 1, 0, [], [], false), (10, .aload_n 0, 1, 0, [0], [], false), (11, .getfield 32, 3, 0, [11, 3, 2, 24, 42], [], false), (14, .iload_n 1, 1, 0, [1], [], false), (15, .aaload, 1, 0, [], [], false), (16, .getfield 167, 3, 0, [4, 0, 1, 0, 0], [], false), (19, .ifCond .ne 6, 3, 0, [25], [], false), (22, .bipush (-3), 2, (-3), [], [], false), (24, .ireturn, 1, 0, [], [], false), (25, .aload_n 0, 1, 0, [0], [], false), (26, .getfield 32, 3, 0, [11, 3, 2, 24, 42], [], false), (29, .iload_n 1, 1, 0, [1], [], false), (30, .aaload, 1, 0, [], [], false), (31, .iconst 0, 1, 0, [], [], false), (32, .putfield 167, 3, 0, [4, 0, 1], [], false), (35, .aload_n 0, 1, 0, [0], [], false), (36, .invokevirtual 164, 3, 0, [1], [], false), (39, .ireturn, 1, 0, [], [], false)]
def sx_shut_y : MethodName := ⟨"SpanLayers", "shut", "(I)I"⟩
theorem sx_shut_tb : sl_tbOK sl_R11 prog_1_method_15_code 2 (some .int) lk_sx [(97, 1), (164, 0)] sx_shut_cd = true := by decide +kernel
def sx_shut_ct : List sl_Ct := [(2, 1, 0, sx_isBelow_pt), (1, 0, 11, sx_countOpen_pt)]
theorem sx_shut_hc (g : sl_G) : sl_HC g sl_R11 1 sx_shut_ct [(97, 1), (164, 0)] := sl_HC_cons (cs_sx_97 g (by decide)) (sl_HC_cons (cs_sx_164 g (by decide)) (sl_HC_nil g sl_R11 1))
set_option maxRecDepth 20000 in
set_option maxHeartbeats 2000000 in
theorem sx_shut_snd (g : sl_G) : sl_Snd g sx_shut_y prog_1_method_15_code 2 (some .int) 1 (sx_shut_pt) := by
  intro As μ Q hw h
  unfold sx_shut_pt at h
  split at h
  next c0 a0 a1 =>
    split at h
    next e_ =>
      subst e_
      split at h
      next e_ =>
        subst e_
        refine sl_mk2 g [true, true] (cst := [some (.inr (.inr (some (11, 0)))), some (.inl a1)]) (lv0 := [none, none]) (by decide) rfl hw rfl rfl rfl lk_sx_ok (sx_shut_hc g) sx_shut_tb rfl ?_
        intro X M
        exact ⟨_, sl_VV0, h⟩
      next => exact h.elim
    next => exact h.elim
  next => exact h.elim
def sx_next (a1 : Int32) (μ : sl_M) (Q : Int32 → sl_M → Prop) : Prop := sx_isBelow a1 (3 : Int32) μ (fun r2 m1 => (r2 = (0 : Int32) → Q (-1 : Int32) m1) ∧ (¬ r2 = (0 : Int32) → vp_in a1 3 ∧ ((sl_bz (m1 (90 + 2 * a1.toNatClampNeg) 0)) = (0 : Int32) → Q (-3 : Int32) m1) ∧ (¬ (sl_bz (m1 (90 + 2 * a1.toNatClampNeg) 0)) = (0 : Int32) → vp_in a1 3 ∧ ix_firstBehind (90 + 2 * a1.toNatClampNeg) m1 (fun r4 m3 => r4.elim (Q (-5 : Int32) m3) (fun o5 => vp_in a1 3 ∧ cu_tell (90 + 2 * a1.toNatClampNeg) o5 m3 (fun m6 => Q (m6 o5 0) m6))))))
def sx_next_pt : sl_PT := fun As μ Q => match As with
  | [.inr (.inr (some (c0, a0))), .inl a1] => if c0 = 11 then (if a0 = 0 then (sx_next a1 μ (fun r μ' => Q (some (.inl r)) μ')) else False) else False
  | _ => False
def sx_next_cd : List sl_Ent := [(0, .iload_n 1, 1, 0, [1], [], false), (1, .iconst 3, 1, 3, [], [], false), (2, .invokestatic 97, 3, 0, [0], [], false), (5, .ifCond .ne 5, 3, 0, [10], [], false), (8, .iconst (-1), 1, (-1), [], [], false), (9, .ireturn, 1, 0, [], [], false), (10, .aload_n 0, 1, 0, [0], [], false), (11, .getfield 32, 3, 0, [11, 3, 2, 24, 42], [], false), (14, .iload_n 1, 1, 0, [1], [], false), (15, .aaload, 1, 0, [], [], false), (16, .getfield 167, 3, 0, [4, 0, 1, 0, 0], [], false), (19, .ifCond .ne 6, 3, 0, [25], [], false), (22, .bipush (-3), 2, (-3), [], [], false), (24, .ireturn, 1, 0, [], [], false), (25, .aload_n 0, 1, 0, [0], [], false), (26, .getfield 10, 3, 0, [11, 0, 2, 5, 1], [], false), (29, .aload_n 0, 1, 0, [0], [], false), (30, .getfield 32, 3, 0, [11, 3, 2, 24, 42], [], false), (33, .iload_n 1, 1, 0, [1], [], false), (34, .aaload, 1, 0, [], [], false), (35, .invokevirtual 171, 3, 0, [1], [], false), (38, .astore_n 2, 1, 0, [2], [], false), (39, .aload_n 2, 1, 0, [2], [], false), (40, .ifnonnull 6, 3, 0, [46], [], false), (43, .bipush (-5), 2, (-5), [], [], false), (45, .ireturn, 1, 0, [], [], false), (46, .aload_n 0, 1, 0, [0], [], false), (47, .getfield 32, 3, 0, [11, 3, 2, 24, 42], [], false), (50, .iload_n 1, 1, 0, [1], [], false), (51, .aaload, 1, 0, [], [], false), (52, .aload_n 2, 1, 0, [2], [], false), (53, .invokevirtual 175, 3, 0, [2], [], false), (56, .aload_n 2, 1, 0, [2], [], false), (57, .getfield 150, 3, 0, [9, 0, 0, 0, 0], [], false), (60, .ireturn, 1, 0, [], [], false)]
def sx_next_y : MethodName := ⟨"SpanLayers", "next", "(I)I"⟩
theorem sx_next_tb : sl_tbOK sl_R11 prog_1_method_16_code 3 (some .int) lk_sx [(97, 1), (171, 0), (175, 0)] sx_next_cd = true := by decide +kernel
theorem ix_firstBehind_w2 : Cond.instanceMethod ix_firstBehind_y ∈ sl_T0 := sl_in1 587 (by decide +kernel) rfl
theorem ix_firstBehind_w3 : Cond.selects ix_firstBehind_y.cls ix_firstBehind_y ix_firstBehind_y ∈ sl_T0 := sl_in1 588 (by decide +kernel) rfl
theorem ix_firstBehind_w4 : Cond.initialized ix_firstBehind_y.cls ∈ sl_T0 := sl_in1 86 (by decide +kernel) rfl
theorem ix_firstBehind_w5 : Cond.code ix_firstBehind_y prog_7_method_20_code 6 (some (.object "SpanLayers$Span")) ∈ sl_T0 := sl_in1 589 (by decide +kernel) rfl
theorem ix_firstBehind_w6 : ix_firstBehind_y.cls ≠ "java/lang/invoke/MethodHandle" ∧ ix_firstBehind_y.cls ≠ "java/lang/invoke/VarHandle" ∧ (parseMethodDescriptor ix_firstBehind_y.desc).map (fun d => d.parameters.length) = some 1 := by decide +kernel
theorem cs_sx_171 (g : sl_G) {hh : Nat} (h : 4 ≤ hh) : sl_CallS g sl_R11 171 0 5 hh 2 ix_firstBehind_pt := sl_callV (y := ix_firstBehind_y) (T := sl_F5) (N := 2) (ix_firstBehind_snd g) h (by decide) (sl_in1 586 (by decide +kernel) rfl) ix_firstBehind_w2 ix_firstBehind_w3 ix_firstBehind_w4 ix_firstBehind_w5 ix_firstBehind_w6 rfl (by decide)
theorem cu_tell_w2 : Cond.instanceMethod cu_tell_y ∈ sl_T0 := sl_in1 591 (by decide +kernel) rfl
theorem cu_tell_w3 : Cond.selects cu_tell_y.cls cu_tell_y cu_tell_y ∈ sl_T0 := sl_in1 592 (by decide +kernel) rfl
theorem cu_tell_w4 : Cond.initialized cu_tell_y.cls ∈ sl_T0 := sl_in1 95 (by decide +kernel) rfl
theorem cu_tell_w5 : Cond.code cu_tell_y prog_6_method_3_code 2 none ∈ sl_T0 := sl_in1 593 (by decide +kernel) rfl
theorem cu_tell_w6 : cu_tell_y.cls ≠ "java/lang/invoke/MethodHandle" ∧ cu_tell_y.cls ≠ "java/lang/invoke/VarHandle" ∧ (parseMethodDescriptor cu_tell_y.desc).map (fun d => d.parameters.length) = some 1 := by decide +kernel
theorem cs_sx_175 (g : sl_G) {hh : Nat} (h : 2 ≤ hh) : sl_CallS g sl_R11 175 0 4 hh 2 cu_tell_pt := sl_callV (y := cu_tell_y) (T := sl_F4) (N := 4) (cu_tell_snd g) h (by decide) (sl_in1 590 (by decide +kernel) rfl) cu_tell_w2 cu_tell_w3 cu_tell_w4 cu_tell_w5 cu_tell_w6 rfl (by decide)
def sx_next_ct : List sl_Ct := [(2, 1, 0, sx_isBelow_pt), (2, 0, 5, ix_firstBehind_pt), (2, 0, 4, cu_tell_pt)]
theorem sx_next_hc (g : sl_G) : sl_HC g sl_R11 4 sx_next_ct [(97, 1), (171, 0), (175, 0)] := sl_HC_cons (cs_sx_97 g (by decide)) (sl_HC_cons (cs_sx_171 g (by decide)) (sl_HC_cons (cs_sx_175 g (by decide)) (sl_HC_nil g sl_R11 4)))
set_option maxRecDepth 20000 in
set_option maxHeartbeats 2000000 in
theorem sx_next_snd (g : sl_G) : sl_Snd g sx_next_y prog_1_method_16_code 3 (some .int) 4 (sx_next_pt) := by
  intro As μ Q hw h
  unfold sx_next_pt at h
  split at h
  next c0 a0 a1 =>
    split at h
    next e_ =>
      subst e_
      split at h
      next e_ =>
        subst e_
        refine sl_mk2 g [true, true, false] (cst := [some (.inr (.inr (some (11, 0)))), some (.inl a1)]) (lv0 := [none, none, none]) (by decide) rfl hw rfl rfl rfl lk_sx_ok (sx_next_hc g) sx_next_tb rfl ?_
        intro X M
        exact ⟨_, sl_VV0, h⟩
      next => exact h.elim
    next => exact h.elim
  next => exact h.elim
def sx_remove (a1 : Int32) (μ : sl_M) (Q : Int32 → sl_M → Prop) : Prop := sx_isBelow a1 (3 : Int32) μ (fun r2 m1 => (r2 = (0 : Int32) → Q (-1 : Int32) m1) ∧ (¬ r2 = (0 : Int32) → vp_in a1 3 ∧ ((sl_bz (m1 (90 + 2 * a1.toNatClampNeg) 0)) = (0 : Int32) → Q (-3 : Int32) m1) ∧ (¬ (sl_bz (m1 (90 + 2 * a1.toNatClampNeg) 0)) = (0 : Int32) → ((sl_bz (m1 (90 + 2 * a1.toNatClampNeg) 2)) = (0 : Int32) → Q (-3 : Int32) m1) ∧ (¬ (sl_bz (m1 (90 + 2 * a1.toNatClampNeg) 2)) = (0 : Int32) → ix_isIn (m1 ((90 + 2 * a1.toNatClampNeg) + 1) 0) m1 (fun r4 m3 => (r4 = (0 : Int32) → Q (-3 : Int32) m3) ∧ (¬ r4 = (0 : Int32) → ix_takeOut ((1 : Int32) <<< ((m3 ((90 + 2 * a1.toNatClampNeg) + 1) 0) &&& 31)) m3 (fun m5 => ix_count m5 (fun r7 m6 => Q r7 m6))))))))
def sx_remove_pt : sl_PT := fun As μ Q => match As with
  | [.inr (.inr (some (c0, a0))), .inl a1] => if c0 = 11 then (if a0 = 0 then (sx_remove a1 μ (fun r μ' => Q (some (.inl r)) μ')) else False) else False
  | _ => False
def sx_remove_cd : List sl_Ent := [(0, .iload_n 1, 1, 0, [1], [], false), (1, .iconst 3, 1, 3, [], [], false), (2, .invokestatic 97, 3, 0, [0], [], false), (5, .ifCond .ne 5, 3, 0, [10], [], false), (8, .iconst (-1), 1, (-1), [], [], false), (9, .ireturn, 1, 0, [], [], false), (10, .aload_n 0, 1, 0, [0], [], false), (11, .getfield 32, 3, 0, [11, 3, 2, 24, 42], [], false), (14, .iload_n 1, 1, 0, [1], [], false), (15, .aaload, 1, 0, [], [], false), (16, .astore_n 2, 1, 0, [2], [], false), (17, .aload_n 2, 1, 0, [2], [], false), (18, .getfield 167, 3, 0, [4, 0, 1, 0, 0], [], false), (21, .ifCond .eq 27, 3, 0, [48], [], false), (24, .aload_n 2, 1, 0, [2], [], false), (25, .getfield 179, 3, 0, [4, 2, 1, 0, 0], [], false), (28, .ifCond .eq 20, 3, 0, [48], [], false), (31, .aload_n 0, 1, 0, [0], [], false), (32, .getfield 10, 3, 0, [11, 0, 2, 5, 1], [], false), (35, .aload_n 2, 1, 0, [2], [], false), (36, .getfield 182, 3, 0, [4, 3, 2, 9, 1], [], false), (39, .getfield 150, 3, 0, [9, 0, 0, 0, 0], [], false), (42, .invokevirtual 101, 3, 0, [1], [], false), (45, .ifCond .ne 6, 3, 0, [51], [], false), (48, .bipush (-3), 2, (-3), [], [], false), (50, .ireturn, 1, 0, [], [], false), (51, .aload_n 0, 1, 0, [0], [], false), (52, .getfield 10, 3, 0, [11, 0, 2, 5, 1], [], false), (55, .iconst 1, 1, 1, [], [], false), (56, .aload_n 2, 1, 0, [2], [], false), (57, .getfield 182, 3, 0, [4, 3, 2, 9, 1], [], false), (60, .getfield 150, 3, 0, [9, 0, 0, 0, 0], [], false), (63, .ishl, 1, 0, [], [], false), (64, .invokevirtual 105, 3, 0, [2], [], false), (67, .aload_n 0, 1, 0, [0], [], false), (68, .getfield 10, 3, 0, [11, 0, 2, 5, 1], [], false), (71, .invokevirtual 109, 3, 0, [3], [], false), (74, .ireturn, 1, 0, [], [], false)]
def sx_remove_y : MethodName := ⟨"SpanLayers", "remove", "(I)I"⟩
theorem sx_remove_tb : sl_tbOK sl_R11 prog_1_method_17_code 3 (some .int) lk_sx [(97, 1), (101, 0), (105, 0), (109, 0)] sx_remove_cd = true := by decide +kernel
def sx_remove_ct : List sl_Ct := [(2, 1, 0, sx_isBelow_pt), (2, 0, 5, ix_isIn_pt), (2, 0, 5, ix_takeOut_pt), (1, 0, 5, ix_count_pt)]
theorem sx_remove_hc (g : sl_G) : sl_HC g sl_R11 6 sx_remove_ct [(97, 1), (101, 0), (105, 0), (109, 0)] := sl_HC_cons (cs_sx_97 g (by decide)) (sl_HC_cons (cs_sx_101 g (by decide)) (sl_HC_cons (cs_sx_105 g (by decide)) (sl_HC_cons (cs_sx_109 g (by decide)) (sl_HC_nil g sl_R11 6))))
set_option maxRecDepth 20000 in
set_option maxHeartbeats 2000000 in
theorem sx_remove_snd (g : sl_G) : sl_Snd g sx_remove_y prog_1_method_17_code 3 (some .int) 6 (sx_remove_pt) := by
  intro As μ Q hw h
  unfold sx_remove_pt at h
  split at h
  next c0 a0 a1 =>
    split at h
    next e_ =>
      subst e_
      split at h
      next e_ =>
        subst e_
        refine sl_mk2 g [true, true, false] (cst := [some (.inr (.inr (some (11, 0)))), some (.inl a1)]) (lv0 := [none, none, none]) (by decide) rfl hw rfl rfl rfl lk_sx_ok (sx_remove_hc g) sx_remove_tb rfl ?_
        intro X M
        exact ⟨_, sl_VV0, h⟩
      next => exact h.elim
    next => exact h.elim
  next => exact h.elim
def sx_covered (a1 : Int32) (μ : sl_M) (Q : Int32 → sl_M → Prop) : Prop := sx_isBelow a1 (5 : Int32) μ (fun r2 m1 => (r2 = (0 : Int32) → Q (-1 : Int32) m1) ∧ (¬ r2 = (0 : Int32) → cv_readFrom m1 (fun m3 => cv_total a1 m3 (fun r5 m4 => Q r5 m4))))
def sx_covered_pt : sl_PT := fun As μ Q => match As with
  | [.inr (.inr (some (c0, a0))), .inl a1] => if c0 = 11 then (if a0 = 0 then (sx_covered a1 μ (fun r μ' => Q (some (.inl r)) μ')) else False) else False
  | _ => False
def sx_covered_cd : List sl_Ent := [(0, .iload_n 1, 1, 0, [1], [], false), (1, .iconst 5, 1, 5, [], [], false), (2, .invokestatic 97, 3, 0, [0], [], false), (5, .ifCond .ne 5, 3, 0, [10], [], false), (8, .iconst (-1), 1, (-1), [], [], false), (9, .ireturn, 1, 0, [], [], false), (10, .aload_n 0, 1, 0, [0], [], false), (11, .getfield 19, 3, 0, [11, 1, 2, 3, 34], [], false), (14, .aload_n 0, 1, 0, [0], [], false), (15, .getfield 10, 3, 0, [11, 0, 2, 5, 1], [], false), (18, .invokevirtual 186, 3, 0, [1], [], false), (21, .aload_n 0, 1, 0, [0], [], false), (22, .getfield 19, 3, 0, [11, 1, 2, 3, 34], [], false), (25, .iload_n 1, 1, 0, [1], [], false), (26, .invokevirtual 190, 3, 0, [2], [], false), (29, .ireturn, 1, 0, [], [], false)]
def sx_covered_y : MethodName := ⟨"SpanLayers", "covered", "(I)I"⟩
theorem sx_covered_tb : sl_tbOK sl_R11 prog_1_method_18_code 2 (some .int) lk_sx [(97, 1), (186, 0), (190, 0)] sx_covered_cd = true := by decide +kernel
theorem cv_readFrom_w2 : Cond.instanceMethod cv_readFrom_y ∈ sl_T0 := sl_in1 607 (by decide +kernel) rfl
theorem cv_readFrom_w3 : Cond.selects cv_readFrom_y.cls cv_readFrom_y cv_readFrom_y ∈ sl_T0 := sl_in1 608 (by decide +kernel) rfl
theorem cv_readFrom_w4 : Cond.initialized cv_readFrom_y.cls ∈ sl_T0 := sl_in1 88 (by decide +kernel) rfl
theorem cv_readFrom_w5 : Cond.code cv_readFrom_y prog_5_method_2_code 5 none ∈ sl_T0 := sl_in1 609 (by decide +kernel) rfl
theorem cv_readFrom_w6 : cv_readFrom_y.cls ≠ "java/lang/invoke/MethodHandle" ∧ cv_readFrom_y.cls ≠ "java/lang/invoke/VarHandle" ∧ (parseMethodDescriptor cv_readFrom_y.desc).map (fun d => d.parameters.length) = some 1 := by decide +kernel
theorem cs_sx_186 (g : sl_G) {hh : Nat} (h : 5 ≤ hh) : sl_CallS g sl_R11 186 0 3 hh 2 cv_readFrom_pt := sl_callV (y := cv_readFrom_y) (T := sl_F3) (N := 4) (cv_readFrom_snd g) h (by decide) (sl_in1 606 (by decide +kernel) rfl) cv_readFrom_w2 cv_readFrom_w3 cv_readFrom_w4 cv_readFrom_w5 cv_readFrom_w6 rfl (by decide)
theorem cv_total_w2 : Cond.instanceMethod cv_total_y ∈ sl_T0 := sl_in1 613 (by decide +kernel) rfl
theorem cv_total_w3 : Cond.selects cv_total_y.cls cv_total_y cv_total_y ∈ sl_T0 := sl_in1 614 (by decide +kernel) rfl
theorem cv_total_w4 : Cond.initialized cv_total_y.cls ∈ sl_T0 := sl_in1 88 (by decide +kernel) rfl
theorem cv_total_w5 : Cond.code cv_total_y prog_5_method_4_code 2 (some .int) ∈ sl_T0 := sl_in1 615 (by decide +kernel) rfl
theorem cv_total_w6 : cv_total_y.cls ≠ "java/lang/invoke/MethodHandle" ∧ cv_total_y.cls ≠ "java/lang/invoke/VarHandle" ∧ (parseMethodDescriptor cv_total_y.desc).map (fun d => d.parameters.length) = some 1 := by decide +kernel
theorem cs_sx_190 (g : sl_G) {hh : Nat} (h : 3 ≤ hh) : sl_CallS g sl_R11 190 0 3 hh 2 cv_total_pt := sl_callV (y := cv_total_y) (T := sl_F3) (N := 4) (cv_total_snd g) h (by decide) (sl_in1 612 (by decide +kernel) rfl) cv_total_w2 cv_total_w3 cv_total_w4 cv_total_w5 cv_total_w6 rfl (by decide)
def sx_covered_ct : List sl_Ct := [(2, 1, 0, sx_isBelow_pt), (2, 0, 3, cv_readFrom_pt), (2, 0, 3, cv_total_pt)]
theorem sx_covered_hc (g : sl_G) : sl_HC g sl_R11 5 sx_covered_ct [(97, 1), (186, 0), (190, 0)] := sl_HC_cons (cs_sx_97 g (by decide)) (sl_HC_cons (cs_sx_186 g (by decide)) (sl_HC_cons (cs_sx_190 g (by decide)) (sl_HC_nil g sl_R11 5)))
set_option maxRecDepth 20000 in
set_option maxHeartbeats 2000000 in
theorem sx_covered_snd (g : sl_G) : sl_Snd g sx_covered_y prog_1_method_18_code 2 (some .int) 5 (sx_covered_pt) := by
  intro As μ Q hw h
  unfold sx_covered_pt at h
  split at h
  next c0 a0 a1 =>
    split at h
    next e_ =>
      subst e_
      split at h
      next e_ =>
        subst e_
        refine sl_mk2 g [true, true] (cst := [some (.inr (.inr (some (11, 0)))), some (.inl a1)]) (lv0 := [none, none]) (by decide) rfl hw rfl rfl rfl lk_sx_ok (sx_covered_hc g) sx_covered_tb rfl ?_
        intro X M
        exact ⟨_, sl_VV0, h⟩
      next => exact h.elim
    next => exact h.elim
  next => exact h.elim
def sx_piece (a1 : Int32) (a2 : Int32) (μ : sl_M) (Q : Int32 → sl_M → Prop) : Prop := cv_readFrom μ (fun m1 => sx_isBelow a1 (m1 34 3) m1 (fun r3 m2 => (r3 = (0 : Int32) → Q (-1 : Int32) m2) ∧ (¬ r3 = (0 : Int32) → sx_isBelow a2 (3 : Int32) m2 (fun r5 m4 => (r5 = (0 : Int32) → Q (-1 : Int32) m4) ∧ (¬ r5 = (0 : Int32) → (a2 = (0 : Int32) → vp_in a1 30 ∧ Q (m4 35 a1.toNatClampNeg) m4) ∧ (¬ a2 = (0 : Int32) → (a2 = (1 : Int32) → vp_in a1 30 ∧ Q (m4 36 a1.toNatClampNeg) m4) ∧ (¬ a2 = (1 : Int32) → vp_in a1 30 ∧ Q (m4 37 a1.toNatClampNeg) m4)))))))
def sx_piece_pt : sl_PT := fun As μ Q => match As with
  | [.inr (.inr (some (c0, a0))), .inl a1, .inl a2] => if c0 = 11 then (if a0 = 0 then (sx_piece a1 a2 μ (fun r μ' => Q (some (.inl r)) μ')) else False) else False
  | _ => False
def sx_piece_cd : List sl_Ent := [(0, .aload_n 0, 1, 0, [0], [], false), (1, .getfield 19, 3, 0, [11, 1, 2, 3, 34], [], false), (4, .aload_n 0, 1, 0, [0], [], false), (5, .getfield 10, 3, 0, [11, 0, 2, 5, 1], [], false), (8, .invokevirtual 186, 3, 0, [0], [], false), (11, .iload_n 1, 1, 0, [1], [], false), (12, .aload_n 0, 1, 0, [0], [], false), (13, .getfield 19, 3, 0, [11, 1, 2, 3, 34], [], false), (16, .getfield 193, 3, 0, [3, 3, 0, 0, 0], [], false), (19, .invokestatic 97, 3, 0, [1], [], false), (22, .ifCond .eq 11, 3, 0, [33], [], false), (25, .iload_n 2, 1, 0, [2], [], false), (26, .iconst 3, 1, 3, [], [], false), (27, .invokestatic 97, 3, 0, [1], [], false), (30, .ifCond .ne 5, 3, 0, [35], [], false), (33, .iconst (-1), 1, (-1), [], [], false), (34, .ireturn, 1, 0, [], [], false), (35, .iload_n 2, 1, 0, [2], [], false), (36, .ifCond .ne 15, 3, 0, [51], [], false), (39, .aload_n 0, 1, 0, [0], [], false), (40, .getfield 19, 3, 0, [11, 1, 2, 3, 34], [], false), (43, .getfield 196, 3, 0, [3, 0, 2, 20, 1], [], false), (46, .iload_n 1, 1, 0, [1], [], false), (47, .iaload, 1, 0, [], [], false), (48, .goto 29, 3, 0, [77], [], false), (51, .iload_n 2, 1, 0, [2], [], false), (52, .iconst 1, 1, 1, [], [], false), (53, .if_icmp .ne 15, 3, 0, [68], [], false), (56, .aload_n 0, 1, 0, [0], [], false), (57, .getfield 19, 3, 0, [11, 1, 2, 3, 34], [], false), (60, .getfield 200, 3, 0, [3, 1, 2, 20, 2], [], false), (63, .iload_n 1, 1, 0, [1], [], false), (64, .iaload, 1, 0, [], [], false), (65, .goto 12, 3, 0, [77], [], false), (68, .aload_n 0, 1, 0, [0], [], false), (69, .getfield 19, 3, 0, [11, 1, 2, 3, 34], [], false), (72, .getfield 202, 3, 0, [3, 2, 2, 20, 3], [], false), (75, .iload_n 1, 1, 0, [1], [], false), (76, .iaload, 1, 0, [], [], false), (77, .ireturn, 1, 0, [], [], false)]
def sx_piece_y : MethodName := ⟨"SpanLayers", "piece", "(II)I"⟩
theorem sx_piece_tb : sl_tbOK sl_R11 prog_1_method_19_code 3 (some .int) lk_sx [(186, 0), (97, 1)] sx_piece_cd = true := by decide +kernel
def sx_piece_ct : List sl_Ct := [(2, 0, 3, cv_readFrom_pt), (2, 1, 0, sx_isBelow_pt)]
theorem sx_piece_hc (g : sl_G) : sl_HC g sl_R11 5 sx_piece_ct [(186, 0), (97, 1)] := sl_HC_cons (cs_sx_186 g (by decide)) (sl_HC_cons (cs_sx_97 g (by decide)) (sl_HC_nil g sl_R11 5))
set_option maxRecDepth 20000 in
set_option maxHeartbeats 2000000 in
theorem sx_piece_snd (g : sl_G) : sl_Snd g sx_piece_y prog_1_method_19_code 3 (some .int) 5 (sx_piece_pt) := by
  intro As μ Q hw h
  unfold sx_piece_pt at h
  split at h
  next c0 a0 a1 a2 =>
    split at h
    next e_ =>
      subst e_
      split at h
      next e_ =>
        subst e_
        refine sl_mk2 g [true, true, true] (cst := [some (.inr (.inr (some (11, 0)))), some (.inl a1), some (.inl a2)]) (lv0 := [none, none, none]) (by decide) rfl hw rfl rfl rfl lk_sx_ok (sx_piece_hc g) sx_piece_tb rfl ?_
        intro X M
        exact ⟨_, sl_VV0, h⟩
      next => exact h.elim
    next => exact h.elim
  next => exact h.elim
def sx_hole (a1 : Int32) (a2 : Int32) (μ : sl_M) (Q : Int32 → sl_M → Prop) : Prop := cv_readFrom μ (fun m1 => cv_countHoles m1 (fun r3 m2 => sx_isBelow a1 r3 m2 (fun r5 m4 => (r5 = (0 : Int32) → Q (-1 : Int32) m4) ∧ (¬ r5 = (0 : Int32) → sx_isBelow a2 (2 : Int32) m4 (fun r7 m6 => (r7 = (0 : Int32) → Q (-1 : Int32) m6) ∧ (¬ r7 = (0 : Int32) → (a2 = (0 : Int32) → vp_in a1 30 ∧ Q ((m6 36 a1.toNatClampNeg) + (1 : Int32)) m6) ∧ (¬ a2 = (0 : Int32) → vp_in (a1 + (1 : Int32)) 30 ∧ Q ((m6 35 (a1 + (1 : Int32)).toNatClampNeg) - (1 : Int32)) m6)))))))
def sx_hole_pt : sl_PT := fun As μ Q => match As with
  | [.inr (.inr (some (c0, a0))), .inl a1, .inl a2] => if c0 = 11 then (if a0 = 0 then (sx_hole a1 a2 μ (fun r μ' => Q (some (.inl r)) μ')) else False) else False
  | _ => False
def sx_hole_cd : List sl_Ent := [(0, .aload_n 0, 1, 0, [0], [], false), (1, .getfield 19, 3, 0, [11, 1, 2, 3, 34], [], false), (4, .aload_n 0, 1, 0, [0], [], false), (5, .getfield 10, 3, 0, [11, 0, 2, 5, 1], [], false), (8, .invokevirtual 186, 3, 0, [0], [], false), (11, .iload_n 1, 1, 0, [1], [], false), (12, .aload_n 0, 1, 0, [0], [], false), (13, .getfield 19, 3, 0, [11, 1, 2, 3, 34], [], false), (16, .invokevirtual 204, 3, 0, [1], [], false), (19, .invokestatic 97, 3, 0, [2], [], false), (22, .ifCond .eq 11, 3, 0, [33], [], false), (25, .iload_n 2, 1, 0, [2], [], false), (26, .iconst 2, 1, 2, [], [], false), (27, .invokestatic 97, 3, 0, [2], [], false), (30, .ifCond .ne 5, 3, 0, [35], [], false), (33, .iconst (-1), 1, (-1), [], [], false), (34, .ireturn, 1, 0, [], [], false), (35, .iload_n 2, 1, 0, [2], [], false), (36, .ifCond .ne 17, 3, 0, [53], [], false), (39, .aload_n 0, 1, 0, [0], [], false), (40, .getfield 19, 3, 0, [11, 1, 2, 3, 34], [], false), (43, .getfield 200, 3, 0, [3, 1, 2, 20, 2], [], false), (46, .iload_n 1, 1, 0, [1], [], false), (47, .iaload, 1, 0, [], [], false), (48, .iconst 1, 1, 1, [], [], false), (49, .iadd, 1, 0, [], [], false), (50, .goto 16, 3, 0, [66], [], false), (53, .aload_n 0, 1, 0, [0], [], false), (54, .getfield 19, 3, 0, [11, 1, 2, 3, 34], [], false), (57, .getfield 196, 3, 0, [3, 0, 2, 20, 1], [], false), (60, .iload_n 1, 1, 0, [1], [], false), (61, .iconst 1, 1, 1, [], [], false), (62, .iadd, 1, 0, [], [], false), (63, .iaload, 1, 0, [], [], false), (64, .iconst 1, 1, 1, [], [], false), (65, .isub, 1, 0, [], [], false), (66, .ireturn, 1, 0, [], [], false)]
def sx_hole_y : MethodName := ⟨"SpanLayers", "hole", "(II)I"⟩
theorem sx_hole_tb : sl_tbOK sl_R11 prog_1_method_20_code 3 (some .int) lk_sx [(186, 0), (204, 0), (97, 1)] sx_hole_cd = true := by decide +kernel
theorem cs_sx_204 (g : sl_G) {hh : Nat} (h : 2 ≤ hh) : sl_CallS g sl_R11 204 0 3 hh 1 cv_countHoles_pt := sl_callV (y := cv_countHoles_y) (T := sl_F3) (N := 4) (cv_countHoles_snd g) h (by decide) (sl_in1 640 (by decide +kernel) rfl) cv_countHoles_w2 cv_countHoles_w3 cv_countHoles_w4 cv_countHoles_w5 cv_countHoles_w6 rfl (by decide)
def sx_hole_ct : List sl_Ct := [(2, 0, 3, cv_readFrom_pt), (1, 0, 3, cv_countHoles_pt), (2, 1, 0, sx_isBelow_pt)]
theorem sx_hole_hc (g : sl_G) : sl_HC g sl_R11 5 sx_hole_ct [(186, 0), (204, 0), (97, 1)] := sl_HC_cons (cs_sx_186 g (by decide)) (sl_HC_cons (cs_sx_204 g (by decide)) (sl_HC_cons (cs_sx_97 g (by decide)) (sl_HC_nil g sl_R11 5)))
set_option maxRecDepth 20000 in
set_option maxHeartbeats 2000000 in
theorem sx_hole_snd (g : sl_G) : sl_Snd g sx_hole_y prog_1_method_20_code 3 (some .int) 5 (sx_hole_pt) := by
  intro As μ Q hw h
  unfold sx_hole_pt at h
  split at h
  next c0 a0 a1 a2 =>
    split at h
    next e_ =>
      subst e_
      split at h
      next e_ =>
        subst e_
        refine sl_mk2 g [true, true, true] (cst := [some (.inr (.inr (some (11, 0)))), some (.inl a1), some (.inl a2)]) (lv0 := [none, none, none]) (by decide) rfl hw rfl rfl rfl lk_sx_ok (sx_hole_hc g) sx_hole_tb rfl ?_
        intro X M
        exact ⟨_, sl_VV0, h⟩
      next => exact h.elim
    next => exact h.elim
  next => exact h.elim
def sx_depth (a1 : Int32) (a2 : Int32) (μ : sl_M) (Q : Int32 → sl_M → Prop) : Prop := sx_isPlace a1 μ (fun r2 m1 => (r2 = (0 : Int32) → Q (-2 : Int32) m1) ∧ (¬ r2 = (0 : Int32) → sx_isBelow a2 (2 : Int32) m1 (fun r4 m3 => (r4 = (0 : Int32) → Q (-1 : Int32) m3) ∧ (¬ r4 = (0 : Int32) → ix_heightAt a1 a2 m3 (fun r6 m5 => Q r6 m5)))))
def sx_depth_pt : sl_PT := fun As μ Q => match As with
  | [.inr (.inr (some (c0, a0))), .inl a1, .inl a2] => if c0 = 11 then (if a0 = 0 then (sx_depth a1 a2 μ (fun r μ' => Q (some (.inl r)) μ')) else False) else False
  | _ => False
def sx_depth_cd : List sl_Ent := [(0, .iload_n 1, 1, 0, [1], [], false), (1, .invokestatic 126, 3, 0, [0], [], false), (4, .ifCond .ne 6, 3, 0, [10], [], false), (7, .bipush (-2), 2, (-2), [], [], false), (9, .ireturn, 1, 0, [], [], false), (10, .iload_n 2, 1, 0, [2], [], false), (11, .iconst 2, 1, 2, [], [], false), (12, .invokestatic 97, 3, 0, [1], [], false), (15, .ifCond .eq 15, 3, 0, [30], [], false), (18, .aload_n 0, 1, 0, [0], [], false), (19, .getfield 10, 3, 0, [11, 0, 2, 5, 1], [], false), (22, .iload_n 1, 1, 0, [1], [], false), (23, .iload_n 2, 1, 0, [2], [], false), (24, .invokevirtual 207, 3, 0, [2], [], false), (27, .goto 4, 3, 0, [31], [], false), (30, .iconst (-1), 1, (-1), [], [], false), (31, .ireturn, 1, 0, [], [], false)]
def sx_depth_y : MethodName := ⟨"SpanLayers", "depth", "(II)I"⟩
theorem sx_depth_tb : sl_tbOK sl_R11 prog_1_method_21_code 3 (some .int) lk_sx [(126, 1), (97, 1), (207, 0)] sx_depth_cd = true := by decide +kernel
theorem cs_sx_207 (g : sl_G) {hh : Nat} (h : 2 ≤ hh) : sl_CallS g sl_R11 207 0 5 hh 3 ix_heightAt_pt := sl_callV (y := ix_heightAt_y) (T := sl_F5) (N := 2) (ix_heightAt_snd g) h (by decide) (sl_in1 645 (by decide +kernel) rfl) ix_heightAt_w2 ix_heightAt_w3 ix_heightAt_w4 ix_heightAt_w5 ix_heightAt_w6 rfl (by decide)
def sx_depth_ct : List sl_Ct := [(1, 1, 0, sx_isPlace_pt), (2, 1, 0, sx_isBelow_pt), (3, 0, 5, ix_heightAt_pt)]
theorem sx_depth_hc (g : sl_G) : sl_HC g sl_R11 2 sx_depth_ct [(126, 1), (97, 1), (207, 0)] := sl_HC_cons (cs_sx_126 g (by decide)) (sl_HC_cons (cs_sx_97 g (by decide)) (sl_HC_cons (cs_sx_207 g (by decide)) (sl_HC_nil g sl_R11 2)))
set_option maxRecDepth 20000 in
set_option maxHeartbeats 2000000 in
theorem sx_depth_snd (g : sl_G) : sl_Snd g sx_depth_y prog_1_method_21_code 3 (some .int) 2 (sx_depth_pt) := by
  intro As μ Q hw h
  unfold sx_depth_pt at h
  split at h
  next c0 a0 a1 a2 =>
    split at h
    next e_ =>
      subst e_
      split at h
      next e_ =>
        subst e_
        refine sl_mk2 g [true, true, true] (cst := [some (.inr (.inr (some (11, 0)))), some (.inl a1), some (.inl a2)]) (lv0 := [none, none, none]) (by decide) rfl hw rfl rfl rfl lk_sx_ok (sx_depth_hc g) sx_depth_tb rfl ?_
        intro X M
        exact ⟨_, sl_VV0, h⟩
      next => exact h.elim
    next => exact h.elim
  next => exact h.elim
def sx_deepest (a1 : Int32) (μ : sl_M) (Q : Int32 → sl_M → Prop) : Prop := sx_isBelow a1 (6 : Int32) μ (fun r2 m1 => (r2 = (0 : Int32) → Q (-1 : Int32) m1) ∧ (¬ r2 = (0 : Int32) → ¬ (2 : Int32) = 0 ∧ ix_topPlace (a1 / (2 : Int32)) m1 (fun r4 m3 => ¬ (2 : Int32) = 0 ∧ ((a1 - a1 / (2 : Int32) * (2 : Int32)) = (0 : Int32) → Q r4 m3) ∧ (¬ (a1 - a1 / (2 : Int32) * (2 : Int32)) = (0 : Int32) → (a1 = (1 : Int32) → ix_heightAt r4 (0 : Int32) m3 (fun r6 m5 => Q r6 m5)) ∧ (¬ a1 = (1 : Int32) → ix_heightAt r4 (1 : Int32) m3 (fun r8 m7 => Q r8 m7))))))
def sx_deepest_pt : sl_PT := fun As μ Q => match As with
  | [.inr (.inr (some (c0, a0))), .inl a1] => if c0 = 11 then (if a0 = 0 then (sx_deepest a1 μ (fun r μ' => Q (some (.inl r)) μ')) else False) else False
  | _ => False
def sx_deepest_cd : List sl_Ent := [(0, .iload_n 1, 1, 0, [1], [], false), (1, .bipush 6, 2, 6, [], [], false), (3, .invokestatic 97, 3, 0, [0], [], false), (6, .ifCond .ne 5, 3, 0, [11], [], false), (9, .iconst (-1), 1, (-1), [], [], false), (10, .ireturn, 1, 0, [], [], false), (11, .aload_n 0, 1, 0, [0], [], false), (12, .getfield 10, 3, 0, [11, 0, 2, 5, 1], [], false), (15, .iload_n 1, 1, 0, [1], [], false), (16, .iconst 2, 1, 2, [], [], false), (17, .idiv, 1, 0, [], [], false), (18, .invokevirtual 210, 3, 0, [1], [], false), (21, .istore_n 2, 1, 0, [2], [], false), (22, .iload_n 1, 1, 0, [1], [], false), (23, .iconst 2, 1, 2, [], [], false), (24, .irem, 1, 0, [], [], false), (25, .ifCond .ne 5, 3, 0, [30], [], false), (28, .iload_n 2, 1, 0, [2], [], false), (29, .ireturn, 1, 0, [], [], false), (30, .aload_n 0, 1, 0, [0], [], false), (31, .getfield 10, 3, 0, [11, 0, 2, 5, 1], [], false), (34, .iload_n 2, 1, 0, [2], [], false), (35, .iload_n 1, 1, 0, [1], [], false), (36, .iconst 1, 1, 1, [], [], false), (37, .if_icmp .ne 7, 3, 0, [44], [], false), (40, .iconst 0, 1, 0, [], [], false), (41, .goto 4, 3, 0, [45], [], false), (44, .iconst 1, 1, 1, [], [], false), (45, .invokevirtual 207, 3, 0, [2], [], false), (48, .ireturn, 1, 0, [], [], false)]
def sx_deepest_y : MethodName := ⟨"SpanLayers", "deepest", "(I)I"⟩
theorem sx_deepest_tb : sl_tbOK sl_R11 prog_1_method_22_code 3 (some .int) lk_sx [(97, 1), (210, 0), (207, 0)] sx_deepest_cd = true := by decide +kernel
theorem ix_topPlace_w2 : Cond.instanceMethod ix_topPlace_y ∈ sl_T0 := sl_in1 658 (by decide +kernel) rfl
theorem ix_topPlace_w3 : Cond.selects ix_topPlace_y.cls ix_topPlace_y ix_topPlace_y ∈ sl_T0 := sl_in1 659 (by decide +kernel) rfl
theorem ix_topPlace_w4 : Cond.initialized ix_topPlace_y.cls ∈ sl_T0 := sl_in1 86 (by decide +kernel) rfl
theorem ix_topPlace_w5 : Cond.code ix_topPlace_y prog_7_method_22_code 4 (some .int) ∈ sl_T0 := sl_in1 660 (by decide +kernel) rfl
theorem ix_topPlace_w6 : ix_topPlace_y.cls ≠ "java/lang/invoke/MethodHandle" ∧ ix_topPlace_y.cls ≠ "java/lang/invoke/VarHandle" ∧ (parseMethodDescriptor ix_topPlace_y.desc).map (fun d => d.parameters.length) = some 1 := by decide +kernel
theorem cs_sx_210 (g : sl_G) {hh : Nat} (h : 4 ≤ hh) : sl_CallS g sl_R11 210 0 5 hh 2 ix_topPlace_pt := sl_callV (y := ix_topPlace_y) (T := sl_F5) (N := 2) (ix_topPlace_snd g) h (by decide) (sl_in1 657 (by decide +kernel) rfl) ix_topPlace_w2 ix_topPlace_w3 ix_topPlace_w4 ix_topPlace_w5 ix_topPlace_w6 rfl (by decide)
def sx_deepest_ct : List sl_Ct := [(2, 1, 0, sx_isBelow_pt), (2, 0, 5, ix_topPlace_pt), (3, 0, 5, ix_heightAt_pt)]
theorem sx_deepest_hc (g : sl_G) : sl_HC g sl_R11 4 sx_deepest_ct [(97, 1), (210, 0), (207, 0)] := sl_HC_cons (cs_sx_97 g (by decide)) (sl_HC_cons (cs_sx_210 g (by decide)) (sl_HC_cons (cs_sx_207 g (by decide)) (sl_HC_nil g sl_R11 4)))
set_option maxRecDepth 20000 in
set_option maxHeartbeats 2000000 in
theorem sx_deepest_snd (g : sl_G) : sl_Snd g sx_deepest_y prog_1_method_22_code 3 (some .int) 4 (sx_deepest_pt) := by
  intro As μ Q hw h
  unfold sx_deepest_pt at h
  split at h
  next c0 a0 a1 =>
    split at h
    next e_ =>
      subst e_
      split at h
      next e_ =>
        subst e_
        refine sl_mk2 g [true, true, false] (cst := [some (.inr (.inr (some (11, 0)))), some (.inl a1)]) (lv0 := [none, none, none]) (by decide) rfl hw rfl rfl rfl lk_sx_ok (sx_deepest_hc g) sx_deepest_tb rfl ?_
        intro X M
        exact ⟨_, sl_VV0, h⟩
      next => exact h.elim
    next => exact h.elim
  next => exact h.elim
def sx_points (a1 : Int32) (μ : sl_M) (Q : Int32 → sl_M → Prop) : Prop := co_takeApart μ (fun m1 => (a1 = (-1 : Int32) → Q (m1 38 2) m1) ∧ (¬ a1 = (-1 : Int32) → sx_isBelow a1 (m1 38 2) m1 (fun r3 m2 => (r3 = (0 : Int32) → Q (-1 : Int32) m2) ∧ (¬ r3 = (0 : Int32) → vp_in a1 30 ∧ Q (m2 40 a1.toNatClampNeg) m2))))
def sx_points_pt : sl_PT := fun As μ Q => match As with
  | [.inr (.inr (some (c0, a0))), .inl a1] => if c0 = 11 then (if a0 = 0 then (sx_points a1 μ (fun r μ' => Q (some (.inl r)) μ')) else False) else False
  | _ => False
def sx_points_cd : List sl_Ent := [(0, .aload_n 0, 1, 0, [0], [], false), (1, .getfield 26, 3, 0, [11, 2, 2, 1, 38], [], false), (4, .aload_n 0, 1, 0, [0], [], false), (5, .getfield 10, 3, 0, [11, 0, 2, 5, 1], [], false), (8, .invokevirtual 213, 3, 0, [0], [], false), (11, .iload_n 1, 1, 0, [1], [], false), (12, .iconst (-1), 1, (-1), [], [], false), (13, .if_icmp .ne 11, 3, 0, [24], [], false), (16, .aload_n 0, 1, 0, [0], [], false), (17, .getfield 26, 3, 0, [11, 2, 2, 1, 38], [], false), (20, .getfield 216, 3, 0, [1, 2, 0, 0, 0], [], false), (23, .ireturn, 1, 0, [], [], false), (24, .iload_n 1, 1, 0, [1], [], false), (25, .aload_n 0, 1, 0, [0], [], false), (26, .getfield 26, 3, 0, [11, 2, 2, 1, 38], [], false), (29, .getfield 216, 3, 0, [1, 2, 0, 0, 0], [], false), (32, .invokestatic 97, 3, 0, [1], [], false), (35, .ifCond .eq 15, 3, 0, [50], [], false), (38, .aload_n 0, 1, 0, [0], [], false), (39, .getfield 26, 3, 0, [11, 2, 2, 1, 38], [], false), (42, .getfield 218, 3, 0, [1, 1, 2, 20, 2], [], false), (45, .iload_n 1, 1, 0, [1], [], false), (46, .iaload, 1, 0, [], [], false), (47, .goto 4, 3, 0, [51], [], false), (50, .iconst (-1), 1, (-1), [], [], false), (51, .ireturn, 1, 0, [], [], false)]
def sx_points_y : MethodName := ⟨"SpanLayers", "points", "(I)I"⟩
theorem sx_points_tb : sl_tbOK sl_R11 prog_1_method_23_code 2 (some .int) lk_sx [(213, 0), (97, 1)] sx_points_cd = true := by decide +kernel
theorem co_takeApart_w2 : Cond.instanceMethod co_takeApart_y ∈ sl_T0 := sl_in1 671 (by decide +kernel) rfl
theorem co_takeApart_w3 : Cond.selects co_takeApart_y.cls co_takeApart_y co_takeApart_y ∈ sl_T0 := sl_in1 672 (by decide +kernel) rfl
theorem co_takeApart_w4 : Cond.initialized co_takeApart_y.cls ∈ sl_T0 := sl_in1 89 (by decide +kernel) rfl
theorem co_takeApart_w5 : Cond.code co_takeApart_y prog_3_method_2_code 5 none ∈ sl_T0 := sl_in1 673 (by decide +kernel) rfl
theorem co_takeApart_w6 : co_takeApart_y.cls ≠ "java/lang/invoke/MethodHandle" ∧ co_takeApart_y.cls ≠ "java/lang/invoke/VarHandle" ∧ (parseMethodDescriptor co_takeApart_y.desc).map (fun d => d.parameters.length) = some 1 := by decide +kernel
theorem cs_sx_213 (g : sl_G) {hh : Nat} (h : 2 ≤ hh) : sl_CallS g sl_R11 213 0 1 hh 2 co_takeApart_pt := sl_callV (y := co_takeApart_y) (T := sl_F1) (N := 4) (co_takeApart_snd g) h (by decide) (sl_in1 670 (by decide +kernel) rfl) co_takeApart_w2 co_takeApart_w3 co_takeApart_w4 co_takeApart_w5 co_takeApart_w6 rfl (by decide)
def sx_points_ct : List sl_Ct := [(2, 0, 1, co_takeApart_pt), (2, 1, 0, sx_isBelow_pt)]
theorem sx_points_hc (g : sl_G) : sl_HC g sl_R11 2 sx_points_ct [(213, 0), (97, 1)] := sl_HC_cons (cs_sx_213 g (by decide)) (sl_HC_cons (cs_sx_97 g (by decide)) (sl_HC_nil g sl_R11 2))
set_option maxRecDepth 20000 in
set_option maxHeartbeats 2000000 in
theorem sx_points_snd (g : sl_G) : sl_Snd g sx_points_y prog_1_method_23_code 2 (some .int) 2 (sx_points_pt) := by
  intro As μ Q hw h
  unfold sx_points_pt at h
  split at h
  next c0 a0 a1 =>
    split at h
    next e_ =>
      subst e_
      split at h
      next e_ =>
        subst e_
        refine sl_mk2 g [true, true] (cst := [some (.inr (.inr (some (11, 0)))), some (.inl a1)]) (lv0 := [none, none]) (by decide) rfl hw rfl rfl rfl lk_sx_ok (sx_points_hc g) sx_points_tb rfl ?_
        intro X M
        exact ⟨_, sl_VV0, h⟩
      next => exact h.elim
    next => exact h.elim
  next => exact h.elim
def sx_apart (a1 : Int32) (μ : sl_M) (Q : Int32 → sl_M → Prop) : Prop := co_takeApart μ (fun m1 => (a1 = (-1 : Int32) → Q (m1 38 2) m1) ∧ (¬ a1 = (-1 : Int32) → sx_isBelow a1 (m1 38 2) m1 (fun r3 m2 => (r3 = (0 : Int32) → Q (-1 : Int32) m2) ∧ (¬ r3 = (0 : Int32) → vp_in a1 30 ∧ Q (m2 39 a1.toNatClampNeg) m2))))
def sx_apart_pt : sl_PT := fun As μ Q => match As with
  | [.inr (.inr (some (c0, a0))), .inl a1] => if c0 = 11 then (if a0 = 0 then (sx_apart a1 μ (fun r μ' => Q (some (.inl r)) μ')) else False) else False
  | _ => False
def sx_apart_cd : List sl_Ent := [(0, .aload_n 0, 1, 0, [0], [], false), (1, .getfield 26, 3, 0, [11, 2, 2, 1, 38], [], false), (4, .aload_n 0, 1, 0, [0], [], false), (5, .getfield 10, 3, 0, [11, 0, 2, 5, 1], [], false), (8, .invokevirtual 213, 3, 0, [0], [], false), (11, .iload_n 1, 1, 0, [1], [], false), (12, .iconst (-1), 1, (-1), [], [], false), (13, .if_icmp .ne 11, 3, 0, [24], [], false), (16, .aload_n 0, 1, 0, [0], [], false), (17, .getfield 26, 3, 0, [11, 2, 2, 1, 38], [], false), (20, .getfield 216, 3, 0, [1, 2, 0, 0, 0], [], false), (23, .ireturn, 1, 0, [], [], false), (24, .iload_n 1, 1, 0, [1], [], false), (25, .aload_n 0, 1, 0, [0], [], false), (26, .getfield 26, 3, 0, [11, 2, 2, 1, 38], [], false), (29, .getfield 216, 3, 0, [1, 2, 0, 0, 0], [], false), (32, .invokestatic 97, 3, 0, [1], [], false), (35, .ifCond .eq 15, 3, 0, [50], [], false), (38, .aload_n 0, 1, 0, [0], [], false), (39, .getfield 26, 3, 0, [11, 2, 2, 1, 38], [], false), (42, .getfield 221, 3, 0, [1, 0, 2, 20, 1], [], false), (45, .iload_n 1, 1, 0, [1], [], false), (46, .iaload, 1, 0, [], [], false), (47, .goto 4, 3, 0, [51], [], false), (50, .iconst (-1), 1, (-1), [], [], false), (51, .ireturn, 1, 0, [], [], false)]
def sx_apart_y : MethodName := ⟨"SpanLayers", "apart", "(I)I"⟩
theorem sx_apart_tb : sl_tbOK sl_R11 prog_1_method_24_code 2 (some .int) lk_sx [(213, 0), (97, 1)] sx_apart_cd = true := by decide +kernel
def sx_apart_ct : List sl_Ct := [(2, 0, 1, co_takeApart_pt), (2, 1, 0, sx_isBelow_pt)]
theorem sx_apart_hc (g : sl_G) : sl_HC g sl_R11 2 sx_apart_ct [(213, 0), (97, 1)] := sl_HC_cons (cs_sx_213 g (by decide)) (sl_HC_cons (cs_sx_97 g (by decide)) (sl_HC_nil g sl_R11 2))
set_option maxRecDepth 20000 in
set_option maxHeartbeats 2000000 in
theorem sx_apart_snd (g : sl_G) : sl_Snd g sx_apart_y prog_1_method_24_code 2 (some .int) 2 (sx_apart_pt) := by
  intro As μ Q hw h
  unfold sx_apart_pt at h
  split at h
  next c0 a0 a1 =>
    split at h
    next e_ =>
      subst e_
      split at h
      next e_ =>
        subst e_
        refine sl_mk2 g [true, true] (cst := [some (.inr (.inr (some (11, 0)))), some (.inl a1)]) (lv0 := [none, none]) (by decide) rfl hw rfl rfl rfl lk_sx_ok (sx_apart_hc g) sx_apart_tb rfl ?_
        intro X M
        exact ⟨_, sl_VV0, h⟩
      next => exact h.elim
    next => exact h.elim
  next => exact h.elim
def sx_heaviest (μ : sl_M) (Q : Int32 → sl_M → Prop) : Prop := co_heaviestOf μ (fun r2 m1 => Q r2 m1)
def sx_heaviest_pt : sl_PT := fun As μ Q => match As with
  | [.inr (.inr (some (c0, a0)))] => if c0 = 11 then (if a0 = 0 then (sx_heaviest μ (fun r μ' => Q (some (.inl r)) μ')) else False) else False
  | _ => False
def sx_heaviest_cd : List sl_Ent := [(0, .aload_n 0, 1, 0, [0], [], false), (1, .getfield 26, 3, 0, [11, 2, 2, 1, 38], [], false), (4, .aload_n 0, 1, 0, [0], [], false), (5, .getfield 10, 3, 0, [11, 0, 2, 5, 1], [], false), (8, .invokevirtual 224, 3, 0, [0], [], false), (11, .ireturn, 1, 0, [], [], false)]
def sx_heaviest_y : MethodName := ⟨"SpanLayers", "heaviest", "()I"⟩
theorem sx_heaviest_tb : sl_tbOK sl_R11 prog_1_method_25_code 1 (some .int) lk_sx [(224, 0)] sx_heaviest_cd = true := by decide +kernel
theorem co_heaviestOf_w2 : Cond.instanceMethod co_heaviestOf_y ∈ sl_T0 := sl_in1 686 (by decide +kernel) rfl
theorem co_heaviestOf_w3 : Cond.selects co_heaviestOf_y.cls co_heaviestOf_y co_heaviestOf_y ∈ sl_T0 := sl_in1 687 (by decide +kernel) rfl
theorem co_heaviestOf_w4 : Cond.initialized co_heaviestOf_y.cls ∈ sl_T0 := sl_in1 89 (by decide +kernel) rfl
theorem co_heaviestOf_w5 : Cond.code co_heaviestOf_y prog_3_method_4_code 5 (some .int) ∈ sl_T0 := sl_in1 688 (by decide +kernel) rfl
theorem co_heaviestOf_w6 : co_heaviestOf_y.cls ≠ "java/lang/invoke/MethodHandle" ∧ co_heaviestOf_y.cls ≠ "java/lang/invoke/VarHandle" ∧ (parseMethodDescriptor co_heaviestOf_y.desc).map (fun d => d.parameters.length) = some 1 := by decide +kernel
theorem cs_sx_224 (g : sl_G) {hh : Nat} (h : 5 ≤ hh) : sl_CallS g sl_R11 224 0 1 hh 2 co_heaviestOf_pt := sl_callV (y := co_heaviestOf_y) (T := sl_F1) (N := 4) (co_heaviestOf_snd g) h (by decide) (sl_in1 685 (by decide +kernel) rfl) co_heaviestOf_w2 co_heaviestOf_w3 co_heaviestOf_w4 co_heaviestOf_w5 co_heaviestOf_w6 rfl (by decide)
def sx_heaviest_ct : List sl_Ct := [(2, 0, 1, co_heaviestOf_pt)]
theorem sx_heaviest_hc (g : sl_G) : sl_HC g sl_R11 5 sx_heaviest_ct [(224, 0)] := sl_HC_cons (cs_sx_224 g (by decide)) (sl_HC_nil g sl_R11 5)
set_option maxRecDepth 20000 in
set_option maxHeartbeats 2000000 in
theorem sx_heaviest_snd (g : sl_G) : sl_Snd g sx_heaviest_y prog_1_method_25_code 1 (some .int) 5 (sx_heaviest_pt) := by
  intro As μ Q hw h
  unfold sx_heaviest_pt at h
  split at h
  next c0 a0 =>
    split at h
    next e_ =>
      subst e_
      split at h
      next e_ =>
        subst e_
        refine sl_mk2 g [true] (cst := [some (.inr (.inr (some (11, 0))))]) (lv0 := [none]) (by decide) rfl hw rfl rfl rfl lk_sx_ok (sx_heaviest_hc g) sx_heaviest_tb rfl ?_
        intro X M
        exact ⟨_, sl_VV0, h⟩
      next => exact h.elim
    next => exact h.elim
  next => exact h.elim
def sx_group (a1 : Int32) (a2 : Int32) (μ : sl_M) (Q : Int32 → sl_M → Prop) : Prop := ix_countHighs μ (fun r2 m1 => sx_isBelow a1 r2 m1 (fun r4 m3 => (r4 = (0 : Int32) → Q (-1 : Int32) m3) ∧ (¬ r4 = (0 : Int32) → sx_isBelow a2 (4 : Int32) m3 (fun r6 m5 => (r6 = (0 : Int32) → Q (-1 : Int32) m5) ∧ (¬ r6 = (0 : Int32) → ix_highAt a1 m5 (fun r8 m7 => ix_ofThoseEndingAt r8 a2 m7 (fun r10 m9 => Q r10 m9)))))))
def sx_group_pt : sl_PT := fun As μ Q => match As with
  | [.inr (.inr (some (c0, a0))), .inl a1, .inl a2] => if c0 = 11 then (if a0 = 0 then (sx_group a1 a2 μ (fun r μ' => Q (some (.inl r)) μ')) else False) else False
  | _ => False
def sx_group_cd : List sl_Ent := [(0, .iload_n 1, 1, 0, [1], [], false), (1, .aload_n 0, 1, 0, [0], [], false), (2, .getfield 10, 3, 0, [11, 0, 2, 5, 1], [], false), (5, .invokevirtual 228, 3, 0, [0], [], false), (8, .invokestatic 97, 3, 0, [1], [], false), (11, .ifCond .eq 11, 3, 0, [22], [], false), (14, .iload_n 2, 1, 0, [2], [], false), (15, .iconst 4, 1, 4, [], [], false), (16, .invokestatic 97, 3, 0, [1], [], false), (19, .ifCond .ne 5, 3, 0, [24], [], false), (22, .iconst (-1), 1, (-1), [], [], false), (23, .ireturn, 1, 0, [], [], false), (24, .aload_n 0, 1, 0, [0], [], false), (25, .getfield 10, 3, 0, [11, 0, 2, 5, 1], [], false), (28, .aload_n 0, 1, 0, [0], [], false), (29, .getfield 10, 3, 0, [11, 0, 2, 5, 1], [], false), (32, .iload_n 1, 1, 0, [1], [], false), (33, .invokevirtual 231, 3, 0, [2], [], false), (36, .iload_n 2, 1, 0, [2], [], false), (37, .invokevirtual 234, 3, 0, [3], [], false), (40, .ireturn, 1, 0, [], [], false)]
def sx_group_y : MethodName := ⟨"SpanLayers", "group", "(II)I"⟩
theorem sx_group_tb : sl_tbOK sl_R11 prog_1_method_26_code 3 (some .int) lk_sx [(228, 0), (97, 1), (231, 0), (234, 0)] sx_group_cd = true := by decide +kernel
theorem ix_countHighs_w2 : Cond.instanceMethod ix_countHighs_y ∈ sl_T0 := sl_in1 696 (by decide +kernel) rfl
theorem ix_countHighs_w3 : Cond.selects ix_countHighs_y.cls ix_countHighs_y ix_countHighs_y ∈ sl_T0 := sl_in1 697 (by decide +kernel) rfl
theorem ix_countHighs_w4 : Cond.initialized ix_countHighs_y.cls ∈ sl_T0 := sl_in1 86 (by decide +kernel) rfl
theorem ix_countHighs_w5 : Cond.code ix_countHighs_y prog_7_method_27_code 4 (some .int) ∈ sl_T0 := sl_in1 698 (by decide +kernel) rfl
theorem ix_countHighs_w6 : ix_countHighs_y.cls ≠ "java/lang/invoke/MethodHandle" ∧ ix_countHighs_y.cls ≠ "java/lang/invoke/VarHandle" ∧ (parseMethodDescriptor ix_countHighs_y.desc).map (fun d => d.parameters.length) = some 0 := by decide +kernel
theorem cs_sx_228 (g : sl_G) {hh : Nat} (h : 5 ≤ hh) : sl_CallS g sl_R11 228 0 5 hh 1 ix_countHighs_pt := sl_callV (y := ix_countHighs_y) (T := sl_F5) (N := 2) (ix_countHighs_snd g) h (by decide) (sl_in1 695 (by decide +kernel) rfl) ix_countHighs_w2 ix_countHighs_w3 ix_countHighs_w4 ix_countHighs_w5 ix_countHighs_w6 rfl (by decide)
theorem ix_highAt_w2 : Cond.instanceMethod ix_highAt_y ∈ sl_T0 := sl_in1 700 (by decide +kernel) rfl
theorem ix_highAt_w3 : Cond.selects ix_highAt_y.cls ix_highAt_y ix_highAt_y ∈ sl_T0 := sl_in1 701 (by decide +kernel) rfl
theorem ix_highAt_w4 : Cond.initialized ix_highAt_y.cls ∈ sl_T0 := sl_in1 86 (by decide +kernel) rfl
theorem ix_highAt_w5 : Cond.code ix_highAt_y prog_7_method_28_code 5 (some .int) ∈ sl_T0 := sl_in1 702 (by decide +kernel) rfl
theorem ix_highAt_w6 : ix_highAt_y.cls ≠ "java/lang/invoke/MethodHandle" ∧ ix_highAt_y.cls ≠ "java/lang/invoke/VarHandle" ∧ (parseMethodDescriptor ix_highAt_y.desc).map (fun d => d.parameters.length) = some 1 := by decide +kernel
theorem cs_sx_231 (g : sl_G) {hh : Nat} (h : 5 ≤ hh) : sl_CallS g sl_R11 231 0 5 hh 2 ix_highAt_pt := sl_callV (y := ix_highAt_y) (T := sl_F5) (N := 2) (ix_highAt_snd g) h (by decide) (sl_in1 699 (by decide +kernel) rfl) ix_highAt_w2 ix_highAt_w3 ix_highAt_w4 ix_highAt_w5 ix_highAt_w6 rfl (by decide)
theorem ix_ofThoseEndingAt_w2 : Cond.instanceMethod ix_ofThoseEndingAt_y ∈ sl_T0 := sl_in1 704 (by decide +kernel) rfl
theorem ix_ofThoseEndingAt_w3 : Cond.selects ix_ofThoseEndingAt_y.cls ix_ofThoseEndingAt_y ix_ofThoseEndingAt_y ∈ sl_T0 := sl_in1 705 (by decide +kernel) rfl
theorem ix_ofThoseEndingAt_w4 : Cond.initialized ix_ofThoseEndingAt_y.cls ∈ sl_T0 := sl_in1 86 (by decide +kernel) rfl
theorem ix_ofThoseEndingAt_w5 : Cond.code ix_ofThoseEndingAt_y prog_7_method_29_code 6 (some .int) ∈ sl_T0 := sl_in1 706 (by decide +kernel) rfl
theorem ix_ofThoseEndingAt_w6 : ix_ofThoseEndingAt_y.cls ≠ "java/lang/invoke/MethodHandle" ∧ ix_ofThoseEndingAt_y.cls ≠ "java/lang/invoke/VarHandle" ∧ (parseMethodDescriptor ix_ofThoseEndingAt_y.desc).map (fun d => d.parameters.length) = some 2 := by decide +kernel
theorem cs_sx_234 (g : sl_G) {hh : Nat} (h : 2 ≤ hh) : sl_CallS g sl_R11 234 0 5 hh 3 ix_ofThoseEndingAt_pt := sl_callV (y := ix_ofThoseEndingAt_y) (T := sl_F5) (N := 2) (ix_ofThoseEndingAt_snd g) h (by decide) (sl_in1 703 (by decide +kernel) rfl) ix_ofThoseEndingAt_w2 ix_ofThoseEndingAt_w3 ix_ofThoseEndingAt_w4 ix_ofThoseEndingAt_w5 ix_ofThoseEndingAt_w6 rfl (by decide)
def sx_group_ct : List sl_Ct := [(1, 0, 5, ix_countHighs_pt), (2, 1, 0, sx_isBelow_pt), (2, 0, 5, ix_highAt_pt), (3, 0, 5, ix_ofThoseEndingAt_pt)]
theorem sx_group_hc (g : sl_G) : sl_HC g sl_R11 5 sx_group_ct [(228, 0), (97, 1), (231, 0), (234, 0)] := sl_HC_cons (cs_sx_228 g (by decide)) (sl_HC_cons (cs_sx_97 g (by decide)) (sl_HC_cons (cs_sx_231 g (by decide)) (sl_HC_cons (cs_sx_234 g (by decide)) (sl_HC_nil g sl_R11 5))))
set_option maxRecDepth 20000 in
set_option maxHeartbeats 2000000 in
theorem sx_group_snd (g : sl_G) : sl_Snd g sx_group_y prog_1_method_26_code 3 (some .int) 5 (sx_group_pt) := by
  intro As μ Q hw h
  unfold sx_group_pt at h
  split at h
  next c0 a0 a1 a2 =>
    split at h
    next e_ =>
      subst e_
      split at h
      next e_ =>
        subst e_
        refine sl_mk2 g [true, true, true] (cst := [some (.inr (.inr (some (11, 0)))), some (.inl a1), some (.inl a2)]) (lv0 := [none, none, none]) (by decide) rfl hw rfl rfl rfl lk_sx_ok (sx_group_hc g) sx_group_tb rfl ?_
        intro X M
        exact ⟨_, sl_VV0, h⟩
      next => exact h.elim
    next => exact h.elim
  next => exact h.elim
def sx_feed (a1 : Int32) (μ : sl_M) (Q : Int32 → sl_M → Prop) : Prop := (a1 < (1 : Int32) → Q (-2 : Int32) μ) ∧ (¬ a1 < (1 : Int32) → (a1 ≤ (127 : Int32) → tp_append a1 μ (fun r2 m1 => (r2 = (0 : Int32) → Q (-4 : Int32) m1) ∧ (¬ r2 = (0 : Int32) → Q (m1 43 1) m1))) ∧ (¬ a1 ≤ (127 : Int32) → Q (-2 : Int32) μ))
def sx_feed_pt : sl_PT := fun As μ Q => match As with
  | [.inr (.inr (some (c0, a0))), .inl a1] => if c0 = 11 then (if a0 = 0 then (sx_feed a1 μ (fun r μ' => Q (some (.inl r)) μ')) else False) else False
  | _ => False
def sx_feed_cd : List sl_Ent := [(0, .iload_n 1, 1, 0, [1], [], false), (1, .iconst 1, 1, 1, [], [], false), (2, .if_icmp .lt 9, 3, 0, [11], [], false), (5, .iload_n 1, 1, 0, [1], [], false), (6, .bipush 127, 2, 127, [], [], false), (8, .if_icmp .le 6, 3, 0, [14], [], false), (11, .bipush (-2), 2, (-2), [], [], false), (13, .ireturn, 1, 0, [], [], false), (14, .aload_n 0, 1, 0, [0], [], false), (15, .getfield 39, 3, 0, [11, 4, 2, 10, 43], [], false), (18, .iload_n 1, 1, 0, [1], [], false), (19, .invokevirtual 237, 3, 0, [0], [], false), (22, .ifCond .eq 13, 3, 0, [35], [], false), (25, .aload_n 0, 1, 0, [0], [], false), (26, .getfield 39, 3, 0, [11, 4, 2, 10, 43], [], false), (29, .getfield 240, 3, 0, [10, 1, 0, 0, 0], [], false), (32, .goto 5, 3, 0, [37], [], false), (35, .bipush (-4), 2, (-4), [], [], false), (37, .ireturn, 1, 0, [], [], false)]
def sx_feed_y : MethodName := ⟨"SpanLayers", "feed", "(I)I"⟩
theorem sx_feed_tb : sl_tbOK sl_R11 prog_1_method_27_code 2 (some .int) lk_sx [(237, 0)] sx_feed_cd = true := by decide +kernel
theorem tp_append_w2 : Cond.instanceMethod tp_append_y ∈ sl_T0 := sl_in1 712 (by decide +kernel) rfl
theorem tp_append_w3 : Cond.selects tp_append_y.cls tp_append_y tp_append_y ∈ sl_T0 := sl_in1 713 (by decide +kernel) rfl
theorem tp_append_w4 : Cond.initialized tp_append_y.cls ∈ sl_T0 := sl_in1 90 (by decide +kernel) rfl
theorem tp_append_w5 : Cond.code tp_append_y prog_12_method_2_code 2 (some .boolean) ∈ sl_T0 := sl_in1 714 (by decide +kernel) rfl
theorem tp_append_w6 : tp_append_y.cls ≠ "java/lang/invoke/MethodHandle" ∧ tp_append_y.cls ≠ "java/lang/invoke/VarHandle" ∧ (parseMethodDescriptor tp_append_y.desc).map (fun d => d.parameters.length) = some 1 := by decide +kernel
theorem cs_sx_237 (g : sl_G) {hh : Nat} (h : 1 ≤ hh) : sl_CallS g sl_R11 237 0 10 hh 2 tp_append_pt := sl_callV (y := tp_append_y) (T := sl_F10) (N := 4) (tp_append_snd g) h (by decide) (sl_in1 711 (by decide +kernel) rfl) tp_append_w2 tp_append_w3 tp_append_w4 tp_append_w5 tp_append_w6 rfl (by decide)
def sx_feed_ct : List sl_Ct := [(2, 0, 10, tp_append_pt)]
theorem sx_feed_hc (g : sl_G) : sl_HC g sl_R11 1 sx_feed_ct [(237, 0)] := sl_HC_cons (cs_sx_237 g (by decide)) (sl_HC_nil g sl_R11 1)
set_option maxRecDepth 20000 in
set_option maxHeartbeats 2000000 in
theorem sx_feed_snd (g : sl_G) : sl_Snd g sx_feed_y prog_1_method_27_code 2 (some .int) 1 (sx_feed_pt) := by
  intro As μ Q hw h
  unfold sx_feed_pt at h
  split at h
  next c0 a0 a1 =>
    split at h
    next e_ =>
      subst e_
      split at h
      next e_ =>
        subst e_
        refine sl_mk2 g [true, true] (cst := [some (.inr (.inr (some (11, 0)))), some (.inl a1)]) (lv0 := [none, none]) (by decide) rfl hw rfl rfl rfl lk_sx_ok (sx_feed_hc g) sx_feed_tb rfl ?_
        intro X M
        exact ⟨_, sl_VV0, h⟩
      next => exact h.elim
    next => exact h.elim
  next => exact h.elim
def sx_clear (μ : sl_M) (Q : Int32 → sl_M → Prop) : Prop := ∀ v1, v1 = (μ 43 1) → tp_empty μ (fun m2 => Q v1 m2)
def sx_clear_pt : sl_PT := fun As μ Q => match As with
  | [.inr (.inr (some (c0, a0)))] => if c0 = 11 then (if a0 = 0 then (sx_clear μ (fun r μ' => Q (some (.inl r)) μ')) else False) else False
  | _ => False
def sx_clear_cd : List sl_Ent := [(0, .aload_n 0, 1, 0, [0], [], false), (1, .getfield 39, 3, 0, [11, 4, 2, 10, 43], [], false), (4, .getfield 240, 3, 0, [10, 1, 0, 0, 0], [], false), (7, .istore_n 1, 1, 0, [1, 1], [], false), (8, .aload_n 0, 1, 0, [0], [], false), (9, .getfield 39, 3, 0, [11, 4, 2, 10, 43], [], false), (12, .invokevirtual 243, 3, 0, [0], [], false), (15, .iload_n 1, 1, 0, [1], [], false), (16, .ireturn, 1, 0, [], [], false)]
def sx_clear_y : MethodName := ⟨"SpanLayers", "clear", "()I"⟩
theorem sx_clear_tb : sl_tbOK sl_R11 prog_1_method_28_code 2 (some .int) lk_sx [(243, 0)] sx_clear_cd = true := by decide +kernel
theorem cs_sx_243 (g : sl_G) {hh : Nat} (h : 1 ≤ hh) : sl_CallS g sl_R11 243 0 10 hh 1 tp_empty_pt := sl_callV (y := tp_empty_y) (T := sl_F10) (N := 4) (tp_empty_snd g) h (by decide) (sl_in1 719 (by decide +kernel) rfl) tp_empty_w2 tp_empty_w3 tp_empty_w4 tp_empty_w5 tp_empty_w6 rfl (by decide)
def sx_clear_ct : List sl_Ct := [(1, 0, 10, tp_empty_pt)]
theorem sx_clear_hc (g : sl_G) : sl_HC g sl_R11 1 sx_clear_ct [(243, 0)] := sl_HC_cons (cs_sx_243 g (by decide)) (sl_HC_nil g sl_R11 1)
set_option maxRecDepth 20000 in
set_option maxHeartbeats 2000000 in
theorem sx_clear_snd (g : sl_G) : sl_Snd g sx_clear_y prog_1_method_28_code 2 (some .int) 1 (sx_clear_pt) := by
  intro As μ Q hw h
  unfold sx_clear_pt at h
  split at h
  next c0 a0 =>
    split at h
    next e_ =>
      subst e_
      split at h
      next e_ =>
        subst e_
        refine sl_mk2 g [true, false] (cst := [some (.inr (.inr (some (11, 0))))]) (lv0 := [none, none]) (by decide) rfl hw rfl rfl rfl lk_sx_ok (sx_clear_hc g) sx_clear_tb rfl ?_
        intro X M
        exact ⟨_, sl_VV0, h⟩
      next => exact h.elim
    next => exact h.elim
  next => exact h.elim
def sx_pick (μ : sl_M) (Q : Int32 → sl_M → Prop) : Prop := cn_E 6 (0 : Int32) μ (fun r2 m1 => tp_finish m1 (fun r4 m3 => (r4 < (0 : Int32) → Q r2 m3) ∧ (¬ r4 < (0 : Int32) → Q ((-100 : Int32) - r4) m3)))
def sx_pick_pt : sl_PT := fun As μ Q => match As with
  | [.inr (.inr (some (c0, a0)))] => if c0 = 11 then (if a0 = 0 then (sx_pick μ (fun r μ' => Q (some (.inl r)) μ')) else False) else False
  | _ => False
def sx_pick_cd : List sl_Ent := [(0, .aload_n 0, 1, 0, [0], [], false), (1, .getfield 46, 3, 0, [11, 5, 2, 2, 45], [], false), (4, .aload_n 0, 1, 0, [0], [], false), (5, .getfield 39, 3, 0, [11, 4, 2, 10, 43], [], false), (8, .aload_n 0, 1, 0, [0], [], false), (9, .getfield 10, 3, 0, [11, 0, 2, 5, 1], [], false), (12, .iconst 0, 1, 0, [], [], false), (13, .invokevirtual 246, 3, 0, [0], [], false), (16, .istore_n 1, 1, 0, [1], [], false), (17, .aload_n 0, 1, 0, [0], [], false), (18, .getfield 39, 3, 0, [11, 4, 2, 10, 43], [], false), (21, .invokevirtual 250, 3, 0, [1], [], false), (24, .istore_n 2, 1, 0, [2], [], false), (25, .iload_n 2, 1, 0, [2], [], false), (26, .ifCond .ge 7, 3, 0, [33], [], false), (29, .iload_n 1, 1, 0, [1], [], false), (30, .goto 7, 3, 0, [37], [], false), (33, .bipush (-100), 2, (-100), [], [], false), (35, .iload_n 2, 1, 0, [2], [], false), (36, .isub, 1, 0, [], [], false), (37, .ireturn, 1, 0, [], [], false)]
def sx_pick_y : MethodName := ⟨"SpanLayers", "pick", "()I"⟩
theorem sx_pick_tb : sl_tbOK sl_R11 prog_1_method_29_code 3 (some .int) lk_sx [(246, 0), (250, 0)] sx_pick_cd = true := by decide +kernel
theorem cs_sx_246 (g : sl_G) {hh : Nat} (h : 39 ≤ hh) : sl_CallS g sl_R11 246 0 2 hh 4 (cn_readEither_ptE (cn_E 6)) := sl_callVN (host := "SpanLayers") (y := cn_readEither_y) (T := sl_F2) (N := 0) (cn_E_snd g 6) h (by decide) (List.mem_of_getElem? (i := 11) rfl) cn_readEither_w2 cn_readEither_w3 cn_readEither_w4 cn_readEither_w5 cn_readEither_w6 rfl (by decide)
theorem tp_finish_w2 : Cond.instanceMethod tp_finish_y ∈ sl_T0 := sl_in1 841 (by decide +kernel) rfl
theorem tp_finish_w3 : Cond.selects tp_finish_y.cls tp_finish_y tp_finish_y ∈ sl_T0 := sl_in1 842 (by decide +kernel) rfl
theorem tp_finish_w4 : Cond.initialized tp_finish_y.cls ∈ sl_T0 := sl_in1 90 (by decide +kernel) rfl
theorem tp_finish_w5 : Cond.code tp_finish_y prog_12_method_4_code 2 (some .int) ∈ sl_T0 := sl_in1 843 (by decide +kernel) rfl
theorem tp_finish_w6 : tp_finish_y.cls ≠ "java/lang/invoke/MethodHandle" ∧ tp_finish_y.cls ≠ "java/lang/invoke/VarHandle" ∧ (parseMethodDescriptor tp_finish_y.desc).map (fun d => d.parameters.length) = some 0 := by decide +kernel
theorem cs_sx_250 (g : sl_G) {hh : Nat} (h : 2 ≤ hh) : sl_CallS g sl_R11 250 0 10 hh 1 tp_finish_pt := sl_callV (y := tp_finish_y) (T := sl_F10) (N := 4) (tp_finish_snd g) h (by decide) (sl_in1 840 (by decide +kernel) rfl) tp_finish_w2 tp_finish_w3 tp_finish_w4 tp_finish_w5 tp_finish_w6 rfl (by decide)
def sx_pick_ct : List sl_Ct := [(4, 0, 2, (cn_readEither_ptE (cn_E 6))), (1, 0, 10, tp_finish_pt)]
theorem sx_pick_hc (g : sl_G) : sl_HC g sl_R11 39 sx_pick_ct [(246, 0), (250, 0)] := sl_HC_cons (cs_sx_246 g (by decide)) (sl_HC_cons (cs_sx_250 g (by decide)) (sl_HC_nil g sl_R11 39))
set_option maxRecDepth 20000 in
set_option maxHeartbeats 2000000 in
theorem sx_pick_snd (g : sl_G) : sl_Snd g sx_pick_y prog_1_method_29_code 3 (some .int) 39 (sx_pick_pt) := by
  intro As μ Q hw h
  unfold sx_pick_pt at h
  split at h
  next c0 a0 =>
    split at h
    next e_ =>
      subst e_
      split at h
      next e_ =>
        subst e_
        refine sl_mk2 g [true, false, false] (cst := [some (.inr (.inr (some (11, 0))))]) (lv0 := [none, none, none]) (by decide) rfl hw rfl rfl rfl lk_sx_ok (sx_pick_hc g) sx_pick_tb rfl ?_
        intro X M
        exact ⟨_, sl_VV0, h⟩
      next => exact h.elim
    next => exact h.elim
  next => exact h.elim
def sx_many (μ : sl_M) (Q : Int32 → sl_M → Prop) : Prop := cn_E 6 (0 : Int32) μ (fun r2 m1 => tp_finish m1 (fun r4 m3 => (r4 < (0 : Int32) → it_bitCount r2 m3 (fun r6 m5 => Q r6 m5)) ∧ (¬ r4 < (0 : Int32) → Q ((-100 : Int32) - r4) m3)))
def sx_many_pt : sl_PT := fun As μ Q => match As with
  | [.inr (.inr (some (c0, a0)))] => if c0 = 11 then (if a0 = 0 then (sx_many μ (fun r μ' => Q (some (.inl r)) μ')) else False) else False
  | _ => False
def sx_many_cd : List sl_Ent := [(0, .aload_n 0, 1, 0, [0], [], false), (1, .getfield 46, 3, 0, [11, 5, 2, 2, 45], [], false), (4, .aload_n 0, 1, 0, [0], [], false), (5, .getfield 39, 3, 0, [11, 4, 2, 10, 43], [], false), (8, .aload_n 0, 1, 0, [0], [], false), (9, .getfield 10, 3, 0, [11, 0, 2, 5, 1], [], false), (12, .iconst 0, 1, 0, [], [], false), (13, .invokevirtual 246, 3, 0, [0], [], false), (16, .istore_n 1, 1, 0, [1], [], false), (17, .aload_n 0, 1, 0, [0], [], false), (18, .getfield 39, 3, 0, [11, 4, 2, 10, 43], [], false), (21, .invokevirtual 250, 3, 0, [1], [], false), (24, .istore_n 2, 1, 0, [2], [], false), (25, .iload_n 2, 1, 0, [2], [], false), (26, .ifCond .ge 10, 3, 0, [36], [], false), (29, .iload_n 1, 1, 0, [1], [], false), (30, .invokestatic 253, 3, 0, [2], [], false), (33, .goto 7, 3, 0, [40], [], false), (36, .bipush (-100), 2, (-100), [], [], false), (38, .iload_n 2, 1, 0, [2], [], false), (39, .isub, 1, 0, [], [], false), (40, .ireturn, 1, 0, [], [], false)]
def sx_many_y : MethodName := ⟨"SpanLayers", "many", "()I"⟩
theorem sx_many_tb : sl_tbOK sl_R11 prog_1_method_30_code 3 (some .int) lk_sx [(246, 0), (250, 0), (253, 1)] sx_many_cd = true := by decide +kernel
theorem cs_sx_253 (g : sl_G) {hh : Nat} (h : 1 ≤ hh) : sl_CallS g sl_R11 253 1 0 hh 1 it_bitCount_pt := sl_callS (y := it_bitCount_y) (it_bitCount_snd g) h (by decide) (sl_in1 850 (by decide +kernel) rfl) it_bitCount_w2 it_bitCount_w4 it_bitCount_w5 it_bitCount_w6
def sx_many_ct : List sl_Ct := [(4, 0, 2, (cn_readEither_ptE (cn_E 6))), (1, 0, 10, tp_finish_pt), (1, 1, 0, it_bitCount_pt)]
theorem sx_many_hc (g : sl_G) : sl_HC g sl_R11 39 sx_many_ct [(246, 0), (250, 0), (253, 1)] := sl_HC_cons (cs_sx_246 g (by decide)) (sl_HC_cons (cs_sx_250 g (by decide)) (sl_HC_cons (cs_sx_253 g (by decide)) (sl_HC_nil g sl_R11 39)))
set_option maxRecDepth 20000 in
set_option maxHeartbeats 2000000 in
theorem sx_many_snd (g : sl_G) : sl_Snd g sx_many_y prog_1_method_30_code 3 (some .int) 39 (sx_many_pt) := by
  intro As μ Q hw h
  unfold sx_many_pt at h
  split at h
  next c0 a0 =>
    split at h
    next e_ =>
      subst e_
      split at h
      next e_ =>
        subst e_
        refine sl_mk2 g [true, false, false] (cst := [some (.inr (.inr (some (11, 0))))]) (lv0 := [none, none, none]) (by decide) rfl hw rfl rfl rfl lk_sx_ok (sx_many_hc g) sx_many_tb rfl ?_
        intro X M
        exact ⟨_, sl_VV0, h⟩
      next => exact h.elim
    next => exact h.elim
  next => exact h.elim
def sx_cull (μ : sl_M) (Q : Int32 → sl_M → Prop) : Prop := cn_E 6 (0 : Int32) μ (fun r2 m1 => tp_finish m1 (fun r4 m3 => (r4 < (0 : Int32) → ix_takeOut r2 m3 (fun m5 => it_bitCount r2 m5 (fun r7 m6 => Q r7 m6))) ∧ (¬ r4 < (0 : Int32) → Q ((-100 : Int32) - r4) m3)))
def sx_cull_pt : sl_PT := fun As μ Q => match As with
  | [.inr (.inr (some (c0, a0)))] => if c0 = 11 then (if a0 = 0 then (sx_cull μ (fun r μ' => Q (some (.inl r)) μ')) else False) else False
  | _ => False
def sx_cull_cd : List sl_Ent := [(0, .aload_n 0, 1, 0, [0], [], false), (1, .getfield 46, 3, 0, [11, 5, 2, 2, 45], [], false), (4, .aload_n 0, 1, 0, [0], [], false), (5, .getfield 39, 3, 0, [11, 4, 2, 10, 43], [], false), (8, .aload_n 0, 1, 0, [0], [], false), (9, .getfield 10, 3, 0, [11, 0, 2, 5, 1], [], false), (12, .iconst 0, 1, 0, [], [], false), (13, .invokevirtual 246, 3, 0, [0], [], false), (16, .istore_n 1, 1, 0, [1], [], false), (17, .aload_n 0, 1, 0, [0], [], false), (18, .getfield 39, 3, 0, [11, 4, 2, 10, 43], [], false), (21, .invokevirtual 250, 3, 0, [1], [], false), (24, .istore_n 2, 1, 0, [2], [], false), (25, .iload_n 2, 1, 0, [2], [], false), (26, .ifCond .lt 8, 3, 0, [34], [], false), (29, .bipush (-100), 2, (-100), [], [], false), (31, .iload_n 2, 1, 0, [2], [], false), (32, .isub, 1, 0, [], [], false), (33, .ireturn, 1, 0, [], [], false), (34, .aload_n 0, 1, 0, [0], [], false), (35, .getfield 10, 3, 0, [11, 0, 2, 5, 1], [], false), (38, .iload_n 1, 1, 0, [1], [], false), (39, .invokevirtual 105, 3, 0, [2], [], false), (42, .iload_n 1, 1, 0, [1], [], false), (43, .invokestatic 253, 3, 0, [3], [], false), (46, .ireturn, 1, 0, [], [], false)]
def sx_cull_y : MethodName := ⟨"SpanLayers", "cull", "()I"⟩
theorem sx_cull_tb : sl_tbOK sl_R11 prog_1_method_31_code 3 (some .int) lk_sx [(246, 0), (250, 0), (105, 0), (253, 1)] sx_cull_cd = true := by decide +kernel
def sx_cull_ct : List sl_Ct := [(4, 0, 2, (cn_readEither_ptE (cn_E 6))), (1, 0, 10, tp_finish_pt), (2, 0, 5, ix_takeOut_pt), (1, 1, 0, it_bitCount_pt)]
theorem sx_cull_hc (g : sl_G) : sl_HC g sl_R11 39 sx_cull_ct [(246, 0), (250, 0), (105, 0), (253, 1)] := sl_HC_cons (cs_sx_246 g (by decide)) (sl_HC_cons (cs_sx_250 g (by decide)) (sl_HC_cons (cs_sx_105 g (by decide)) (sl_HC_cons (cs_sx_253 g (by decide)) (sl_HC_nil g sl_R11 39))))
set_option maxRecDepth 20000 in
set_option maxHeartbeats 2000000 in
theorem sx_cull_snd (g : sl_G) : sl_Snd g sx_cull_y prog_1_method_31_code 3 (some .int) 39 (sx_cull_pt) := by
  intro As μ Q hw h
  unfold sx_cull_pt at h
  split at h
  next c0 a0 =>
    split at h
    next e_ =>
      subst e_
      split at h
      next e_ =>
        subst e_
        refine sl_mk2 g [true, false, false] (cst := [some (.inr (.inr (some (11, 0))))]) (lv0 := [none, none, none]) (by decide) rfl hw rfl rfl rfl lk_sx_ok (sx_cull_hc g) sx_cull_tb rfl ?_
        intro X M
        exact ⟨_, sl_VV0, h⟩
      next => exact h.elim
    next => exact h.elim
  next => exact h.elim
def sx_change (a1 : Int32) (μ : sl_M) (Q : Int32 → sl_M → Prop) : Prop := (a1 < (-1 : Int32) → Q (-2 : Int32) μ) ∧ (¬ a1 < (-1 : Int32) → ch_readFrom μ (fun m1 => tp_finish m1 (fun r3 m2 => (r3 < (0 : Int32) → ch_changeAll a1 m2 (fun r5 m4 => Q r5 m4)) ∧ (¬ r3 < (0 : Int32) → Q ((-100 : Int32) - r3) m2))))
def sx_change_pt : sl_PT := fun As μ Q => match As with
  | [.inr (.inr (some (c0, a0))), .inl a1] => if c0 = 11 then (if a0 = 0 then (sx_change a1 μ (fun r μ' => Q (some (.inl r)) μ')) else False) else False
  | _ => False
def sx_change_cd : List sl_Ent := [(0, .iload_n 1, 1, 0, [1], [], false), (1, .iconst (-1), 1, (-1), [], [], false), (2, .if_icmp .ge 6, 3, 0, [8], [], false), (5, .bipush (-2), 2, (-2), [], [], false), (7, .ireturn, 1, 0, [], [], false), (8, .aload_n 0, 1, 0, [0], [], false), (9, .getfield 53, 3, 0, [11, 6, 2, 0, 46], [], false), (12, .aload_n 0, 1, 0, [0], [], false), (13, .getfield 39, 3, 0, [11, 4, 2, 10, 43], [], false), (16, .invokevirtual 258, 3, 0, [0], [], false), (19, .aload_n 0, 1, 0, [0], [], false), (20, .getfield 39, 3, 0, [11, 4, 2, 10, 43], [], false), (23, .invokevirtual 250, 3, 0, [1], [], false), (26, .istore_n 2, 1, 0, [2], [], false), (27, .iload_n 2, 1, 0, [2], [], false), (28, .ifCond .ge 18, 3, 0, [46], [], false), (31, .aload_n 0, 1, 0, [0], [], false), (32, .getfield 53, 3, 0, [11, 6, 2, 0, 46], [], false), (35, .aload_n 0, 1, 0, [0], [], false), (36, .getfield 10, 3, 0, [11, 0, 2, 5, 1], [], false), (39, .iload_n 1, 1, 0, [1], [], false), (40, .invokevirtual 261, 3, 0, [2], [], false), (43, .goto 7, 3, 0, [50], [], false), (46, .bipush (-100), 2, (-100), [], [], false), (48, .iload_n 2, 1, 0, [2], [], false), (49, .isub, 1, 0, [], [], false), (50, .ireturn, 1, 0, [], [], false)]
def sx_change_y : MethodName := ⟨"SpanLayers", "change", "(I)I"⟩
theorem sx_change_tb : sl_tbOK sl_R11 prog_1_method_32_code 3 (some .int) lk_sx [(258, 0), (250, 0), (261, 0)] sx_change_cd = true := by decide +kernel
theorem ch_readFrom_w2 : Cond.instanceMethod ch_readFrom_y ∈ sl_T0 := sl_in1 860 (by decide +kernel) rfl
theorem ch_readFrom_w3 : Cond.selects ch_readFrom_y.cls ch_readFrom_y ch_readFrom_y ∈ sl_T0 := sl_in1 861 (by decide +kernel) rfl
theorem ch_readFrom_w4 : Cond.initialized ch_readFrom_y.cls ∈ sl_T0 := sl_in1 92 (by decide +kernel) rfl
theorem ch_readFrom_w5 : Cond.code ch_readFrom_y prog_2_method_2_code 4 none ∈ sl_T0 := sl_in1 862 (by decide +kernel) rfl
theorem ch_readFrom_w6 : ch_readFrom_y.cls ≠ "java/lang/invoke/MethodHandle" ∧ ch_readFrom_y.cls ≠ "java/lang/invoke/VarHandle" ∧ (parseMethodDescriptor ch_readFrom_y.desc).map (fun d => d.parameters.length) = some 1 := by decide +kernel
theorem cs_sx_258 (g : sl_G) {hh : Nat} (h : 11 ≤ hh) : sl_CallS g sl_R11 258 0 0 hh 2 ch_readFrom_pt := sl_callV (y := ch_readFrom_y) (T := sl_F0) (N := 4) (ch_readFrom_snd g) h (by decide) (sl_in1 859 (by decide +kernel) rfl) ch_readFrom_w2 ch_readFrom_w3 ch_readFrom_w4 ch_readFrom_w5 ch_readFrom_w6 rfl (by decide)
theorem ch_changeAll_w2 : Cond.instanceMethod ch_changeAll_y ∈ sl_T0 := sl_in1 878 (by decide +kernel) rfl
theorem ch_changeAll_w3 : Cond.selects ch_changeAll_y.cls ch_changeAll_y ch_changeAll_y ∈ sl_T0 := sl_in1 879 (by decide +kernel) rfl
theorem ch_changeAll_w4 : Cond.initialized ch_changeAll_y.cls ∈ sl_T0 := sl_in1 92 (by decide +kernel) rfl
theorem ch_changeAll_w5 : Cond.code ch_changeAll_y prog_2_method_4_code 5 (some .int) ∈ sl_T0 := sl_in1 880 (by decide +kernel) rfl
theorem ch_changeAll_w6 : ch_changeAll_y.cls ≠ "java/lang/invoke/MethodHandle" ∧ ch_changeAll_y.cls ≠ "java/lang/invoke/VarHandle" ∧ (parseMethodDescriptor ch_changeAll_y.desc).map (fun d => d.parameters.length) = some 2 := by decide +kernel
theorem cs_sx_261 (g : sl_G) {hh : Nat} (h : 6 ≤ hh) : sl_CallS g sl_R11 261 0 0 hh 3 ch_changeAll_pt := sl_callV (y := ch_changeAll_y) (T := sl_F0) (N := 4) (ch_changeAll_snd g) h (by decide) (sl_in1 877 (by decide +kernel) rfl) ch_changeAll_w2 ch_changeAll_w3 ch_changeAll_w4 ch_changeAll_w5 ch_changeAll_w6 rfl (by decide)
def sx_change_ct : List sl_Ct := [(2, 0, 0, ch_readFrom_pt), (1, 0, 10, tp_finish_pt), (3, 0, 0, ch_changeAll_pt)]
theorem sx_change_hc (g : sl_G) : sl_HC g sl_R11 11 sx_change_ct [(258, 0), (250, 0), (261, 0)] := sl_HC_cons (cs_sx_258 g (by decide)) (sl_HC_cons (cs_sx_250 g (by decide)) (sl_HC_cons (cs_sx_261 g (by decide)) (sl_HC_nil g sl_R11 11)))
set_option maxRecDepth 20000 in
set_option maxHeartbeats 2000000 in
theorem sx_change_snd (g : sl_G) : sl_Snd g sx_change_y prog_1_method_32_code 3 (some .int) 11 (sx_change_pt) := by
  intro As μ Q hw h
  unfold sx_change_pt at h
  split at h
  next c0 a0 a1 =>
    split at h
    next e_ =>
      subst e_
      split at h
      next e_ =>
        subst e_
        refine sl_mk2 g [true, true, false] (cst := [some (.inr (.inr (some (11, 0)))), some (.inl a1)]) (lv0 := [none, none, none]) (by decide) rfl hw rfl rfl rfl lk_sx_ok (sx_change_hc g) sx_change_tb rfl ?_
        intro X M
        exact ⟨_, sl_VV0, h⟩
      next => exact h.elim
    next => exact h.elim
  next => exact h.elim
def sx_load (μ : sl_M) (Q : Int32 → sl_M → Prop) : Prop := pa_readFrom μ (fun m1 => tp_finish m1 (fun r3 m2 => (r3 < (0 : Int32) → pa_bringInto m2 (fun r5 m4 => Q r5 m4)) ∧ (¬ r3 < (0 : Int32) → Q ((-100 : Int32) - r3) m2)))
def sx_load_pt : sl_PT := fun As μ Q => match As with
  | [.inr (.inr (some (c0, a0)))] => if c0 = 11 then (if a0 = 0 then (sx_load μ (fun r μ' => Q (some (.inl r)) μ')) else False) else False
  | _ => False
def sx_load_cd : List sl_Ent := [(0, .aload_n 0, 1, 0, [0], [], false), (1, .getfield 60, 3, 0, [11, 7, 2, 7, 50], [], false), (4, .aload_n 0, 1, 0, [0], [], false), (5, .getfield 39, 3, 0, [11, 4, 2, 10, 43], [], false), (8, .invokevirtual 265, 3, 0, [0], [], false), (11, .aload_n 0, 1, 0, [0], [], false), (12, .getfield 39, 3, 0, [11, 4, 2, 10, 43], [], false), (15, .invokevirtual 250, 3, 0, [1], [], false), (18, .istore_n 1, 1, 0, [1], [], false), (19, .iload_n 1, 1, 0, [1], [], false), (20, .ifCond .ge 17, 3, 0, [37], [], false), (23, .aload_n 0, 1, 0, [0], [], false), (24, .getfield 60, 3, 0, [11, 7, 2, 7, 50], [], false), (27, .aload_n 0, 1, 0, [0], [], false), (28, .getfield 10, 3, 0, [11, 0, 2, 5, 1], [], false), (31, .invokevirtual 266, 3, 0, [2], [], false), (34, .goto 7, 3, 0, [41], [], false), (37, .bipush (-100), 2, (-100), [], [], false), (39, .iload_n 1, 1, 0, [1], [], false), (40, .isub, 1, 0, [], [], false), (41, .ireturn, 1, 0, [], [], false)]
def sx_load_y : MethodName := ⟨"SpanLayers", "load", "()I"⟩
theorem sx_load_tb : sl_tbOK sl_R11 prog_1_method_33_code 2 (some .int) lk_sx [(265, 0), (250, 0), (266, 0)] sx_load_cd = true := by decide +kernel
theorem pa_readFrom_w2 : Cond.instanceMethod pa_readFrom_y ∈ sl_T0 := sl_in1 903 (by decide +kernel) rfl
theorem pa_readFrom_w3 : Cond.selects pa_readFrom_y.cls pa_readFrom_y pa_readFrom_y ∈ sl_T0 := sl_in1 904 (by decide +kernel) rfl
theorem pa_readFrom_w4 : Cond.initialized pa_readFrom_y.cls ∈ sl_T0 := sl_in1 93 (by decide +kernel) rfl
theorem pa_readFrom_w5 : Cond.code pa_readFrom_y prog_9_method_2_code 4 none ∈ sl_T0 := sl_in1 905 (by decide +kernel) rfl
theorem pa_readFrom_w6 : pa_readFrom_y.cls ≠ "java/lang/invoke/MethodHandle" ∧ pa_readFrom_y.cls ≠ "java/lang/invoke/VarHandle" ∧ (parseMethodDescriptor pa_readFrom_y.desc).map (fun d => d.parameters.length) = some 1 := by decide +kernel
theorem cs_sx_265 (g : sl_G) {hh : Nat} (h : 4 ≤ hh) : sl_CallS g sl_R11 265 0 7 hh 2 pa_readFrom_pt := sl_callV (y := pa_readFrom_y) (T := sl_F7) (N := 4) (pa_readFrom_snd g) h (by decide) (sl_in1 902 (by decide +kernel) rfl) pa_readFrom_w2 pa_readFrom_w3 pa_readFrom_w4 pa_readFrom_w5 pa_readFrom_w6 rfl (by decide)
theorem pa_bringInto_w2 : Cond.instanceMethod pa_bringInto_y ∈ sl_T0 := sl_in1 913 (by decide +kernel) rfl
theorem pa_bringInto_w3 : Cond.selects pa_bringInto_y.cls pa_bringInto_y pa_bringInto_y ∈ sl_T0 := sl_in1 914 (by decide +kernel) rfl
theorem pa_bringInto_w4 : Cond.initialized pa_bringInto_y.cls ∈ sl_T0 := sl_in1 93 (by decide +kernel) rfl
theorem pa_bringInto_w5 : Cond.code pa_bringInto_y prog_9_method_3_code 5 (some .int) ∈ sl_T0 := sl_in1 915 (by decide +kernel) rfl
theorem pa_bringInto_w6 : pa_bringInto_y.cls ≠ "java/lang/invoke/MethodHandle" ∧ pa_bringInto_y.cls ≠ "java/lang/invoke/VarHandle" ∧ (parseMethodDescriptor pa_bringInto_y.desc).map (fun d => d.parameters.length) = some 1 := by decide +kernel
theorem cs_sx_266 (g : sl_G) {hh : Nat} (h : 6 ≤ hh) : sl_CallS g sl_R11 266 0 7 hh 2 pa_bringInto_pt := sl_callV (y := pa_bringInto_y) (T := sl_F7) (N := 4) (pa_bringInto_snd g) h (by decide) (sl_in1 912 (by decide +kernel) rfl) pa_bringInto_w2 pa_bringInto_w3 pa_bringInto_w4 pa_bringInto_w5 pa_bringInto_w6 rfl (by decide)
def sx_load_ct : List sl_Ct := [(2, 0, 7, pa_readFrom_pt), (1, 0, 10, tp_finish_pt), (2, 0, 7, pa_bringInto_pt)]
theorem sx_load_hc (g : sl_G) : sl_HC g sl_R11 6 sx_load_ct [(265, 0), (250, 0), (266, 0)] := sl_HC_cons (cs_sx_265 g (by decide)) (sl_HC_cons (cs_sx_250 g (by decide)) (sl_HC_cons (cs_sx_266 g (by decide)) (sl_HC_nil g sl_R11 6)))
set_option maxRecDepth 20000 in
set_option maxHeartbeats 2000000 in
theorem sx_load_snd (g : sl_G) : sl_Snd g sx_load_y prog_1_method_33_code 2 (some .int) 6 (sx_load_pt) := by
  intro As μ Q hw h
  unfold sx_load_pt at h
  split at h
  next c0 a0 =>
    split at h
    next e_ =>
      subst e_
      split at h
      next e_ =>
        subst e_
        refine sl_mk2 g [true, false] (cst := [some (.inr (.inr (some (11, 0))))]) (lv0 := [none, none]) (by decide) rfl hw rfl rfl rfl lk_sx_ok (sx_load_hc g) sx_load_tb rfl ?_
        intro X M
        exact ⟨_, sl_VV0, h⟩
      next => exact h.elim
    next => exact h.elim
  next => exact h.elim
def sx_spell (a1 : Int32) (μ : sl_M) (Q : Int32 → sl_M → Prop) : Prop := sx_isBelow a1 (5 : Int32) μ (fun r2 m1 => (r2 = (0 : Int32) → Q (-1 : Int32) m1) ∧ (¬ r2 = (0 : Int32) → pp_writeAll a1 m1 (fun m3 => Q (m3 54 1) m3)))
def sx_spell_pt : sl_PT := fun As μ Q => match As with
  | [.inr (.inr (some (c0, a0))), .inl a1] => if c0 = 11 then (if a0 = 0 then (sx_spell a1 μ (fun r μ' => Q (some (.inl r)) μ')) else False) else False
  | _ => False
def sx_spell_cd : List sl_Ent := [(0, .iload_n 1, 1, 0, [1], [], false), (1, .iconst 5, 1, 5, [], [], false), (2, .invokestatic 97, 3, 0, [0], [], false), (5, .ifCond .ne 5, 3, 0, [10], [], false), (8, .iconst (-1), 1, (-1), [], [], false), (9, .ireturn, 1, 0, [], [], false), (10, .aload_n 0, 1, 0, [0], [], false), (11, .getfield 67, 3, 0, [11, 8, 2, 6, 54], [], false), (14, .aload_n 0, 1, 0, [0], [], false), (15, .getfield 10, 3, 0, [11, 0, 2, 5, 1], [], false), (18, .iload_n 1, 1, 0, [1], [], false), (19, .invokevirtual 269, 3, 0, [1], [], false), (22, .aload_n 0, 1, 0, [0], [], false), (23, .getfield 67, 3, 0, [11, 8, 2, 6, 54], [], false), (26, .getfield 273, 3, 0, [6, 1, 0, 0, 0], [], false), (29, .ireturn, 1, 0, [], [], false)]
def sx_spell_y : MethodName := ⟨"SpanLayers", "spell", "(I)I"⟩
theorem sx_spell_tb : sl_tbOK sl_R11 prog_1_method_34_code 2 (some .int) lk_sx [(97, 1), (269, 0)] sx_spell_cd = true := by decide +kernel
theorem pp_writeAll_w2 : Cond.instanceMethod pp_writeAll_y ∈ sl_T0 := sl_in1 924 (by decide +kernel) rfl
theorem pp_writeAll_w3 : Cond.selects pp_writeAll_y.cls pp_writeAll_y pp_writeAll_y ∈ sl_T0 := sl_in1 925 (by decide +kernel) rfl
theorem pp_writeAll_w4 : Cond.initialized pp_writeAll_y.cls ∈ sl_T0 := sl_in1 94 (by decide +kernel) rfl
theorem pp_writeAll_w5 : Cond.code pp_writeAll_y prog_8_method_2_code 5 none ∈ sl_T0 := sl_in1 926 (by decide +kernel) rfl
theorem pp_writeAll_w6 : pp_writeAll_y.cls ≠ "java/lang/invoke/MethodHandle" ∧ pp_writeAll_y.cls ≠ "java/lang/invoke/VarHandle" ∧ (parseMethodDescriptor pp_writeAll_y.desc).map (fun d => d.parameters.length) = some 2 := by decide +kernel
theorem cs_sx_269 (g : sl_G) {hh : Nat} (h : 5 ≤ hh) : sl_CallS g sl_R11 269 0 6 hh 3 pp_writeAll_pt := sl_callV (y := pp_writeAll_y) (T := sl_F6) (N := 2) (pp_writeAll_snd g) h (by decide) (sl_in1 923 (by decide +kernel) rfl) pp_writeAll_w2 pp_writeAll_w3 pp_writeAll_w4 pp_writeAll_w5 pp_writeAll_w6 rfl (by decide)
def sx_spell_ct : List sl_Ct := [(2, 1, 0, sx_isBelow_pt), (3, 0, 6, pp_writeAll_pt)]
theorem sx_spell_hc (g : sl_G) : sl_HC g sl_R11 5 sx_spell_ct [(97, 1), (269, 0)] := sl_HC_cons (cs_sx_97 g (by decide)) (sl_HC_cons (cs_sx_269 g (by decide)) (sl_HC_nil g sl_R11 5))
set_option maxRecDepth 20000 in
set_option maxHeartbeats 2000000 in
theorem sx_spell_snd (g : sl_G) : sl_Snd g sx_spell_y prog_1_method_34_code 2 (some .int) 5 (sx_spell_pt) := by
  intro As μ Q hw h
  unfold sx_spell_pt at h
  split at h
  next c0 a0 a1 =>
    split at h
    next e_ =>
      subst e_
      split at h
      next e_ =>
        subst e_
        refine sl_mk2 g [true, true] (cst := [some (.inr (.inr (some (11, 0)))), some (.inl a1)]) (lv0 := [none, none]) (by decide) rfl hw rfl rfl rfl lk_sx_ok (sx_spell_hc g) sx_spell_tb rfl ?_
        intro X M
        exact ⟨_, sl_VV0, h⟩
      next => exact h.elim
    next => exact h.elim
  next => exact h.elim
def sx_paper (a1 : Int32) (μ : sl_M) (Q : Int32 → sl_M → Prop) : Prop := sx_isBelow a1 (μ 54 1) μ (fun r2 m1 => (r2 = (0 : Int32) → Q (-1 : Int32) m1) ∧ (¬ r2 = (0 : Int32) → vp_in a1 360 ∧ Q (m1 55 a1.toNatClampNeg) m1))
def sx_paper_pt : sl_PT := fun As μ Q => match As with
  | [.inr (.inr (some (c0, a0))), .inl a1] => if c0 = 11 then (if a0 = 0 then (sx_paper a1 μ (fun r μ' => Q (some (.inl r)) μ')) else False) else False
  | _ => False
def sx_paper_cd : List sl_Ent := [(0, .iload_n 1, 1, 0, [1], [], false), (1, .aload_n 0, 1, 0, [0], [], false), (2, .getfield 67, 3, 0, [11, 8, 2, 6, 54], [], false), (5, .getfield 273, 3, 0, [6, 1, 0, 0, 0], [], false), (8, .invokestatic 97, 3, 0, [0], [], false), (11, .ifCond .eq 15, 3, 0, [26], [], false), (14, .aload_n 0, 1, 0, [0], [], false), (15, .getfield 67, 3, 0, [11, 8, 2, 6, 54], [], false), (18, .getfield 274, 3, 0, [6, 0, 2, 20, 1], [], false), (21, .iload_n 1, 1, 0, [1], [], false), (22, .iaload, 1, 0, [], [], false), (23, .goto 4, 3, 0, [27], [], false), (26, .iconst (-1), 1, (-1), [], [], false), (27, .ireturn, 1, 0, [], [], false)]
def sx_paper_y : MethodName := ⟨"SpanLayers", "paper", "(I)I"⟩
theorem sx_paper_tb : sl_tbOK sl_R11 prog_1_method_35_code 2 (some .int) lk_sx [(97, 1)] sx_paper_cd = true := by decide +kernel
def sx_paper_ct : List sl_Ct := [(2, 1, 0, sx_isBelow_pt)]
theorem sx_paper_hc (g : sl_G) : sl_HC g sl_R11 1 sx_paper_ct [(97, 1)] := sl_HC_cons (cs_sx_97 g (by decide)) (sl_HC_nil g sl_R11 1)
set_option maxRecDepth 20000 in
set_option maxHeartbeats 2000000 in
theorem sx_paper_snd (g : sl_G) : sl_Snd g sx_paper_y prog_1_method_35_code 2 (some .int) 1 (sx_paper_pt) := by
  intro As μ Q hw h
  unfold sx_paper_pt at h
  split at h
  next c0 a0 a1 =>
    split at h
    next e_ =>
      subst e_
      split at h
      next e_ =>
        subst e_
        refine sl_mk2 g [true, true] (cst := [some (.inr (.inr (some (11, 0)))), some (.inl a1)]) (lv0 := [none, none]) (by decide) rfl hw rfl rfl rfl lk_sx_ok (sx_paper_hc g) sx_paper_tb rfl ?_
        intro X M
        exact ⟨_, sl_VV0, h⟩
      next => exact h.elim
    next => exact h.elim
  next => exact h.elim
def sx_told (a1 : Int32) (μ : sl_M) (Q : Int32 → sl_M → Prop) : Prop := (a1 = (0 : Int32) → ix_count μ (fun r2 m1 => Q r2 m1)) ∧ (¬ a1 = (0 : Int32) → (a1 = (1 : Int32) → sx_countOpen μ (fun r4 m3 => Q r4 m3)) ∧ (¬ a1 = (1 : Int32) → (a1 = (2 : Int32) → ix_countLayers μ (fun r6 m5 => Q r6 m5)) ∧ (¬ a1 = (2 : Int32) → (a1 = (3 : Int32) → ix_sumOfWeights μ (fun r8 m7 => Q r8 m7)) ∧ (¬ a1 = (3 : Int32) → (a1 = (4 : Int32) → ix_sumOfLengths μ (fun r10 m9 => Q r10 m9)) ∧ (¬ a1 = (4 : Int32) → (a1 = (5 : Int32) → Q (μ 43 1) μ) ∧ (¬ a1 = (5 : Int32) → (a1 = (6 : Int32) → Q (μ 54 1) μ) ∧ (¬ a1 = (6 : Int32) → (a1 = (7 : Int32) → ix_topPlace (0 : Int32) μ (fun r12 m11 => ix_heightAt r12 (0 : Int32) m11 (fun r14 m13 => Q r14 m13))) ∧ (¬ a1 = (7 : Int32) → (a1 = (8 : Int32) → ix_countHighs μ (fun r16 m15 => Q r16 m15)) ∧ (¬ a1 = (8 : Int32) → Q (-1 : Int32) μ)))))))))
def sx_told_pt : sl_PT := fun As μ Q => match As with
  | [.inr (.inr (some (c0, a0))), .inl a1] => if c0 = 11 then (if a0 = 0 then (sx_told a1 μ (fun r μ' => Q (some (.inl r)) μ')) else False) else False
  | _ => False
def sx_told_cd : List sl_Ent := [(0, .iload_n 1, 1, 0, [1], [], false), (1, .tableswitch 129 0 8 #[51, 59, 64, 72, 80, 88, 96, 104, 121], 51, 0, [130], [(0, 52), (1, 60), (2, 65), (3, 73), (4, 81), (5, 89), (6, 97), (7, 105), (8, 122)], false), (52, .aload_n 0, 1, 0, [0], [], false), (53, .getfield 10, 3, 0, [11, 0, 2, 5, 1], [], false), (56, .invokevirtual 109, 3, 0, [0], [], false), (59, .ireturn, 1, 0, [], [], false), (60, .aload_n 0, 1, 0, [0], [], false), (61, .invokevirtual 164, 3, 0, [1], [], false), (64, .ireturn, 1, 0, [], [], false), (65, .aload_n 0, 1, 0, [0], [], false), (66, .getfield 10, 3, 0, [11, 0, 2, 5, 1], [], false), (69, .invokevirtual 277, 3, 0, [2], [], false), (72, .ireturn, 1, 0, [], [], false), (73, .aload_n 0, 1, 0, [0], [], false), (74, .getfield 10, 3, 0, [11, 0, 2, 5, 1], [], false), (77, .invokevirtual 280, 3, 0, [3], [], false), (80, .ireturn, 1, 0, [], [], false), (81, .aload_n 0, 1, 0, [0], [], false), (82, .getfield 10, 3, 0, [11, 0, 2, 5, 1], [], false), (85, .invokevirtual 283, 3, 0, [4], [], false), (88, .ireturn, 1, 0, [], [], false), (89, .aload_n 0, 1, 0, [0], [], false), (90, .getfield 39, 3, 0, [11, 4, 2, 10, 43], [], false), (93, .getfield 240, 3, 0, [10, 1, 0, 0, 0], [], false), (96, .ireturn, 1, 0, [], [], false), (97, .aload_n 0, 1, 0, [0], [], false), (98, .getfield 67, 3, 0, [11, 8, 2, 6, 54], [], false), (101, .getfield 273, 3, 0, [6, 1, 0, 0, 0], [], false), (104, .ireturn, 1, 0, [], [], false), (105, .aload_n 0, 1, 0, [0], [], false), (106, .getfield 10, 3, 0, [11, 0, 2, 5, 1], [], false), (109, .aload_n 0, 1, 0, [0], [], false), (110, .getfield 10, 3, 0, [11, 0, 2, 5, 1], [], false), (113, .iconst 0, 1, 0, [], [], false), (114, .invokevirtual 210, 3, 0, [5], [], false), (117, .iconst 0, 1, 0, [], [], false), (118, .invokevirtual 207, 3, 0, [6], [], false), (121, .ireturn, 1, 0, [], [], false), (122, .aload_n 0, 1, 0, [0], [], false), (123, .getfield 10, 3, 0, [11, 0, 2, 5, 1], [], false), (126, .invokevirtual 228, 3, 0, [7], [], false), (129, .ireturn, 1, 0, [], [], false), (130, .iconst (-1), 1, (-1), [], [], false), (131, .ireturn, 1, 0, [], [], false)]
def sx_told_y : MethodName := ⟨"SpanLayers", "told", "(I)I"⟩
theorem sx_told_tb : sl_tbOK sl_R11 prog_1_method_36_code 2 (some .int) lk_sx [(109, 0), (164, 0), (277, 0), (280, 0), (283, 0), (210, 0), (207, 0), (228, 0)] sx_told_cd = true := by decide +kernel
theorem ix_countLayers_w2 : Cond.instanceMethod ix_countLayers_y ∈ sl_T0 := sl_in1 952 (by decide +kernel) rfl
theorem ix_countLayers_w3 : Cond.selects ix_countLayers_y.cls ix_countLayers_y ix_countLayers_y ∈ sl_T0 := sl_in1 953 (by decide +kernel) rfl
theorem ix_countLayers_w4 : Cond.initialized ix_countLayers_y.cls ∈ sl_T0 := sl_in1 86 (by decide +kernel) rfl
theorem ix_countLayers_w5 : Cond.code ix_countLayers_y prog_7_method_24_code 3 (some .int) ∈ sl_T0 := sl_in1 954 (by decide +kernel) rfl
theorem ix_countLayers_w6 : ix_countLayers_y.cls ≠ "java/lang/invoke/MethodHandle" ∧ ix_countLayers_y.cls ≠ "java/lang/invoke/VarHandle" ∧ (parseMethodDescriptor ix_countLayers_y.desc).map (fun d => d.parameters.length) = some 0 := by decide +kernel
theorem cs_sx_277 (g : sl_G) {hh : Nat} (h : 2 ≤ hh) : sl_CallS g sl_R11 277 0 5 hh 1 ix_countLayers_pt := sl_callV (y := ix_countLayers_y) (T := sl_F5) (N := 2) (ix_countLayers_snd g) h (by decide) (sl_in1 951 (by decide +kernel) rfl) ix_countLayers_w2 ix_countLayers_w3 ix_countLayers_w4 ix_countLayers_w5 ix_countLayers_w6 rfl (by decide)
theorem ix_sumOfWeights_w2 : Cond.instanceMethod ix_sumOfWeights_y ∈ sl_T0 := sl_in1 956 (by decide +kernel) rfl
theorem ix_sumOfWeights_w3 : Cond.selects ix_sumOfWeights_y.cls ix_sumOfWeights_y ix_sumOfWeights_y ∈ sl_T0 := sl_in1 957 (by decide +kernel) rfl
theorem ix_sumOfWeights_w4 : Cond.initialized ix_sumOfWeights_y.cls ∈ sl_T0 := sl_in1 86 (by decide +kernel) rfl
theorem ix_sumOfWeights_w5 : Cond.code ix_sumOfWeights_y prog_7_method_25_code 3 (some .int) ∈ sl_T0 := sl_in1 958 (by decide +kernel) rfl
theorem ix_sumOfWeights_w6 : ix_sumOfWeights_y.cls ≠ "java/lang/invoke/MethodHandle" ∧ ix_sumOfWeights_y.cls ≠ "java/lang/invoke/VarHandle" ∧ (parseMethodDescriptor ix_sumOfWeights_y.desc).map (fun d => d.parameters.length) = some 0 := by decide +kernel
theorem cs_sx_280 (g : sl_G) {hh : Nat} (h : 1 ≤ hh) : sl_CallS g sl_R11 280 0 5 hh 1 ix_sumOfWeights_pt := sl_callV (y := ix_sumOfWeights_y) (T := sl_F5) (N := 2) (ix_sumOfWeights_snd g) h (by decide) (sl_in1 955 (by decide +kernel) rfl) ix_sumOfWeights_w2 ix_sumOfWeights_w3 ix_sumOfWeights_w4 ix_sumOfWeights_w5 ix_sumOfWeights_w6 rfl (by decide)
theorem ix_sumOfLengths_w2 : Cond.instanceMethod ix_sumOfLengths_y ∈ sl_T0 := sl_in1 960 (by decide +kernel) rfl
theorem ix_sumOfLengths_w3 : Cond.selects ix_sumOfLengths_y.cls ix_sumOfLengths_y ix_sumOfLengths_y ∈ sl_T0 := sl_in1 961 (by decide +kernel) rfl
theorem ix_sumOfLengths_w4 : Cond.initialized ix_sumOfLengths_y.cls ∈ sl_T0 := sl_in1 86 (by decide +kernel) rfl
theorem ix_sumOfLengths_w5 : Cond.code ix_sumOfLengths_y prog_7_method_26_code 3 (some .int) ∈ sl_T0 := sl_in1 962 (by decide +kernel) rfl
theorem ix_sumOfLengths_w6 : ix_sumOfLengths_y.cls ≠ "java/lang/invoke/MethodHandle" ∧ ix_sumOfLengths_y.cls ≠ "java/lang/invoke/VarHandle" ∧ (parseMethodDescriptor ix_sumOfLengths_y.desc).map (fun d => d.parameters.length) = some 0 := by decide +kernel
theorem cs_sx_283 (g : sl_G) {hh : Nat} (h : 2 ≤ hh) : sl_CallS g sl_R11 283 0 5 hh 1 ix_sumOfLengths_pt := sl_callV (y := ix_sumOfLengths_y) (T := sl_F5) (N := 2) (ix_sumOfLengths_snd g) h (by decide) (sl_in1 959 (by decide +kernel) rfl) ix_sumOfLengths_w2 ix_sumOfLengths_w3 ix_sumOfLengths_w4 ix_sumOfLengths_w5 ix_sumOfLengths_w6 rfl (by decide)
def sx_told_ct : List sl_Ct := [(1, 0, 5, ix_count_pt), (1, 0, 11, sx_countOpen_pt), (1, 0, 5, ix_countLayers_pt), (1, 0, 5, ix_sumOfWeights_pt), (1, 0, 5, ix_sumOfLengths_pt), (2, 0, 5, ix_topPlace_pt), (3, 0, 5, ix_heightAt_pt), (1, 0, 5, ix_countHighs_pt)]
theorem sx_told_hc (g : sl_G) : sl_HC g sl_R11 5 sx_told_ct [(109, 0), (164, 0), (277, 0), (280, 0), (283, 0), (210, 0), (207, 0), (228, 0)] := sl_HC_cons (cs_sx_109 g (by decide)) (sl_HC_cons (cs_sx_164 g (by decide)) (sl_HC_cons (cs_sx_277 g (by decide)) (sl_HC_cons (cs_sx_280 g (by decide)) (sl_HC_cons (cs_sx_283 g (by decide)) (sl_HC_cons (cs_sx_210 g (by decide)) (sl_HC_cons (cs_sx_207 g (by decide)) (sl_HC_cons (cs_sx_228 g (by decide)) (sl_HC_nil g sl_R11 5))))))))
set_option maxRecDepth 20000 in
set_option maxHeartbeats 2000000 in
theorem sx_told_snd (g : sl_G) : sl_Snd g sx_told_y prog_1_method_36_code 2 (some .int) 5 (sx_told_pt) := by
  intro As μ Q hw h
  unfold sx_told_pt at h
  split at h
  next c0 a0 a1 =>
    split at h
    next e_ =>
      subst e_
      split at h
      next e_ =>
        subst e_
        refine sl_mk2 g [true, true] (cst := [some (.inr (.inr (some (11, 0)))), some (.inl a1)]) (lv0 := [none, none]) (by decide) rfl hw rfl rfl rfl lk_sx_ok (sx_told_hc g) sx_told_tb rfl ?_
        intro X M
        exact ⟨_, sl_VV0, h⟩
      next => exact h.elim
    next => exact h.elim
  next => exact h.elim
def sx_list (a1 : Int32) (a2 : Int32) (μ : sl_M) (Q : Int32 → sl_M → Prop) : Prop := sx_isBelow a1 (4 : Int32) μ (fun r2 m1 => (r2 = (0 : Int32) → Q (-1 : Int32) m1) ∧ (¬ r2 = (0 : Int32) → (a2 ≤ (40 : Int32) → (a2 < (0 : Int32) → Q (-14 : Int32) m1) ∧ (¬ a2 < (0 : Int32) → vp_in a1 4 ∧ ro_begin (96 + 2 * a1.toNatClampNeg) a2 m1 (fun m3 => Q (1 : Int32) m3))) ∧ (¬ a2 ≤ (40 : Int32) → Q (-2 : Int32) m1)))
def sx_list_pt : sl_PT := fun As μ Q => match As with
  | [.inr (.inr (some (c0, a0))), .inl a1, .inl a2] => if c0 = 11 then (if a0 = 0 then (sx_list a1 a2 μ (fun r μ' => Q (some (.inl r)) μ')) else False) else False
  | _ => False
def sx_list_cd : List sl_Ent := [(0, .iload_n 1, 1, 0, [1], [], false), (1, .iconst 4, 1, 4, [], [], false), (2, .invokestatic 97, 3, 0, [0], [], false), (5, .ifCond .ne 5, 3, 0, [10], [], false), (8, .iconst (-1), 1, (-1), [], [], false), (9, .ireturn, 1, 0, [], [], false), (10, .iload_n 2, 1, 0, [2], [], false), (11, .bipush 40, 2, 40, [], [], false), (13, .if_icmp .le 6, 3, 0, [19], [], false), (16, .bipush (-2), 2, (-2), [], [], false), (18, .ireturn, 1, 0, [], [], false), (19, .iload_n 2, 1, 0, [2], [], false), (20, .ifCond .ge 6, 3, 0, [26], [], false), (23, .bipush (-14), 2, (-14), [], [], false), (25, .ireturn, 1, 0, [], [], false), (26, .aload_n 0, 1, 0, [0], [], false), (27, .getfield 73, 3, 0, [11, 9, 2, 25, 56], [], false), (30, .iload_n 1, 1, 0, [1], [], false), (31, .aaload, 1, 0, [], [], false), (32, .iload_n 2, 1, 0, [2], [], false), (33, .invokevirtual 286, 3, 0, [1], [], false), (36, .iconst 1, 1, 1, [], [], false), (37, .ireturn, 1, 0, [], [], false)]
def sx_list_y : MethodName := ⟨"SpanLayers", "list", "(II)I"⟩
theorem sx_list_tb : sl_tbOK sl_R11 prog_1_method_37_code 3 (some .int) lk_sx [(97, 1), (286, 0)] sx_list_cd = true := by decide +kernel
theorem ro_begin_w2 : Cond.instanceMethod ro_begin_y ∈ sl_T0 := sl_in1 968 (by decide +kernel) rfl
theorem ro_begin_w3 : Cond.selects ro_begin_y.cls ro_begin_y ro_begin_y ∈ sl_T0 := sl_in1 969 (by decide +kernel) rfl
theorem ro_begin_w4 : Cond.initialized ro_begin_y.cls ∈ sl_T0 := sl_in1 96 (by decide +kernel) rfl
theorem ro_begin_w5 : Cond.code ro_begin_y prog_10_method_2_code 3 none ∈ sl_T0 := sl_in1 970 (by decide +kernel) rfl
theorem ro_begin_w6 : ro_begin_y.cls ≠ "java/lang/invoke/MethodHandle" ∧ ro_begin_y.cls ≠ "java/lang/invoke/VarHandle" ∧ (parseMethodDescriptor ro_begin_y.desc).map (fun d => d.parameters.length) = some 1 := by decide +kernel
theorem cs_sx_286 (g : sl_G) {hh : Nat} (h : 1 ≤ hh) : sl_CallS g sl_R11 286 0 8 hh 2 ro_begin_pt := sl_callV (y := ro_begin_y) (T := sl_F8) (N := 3) (ro_begin_snd g) h (by decide) (sl_in1 967 (by decide +kernel) rfl) ro_begin_w2 ro_begin_w3 ro_begin_w4 ro_begin_w5 ro_begin_w6 rfl (by decide)
def sx_list_ct : List sl_Ct := [(2, 1, 0, sx_isBelow_pt), (2, 0, 8, ro_begin_pt)]
theorem sx_list_hc (g : sl_G) : sl_HC g sl_R11 1 sx_list_ct [(97, 1), (286, 0)] := sl_HC_cons (cs_sx_97 g (by decide)) (sl_HC_cons (cs_sx_286 g (by decide)) (sl_HC_nil g sl_R11 1))
set_option maxRecDepth 20000 in
set_option maxHeartbeats 2000000 in
theorem sx_list_snd (g : sl_G) : sl_Snd g sx_list_y prog_1_method_37_code 3 (some .int) 1 (sx_list_pt) := by
  intro As μ Q hw h
  unfold sx_list_pt at h
  split at h
  next c0 a0 a1 a2 =>
    split at h
    next e_ =>
      subst e_
      split at h
      next e_ =>
        subst e_
        refine sl_mk2 g [true, true, true] (cst := [some (.inr (.inr (some (11, 0)))), some (.inl a1), some (.inl a2)]) (lv0 := [none, none, none]) (by decide) rfl hw rfl rfl rfl lk_sx_ok (sx_list_hc g) sx_list_tb rfl ?_
        intro X M
        exact ⟨_, sl_VV0, h⟩
      next => exact h.elim
    next => exact h.elim
  next => exact h.elim
def sx_set (a1 : Int32) (a2 : Int32) (a3 : Int32) (μ : sl_M) (Q : Int32 → sl_M → Prop) : Prop := sx_isBelow a1 (4 : Int32) μ (fun r2 m1 => (r2 = (0 : Int32) → Q (-1 : Int32) m1) ∧ (¬ r2 = (0 : Int32) → vp_in a1 4 ∧ ((sl_bz (m1 (96 + 2 * a1.toNatClampNeg) 1)) = (0 : Int32) → Q (-11 : Int32) m1) ∧ (¬ (sl_bz (m1 (96 + 2 * a1.toNatClampNeg) 1)) = (0 : Int32) → vp_in a1 4 ∧ ro_write (96 + 2 * a1.toNatClampNeg) a2 a3 m1 (fun r4 m3 => (r4 = (0 : Int32) → Q (-13 : Int32) m3) ∧ (¬ r4 = (0 : Int32) → Q (1 : Int32) m3)))))
def sx_set_pt : sl_PT := fun As μ Q => match As with
  | [.inr (.inr (some (c0, a0))), .inl a1, .inl a2, .inl a3] => if c0 = 11 then (if a0 = 0 then (sx_set a1 a2 a3 μ (fun r μ' => Q (some (.inl r)) μ')) else False) else False
  | _ => False
def sx_set_cd : List sl_Ent := [(0, .iload_n 1, 1, 0, [1], [], false), (1, .iconst 4, 1, 4, [], [], false), (2, .invokestatic 97, 3, 0, [0], [], false), (5, .ifCond .ne 5, 3, 0, [10], [], false), (8, .iconst (-1), 1, (-1), [], [], false), (9, .ireturn, 1, 0, [], [], false), (10, .aload_n 0, 1, 0, [0], [], false), (11, .getfield 73, 3, 0, [11, 9, 2, 25, 56], [], false), (14, .iload_n 1, 1, 0, [1], [], false), (15, .aaload, 1, 0, [], [], false), (16, .getfield 287, 3, 0, [8, 1, 1, 0, 0], [], false), (19, .ifCond .ne 6, 3, 0, [25], [], false), (22, .bipush (-11), 2, (-11), [], [], false), (24, .ireturn, 1, 0, [], [], false), (25, .aload_n 0, 1, 0, [0], [], false), (26, .getfield 73, 3, 0, [11, 9, 2, 25, 56], [], false), (29, .iload_n 1, 1, 0, [1], [], false), (30, .aaload, 1, 0, [], [], false), (31, .iload_n 2, 1, 0, [2], [], false), (32, .iload_n 3, 1, 0, [3], [], false), (33, .invokevirtual 290, 3, 0, [1], [], false), (36, .ifCond .eq 7, 3, 0, [43], [], false), (39, .iconst 1, 1, 1, [], [], false), (40, .goto 5, 3, 0, [45], [], false), (43, .bipush (-13), 2, (-13), [], [], false), (45, .ireturn, 1, 0, [], [], false)]
def sx_set_y : MethodName := ⟨"SpanLayers", "set", "(III)I"⟩
theorem sx_set_tb : sl_tbOK sl_R11 prog_1_method_38_code 4 (some .int) lk_sx [(97, 1), (290, 0)] sx_set_cd = true := by decide +kernel
theorem ro_write_w2 : Cond.instanceMethod ro_write_y ∈ sl_T0 := sl_in1 976 (by decide +kernel) rfl
theorem ro_write_w3 : Cond.selects ro_write_y.cls ro_write_y ro_write_y ∈ sl_T0 := sl_in1 977 (by decide +kernel) rfl
theorem ro_write_w4 : Cond.initialized ro_write_y.cls ∈ sl_T0 := sl_in1 96 (by decide +kernel) rfl
theorem ro_write_w5 : Cond.code ro_write_y prog_10_method_4_code 3 (some .boolean) ∈ sl_T0 := sl_in1 978 (by decide +kernel) rfl
theorem ro_write_w6 : ro_write_y.cls ≠ "java/lang/invoke/MethodHandle" ∧ ro_write_y.cls ≠ "java/lang/invoke/VarHandle" ∧ (parseMethodDescriptor ro_write_y.desc).map (fun d => d.parameters.length) = some 2 := by decide +kernel
theorem cs_sx_290 (g : sl_G) {hh : Nat} (h : 3 ≤ hh) : sl_CallS g sl_R11 290 0 8 hh 3 ro_write_pt := sl_callV (y := ro_write_y) (T := sl_F8) (N := 3) (ro_write_snd g) h (by decide) (sl_in1 975 (by decide +kernel) rfl) ro_write_w2 ro_write_w3 ro_write_w4 ro_write_w5 ro_write_w6 rfl (by decide)
def sx_set_ct : List sl_Ct := [(2, 1, 0, sx_isBelow_pt), (3, 0, 8, ro_write_pt)]
theorem sx_set_hc (g : sl_G) : sl_HC g sl_R11 3 sx_set_ct [(97, 1), (290, 0)] := sl_HC_cons (cs_sx_97 g (by decide)) (sl_HC_cons (cs_sx_290 g (by decide)) (sl_HC_nil g sl_R11 3))
set_option maxRecDepth 20000 in
set_option maxHeartbeats 2000000 in
theorem sx_set_snd (g : sl_G) : sl_Snd g sx_set_y prog_1_method_38_code 4 (some .int) 3 (sx_set_pt) := by
  intro As μ Q hw h
  unfold sx_set_pt at h
  split at h
  next c0 a0 a1 a2 a3 =>
    split at h
    next e_ =>
      subst e_
      split at h
      next e_ =>
        subst e_
        refine sl_mk2 g [true, true, true, true] (cst := [some (.inr (.inr (some (11, 0)))), some (.inl a1), some (.inl a2), some (.inl a3)]) (lv0 := [none, none, none, none]) (by decide) rfl hw rfl rfl rfl lk_sx_ok (sx_set_hc g) sx_set_tb rfl ?_
        intro X M
        exact ⟨_, sl_VV0, h⟩
      next => exact h.elim
    next => exact h.elim
  next => exact h.elim
def sx_get (a1 : Int32) (a2 : Int32) (μ : sl_M) (Q : Int32 → sl_M → Prop) : Prop := sx_isBelow a1 (4 : Int32) μ (fun r2 m1 => (r2 = (0 : Int32) → Q (-2000000000 : Int32) m1) ∧ (¬ r2 = (0 : Int32) → vp_in a1 4 ∧ ((sl_bz (m1 (96 + 2 * a1.toNatClampNeg) 1)) = (0 : Int32) → Q (-2000000000 : Int32) m1) ∧ (¬ (sl_bz (m1 (96 + 2 * a1.toNatClampNeg) 1)) = (0 : Int32) → vp_in a1 4 ∧ ro_hasPlace (96 + 2 * a1.toNatClampNeg) a2 m1 (fun r4 m3 => (r4 = (0 : Int32) → Q (-2000000000 : Int32) m3) ∧ (¬ r4 = (0 : Int32) → vp_in a1 4 ∧ vp_in a2 (sl_len ((96 + 2 * a1.toNatClampNeg) + 1)) ∧ Q (m3 ((96 + 2 * a1.toNatClampNeg) + 1) a2.toNatClampNeg) m3)))))
def sx_get_pt : sl_PT := fun As μ Q => match As with
  | [.inr (.inr (some (c0, a0))), .inl a1, .inl a2] => if c0 = 11 then (if a0 = 0 then (sx_get a1 a2 μ (fun r μ' => Q (some (.inl r)) μ')) else False) else False
  | _ => False
def sx_get_cd : List sl_Ent := [(0, .iload_n 1, 1, 0, [1], [], false), (1, .iconst 4, 1, 4, [], [], false), (2, .invokestatic 97, 3, 0, [0], [], false), (5, .ifCond .eq 28, 3, 0, [33], [], false), (8, .aload_n 0, 1, 0, [0], [], false), (9, .getfield 73, 3, 0, [11, 9, 2, 25, 56], [], false), (12, .iload_n 1, 1, 0, [1], [], false), (13, .aaload, 1, 0, [], [], false), (14, .getfield 287, 3, 0, [8, 1, 1, 0, 0], [], false), (17, .ifCond .eq 16, 3, 0, [33], [], false), (20, .aload_n 0, 1, 0, [0], [], false), (21, .getfield 73, 3, 0, [11, 9, 2, 25, 56], [], false), (24, .iload_n 1, 1, 0, [1], [], false), (25, .aaload, 1, 0, [], [], false), (26, .iload_n 2, 1, 0, [2], [], false), (27, .invokevirtual 293, 3, 0, [1], [], false), (30, .ifCond .ne 7, 3, 0, [37], [], false), (33, .ldc_w 296, 3, (-2000000000), [], [], false), (36, .ireturn, 1, 0, [], [], false), (37, .aload_n 0, 1, 0, [0], [], false), (38, .getfield 73, 3, 0, [11, 9, 2, 25, 56], [], false), (41, .iload_n 1, 1, 0, [1], [], false), (42, .aaload, 1, 0, [], [], false), (43, .getfield 297, 3, 0, [8, 0, 2, 20, 1], [], false), (46, .iload_n 2, 1, 0, [2], [], false), (47, .iaload, 1, 0, [], [], false), (48, .ireturn, 1, 0, [], [], false)]
def sx_get_y : MethodName := ⟨"SpanLayers", "get", "(II)I"⟩
theorem sx_get_tb : sl_tbOK sl_R11 prog_1_method_39_code 3 (some .int) lk_sx [(97, 1), (293, 0)] sx_get_cd = true := by decide +kernel
theorem cs_sx_293 (g : sl_G) {hh : Nat} (h : 2 ≤ hh) : sl_CallS g sl_R11 293 0 8 hh 2 ro_hasPlace_pt := sl_callV (y := ro_hasPlace_y) (T := sl_F8) (N := 3) (ro_hasPlace_snd g) h (by decide) (sl_in1 988 (by decide +kernel) rfl) ro_hasPlace_w2 ro_hasPlace_w3 ro_hasPlace_w4 ro_hasPlace_w5 ro_hasPlace_w6 rfl (by decide)
def sx_get_ct : List sl_Ct := [(2, 1, 0, sx_isBelow_pt), (2, 0, 8, ro_hasPlace_pt)]
theorem sx_get_hc (g : sl_G) : sl_HC g sl_R11 2 sx_get_ct [(97, 1), (293, 0)] := sl_HC_cons (cs_sx_97 g (by decide)) (sl_HC_cons (cs_sx_293 g (by decide)) (sl_HC_nil g sl_R11 2))
set_option maxRecDepth 20000 in
set_option maxHeartbeats 2000000 in
theorem sx_get_snd (g : sl_G) : sl_Snd g sx_get_y prog_1_method_39_code 3 (some .int) 2 (sx_get_pt) := by
  intro As μ Q hw h
  unfold sx_get_pt at h
  split at h
  next c0 a0 a1 a2 =>
    split at h
    next e_ =>
      subst e_
      split at h
      next e_ =>
        subst e_
        refine sl_mk2 g [true, true, true] (cst := [some (.inr (.inr (some (11, 0)))), some (.inl a1), some (.inl a2)]) (lv0 := [none, none, none]) (by decide) rfl hw rfl rfl rfl lk_sx_ok (sx_get_hc g) sx_get_tb rfl ?_
        intro X M
        exact ⟨_, sl_VV0, h⟩
      next => exact h.elim
    next => exact h.elim
  next => exact h.elim
def sx_lay_L46 (a1 : Int32) (a2 : Int32) (a3 : Int32) (Q : Int32 → sl_M → Prop) : Nat → Int32 → Int32 → sl_M → Prop
  | 0, _, _, _ => False
  | n + 1, x4, x5, μ => (x5 < x4 → vp_in a1 4 ∧ vp_in x5 30 ∧ sl_kd (μ 3 x5.toNatClampNeg).toNatClampNeg = 9 ∧ ro_write (96 + 2 * a1.toNatClampNeg) (a2 + x5) (μ ((μ 3 x5.toNatClampNeg).toNatClampNeg) 0) μ (fun r2 m1 => (r2 = (0 : Int32) → Q (-13 : Int32) m1) ∧ (¬ r2 = (0 : Int32) → (sx_lay_L46 a1 a2 a3 Q n) x4 (x5 + (1 : Int32)) m1))) ∧ (¬ x5 < x4 → Q x4 μ)
def sx_lay (a1 : Int32) (a2 : Int32) (a3 : Int32) (μ : sl_M) (Q : Int32 → sl_M → Prop) : Prop := sx_isBelow a1 (4 : Int32) μ (fun r4 m3 => (r4 = (0 : Int32) → Q (-1 : Int32) m3) ∧ (¬ r4 = (0 : Int32) → sx_isBelow a3 (5 : Int32) m3 (fun r6 m5 => (r6 = (0 : Int32) → Q (-1 : Int32) m5) ∧ (¬ r6 = (0 : Int32) → vp_in a1 4 ∧ ((sl_bz (m5 (96 + 2 * a1.toNatClampNeg) 1)) = (0 : Int32) → Q (-11 : Int32) m5) ∧ (¬ (sl_bz (m5 (96 + 2 * a1.toNatClampNeg) 1)) = (0 : Int32) → ix_sortBy a3 m5 (fun r8 m7 => ∃ n9, sx_lay_L46 a1 a2 a3 Q n9 r8 (0 : Int32) m7))))))
def sx_lay_pt : sl_PT := fun As μ Q => match As with
  | [.inr (.inr (some (c0, a0))), .inl a1, .inl a2, .inl a3] => if c0 = 11 then (if a0 = 0 then (sx_lay a1 a2 a3 μ (fun r μ' => Q (some (.inl r)) μ')) else False) else False
  | _ => False
def sx_lay_cd : List sl_Ent := [(0, .iload_n 1, 1, 0, [1], [], false), (1, .iconst 4, 1, 4, [], [], false), (2, .invokestatic 97, 3, 0, [0], [], false), (5, .ifCond .eq 11, 3, 0, [16], [], false), (8, .iload_n 3, 1, 0, [3], [], false), (9, .iconst 5, 1, 5, [], [], false), (10, .invokestatic 97, 3, 0, [0], [], false), (13, .ifCond .ne 5, 3, 0, [18], [], false), (16, .iconst (-1), 1, (-1), [], [], false), (17, .ireturn, 1, 0, [], [], false), (18, .aload_n 0, 1, 0, [0], [], false), (19, .getfield 73, 3, 0, [11, 9, 2, 25, 56], [], false), (22, .iload_n 1, 1, 0, [1], [], false), (23, .aaload, 1, 0, [], [], false), (24, .getfield 287, 3, 0, [8, 1, 1, 0, 0], [], false), (27, .ifCond .ne 6, 3, 0, [33], [], false), (30, .bipush (-11), 2, (-11), [], [], false), (32, .ireturn, 1, 0, [], [], false), (33, .aload_n 0, 1, 0, [0], [], false), (34, .getfield 10, 3, 0, [11, 0, 2, 5, 1], [], false), (37, .iload_n 3, 1, 0, [3], [], false), (38, .invokevirtual 144, 3, 0, [1], [], false), (41, .istore 4, 2, 0, [4], [], false), (43, .iconst 0, 1, 0, [], [], false), (44, .istore 5, 2, 0, [5], [], false), (46, .iload 5, 2, 0, [5], [], true), (48, .iload 4, 2, 0, [4], [], false), (50, .if_icmp .ge 41, 3, 0, [91], [], false), (53, .aload_n 0, 1, 0, [0], [], false), (54, .getfield 73, 3, 0, [11, 9, 2, 25, 56], [], false), (57, .iload_n 1, 1, 0, [1], [], false), (58, .aaload, 1, 0, [], [], false), (59, .iload_n 2, 1, 0, [2], [], false), (60, .iload 5, 2, 0, [5], [], false), (62, .iadd, 1, 0, [], [], false), (63, .aload_n 0, 1, 0, [0], [], false), (64, .getfield 10, 3, 0, [11, 0, 2, 5, 1], [], false), (67, .getfield 147, 3, 0, [5, 1, 2, 23, 2], [], false), (70, .iload 5, 2, 0, [5], [], false), (72, .aaload, 1, 0, [], [], false), (73, .getfield 150, 3, 0, [9, 0, 0, 0, 0], [], false), (76, .invokevirtual 290, 3, 0, [2], [], false), (79, .ifCond .ne 6, 3, 0, [85], [], false), (82, .bipush (-13), 2, (-13), [], [], false), (84, .ireturn, 1, 0, [], [], false), (85, .iinc 5 1, 3, 1, [], [], false), (88, .goto (-42), 3, 0, [46], [], false), (91, .iload 4, 2, 0, [4], [], false), (93, .ireturn, 1, 0, [], [], false)]
def sx_lay_y : MethodName := ⟨"SpanLayers", "lay", "(III)I"⟩
theorem sx_lay_tb : sl_tbOK sl_R11 prog_1_method_40_code 6 (some .int) lk_sx [(97, 1), (144, 0), (290, 0)] sx_lay_cd = true := by decide +kernel
def sx_lay_ct : List sl_Ct := [(2, 1, 0, sx_isBelow_pt), (2, 0, 5, ix_sortBy_pt), (3, 0, 8, ro_write_pt)]
theorem sx_lay_hc (g : sl_G) : sl_HC g sl_R11 4 sx_lay_ct [(97, 1), (144, 0), (290, 0)] := sl_HC_cons (cs_sx_97 g (by decide)) (sl_HC_cons (cs_sx_144 g (by decide)) (sl_HC_cons (cs_sx_290 g (by decide)) (sl_HC_nil g sl_R11 4)))
set_option maxRecDepth 20000 in
set_option maxHeartbeats 2000000 in
theorem sx_lay_snd (g : sl_G) : sl_Snd g sx_lay_y prog_1_method_40_code 6 (some .int) 4 (sx_lay_pt) := by
  intro As μ Q hw h
  unfold sx_lay_pt at h
  split at h
  next c0 a0 a1 a2 a3 =>
    split at h
    next e_ =>
      subst e_
      split at h
      next e_ =>
        subst e_
        refine sl_mk2 g [true, true, true, true, false, false] (cst := [some (.inr (.inr (some (11, 0)))), some (.inl a1), some (.inl a2), some (.inl a3)]) (lv0 := [none, none, none, none, none, none]) (by decide) rfl hw rfl rfl rfl lk_sx_ok (sx_lay_hc g) sx_lay_tb rfl ?_
        intro X M
        have v46 := sl_extL M sl_VV0 46 (fun n lv st μ => match lv, st with | [_, _, _, _, some (.inl x4), some (.inl x5)], [] => sx_lay_L46 a1 a2 a3 (fun r μ' => Q (some (.inl r)) μ') n x4 x5 μ | _, _ => False) (by
            intro lv st μ h
            split at h
            · exact h
            · exact h) (by
            intro n46 w46
            refine ⟨_, w46, ?_⟩
            intro lv st μ h
            split at h
            · exact h
            · exact h.elim)
        exact ⟨_, v46, h⟩
      next => exact h.elim
    next => exact h.elim
  next => exact h.elim
def sx_judge_L46 (a1 : Int32) (a2 : Int32) (a3 : Int32) (Q : Int32 → sl_M → Prop) : Nat → Int32 → Int32 → sl_M → Prop
  | 0, _, _, _ => False
  | n + 1, x4, x5, μ => (x5 < x4 → vp_in a1 4 ∧ ro_hasPlace (96 + 2 * a1.toNatClampNeg) (a2 + x5) μ (fun r2 m1 => (r2 = (0 : Int32) → Q ((100 : Int32) + x5) m1) ∧ (¬ r2 = (0 : Int32) → vp_in a1 4 ∧ vp_in (a2 + x5) (sl_len ((96 + 2 * a1.toNatClampNeg) + 1)) ∧ vp_in x5 30 ∧ sl_kd (m1 3 x5.toNatClampNeg).toNatClampNeg = 9 ∧ ((m1 ((96 + 2 * a1.toNatClampNeg) + 1) (a2 + x5).toNatClampNeg) = (m1 ((m1 3 x5.toNatClampNeg).toNatClampNeg) 0) → (sx_judge_L46 a1 a2 a3 Q n) x4 (x5 + (1 : Int32)) m1) ∧ (¬ (m1 ((96 + 2 * a1.toNatClampNeg) + 1) (a2 + x5).toNatClampNeg) = (m1 ((m1 3 x5.toNatClampNeg).toNatClampNeg) 0) → Q x5 m1)))) ∧ (¬ x5 < x4 → Q (-5 : Int32) μ)
def sx_judge (a1 : Int32) (a2 : Int32) (a3 : Int32) (μ : sl_M) (Q : Int32 → sl_M → Prop) : Prop := sx_isBelow a1 (4 : Int32) μ (fun r4 m3 => (r4 = (0 : Int32) → Q (-1 : Int32) m3) ∧ (¬ r4 = (0 : Int32) → sx_isBelow a3 (5 : Int32) m3 (fun r6 m5 => (r6 = (0 : Int32) → Q (-1 : Int32) m5) ∧ (¬ r6 = (0 : Int32) → vp_in a1 4 ∧ ((sl_bz (m5 (96 + 2 * a1.toNatClampNeg) 1)) = (0 : Int32) → Q (-11 : Int32) m5) ∧ (¬ (sl_bz (m5 (96 + 2 * a1.toNatClampNeg) 1)) = (0 : Int32) → ix_sortBy a3 m5 (fun r8 m7 => ∃ n9, sx_judge_L46 a1 a2 a3 Q n9 r8 (0 : Int32) m7))))))
def sx_judge_pt : sl_PT := fun As μ Q => match As with
  | [.inr (.inr (some (c0, a0))), .inl a1, .inl a2, .inl a3] => if c0 = 11 then (if a0 = 0 then (sx_judge a1 a2 a3 μ (fun r μ' => Q (some (.inl r)) μ')) else False) else False
  | _ => False
def sx_judge_cd : List sl_Ent := [(0, .iload_n 1, 1, 0, [1], [], false), (1, .iconst 4, 1, 4, [], [], false), (2, .invokestatic 97, 3, 0, [0], [], false), (5, .ifCond .eq 11, 3, 0, [16], [], false), (8, .iload_n 3, 1, 0, [3], [], false), (9, .iconst 5, 1, 5, [], [], false), (10, .invokestatic 97, 3, 0, [0], [], false), (13, .ifCond .ne 5, 3, 0, [18], [], false), (16, .iconst (-1), 1, (-1), [], [], false), (17, .ireturn, 1, 0, [], [], false), (18, .aload_n 0, 1, 0, [0], [], false), (19, .getfield 73, 3, 0, [11, 9, 2, 25, 56], [], false), (22, .iload_n 1, 1, 0, [1], [], false), (23, .aaload, 1, 0, [], [], false), (24, .getfield 287, 3, 0, [8, 1, 1, 0, 0], [], false), (27, .ifCond .ne 6, 3, 0, [33], [], false), (30, .bipush (-11), 2, (-11), [], [], false), (32, .ireturn, 1, 0, [], [], false), (33, .aload_n 0, 1, 0, [0], [], false), (34, .getfield 10, 3, 0, [11, 0, 2, 5, 1], [], false), (37, .iload_n 3, 1, 0, [3], [], false), (38, .invokevirtual 144, 3, 0, [1], [], false), (41, .istore 4, 2, 0, [4], [], false), (43, .iconst 0, 1, 0, [], [], false), (44, .istore 5, 2, 0, [5], [], false), (46, .iload 5, 2, 0, [5], [], true), (48, .iload 4, 2, 0, [4], [], false), (50, .if_icmp .ge 64, 3, 0, [114], [], false), (53, .aload_n 0, 1, 0, [0], [], false), (54, .getfield 73, 3, 0, [11, 9, 2, 25, 56], [], false), (57, .iload_n 1, 1, 0, [1], [], false), (58, .aaload, 1, 0, [], [], false), (59, .iload_n 2, 1, 0, [2], [], false), (60, .iload 5, 2, 0, [5], [], false), (62, .iadd, 1, 0, [], [], false), (63, .invokevirtual 293, 3, 0, [2], [], false), (66, .ifCond .ne 9, 3, 0, [75], [], false), (69, .bipush 100, 2, 100, [], [], false), (71, .iload 5, 2, 0, [5], [], false), (73, .iadd, 1, 0, [], [], false), (74, .ireturn, 1, 0, [], [], false), (75, .aload_n 0, 1, 0, [0], [], false), (76, .getfield 73, 3, 0, [11, 9, 2, 25, 56], [], false), (79, .iload_n 1, 1, 0, [1], [], false), (80, .aaload, 1, 0, [], [], false), (81, .getfield 297, 3, 0, [8, 0, 2, 20, 1], [], false), (84, .iload_n 2, 1, 0, [2], [], false), (85, .iload 5, 2, 0, [5], [], false), (87, .iadd, 1, 0, [], [], false), (88, .iaload, 1, 0, [], [], false), (89, .aload_n 0, 1, 0, [0], [], false), (90, .getfield 10, 3, 0, [11, 0, 2, 5, 1], [], false), (93, .getfield 147, 3, 0, [5, 1, 2, 23, 2], [], false), (96, .iload 5, 2, 0, [5], [], false), (98, .aaload, 1, 0, [], [], false), (99, .getfield 150, 3, 0, [9, 0, 0, 0, 0], [], false), (102, .if_icmp .eq 6, 3, 0, [108], [], false), (105, .iload 5, 2, 0, [5], [], false), (107, .ireturn, 1, 0, [], [], false), (108, .iinc 5 1, 3, 1, [], [], false), (111, .goto (-65), 3, 0, [46], [], false), (114, .bipush (-5), 2, (-5), [], [], false), (116, .ireturn, 1, 0, [], [], false)]
def sx_judge_y : MethodName := ⟨"SpanLayers", "judge", "(III)I"⟩
theorem sx_judge_tb : sl_tbOK sl_R11 prog_1_method_41_code 6 (some .int) lk_sx [(97, 1), (144, 0), (293, 0)] sx_judge_cd = true := by decide +kernel
def sx_judge_ct : List sl_Ct := [(2, 1, 0, sx_isBelow_pt), (2, 0, 5, ix_sortBy_pt), (2, 0, 8, ro_hasPlace_pt)]
theorem sx_judge_hc (g : sl_G) : sl_HC g sl_R11 4 sx_judge_ct [(97, 1), (144, 0), (293, 0)] := sl_HC_cons (cs_sx_97 g (by decide)) (sl_HC_cons (cs_sx_144 g (by decide)) (sl_HC_cons (cs_sx_293 g (by decide)) (sl_HC_nil g sl_R11 4)))
set_option maxRecDepth 20000 in
set_option maxHeartbeats 2000000 in
theorem sx_judge_snd (g : sl_G) : sl_Snd g sx_judge_y prog_1_method_41_code 6 (some .int) 4 (sx_judge_pt) := by
  intro As μ Q hw h
  unfold sx_judge_pt at h
  split at h
  next c0 a0 a1 a2 a3 =>
    split at h
    next e_ =>
      subst e_
      split at h
      next e_ =>
        subst e_
        refine sl_mk2 g [true, true, true, true, false, false] (cst := [some (.inr (.inr (some (11, 0)))), some (.inl a1), some (.inl a2), some (.inl a3)]) (lv0 := [none, none, none, none, none, none]) (by decide) rfl hw rfl rfl rfl lk_sx_ok (sx_judge_hc g) sx_judge_tb rfl ?_
        intro X M
        have v46 := sl_extL M sl_VV0 46 (fun n lv st μ => match lv, st with | [_, _, _, _, some (.inl x4), some (.inl x5)], [] => sx_judge_L46 a1 a2 a3 (fun r μ' => Q (some (.inl r)) μ') n x4 x5 μ | _, _ => False) (by
            intro lv st μ h
            split at h
            · exact h
            · exact h) (by
            intro n46 w46
            refine ⟨_, w46, ?_⟩
            intro lv st μ h
            split at h
            · exact h
            · exact h.elim)
        exact ⟨_, v46, h⟩
      next => exact h.elim
    next => exact h.elim
  next => exact h.elim
def sx_image (μ : sl_M) (Q : Int32 → sl_M → Prop) : Prop := ix_copyFrom_k μ (fun m1 => sl_bz (1 : Int32) = (1 : Int32) ∧ ∀ m2, m2 = sl_up m1 0 11 (1 : Int32) → ix_count_k m2 (fun r4 m3 => Q r4 m3))
def sx_image_pt : sl_PT := fun As μ Q => match As with
  | [.inr (.inr (some (c0, a0)))] => if c0 = 11 then (if a0 = 0 then (sx_image μ (fun r μ' => Q (some (.inl r)) μ')) else False) else False
  | _ => False
def sx_image_cd : List sl_Ent := [(0, .aload_n 0, 1, 0, [0], [], false), (1, .getfield 77, 3, 0, [11, 10, 2, 5, 57], [], false), (4, .aload_n 0, 1, 0, [0], [], false), (5, .getfield 10, 3, 0, [11, 0, 2, 5, 1], [], false), (8, .invokevirtual 300, 3, 0, [0], [], false), (11, .aload_n 0, 1, 0, [0], [], false), (12, .iconst 1, 1, 1, [], [], false), (13, .putfield 303, 3, 0, [11, 11, 1], [], false), (16, .aload_n 0, 1, 0, [0], [], false), (17, .getfield 77, 3, 0, [11, 10, 2, 5, 57], [], false), (20, .invokevirtual 109, 3, 0, [1], [], false), (23, .ireturn, 1, 0, [], [], false)]
def sx_image_y : MethodName := ⟨"SpanLayers", "image", "()I"⟩
theorem sx_image_tb : sl_tbOK sl_R11 prog_1_method_42_code 1 (some .int) lk_sx [(300, 0), (109, 0)] sx_image_cd = true := by decide +kernel
theorem ix_copyFrom_w2 : Cond.instanceMethod ix_copyFrom_y ∈ sl_T0 := sl_in1 1003 (by decide +kernel) rfl
theorem ix_copyFrom_w3 : Cond.selects ix_copyFrom_y.cls ix_copyFrom_y ix_copyFrom_y ∈ sl_T0 := sl_in1 1004 (by decide +kernel) rfl
theorem ix_copyFrom_w4 : Cond.initialized ix_copyFrom_y.cls ∈ sl_T0 := sl_in1 86 (by decide +kernel) rfl
theorem ix_copyFrom_w5 : Cond.code ix_copyFrom_y prog_7_method_2_code 3 none ∈ sl_T0 := sl_in1 1005 (by decide +kernel) rfl
theorem ix_copyFrom_w6 : ix_copyFrom_y.cls ≠ "java/lang/invoke/MethodHandle" ∧ ix_copyFrom_y.cls ≠ "java/lang/invoke/VarHandle" ∧ (parseMethodDescriptor ix_copyFrom_y.desc).map (fun d => d.parameters.length) = some 1 := by decide +kernel
theorem cs_sx_300 (g : sl_G) {hh : Nat} (h : 2 ≤ hh) : sl_CallS g sl_R11 300 0 5 hh 2 ix_copyFrom_pt := sl_callV (y := ix_copyFrom_y) (T := sl_F5) (N := 2) (ix_copyFrom_snd g) h (by decide) (sl_in1 1002 (by decide +kernel) rfl) ix_copyFrom_w2 ix_copyFrom_w3 ix_copyFrom_w4 ix_copyFrom_w5 ix_copyFrom_w6 rfl (by decide)
def sx_image_ct : List sl_Ct := [(2, 0, 5, ix_copyFrom_pt), (1, 0, 5, ix_count_pt)]
theorem sx_image_hc (g : sl_G) : sl_HC g sl_R11 2 sx_image_ct [(300, 0), (109, 0)] := sl_HC_cons (cs_sx_300 g (by decide)) (sl_HC_cons (cs_sx_109 g (by decide)) (sl_HC_nil g sl_R11 2))
set_option maxRecDepth 20000 in
set_option maxHeartbeats 2000000 in
theorem sx_image_snd (g : sl_G) : sl_Snd g sx_image_y prog_1_method_42_code 1 (some .int) 2 (sx_image_pt) := by
  intro As μ Q hw h
  unfold sx_image_pt at h
  split at h
  next c0 a0 =>
    split at h
    next e_ =>
      subst e_
      split at h
      next e_ =>
        subst e_
        refine sl_mk2 g [true] (cst := [some (.inr (.inr (some (11, 0))))]) (lv0 := [none]) (by decide) rfl hw rfl rfl rfl lk_sx_ok (sx_image_hc g) sx_image_tb rfl ?_
        intro X M
        exact ⟨_, sl_VV0, h⟩
      next => exact h.elim
    next => exact h.elim
  next => exact h.elim
def sx_undo_L23 (Q : Int32 → sl_M → Prop) : Nat → Int32 → sl_M → Prop
  | 0, _, _ => False
  | n + 1, x1, μ => (x1 < (3 : Int32) → vp_in x1 3 ∧ sl_bz (0 : Int32) = (0 : Int32) ∧ ∀ m1, m1 = sl_up μ (90 + 2 * x1.toNatClampNeg) 0 (0 : Int32) → (sx_undo_L23 Q n) (x1 + (1 : Int32)) m1) ∧ (¬ x1 < (3 : Int32) → ix_count μ (fun r3 m2 => Q r3 m2))
def sx_undo (μ : sl_M) (Q : Int32 → sl_M → Prop) : Prop := ((sl_bz (μ 0 11)) = (0 : Int32) → Q (-3 : Int32) μ) ∧ (¬ (sl_bz (μ 0 11)) = (0 : Int32) → ix_copyFrom_u μ (fun m4 => ∃ n5, sx_undo_L23 Q n5 (0 : Int32) m4))
def sx_undo_pt : sl_PT := fun As μ Q => match As with
  | [.inr (.inr (some (c0, a0)))] => if c0 = 11 then (if a0 = 0 then (sx_undo μ (fun r μ' => Q (some (.inl r)) μ')) else False) else False
  | _ => False
def sx_undo_cd : List sl_Ent := [(0, .aload_n 0, 1, 0, [0], [], false), (1, .getfield 303, 3, 0, [11, 11, 1, 0, 0], [], false), (4, .ifCond .ne 6, 3, 0, [10], [], false), (7, .bipush (-3), 2, (-3), [], [], false), (9, .ireturn, 1, 0, [], [], false), (10, .aload_n 0, 1, 0, [0], [], false), (11, .getfield 10, 3, 0, [11, 0, 2, 5, 1], [], false), (14, .aload_n 0, 1, 0, [0], [], false), (15, .getfield 77, 3, 0, [11, 10, 2, 5, 57], [], false), (18, .invokevirtual 300, 3, 0, [0], [], false), (21, .iconst 0, 1, 0, [], [], false), (22, .istore_n 1, 1, 0, [1], [], false), (23, .iload_n 1, 1, 0, [1], [], true), (24, .iconst 3, 1, 3, [], [], false), (25, .if_icmp .ge 19, 3, 0, [44], [], false), (28, .aload_n 0, 1, 0, [0], [], false), (29, .getfield 32, 3, 0, [11, 3, 2, 24, 42], [], false), (32, .iload_n 1, 1, 0, [1], [], false), (33, .aaload, 1, 0, [], [], false), (34, .iconst 0, 1, 0, [], [], false), (35, .putfield 167, 3, 0, [4, 0, 1], [], false), (38, .iinc 1 1, 3, 1, [], [], false), (41, .goto (-18), 3, 0, [23], [], false), (44, .aload_n 0, 1, 0, [0], [], false), (45, .getfield 10, 3, 0, [11, 0, 2, 5, 1], [], false), (48, .invokevirtual 109, 3, 0, [1], [], false), (51, .ireturn, 1, 0, [], [], false)]
def sx_undo_y : MethodName := ⟨"SpanLayers", "undo", "()I"⟩
theorem sx_undo_tb : sl_tbOK sl_R11 prog_1_method_43_code 2 (some .int) lk_sx [(300, 0), (109, 0)] sx_undo_cd = true := by decide +kernel
def sx_undo_ct : List sl_Ct := [(2, 0, 5, ix_copyFrom_pt), (1, 0, 5, ix_count_pt)]
theorem sx_undo_hc (g : sl_G) : sl_HC g sl_R11 2 sx_undo_ct [(300, 0), (109, 0)] := sl_HC_cons (cs_sx_300 g (by decide)) (sl_HC_cons (cs_sx_109 g (by decide)) (sl_HC_nil g sl_R11 2))
set_option maxRecDepth 20000 in
set_option maxHeartbeats 2000000 in
theorem sx_undo_snd (g : sl_G) : sl_Snd g sx_undo_y prog_1_method_43_code 2 (some .int) 2 (sx_undo_pt) := by
  intro As μ Q hw h
  unfold sx_undo_pt at h
  split at h
  next c0 a0 =>
    split at h
    next e_ =>
      subst e_
      split at h
      next e_ =>
        subst e_
        refine sl_mk2 g [true, false] (cst := [some (.inr (.inr (some (11, 0))))]) (lv0 := [none, none]) (by decide) rfl hw rfl rfl rfl lk_sx_ok (sx_undo_hc g) sx_undo_tb rfl ?_
        intro X M
        have v23 := sl_extL M sl_VV0 23 (fun n lv st μ => match lv, st with | [_, some (.inl x1)], [] => sx_undo_L23 (fun r μ' => Q (some (.inl r)) μ') n x1 μ | _, _ => False) (by
            intro lv st μ h
            split at h
            · exact h
            · exact h) (by
            intro n23 w23
            refine ⟨_, w23, ?_⟩
            intro lv st μ h
            split at h
            · exact h
            · exact h.elim)
        exact ⟨_, v23, h⟩
      next => exact h.elim
    next => exact h.elim
  next => exact h.elim
