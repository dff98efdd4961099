def mo_onesOf_L4 (a1 : Int32) (Q : Int32 → sl_M → Prop) : Nat → Int32 → Int32 → sl_M → Prop
  | 0, _, _, _ => False
  | n + 1, x2, x3, μ => (x3 = (0 : Int32) → Q x2 μ) ∧ (¬ x3 = (0 : Int32) → ∀ v1, v1 = (x3 &&& (x3 - (1 : Int32))) → (mo_onesOf_L4 a1 Q n) (x2 + (1 : Int32)) v1 μ)
def mo_onesOf (a1 : Int32) (μ : sl_M) (Q : Int32 → sl_M → Prop) : Prop := ∃ n2, mo_onesOf_L4 a1 Q n2 (0 : Int32) a1 μ
def mo_onesOf_pt : sl_PT := fun As μ Q => match As with
  | [.inr (.inr (some (c0, a0))), .inl a1] => if c0 = 12 then (if a0 = 104 then (mo_onesOf a1 μ (fun r μ' => Q (some (.inl r)) μ')) else False) else False
  | _ => False
def mo_onesOf_cd : List sl_Ent := [(0, .iconst 0, 1, 0, [], [], false), (1, .istore_n 2, 1, 0, [2], [], false), (2, .iload_n 1, 1, 0, [1], [], false), (3, .istore_n 3, 1, 0, [3], [], false), (4, .iload_n 3, 1, 0, [3], [], true), (5, .ifCond .eq 15, 3, 0, [20], [], false), (8, .iinc 2 1, 3, 1, [], [], false), (11, .iload_n 3, 1, 0, [3], [], false), (12, .iload_n 3, 1, 0, [3], [], false), (13, .iconst 1, 1, 1, [], [], false), (14, .isub, 1, 0, [], [], false), (15, .iand, 1, 0, [], [], false), (16, .istore_n 3, 1, 0, [3, 1], [], false), (17, .goto (-13), 3, 0, [4], [], false), (20, .iload_n 2, 1, 0, [2], [], false), (21, .ireturn, 1, 0, [], [], false)]
def mo_onesOf_y : MethodName := ⟨"SpanLayersModel", "onesOf", "(I)I"⟩
theorem mo_onesOf_tb : sl_tbOK sl_R12 prog_14_method_53_code 4 (some .int) lk_mo [] mo_onesOf_cd = true := by decide +kernel
def mo_onesOf_ct : List sl_Ct := []
theorem mo_onesOf_hc (g : sl_G) : sl_HC g sl_R12 0 mo_onesOf_ct [] := sl_HC_nil g sl_R12 0
set_option maxRecDepth 20000 in
set_option maxHeartbeats 2000000 in
theorem mo_onesOf_snd (g : sl_G) : sl_Snd g mo_onesOf_y prog_14_method_53_code 4 (some .int) 0 (mo_onesOf_pt) := by
  intro As μ Q hw h
  unfold mo_onesOf_pt at h
  split at h
  next c0 a0 a1 =>
    split at h
    next e_ =>
      subst e_
      split at h
      next e_ =>
        subst e_
        refine sl_mk2 g [true, true, false, false] (cst := [some (.inr (.inr (some (12, 104)))), some (.inl a1)]) (lv0 := [none, none, none, none]) (by decide) rfl hw rfl rfl rfl lk_mo_ok (mo_onesOf_hc g) mo_onesOf_tb rfl ?_
        intro X M
        have v4 := sl_extL M sl_VV0 4 (fun n lv st μ => match lv, st with | [_, _, some (.inl x2), some (.inl x3)], [] => mo_onesOf_L4 a1 (fun r μ' => Q (some (.inl r)) μ') n x2 x3 μ | _, _ => False) (by
            intro lv st μ h
            split at h
            · exact h
            · exact h) (by
            intro n4 w4
            refine ⟨_, w4, ?_⟩
            intro lv st μ h
            split at h
            · exact h
            · exact h.elim)
        exact ⟨_, v4, h⟩
      next => exact h.elim
    next => exact h.elim
  next => exact h.elim
def mo_piece (a1 : Int32) (a2 : Int32) (μ : sl_M) (Q : Int32 → sl_M → Prop) : Prop := ∀ m1, m1 = sl_up μ 104 5 (0 : Int32) → mo_layRuns (1 : Int32) m1 (fun m2 => mo_in a1.toInt64 ((0 : Int32).toInt64) (((m2 104 13) - (1 : Int32)).toInt64) m2 (fun r4 m3 => (r4 = (0 : Int32) → Q (-1 : Int32) m3) ∧ (¬ r4 = (0 : Int32) → mo_in a2.toInt64 ((0 : Int32).toInt64) ((2 : Int32).toInt64) m3 (fun r6 m5 => (r6 = (0 : Int32) → Q (-1 : Int32) m5) ∧ (¬ r6 = (0 : Int32) → (a2 = (0 : Int32) → vp_in a1 31 ∧ Q (m5 117 a1.toNatClampNeg) m5) ∧ (¬ a2 = (0 : Int32) → (a2 = (1 : Int32) → vp_in a1 31 ∧ Q (m5 118 a1.toNatClampNeg) m5) ∧ (¬ a2 = (1 : Int32) → vp_in a1 31 ∧ vp_in a1 31 ∧ mo_metBits (m5 117 a1.toNatClampNeg) (m5 118 a1.toNatClampNeg) m5 (fun r8 m7 => mo_onesOf r8 m7 (fun r10 m9 => Q r10 m9)))))))))
def mo_piece_pt : sl_PT := fun As μ Q => match As with
  | [.inr (.inr (some (c0, a0))), .inl a1, .inl a2] => if c0 = 12 then (if a0 = 104 then (mo_piece a1 a2 μ (fun r μ' => Q (some (.inl r)) μ')) else False) else False
  | _ => False
def mo_piece_cd : List sl_Ent := [(0, .aload_n 0, 1, 0, [0], [], false), (1, .iconst 0, 1, 0, [], [], false), (2, .putfield 113, 3, 0, [12, 5, 0], [], false), (5, .aload_n 0, 1, 0, [0], [], false), (6, .iconst 1, 1, 1, [], [], false), (7, .invokevirtual 238, 3, 0, [0], [], false), (10, .iload_n 1, 1, 0, [1], [], false), (11, .i2l, 1, 0, [], [], false), (12, .lconst 0, 1, 0, [], [], false), (13, .aload_n 0, 1, 0, [0], [], false), (14, .getfield 229, 3, 0, [12, 13, 0, 0, 0], [], false), (17, .iconst 1, 1, 1, [], [], false), (18, .isub, 1, 0, [], [], false), (19, .i2l, 1, 0, [], [], false), (20, .invokestatic 119, 3, 0, [1], [], false), (23, .ifCond .eq 15, 3, 0, [38], [], false), (26, .iload_n 2, 1, 0, [2], [], false), (27, .i2l, 1, 0, [], [], false), (28, .lconst 0, 1, 0, [], [], false), (29, .ldc2_w 218, 3, 2, [], [], false), (32, .invokestatic 119, 3, 0, [1], [], false), (35, .ifCond .ne 5, 3, 0, [40], [], false), (38, .iconst (-1), 1, (-1), [], [], false), (39, .ireturn, 1, 0, [], [], false), (40, .iload_n 2, 1, 0, [2], [], false), (41, .ifCond .ne 12, 3, 0, [53], [], false), (44, .aload_n 0, 1, 0, [0], [], false), (45, .getfield 46, 3, 0, [12, 14, 2, 20, 13], [], false), (48, .iload_n 1, 1, 0, [1], [], false), (49, .iaload, 1, 0, [], [], false), (50, .goto 37, 3, 0, [87], [], false), (53, .iload_n 2, 1, 0, [2], [], false), (54, .iconst 1, 1, 1, [], [], false), (55, .if_icmp .ne 12, 3, 0, [67], [], false), (58, .aload_n 0, 1, 0, [0], [], false), (59, .getfield 49, 3, 0, [12, 15, 2, 20, 14], [], false), (62, .iload_n 1, 1, 0, [1], [], false), (63, .iaload, 1, 0, [], [], false), (64, .goto 23, 3, 0, [87], [], false), (67, .aload_n 0, 1, 0, [0], [], false), (68, .aload_n 0, 1, 0, [0], [], false), (69, .aload_n 0, 1, 0, [0], [], false), (70, .getfield 46, 3, 0, [12, 14, 2, 20, 13], [], false), (73, .iload_n 1, 1, 0, [1], [], false), (74, .iaload, 1, 0, [], [], false), (75, .aload_n 0, 1, 0, [0], [], false), (76, .getfield 49, 3, 0, [12, 15, 2, 20, 14], [], false), (79, .iload_n 1, 1, 0, [1], [], false), (80, .iaload, 1, 0, [], [], false), (81, .invokevirtual 201, 3, 0, [2], [], false), (84, .invokevirtual 248, 3, 0, [3], [], false), (87, .ireturn, 1, 0, [], [], false)]
def mo_piece_y : MethodName := ⟨"SpanLayersModel", "piece", "(II)I"⟩
theorem mo_piece_tb : sl_tbOK sl_R12 prog_14_method_54_code 3 (some .int) lk_mo [(238, 0), (119, 1), (201, 0), (248, 0)] mo_piece_cd = true := by decide +kernel
theorem mo_onesOf_w2 : Cond.instanceMethod mo_onesOf_y ∈ sl_T0 := sl_in1 1377 (by decide +kernel) rfl
theorem mo_onesOf_w3 : Cond.selects mo_onesOf_y.cls mo_onesOf_y mo_onesOf_y ∈ sl_T0 := sl_in1 47 (by decide +kernel) rfl
theorem mo_onesOf_w4 : Cond.initialized mo_onesOf_y.cls ∈ sl_T0 := sl_in1 97 (by decide +kernel) rfl
theorem mo_onesOf_w5 : Cond.code mo_onesOf_y prog_14_method_53_code 4 (some .int) ∈ sl_T0 := sl_in1 1378 (by decide +kernel) rfl
theorem mo_onesOf_w6 : mo_onesOf_y.cls ≠ "java/lang/invoke/MethodHandle" ∧ mo_onesOf_y.cls ≠ "java/lang/invoke/VarHandle" ∧ (parseMethodDescriptor mo_onesOf_y.desc).map (fun d => d.parameters.length) = some 1 := by decide +kernel
theorem cs_mo_248 (g : sl_G) {hh : Nat} (h : 1 ≤ hh) : sl_CallS g sl_R12 248 0 12 hh 2 mo_onesOf_pt := sl_callV (y := mo_onesOf_y) (T := sl_F12) (N := 50) (mo_onesOf_snd g) h (by decide) (sl_in1 1375 (by decide +kernel) rfl) mo_onesOf_w2 mo_onesOf_w3 mo_onesOf_w4 mo_onesOf_w5 mo_onesOf_w6 rfl (by decide)
def mo_piece_ct : List sl_Ct := [(2, 0, 12, mo_layRuns_pt), (3, 1, 0, mo_in_pt), (3, 0, 12, mo_metBits_pt), (2, 0, 12, mo_onesOf_pt)]
theorem mo_piece_hc (g : sl_G) : sl_HC g sl_R12 2 mo_piece_ct [(238, 0), (119, 1), (201, 0), (248, 0)] := sl_HC_cons (cs_mo_238 g (by decide)) (sl_HC_cons (cs_mo_119 g (by decide)) (sl_HC_cons (cs_mo_201 g (by decide)) (sl_HC_cons (cs_mo_248 g (by decide)) (sl_HC_nil g sl_R12 2))))
set_option maxRecDepth 20000 in
set_option maxHeartbeats 2000000 in
theorem mo_piece_snd (g : sl_G) : sl_Snd g mo_piece_y prog_14_method_54_code 3 (some .int) 2 (mo_piece_pt) := by
  intro As μ Q hw h
  unfold mo_piece_pt at h
  split at h
  next c0 a0 a1 a2 =>
    split at h
    next e_ =>
      subst e_
      split at h
      next e_ =>
        subst e_
        refine sl_mk2 g [true, true, true] (cst := [some (.inr (.inr (some (12, 104)))), some (.inl a1), some (.inl a2)]) (lv0 := [none, none, none]) (by decide) rfl hw rfl rfl rfl lk_mo_ok (mo_piece_hc g) mo_piece_tb rfl ?_
        intro X M
        exact ⟨_, sl_VV0, h⟩
      next => exact h.elim
    next => exact h.elim
  next => exact h.elim
def mo_hole (a1 : Int32) (a2 : Int32) (μ : sl_M) (Q : Int32 → sl_M → Prop) : Prop := ∀ m1, m1 = sl_up μ 104 5 (0 : Int32) → mo_layRuns (0 : Int32) m1 (fun m2 => mo_in a1.toInt64 ((0 : Int32).toInt64) (((m2 104 13) - (1 : Int32)).toInt64) m2 (fun r4 m3 => (r4 = (0 : Int32) → Q (-1 : Int32) m3) ∧ (¬ r4 = (0 : Int32) → mo_in a2.toInt64 ((0 : Int32).toInt64) ((1 : Int32).toInt64) m3 (fun r6 m5 => (r6 = (0 : Int32) → Q (-1 : Int32) m5) ∧ (¬ r6 = (0 : Int32) → (a2 = (0 : Int32) → vp_in a1 31 ∧ Q (m5 117 a1.toNatClampNeg) m5) ∧ (¬ a2 = (0 : Int32) → vp_in a1 31 ∧ Q (m5 118 a1.toNatClampNeg) m5))))))
def mo_hole_pt : sl_PT := fun As μ Q => match As with
  | [.inr (.inr (some (c0, a0))), .inl a1, .inl a2] => if c0 = 12 then (if a0 = 104 then (mo_hole a1 a2 μ (fun r μ' => Q (some (.inl r)) μ')) else False) else False
  | _ => False
def mo_hole_cd : List sl_Ent := [(0, .aload_n 0, 1, 0, [0], [], false), (1, .iconst 0, 1, 0, [], [], false), (2, .putfield 113, 3, 0, [12, 5, 0], [], false), (5, .aload_n 0, 1, 0, [0], [], false), (6, .iconst 0, 1, 0, [], [], false), (7, .invokevirtual 238, 3, 0, [0], [], false), (10, .iload_n 1, 1, 0, [1], [], false), (11, .i2l, 1, 0, [], [], false), (12, .lconst 0, 1, 0, [], [], false), (13, .aload_n 0, 1, 0, [0], [], false), (14, .getfield 229, 3, 0, [12, 13, 0, 0, 0], [], false), (17, .iconst 1, 1, 1, [], [], false), (18, .isub, 1, 0, [], [], false), (19, .i2l, 1, 0, [], [], false), (20, .invokestatic 119, 3, 0, [1], [], false), (23, .ifCond .eq 13, 3, 0, [36], [], false), (26, .iload_n 2, 1, 0, [2], [], false), (27, .i2l, 1, 0, [], [], false), (28, .lconst 0, 1, 0, [], [], false), (29, .lconst 1, 1, 1, [], [], false), (30, .invokestatic 119, 3, 0, [1], [], false), (33, .ifCond .ne 5, 3, 0, [38], [], false), (36, .iconst (-1), 1, (-1), [], [], false), (37, .ireturn, 1, 0, [], [], false), (38, .iload_n 2, 1, 0, [2], [], false), (39, .ifCond .ne 12, 3, 0, [51], [], false), (42, .aload_n 0, 1, 0, [0], [], false), (43, .getfield 46, 3, 0, [12, 14, 2, 20, 13], [], false), (46, .iload_n 1, 1, 0, [1], [], false), (47, .iaload, 1, 0, [], [], false), (48, .goto 9, 3, 0, [57], [], false), (51, .aload_n 0, 1, 0, [0], [], false), (52, .getfield 49, 3, 0, [12, 15, 2, 20, 14], [], false), (55, .iload_n 1, 1, 0, [1], [], false), (56, .iaload, 1, 0, [], [], false), (57, .ireturn, 1, 0, [], [], false)]
def mo_hole_y : MethodName := ⟨"SpanLayersModel", "hole", "(II)I"⟩
theorem mo_hole_tb : sl_tbOK sl_R12 prog_14_method_55_code 3 (some .int) lk_mo [(238, 0), (119, 1)] mo_hole_cd = true := by decide +kernel
def mo_hole_ct : List sl_Ct := [(2, 0, 12, mo_layRuns_pt), (3, 1, 0, mo_in_pt)]
theorem mo_hole_hc (g : sl_G) : sl_HC g sl_R12 2 mo_hole_ct [(238, 0), (119, 1)] := sl_HC_cons (cs_mo_238 g (by decide)) (sl_HC_cons (cs_mo_119 g (by decide)) (sl_HC_nil g sl_R12 2))
set_option maxRecDepth 20000 in
set_option maxHeartbeats 2000000 in
theorem mo_hole_snd (g : sl_G) : sl_Snd g mo_hole_y prog_14_method_55_code 3 (some .int) 2 (mo_hole_pt) := by
  intro As μ Q hw h
  unfold mo_hole_pt at h
  split at h
  next c0 a0 a1 a2 =>
    split at h
    next e_ =>
      subst e_
      split at h
      next e_ =>
        subst e_
        refine sl_mk2 g [true, true, true] (cst := [some (.inr (.inr (some (12, 104)))), some (.inl a1), some (.inl a2)]) (lv0 := [none, none, none]) (by decide) rfl hw rfl rfl rfl lk_mo_ok (mo_hole_hc g) mo_hole_tb rfl ?_
        intro X M
        exact ⟨_, sl_VV0, h⟩
      next => exact h.elim
    next => exact h.elim
  next => exact h.elim
def mo_depth (a1 : Int32) (a2 : Int32) (μ : sl_M) (Q : Int32 → sl_M → Prop) : Prop := ∀ m1, m1 = sl_up μ 104 5 (0 : Int32) → mo_in a1.toInt64 ((0 : Int32).toInt64) ((999 : Int32).toInt64) m1 (fun r3 m2 => (r3 = (0 : Int32) → mo_in a1.toInt64 ((0 : Int32).toInt64) ((999 : Int32).toInt64) m2 (fun r5 m4 => (r5 = (0 : Int32) → Q (-2 : Int32) m4) ∧ (¬ r5 = (0 : Int32) → Q (-1 : Int32) m4))) ∧ (¬ r3 = (0 : Int32) → mo_in a2.toInt64 ((0 : Int32).toInt64) ((1 : Int32).toInt64) m2 (fun r7 m6 => (r7 = (0 : Int32) → mo_in a1.toInt64 ((0 : Int32).toInt64) ((999 : Int32).toInt64) m6 (fun r9 m8 => (r9 = (0 : Int32) → Q (-2 : Int32) m8) ∧ (¬ r9 = (0 : Int32) → Q (-1 : Int32) m8))) ∧ (¬ r7 = (0 : Int32) → mo_layDepths m6 (fun m10 => (a2 = (0 : Int32) → vp_in a1 1000 ∧ Q (m10 115 a1.toNatClampNeg) m10) ∧ (¬ a2 = (0 : Int32) → vp_in a1 1000 ∧ Q (m10 116 a1.toNatClampNeg) m10))))))
def mo_depth_pt : sl_PT := fun As μ Q => match As with
  | [.inr (.inr (some (c0, a0))), .inl a1, .inl a2] => if c0 = 12 then (if a0 = 104 then (mo_depth a1 a2 μ (fun r μ' => Q (some (.inl r)) μ')) else False) else False
  | _ => False
def mo_depth_cd : List sl_Ent := [(0, .aload_n 0, 1, 0, [0], [], false), (1, .iconst 0, 1, 0, [], [], false), (2, .putfield 113, 3, 0, [12, 5, 0], [], false), (5, .iload_n 1, 1, 0, [1], [], false), (6, .i2l, 1, 0, [], [], false), (7, .lconst 0, 1, 0, [], [], false), (8, .ldc2_w 164, 3, 999, [], [], false), (11, .invokestatic 119, 3, 0, [0], [], false), (14, .ifCond .eq 13, 3, 0, [27], [], false), (17, .iload_n 2, 1, 0, [2], [], false), (18, .i2l, 1, 0, [], [], false), (19, .lconst 0, 1, 0, [], [], false), (20, .lconst 1, 1, 1, [], [], false), (21, .invokestatic 119, 3, 0, [0], [], false), (24, .ifCond .ne 22, 3, 0, [46], [], false), (27, .iload_n 1, 1, 0, [1], [], false), (28, .i2l, 1, 0, [], [], false), (29, .lconst 0, 1, 0, [], [], false), (30, .ldc2_w 164, 3, 999, [], [], false), (33, .invokestatic 119, 3, 0, [0], [], false), (36, .ifCond .eq 7, 3, 0, [43], [], false), (39, .iconst (-1), 1, (-1), [], [], false), (40, .goto 5, 3, 0, [45], [], false), (43, .bipush (-2), 2, (-2), [], [], false), (45, .ireturn, 1, 0, [], [], false), (46, .aload_n 0, 1, 0, [0], [], false), (47, .invokevirtual 226, 3, 0, [1], [], false), (50, .iload_n 2, 1, 0, [2], [], false), (51, .ifCond .ne 12, 3, 0, [63], [], false), (54, .aload_n 0, 1, 0, [0], [], false), (55, .getfield 40, 3, 0, [12, 11, 2, 20, 11], [], false), (58, .iload_n 1, 1, 0, [1], [], false), (59, .iaload, 1, 0, [], [], false), (60, .goto 9, 3, 0, [69], [], false), (63, .aload_n 0, 1, 0, [0], [], false), (64, .getfield 43, 3, 0, [12, 12, 2, 20, 12], [], false), (67, .iload_n 1, 1, 0, [1], [], false), (68, .iaload, 1, 0, [], [], false), (69, .ireturn, 1, 0, [], [], false)]
def mo_depth_y : MethodName := ⟨"SpanLayersModel", "depth", "(II)I"⟩
theorem mo_depth_tb : sl_tbOK sl_R12 prog_14_method_56_code 3 (some .int) lk_mo [(119, 1), (226, 0)] mo_depth_cd = true := by decide +kernel
def mo_depth_ct : List sl_Ct := [(3, 1, 0, mo_in_pt), (1, 0, 12, mo_layDepths_pt)]
theorem mo_depth_hc (g : sl_G) : sl_HC g sl_R12 1 mo_depth_ct [(119, 1), (226, 0)] := sl_HC_cons (cs_mo_119 g (by decide)) (sl_HC_cons (cs_mo_226 g (by decide)) (sl_HC_nil g sl_R12 1))
set_option maxRecDepth 20000 in
set_option maxHeartbeats 2000000 in
theorem mo_depth_snd (g : sl_G) : sl_Snd g mo_depth_y prog_14_method_56_code 3 (some .int) 1 (mo_depth_pt) := by
  intro As μ Q hw h
  unfold mo_depth_pt at h
  split at h
  next c0 a0 a1 a2 =>
    split at h
    next e_ =>
      subst e_
      split at h
      next e_ =>
        subst e_
        refine sl_mk2 g [true, true, true] (cst := [some (.inr (.inr (some (12, 104)))), some (.inl a1), some (.inl a2)]) (lv0 := [none, none, none]) (by decide) rfl hw rfl rfl rfl lk_mo_ok (mo_depth_hc g) mo_depth_tb rfl ?_
        intro X M
        exact ⟨_, sl_VV0, h⟩
      next => exact h.elim
    next => exact h.elim
  next => exact h.elim
def mo_numberAt (a1 : Int32) (a2 : Int32) (μ : sl_M) (Q : Int32 → sl_M → Prop) : Prop := (a2 < (2 : Int32) → vp_in a1 1000 ∧ Q (μ 115 a1.toNatClampNeg) μ) ∧ (¬ a2 < (2 : Int32) → (a2 < (4 : Int32) → vp_in a1 1000 ∧ Q (μ 116 a1.toNatClampNeg) μ) ∧ (¬ a2 < (4 : Int32) → vp_in a1 1000 ∧ Q (-(μ 116 a1.toNatClampNeg)) μ))
def mo_numberAt_pt : sl_PT := fun As μ Q => match As with
  | [.inr (.inr (some (c0, a0))), .inl a1, .inl a2] => if c0 = 12 then (if a0 = 104 then (mo_numberAt a1 a2 μ (fun r μ' => Q (some (.inl r)) μ')) else False) else False
  | _ => False
def mo_numberAt_cd : List sl_Ent := [(0, .iload_n 2, 1, 0, [2], [], false), (1, .iconst 2, 1, 2, [], [], false), (2, .if_icmp .ge 12, 3, 0, [14], [], false), (5, .aload_n 0, 1, 0, [0], [], false), (6, .getfield 40, 3, 0, [12, 11, 2, 20, 11], [], false), (9, .iload_n 1, 1, 0, [1], [], false), (10, .iaload, 1, 0, [], [], false), (11, .goto 24, 3, 0, [35], [], false), (14, .iload_n 2, 1, 0, [2], [], false), (15, .iconst 4, 1, 4, [], [], false), (16, .if_icmp .ge 12, 3, 0, [28], [], false), (19, .aload_n 0, 1, 0, [0], [], false), (20, .getfield 43, 3, 0, [12, 12, 2, 20, 12], [], false), (23, .iload_n 1, 1, 0, [1], [], false), (24, .iaload, 1, 0, [], [], false), (25, .goto 10, 3, 0, [35], [], false), (28, .aload_n 0, 1, 0, [0], [], false), (29, .getfield 43, 3, 0, [12, 12, 2, 20, 12], [], false), (32, .iload_n 1, 1, 0, [1], [], false), (33, .iaload, 1, 0, [], [], false), (34, .ineg, 1, 0, [], [], false), (35, .ireturn, 1, 0, [], [], false)]
def mo_numberAt_y : MethodName := ⟨"SpanLayersModel", "numberAt", "(II)I"⟩
theorem mo_numberAt_tb : sl_tbOK sl_R12 prog_14_method_57_code 3 (some .int) lk_mo [] mo_numberAt_cd = true := by decide +kernel
def mo_numberAt_ct : List sl_Ct := []
theorem mo_numberAt_hc (g : sl_G) : sl_HC g sl_R12 0 mo_numberAt_ct [] := sl_HC_nil g sl_R12 0
set_option maxRecDepth 20000 in
set_option maxHeartbeats 2000000 in
theorem mo_numberAt_snd (g : sl_G) : sl_Snd g mo_numberAt_y prog_14_method_57_code 3 (some .int) 0 (mo_numberAt_pt) := by
  intro As μ Q hw h
  unfold mo_numberAt_pt at h
  split at h
  next c0 a0 a1 a2 =>
    split at h
    next e_ =>
      subst e_
      split at h
      next e_ =>
        subst e_
        refine sl_mk2 g [true, true, true] (cst := [some (.inr (.inr (some (12, 104)))), some (.inl a1), some (.inl a2)]) (lv0 := [none, none, none]) (by decide) rfl hw rfl rfl rfl lk_mo_ok (mo_numberAt_hc g) mo_numberAt_tb rfl ?_
        intro X M
        exact ⟨_, sl_VV0, h⟩
      next => exact h.elim
    next => exact h.elim
  next => exact h.elim
def mo_deepestOf_L8 (a1 : Int32) (Q : Int32 → sl_M → Prop) : Nat → Int32 → Int32 → sl_M → Prop
  | 0, _, _, _ => False
  | n + 1, x2, x3, μ => (x3 < (1000 : Int32) → mo_numberAt x3 a1 μ (fun r2 m1 => mo_numberAt x2 a1 m1 (fun r4 m3 => (r2 ≤ r4 → (mo_deepestOf_L8 a1 Q n) x2 (x3 + (1 : Int32)) m3) ∧ (¬ r2 ≤ r4 → (mo_deepestOf_L8 a1 Q n) x3 (x3 + (1 : Int32)) m3)))) ∧ (¬ x3 < (1000 : Int32) → Q x2 μ)
def mo_deepestOf (a1 : Int32) (μ : sl_M) (Q : Int32 → sl_M → Prop) : Prop := mo_layDepths μ (fun m5 => ∃ n6, mo_deepestOf_L8 a1 Q n6 (0 : Int32) (1 : Int32) m5)
def mo_deepestOf_pt : sl_PT := fun As μ Q => match As with
  | [.inr (.inr (some (c0, a0))), .inl a1] => if c0 = 12 then (if a0 = 104 then (mo_deepestOf a1 μ (fun r μ' => Q (some (.inl r)) μ')) else False) else False
  | _ => False
def mo_deepestOf_cd : List sl_Ent := [(0, .aload_n 0, 1, 0, [0], [], false), (1, .invokevirtual 226, 3, 0, [0], [], false), (4, .iconst 0, 1, 0, [], [], false), (5, .istore_n 2, 1, 0, [2], [], false), (6, .iconst 1, 1, 1, [], [], false), (7, .istore_n 3, 1, 0, [3], [], false), (8, .iload_n 3, 1, 0, [3], [], true), (9, .sipush 1000, 3, 1000, [], [], false), (12, .if_icmp .ge 30, 3, 0, [42], [], false), (15, .aload_n 0, 1, 0, [0], [], false), (16, .iload_n 3, 1, 0, [3], [], false), (17, .iload_n 1, 1, 0, [1], [], false), (18, .invokevirtual 251, 3, 0, [1], [], false), (21, .aload_n 0, 1, 0, [0], [], false), (22, .iload_n 2, 1, 0, [2], [], false), (23, .iload_n 1, 1, 0, [1], [], false), (24, .invokevirtual 251, 3, 0, [1], [], false), (27, .if_icmp .le 7, 3, 0, [34], [], false), (30, .iload_n 3, 1, 0, [3], [], false), (31, .goto 4, 3, 0, [35], [], false), (34, .iload_n 2, 1, 0, [2], [], false), (35, .istore_n 2, 1, 0, [2], [], false), (36, .iinc 3 1, 3, 1, [], [], false), (39, .goto (-31), 3, 0, [8], [], false), (42, .iload_n 2, 1, 0, [2], [], false), (43, .ireturn, 1, 0, [], [], false)]
def mo_deepestOf_y : MethodName := ⟨"SpanLayersModel", "deepestOf", "(I)I"⟩
theorem mo_deepestOf_tb : sl_tbOK sl_R12 prog_14_method_58_code 4 (some .int) lk_mo [(226, 0), (251, 0)] mo_deepestOf_cd = true := by decide +kernel
theorem mo_numberAt_w2 : Cond.instanceMethod mo_numberAt_y ∈ sl_T0 := sl_in1 1398 (by decide +kernel) rfl
theorem mo_numberAt_w3 : Cond.selects mo_numberAt_y.cls mo_numberAt_y mo_numberAt_y ∈ sl_T0 := sl_in1 49 (by decide +kernel) rfl
theorem mo_numberAt_w4 : Cond.initialized mo_numberAt_y.cls ∈ sl_T0 := sl_in1 97 (by decide +kernel) rfl
theorem mo_numberAt_w5 : Cond.code mo_numberAt_y prog_14_method_57_code 3 (some .int) ∈ sl_T0 := sl_in1 1399 (by decide +kernel) rfl
theorem mo_numberAt_w6 : mo_numberAt_y.cls ≠ "java/lang/invoke/MethodHandle" ∧ mo_numberAt_y.cls ≠ "java/lang/invoke/VarHandle" ∧ (parseMethodDescriptor mo_numberAt_y.desc).map (fun d => d.parameters.length) = some 2 := by decide +kernel
theorem cs_mo_251 (g : sl_G) {hh : Nat} (h : 1 ≤ hh) : sl_CallS g sl_R12 251 0 12 hh 3 mo_numberAt_pt := sl_callV (y := mo_numberAt_y) (T := sl_F12) (N := 50) (mo_numberAt_snd g) h (by decide) (sl_in1 1396 (by decide +kernel) rfl) mo_numberAt_w2 mo_numberAt_w3 mo_numberAt_w4 mo_numberAt_w5 mo_numberAt_w6 rfl (by decide)
def mo_deepestOf_ct : List sl_Ct := [(1, 0, 12, mo_layDepths_pt), (3, 0, 12, mo_numberAt_pt)]
theorem mo_deepestOf_hc (g : sl_G) : sl_HC g sl_R12 1 mo_deepestOf_ct [(226, 0), (251, 0)] := sl_HC_cons (cs_mo_226 g (by decide)) (sl_HC_cons (cs_mo_251 g (by decide)) (sl_HC_nil g sl_R12 1))
set_option maxRecDepth 20000 in
set_option maxHeartbeats 2000000 in
theorem mo_deepestOf_snd (g : sl_G) : sl_Snd g mo_deepestOf_y prog_14_method_58_code 4 (some .int) 1 (mo_deepestOf_pt) := by
  intro As μ Q hw h
  unfold mo_deepestOf_pt at h
  split at h
  next c0 a0 a1 =>
    split at h
    next e_ =>
      subst e_
      split at h
      next e_ =>
        subst e_
        refine sl_mk2 g [true, true, false, false] (cst := [some (.inr (.inr (some (12, 104)))), some (.inl a1)]) (lv0 := [none, none, none, none]) (by decide) rfl hw rfl rfl rfl lk_mo_ok (mo_deepestOf_hc g) mo_deepestOf_tb rfl ?_
        intro X M
        have v8 := sl_extL M sl_VV0 8 (fun n lv st μ => match lv, st with | [_, _, some (.inl x2), some (.inl x3)], [] => mo_deepestOf_L8 a1 (fun r μ' => Q (some (.inl r)) μ') n x2 x3 μ | _, _ => False) (by
            intro lv st μ h
            split at h
            · exact h
            · exact h) (by
            intro n8 w8
            refine ⟨_, w8, ?_⟩
            intro lv st μ h
            split at h
            · exact h
            · exact h.elim)
        exact ⟨_, v8, h⟩
      next => exact h.elim
    next => exact h.elim
  next => exact h.elim
def mo_deepest (a1 : Int32) (μ : sl_M) (Q : Int32 → sl_M → Prop) : Prop := ∀ m1, m1 = sl_up μ 104 5 (0 : Int32) → mo_in a1.toInt64 ((0 : Int32).toInt64) ((5 : Int32).toInt64) m1 (fun r3 m2 => (r3 = (0 : Int32) → Q (-1 : Int32) m2) ∧ (¬ r3 = (0 : Int32) → mo_deepestOf a1 m2 (fun r5 m4 => ¬ (2 : Int32) = 0 ∧ ((a1 - a1 / (2 : Int32) * (2 : Int32)) = (0 : Int32) → Q r5 m4) ∧ (¬ (a1 - a1 / (2 : Int32) * (2 : Int32)) = (0 : Int32) → (a1 = (1 : Int32) → vp_in r5 1000 ∧ Q (m4 115 r5.toNatClampNeg) m4) ∧ (¬ a1 = (1 : Int32) → vp_in r5 1000 ∧ Q (m4 116 r5.toNatClampNeg) m4)))))
def mo_deepest_pt : sl_PT := fun As μ Q => match As with
  | [.inr (.inr (some (c0, a0))), .inl a1] => if c0 = 12 then (if a0 = 104 then (mo_deepest a1 μ (fun r μ' => Q (some (.inl r)) μ')) else False) else False
  | _ => False
def mo_deepest_cd : List sl_Ent := [(0, .aload_n 0, 1, 0, [0], [], false), (1, .iconst 0, 1, 0, [], [], false), (2, .putfield 113, 3, 0, [12, 5, 0], [], false), (5, .iload_n 1, 1, 0, [1], [], false), (6, .i2l, 1, 0, [], [], false), (7, .lconst 0, 1, 0, [], [], false), (8, .ldc2_w 254, 3, 5, [], [], false), (11, .invokestatic 119, 3, 0, [0], [], false), (14, .ifCond .ne 5, 3, 0, [19], [], false), (17, .iconst (-1), 1, (-1), [], [], false), (18, .ireturn, 1, 0, [], [], false), (19, .aload_n 0, 1, 0, [0], [], false), (20, .iload_n 1, 1, 0, [1], [], false), (21, .invokevirtual 256, 3, 0, [1], [], false), (24, .istore_n 2, 1, 0, [2], [], false), (25, .iload_n 1, 1, 0, [1], [], false), (26, .iconst 2, 1, 2, [], [], false), (27, .irem, 1, 0, [], [], false), (28, .ifCond .ne 7, 3, 0, [35], [], false), (31, .iload_n 2, 1, 0, [2], [], false), (32, .goto 23, 3, 0, [55], [], false), (35, .iload_n 1, 1, 0, [1], [], false), (36, .iconst 1, 1, 1, [], [], false), (37, .if_icmp .ne 12, 3, 0, [49], [], false), (40, .aload_n 0, 1, 0, [0], [], false), (41, .getfield 40, 3, 0, [12, 11, 2, 20, 11], [], false), (44, .iload_n 2, 1, 0, [2], [], false), (45, .iaload, 1, 0, [], [], false), (46, .goto 9, 3, 0, [55], [], false), (49, .aload_n 0, 1, 0, [0], [], false), (50, .getfield 43, 3, 0, [12, 12, 2, 20, 12], [], false), (53, .iload_n 2, 1, 0, [2], [], false), (54, .iaload, 1, 0, [], [], false), (55, .ireturn, 1, 0, [], [], false)]
def mo_deepest_y : MethodName := ⟨"SpanLayersModel", "deepest", "(I)I"⟩
theorem mo_deepest_tb : sl_tbOK sl_R12 prog_14_method_59_code 3 (some .int) lk_mo [(119, 1), (256, 0)] mo_deepest_cd = true := by decide +kernel
theorem mo_deepestOf_w2 : Cond.instanceMethod mo_deepestOf_y ∈ sl_T0 := sl_in1 1394 (by decide +kernel) rfl
theorem mo_deepestOf_w3 : Cond.selects mo_deepestOf_y.cls mo_deepestOf_y mo_deepestOf_y ∈ sl_T0 := sl_in1 48 (by decide +kernel) rfl
theorem mo_deepestOf_w4 : Cond.initialized mo_deepestOf_y.cls ∈ sl_T0 := sl_in1 97 (by decide +kernel) rfl
theorem mo_deepestOf_w5 : Cond.code mo_deepestOf_y prog_14_method_58_code 4 (some .int) ∈ sl_T0 := sl_in1 1395 (by decide +kernel) rfl
theorem mo_deepestOf_w6 : mo_deepestOf_y.cls ≠ "java/lang/invoke/MethodHandle" ∧ mo_deepestOf_y.cls ≠ "java/lang/invoke/VarHandle" ∧ (parseMethodDescriptor mo_deepestOf_y.desc).map (fun d => d.parameters.length) = some 1 := by decide +kernel
theorem cs_mo_256 (g : sl_G) {hh : Nat} (h : 2 ≤ hh) : sl_CallS g sl_R12 256 0 12 hh 2 mo_deepestOf_pt := sl_callV (y := mo_deepestOf_y) (T := sl_F12) (N := 50) (mo_deepestOf_snd g) h (by decide) (sl_in1 1392 (by decide +kernel) rfl) mo_deepestOf_w2 mo_deepestOf_w3 mo_deepestOf_w4 mo_deepestOf_w5 mo_deepestOf_w6 rfl (by decide)
def mo_deepest_ct : List sl_Ct := [(3, 1, 0, mo_in_pt), (2, 0, 12, mo_deepestOf_pt)]
theorem mo_deepest_hc (g : sl_G) : sl_HC g sl_R12 2 mo_deepest_ct [(119, 1), (256, 0)] := sl_HC_cons (cs_mo_119 g (by decide)) (sl_HC_cons (cs_mo_256 g (by decide)) (sl_HC_nil g sl_R12 2))
set_option maxRecDepth 20000 in
set_option maxHeartbeats 2000000 in
theorem mo_deepest_snd (g : sl_G) : sl_Snd g mo_deepest_y prog_14_method_59_code 3 (some .int) 2 (mo_deepest_pt) := by
  intro As μ Q hw h
  unfold mo_deepest_pt at h
  split at h
  next c0 a0 a1 =>
    split at h
    next e_ =>
      subst e_
      split at h
      next e_ =>
        subst e_
        refine sl_mk2 g [true, true, false] (cst := [some (.inr (.inr (some (12, 104)))), some (.inl a1)]) (lv0 := [none, none, none]) (by decide) rfl hw rfl rfl rfl lk_mo_ok (mo_deepest_hc g) mo_deepest_tb rfl ?_
        intro X M
        exact ⟨_, sl_VV0, h⟩
      next => exact h.elim
    next => exact h.elim
  next => exact h.elim
def mo_layTaken_B89 (Q : sl_M → Prop) (k9 : Int32 → Int32 → sl_M → Prop) : Int32 → Int32 → Int32 → sl_M → Prop
  | x1, x2, x3, μ => (x2 = (0 : Int32) → k9 x1 x2 μ) ∧ (¬ x2 = (0 : Int32) → vp_in (μ 104 16) 30 ∧ ∀ m2, m2 = sl_up μ 119 (μ 104 16).toNatClampNeg x3 → vp_in x3 30 ∧ ∀ v3, v3 = (m2 106 x3.toNatClampNeg) → ∀ m4, m4 = sl_up m2 104 16 ((m2 104 16) + (1 : Int32)) → k9 v3 x2 m4)
def mo_layTaken_L19 (Q : sl_M → Prop) (k9 : Int32 → Int32 → sl_M → Prop) : Nat → Int32 → Int32 → Int32 → sl_M → Prop
  | 0, _, _, _, _ => False
  | n + 1, x1, x3, x4, μ => (x4 < (0 : Int32) → (x3 < (0 : Int32) → mo_layTaken_B89 Q k9 x1 (0 : Int32) x3 μ) ∧ (¬ x3 < (0 : Int32) → mo_layTaken_B89 Q k9 x1 (1 : Int32) x3 μ)) ∧ (¬ x4 < (0 : Int32) → vp_in x4 30 ∧ ((μ 108 x4.toNatClampNeg) = (1 : Int32) → vp_in x4 30 ∧ ((μ 105 x4.toNatClampNeg) ≤ x1 → (mo_layTaken_L19 Q k9 n) x1 x3 (x4 + (-1 : Int32)) μ) ∧ (¬ (μ 105 x4.toNatClampNeg) ≤ x1 → (x3 < (0 : Int32) → (mo_layTaken_L19 Q k9 n) x1 x4 (x4 + (-1 : Int32)) μ) ∧ (¬ x3 < (0 : Int32) → vp_in x4 30 ∧ vp_in x3 30 ∧ ((μ 106 x4.toNatClampNeg) ≤ (μ 106 x3.toNatClampNeg) → (mo_layTaken_L19 Q k9 n) x1 x4 (x4 + (-1 : Int32)) μ) ∧ (¬ (μ 106 x4.toNatClampNeg) ≤ (μ 106 x3.toNatClampNeg) → (mo_layTaken_L19 Q k9 n) x1 x3 (x4 + (-1 : Int32)) μ)))) ∧ (¬ (μ 108 x4.toNatClampNeg) = (1 : Int32) → (mo_layTaken_L19 Q k9 n) x1 x3 (x4 + (-1 : Int32)) μ))
def mo_layTaken_L9 (Q : sl_M → Prop) : Nat → Int32 → Int32 → sl_M → Prop
  | 0, _, _, _ => False
  | n + 1, x1, x2, μ => (x2 = (0 : Int32) → Q μ) ∧ (¬ x2 = (0 : Int32) → ∃ n1, mo_layTaken_L19 Q (mo_layTaken_L9 Q n) n1 x1 (-1 : Int32) (29 : Int32) μ)
def mo_layTaken (μ : sl_M) (Q : sl_M → Prop) : Prop := ∀ m5, m5 = sl_up μ 104 16 (0 : Int32) → ∃ n6, mo_layTaken_L9 Q n6 (-1 : Int32) (1 : Int32) m5
def mo_layTaken_pt : sl_PT := fun As μ Q => match As with
  | [.inr (.inr (some (c0, a0)))] => if c0 = 12 then (if a0 = 104 then (mo_layTaken μ (fun μ' => Q none μ')) else False) else False
  | _ => False
def mo_layTaken_cd : List sl_Ent := [(0, .aload_n 0, 1, 0, [0], [], false), (1, .iconst 0, 1, 0, [], [], false), (2, .putfield 259, 3, 0, [12, 16, 0], [], false), (5, .iconst (-1), 1, (-1), [], [], false), (6, .istore_n 1, 1, 0, [1], [], false), (7, .iconst 1, 1, 1, [], [], false), (8, .istore_n 2, 1, 0, [2], [], false), (9, .iload_n 2, 1, 0, [2], [], true), (10, .ifCond .eq 113, 3, 0, [123], [], false), (13, .iconst (-1), 1, (-1), [], [], false), (14, .istore_n 3, 1, 0, [3], [], false), (15, .bipush 29, 2, 29, [], [], false), (17, .istore 4, 2, 0, [4], [], false), (19, .iload 4, 2, 0, [4], [], true), (21, .ifCond .lt 58, 3, 0, [79], [], false), (24, .aload_n 0, 1, 0, [0], [], false), (25, .getfield 19, 3, 0, [12, 3, 2, 20, 4], [], false), (28, .iload 4, 2, 0, [4], [], false), (30, .iaload, 1, 0, [], [], false), (31, .iconst 1, 1, 1, [], [], false), (32, .if_icmp .ne 39, 3, 0, [71], [], false), (35, .aload_n 0, 1, 0, [0], [], false), (36, .getfield 7, 3, 0, [12, 0, 2, 20, 1], [], false), (39, .iload 4, 2, 0, [4], [], false), (41, .iaload, 1, 0, [], [], false), (42, .iload_n 1, 1, 0, [1], [], false), (43, .if_icmp .le 28, 3, 0, [71], [], false), (46, .iload_n 3, 1, 0, [3], [], false), (47, .ifCond .lt 19, 3, 0, [66], [], false), (50, .aload_n 0, 1, 0, [0], [], false), (51, .getfield 13, 3, 0, [12, 1, 2, 20, 2], [], false), (54, .iload 4, 2, 0, [4], [], false), (56, .iaload, 1, 0, [], [], false), (57, .aload_n 0, 1, 0, [0], [], false), (58, .getfield 13, 3, 0, [12, 1, 2, 20, 2], [], false), (61, .iload_n 3, 1, 0, [3], [], false), (62, .iaload, 1, 0, [], [], false), (63, .if_icmp .gt 8, 3, 0, [71], [], false), (66, .iload 4, 2, 0, [4], [], false), (68, .goto 4, 3, 0, [72], [], false), (71, .iload_n 3, 1, 0, [3], [], false), (72, .istore_n 3, 1, 0, [3], [], false), (73, .iinc 4 (-1), 3, (-1), [], [], false), (76, .goto (-57), 3, 0, [19], [], false), (79, .iload_n 3, 1, 0, [3], [], false), (80, .ifCond .lt 7, 3, 0, [87], [], false), (83, .iconst 1, 1, 1, [], [], false), (84, .goto 4, 3, 0, [88], [], false), (87, .iconst 0, 1, 0, [], [], false), (88, .istore_n 2, 1, 0, [2], [], false), (89, .iload_n 2, 1, 0, [2], [], true), (90, .ifCond .eq 30, 3, 0, [120], [], false), (93, .aload_n 0, 1, 0, [0], [], false), (94, .getfield 52, 3, 0, [12, 17, 2, 20, 15], [], false), (97, .aload_n 0, 1, 0, [0], [], false), (98, .getfield 259, 3, 0, [12, 16, 0, 0, 0], [], false), (101, .iload_n 3, 1, 0, [3], [], false), (102, .iastore, 1, 0, [], [], false), (103, .aload_n 0, 1, 0, [0], [], false), (104, .getfield 13, 3, 0, [12, 1, 2, 20, 2], [], false), (107, .iload_n 3, 1, 0, [3], [], false), (108, .iaload, 1, 0, [], [], false), (109, .istore_n 1, 1, 0, [1, 1], [], false), (110, .aload_n 0, 1, 0, [0], [], false), (111, .dup, 1, 0, [], [], false), (112, .getfield 259, 3, 0, [12, 16, 0, 0, 0], [], false), (115, .iconst 1, 1, 1, [], [], false), (116, .iadd, 1, 0, [], [], false), (117, .putfield 259, 3, 0, [12, 16, 0], [], false), (120, .goto (-111), 3, 0, [9], [], false), (123, .return_, 1, 0, [], [], false)]
def mo_layTaken_y : MethodName := ⟨"SpanLayersModel", "layTaken", "()V"⟩
theorem mo_layTaken_tb : sl_tbOK sl_R12 prog_14_method_60_code 5 none lk_mo [] mo_layTaken_cd = true := by decide +kernel
def mo_layTaken_ct : List sl_Ct := []
theorem mo_layTaken_hc (g : sl_G) : sl_HC g sl_R12 0 mo_layTaken_ct [] := sl_HC_nil g sl_R12 0
set_option maxRecDepth 20000 in
set_option maxHeartbeats 2000000 in
theorem mo_layTaken_snd (g : sl_G) : sl_Snd g mo_layTaken_y prog_14_method_60_code 5 none 0 (mo_layTaken_pt) := by
  intro As μ Q hw h
  unfold mo_layTaken_pt at h
  split at h
  next c0 a0 =>
    split at h
    next e_ =>
      subst e_
      split at h
      next e_ =>
        subst e_
        refine sl_mk2 g [true, false, false, false, false] (cst := [some (.inr (.inr (some (12, 104))))]) (lv0 := [none, none, none, none, none]) (by decide) rfl hw rfl rfl rfl lk_mo_ok (mo_layTaken_hc g) mo_layTaken_tb rfl ?_
        intro X M
        have v9 := sl_extL M sl_VV0 9 (fun n lv st μ => match lv, st with | [_, some (.inl x1), some (.inl x2), _, _], [] => mo_layTaken_L9 (fun μ' => Q none μ') n x1 x2 μ | _, _ => False) (by
            intro lv st μ h
            split at h
            · exact h
            · exact h) (by
            intro n9 w9
            have v89 := sl_ext M w9 89 (fun lv st μ => match lv, st with | [_, some (.inl x1), some (.inl x2), some (.inl x3), _], [] => mo_layTaken_B89 (fun μ' => Q none μ') (mo_layTaken_L9 (fun μ' => Q none μ') n9) x1 x2 x3 μ | _, _ => False) (by
                intro lv st μ h
                split at h
                · exact h
                · exact h.elim)
            have v19 := sl_extL M v89 19 (fun n lv st μ => match lv, st with | [_, some (.inl x1), _, some (.inl x3), some (.inl x4)], [] => mo_layTaken_L19 (fun μ' => Q none μ') (mo_layTaken_L9 (fun μ' => Q none μ') n9) n x1 x3 x4 μ | _, _ => False) (by
                intro lv st μ h
                split at h
                · exact h
                · exact h) (by
                intro n19 w19
                refine ⟨_, w19, ?_⟩
                intro lv st μ h
                split at h
                · exact h
                · exact h.elim)
            refine ⟨_, v19, ?_⟩
            intro lv st μ h
            split at h
            · exact h
            · exact h.elim)
        exact ⟨_, v9, h⟩
      next => exact h.elim
    next => exact h.elim
  next => exact h.elim
def mo_points (a1 : Int32) (μ : sl_M) (Q : Int32 → sl_M → Prop) : Prop := ∀ m1, m1 = sl_up μ 104 5 (0 : Int32) → mo_layTaken m1 (fun m2 => (a1 = (-1 : Int32) → Q (m2 104 16) m2) ∧ (¬ a1 = (-1 : Int32) → mo_in a1.toInt64 ((0 : Int32).toInt64) (((m2 104 16) - (1 : Int32)).toInt64) m2 (fun r4 m3 => (r4 = (0 : Int32) → Q (-1 : Int32) m3) ∧ (¬ r4 = (0 : Int32) → vp_in a1 30 ∧ vp_in (m3 119 a1.toNatClampNeg) 30 ∧ Q (m3 106 (m3 119 a1.toNatClampNeg).toNatClampNeg) m3))))
def mo_points_pt : sl_PT := fun As μ Q => match As with
  | [.inr (.inr (some (c0, a0))), .inl a1] => if c0 = 12 then (if a0 = 104 then (mo_points a1 μ (fun r μ' => Q (some (.inl r)) μ')) else False) else False
  | _ => False
def mo_points_cd : List sl_Ent := [(0, .aload_n 0, 1, 0, [0], [], false), (1, .iconst 0, 1, 0, [], [], false), (2, .putfield 113, 3, 0, [12, 5, 0], [], false), (5, .aload_n 0, 1, 0, [0], [], false), (6, .invokevirtual 262, 3, 0, [0], [], false), (9, .iload_n 1, 1, 0, [1], [], false), (10, .iconst (-1), 1, (-1), [], [], false), (11, .if_icmp .ne 10, 3, 0, [21], [], false), (14, .aload_n 0, 1, 0, [0], [], false), (15, .getfield 259, 3, 0, [12, 16, 0, 0, 0], [], false), (18, .goto 34, 3, 0, [52], [], false), (21, .iload_n 1, 1, 0, [1], [], false), (22, .i2l, 1, 0, [], [], false), (23, .lconst 0, 1, 0, [], [], false), (24, .aload_n 0, 1, 0, [0], [], false), (25, .getfield 259, 3, 0, [12, 16, 0, 0, 0], [], false), (28, .iconst 1, 1, 1, [], [], false), (29, .isub, 1, 0, [], [], false), (30, .i2l, 1, 0, [], [], false), (31, .invokestatic 119, 3, 0, [1], [], false), (34, .ifCond .eq 17, 3, 0, [51], [], false), (37, .aload_n 0, 1, 0, [0], [], false), (38, .getfield 13, 3, 0, [12, 1, 2, 20, 2], [], false), (41, .aload_n 0, 1, 0, [0], [], false), (42, .getfield 52, 3, 0, [12, 17, 2, 20, 15], [], false), (45, .iload_n 1, 1, 0, [1], [], false), (46, .iaload, 1, 0, [], [], false), (47, .iaload, 1, 0, [], [], false), (48, .goto 4, 3, 0, [52], [], false), (51, .iconst (-1), 1, (-1), [], [], false), (52, .ireturn, 1, 0, [], [], false)]
def mo_points_y : MethodName := ⟨"SpanLayersModel", "points", "(I)I"⟩
theorem mo_points_tb : sl_tbOK sl_R12 prog_14_method_61_code 2 (some .int) lk_mo [(262, 0), (119, 1)] mo_points_cd = true := by decide +kernel
theorem mo_layTaken_w2 : Cond.instanceMethod mo_layTaken_y ∈ sl_T0 := sl_in1 1406 (by decide +kernel) rfl
theorem mo_layTaken_w3 : Cond.selects mo_layTaken_y.cls mo_layTaken_y mo_layTaken_y ∈ sl_T0 := sl_in1 50 (by decide +kernel) rfl
theorem mo_layTaken_w4 : Cond.initialized mo_layTaken_y.cls ∈ sl_T0 := sl_in1 97 (by decide +kernel) rfl
theorem mo_layTaken_w5 : Cond.code mo_layTaken_y prog_14_method_60_code 5 none ∈ sl_T0 := sl_in1 1407 (by decide +kernel) rfl
theorem mo_layTaken_w6 : mo_layTaken_y.cls ≠ "java/lang/invoke/MethodHandle" ∧ mo_layTaken_y.cls ≠ "java/lang/invoke/VarHandle" ∧ (parseMethodDescriptor mo_layTaken_y.desc).map (fun d => d.parameters.length) = some 0 := by decide +kernel
theorem cs_mo_262 (g : sl_G) {hh : Nat} (h : 1 ≤ hh) : sl_CallS g sl_R12 262 0 12 hh 1 mo_layTaken_pt := sl_callV (y := mo_layTaken_y) (T := sl_F12) (N := 50) (mo_layTaken_snd g) h (by decide) (sl_in1 1404 (by decide +kernel) rfl) mo_layTaken_w2 mo_layTaken_w3 mo_layTaken_w4 mo_layTaken_w5 mo_layTaken_w6 rfl (by decide)
def mo_points_ct : List sl_Ct := [(1, 0, 12, mo_layTaken_pt), (3, 1, 0, mo_in_pt)]
theorem mo_points_hc (g : sl_G) : sl_HC g sl_R12 1 mo_points_ct [(262, 0), (119, 1)] := sl_HC_cons (cs_mo_262 g (by decide)) (sl_HC_cons (cs_mo_119 g (by decide)) (sl_HC_nil g sl_R12 1))
set_option maxRecDepth 20000 in
set_option maxHeartbeats 2000000 in
theorem mo_points_snd (g : sl_G) : sl_Snd g mo_points_y prog_14_method_61_code 2 (some .int) 1 (mo_points_pt) := by
  intro As μ Q hw h
  unfold mo_points_pt at h
  split at h
  next c0 a0 a1 =>
    split at h
    next e_ =>
      subst e_
      split at h
      next e_ =>
        subst e_
        refine sl_mk2 g [true, true] (cst := [some (.inr (.inr (some (12, 104)))), some (.inl a1)]) (lv0 := [none, none]) (by decide) rfl hw rfl rfl rfl lk_mo_ok (mo_points_hc g) mo_points_tb rfl ?_
        intro X M
        exact ⟨_, sl_VV0, h⟩
      next => exact h.elim
    next => exact h.elim
  next => exact h.elim
def mo_apart (a1 : Int32) (μ : sl_M) (Q : Int32 → sl_M → Prop) : Prop := ∀ m1, m1 = sl_up μ 104 5 (0 : Int32) → mo_layTaken m1 (fun m2 => (a1 = (-1 : Int32) → Q (m2 104 16) m2) ∧ (¬ a1 = (-1 : Int32) → mo_in a1.toInt64 ((0 : Int32).toInt64) (((m2 104 16) - (1 : Int32)).toInt64) m2 (fun r4 m3 => (r4 = (0 : Int32) → Q (-1 : Int32) m3) ∧ (¬ r4 = (0 : Int32) → vp_in a1 30 ∧ Q (m3 119 a1.toNatClampNeg) m3))))
def mo_apart_pt : sl_PT := fun As μ Q => match As with
  | [.inr (.inr (some (c0, a0))), .inl a1] => if c0 = 12 then (if a0 = 104 then (mo_apart a1 μ (fun r μ' => Q (some (.inl r)) μ')) else False) else False
  | _ => False
def mo_apart_cd : List sl_Ent := [(0, .aload_n 0, 1, 0, [0], [], false), (1, .iconst 0, 1, 0, [], [], false), (2, .putfield 113, 3, 0, [12, 5, 0], [], false), (5, .aload_n 0, 1, 0, [0], [], false), (6, .invokevirtual 262, 3, 0, [0], [], false), (9, .iload_n 1, 1, 0, [1], [], false), (10, .iconst (-1), 1, (-1), [], [], false), (11, .if_icmp .ne 10, 3, 0, [21], [], false), (14, .aload_n 0, 1, 0, [0], [], false), (15, .getfield 259, 3, 0, [12, 16, 0, 0, 0], [], false), (18, .goto 29, 3, 0, [47], [], false), (21, .iload_n 1, 1, 0, [1], [], false), (22, .i2l, 1, 0, [], [], false), (23, .lconst 0, 1, 0, [], [], false), (24, .aload_n 0, 1, 0, [0], [], false), (25, .getfield 259, 3, 0, [12, 16, 0, 0, 0], [], false), (28, .iconst 1, 1, 1, [], [], false), (29, .isub, 1, 0, [], [], false), (30, .i2l, 1, 0, [], [], false), (31, .invokestatic 119, 3, 0, [1], [], false), (34, .ifCond .eq 12, 3, 0, [46], [], false), (37, .aload_n 0, 1, 0, [0], [], false), (38, .getfield 52, 3, 0, [12, 17, 2, 20, 15], [], false), (41, .iload_n 1, 1, 0, [1], [], false), (42, .iaload, 1, 0, [], [], false), (43, .goto 4, 3, 0, [47], [], false), (46, .iconst (-1), 1, (-1), [], [], false), (47, .ireturn, 1, 0, [], [], false)]
def mo_apart_y : MethodName := ⟨"SpanLayersModel", "apart", "(I)I"⟩
theorem mo_apart_tb : sl_tbOK sl_R12 prog_14_method_62_code 2 (some .int) lk_mo [(262, 0), (119, 1)] mo_apart_cd = true := by decide +kernel
def mo_apart_ct : List sl_Ct := [(1, 0, 12, mo_layTaken_pt), (3, 1, 0, mo_in_pt)]
theorem mo_apart_hc (g : sl_G) : sl_HC g sl_R12 1 mo_apart_ct [(262, 0), (119, 1)] := sl_HC_cons (cs_mo_262 g (by decide)) (sl_HC_cons (cs_mo_119 g (by decide)) (sl_HC_nil g sl_R12 1))
set_option maxRecDepth 20000 in
set_option maxHeartbeats 2000000 in
theorem mo_apart_snd (g : sl_G) : sl_Snd g mo_apart_y prog_14_method_62_code 2 (some .int) 1 (mo_apart_pt) := by
  intro As μ Q hw h
  unfold mo_apart_pt at h
  split at h
  next c0 a0 a1 =>
    split at h
    next e_ =>
      subst e_
      split at h
      next e_ =>
        subst e_
        refine sl_mk2 g [true, true] (cst := [some (.inr (.inr (some (12, 104)))), some (.inl a1)]) (lv0 := [none, none]) (by decide) rfl hw rfl rfl rfl lk_mo_ok (mo_apart_hc g) mo_apart_tb rfl ?_
        intro X M
        exact ⟨_, sl_VV0, h⟩
      next => exact h.elim
    next => exact h.elim
  next => exact h.elim
def mo_heaviest_B79 (Q : Int32 → sl_M → Prop) (k7 : Int32 → sl_M → Prop) (k30 : Int32 → Int32 → sl_M → Prop) : Int32 → Int32 → Int32 → sl_M → Prop
  | x1, x2, x3, μ => vp_in (x1 + (1 : Int32)) 1001 ∧ (x3 ≤ (μ 120 (x1 + (1 : Int32)).toNatClampNeg) → vp_in (x1 + (1 : Int32)) 1001 ∧ vp_in (x1 + (1 : Int32)) 1001 ∧ ∀ m3, m3 = sl_up μ 120 (x1 + (1 : Int32)).toNatClampNeg (μ 120 (x1 + (1 : Int32)).toNatClampNeg) → k30 x1 (x2 + (1 : Int32)) m3) ∧ (¬ x3 ≤ (μ 120 (x1 + (1 : Int32)).toNatClampNeg) → vp_in (x1 + (1 : Int32)) 1001 ∧ ∀ m4, m4 = sl_up μ 120 (x1 + (1 : Int32)).toNatClampNeg x3 → k30 x1 (x2 + (1 : Int32)) m4)
def mo_heaviest_L30 (Q : Int32 → sl_M → Prop) (k7 : Int32 → sl_M → Prop) : Nat → Int32 → Int32 → sl_M → Prop
  | 0, _, _, _ => False
  | n + 1, x1, x2, μ => (x2 < (30 : Int32) → vp_in x2 30 ∧ ((μ 108 x2.toNatClampNeg) = (1 : Int32) → vp_in x2 30 ∧ ((μ 106 x2.toNatClampNeg) = x1 → vp_in x2 30 ∧ vp_in (μ 105 x2.toNatClampNeg) 1001 ∧ vp_in x2 30 ∧ mo_heaviest_B79 Q k7 (mo_heaviest_L30 Q k7 n) x1 x2 ((μ 120 (μ 105 x2.toNatClampNeg).toNatClampNeg) + (μ 107 x2.toNatClampNeg)) μ) ∧ (¬ (μ 106 x2.toNatClampNeg) = x1 → mo_heaviest_B79 Q k7 (mo_heaviest_L30 Q k7 n) x1 x2 (0 : Int32) μ)) ∧ (¬ (μ 108 x2.toNatClampNeg) = (1 : Int32) → mo_heaviest_B79 Q k7 (mo_heaviest_L30 Q k7 n) x1 x2 (0 : Int32) μ)) ∧ (¬ x2 < (30 : Int32) → k7 (x1 + (1 : Int32)) μ)
def mo_heaviest_L7 (Q : Int32 → sl_M → Prop) : Nat → Int32 → sl_M → Prop
  | 0, _, _ => False
  | n + 1, x1, μ => (x1 < (1000 : Int32) → vp_in x1 1001 ∧ vp_in (x1 + (1 : Int32)) 1001 ∧ ∀ m1, m1 = sl_up μ 120 (x1 + (1 : Int32)).toNatClampNeg (μ 120 x1.toNatClampNeg) → ∃ n2, mo_heaviest_L30 Q (mo_heaviest_L7 Q n) n2 x1 (0 : Int32) m1) ∧ (¬ x1 < (1000 : Int32) → vp_in (1000 : Int32) 1001 ∧ Q (μ 120 (1000 : Int32).toNatClampNeg) μ)
def mo_heaviest (μ : sl_M) (Q : Int32 → sl_M → Prop) : Prop := ∀ m5, m5 = sl_up μ 104 5 (0 : Int32) → ∃ n6, mo_heaviest_L7 Q n6 (0 : Int32) m5
def mo_heaviest_pt : sl_PT := fun As μ Q => match As with
  | [.inr (.inr (some (c0, a0)))] => if c0 = 12 then (if a0 = 104 then (mo_heaviest μ (fun r μ' => Q (some (.inl r)) μ')) else False) else False
  | _ => False
def mo_heaviest_cd : List sl_Ent := [(0, .aload_n 0, 1, 0, [0], [], false), (1, .iconst 0, 1, 0, [], [], false), (2, .putfield 113, 3, 0, [12, 5, 0], [], false), (5, .iconst 0, 1, 0, [], [], false), (6, .istore_n 1, 1, 0, [1], [], false), (7, .iload_n 1, 1, 0, [1], [], true), (8, .sipush 1000, 3, 1000, [], [], false), (11, .if_icmp .ge 112, 3, 0, [123], [], false), (14, .aload_n 0, 1, 0, [0], [], false), (15, .getfield 55, 3, 0, [12, 18, 2, 20, 16], [], false), (18, .iload_n 1, 1, 0, [1], [], false), (19, .iconst 1, 1, 1, [], [], false), (20, .iadd, 1, 0, [], [], false), (21, .aload_n 0, 1, 0, [0], [], false), (22, .getfield 55, 3, 0, [12, 18, 2, 20, 16], [], false), (25, .iload_n 1, 1, 0, [1], [], false), (26, .iaload, 1, 0, [], [], false), (27, .iastore, 1, 0, [], [], false), (28, .iconst 0, 1, 0, [], [], false), (29, .istore_n 2, 1, 0, [2], [], false), (30, .iload_n 2, 1, 0, [2], [], true), (31, .bipush 30, 2, 30, [], [], false), (33, .if_icmp .ge 84, 3, 0, [117], [], false), (36, .aload_n 0, 1, 0, [0], [], false), (37, .getfield 19, 3, 0, [12, 3, 2, 20, 4], [], false), (40, .iload_n 2, 1, 0, [2], [], false), (41, .iaload, 1, 0, [], [], false), (42, .iconst 1, 1, 1, [], [], false), (43, .if_icmp .ne 34, 3, 0, [77], [], false), (46, .aload_n 0, 1, 0, [0], [], false), (47, .getfield 13, 3, 0, [12, 1, 2, 20, 2], [], false), (50, .iload_n 2, 1, 0, [2], [], false), (51, .iaload, 1, 0, [], [], false), (52, .iload_n 1, 1, 0, [1], [], false), (53, .if_icmp .ne 24, 3, 0, [77], [], false), (56, .aload_n 0, 1, 0, [0], [], false), (57, .getfield 55, 3, 0, [12, 18, 2, 20, 16], [], false), (60, .aload_n 0, 1, 0, [0], [], false), (61, .getfield 7, 3, 0, [12, 0, 2, 20, 1], [], false), (64, .iload_n 2, 1, 0, [2], [], false), (65, .iaload, 1, 0, [], [], false), (66, .iaload, 1, 0, [], [], false), (67, .aload_n 0, 1, 0, [0], [], false), (68, .getfield 16, 3, 0, [12, 2, 2, 20, 3], [], false), (71, .iload_n 2, 1, 0, [2], [], false), (72, .iaload, 1, 0, [], [], false), (73, .iadd, 1, 0, [], [], false), (74, .goto 4, 3, 0, [78], [], false), (77, .iconst 0, 1, 0, [], [], false), (78, .istore_n 3, 1, 0, [3], [], false), (79, .aload_n 0, 1, 0, [0], [], true), (80, .getfield 55, 3, 0, [12, 18, 2, 20, 16], [], false), (83, .iload_n 1, 1, 0, [1], [], false), (84, .iconst 1, 1, 1, [], [], false), (85, .iadd, 1, 0, [], [], false), (86, .iload_n 3, 1, 0, [3], [], false), (87, .aload_n 0, 1, 0, [0], [], false), (88, .getfield 55, 3, 0, [12, 18, 2, 20, 16], [], false), (91, .iload_n 1, 1, 0, [1], [], false), (92, .iconst 1, 1, 1, [], [], false), (93, .iadd, 1, 0, [], [], false), (94, .iaload, 1, 0, [], [], false), (95, .if_icmp .le 7, 3, 0, [102], [], false), (98, .iload_n 3, 1, 0, [3], [], false), (99, .goto 11, 3, 0, [110], [], false), (102, .aload_n 0, 1, 0, [0], [], false), (103, .getfield 55, 3, 0, [12, 18, 2, 20, 16], [], false), (106, .iload_n 1, 1, 0, [1], [], false), (107, .iconst 1, 1, 1, [], [], false), (108, .iadd, 1, 0, [], [], false), (109, .iaload, 1, 0, [], [], false), (110, .iastore, 1, 0, [], [], false), (111, .iinc 2 1, 3, 1, [], [], false), (114, .goto (-84), 3, 0, [30], [], false), (117, .iinc 1 1, 3, 1, [], [], false), (120, .goto (-113), 3, 0, [7], [], false), (123, .aload_n 0, 1, 0, [0], [], false), (124, .getfield 55, 3, 0, [12, 18, 2, 20, 16], [], false), (127, .sipush 1000, 3, 1000, [], [], false), (130, .iaload, 1, 0, [], [], false), (131, .ireturn, 1, 0, [], [], false)]
def mo_heaviest_y : MethodName := ⟨"SpanLayersModel", "heaviest", "()I"⟩
theorem mo_heaviest_tb : sl_tbOK sl_R12 prog_14_method_63_code 4 (some .int) lk_mo [] mo_heaviest_cd = true := by decide +kernel
def mo_heaviest_ct : List sl_Ct := []
theorem mo_heaviest_hc (g : sl_G) : sl_HC g sl_R12 0 mo_heaviest_ct [] := sl_HC_nil g sl_R12 0
set_option maxRecDepth 20000 in
set_option maxHeartbeats 2000000 in
theorem mo_heaviest_snd (g : sl_G) : sl_Snd g mo_heaviest_y prog_14_method_63_code 4 (some .int) 0 (mo_heaviest_pt) := by
  intro As μ Q hw h
  unfold mo_heaviest_pt at h
  split at h
  next c0 a0 =>
    split at h
    next e_ =>
      subst e_
      split at h
      next e_ =>
        subst e_
        refine sl_mk2 g [true, false, false, false] (cst := [some (.inr (.inr (some (12, 104))))]) (lv0 := [none, none, none, none]) (by decide) rfl hw rfl rfl rfl lk_mo_ok (mo_heaviest_hc g) mo_heaviest_tb rfl ?_
        intro X M
        have v7 := sl_extL M sl_VV0 7 (fun n lv st μ => match lv, st with | [_, some (.inl x1), _, _], [] => mo_heaviest_L7 (fun r μ' => Q (some (.inl r)) μ') n x1 μ | _, _ => False) (by
            intro lv st μ h
            split at h
            · exact h
            · exact h) (by
            intro n7 w7
            have v30 := sl_extL M w7 30 (fun n lv st μ => match lv, st with | [_, some (.inl x1), some (.inl x2), _], [] => mo_heaviest_L30 (fun r μ' => Q (some (.inl r)) μ') (mo_heaviest_L7 (fun r μ' => Q (some (.inl r)) μ') n7) n x1 x2 μ | _, _ => False) (by
                intro lv st μ h
                split at h
                · exact h
                · exact h) (by
                intro n30 w30
                have v79 := sl_ext M w30 79 (fun lv st μ => match lv, st with | [_, some (.inl x1), some (.inl x2), some (.inl x3)], [] => mo_heaviest_B79 (fun r μ' => Q (some (.inl r)) μ') (mo_heaviest_L7 (fun r μ' => Q (some (.inl r)) μ') n7) (mo_heaviest_L30 (fun r μ' => Q (some (.inl r)) μ') (mo_heaviest_L7 (fun r μ' => Q (some (.inl r)) μ') n7) n30) x1 x2 x3 μ | _, _ => False) (by
                    intro lv st μ h
                    split at h
                    · exact h
                    · exact h.elim)
                refine ⟨_, v79, ?_⟩
                intro lv st μ h
                split at h
                · exact h
                · exact h.elim)
            refine ⟨_, v30, ?_⟩
            intro lv st μ h
            split at h
            · exact h
            · exact h.elim)
        exact ⟨_, v7, h⟩
      next => exact h.elim
    next => exact h.elim
  next => exact h.elim
def mo_groupBits_L4 (a1 : Int32) (Q : Int32 → sl_M → Prop) : Nat → Int32 → Int32 → sl_M → Prop
  | 0, _, _, _ => False
  | n + 1, x2, x3, μ => (x3 < (30 : Int32) → vp_in x3 30 ∧ ((μ 108 x3.toNatClampNeg) = (1 : Int32) → vp_in x3 30 ∧ ((μ 106 x3.toNatClampNeg) = a1 → ∀ v1, v1 = (x2 ||| ((1 : Int32) <<< (x3 &&& 31))) → (mo_groupBits_L4 a1 Q n) v1 (x3 + (1 : Int32)) μ) ∧ (¬ (μ 106 x3.toNatClampNeg) = a1 → ∀ v2, v2 = (x2 ||| (0 : Int32)) → (mo_groupBits_L4 a1 Q n) v2 (x3 + (1 : Int32)) μ)) ∧ (¬ (μ 108 x3.toNatClampNeg) = (1 : Int32) → ∀ v3, v3 = (x2 ||| (0 : Int32)) → (mo_groupBits_L4 a1 Q n) v3 (x3 + (1 : Int32)) μ)) ∧ (¬ x3 < (30 : Int32) → Q x2 μ)
def mo_groupBits (a1 : Int32) (μ : sl_M) (Q : Int32 → sl_M → Prop) : Prop := ∃ n4, mo_groupBits_L4 a1 Q n4 (0 : Int32) (0 : Int32) μ
def mo_groupBits_pt : sl_PT := fun As μ Q => match As with
  | [.inr (.inr (some (c0, a0))), .inl a1] => if c0 = 12 then (if a0 = 104 then (mo_groupBits a1 μ (fun r μ' => Q (some (.inl r)) μ')) else False) else False
  | _ => False
def mo_groupBits_cd : List sl_Ent := [(0, .iconst 0, 1, 0, [], [], false), (1, .istore_n 2, 1, 0, [2], [], false), (2, .iconst 0, 1, 0, [], [], false), (3, .istore_n 3, 1, 0, [3], [], false), (4, .iload_n 3, 1, 0, [3], [], true), (5, .bipush 30, 2, 30, [], [], false), (7, .if_icmp .ge 39, 3, 0, [46], [], false), (10, .iload_n 2, 1, 0, [2], [], false), (11, .aload_n 0, 1, 0, [0], [], false), (12, .getfield 19, 3, 0, [12, 3, 2, 20, 4], [], false), (15, .iload_n 3, 1, 0, [3], [], false), (16, .iaload, 1, 0, [], [], false), (17, .iconst 1, 1, 1, [], [], false), (18, .if_icmp .ne 19, 3, 0, [37], [], false), (21, .aload_n 0, 1, 0, [0], [], false), (22, .getfield 13, 3, 0, [12, 1, 2, 20, 2], [], false), (25, .iload_n 3, 1, 0, [3], [], false), (26, .iaload, 1, 0, [], [], false), (27, .iload_n 1, 1, 0, [1], [], false), (28, .if_icmp .ne 9, 3, 0, [37], [], false), (31, .iconst 1, 1, 1, [], [], false), (32, .iload_n 3, 1, 0, [3], [], false), (33, .ishl, 1, 0, [], [], false), (34, .goto 4, 3, 0, [38], [], false), (37, .iconst 0, 1, 0, [], [], false), (38, .ior, 1, 0, [], [], false), (39, .istore_n 2, 1, 0, [2, 1], [], false), (40, .iinc 3 1, 3, 1, [], [], false), (43, .goto (-39), 3, 0, [4], [], false), (46, .iload_n 2, 1, 0, [2], [], false), (47, .ireturn, 1, 0, [], [], false)]
def mo_groupBits_y : MethodName := ⟨"SpanLayersModel", "groupBits", "(I)I"⟩
theorem mo_groupBits_tb : sl_tbOK sl_R12 prog_14_method_64_code 4 (some .int) lk_mo [] mo_groupBits_cd = true := by decide +kernel
def mo_groupBits_ct : List sl_Ct := []
theorem mo_groupBits_hc (g : sl_G) : sl_HC g sl_R12 0 mo_groupBits_ct [] := sl_HC_nil g sl_R12 0
set_option maxRecDepth 20000 in
set_option maxHeartbeats 2000000 in
theorem mo_groupBits_snd (g : sl_G) : sl_Snd g mo_groupBits_y prog_14_method_64_code 4 (some .int) 0 (mo_groupBits_pt) := by
  intro As μ Q hw h
  unfold mo_groupBits_pt at h
  split at h
  next c0 a0 a1 =>
    split at h
    next e_ =>
      subst e_
      split at h
      next e_ =>
        subst e_
        refine sl_mk2 g [true, true, false, false] (cst := [some (.inr (.inr (some (12, 104)))), some (.inl a1)]) (lv0 := [none, none, none, none]) (by decide) rfl hw rfl rfl rfl lk_mo_ok (mo_groupBits_hc g) mo_groupBits_tb rfl ?_
        intro X M
        have v4 := sl_extL M sl_VV0 4 (fun n lv st μ => match lv, st with | [_, _, some (.inl x2), some (.inl x3)], [] => mo_groupBits_L4 a1 (fun r μ' => Q (some (.inl r)) μ') n x2 x3 μ | _, _ => False) (by
            intro lv st μ h
            split at h
            · exact h
            · exact h) (by
            intro n4 w4
            refine ⟨_, w4, ?_⟩
            intro lv st μ h
            split at h
            · exact h
            · exact h.elim)
        exact ⟨_, v4, h⟩
      next => exact h.elim
    next => exact h.elim
  next => exact h.elim
def mo_groupOf_L7 (a1 : Int32) (Q : Int32 → sl_M → Prop) : Nat → Int32 → Int32 → Int32 → sl_M → Prop
  | 0, _, _, _, _ => False
  | n + 1, x2, x3, x4, μ => (x4 < (1000 : Int32) → mo_groupBits x4 μ (fun r2 m1 => (r2 = (0 : Int32) → (mo_groupOf_L7 a1 Q n) x2 x3 (x4 + (1 : Int32)) m1) ∧ (¬ r2 = (0 : Int32) → (x2 = a1 → (mo_groupOf_L7 a1 Q n) (x2 + (1 : Int32)) x4 (x4 + (1 : Int32)) m1) ∧ (¬ x2 = a1 → (mo_groupOf_L7 a1 Q n) (x2 + (1 : Int32)) x3 (x4 + (1 : Int32)) m1)))) ∧ (¬ x4 < (1000 : Int32) → (a1 = (-1 : Int32) → Q x2 μ) ∧ (¬ a1 = (-1 : Int32) → Q x3 μ))
def mo_groupOf (a1 : Int32) (μ : sl_M) (Q : Int32 → sl_M → Prop) : Prop := ∃ n3, mo_groupOf_L7 a1 Q n3 (0 : Int32) (-1 : Int32) (0 : Int32) μ
def mo_groupOf_pt : sl_PT := fun As μ Q => match As with
  | [.inr (.inr (some (c0, a0))), .inl a1] => if c0 = 12 then (if a0 = 104 then (mo_groupOf a1 μ (fun r μ' => Q (some (.inl r)) μ')) else False) else False
  | _ => False
def mo_groupOf_cd : List sl_Ent := [(0, .iconst 0, 1, 0, [], [], false), (1, .istore_n 2, 1, 0, [2], [], false), (2, .iconst (-1), 1, (-1), [], [], false), (3, .istore_n 3, 1, 0, [3], [], false), (4, .iconst 0, 1, 0, [], [], false), (5, .istore 4, 2, 0, [4], [], false), (7, .iload 4, 2, 0, [4], [], true), (9, .sipush 1000, 3, 1000, [], [], false), (12, .if_icmp .ge 33, 3, 0, [45], [], false), (15, .aload_n 0, 1, 0, [0], [], false), (16, .iload 4, 2, 0, [4], [], false), (18, .invokevirtual 265, 3, 0, [0], [], false), (21, .ifCond .eq 18, 3, 0, [39], [], false), (24, .iload_n 2, 1, 0, [2], [], false), (25, .iload_n 1, 1, 0, [1], [], false), (26, .if_icmp .ne 8, 3, 0, [34], [], false), (29, .iload 4, 2, 0, [4], [], false), (31, .goto 4, 3, 0, [35], [], false), (34, .iload_n 3, 1, 0, [3], [], false), (35, .istore_n 3, 1, 0, [3], [], false), (36, .iinc 2 1, 3, 1, [], [], false), (39, .iinc 4 1, 3, 1, [], [], false), (42, .goto (-35), 3, 0, [7], [], false), (45, .iload_n 1, 1, 0, [1], [], false), (46, .iconst (-1), 1, (-1), [], [], false), (47, .if_icmp .ne 7, 3, 0, [54], [], false), (50, .iload_n 2, 1, 0, [2], [], false), (51, .goto 4, 3, 0, [55], [], false), (54, .iload_n 3, 1, 0, [3], [], false), (55, .ireturn, 1, 0, [], [], false)]
def mo_groupOf_y : MethodName := ⟨"SpanLayersModel", "groupOf", "(I)I"⟩
theorem mo_groupOf_tb : sl_tbOK sl_R12 prog_14_method_65_code 5 (some .int) lk_mo [(265, 0)] mo_groupOf_cd = true := by decide +kernel
theorem mo_groupBits_w2 : Cond.instanceMethod mo_groupBits_y ∈ sl_T0 := sl_in1 1426 (by decide +kernel) rfl
theorem mo_groupBits_w3 : Cond.selects mo_groupBits_y.cls mo_groupBits_y mo_groupBits_y ∈ sl_T0 := sl_in1 52 (by decide +kernel) rfl
theorem mo_groupBits_w4 : Cond.initialized mo_groupBits_y.cls ∈ sl_T0 := sl_in1 97 (by decide +kernel) rfl
theorem mo_groupBits_w5 : Cond.code mo_groupBits_y prog_14_method_64_code 4 (some .int) ∈ sl_T0 := sl_in1 1427 (by decide +kernel) rfl
theorem mo_groupBits_w6 : mo_groupBits_y.cls ≠ "java/lang/invoke/MethodHandle" ∧ mo_groupBits_y.cls ≠ "java/lang/invoke/VarHandle" ∧ (parseMethodDescriptor mo_groupBits_y.desc).map (fun d => d.parameters.length) = some 1 := by decide +kernel
theorem cs_mo_265 (g : sl_G) {hh : Nat} (h : 1 ≤ hh) : sl_CallS g sl_R12 265 0 12 hh 2 mo_groupBits_pt := sl_callV (y := mo_groupBits_y) (T := sl_F12) (N := 50) (mo_groupBits_snd g) h (by decide) (sl_in1 1424 (by decide +kernel) rfl) mo_groupBits_w2 mo_groupBits_w3 mo_groupBits_w4 mo_groupBits_w5 mo_groupBits_w6 rfl (by decide)
def mo_groupOf_ct : List sl_Ct := [(2, 0, 12, mo_groupBits_pt)]
theorem mo_groupOf_hc (g : sl_G) : sl_HC g sl_R12 1 mo_groupOf_ct [(265, 0)] := sl_HC_cons (cs_mo_265 g (by decide)) (sl_HC_nil g sl_R12 1)
set_option maxRecDepth 20000 in
set_option maxHeartbeats 2000000 in
theorem mo_groupOf_snd (g : sl_G) : sl_Snd g mo_groupOf_y prog_14_method_65_code 5 (some .int) 1 (mo_groupOf_pt) := by
  intro As μ Q hw h
  unfold mo_groupOf_pt at h
  split at h
  next c0 a0 a1 =>
    split at h
    next e_ =>
      subst e_
      split at h
      next e_ =>
        subst e_
        refine sl_mk2 g [true, true, false, false, false] (cst := [some (.inr (.inr (some (12, 104)))), some (.inl a1)]) (lv0 := [none, none, none, none, none]) (by decide) rfl hw rfl rfl rfl lk_mo_ok (mo_groupOf_hc g) mo_groupOf_tb rfl ?_
        intro X M
        have v7 := sl_extL M sl_VV0 7 (fun n lv st μ => match lv, st with | [_, _, some (.inl x2), some (.inl x3), some (.inl x4)], [] => mo_groupOf_L7 a1 (fun r μ' => Q (some (.inl r)) μ') n x2 x3 x4 μ | _, _ => False) (by
            intro lv st μ h
            split at h
            · exact h
            · exact h) (by
            intro n7 w7
            refine ⟨_, w7, ?_⟩
            intro lv st μ h
            split at h
            · exact h
            · exact h.elim)
        exact ⟨_, v7, h⟩
      next => exact h.elim
    next => exact h.elim
  next => exact h.elim
def mo_weightOf_L4 (a1 : Int32) (Q : Int32 → sl_M → Prop) : Nat → Int32 → Int32 → sl_M → Prop
  | 0, _, _, _ => False
  | n + 1, x2, x3, μ => (x3 < (30 : Int32) → vp_in x3 30 ∧ ∀ v1, v1 = (x2 + (((a1 >>> (x3 &&& 31)) &&& (1 : Int32)) * (μ 107 x3.toNatClampNeg))) → (mo_weightOf_L4 a1 Q n) v1 (x3 + (1 : Int32)) μ) ∧ (¬ x3 < (30 : Int32) → Q x2 μ)
def mo_weightOf (a1 : Int32) (μ : sl_M) (Q : Int32 → sl_M → Prop) : Prop := ∃ n2, mo_weightOf_L4 a1 Q n2 (0 : Int32) (0 : Int32) μ
def mo_weightOf_pt : sl_PT := fun As μ Q => match As with
  | [.inr (.inr (some (c0, a0))), .inl a1] => if c0 = 12 then (if a0 = 104 then (mo_weightOf a1 μ (fun r μ' => Q (some (.inl r)) μ')) else False) else False
  | _ => False
def mo_weightOf_cd : List sl_Ent := [(0, .iconst 0, 1, 0, [], [], false), (1, .istore_n 2, 1, 0, [2], [], false), (2, .iconst 0, 1, 0, [], [], false), (3, .istore_n 3, 1, 0, [3], [], false), (4, .iload_n 3, 1, 0, [3], [], true), (5, .bipush 30, 2, 30, [], [], false), (7, .if_icmp .ge 24, 3, 0, [31], [], false), (10, .iload_n 2, 1, 0, [2], [], false), (11, .iload_n 1, 1, 0, [1], [], false), (12, .iload_n 3, 1, 0, [3], [], false), (13, .ishr, 1, 0, [], [], false), (14, .iconst 1, 1, 1, [], [], false), (15, .iand, 1, 0, [], [], false), (16, .aload_n 0, 1, 0, [0], [], false), (17, .getfield 16, 3, 0, [12, 2, 2, 20, 3], [], false), (20, .iload_n 3, 1, 0, [3], [], false), (21, .iaload, 1, 0, [], [], false), (22, .imul, 1, 0, [], [], false), (23, .iadd, 1, 0, [], [], false), (24, .istore_n 2, 1, 0, [2, 1], [], false), (25, .iinc 3 1, 3, 1, [], [], false), (28, .goto (-24), 3, 0, [4], [], false), (31, .iload_n 2, 1, 0, [2], [], false), (32, .ireturn, 1, 0, [], [], false)]
def mo_weightOf_y : MethodName := ⟨"SpanLayersModel", "weightOf", "(I)I"⟩
theorem mo_weightOf_tb : sl_tbOK sl_R12 prog_14_method_66_code 4 (some .int) lk_mo [] mo_weightOf_cd = true := by decide +kernel
def mo_weightOf_ct : List sl_Ct := []
theorem mo_weightOf_hc (g : sl_G) : sl_HC g sl_R12 0 mo_weightOf_ct [] := sl_HC_nil g sl_R12 0
set_option maxRecDepth 20000 in
set_option maxHeartbeats 2000000 in
theorem mo_weightOf_snd (g : sl_G) : sl_Snd g mo_weightOf_y prog_14_method_66_code 4 (some .int) 0 (mo_weightOf_pt) := by
  intro As μ Q hw h
  unfold mo_weightOf_pt at h
  split at h
  next c0 a0 a1 =>
    split at h
    next e_ =>
      subst e_
      split at h
      next e_ =>
        subst e_
        refine sl_mk2 g [true, true, false, false] (cst := [some (.inr (.inr (some (12, 104)))), some (.inl a1)]) (lv0 := [none, none, none, none]) (by decide) rfl hw rfl rfl rfl lk_mo_ok (mo_weightOf_hc g) mo_weightOf_tb rfl ?_
        intro X M
        have v4 := sl_extL M sl_VV0 4 (fun n lv st μ => match lv, st with | [_, _, some (.inl x2), some (.inl x3)], [] => mo_weightOf_L4 a1 (fun r μ' => Q (some (.inl r)) μ') n x2 x3 μ | _, _ => False) (by
            intro lv st μ h
            split at h
            · exact h
            · exact h) (by
            intro n4 w4
            refine ⟨_, w4, ?_⟩
            intro lv st μ h
            split at h
            · exact h
            · exact h.elim)
        exact ⟨_, v4, h⟩
      next => exact h.elim
    next => exact h.elim
  next => exact h.elim
def mo_group (a1 : Int32) (a2 : Int32) (μ : sl_M) (Q : Int32 → sl_M → Prop) : Prop := ∀ m1, m1 = sl_up μ 104 5 (0 : Int32) → (a1 < (0 : Int32) → Q (-1 : Int32) m1) ∧ (¬ a1 < (0 : Int32) → mo_in a2.toInt64 ((0 : Int32).toInt64) ((3 : Int32).toInt64) m1 (fun r3 m2 => (r3 = (0 : Int32) → Q (-1 : Int32) m2) ∧ (¬ r3 = (0 : Int32) → mo_groupOf a1 m2 (fun r5 m4 => (r5 < (0 : Int32) → Q (-1 : Int32) m4) ∧ (¬ r5 < (0 : Int32) → mo_groupOf a1 m4 (fun r7 m6 => mo_groupBits r7 m6 (fun r9 m8 => (a2 = (0 : Int32) → mo_groupOf a1 m8 (fun r11 m10 => Q r11 m10)) ∧ (¬ a2 = (0 : Int32) → (a2 = (1 : Int32) → mo_onesOf r9 m8 (fun r13 m12 => Q r13 m12)) ∧ (¬ a2 = (1 : Int32) → (a2 = (2 : Int32) → Q r9 m8) ∧ (¬ a2 = (2 : Int32) → mo_weightOf r9 m8 (fun r15 m14 => Q r15 m14)))))))))))
def mo_group_pt : sl_PT := fun As μ Q => match As with
  | [.inr (.inr (some (c0, a0))), .inl a1, .inl a2] => if c0 = 12 then (if a0 = 104 then (mo_group a1 a2 μ (fun r μ' => Q (some (.inl r)) μ')) else False) else False
  | _ => False
def mo_group_cd : List sl_Ent := [(0, .aload_n 0, 1, 0, [0], [], false), (1, .iconst 0, 1, 0, [], [], false), (2, .putfield 113, 3, 0, [12, 5, 0], [], false), (5, .iload_n 1, 1, 0, [1], [], false), (6, .ifCond .lt 23, 3, 0, [29], [], false), (9, .iload_n 2, 1, 0, [2], [], false), (10, .i2l, 1, 0, [], [], false), (11, .lconst 0, 1, 0, [], [], false), (12, .ldc2_w 211, 3, 3, [], [], false), (15, .invokestatic 119, 3, 0, [0], [], false), (18, .ifCond .eq 11, 3, 0, [29], [], false), (21, .aload_n 0, 1, 0, [0], [], false), (22, .iload_n 1, 1, 0, [1], [], false), (23, .invokevirtual 268, 3, 0, [1], [], false), (26, .ifCond .ge 5, 3, 0, [31], [], false), (29, .iconst (-1), 1, (-1), [], [], false), (30, .ireturn, 1, 0, [], [], false), (31, .aload_n 0, 1, 0, [0], [], false), (32, .aload_n 0, 1, 0, [0], [], false), (33, .iload_n 1, 1, 0, [1], [], false), (34, .invokevirtual 268, 3, 0, [1], [], false), (37, .invokevirtual 265, 3, 0, [2], [], false), (40, .istore_n 3, 1, 0, [3], [], false), (41, .iload_n 2, 1, 0, [2], [], false), (42, .ifCond .ne 11, 3, 0, [53], [], false), (45, .aload_n 0, 1, 0, [0], [], false), (46, .iload_n 1, 1, 0, [1], [], false), (47, .invokevirtual 268, 3, 0, [1], [], false), (50, .goto 30, 3, 0, [80], [], false), (53, .iload_n 2, 1, 0, [2], [], false), (54, .iconst 1, 1, 1, [], [], false), (55, .if_icmp .ne 11, 3, 0, [66], [], false), (58, .aload_n 0, 1, 0, [0], [], false), (59, .iload_n 3, 1, 0, [3], [], false), (60, .invokevirtual 248, 3, 0, [3], [], false), (63, .goto 17, 3, 0, [80], [], false), (66, .iload_n 2, 1, 0, [2], [], false), (67, .iconst 2, 1, 2, [], [], false), (68, .if_icmp .ne 7, 3, 0, [75], [], false), (71, .iload_n 3, 1, 0, [3], [], false), (72, .goto 8, 3, 0, [80], [], false), (75, .aload_n 0, 1, 0, [0], [], false), (76, .iload_n 3, 1, 0, [3], [], false), (77, .invokevirtual 271, 3, 0, [4], [], false), (80, .ireturn, 1, 0, [], [], false)]
def mo_group_y : MethodName := ⟨"SpanLayersModel", "group", "(II)I"⟩
theorem mo_group_tb : sl_tbOK sl_R12 prog_14_method_67_code 4 (some .int) lk_mo [(119, 1), (268, 0), (265, 0), (248, 0), (271, 0)] mo_group_cd = true := by decide +kernel
theorem mo_groupOf_w2 : Cond.instanceMethod mo_groupOf_y ∈ sl_T0 := sl_in1 1422 (by decide +kernel) rfl
theorem mo_groupOf_w3 : Cond.selects mo_groupOf_y.cls mo_groupOf_y mo_groupOf_y ∈ sl_T0 := sl_in1 51 (by decide +kernel) rfl
theorem mo_groupOf_w4 : Cond.initialized mo_groupOf_y.cls ∈ sl_T0 := sl_in1 97 (by decide +kernel) rfl
theorem mo_groupOf_w5 : Cond.code mo_groupOf_y prog_14_method_65_code 5 (some .int) ∈ sl_T0 := sl_in1 1423 (by decide +kernel) rfl
theorem mo_groupOf_w6 : mo_groupOf_y.cls ≠ "java/lang/invoke/MethodHandle" ∧ mo_groupOf_y.cls ≠ "java/lang/invoke/VarHandle" ∧ (parseMethodDescriptor mo_groupOf_y.desc).map (fun d => d.parameters.length) = some 1 := by decide +kernel
theorem cs_mo_268 (g : sl_G) {hh : Nat} (h : 2 ≤ hh) : sl_CallS g sl_R12 268 0 12 hh 2 mo_groupOf_pt := sl_callV (y := mo_groupOf_y) (T := sl_F12) (N := 50) (mo_groupOf_snd g) h (by decide) (sl_in1 1420 (by decide +kernel) rfl) mo_groupOf_w2 mo_groupOf_w3 mo_groupOf_w4 mo_groupOf_w5 mo_groupOf_w6 rfl (by decide)
theorem mo_weightOf_w2 : Cond.instanceMethod mo_weightOf_y ∈ sl_T0 := sl_in1 1430 (by decide +kernel) rfl
theorem mo_weightOf_w3 : Cond.selects mo_weightOf_y.cls mo_weightOf_y mo_weightOf_y ∈ sl_T0 := sl_in1 53 (by decide +kernel) rfl
theorem mo_weightOf_w4 : Cond.initialized mo_weightOf_y.cls ∈ sl_T0 := sl_in1 97 (by decide +kernel) rfl
theorem mo_weightOf_w5 : Cond.code mo_weightOf_y prog_14_method_66_code 4 (some .int) ∈ sl_T0 := sl_in1 1431 (by decide +kernel) rfl
theorem mo_weightOf_w6 : mo_weightOf_y.cls ≠ "java/lang/invoke/MethodHandle" ∧ mo_weightOf_y.cls ≠ "java/lang/invoke/VarHandle" ∧ (parseMethodDescriptor mo_weightOf_y.desc).map (fun d => d.parameters.length) = some 1 := by decide +kernel
theorem cs_mo_271 (g : sl_G) {hh : Nat} (h : 1 ≤ hh) : sl_CallS g sl_R12 271 0 12 hh 2 mo_weightOf_pt := sl_callV (y := mo_weightOf_y) (T := sl_F12) (N := 50) (mo_weightOf_snd g) h (by decide) (sl_in1 1428 (by decide +kernel) rfl) mo_weightOf_w2 mo_weightOf_w3 mo_weightOf_w4 mo_weightOf_w5 mo_weightOf_w6 rfl (by decide)
def mo_group_ct : List sl_Ct := [(3, 1, 0, mo_in_pt), (2, 0, 12, mo_groupOf_pt), (2, 0, 12, mo_groupBits_pt), (2, 0, 12, mo_onesOf_pt), (2, 0, 12, mo_weightOf_pt)]
theorem mo_group_hc (g : sl_G) : sl_HC g sl_R12 2 mo_group_ct [(119, 1), (268, 0), (265, 0), (248, 0), (271, 0)] := sl_HC_cons (cs_mo_119 g (by decide)) (sl_HC_cons (cs_mo_268 g (by decide)) (sl_HC_cons (cs_mo_265 g (by decide)) (sl_HC_cons (cs_mo_248 g (by decide)) (sl_HC_cons (cs_mo_271 g (by decide)) (sl_HC_nil g sl_R12 2)))))
set_option maxRecDepth 20000 in
set_option maxHeartbeats 2000000 in
theorem mo_group_snd (g : sl_G) : sl_Snd g mo_group_y prog_14_method_67_code 4 (some .int) 2 (mo_group_pt) := by
  intro As μ Q hw h
  unfold mo_group_pt at h
  split at h
  next c0 a0 a1 a2 =>
    split at h
    next e_ =>
      subst e_
      split at h
      next e_ =>
        subst e_
        refine sl_mk2 g [true, true, true, false] (cst := [some (.inr (.inr (some (12, 104)))), some (.inl a1), some (.inl a2)]) (lv0 := [none, none, none, none]) (by decide) rfl hw rfl rfl rfl lk_mo_ok (mo_group_hc g) mo_group_tb rfl ?_
        intro X M
        exact ⟨_, sl_VV0, h⟩
      next => exact h.elim
    next => exact h.elim
  next => exact h.elim
def mo_feed (a1 : Int32) (μ : sl_M) (Q : Int32 → sl_M → Prop) : Prop := ∀ m1, m1 = sl_up μ 104 5 (0 : Int32) → mo_in a1.toInt64 ((1 : Int32).toInt64) ((127 : Int32).toInt64) m1 (fun r3 m2 => (r3 = (0 : Int32) → Q (-2 : Int32) m2) ∧ (¬ r3 = (0 : Int32) → ((m2 104 20) = (80 : Int32) → Q (-4 : Int32) m2) ∧ (¬ (m2 104 20) = (80 : Int32) → vp_in (m2 104 20) 80 ∧ ∀ m4, m4 = sl_up m2 121 (m2 104 20).toNatClampNeg a1 → ∀ m5, m5 = sl_up m4 104 20 ((m4 104 20) + (1 : Int32)) → Q (m5 104 20) m5)))
def mo_feed_pt : sl_PT := fun As μ Q => match As with
  | [.inr (.inr (some (c0, a0))), .inl a1] => if c0 = 12 then (if a0 = 104 then (mo_feed a1 μ (fun r μ' => Q (some (.inl r)) μ')) else False) else False
  | _ => False
def mo_feed_cd : List sl_Ent := [(0, .aload_n 0, 1, 0, [0], [], false), (1, .iconst 0, 1, 0, [], [], false), (2, .putfield 113, 3, 0, [12, 5, 0], [], false), (5, .iload_n 1, 1, 0, [1], [], false), (6, .i2l, 1, 0, [], [], false), (7, .lconst 1, 1, 1, [], [], false), (8, .ldc2_w 274, 3, 127, [], [], false), (11, .invokestatic 119, 3, 0, [0], [], false), (14, .ifCond .ne 6, 3, 0, [20], [], false), (17, .bipush (-2), 2, (-2), [], [], false), (19, .ireturn, 1, 0, [], [], false), (20, .aload_n 0, 1, 0, [0], [], false), (21, .getfield 276, 3, 0, [12, 20, 0, 0, 0], [], false), (24, .bipush 80, 2, 80, [], [], false), (26, .if_icmp .ne 6, 3, 0, [32], [], false), (29, .bipush (-4), 2, (-4), [], [], false), (31, .ireturn, 1, 0, [], [], false), (32, .aload_n 0, 1, 0, [0], [], false), (33, .getfield 58, 3, 0, [12, 19, 2, 20, 17], [], false), (36, .aload_n 0, 1, 0, [0], [], false), (37, .getfield 276, 3, 0, [12, 20, 0, 0, 0], [], false), (40, .iload_n 1, 1, 0, [1], [], false), (41, .iastore, 1, 0, [], [], false), (42, .aload_n 0, 1, 0, [0], [], false), (43, .dup, 1, 0, [], [], false), (44, .getfield 276, 3, 0, [12, 20, 0, 0, 0], [], false), (47, .iconst 1, 1, 1, [], [], false), (48, .iadd, 1, 0, [], [], false), (49, .putfield 276, 3, 0, [12, 20, 0], [], false), (52, .aload_n 0, 1, 0, [0], [], false), (53, .getfield 276, 3, 0, [12, 20, 0, 0, 0], [], false), (56, .ireturn, 1, 0, [], [], false)]
def mo_feed_y : MethodName := ⟨"SpanLayersModel", "feed", "(I)I"⟩
theorem mo_feed_tb : sl_tbOK sl_R12 prog_14_method_68_code 2 (some .int) lk_mo [(119, 1)] mo_feed_cd = true := by decide +kernel
def mo_feed_ct : List sl_Ct := [(3, 1, 0, mo_in_pt)]
theorem mo_feed_hc (g : sl_G) : sl_HC g sl_R12 1 mo_feed_ct [(119, 1)] := sl_HC_cons (cs_mo_119 g (by decide)) (sl_HC_nil g sl_R12 1)
set_option maxRecDepth 20000 in
set_option maxHeartbeats 2000000 in
theorem mo_feed_snd (g : sl_G) : sl_Snd g mo_feed_y prog_14_method_68_code 2 (some .int) 1 (mo_feed_pt) := by
  intro As μ Q hw h
  unfold mo_feed_pt at h
  split at h
  next c0 a0 a1 =>
    split at h
    next e_ =>
      subst e_
      split at h
      next e_ =>
        subst e_
        refine sl_mk2 g [true, true] (cst := [some (.inr (.inr (some (12, 104)))), some (.inl a1)]) (lv0 := [none, none]) (by decide) rfl hw rfl rfl rfl lk_mo_ok (mo_feed_hc g) mo_feed_tb rfl ?_
        intro X M
        exact ⟨_, sl_VV0, h⟩
      next => exact h.elim
    next => exact h.elim
  next => exact h.elim
def mo_clear (μ : sl_M) (Q : Int32 → sl_M → Prop) : Prop := ∀ m1, m1 = sl_up μ 104 5 (0 : Int32) → ∀ v2, v2 = (m1 104 20) → ∀ m3, m3 = sl_up m1 104 20 (0 : Int32) → Q v2 m3
def mo_clear_pt : sl_PT := fun As μ Q => match As with
  | [.inr (.inr (some (c0, a0)))] => if c0 = 12 then (if a0 = 104 then (mo_clear μ (fun r μ' => Q (some (.inl r)) μ')) else False) else False
  | _ => False
def mo_clear_cd : List sl_Ent := [(0, .aload_n 0, 1, 0, [0], [], false), (1, .iconst 0, 1, 0, [], [], false), (2, .putfield 113, 3, 0, [12, 5, 0], [], false), (5, .aload_n 0, 1, 0, [0], [], false), (6, .getfield 276, 3, 0, [12, 20, 0, 0, 0], [], false), (9, .istore_n 1, 1, 0, [1, 1], [], false), (10, .aload_n 0, 1, 0, [0], [], false), (11, .iconst 0, 1, 0, [], [], false), (12, .putfield 276, 3, 0, [12, 20, 0], [], false), (15, .iload_n 1, 1, 0, [1], [], false), (16, .ireturn, 1, 0, [], [], false)]
def mo_clear_y : MethodName := ⟨"SpanLayersModel", "clear", "()I"⟩
theorem mo_clear_tb : sl_tbOK sl_R12 prog_14_method_69_code 2 (some .int) lk_mo [] mo_clear_cd = true := by decide +kernel
def mo_clear_ct : List sl_Ct := []
theorem mo_clear_hc (g : sl_G) : sl_HC g sl_R12 0 mo_clear_ct [] := sl_HC_nil g sl_R12 0
set_option maxRecDepth 20000 in
set_option maxHeartbeats 2000000 in
theorem mo_clear_snd (g : sl_G) : sl_Snd g mo_clear_y prog_14_method_69_code 2 (some .int) 0 (mo_clear_pt) := by
  intro As μ Q hw h
  unfold mo_clear_pt at h
  split at h
  next c0 a0 =>
    split at h
    next e_ =>
      subst e_
      split at h
      next e_ =>
        subst e_
        refine sl_mk2 g [true, false] (cst := [some (.inr (.inr (some (12, 104))))]) (lv0 := [none, none]) (by decide) rfl hw rfl rfl rfl lk_mo_ok (mo_clear_hc g) mo_clear_tb rfl ?_
        intro X M
        exact ⟨_, sl_VV0, h⟩
      next => exact h.elim
    next => exact h.elim
  next => exact h.elim
def mo_here (μ : sl_M) (Q : Int32 → sl_M → Prop) : Prop := ((μ 104 21) < (μ 104 20) → vp_in (μ 104 21) 80 ∧ Q (μ 121 (μ 104 21).toNatClampNeg) μ) ∧ (¬ (μ 104 21) < (μ 104 20) → Q (-1 : Int32) μ)
def mo_here_pt : sl_PT := fun As μ Q => match As with
  | [.inr (.inr (some (c0, a0)))] => if c0 = 12 then (if a0 = 104 then (mo_here μ (fun r μ' => Q (some (.inl r)) μ')) else False) else False
  | _ => False
def mo_here_cd : List sl_Ent := [(0, .aload_n 0, 1, 0, [0], [], false), (1, .getfield 279, 3, 0, [12, 21, 0, 0, 0], [], false), (4, .aload_n 0, 1, 0, [0], [], false), (5, .getfield 276, 3, 0, [12, 20, 0, 0, 0], [], false), (8, .if_icmp .ge 15, 3, 0, [23], [], false), (11, .aload_n 0, 1, 0, [0], [], false), (12, .getfield 58, 3, 0, [12, 19, 2, 20, 17], [], false), (15, .aload_n 0, 1, 0, [0], [], false), (16, .getfield 279, 3, 0, [12, 21, 0, 0, 0], [], false), (19, .iaload, 1, 0, [], [], false), (20, .goto 4, 3, 0, [24], [], false), (23, .iconst (-1), 1, (-1), [], [], false), (24, .ireturn, 1, 0, [], [], false)]
def mo_here_y : MethodName := ⟨"SpanLayersModel", "here", "()I"⟩
theorem mo_here_tb : sl_tbOK sl_R12 prog_14_method_70_code 1 (some .int) lk_mo [] mo_here_cd = true := by decide +kernel
def mo_here_ct : List sl_Ct := []
theorem mo_here_hc (g : sl_G) : sl_HC g sl_R12 0 mo_here_ct [] := sl_HC_nil g sl_R12 0
set_option maxRecDepth 20000 in
set_option maxHeartbeats 2000000 in
theorem mo_here_snd (g : sl_G) : sl_Snd g mo_here_y prog_14_method_70_code 1 (some .int) 0 (mo_here_pt) := by
  intro As μ Q hw h
  unfold mo_here_pt at h
  split at h
  next c0 a0 =>
    split at h
    next e_ =>
      subst e_
      split at h
      next e_ =>
        subst e_
        refine sl_mk2 g [true] (cst := [some (.inr (.inr (some (12, 104))))]) (lv0 := [none]) (by decide) rfl hw rfl rfl rfl lk_mo_ok (mo_here_hc g) mo_here_tb rfl ?_
        intro X M
        exact ⟨_, sl_VV0, h⟩
      next => exact h.elim
    next => exact h.elim
  next => exact h.elim
def mo_goesOn_B21 (a1 : Int32) (Q : Int32 → sl_M → Prop) : Int32 → sl_M → Prop
  | x2, μ => (x2 = (0 : Int32) → ∀ m1, m1 = sl_up μ 104 21 ((μ 104 21) + (0 : Int32)) → sl_bz x2 = x2 ∧ Q x2 m1) ∧ (¬ x2 = (0 : Int32) → ∀ m2, m2 = sl_up μ 104 21 ((μ 104 21) + (1 : Int32)) → sl_bz x2 = x2 ∧ Q x2 m2)
def mo_goesOn (a1 : Int32) (μ : sl_M) (Q : Int32 → sl_M → Prop) : Prop := ((sl_bz (μ 104 22)) = (0 : Int32) → mo_here μ (fun r4 m3 => (r4 = a1 → mo_goesOn_B21 a1 Q (1 : Int32) m3) ∧ (¬ r4 = a1 → mo_goesOn_B21 a1 Q (0 : Int32) m3))) ∧ (¬ (sl_bz (μ 104 22)) = (0 : Int32) → mo_goesOn_B21 a1 Q (0 : Int32) μ)
def mo_goesOn_pt : sl_PT := fun As μ Q => match As with
  | [.inr (.inr (some (c0, a0))), .inl a1] => if c0 = 12 then (if a0 = 104 then (mo_goesOn a1 μ (fun r μ' => Q (some (.inl r)) μ')) else False) else False
  | _ => False
def mo_goesOn_cd : List sl_Ent := [(0, .aload_n 0, 1, 0, [0], [], false), (1, .getfield 282, 3, 0, [12, 22, 1, 0, 0], [], false), (4, .ifCond .ne 15, 3, 0, [19], [], false), (7, .aload_n 0, 1, 0, [0], [], false), (8, .invokevirtual 285, 3, 0, [0], [], false), (11, .iload_n 1, 1, 0, [1], [], false), (12, .if_icmp .ne 7, 3, 0, [19], [], false), (15, .iconst 1, 1, 1, [], [], false), (16, .goto 4, 3, 0, [20], [], false), (19, .iconst 0, 1, 0, [], [], false), (20, .istore_n 2, 1, 0, [2], [], false), (21, .aload_n 0, 1, 0, [0], [], true), (22, .dup, 1, 0, [], [], false), (23, .getfield 279, 3, 0, [12, 21, 0, 0, 0], [], false), (26, .iload_n 2, 1, 0, [2], [], false), (27, .ifCond .eq 7, 3, 0, [34], [], false), (30, .iconst 1, 1, 1, [], [], false), (31, .goto 4, 3, 0, [35], [], false), (34, .iconst 0, 1, 0, [], [], false), (35, .iadd, 1, 0, [], [], false), (36, .putfield 279, 3, 0, [12, 21, 0], [], false), (39, .iload_n 2, 1, 0, [2], [], false), (40, .ireturn, 1, 0, [1], [], false)]
def mo_goesOn_y : MethodName := ⟨"SpanLayersModel", "goesOn", "(I)Z"⟩
theorem mo_goesOn_tb : sl_tbOK sl_R12 prog_14_method_71_code 3 (some .boolean) lk_mo [(285, 0)] mo_goesOn_cd = true := by decide +kernel
theorem mo_here_w2 : Cond.instanceMethod mo_here_y ∈ sl_T0 := sl_in1 1455 (by decide +kernel) rfl
theorem mo_here_w3 : Cond.selects mo_here_y.cls mo_here_y mo_here_y ∈ sl_T0 := sl_in1 56 (by decide +kernel) rfl
theorem mo_here_w4 : Cond.initialized mo_here_y.cls ∈ sl_T0 := sl_in1 97 (by decide +kernel) rfl
theorem mo_here_w5 : Cond.code mo_here_y prog_14_method_70_code 1 (some .int) ∈ sl_T0 := sl_in1 1456 (by decide +kernel) rfl
theorem mo_here_w6 : mo_here_y.cls ≠ "java/lang/invoke/MethodHandle" ∧ mo_here_y.cls ≠ "java/lang/invoke/VarHandle" ∧ (parseMethodDescriptor mo_here_y.desc).map (fun d => d.parameters.length) = some 0 := by decide +kernel
theorem cs_mo_285 (g : sl_G) {hh : Nat} (h : 1 ≤ hh) : sl_CallS g sl_R12 285 0 12 hh 1 mo_here_pt := sl_callV (y := mo_here_y) (T := sl_F12) (N := 50) (mo_here_snd g) h (by decide) (sl_in1 1453 (by decide +kernel) rfl) mo_here_w2 mo_here_w3 mo_here_w4 mo_here_w5 mo_here_w6 rfl (by decide)
def mo_goesOn_ct : List sl_Ct := [(1, 0, 12, mo_here_pt)]
theorem mo_goesOn_hc (g : sl_G) : sl_HC g sl_R12 1 mo_goesOn_ct [(285, 0)] := sl_HC_cons (cs_mo_285 g (by decide)) (sl_HC_nil g sl_R12 1)
set_option maxRecDepth 20000 in
set_option maxHeartbeats 2000000 in
theorem mo_goesOn_snd (g : sl_G) : sl_Snd g mo_goesOn_y prog_14_method_71_code 3 (some .boolean) 1 (mo_goesOn_pt) := by
  intro As μ Q hw h
  unfold mo_goesOn_pt at h
  split at h
  next c0 a0 a1 =>
    split at h
    next e_ =>
      subst e_
      split at h
      next e_ =>
        subst e_
        refine sl_mk2 g [true, true, false] (cst := [some (.inr (.inr (some (12, 104)))), some (.inl a1)]) (lv0 := [none, none, none]) (by decide) rfl hw rfl rfl rfl lk_mo_ok (mo_goesOn_hc g) mo_goesOn_tb rfl ?_
        intro X M
        have v21 := sl_ext M sl_VV0 21 (fun lv st μ => match lv, st with | [_, _, some (.inl x2)], [] => mo_goesOn_B21 a1 (fun r μ' => Q (some (.inl r)) μ') x2 μ | _, _ => False) (by
            intro lv st μ h
            split at h
            · exact h
            · exact h.elim)
        exact ⟨_, v21, h⟩
      next => exact h.elim
    next => exact h.elim
  next => exact h.elim
def mo_wants (a1 : Int32) (μ : sl_M) (Q : sl_M → Prop) : Prop := mo_goesOn a1 μ (fun r2 m1 => (r2 = (0 : Int32) → sl_bz (1 : Int32) = (1 : Int32) ∧ ∀ m3, m3 = sl_up m1 104 22 (1 : Int32) → Q m3) ∧ (¬ r2 = (0 : Int32) → ((sl_bz (m1 104 22)) = (0 : Int32) → sl_bz (0 : Int32) = (0 : Int32) ∧ ∀ m4, m4 = sl_up m1 104 22 (0 : Int32) → Q m4) ∧ (¬ (sl_bz (m1 104 22)) = (0 : Int32) → sl_bz (1 : Int32) = (1 : Int32) ∧ ∀ m5, m5 = sl_up m1 104 22 (1 : Int32) → Q m5)))
def mo_wants_pt : sl_PT := fun As μ Q => match As with
  | [.inr (.inr (some (c0, a0))), .inl a1] => if c0 = 12 then (if a0 = 104 then (mo_wants a1 μ (fun μ' => Q none μ')) else False) else False
  | _ => False
def mo_wants_cd : List sl_Ent := [(0, .aload_n 0, 1, 0, [0], [], false), (1, .aload_n 0, 1, 0, [0], [], false), (2, .iload_n 1, 1, 0, [1], [], false), (3, .invokevirtual 288, 3, 0, [0], [], false), (6, .ifCond .eq 10, 3, 0, [16], [], false), (9, .aload_n 0, 1, 0, [0], [], false), (10, .getfield 282, 3, 0, [12, 22, 1, 0, 0], [], false), (13, .ifCond .eq 7, 3, 0, [20], [], false), (16, .iconst 1, 1, 1, [], [], false), (17, .goto 4, 3, 0, [21], [], false), (20, .iconst 0, 1, 0, [], [], false), (21, .putfield 282, 3, 0, [12, 22, 1], [], false), (24, .return_, 1, 0, [], [], false)]
def mo_wants_y : MethodName := ⟨"SpanLayersModel", "wants", "(I)V"⟩
theorem mo_wants_tb : sl_tbOK sl_R12 prog_14_method_72_code 2 none lk_mo [(288, 0)] mo_wants_cd = true := by decide +kernel
theorem mo_goesOn_w2 : Cond.instanceMethod mo_goesOn_y ∈ sl_T0 := sl_in1 1490 (by decide +kernel) rfl
theorem mo_goesOn_w3 : Cond.selects mo_goesOn_y.cls mo_goesOn_y mo_goesOn_y ∈ sl_T0 := sl_in1 63 (by decide +kernel) rfl
theorem mo_goesOn_w4 : Cond.initialized mo_goesOn_y.cls ∈ sl_T0 := sl_in1 97 (by decide +kernel) rfl
theorem mo_goesOn_w5 : Cond.code mo_goesOn_y prog_14_method_71_code 3 (some .boolean) ∈ sl_T0 := sl_in1 1491 (by decide +kernel) rfl
theorem mo_goesOn_w6 : mo_goesOn_y.cls ≠ "java/lang/invoke/MethodHandle" ∧ mo_goesOn_y.cls ≠ "java/lang/invoke/VarHandle" ∧ (parseMethodDescriptor mo_goesOn_y.desc).map (fun d => d.parameters.length) = some 1 := by decide +kernel
theorem cs_mo_288 (g : sl_G) {hh : Nat} (h : 2 ≤ hh) : sl_CallS g sl_R12 288 0 12 hh 2 mo_goesOn_pt := sl_callV (y := mo_goesOn_y) (T := sl_F12) (N := 50) (mo_goesOn_snd g) h (by decide) (sl_in1 1488 (by decide +kernel) rfl) mo_goesOn_w2 mo_goesOn_w3 mo_goesOn_w4 mo_goesOn_w5 mo_goesOn_w6 rfl (by decide)
def mo_wants_ct : List sl_Ct := [(2, 0, 12, mo_goesOn_pt)]
theorem mo_wants_hc (g : sl_G) : sl_HC g sl_R12 2 mo_wants_ct [(288, 0)] := sl_HC_cons (cs_mo_288 g (by decide)) (sl_HC_nil g sl_R12 2)
set_option maxRecDepth 20000 in
set_option maxHeartbeats 2000000 in
theorem mo_wants_snd (g : sl_G) : sl_Snd g mo_wants_y prog_14_method_72_code 2 none 2 (mo_wants_pt) := by
  intro As μ Q hw h
  unfold mo_wants_pt at h
  split at h
  next c0 a0 a1 =>
    split at h
    next e_ =>
      subst e_
      split at h
      next e_ =>
        subst e_
        refine sl_mk2 g [true, true] (cst := [some (.inr (.inr (some (12, 104)))), some (.inl a1)]) (lv0 := [none, none]) (by decide) rfl hw rfl rfl rfl lk_mo_ok (mo_wants_hc g) mo_wants_tb rfl ?_
        intro X M
        exact ⟨_, sl_VV0, h⟩
      next => exact h.elim
    next => exact h.elim
  next => exact h.elim
def mo_readFigures_L37 (a1 : Int32) (Q : Int32 → sl_M → Prop) : Nat → Int32 → Int32 → sl_M → Prop
  | 0, _, _, _ => False
  | n + 1, x2, x3, μ => (x3 < a1 → ((sl_bz (μ 104 22)) = (0 : Int32) → mo_here μ (fun r2 m1 => mo_in r2.toInt64 ((48 : Int32).toInt64) ((57 : Int32).toInt64) m1 (fun r4 m3 => (r4 = (0 : Int32) → Q x2 m3) ∧ (¬ r4 = (0 : Int32) → mo_here m3 (fun r6 m5 => ∀ v7, v7 = ((((10 : Int32) * x2) + r6) - (48 : Int32)) → ∀ m8, m8 = sl_up m5 104 21 ((m5 104 21) + (1 : Int32)) → (mo_readFigures_L37 a1 Q n) v7 (x3 + (1 : Int32)) m8))))) ∧ (¬ (sl_bz (μ 104 22)) = (0 : Int32) → Q x2 μ)) ∧ (¬ x3 < a1 → Q x2 μ)
def mo_readFigures (a1 : Int32) (μ : sl_M) (Q : Int32 → sl_M → Prop) : Prop := ((sl_bz (μ 104 22)) = (0 : Int32) → mo_here μ (fun r10 m9 => mo_in r10.toInt64 ((48 : Int32).toInt64) ((57 : Int32).toInt64) m9 (fun r12 m11 => (r12 = (0 : Int32) → sl_bz (1 : Int32) = (1 : Int32) ∧ ∀ m13, m13 = sl_up m11 104 22 (1 : Int32) → ∃ n14, mo_readFigures_L37 a1 Q n14 (0 : Int32) (0 : Int32) m13) ∧ (¬ r12 = (0 : Int32) → sl_bz (0 : Int32) = (0 : Int32) ∧ ∀ m15, m15 = sl_up m11 104 22 (0 : Int32) → ∃ n16, mo_readFigures_L37 a1 Q n16 (0 : Int32) (0 : Int32) m15)))) ∧ (¬ (sl_bz (μ 104 22)) = (0 : Int32) → sl_bz (1 : Int32) = (1 : Int32) ∧ ∀ m17, m17 = sl_up μ 104 22 (1 : Int32) → ∃ n18, mo_readFigures_L37 a1 Q n18 (0 : Int32) (0 : Int32) m17)
def mo_readFigures_pt : sl_PT := fun As μ Q => match As with
  | [.inr (.inr (some (c0, a0))), .inl a1] => if c0 = 12 then (if a0 = 104 then (mo_readFigures a1 μ (fun r μ' => Q (some (.inl r)) μ')) else False) else False
  | _ => False
def mo_readFigures_cd : List sl_Ent := [(0, .aload_n 0, 1, 0, [0], [], false), (1, .aload_n 0, 1, 0, [0], [], false), (2, .getfield 282, 3, 0, [12, 22, 1, 0, 0], [], false), (5, .ifCond .ne 20, 3, 0, [25], [], false), (8, .aload_n 0, 1, 0, [0], [], false), (9, .invokevirtual 285, 3, 0, [0], [], false), (12, .i2l, 1, 0, [], [], false), (13, .ldc2_w 291, 3, 48, [], [], false), (16, .ldc2_w 293, 3, 57, [], [], false), (19, .invokestatic 119, 3, 0, [1], [], false), (22, .ifCond .ne 7, 3, 0, [29], [], false), (25, .iconst 1, 1, 1, [], [], false), (26, .goto 4, 3, 0, [30], [], false), (29, .iconst 0, 1, 0, [], [], false), (30, .putfield 282, 3, 0, [12, 22, 1], [], false), (33, .iconst 0, 1, 0, [], [], false), (34, .istore_n 2, 1, 0, [2], [], false), (35, .iconst 0, 1, 0, [], [], false), (36, .istore_n 3, 1, 0, [3], [], false), (37, .iload_n 3, 1, 0, [3], [], true), (38, .iload_n 1, 1, 0, [1], [], false), (39, .if_icmp .ge 56, 3, 0, [95], [], false), (42, .aload_n 0, 1, 0, [0], [], false), (43, .getfield 282, 3, 0, [12, 22, 1, 0, 0], [], false), (46, .ifCond .ne 49, 3, 0, [95], [], false), (49, .aload_n 0, 1, 0, [0], [], false), (50, .invokevirtual 285, 3, 0, [0], [], false), (53, .i2l, 1, 0, [], [], false), (54, .ldc2_w 291, 3, 48, [], [], false), (57, .ldc2_w 293, 3, 57, [], [], false), (60, .invokestatic 119, 3, 0, [1], [], false), (63, .ifCond .eq 32, 3, 0, [95], [], false), (66, .bipush 10, 2, 10, [], [], false), (68, .iload_n 2, 1, 0, [2], [], false), (69, .imul, 1, 0, [], [], false), (70, .aload_n 0, 1, 0, [0], [], false), (71, .invokevirtual 285, 3, 0, [0], [], false), (74, .iadd, 1, 0, [], [], false), (75, .bipush 48, 2, 48, [], [], false), (77, .isub, 1, 0, [], [], false), (78, .istore_n 2, 1, 0, [2, 1], [], false), (79, .aload_n 0, 1, 0, [0], [], false), (80, .dup, 1, 0, [], [], false), (81, .getfield 279, 3, 0, [12, 21, 0, 0, 0], [], false), (84, .iconst 1, 1, 1, [], [], false), (85, .iadd, 1, 0, [], [], false), (86, .putfield 279, 3, 0, [12, 21, 0], [], false), (89, .iinc 3 1, 3, 1, [], [], false), (92, .goto (-55), 3, 0, [37], [], false), (95, .iload_n 2, 1, 0, [2], [], false), (96, .ireturn, 1, 0, [], [], false)]
def mo_readFigures_y : MethodName := ⟨"SpanLayersModel", "readFigures", "(I)I"⟩
theorem mo_readFigures_tb : sl_tbOK sl_R12 prog_14_method_73_code 4 (some .int) lk_mo [(285, 0), (119, 1)] mo_readFigures_cd = true := by decide +kernel
def mo_readFigures_ct : List sl_Ct := [(1, 0, 12, mo_here_pt), (3, 1, 0, mo_in_pt)]
theorem mo_readFigures_hc (g : sl_G) : sl_HC g sl_R12 1 mo_readFigures_ct [(285, 0), (119, 1)] := sl_HC_cons (cs_mo_285 g (by decide)) (sl_HC_cons (cs_mo_119 g (by decide)) (sl_HC_nil g sl_R12 1))
set_option maxRecDepth 20000 in
set_option maxHeartbeats 2000000 in
theorem mo_readFigures_snd (g : sl_G) : sl_Snd g mo_readFigures_y prog_14_method_73_code 4 (some .int) 1 (mo_readFigures_pt) := by
  intro As μ Q hw h
  unfold mo_readFigures_pt at h
  split at h
  next c0 a0 a1 =>
    split at h
    next e_ =>
      subst e_
      split at h
      next e_ =>
        subst e_
        refine sl_mk2 g [true, true, false, false] (cst := [some (.inr (.inr (some (12, 104)))), some (.inl a1)]) (lv0 := [none, none, none, none]) (by decide) rfl hw rfl rfl rfl lk_mo_ok (mo_readFigures_hc g) mo_readFigures_tb rfl ?_
        intro X M
        have v37 := sl_extL M sl_VV0 37 (fun n lv st μ => match lv, st with | [_, _, some (.inl x2), some (.inl x3)], [] => mo_readFigures_L37 a1 (fun r μ' => Q (some (.inl r)) μ') n x2 x3 μ | _, _ => False) (by
            intro lv st μ h
            split at h
            · exact h
            · exact h) (by
            intro n37 w37
            refine ⟨_, w37, ?_⟩
            intro lv st μ h
            split at h
            · exact h
            · exact h.elim)
        exact ⟨_, v37, h⟩
      next => exact h.elim
    next => exact h.elim
  next => exact h.elim
def mo_readSigned (a1 : Int32) (μ : sl_M) (Q : Int32 → sl_M → Prop) : Prop := mo_goesOn (45 : Int32) μ (fun r2 m1 => mo_readFigures a1 m1 (fun r4 m3 => (r2 = (0 : Int32) → Q r4 m3) ∧ (¬ r2 = (0 : Int32) → Q (-r4) m3)))
def mo_readSigned_pt : sl_PT := fun As μ Q => match As with
  | [.inr (.inr (some (c0, a0))), .inl a1] => if c0 = 12 then (if a0 = 104 then (mo_readSigned a1 μ (fun r μ' => Q (some (.inl r)) μ')) else False) else False
  | _ => False
def mo_readSigned_cd : List sl_Ent := [(0, .aload_n 0, 1, 0, [0], [], false), (1, .bipush 45, 2, 45, [], [], false), (3, .invokevirtual 288, 3, 0, [0], [], false), (6, .istore_n 2, 1, 0, [2], [], false), (7, .aload_n 0, 1, 0, [0], [], false), (8, .iload_n 1, 1, 0, [1], [], false), (9, .invokevirtual 295, 3, 0, [1], [], false), (12, .istore_n 3, 1, 0, [3], [], false), (13, .iload_n 2, 1, 0, [2], [], false), (14, .ifCond .eq 8, 3, 0, [22], [], false), (17, .iload_n 3, 1, 0, [3], [], false), (18, .ineg, 1, 0, [], [], false), (19, .goto 4, 3, 0, [23], [], false), (22, .iload_n 3, 1, 0, [3], [], false), (23, .ireturn, 1, 0, [], [], false)]
def mo_readSigned_y : MethodName := ⟨"SpanLayersModel", "readSigned", "(I)I"⟩
theorem mo_readSigned_tb : sl_tbOK sl_R12 prog_14_method_74_code 4 (some .int) lk_mo [(288, 0), (295, 0)] mo_readSigned_cd = true := by decide +kernel
theorem mo_readFigures_w2 : Cond.instanceMethod mo_readFigures_y ∈ sl_T0 := sl_in1 1494 (by decide +kernel) rfl
theorem mo_readFigures_w3 : Cond.selects mo_readFigures_y.cls mo_readFigures_y mo_readFigures_y ∈ sl_T0 := sl_in1 64 (by decide +kernel) rfl
theorem mo_readFigures_w4 : Cond.initialized mo_readFigures_y.cls ∈ sl_T0 := sl_in1 97 (by decide +kernel) rfl
theorem mo_readFigures_w5 : Cond.code mo_readFigures_y prog_14_method_73_code 4 (some .int) ∈ sl_T0 := sl_in1 1495 (by decide +kernel) rfl
theorem mo_readFigures_w6 : mo_readFigures_y.cls ≠ "java/lang/invoke/MethodHandle" ∧ mo_readFigures_y.cls ≠ "java/lang/invoke/VarHandle" ∧ (parseMethodDescriptor mo_readFigures_y.desc).map (fun d => d.parameters.length) = some 1 := by decide +kernel
theorem cs_mo_295 (g : sl_G) {hh : Nat} (h : 2 ≤ hh) : sl_CallS g sl_R12 295 0 12 hh 2 mo_readFigures_pt := sl_callV (y := mo_readFigures_y) (T := sl_F12) (N := 50) (mo_readFigures_snd g) h (by decide) (sl_in1 1492 (by decide +kernel) rfl) mo_readFigures_w2 mo_readFigures_w3 mo_readFigures_w4 mo_readFigures_w5 mo_readFigures_w6 rfl (by decide)
def mo_readSigned_ct : List sl_Ct := [(2, 0, 12, mo_goesOn_pt), (2, 0, 12, mo_readFigures_pt)]
theorem mo_readSigned_hc (g : sl_G) : sl_HC g sl_R12 2 mo_readSigned_ct [(288, 0), (295, 0)] := sl_HC_cons (cs_mo_288 g (by decide)) (sl_HC_cons (cs_mo_295 g (by decide)) (sl_HC_nil g sl_R12 2))
set_option maxRecDepth 20000 in
set_option maxHeartbeats 2000000 in
theorem mo_readSigned_snd (g : sl_G) : sl_Snd g mo_readSigned_y prog_14_method_74_code 4 (some .int) 2 (mo_readSigned_pt) := by
  intro As μ Q hw h
  unfold mo_readSigned_pt at h
  split at h
  next c0 a0 a1 =>
    split at h
    next e_ =>
      subst e_
      split at h
      next e_ =>
        subst e_
        refine sl_mk2 g [true, true, false, false] (cst := [some (.inr (.inr (some (12, 104)))), some (.inl a1)]) (lv0 := [none, none, none, none]) (by decide) rfl hw rfl rfl rfl lk_mo_ok (mo_readSigned_hc g) mo_readSigned_tb rfl ?_
        intro X M
        exact ⟨_, sl_VV0, h⟩
      next => exact h.elim
    next => exact h.elim
  next => exact h.elim
def mo_readNotLess (a1 : Int32) (μ : sl_M) (Q : Int32 → sl_M → Prop) : Prop := ∀ v1, v1 = (μ 104 21) → mo_readFigures (3 : Int32) μ (fun r3 m2 => ((sl_bz (m2 104 22)) = (0 : Int32) → (r3 < a1 → sl_bz (1 : Int32) = (1 : Int32) ∧ ∀ m4, m4 = sl_up m2 104 22 (1 : Int32) → ∀ m5, m5 = sl_up m4 104 21 v1 → Q r3 m5) ∧ (¬ r3 < a1 → Q r3 m2)) ∧ (¬ (sl_bz (m2 104 22)) = (0 : Int32) → Q r3 m2))
def mo_readNotLess_pt : sl_PT := fun As μ Q => match As with
  | [.inr (.inr (some (c0, a0))), .inl a1] => if c0 = 12 then (if a0 = 104 then (mo_readNotLess a1 μ (fun r μ' => Q (some (.inl r)) μ')) else False) else False
  | _ => False
def mo_readNotLess_cd : List sl_Ent := [(0, .aload_n 0, 1, 0, [0], [], false), (1, .getfield 279, 3, 0, [12, 21, 0, 0, 0], [], false), (4, .istore_n 2, 1, 0, [2, 1], [], false), (5, .aload_n 0, 1, 0, [0], [], false), (6, .iconst 3, 1, 3, [], [], false), (7, .invokevirtual 295, 3, 0, [0], [], false), (10, .istore_n 3, 1, 0, [3], [], false), (11, .aload_n 0, 1, 0, [0], [], false), (12, .getfield 282, 3, 0, [12, 22, 1, 0, 0], [], false), (15, .ifCond .ne 18, 3, 0, [33], [], false), (18, .iload_n 3, 1, 0, [3], [], false), (19, .iload_n 1, 1, 0, [1], [], false), (20, .if_icmp .ge 13, 3, 0, [33], [], false), (23, .aload_n 0, 1, 0, [0], [], false), (24, .iconst 1, 1, 1, [], [], false), (25, .putfield 282, 3, 0, [12, 22, 1], [], false), (28, .aload_n 0, 1, 0, [0], [], false), (29, .iload_n 2, 1, 0, [2], [], false), (30, .putfield 279, 3, 0, [12, 21, 0], [], false), (33, .iload_n 3, 1, 0, [3], [], false), (34, .ireturn, 1, 0, [], [], false)]
def mo_readNotLess_y : MethodName := ⟨"SpanLayersModel", "readNotLess", "(I)I"⟩
theorem mo_readNotLess_tb : sl_tbOK sl_R12 prog_14_method_75_code 4 (some .int) lk_mo [(295, 0)] mo_readNotLess_cd = true := by decide +kernel
def mo_readNotLess_ct : List sl_Ct := [(2, 0, 12, mo_readFigures_pt)]
theorem mo_readNotLess_hc (g : sl_G) : sl_HC g sl_R12 2 mo_readNotLess_ct [(295, 0)] := sl_HC_cons (cs_mo_295 g (by decide)) (sl_HC_nil g sl_R12 2)
set_option maxRecDepth 20000 in
set_option maxHeartbeats 2000000 in
theorem mo_readNotLess_snd (g : sl_G) : sl_Snd g mo_readNotLess_y prog_14_method_75_code 4 (some .int) 2 (mo_readNotLess_pt) := by
  intro As μ Q hw h
  unfold mo_readNotLess_pt at h
  split at h
  next c0 a0 a1 =>
    split at h
    next e_ =>
      subst e_
      split at h
      next e_ =>
        subst e_
        refine sl_mk2 g [true, true, false, false] (cst := [some (.inr (.inr (some (12, 104)))), some (.inl a1)]) (lv0 := [none, none, none, none]) (by decide) rfl hw rfl rfl rfl lk_mo_ok (mo_readNotLess_hc g) mo_readNotLess_tb rfl ?_
        intro X M
        exact ⟨_, sl_VV0, h⟩
      next => exact h.elim
    next => exact h.elim
  next => exact h.elim
def mo_wordHere_B72 (Q : Int64 → sl_M → Prop) (k10 : Int64 → Int32 → Int32 → sl_M → Prop) : Int64 → Int32 → Int32 → sl_M → Prop
  | x1, x3, x4, μ => ((lg_cmp x1 (0 : Int32).toInt64) < (0 : Int32) → k10 x1 (9 : Int32) (x4 + (1 : Int32)) μ) ∧ (¬ (lg_cmp x1 (0 : Int32).toInt64) < (0 : Int32) → k10 x1 (x3 + (1 : Int32)) (x4 + (1 : Int32)) μ)
def mo_wordHere_L10 (Q : Int64 → sl_M → Prop) : Nat → Int64 → Int32 → Int32 → sl_M → Prop
  | 0, _, _, _, _ => False
  | n + 1, x1, x3, x4, μ => (x4 < (μ 104 20) → vp_in x4 80 ∧ mo_in ((μ 121 x4.toNatClampNeg).toInt64) ((97 : Int32).toInt64) ((122 : Int32).toInt64) μ (fun r2 m1 => (r2 = (0 : Int32) → Q x1 m1) ∧ (¬ r2 = (0 : Int32) → (x3 < (7 : Int32) → vp_in x4 80 ∧ mo_wordHere_B72 Q (mo_wordHere_L10 Q n) (((((27 : Int32).toInt64 * x1) + (m1 121 x4.toNatClampNeg).toInt64) - (97 : Int32).toInt64) + (1 : Int32).toInt64) x3 x4 m1) ∧ (¬ x3 < (7 : Int32) → mo_wordHere_B72 Q (mo_wordHere_L10 Q n) (-1 : Int32).toInt64 x3 x4 m1)))) ∧ (¬ x4 < (μ 104 20) → Q x1 μ)
def mo_wordHere (μ : sl_M) (Q : Int64 → sl_M → Prop) : Prop := ∃ n3, mo_wordHere_L10 Q n3 (0 : Int32).toInt64 (0 : Int32) (μ 104 21) μ
def mo_wordHere_pt : sl_PT := fun As μ Q => match As with
  | [.inr (.inr (some (c0, a0)))] => if c0 = 12 then (if a0 = 104 then (mo_wordHere μ (fun r μ' => Q (some (.inr (.inl r))) μ')) else False) else False
  | _ => False
def mo_wordHere_cd : List sl_Ent := [(0, .lconst 0, 1, 0, [], [], false), (1, .lstore_n 1, 1, 0, [1], [], false), (2, .iconst 0, 1, 0, [], [], false), (3, .istore_n 3, 1, 0, [3], [], false), (4, .aload_n 0, 1, 0, [0], [], false), (5, .getfield 279, 3, 0, [12, 21, 0, 0, 0], [], false), (8, .istore 4, 2, 0, [4], [], false), (10, .iload 4, 2, 0, [4], [], true), (12, .aload_n 0, 1, 0, [0], [], false), (13, .getfield 276, 3, 0, [12, 20, 0, 0, 0], [], false), (16, .if_icmp .ge 77, 3, 0, [93], [], false), (19, .aload_n 0, 1, 0, [0], [], false), (20, .getfield 58, 3, 0, [12, 19, 2, 20, 17], [], false), (23, .iload 4, 2, 0, [4], [], false), (25, .iaload, 1, 0, [], [], false), (26, .i2l, 1, 0, [], [], false), (27, .ldc2_w 298, 3, 97, [], [], false), (30, .ldc2_w 300, 3, 122, [], [], false), (33, .invokestatic 119, 3, 0, [0], [], false), (36, .ifCond .eq 57, 3, 0, [93], [], false), (39, .iload_n 3, 1, 0, [3], [], false), (40, .bipush 7, 2, 7, [], [], false), (42, .if_icmp .ge 26, 3, 0, [68], [], false), (45, .ldc2_w 302, 3, 27, [], [], false), (48, .lload_n 1, 1, 0, [1], [], false), (49, .lmul, 1, 0, [], [], false), (50, .aload_n 0, 1, 0, [0], [], false), (51, .getfield 58, 3, 0, [12, 19, 2, 20, 17], [], false), (54, .iload 4, 2, 0, [4], [], false), (56, .iaload, 1, 0, [], [], false), (57, .i2l, 1, 0, [], [], false), (58, .ladd, 1, 0, [], [], false), (59, .ldc2_w 298, 3, 97, [], [], false), (62, .lsub, 1, 0, [], [], false), (63, .lconst 1, 1, 1, [], [], false), (64, .ladd, 1, 0, [], [], false), (65, .goto 6, 3, 0, [71], [], false), (68, .ldc2_w 304, 3, (-1), [], [], false), (71, .lstore_n 1, 1, 0, [1], [], false), (72, .lload_n 1, 1, 0, [1], [], true), (73, .lconst 0, 1, 0, [], [], false), (74, .lcmp, 1, 0, [], [], false), (75, .ifCond .ge 8, 3, 0, [83], [], false), (78, .bipush 9, 2, 9, [], [], false), (80, .goto 6, 3, 0, [86], [], false), (83, .iload_n 3, 1, 0, [3], [], false), (84, .iconst 1, 1, 1, [], [], false), (85, .iadd, 1, 0, [], [], false), (86, .istore_n 3, 1, 0, [3], [], false), (87, .iinc 4 1, 3, 1, [], [], false), (90, .goto (-80), 3, 0, [10], [], false), (93, .lload_n 1, 1, 0, [1], [], false), (94, .lreturn, 1, 0, [], [], false)]
def mo_wordHere_y : MethodName := ⟨"SpanLayersModel", "wordHere", "()J"⟩
theorem mo_wordHere_tb : sl_tbOK sl_R12 prog_14_method_76_code 5 (some .long) lk_mo [(119, 1)] mo_wordHere_cd = true := by decide +kernel
def mo_wordHere_ct : List sl_Ct := [(3, 1, 0, mo_in_pt)]
theorem mo_wordHere_hc (g : sl_G) : sl_HC g sl_R12 1 mo_wordHere_ct [(119, 1)] := sl_HC_cons (cs_mo_119 g (by decide)) (sl_HC_nil g sl_R12 1)
set_option maxRecDepth 20000 in
set_option maxHeartbeats 2000000 in
theorem mo_wordHere_snd (g : sl_G) : sl_Snd g mo_wordHere_y prog_14_method_76_code 5 (some .long) 1 (mo_wordHere_pt) := by
  intro As μ Q hw h
  unfold mo_wordHere_pt at h
  split at h
  next c0 a0 =>
    split at h
    next e_ =>
      subst e_
      split at h
      next e_ =>
        subst e_
        refine sl_mk2 g [true, false, false, false, false] (cst := [some (.inr (.inr (some (12, 104))))]) (lv0 := [none, none, none, none, none]) (by decide) rfl hw rfl rfl rfl lk_mo_ok (mo_wordHere_hc g) mo_wordHere_tb rfl ?_
        intro X M
        have v10 := sl_extL M sl_VV0 10 (fun n lv st μ => match lv, st with | [_, some (.inr (.inl x1)), _, some (.inl x3), some (.inl x4)], [] => mo_wordHere_L10 (fun r μ' => Q (some (.inr (.inl r))) μ') n x1 x3 x4 μ | _, _ => False) (by
            intro lv st μ h
            split at h
            · exact h
            · exact h) (by
            intro n10 w10
            have v72 := sl_ext M w10 72 (fun lv st μ => match lv, st with | [_, some (.inr (.inl x1)), _, some (.inl x3), some (.inl x4)], [] => mo_wordHere_B72 (fun r μ' => Q (some (.inr (.inl r))) μ') (mo_wordHere_L10 (fun r μ' => Q (some (.inr (.inl r))) μ') n10) x1 x3 x4 μ | _, _ => False) (by
                intro lv st μ h
                split at h
                · exact h
                · exact h.elim)
            refine ⟨_, v72, ?_⟩
            intro lv st μ h
            split at h
            · exact h
            · exact h.elim)
        exact ⟨_, v10, h⟩
      next => exact h.elim
    next => exact h.elim
  next => exact h.elim
def mo_wordOf_B135 (a0 : Int32) (a1 : Int32) (a2 : Int32) (a3 : Int32) (a4 : Int32) (a5 : Int32) (Q : Int64 → sl_M → Prop) : Int64 → sl_M → Prop
  | x6, μ => (a5 ≤ (0 : Int32) → Q x6 μ) ∧ (¬ a5 ≤ (0 : Int32) → Q (((((27 : Int32).toInt64 * x6) + a5.toInt64) - (97 : Int32).toInt64) + (1 : Int32).toInt64) μ)
def mo_wordOf_B107 (a0 : Int32) (a1 : Int32) (a2 : Int32) (a3 : Int32) (a4 : Int32) (a5 : Int32) (Q : Int64 → sl_M → Prop) : Int64 → sl_M → Prop
  | x6, μ => (a4 ≤ (0 : Int32) → mo_wordOf_B135 a0 a1 a2 a3 a4 a5 Q x6 μ) ∧ (¬ a4 ≤ (0 : Int32) → mo_wordOf_B135 a0 a1 a2 a3 a4 a5 Q (((((27 : Int32).toInt64 * x6) + a4.toInt64) - (97 : Int32).toInt64) + (1 : Int32).toInt64) μ)
def mo_wordOf_B81 (a0 : Int32) (a1 : Int32) (a2 : Int32) (a3 : Int32) (a4 : Int32) (a5 : Int32) (Q : Int64 → sl_M → Prop) : Int64 → sl_M → Prop
  | x6, μ => (a3 ≤ (0 : Int32) → mo_wordOf_B107 a0 a1 a2 a3 a4 a5 Q x6 μ) ∧ (¬ a3 ≤ (0 : Int32) → mo_wordOf_B107 a0 a1 a2 a3 a4 a5 Q (((((27 : Int32).toInt64 * x6) + a3.toInt64) - (97 : Int32).toInt64) + (1 : Int32).toInt64) μ)
def mo_wordOf_B55 (a0 : Int32) (a1 : Int32) (a2 : Int32) (a3 : Int32) (a4 : Int32) (a5 : Int32) (Q : Int64 → sl_M → Prop) : Int64 → sl_M → Prop
  | x6, μ => (a2 ≤ (0 : Int32) → mo_wordOf_B81 a0 a1 a2 a3 a4 a5 Q x6 μ) ∧ (¬ a2 ≤ (0 : Int32) → mo_wordOf_B81 a0 a1 a2 a3 a4 a5 Q (((((27 : Int32).toInt64 * x6) + a2.toInt64) - (97 : Int32).toInt64) + (1 : Int32).toInt64) μ)
def mo_wordOf_B29 (a0 : Int32) (a1 : Int32) (a2 : Int32) (a3 : Int32) (a4 : Int32) (a5 : Int32) (Q : Int64 → sl_M → Prop) : Int64 → sl_M → Prop
  | x6, μ => (a1 ≤ (0 : Int32) → mo_wordOf_B55 a0 a1 a2 a3 a4 a5 Q x6 μ) ∧ (¬ a1 ≤ (0 : Int32) → mo_wordOf_B55 a0 a1 a2 a3 a4 a5 Q (((((27 : Int32).toInt64 * x6) + a1.toInt64) - (97 : Int32).toInt64) + (1 : Int32).toInt64) μ)
def mo_wordOf (a0 : Int32) (a1 : Int32) (a2 : Int32) (a3 : Int32) (a4 : Int32) (a5 : Int32) (μ : sl_M) (Q : Int64 → sl_M → Prop) : Prop := (a0 ≤ (0 : Int32) → mo_wordOf_B29 a0 a1 a2 a3 a4 a5 Q (0 : Int32).toInt64 μ) ∧ (¬ a0 ≤ (0 : Int32) → mo_wordOf_B29 a0 a1 a2 a3 a4 a5 Q (((((27 : Int32).toInt64 * (0 : Int32).toInt64) + a0.toInt64) - (97 : Int32).toInt64) + (1 : Int32).toInt64) μ)
def mo_wordOf_pt : sl_PT := fun As μ Q => match As with
  | [.inl a0, .inl a1, .inl a2, .inl a3, .inl a4, .inl a5] => mo_wordOf a0 a1 a2 a3 a4 a5 μ (fun r μ' => Q (some (.inr (.inl r))) μ')
  | _ => False
def mo_wordOf_cd : List sl_Ent := [(0, .lconst 0, 1, 0, [], [], false), (1, .lstore 6, 2, 0, [6], [], false), (3, .iload_n 0, 1, 0, [0], [], false), (4, .ifCond .le 21, 3, 0, [25], [], false), (7, .ldc2_w 302, 3, 27, [], [], false), (10, .lload 6, 2, 0, [6], [], false), (12, .lmul, 1, 0, [], [], false), (13, .iload_n 0, 1, 0, [0], [], false), (14, .i2l, 1, 0, [], [], false), (15, .ladd, 1, 0, [], [], false), (16, .ldc2_w 298, 3, 97, [], [], false), (19, .lsub, 1, 0, [], [], false), (20, .lconst 1, 1, 1, [], [], false), (21, .ladd, 1, 0, [], [], false), (22, .goto 5, 3, 0, [27], [], false), (25, .lload 6, 2, 0, [6], [], false), (27, .lstore 6, 2, 0, [6], [], false), (29, .iload_n 1, 1, 0, [1], [], true), (30, .ifCond .le 21, 3, 0, [51], [], false), (33, .ldc2_w 302, 3, 27, [], [], false), (36, .lload 6, 2, 0, [6], [], false), (38, .lmul, 1, 0, [], [], false), (39, .iload_n 1, 1, 0, [1], [], false), (40, .i2l, 1, 0, [], [], false), (41, .ladd, 1, 0, [], [], false), (42, .ldc2_w 298, 3, 97, [], [], false), (45, .lsub, 1, 0, [], [], false), (46, .lconst 1, 1, 1, [], [], false), (47, .ladd, 1, 0, [], [], false), (48, .goto 5, 3, 0, [53], [], false), (51, .lload 6, 2, 0, [6], [], false), (53, .lstore 6, 2, 0, [6], [], false), (55, .iload_n 2, 1, 0, [2], [], true), (56, .ifCond .le 21, 3, 0, [77], [], false), (59, .ldc2_w 302, 3, 27, [], [], false), (62, .lload 6, 2, 0, [6], [], false), (64, .lmul, 1, 0, [], [], false), (65, .iload_n 2, 1, 0, [2], [], false), (66, .i2l, 1, 0, [], [], false), (67, .ladd, 1, 0, [], [], false), (68, .ldc2_w 298, 3, 97, [], [], false), (71, .lsub, 1, 0, [], [], false), (72, .lconst 1, 1, 1, [], [], false), (73, .ladd, 1, 0, [], [], false), (74, .goto 5, 3, 0, [79], [], false), (77, .lload 6, 2, 0, [6], [], false), (79, .lstore 6, 2, 0, [6], [], false), (81, .iload_n 3, 1, 0, [3], [], true), (82, .ifCond .le 21, 3, 0, [103], [], false), (85, .ldc2_w 302, 3, 27, [], [], false), (88, .lload 6, 2, 0, [6], [], false), (90, .lmul, 1, 0, [], [], false), (91, .iload_n 3, 1, 0, [3], [], false), (92, .i2l, 1, 0, [], [], false), (93, .ladd, 1, 0, [], [], false), (94, .ldc2_w 298, 3, 97, [], [], false), (97, .lsub, 1, 0, [], [], false), (98, .lconst 1, 1, 1, [], [], false), (99, .ladd, 1, 0, [], [], false), (100, .goto 5, 3, 0, [105], [], false), (103, .lload 6, 2, 0, [6], [], false), (105, .lstore 6, 2, 0, [6], [], false), (107, .iload 4, 2, 0, [4], [], true), (109, .ifCond .le 22, 3, 0, [131], [], false), (112, .ldc2_w 302, 3, 27, [], [], false), (115, .lload 6, 2, 0, [6], [], false), (117, .lmul, 1, 0, [], [], false), (118, .iload 4, 2, 0, [4], [], false), (120, .i2l, 1, 0, [], [], false), (121, .ladd, 1, 0, [], [], false), (122, .ldc2_w 298, 3, 97, [], [], false), (125, .lsub, 1, 0, [], [], false), (126, .lconst 1, 1, 1, [], [], false), (127, .ladd, 1, 0, [], [], false), (128, .goto 5, 3, 0, [133], [], false), (131, .lload 6, 2, 0, [6], [], false), (133, .lstore 6, 2, 0, [6], [], false), (135, .iload 5, 2, 0, [5], [], true), (137, .ifCond .le 22, 3, 0, [159], [], false), (140, .ldc2_w 302, 3, 27, [], [], false), (143, .lload 6, 2, 0, [6], [], false), (145, .lmul, 1, 0, [], [], false), (146, .iload 5, 2, 0, [5], [], false), (148, .i2l, 1, 0, [], [], false), (149, .ladd, 1, 0, [], [], false), (150, .ldc2_w 298, 3, 97, [], [], false), (153, .lsub, 1, 0, [], [], false), (154, .lconst 1, 1, 1, [], [], false), (155, .ladd, 1, 0, [], [], false), (156, .goto 5, 3, 0, [161], [], false), (159, .lload 6, 2, 0, [6], [], false), (161, .lreturn, 1, 0, [], [], false)]
def mo_wordOf_y : MethodName := ⟨"SpanLayersModel", "wordOf", "(IIIIII)J"⟩
theorem mo_wordOf_tb : sl_tbOK sl_R12 prog_14_method_77_code 8 (some .long) lk_mo [] mo_wordOf_cd = true := by decide +kernel
def mo_wordOf_ct : List sl_Ct := []
theorem mo_wordOf_hc (g : sl_G) : sl_HC g sl_R12 0 mo_wordOf_ct [] := sl_HC_nil g sl_R12 0
set_option maxRecDepth 20000 in
set_option maxHeartbeats 2000000 in
theorem mo_wordOf_snd (g : sl_G) : sl_Snd g mo_wordOf_y prog_14_method_77_code 8 (some .long) 0 (mo_wordOf_pt) := by
  intro As μ Q hw h
  unfold mo_wordOf_pt at h
  split at h
  next a0 a1 a2 a3 a4 a5 =>
    refine sl_mk2 g [true, true, true, true, true, true, false, false] (cst := [some (.inl a0), some (.inl a1), some (.inl a2), some (.inl a3), some (.inl a4), some (.inl a5)]) (lv0 := [none, none, none, none, none, none, none, none]) (by decide) rfl hw rfl rfl rfl lk_mo_ok (mo_wordOf_hc g) mo_wordOf_tb rfl ?_
    intro X M
    have v135 := sl_ext M sl_VV0 135 (fun lv st μ => match lv, st with | [_, _, _, _, _, _, some (.inr (.inl x6)), _], [] => mo_wordOf_B135 a0 a1 a2 a3 a4 a5 (fun r μ' => Q (some (.inr (.inl r))) μ') x6 μ | _, _ => False) (by
        intro lv st μ h
        split at h
        · exact h
        · exact h.elim)
    have v107 := sl_ext M v135 107 (fun lv st μ => match lv, st with | [_, _, _, _, _, _, some (.inr (.inl x6)), _], [] => mo_wordOf_B107 a0 a1 a2 a3 a4 a5 (fun r μ' => Q (some (.inr (.inl r))) μ') x6 μ | _, _ => False) (by
        intro lv st μ h
        split at h
        · exact h
        · exact h.elim)
    have v81 := sl_ext M v107 81 (fun lv st μ => match lv, st with | [_, _, _, _, _, _, some (.inr (.inl x6)), _], [] => mo_wordOf_B81 a0 a1 a2 a3 a4 a5 (fun r μ' => Q (some (.inr (.inl r))) μ') x6 μ | _, _ => False) (by
        intro lv st μ h
        split at h
        · exact h
        · exact h.elim)
    have v55 := sl_ext M v81 55 (fun lv st μ => match lv, st with | [_, _, _, _, _, _, some (.inr (.inl x6)), _], [] => mo_wordOf_B55 a0 a1 a2 a3 a4 a5 (fun r μ' => Q (some (.inr (.inl r))) μ') x6 μ | _, _ => False) (by
        intro lv st μ h
        split at h
        · exact h
        · exact h.elim)
    have v29 := sl_ext M v55 29 (fun lv st μ => match lv, st with | [_, _, _, _, _, _, some (.inr (.inl x6)), _], [] => mo_wordOf_B29 a0 a1 a2 a3 a4 a5 (fun r μ' => Q (some (.inr (.inl r))) μ') x6 μ | _, _ => False) (by
        intro lv st μ h
        split at h
        · exact h
        · exact h.elim)
    exact ⟨_, v29, h⟩
  next => exact h.elim
def mo_passWord_L0 (Q : sl_M → Prop) : Nat → sl_M → Prop
  | 0, _ => False
  | n + 1, μ => mo_here μ (fun r2 m1 => mo_in r2.toInt64 ((97 : Int32).toInt64) ((122 : Int32).toInt64) m1 (fun r4 m3 => (r4 = (0 : Int32) → Q m3) ∧ (¬ r4 = (0 : Int32) → ∀ m5, m5 = sl_up m3 104 21 ((m3 104 21) + (1 : Int32)) → (mo_passWord_L0 Q n) m5)))
def mo_passWord (μ : sl_M) (Q : sl_M → Prop) : Prop := ∃ n6, mo_passWord_L0 Q n6 μ
def mo_passWord_pt : sl_PT := fun As μ Q => match As with
  | [.inr (.inr (some (c0, a0)))] => if c0 = 12 then (if a0 = 104 then (mo_passWord μ (fun μ' => Q none μ')) else False) else False
  | _ => False
def mo_passWord_cd : List sl_Ent := [(0, .aload_n 0, 1, 0, [0], [], true), (1, .invokevirtual 285, 3, 0, [0], [], false), (4, .i2l, 1, 0, [], [], false), (5, .ldc2_w 298, 3, 97, [], [], false), (8, .ldc2_w 300, 3, 122, [], [], false), (11, .invokestatic 119, 3, 0, [1], [], false), (14, .ifCond .eq 16, 3, 0, [30], [], false), (17, .aload_n 0, 1, 0, [0], [], false), (18, .dup, 1, 0, [], [], false), (19, .getfield 279, 3, 0, [12, 21, 0, 0, 0], [], false), (22, .iconst 1, 1, 1, [], [], false), (23, .iadd, 1, 0, [], [], false), (24, .putfield 279, 3, 0, [12, 21, 0], [], false), (27, .goto (-27), 3, 0, [0], [], false), (30, .return_, 1, 0, [], [], false)]
def mo_passWord_y : MethodName := ⟨"SpanLayersModel", "passWord", "()V"⟩
theorem mo_passWord_tb : sl_tbOK sl_R12 prog_14_method_78_code 1 none lk_mo [(285, 0), (119, 1)] mo_passWord_cd = true := by decide +kernel
def mo_passWord_ct : List sl_Ct := [(1, 0, 12, mo_here_pt), (3, 1, 0, mo_in_pt)]
theorem mo_passWord_hc (g : sl_G) : sl_HC g sl_R12 1 mo_passWord_ct [(285, 0), (119, 1)] := sl_HC_cons (cs_mo_285 g (by decide)) (sl_HC_cons (cs_mo_119 g (by decide)) (sl_HC_nil g sl_R12 1))
set_option maxRecDepth 20000 in
set_option maxHeartbeats 2000000 in
theorem mo_passWord_snd (g : sl_G) : sl_Snd g mo_passWord_y prog_14_method_78_code 1 none 1 (mo_passWord_pt) := by
  intro As μ Q hw h
  unfold mo_passWord_pt at h
  split at h
  next c0 a0 =>
    split at h
    next e_ =>
      subst e_
      split at h
      next e_ =>
        subst e_
        refine sl_mk2 g [true] (cst := [some (.inr (.inr (some (12, 104))))]) (lv0 := [none]) (by decide) rfl hw rfl rfl rfl lk_mo_ok (mo_passWord_hc g) mo_passWord_tb rfl ?_
        intro X M
        have v0 := sl_extL M sl_VV0 0 (fun n lv st μ => match lv, st with | [_], [] => mo_passWord_L0 (fun μ' => Q none μ') n μ | _, _ => False) (by
            intro lv st μ h
            split at h
            · exact h
            · exact h) (by
            intro n0 w0
            refine ⟨_, w0, ?_⟩
            intro lv st μ h
            split at h
            · exact h
            · exact h.elim)
        exact ⟨_, v0, h⟩
      next => exact h.elim
    next => exact h.elim
  next => exact h.elim
def mo_testWordHere (μ : sl_M) (Q : Int32 → sl_M → Prop) : Prop := mo_wordHere μ (fun r2 m1 => mo_wordOf (108 : Int32) (111 : Int32) (119 : Int32) (0 : Int32) (0 : Int32) (0 : Int32) m1 (fun r4 m3 => ((lg_cmp r2 r4) = (0 : Int32) → Q (0 : Int32) m3) ∧ (¬ (lg_cmp r2 r4) = (0 : Int32) → mo_wordOf (104 : Int32) (105 : Int32) (103 : Int32) (104 : Int32) (0 : Int32) (0 : Int32) m3 (fun r6 m5 => ((lg_cmp r2 r6) = (0 : Int32) → Q (1 : Int32) m5) ∧ (¬ (lg_cmp r2 r6) = (0 : Int32) → mo_wordOf (119 : Int32) (101 : Int32) (105 : Int32) (103 : Int32) (104 : Int32) (116 : Int32) m5 (fun r8 m7 => ((lg_cmp r2 r8) = (0 : Int32) → Q (2 : Int32) m7) ∧ (¬ (lg_cmp r2 r8) = (0 : Int32) → mo_wordOf (108 : Int32) (101 : Int32) (110 : Int32) (103 : Int32) (116 : Int32) (104 : Int32) m7 (fun r10 m9 => ((lg_cmp r2 r10) = (0 : Int32) → Q (3 : Int32) m9) ∧ (¬ (lg_cmp r2 r10) = (0 : Int32) → mo_wordOf (110 : Int32) (117 : Int32) (109 : Int32) (98 : Int32) (101 : Int32) (114 : Int32) m9 (fun r12 m11 => ((lg_cmp r2 r12) = (0 : Int32) → Q (4 : Int32) m11) ∧ (¬ (lg_cmp r2 r12) = (0 : Int32) → mo_wordOf (108 : Int32) (97 : Int32) (121 : Int32) (101 : Int32) (114 : Int32) (0 : Int32) m11 (fun r14 m13 => ((lg_cmp r2 r14) = (0 : Int32) → Q (5 : Int32) m13) ∧ (¬ (lg_cmp r2 r14) = (0 : Int32) → Q (-1 : Int32) m13)))))))))))))
def mo_testWordHere_pt : sl_PT := fun As μ Q => match As with
  | [.inr (.inr (some (c0, a0)))] => if c0 = 12 then (if a0 = 104 then (mo_testWordHere μ (fun r μ' => Q (some (.inl r)) μ')) else False) else False
  | _ => False
def mo_testWordHere_cd : List sl_Ent := [(0, .aload_n 0, 1, 0, [0], [], false), (1, .invokevirtual 306, 3, 0, [0], [], false), (4, .lstore_n 1, 1, 0, [1], [], false), (5, .lload_n 1, 1, 0, [1], [], false), (6, .bipush 108, 2, 108, [], [], false), (8, .bipush 111, 2, 111, [], [], false), (10, .bipush 119, 2, 119, [], [], false), (12, .iconst 0, 1, 0, [], [], false), (13, .iconst 0, 1, 0, [], [], false), (14, .iconst 0, 1, 0, [], [], false), (15, .invokestatic 310, 3, 0, [1], [], false), (18, .lcmp, 1, 0, [], [], false), (19, .ifCond .ne 7, 3, 0, [26], [], false), (22, .iconst 0, 1, 0, [], [], false), (23, .goto 121, 3, 0, [144], [], false), (26, .lload_n 1, 1, 0, [1], [], false), (27, .bipush 104, 2, 104, [], [], false), (29, .bipush 105, 2, 105, [], [], false), (31, .bipush 103, 2, 103, [], [], false), (33, .bipush 104, 2, 104, [], [], false), (35, .iconst 0, 1, 0, [], [], false), (36, .iconst 0, 1, 0, [], [], false), (37, .invokestatic 310, 3, 0, [1], [], false), (40, .lcmp, 1, 0, [], [], false), (41, .ifCond .ne 7, 3, 0, [48], [], false), (44, .iconst 1, 1, 1, [], [], false), (45, .goto 99, 3, 0, [144], [], false), (48, .lload_n 1, 1, 0, [1], [], false), (49, .bipush 119, 2, 119, [], [], false), (51, .bipush 101, 2, 101, [], [], false), (53, .bipush 105, 2, 105, [], [], false), (55, .bipush 103, 2, 103, [], [], false), (57, .bipush 104, 2, 104, [], [], false), (59, .bipush 116, 2, 116, [], [], false), (61, .invokestatic 310, 3, 0, [1], [], false), (64, .lcmp, 1, 0, [], [], false), (65, .ifCond .ne 7, 3, 0, [72], [], false), (68, .iconst 2, 1, 2, [], [], false), (69, .goto 75, 3, 0, [144], [], false), (72, .lload_n 1, 1, 0, [1], [], false), (73, .bipush 108, 2, 108, [], [], false), (75, .bipush 101, 2, 101, [], [], false), (77, .bipush 110, 2, 110, [], [], false), (79, .bipush 103, 2, 103, [], [], false), (81, .bipush 116, 2, 116, [], [], false), (83, .bipush 104, 2, 104, [], [], false), (85, .invokestatic 310, 3, 0, [1], [], false), (88, .lcmp, 1, 0, [], [], false), (89, .ifCond .ne 7, 3, 0, [96], [], false), (92, .iconst 3, 1, 3, [], [], false), (93, .goto 51, 3, 0, [144], [], false), (96, .lload_n 1, 1, 0, [1], [], false), (97, .bipush 110, 2, 110, [], [], false), (99, .bipush 117, 2, 117, [], [], false), (101, .bipush 109, 2, 109, [], [], false), (103, .bipush 98, 2, 98, [], [], false), (105, .bipush 101, 2, 101, [], [], false), (107, .bipush 114, 2, 114, [], [], false), (109, .invokestatic 310, 3, 0, [1], [], false), (112, .lcmp, 1, 0, [], [], false), (113, .ifCond .ne 7, 3, 0, [120], [], false), (116, .iconst 4, 1, 4, [], [], false), (117, .goto 27, 3, 0, [144], [], false), (120, .lload_n 1, 1, 0, [1], [], false), (121, .bipush 108, 2, 108, [], [], false), (123, .bipush 97, 2, 97, [], [], false), (125, .bipush 121, 2, 121, [], [], false), (127, .bipush 101, 2, 101, [], [], false), (129, .bipush 114, 2, 114, [], [], false), (131, .iconst 0, 1, 0, [], [], false), (132, .invokestatic 310, 3, 0, [1], [], false), (135, .lcmp, 1, 0, [], [], false), (136, .ifCond .ne 7, 3, 0, [143], [], false), (139, .iconst 5, 1, 5, [], [], false), (140, .goto 4, 3, 0, [144], [], false), (143, .iconst (-1), 1, (-1), [], [], false), (144, .ireturn, 1, 0, [], [], false)]
def mo_testWordHere_y : MethodName := ⟨"SpanLayersModel", "testWordHere", "()I"⟩
theorem mo_testWordHere_tb : sl_tbOK sl_R12 prog_14_method_79_code 3 (some .int) lk_mo [(306, 0), (310, 1)] mo_testWordHere_cd = true := by decide +kernel
theorem mo_wordHere_w2 : Cond.instanceMethod mo_wordHere_y ∈ sl_T0 := sl_in1 1471 (by decide +kernel) rfl
theorem mo_wordHere_w3 : Cond.selects mo_wordHere_y.cls mo_wordHere_y mo_wordHere_y ∈ sl_T0 := sl_in1 60 (by decide +kernel) rfl
theorem mo_wordHere_w4 : Cond.initialized mo_wordHere_y.cls ∈ sl_T0 := sl_in1 97 (by decide +kernel) rfl
theorem mo_wordHere_w5 : Cond.code mo_wordHere_y prog_14_method_76_code 5 (some .long) ∈ sl_T0 := sl_in1 1472 (by decide +kernel) rfl
theorem mo_wordHere_w6 : mo_wordHere_y.cls ≠ "java/lang/invoke/MethodHandle" ∧ mo_wordHere_y.cls ≠ "java/lang/invoke/VarHandle" ∧ (parseMethodDescriptor mo_wordHere_y.desc).map (fun d => d.parameters.length) = some 0 := by decide +kernel
theorem cs_mo_306 (g : sl_G) {hh : Nat} (h : 2 ≤ hh) : sl_CallS g sl_R12 306 0 12 hh 1 mo_wordHere_pt := sl_callV (y := mo_wordHere_y) (T := sl_F12) (N := 50) (mo_wordHere_snd g) h (by decide) (sl_in1 1469 (by decide +kernel) rfl) mo_wordHere_w2 mo_wordHere_w3 mo_wordHere_w4 mo_wordHere_w5 mo_wordHere_w6 rfl (by decide)
theorem mo_wordOf_w2 : Cond.static mo_wordOf_y ∈ sl_T0 := sl_in1 1478 (by decide +kernel) rfl
theorem mo_wordOf_w4 : Cond.initialized mo_wordOf_y.cls ∈ sl_T0 := sl_in1 97 (by decide +kernel) rfl
theorem mo_wordOf_w5 : Cond.code mo_wordOf_y prog_14_method_77_code 8 (some .long) ∈ sl_T0 := sl_in1 1479 (by decide +kernel) rfl
theorem mo_wordOf_w6 : mo_wordOf_y.cls ≠ "java/lang/invoke/MethodHandle" ∧ mo_wordOf_y.cls ≠ "java/lang/invoke/VarHandle" ∧ (parseMethodDescriptor mo_wordOf_y.desc).map (fun d => d.parameters.length) = some 6 := by decide +kernel
theorem cs_mo_310 (g : sl_G) {hh : Nat} (h : 1 ≤ hh) : sl_CallS g sl_R12 310 1 0 hh 6 mo_wordOf_pt := sl_callS (y := mo_wordOf_y) (mo_wordOf_snd g) h (by decide) (sl_in1 1477 (by decide +kernel) rfl) mo_wordOf_w2 mo_wordOf_w4 mo_wordOf_w5 mo_wordOf_w6
def mo_testWordHere_ct : List sl_Ct := [(1, 0, 12, mo_wordHere_pt), (6, 1, 0, mo_wordOf_pt)]
theorem mo_testWordHere_hc (g : sl_G) : sl_HC g sl_R12 2 mo_testWordHere_ct [(306, 0), (310, 1)] := sl_HC_cons (cs_mo_306 g (by decide)) (sl_HC_cons (cs_mo_310 g (by decide)) (sl_HC_nil g sl_R12 2))
set_option maxRecDepth 20000 in
set_option maxHeartbeats 2000000 in
theorem mo_testWordHere_snd (g : sl_G) : sl_Snd g mo_testWordHere_y prog_14_method_79_code 3 (some .int) 2 (mo_testWordHere_pt) := by
  intro As μ Q hw h
  unfold mo_testWordHere_pt at h
  split at h
  next c0 a0 =>
    split at h
    next e_ =>
      subst e_
      split at h
      next e_ =>
        subst e_
        refine sl_mk2 g [true, false, false] (cst := [some (.inr (.inr (some (12, 104))))]) (lv0 := [none, none, none]) (by decide) rfl hw rfl rfl rfl lk_mo_ok (mo_testWordHere_hc g) mo_testWordHere_tb rfl ?_
        intro X M
        exact ⟨_, sl_VV0, h⟩
      next => exact h.elim
    next => exact h.elim
  next => exact h.elim
def mo_doneIs (a1 : Int32) (μ : sl_M) (Q : sl_M → Prop) : Prop := vp_in (μ 104 23) 90 ∧ ∀ m1, m1 = sl_up μ 122 (μ 104 23).toNatClampNeg a1 → ∀ m2, m2 = sl_up m1 104 23 ((m1 104 23) + (1 : Int32)) → Q m2
def mo_doneIs_pt : sl_PT := fun As μ Q => match As with
  | [.inr (.inr (some (c0, a0))), .inl a1] => if c0 = 12 then (if a0 = 104 then (mo_doneIs a1 μ (fun μ' => Q none μ')) else False) else False
  | _ => False
def mo_doneIs_cd : List sl_Ent := [(0, .aload_n 0, 1, 0, [0], [], false), (1, .getfield 61, 3, 0, [12, 24, 2, 20, 18], [], false), (4, .aload_n 0, 1, 0, [0], [], false), (5, .getfield 314, 3, 0, [12, 23, 0, 0, 0], [], false), (8, .iload_n 1, 1, 0, [1], [], false), (9, .iastore, 1, 0, [], [], false), (10, .aload_n 0, 1, 0, [0], [], false), (11, .dup, 1, 0, [], [], false), (12, .getfield 314, 3, 0, [12, 23, 0, 0, 0], [], false), (15, .iconst 1, 1, 1, [], [], false), (16, .iadd, 1, 0, [], [], false), (17, .putfield 314, 3, 0, [12, 23, 0], [], false), (20, .return_, 1, 0, [], [], false)]
def mo_doneIs_y : MethodName := ⟨"SpanLayersModel", "doneIs", "(I)V"⟩
theorem mo_doneIs_tb : sl_tbOK sl_R12 prog_14_method_80_code 2 none lk_mo [] mo_doneIs_cd = true := by decide +kernel
def mo_doneIs_ct : List sl_Ct := []
theorem mo_doneIs_hc (g : sl_G) : sl_HC g sl_R12 0 mo_doneIs_ct [] := sl_HC_nil g sl_R12 0
set_option maxRecDepth 20000 in
set_option maxHeartbeats 2000000 in
theorem mo_doneIs_snd (g : sl_G) : sl_Snd g mo_doneIs_y prog_14_method_80_code 2 none 0 (mo_doneIs_pt) := by
  intro As μ Q hw h
  unfold mo_doneIs_pt at h
  split at h
  next c0 a0 a1 =>
    split at h
    next e_ =>
      subst e_
      split at h
      next e_ =>
        subst e_
        refine sl_mk2 g [true, true] (cst := [some (.inr (.inr (some (12, 104)))), some (.inl a1)]) (lv0 := [none, none]) (by decide) rfl hw rfl rfl rfl lk_mo_ok (mo_doneIs_hc g) mo_doneIs_tb rfl ?_
        intro X M
        exact ⟨_, sl_VV0, h⟩
      next => exact h.elim
    next => exact h.elim
  next => exact h.elim
def mo_readTest_B100 (Q : sl_M → Prop) : Int32 → Int32 → Int32 → sl_M → Prop
  | x1, x2, x3, μ => vp_in (μ 104 23) 90 ∧ ∀ m12, m12 = sl_up μ 123 (μ 104 23).toNatClampNeg x1 → vp_in (m12 104 23) 90 ∧ ∀ m13, m13 = sl_up m12 124 (m12 104 23).toNatClampNeg x2 → vp_in (m13 104 23) 90 ∧ ∀ m14, m14 = sl_up m13 125 (m13 104 23).toNatClampNeg x3 → mo_doneIs (0 : Int32) m14 (fun m15 => Q m15)
def mo_readTest_B83 (Q : sl_M → Prop) : Int32 → Int32 → sl_M → Prop
  | x1, x2, μ => ((sl_bz (μ 104 22)) = (0 : Int32) → mo_readSigned (3 : Int32) μ (fun r11 m10 => mo_readTest_B100 Q x1 x2 r11 m10)) ∧ (¬ (sl_bz (μ 104 22)) = (0 : Int32) → mo_readTest_B100 Q x1 x2 (0 : Int32) μ)
def mo_readTest_B62 (Q : sl_M → Prop) : Int32 → Int32 → sl_M → Prop
  | x1, x2, μ => ((sl_bz (μ 104 22)) = (0 : Int32) → ∀ m8, m8 = sl_up μ 104 21 ((μ 104 21) + (1 : Int32)) → mo_readTest_B83 Q x1 x2 m8) ∧ (¬ (sl_bz (μ 104 22)) = (0 : Int32) → ∀ m9, m9 = sl_up μ 104 21 ((μ 104 21) + (0 : Int32)) → mo_readTest_B83 Q x1 x2 m9)
def mo_readTest_B18 (Q : sl_M → Prop) : Int32 → sl_M → Prop
  | x1, μ => ((sl_bz (μ 104 22)) = (0 : Int32) → mo_passWord μ (fun m1 => mo_here m1 (fun r3 m2 => (r3 = (60 : Int32) → sl_bz (0 : Int32) = (0 : Int32) ∧ ∀ m4, m4 = sl_up m2 104 22 (0 : Int32) → mo_readTest_B62 Q x1 r3 m4) ∧ (¬ r3 = (60 : Int32) → (r3 = (61 : Int32) → sl_bz (0 : Int32) = (0 : Int32) ∧ ∀ m5, m5 = sl_up m2 104 22 (0 : Int32) → mo_readTest_B62 Q x1 r3 m5) ∧ (¬ r3 = (61 : Int32) → (r3 = (62 : Int32) → sl_bz (0 : Int32) = (0 : Int32) ∧ ∀ m6, m6 = sl_up m2 104 22 (0 : Int32) → mo_readTest_B62 Q x1 r3 m6) ∧ (¬ r3 = (62 : Int32) → sl_bz (1 : Int32) = (1 : Int32) ∧ ∀ m7, m7 = sl_up m2 104 22 (1 : Int32) → mo_readTest_B62 Q x1 r3 m7)))))) ∧ (¬ (sl_bz (μ 104 22)) = (0 : Int32) → Q μ)
def mo_readTest (μ : sl_M) (Q : sl_M → Prop) : Prop := mo_testWordHere μ (fun r17 m16 => (r17 < (0 : Int32) → sl_bz (1 : Int32) = (1 : Int32) ∧ ∀ m18, m18 = sl_up m16 104 22 (1 : Int32) → mo_readTest_B18 Q r17 m18) ∧ (¬ r17 < (0 : Int32) → sl_bz (0 : Int32) = (0 : Int32) ∧ ∀ m19, m19 = sl_up m16 104 22 (0 : Int32) → mo_readTest_B18 Q r17 m19))
def mo_readTest_pt : sl_PT := fun As μ Q => match As with
  | [.inr (.inr (some (c0, a0)))] => if c0 = 12 then (if a0 = 104 then (mo_readTest μ (fun μ' => Q none μ')) else False) else False
  | _ => False
def mo_readTest_cd : List sl_Ent := [(0, .aload_n 0, 1, 0, [0], [], false), (1, .invokevirtual 317, 3, 0, [0], [], false), (4, .istore_n 1, 1, 0, [1], [], false), (5, .aload_n 0, 1, 0, [0], [], false), (6, .iload_n 1, 1, 0, [1], [], false), (7, .ifCond .ge 7, 3, 0, [14], [], false), (10, .iconst 1, 1, 1, [], [], false), (11, .goto 4, 3, 0, [15], [], false), (14, .iconst 0, 1, 0, [], [], false), (15, .putfield 282, 3, 0, [12, 22, 1], [], false), (18, .aload_n 0, 1, 0, [0], [], true), (19, .getfield 282, 3, 0, [12, 22, 1, 0, 0], [], false), (22, .ifCond .eq 4, 3, 0, [26], [], false), (25, .return_, 1, 0, [], [], false), (26, .aload_n 0, 1, 0, [0], [], false), (27, .invokevirtual 320, 3, 0, [1], [], false), (30, .aload_n 0, 1, 0, [0], [], false), (31, .invokevirtual 285, 3, 0, [2], [], false), (34, .istore_n 2, 1, 0, [2], [], false), (35, .aload_n 0, 1, 0, [0], [], false), (36, .iload_n 2, 1, 0, [2], [], false), (37, .bipush 60, 2, 60, [], [], false), (39, .if_icmp .eq 19, 3, 0, [58], [], false), (42, .iload_n 2, 1, 0, [2], [], false), (43, .bipush 61, 2, 61, [], [], false), (45, .if_icmp .eq 13, 3, 0, [58], [], false), (48, .iload_n 2, 1, 0, [2], [], false), (49, .bipush 62, 2, 62, [], [], false), (51, .if_icmp .eq 7, 3, 0, [58], [], false), (54, .iconst 1, 1, 1, [], [], false), (55, .goto 4, 3, 0, [59], [], false), (58, .iconst 0, 1, 0, [], [], false), (59, .putfield 282, 3, 0, [12, 22, 1], [], false), (62, .aload_n 0, 1, 0, [0], [], true), (63, .dup, 1, 0, [], [], false), (64, .getfield 279, 3, 0, [12, 21, 0, 0, 0], [], false), (67, .aload_n 0, 1, 0, [0], [], false), (68, .getfield 282, 3, 0, [12, 22, 1, 0, 0], [], false), (71, .ifCond .eq 7, 3, 0, [78], [], false), (74, .iconst 0, 1, 0, [], [], false), (75, .goto 4, 3, 0, [79], [], false), (78, .iconst 1, 1, 1, [], [], false), (79, .iadd, 1, 0, [], [], false), (80, .putfield 279, 3, 0, [12, 21, 0], [], false), (83, .aload_n 0, 1, 0, [0], [], true), (84, .getfield 282, 3, 0, [12, 22, 1, 0, 0], [], false), (87, .ifCond .eq 7, 3, 0, [94], [], false), (90, .iconst 0, 1, 0, [], [], false), (91, .goto 8, 3, 0, [99], [], false), (94, .aload_n 0, 1, 0, [0], [], false), (95, .iconst 3, 1, 3, [], [], false), (96, .invokevirtual 323, 3, 0, [3], [], false), (99, .istore_n 3, 1, 0, [3], [], false), (100, .aload_n 0, 1, 0, [0], [], true), (101, .getfield 64, 3, 0, [12, 25, 2, 20, 19], [], false), (104, .aload_n 0, 1, 0, [0], [], false), (105, .getfield 314, 3, 0, [12, 23, 0, 0, 0], [], false), (108, .iload_n 1, 1, 0, [1], [], false), (109, .iastore, 1, 0, [], [], false), (110, .aload_n 0, 1, 0, [0], [], false), (111, .getfield 67, 3, 0, [12, 26, 2, 20, 20], [], false), (114, .aload_n 0, 1, 0, [0], [], false), (115, .getfield 314, 3, 0, [12, 23, 0, 0, 0], [], false), (118, .iload_n 2, 1, 0, [2], [], false), (119, .iastore, 1, 0, [], [], false), (120, .aload_n 0, 1, 0, [0], [], false), (121, .getfield 70, 3, 0, [12, 27, 2, 20, 21], [], false), (124, .aload_n 0, 1, 0, [0], [], false), (125, .getfield 314, 3, 0, [12, 23, 0, 0, 0], [], false), (128, .iload_n 3, 1, 0, [3], [], false), (129, .iastore, 1, 0, [], [], false), (130, .aload_n 0, 1, 0, [0], [], false), (131, .iconst 0, 1, 0, [], [], false), (132, .invokevirtual 326, 3, 0, [4], [], false), (135, .return_, 1, 0, [], [], false)]
def mo_readTest_y : MethodName := ⟨"SpanLayersModel", "readTest", "()V"⟩
theorem mo_readTest_tb : sl_tbOK sl_R12 prog_14_method_81_code 4 none lk_mo [(317, 0), (320, 0), (285, 0), (323, 0), (326, 0)] mo_readTest_cd = true := by decide +kernel
theorem mo_testWordHere_w2 : Cond.instanceMethod mo_testWordHere_y ∈ sl_T0 := sl_in1 1467 (by decide +kernel) rfl
theorem mo_testWordHere_w3 : Cond.selects mo_testWordHere_y.cls mo_testWordHere_y mo_testWordHere_y ∈ sl_T0 := sl_in1 59 (by decide +kernel) rfl
theorem mo_testWordHere_w4 : Cond.initialized mo_testWordHere_y.cls ∈ sl_T0 := sl_in1 97 (by decide +kernel) rfl
theorem mo_testWordHere_w5 : Cond.code mo_testWordHere_y prog_14_method_79_code 3 (some .int) ∈ sl_T0 := sl_in1 1468 (by decide +kernel) rfl
theorem mo_testWordHere_w6 : mo_testWordHere_y.cls ≠ "java/lang/invoke/MethodHandle" ∧ mo_testWordHere_y.cls ≠ "java/lang/invoke/VarHandle" ∧ (parseMethodDescriptor mo_testWordHere_y.desc).map (fun d => d.parameters.length) = some 0 := by decide +kernel
theorem cs_mo_317 (g : sl_G) {hh : Nat} (h : 3 ≤ hh) : sl_CallS g sl_R12 317 0 12 hh 1 mo_testWordHere_pt := sl_callV (y := mo_testWordHere_y) (T := sl_F12) (N := 50) (mo_testWordHere_snd g) h (by decide) (sl_in1 1465 (by decide +kernel) rfl) mo_testWordHere_w2 mo_testWordHere_w3 mo_testWordHere_w4 mo_testWordHere_w5 mo_testWordHere_w6 rfl (by decide)
theorem mo_passWord_w2 : Cond.instanceMethod mo_passWord_y ∈ sl_T0 := sl_in1 1482 (by decide +kernel) rfl
theorem mo_passWord_w3 : Cond.selects mo_passWord_y.cls mo_passWord_y mo_passWord_y ∈ sl_T0 := sl_in1 61 (by decide +kernel) rfl
theorem mo_passWord_w4 : Cond.initialized mo_passWord_y.cls ∈ sl_T0 := sl_in1 97 (by decide +kernel) rfl
theorem mo_passWord_w5 : Cond.code mo_passWord_y prog_14_method_78_code 1 none ∈ sl_T0 := sl_in1 1483 (by decide +kernel) rfl
theorem mo_passWord_w6 : mo_passWord_y.cls ≠ "java/lang/invoke/MethodHandle" ∧ mo_passWord_y.cls ≠ "java/lang/invoke/VarHandle" ∧ (parseMethodDescriptor mo_passWord_y.desc).map (fun d => d.parameters.length) = some 0 := by decide +kernel
theorem cs_mo_320 (g : sl_G) {hh : Nat} (h : 2 ≤ hh) : sl_CallS g sl_R12 320 0 12 hh 1 mo_passWord_pt := sl_callV (y := mo_passWord_y) (T := sl_F12) (N := 50) (mo_passWord_snd g) h (by decide) (sl_in1 1480 (by decide +kernel) rfl) mo_passWord_w2 mo_passWord_w3 mo_passWord_w4 mo_passWord_w5 mo_passWord_w6 rfl (by decide)
theorem mo_readSigned_w2 : Cond.instanceMethod mo_readSigned_y ∈ sl_T0 := sl_in1 1486 (by decide +kernel) rfl
theorem mo_readSigned_w3 : Cond.selects mo_readSigned_y.cls mo_readSigned_y mo_readSigned_y ∈ sl_T0 := sl_in1 62 (by decide +kernel) rfl
theorem mo_readSigned_w4 : Cond.initialized mo_readSigned_y.cls ∈ sl_T0 := sl_in1 97 (by decide +kernel) rfl
theorem mo_readSigned_w5 : Cond.code mo_readSigned_y prog_14_method_74_code 4 (some .int) ∈ sl_T0 := sl_in1 1487 (by decide +kernel) rfl
theorem mo_readSigned_w6 : mo_readSigned_y.cls ≠ "java/lang/invoke/MethodHandle" ∧ mo_readSigned_y.cls ≠ "java/lang/invoke/VarHandle" ∧ (parseMethodDescriptor mo_readSigned_y.desc).map (fun d => d.parameters.length) = some 1 := by decide +kernel
theorem cs_mo_323 (g : sl_G) {hh : Nat} (h : 3 ≤ hh) : sl_CallS g sl_R12 323 0 12 hh 2 mo_readSigned_pt := sl_callV (y := mo_readSigned_y) (T := sl_F12) (N := 50) (mo_readSigned_snd g) h (by decide) (sl_in1 1484 (by decide +kernel) rfl) mo_readSigned_w2 mo_readSigned_w3 mo_readSigned_w4 mo_readSigned_w5 mo_readSigned_w6 rfl (by decide)
theorem mo_doneIs_w2 : Cond.instanceMethod mo_doneIs_y ∈ sl_T0 := sl_in1 1500 (by decide +kernel) rfl
theorem mo_doneIs_w3 : Cond.selects mo_doneIs_y.cls mo_doneIs_y mo_doneIs_y ∈ sl_T0 := sl_in1 65 (by decide +kernel) rfl
theorem mo_doneIs_w4 : Cond.initialized mo_doneIs_y.cls ∈ sl_T0 := sl_in1 97 (by decide +kernel) rfl
theorem mo_doneIs_w5 : Cond.code mo_doneIs_y prog_14_method_80_code 2 none ∈ sl_T0 := sl_in1 1501 (by decide +kernel) rfl
theorem mo_doneIs_w6 : mo_doneIs_y.cls ≠ "java/lang/invoke/MethodHandle" ∧ mo_doneIs_y.cls ≠ "java/lang/invoke/VarHandle" ∧ (parseMethodDescriptor mo_doneIs_y.desc).map (fun d => d.parameters.length) = some 1 := by decide +kernel
theorem cs_mo_326 (g : sl_G) {hh : Nat} (h : 1 ≤ hh) : sl_CallS g sl_R12 326 0 12 hh 2 mo_doneIs_pt := sl_callV (y := mo_doneIs_y) (T := sl_F12) (N := 50) (mo_doneIs_snd g) h (by decide) (sl_in1 1498 (by decide +kernel) rfl) mo_doneIs_w2 mo_doneIs_w3 mo_doneIs_w4 mo_doneIs_w5 mo_doneIs_w6 rfl (by decide)
def mo_readTest_ct : List sl_Ct := [(1, 0, 12, mo_testWordHere_pt), (1, 0, 12, mo_passWord_pt), (1, 0, 12, mo_here_pt), (2, 0, 12, mo_readSigned_pt), (2, 0, 12, mo_doneIs_pt)]
theorem mo_readTest_hc (g : sl_G) : sl_HC g sl_R12 3 mo_readTest_ct [(317, 0), (320, 0), (285, 0), (323, 0), (326, 0)] := sl_HC_cons (cs_mo_317 g (by decide)) (sl_HC_cons (cs_mo_320 g (by decide)) (sl_HC_cons (cs_mo_285 g (by decide)) (sl_HC_cons (cs_mo_323 g (by decide)) (sl_HC_cons (cs_mo_326 g (by decide)) (sl_HC_nil g sl_R12 3)))))
set_option maxRecDepth 20000 in
set_option maxHeartbeats 2000000 in
theorem mo_readTest_snd (g : sl_G) : sl_Snd g mo_readTest_y prog_14_method_81_code 4 none 3 (mo_readTest_pt) := by
  intro As μ Q hw h
  unfold mo_readTest_pt at h
  split at h
  next c0 a0 =>
    split at h
    next e_ =>
      subst e_
      split at h
      next e_ =>
        subst e_
        refine sl_mk2 g [true, false, false, false] (cst := [some (.inr (.inr (some (12, 104))))]) (lv0 := [none, none, none, none]) (by decide) rfl hw rfl rfl rfl lk_mo_ok (mo_readTest_hc g) mo_readTest_tb rfl ?_
        intro X M
        have v100 := sl_ext M sl_VV0 100 (fun lv st μ => match lv, st with | [_, some (.inl x1), some (.inl x2), some (.inl x3)], [] => mo_readTest_B100 (fun μ' => Q none μ') x1 x2 x3 μ | _, _ => False) (by
            intro lv st μ h
            split at h
            · exact h
            · exact h.elim)
        have v83 := sl_ext M v100 83 (fun lv st μ => match lv, st with | [_, some (.inl x1), some (.inl x2), _], [] => mo_readTest_B83 (fun μ' => Q none μ') x1 x2 μ | _, _ => False) (by
            intro lv st μ h
            split at h
            · exact h
            · exact h.elim)
        have v62 := sl_ext M v83 62 (fun lv st μ => match lv, st with | [_, some (.inl x1), some (.inl x2), _], [] => mo_readTest_B62 (fun μ' => Q none μ') x1 x2 μ | _, _ => False) (by
            intro lv st μ h
            split at h
            · exact h
            · exact h.elim)
        have v18 := sl_ext M v62 18 (fun lv st μ => match lv, st with | [_, some (.inl x1), _, _], [] => mo_readTest_B18 (fun μ' => Q none μ') x1 μ | _, _ => False) (by
            intro lv st μ h
            split at h
            · exact h
            · exact h.elim)
        exact ⟨_, v18, h⟩
      next => exact h.elim
    next => exact h.elim
  next => exact h.elim
def mo_popsWhile_B37 (a1 : Int32) (a2 : Int32) (Q : sl_M → Prop) (k0 : sl_M → Prop) : sl_M → Prop
  | μ => ∀ m1, m1 = sl_up μ 104 28 ((μ 104 28) - (1 : Int32)) → vp_in (m1 104 28) 90 ∧ mo_doneIs (m1 126 (m1 104 28).toNatClampNeg) m1 (fun m2 => k0 m2)
def mo_popsWhile_L0 (a1 : Int32) (a2 : Int32) (Q : sl_M → Prop) : Nat → sl_M → Prop
  | 0, _ => False
  | n + 1, μ => ((μ 104 28) ≤ (0 : Int32) → Q μ) ∧ (¬ (μ 104 28) ≤ (0 : Int32) → vp_in ((μ 104 28) - (1 : Int32)) 90 ∧ ((μ 126 ((μ 104 28) - (1 : Int32)).toNatClampNeg) = a1 → mo_popsWhile_B37 a1 a2 Q (mo_popsWhile_L0 a1 a2 Q n) μ) ∧ (¬ (μ 126 ((μ 104 28) - (1 : Int32)).toNatClampNeg) = a1 → vp_in ((μ 104 28) - (1 : Int32)) 90 ∧ ((μ 126 ((μ 104 28) - (1 : Int32)).toNatClampNeg) = a2 → mo_popsWhile_B37 a1 a2 Q (mo_popsWhile_L0 a1 a2 Q n) μ) ∧ (¬ (μ 126 ((μ 104 28) - (1 : Int32)).toNatClampNeg) = a2 → Q μ)))
def mo_popsWhile (a1 : Int32) (a2 : Int32) (μ : sl_M) (Q : sl_M → Prop) : Prop := ∃ n3, mo_popsWhile_L0 a1 a2 Q n3 μ
def mo_popsWhile_pt : sl_PT := fun As μ Q => match As with
  | [.inr (.inr (some (c0, a0))), .inl a1, .inl a2] => if c0 = 12 then (if a0 = 104 then (mo_popsWhile a1 a2 μ (fun μ' => Q none μ')) else False) else False
  | _ => False
def mo_popsWhile_cd : List sl_Ent := [(0, .aload_n 0, 1, 0, [0], [], true), (1, .getfield 329, 3, 0, [12, 28, 0, 0, 0], [], false), (4, .ifCond .le 59, 3, 0, [63], [], false), (7, .aload_n 0, 1, 0, [0], [], false), (8, .getfield 73, 3, 0, [12, 29, 2, 20, 22], [], false), (11, .aload_n 0, 1, 0, [0], [], false), (12, .getfield 329, 3, 0, [12, 28, 0, 0, 0], [], false), (15, .iconst 1, 1, 1, [], [], false), (16, .isub, 1, 0, [], [], false), (17, .iaload, 1, 0, [], [], false), (18, .iload_n 1, 1, 0, [1], [], false), (19, .if_icmp .eq 18, 3, 0, [37], [], false), (22, .aload_n 0, 1, 0, [0], [], false), (23, .getfield 73, 3, 0, [12, 29, 2, 20, 22], [], false), (26, .aload_n 0, 1, 0, [0], [], false), (27, .getfield 329, 3, 0, [12, 28, 0, 0, 0], [], false), (30, .iconst 1, 1, 1, [], [], false), (31, .isub, 1, 0, [], [], false), (32, .iaload, 1, 0, [], [], false), (33, .iload_n 2, 1, 0, [2], [], false), (34, .if_icmp .ne 29, 3, 0, [63], [], false), (37, .aload_n 0, 1, 0, [0], [], true), (38, .dup, 1, 0, [], [], false), (39, .getfield 329, 3, 0, [12, 28, 0, 0, 0], [], false), (42, .iconst 1, 1, 1, [], [], false), (43, .isub, 1, 0, [], [], false), (44, .putfield 329, 3, 0, [12, 28, 0], [], false), (47, .aload_n 0, 1, 0, [0], [], false), (48, .aload_n 0, 1, 0, [0], [], false), (49, .getfield 73, 3, 0, [12, 29, 2, 20, 22], [], false), (52, .aload_n 0, 1, 0, [0], [], false), (53, .getfield 329, 3, 0, [12, 28, 0, 0, 0], [], false), (56, .iaload, 1, 0, [], [], false), (57, .invokevirtual 326, 3, 0, [0], [], false), (60, .goto (-60), 3, 0, [0], [], false), (63, .return_, 1, 0, [], [], false)]
def mo_popsWhile_y : MethodName := ⟨"SpanLayersModel", "popsWhile", "(II)V"⟩
theorem mo_popsWhile_tb : sl_tbOK sl_R12 prog_14_method_82_code 3 none lk_mo [(326, 0)] mo_popsWhile_cd = true := by decide +kernel
def mo_popsWhile_ct : List sl_Ct := [(2, 0, 12, mo_doneIs_pt)]
theorem mo_popsWhile_hc (g : sl_G) : sl_HC g sl_R12 1 mo_popsWhile_ct [(326, 0)] := sl_HC_cons (cs_mo_326 g (by decide)) (sl_HC_nil g sl_R12 1)
set_option maxRecDepth 20000 in
set_option maxHeartbeats 2000000 in
theorem mo_popsWhile_snd (g : sl_G) : sl_Snd g mo_popsWhile_y prog_14_method_82_code 3 none 1 (mo_popsWhile_pt) := by
  intro As μ Q hw h
  unfold mo_popsWhile_pt at h
  split at h
  next c0 a0 a1 a2 =>
    split at h
    next e_ =>
      subst e_
      split at h
      next e_ =>
        subst e_
        refine sl_mk2 g [true, true, true] (cst := [some (.inr (.inr (some (12, 104)))), some (.inl a1), some (.inl a2)]) (lv0 := [none, none, none]) (by decide) rfl hw rfl rfl rfl lk_mo_ok (mo_popsWhile_hc g) mo_popsWhile_tb rfl ?_
        intro X M
        have v0 := sl_extL M sl_VV0 0 (fun n lv st μ => match lv, st with | [_, _, _], [] => mo_popsWhile_L0 a1 a2 (fun μ' => Q none μ') n μ | _, _ => False) (by
            intro lv st μ h
            split at h
            · exact h
            · exact h) (by
            intro n0 w0
            have v37 := sl_ext M w0 37 (fun lv st μ => match lv, st with | [_, _, _], [] => mo_popsWhile_B37 a1 a2 (fun μ' => Q none μ') (mo_popsWhile_L0 a1 a2 (fun μ' => Q none μ') n0) μ | _, _ => False) (by
                intro lv st μ h
                split at h
                · exact h
                · exact h.elim)
            refine ⟨_, v37, ?_⟩
            intro lv st μ h
            split at h
            · exact h
            · exact h.elim)
        exact ⟨_, v0, h⟩
      next => exact h.elim
    next => exact h.elim
  next => exact h.elim
def mo_waitFor (a1 : Int32) (μ : sl_M) (Q : sl_M → Prop) : Prop := vp_in (μ 104 28) 90 ∧ ∀ m1, m1 = sl_up μ 126 (μ 104 28).toNatClampNeg a1 → ∀ m2, m2 = sl_up m1 104 28 ((m1 104 28) + (1 : Int32)) → ∀ m3, m3 = sl_up m2 104 21 ((m2 104 21) + (1 : Int32)) → Q m3
def mo_waitFor_pt : sl_PT := fun As μ Q => match As with
  | [.inr (.inr (some (c0, a0))), .inl a1] => if c0 = 12 then (if a0 = 104 then (mo_waitFor a1 μ (fun μ' => Q none μ')) else False) else False
  | _ => False
def mo_waitFor_cd : List sl_Ent := [(0, .aload_n 0, 1, 0, [0], [], false), (1, .getfield 73, 3, 0, [12, 29, 2, 20, 22], [], false), (4, .aload_n 0, 1, 0, [0], [], false), (5, .getfield 329, 3, 0, [12, 28, 0, 0, 0], [], false), (8, .iload_n 1, 1, 0, [1], [], false), (9, .iastore, 1, 0, [], [], false), (10, .aload_n 0, 1, 0, [0], [], false), (11, .dup, 1, 0, [], [], false), (12, .getfield 329, 3, 0, [12, 28, 0, 0, 0], [], false), (15, .iconst 1, 1, 1, [], [], false), (16, .iadd, 1, 0, [], [], false), (17, .putfield 329, 3, 0, [12, 28, 0], [], false), (20, .aload_n 0, 1, 0, [0], [], false), (21, .dup, 1, 0, [], [], false), (22, .getfield 279, 3, 0, [12, 21, 0, 0, 0], [], false), (25, .iconst 1, 1, 1, [], [], false), (26, .iadd, 1, 0, [], [], false), (27, .putfield 279, 3, 0, [12, 21, 0], [], false), (30, .return_, 1, 0, [], [], false)]
def mo_waitFor_y : MethodName := ⟨"SpanLayersModel", "waitFor", "(I)V"⟩
theorem mo_waitFor_tb : sl_tbOK sl_R12 prog_14_method_83_code 2 none lk_mo [] mo_waitFor_cd = true := by decide +kernel
def mo_waitFor_ct : List sl_Ct := []
theorem mo_waitFor_hc (g : sl_G) : sl_HC g sl_R12 0 mo_waitFor_ct [] := sl_HC_nil g sl_R12 0
set_option maxRecDepth 20000 in
set_option maxHeartbeats 2000000 in
theorem mo_waitFor_snd (g : sl_G) : sl_Snd g mo_waitFor_y prog_14_method_83_code 2 none 0 (mo_waitFor_pt) := by
  intro As μ Q hw h
  unfold mo_waitFor_pt at h
  split at h
  next c0 a0 a1 =>
    split at h
    next e_ =>
      subst e_
      split at h
      next e_ =>
        subst e_
        refine sl_mk2 g [true, true] (cst := [some (.inr (.inr (some (12, 104)))), some (.inl a1)]) (lv0 := [none, none]) (by decide) rfl hw rfl rfl rfl lk_mo_ok (mo_waitFor_hc g) mo_waitFor_tb rfl ?_
        intro X M
        exact ⟨_, sl_VV0, h⟩
      next => exact h.elim
    next => exact h.elim
  next => exact h.elim
def mo_readFactor_B54 (Q : sl_M → Prop) (k2 : Int32 → sl_M → Prop) : Int32 → sl_M → Prop
  | x1, μ => (x1 = (0 : Int32) → ∀ m12, m12 = sl_up μ 104 30 ((μ 104 30) + (1 : Int32)) → mo_here m12 (fun r14 m13 => mo_waitFor r14 m13 (fun m15 => k2 x1 m15))) ∧ (¬ x1 = (0 : Int32) → ∀ m16, m16 = sl_up μ 104 30 ((μ 104 30) + (0 : Int32)) → mo_here m16 (fun r18 m17 => mo_waitFor r18 m17 (fun m19 => k2 x1 m19)))
def mo_readFactor_B22 (Q : sl_M → Prop) (k2 : Int32 → sl_M → Prop) : sl_M → Prop
  | μ => mo_here μ (fun r7 m6 => (r7 = (40 : Int32) → ((m6 104 30) < (5 : Int32) → mo_here m6 (fun r9 m8 => (r9 = (33 : Int32) → mo_readFactor_B54 Q k2 (1 : Int32) m8) ∧ (¬ r9 = (33 : Int32) → mo_readFactor_B54 Q k2 (0 : Int32) m8))) ∧ (¬ (m6 104 30) < (5 : Int32) → ((sl_bz (m6 104 22)) = (0 : Int32) → mo_readTest m6 (fun m10 => Q m10)) ∧ (¬ (sl_bz (m6 104 22)) = (0 : Int32) → Q m6))) ∧ (¬ r7 = (40 : Int32) → ((sl_bz (m6 104 22)) = (0 : Int32) → mo_readTest m6 (fun m11 => Q m11)) ∧ (¬ (sl_bz (m6 104 22)) = (0 : Int32) → Q m6)))
def mo_readFactor_L2 (Q : sl_M → Prop) : Nat → Int32 → sl_M → Prop
  | 0, _, _ => False
  | n + 1, x1, μ => ((sl_bz (μ 104 22)) = (0 : Int32) → mo_here μ (fun r2 m1 => (r2 = (33 : Int32) → (x1 = (0 : Int32) → mo_here m1 (fun r4 m3 => (r4 = (33 : Int32) → mo_readFactor_B54 Q (mo_readFactor_L2 Q n) (1 : Int32) m3) ∧ (¬ r4 = (33 : Int32) → mo_readFactor_B54 Q (mo_readFactor_L2 Q n) (0 : Int32) m3))) ∧ (¬ x1 = (0 : Int32) → mo_readFactor_B22 Q (mo_readFactor_L2 Q n) m1)) ∧ (¬ r2 = (33 : Int32) → mo_readFactor_B22 Q (mo_readFactor_L2 Q n) m1))) ∧ (¬ (sl_bz (μ 104 22)) = (0 : Int32) → ((sl_bz (μ 104 22)) = (0 : Int32) → mo_readTest μ (fun m5 => Q m5)) ∧ (¬ (sl_bz (μ 104 22)) = (0 : Int32) → Q μ))
def mo_readFactor (μ : sl_M) (Q : sl_M → Prop) : Prop := ∃ n20, mo_readFactor_L2 Q n20 (0 : Int32) μ
def mo_readFactor_pt : sl_PT := fun As μ Q => match As with
  | [.inr (.inr (some (c0, a0)))] => if c0 = 12 then (if a0 = 104 then (mo_readFactor μ (fun μ' => Q none μ')) else False) else False
  | _ => False
def mo_readFactor_cd : List sl_Ent := [(0, .iconst 0, 1, 0, [], [], false), (1, .istore_n 1, 1, 0, [1], [], false), (2, .aload_n 0, 1, 0, [0], [], true), (3, .getfield 282, 3, 0, [12, 22, 1, 0, 0], [], false), (6, .ifCond .ne 77, 3, 0, [83], [], false), (9, .aload_n 0, 1, 0, [0], [], false), (10, .invokevirtual 285, 3, 0, [0], [], false), (13, .bipush 33, 2, 33, [], [], false), (15, .if_icmp .ne 7, 3, 0, [22], [], false), (18, .iload_n 1, 1, 0, [1], [], false), (19, .ifCond .eq 20, 3, 0, [39], [], false), (22, .aload_n 0, 1, 0, [0], [], true), (23, .invokevirtual 285, 3, 0, [0], [], false), (26, .bipush 40, 2, 40, [], [], false), (28, .if_icmp .ne 55, 3, 0, [83], [], false), (31, .aload_n 0, 1, 0, [0], [], false), (32, .getfield 332, 3, 0, [12, 30, 0, 0, 0], [], false), (35, .iconst 5, 1, 5, [], [], false), (36, .if_icmp .ge 47, 3, 0, [83], [], false), (39, .aload_n 0, 1, 0, [0], [], false), (40, .invokevirtual 285, 3, 0, [0], [], false), (43, .bipush 33, 2, 33, [], [], false), (45, .if_icmp .ne 7, 3, 0, [52], [], false), (48, .iconst 1, 1, 1, [], [], false), (49, .goto 4, 3, 0, [53], [], false), (52, .iconst 0, 1, 0, [], [], false), (53, .istore_n 1, 1, 0, [1], [], false), (54, .aload_n 0, 1, 0, [0], [], true), (55, .dup, 1, 0, [], [], false), (56, .getfield 332, 3, 0, [12, 30, 0, 0, 0], [], false), (59, .iload_n 1, 1, 0, [1], [], false), (60, .ifCond .eq 7, 3, 0, [67], [], false), (63, .iconst 0, 1, 0, [], [], false), (64, .goto 4, 3, 0, [68], [], false), (67, .iconst 1, 1, 1, [], [], false), (68, .iadd, 1, 0, [], [], false), (69, .putfield 332, 3, 0, [12, 30, 0], [], false), (72, .aload_n 0, 1, 0, [0], [], false), (73, .aload_n 0, 1, 0, [0], [], false), (74, .invokevirtual 285, 3, 0, [0], [], false), (77, .invokevirtual 335, 3, 0, [1], [], false), (80, .goto (-78), 3, 0, [2], [], false), (83, .aload_n 0, 1, 0, [0], [], false), (84, .getfield 282, 3, 0, [12, 22, 1, 0, 0], [], false), (87, .ifCond .ne 7, 3, 0, [94], [], false), (90, .aload_n 0, 1, 0, [0], [], false), (91, .invokevirtual 338, 3, 0, [2], [], false), (94, .return_, 1, 0, [], [], false)]
def mo_readFactor_y : MethodName := ⟨"SpanLayersModel", "readFactor", "()V"⟩
theorem mo_readFactor_tb : sl_tbOK sl_R12 prog_14_method_84_code 2 none lk_mo [(285, 0), (335, 0), (338, 0)] mo_readFactor_cd = true := by decide +kernel
theorem mo_waitFor_w2 : Cond.instanceMethod mo_waitFor_y ∈ sl_T0 := sl_in1 1459 (by decide +kernel) rfl
theorem mo_waitFor_w3 : Cond.selects mo_waitFor_y.cls mo_waitFor_y mo_waitFor_y ∈ sl_T0 := sl_in1 57 (by decide +kernel) rfl
theorem mo_waitFor_w4 : Cond.initialized mo_waitFor_y.cls ∈ sl_T0 := sl_in1 97 (by decide +kernel) rfl
theorem mo_waitFor_w5 : Cond.code mo_waitFor_y prog_14_method_83_code 2 none ∈ sl_T0 := sl_in1 1460 (by decide +kernel) rfl
theorem mo_waitFor_w6 : mo_waitFor_y.cls ≠ "java/lang/invoke/MethodHandle" ∧ mo_waitFor_y.cls ≠ "java/lang/invoke/VarHandle" ∧ (parseMethodDescriptor mo_waitFor_y.desc).map (fun d => d.parameters.length) = some 1 := by decide +kernel
theorem cs_mo_335 (g : sl_G) {hh : Nat} (h : 1 ≤ hh) : sl_CallS g sl_R12 335 0 12 hh 2 mo_waitFor_pt := sl_callV (y := mo_waitFor_y) (T := sl_F12) (N := 50) (mo_waitFor_snd g) h (by decide) (sl_in1 1457 (by decide +kernel) rfl) mo_waitFor_w2 mo_waitFor_w3 mo_waitFor_w4 mo_waitFor_w5 mo_waitFor_w6 rfl (by decide)
theorem mo_readTest_w2 : Cond.instanceMethod mo_readTest_y ∈ sl_T0 := sl_in1 1463 (by decide +kernel) rfl
theorem mo_readTest_w3 : Cond.selects mo_readTest_y.cls mo_readTest_y mo_readTest_y ∈ sl_T0 := sl_in1 58 (by decide +kernel) rfl
theorem mo_readTest_w4 : Cond.initialized mo_readTest_y.cls ∈ sl_T0 := sl_in1 97 (by decide +kernel) rfl
theorem mo_readTest_w5 : Cond.code mo_readTest_y prog_14_method_81_code 4 none ∈ sl_T0 := sl_in1 1464 (by decide +kernel) rfl
theorem mo_readTest_w6 : mo_readTest_y.cls ≠ "java/lang/invoke/MethodHandle" ∧ mo_readTest_y.cls ≠ "java/lang/invoke/VarHandle" ∧ (parseMethodDescriptor mo_readTest_y.desc).map (fun d => d.parameters.length) = some 0 := by decide +kernel
theorem cs_mo_338 (g : sl_G) {hh : Nat} (h : 4 ≤ hh) : sl_CallS g sl_R12 338 0 12 hh 1 mo_readTest_pt := sl_callV (y := mo_readTest_y) (T := sl_F12) (N := 50) (mo_readTest_snd g) h (by decide) (sl_in1 1461 (by decide +kernel) rfl) mo_readTest_w2 mo_readTest_w3 mo_readTest_w4 mo_readTest_w5 mo_readTest_w6 rfl (by decide)
def mo_readFactor_ct : List sl_Ct := [(1, 0, 12, mo_here_pt), (2, 0, 12, mo_waitFor_pt), (1, 0, 12, mo_readTest_pt)]
theorem mo_readFactor_hc (g : sl_G) : sl_HC g sl_R12 4 mo_readFactor_ct [(285, 0), (335, 0), (338, 0)] := sl_HC_cons (cs_mo_285 g (by decide)) (sl_HC_cons (cs_mo_335 g (by decide)) (sl_HC_cons (cs_mo_338 g (by decide)) (sl_HC_nil g sl_R12 4)))
set_option maxRecDepth 20000 in
set_option maxHeartbeats 2000000 in
theorem mo_readFactor_snd (g : sl_G) : sl_Snd g mo_readFactor_y prog_14_method_84_code 2 none 4 (mo_readFactor_pt) := by
  intro As μ Q hw h
  unfold mo_readFactor_pt at h
  split at h
  next c0 a0 =>
    split at h
    next e_ =>
      subst e_
      split at h
      next e_ =>
        subst e_
        refine sl_mk2 g [true, false] (cst := [some (.inr (.inr (some (12, 104))))]) (lv0 := [none, none]) (by decide) rfl hw rfl rfl rfl lk_mo_ok (mo_readFactor_hc g) mo_readFactor_tb rfl ?_
        intro X M
        have v2 := sl_extL M sl_VV0 2 (fun n lv st μ => match lv, st with | [_, some (.inl x1)], [] => mo_readFactor_L2 (fun μ' => Q none μ') n x1 μ | _, _ => False) (by
            intro lv st μ h
            split at h
            · exact h
            · exact h) (by
            intro n2 w2
            have v54 := sl_ext M w2 54 (fun lv st μ => match lv, st with | [_, some (.inl x1)], [] => mo_readFactor_B54 (fun μ' => Q none μ') (mo_readFactor_L2 (fun μ' => Q none μ') n2) x1 μ | _, _ => False) (by
                intro lv st μ h
                split at h
                · exact h
                · exact h.elim)
            have v22 := sl_ext M v54 22 (fun lv st μ => match lv, st with | [_, _], [] => mo_readFactor_B22 (fun μ' => Q none μ') (mo_readFactor_L2 (fun μ' => Q none μ') n2) μ | _, _ => False) (by
                intro lv st μ h
                split at h
                · exact h
                · exact h.elim)
            refine ⟨_, v22, ?_⟩
            intro lv st μ h
            split at h
            · exact h
            · exact h.elim)
        exact ⟨_, v2, h⟩
      next => exact h.elim
    next => exact h.elim
  next => exact h.elim
def mo_readsOn_B91 (Q : Int32 → sl_M → Prop) : sl_M → Prop
  | μ => mo_here μ (fun r16 m15 => (r16 = (124 : Int32) → mo_popsWhile (38 : Int32) (124 : Int32) m15 (fun m17 => mo_here m17 (fun r19 m18 => mo_waitFor r19 m18 (fun m20 => sl_bz (1 : Int32) = (1 : Int32) ∧ Q (1 : Int32) m20)))) ∧ (¬ r16 = (124 : Int32) → mo_popsWhile (38 : Int32) (38 : Int32) m15 (fun m21 => mo_here m21 (fun r23 m22 => mo_waitFor r23 m22 (fun m24 => sl_bz (1 : Int32) = (1 : Int32) ∧ Q (1 : Int32) m24)))))
def mo_readsOn_B73 (Q : Int32 → sl_M → Prop) : sl_M → Prop
  | μ => mo_here μ (fun r9 m8 => (r9 = (38 : Int32) → mo_readsOn_B91 Q m8) ∧ (¬ r9 = (38 : Int32) → mo_here m8 (fun r11 m10 => (r11 = (124 : Int32) → mo_readsOn_B91 Q m10) ∧ (¬ r11 = (124 : Int32) → ((m10 104 30) ≤ (0 : Int32) → ((m10 104 21) < (m10 104 20) → sl_bz (1 : Int32) = (1 : Int32) ∧ ∀ m12, m12 = sl_up m10 104 22 (1 : Int32) → sl_bz (0 : Int32) = (0 : Int32) ∧ Q (0 : Int32) m12) ∧ (¬ (m10 104 21) < (m10 104 20) → sl_bz (0 : Int32) = (0 : Int32) ∧ ∀ m13, m13 = sl_up m10 104 22 (0 : Int32) → sl_bz (0 : Int32) = (0 : Int32) ∧ Q (0 : Int32) m13)) ∧ (¬ (m10 104 30) ≤ (0 : Int32) → sl_bz (1 : Int32) = (1 : Int32) ∧ ∀ m14, m14 = sl_up m10 104 22 (1 : Int32) → sl_bz (0 : Int32) = (0 : Int32) ∧ Q (0 : Int32) m14)))))
def mo_readsOn_L8 (Q : Int32 → sl_M → Prop) : Nat → sl_M → Prop
  | 0, _ => False
  | n + 1, μ => ((μ 104 30) ≤ (0 : Int32) → mo_readsOn_B73 Q μ) ∧ (¬ (μ 104 30) ≤ (0 : Int32) → mo_here μ (fun r2 m1 => (r2 = (41 : Int32) → mo_popsWhile (38 : Int32) (124 : Int32) m1 (fun m3 => ∀ m4, m4 = sl_up m3 104 28 ((m3 104 28) - (1 : Int32)) → ∀ m5, m5 = sl_up m4 104 30 ((m4 104 30) - (1 : Int32)) → ∀ m6, m6 = sl_up m5 104 21 ((m5 104 21) + (1 : Int32)) → mo_popsWhile (33 : Int32) (33 : Int32) m6 (fun m7 => (mo_readsOn_L8 Q n) m7))) ∧ (¬ r2 = (41 : Int32) → mo_readsOn_B73 Q m1)))
def mo_readsOn (μ : sl_M) (Q : Int32 → sl_M → Prop) : Prop := mo_popsWhile (33 : Int32) (33 : Int32) μ (fun m25 => ∃ n26, mo_readsOn_L8 Q n26 m25)
def mo_readsOn_pt : sl_PT := fun As μ Q => match As with
  | [.inr (.inr (some (c0, a0)))] => if c0 = 12 then (if a0 = 104 then (mo_readsOn μ (fun r μ' => Q (some (.inl r)) μ')) else False) else False
  | _ => False
def mo_readsOn_cd : List sl_Ent := [(0, .aload_n 0, 1, 0, [0], [], false), (1, .bipush 33, 2, 33, [], [], false), (3, .bipush 33, 2, 33, [], [], false), (5, .invokevirtual 341, 3, 0, [0], [], false), (8, .aload_n 0, 1, 0, [0], [], true), (9, .getfield 332, 3, 0, [12, 30, 0, 0, 0], [], false), (12, .ifCond .le 61, 3, 0, [73], [], false), (15, .aload_n 0, 1, 0, [0], [], false), (16, .invokevirtual 285, 3, 0, [1], [], false), (19, .bipush 41, 2, 41, [], [], false), (21, .if_icmp .ne 52, 3, 0, [73], [], false), (24, .aload_n 0, 1, 0, [0], [], false), (25, .bipush 38, 2, 38, [], [], false), (27, .bipush 124, 2, 124, [], [], false), (29, .invokevirtual 341, 3, 0, [0], [], false), (32, .aload_n 0, 1, 0, [0], [], false), (33, .dup, 1, 0, [], [], false), (34, .getfield 329, 3, 0, [12, 28, 0, 0, 0], [], false), (37, .iconst 1, 1, 1, [], [], false), (38, .isub, 1, 0, [], [], false), (39, .putfield 329, 3, 0, [12, 28, 0], [], false), (42, .aload_n 0, 1, 0, [0], [], false), (43, .dup, 1, 0, [], [], false), (44, .getfield 332, 3, 0, [12, 30, 0, 0, 0], [], false), (47, .iconst 1, 1, 1, [], [], false), (48, .isub, 1, 0, [], [], false), (49, .putfield 332, 3, 0, [12, 30, 0], [], false), (52, .aload_n 0, 1, 0, [0], [], false), (53, .dup, 1, 0, [], [], false), (54, .getfield 279, 3, 0, [12, 21, 0, 0, 0], [], false), (57, .iconst 1, 1, 1, [], [], false), (58, .iadd, 1, 0, [], [], false), (59, .putfield 279, 3, 0, [12, 21, 0], [], false), (62, .aload_n 0, 1, 0, [0], [], false), (63, .bipush 33, 2, 33, [], [], false), (65, .bipush 33, 2, 33, [], [], false), (67, .invokevirtual 341, 3, 0, [0], [], false), (70, .goto (-62), 3, 0, [8], [], false), (73, .aload_n 0, 1, 0, [0], [], true), (74, .invokevirtual 285, 3, 0, [1], [], false), (77, .bipush 38, 2, 38, [], [], false), (79, .if_icmp .eq 12, 3, 0, [91], [], false), (82, .aload_n 0, 1, 0, [0], [], false), (83, .invokevirtual 285, 3, 0, [1], [], false), (86, .bipush 124, 2, 124, [], [], false), (88, .if_icmp .ne 35, 3, 0, [123], [], false), (91, .aload_n 0, 1, 0, [0], [], true), (92, .bipush 38, 2, 38, [], [], false), (94, .aload_n 0, 1, 0, [0], [], false), (95, .invokevirtual 285, 3, 0, [1], [], false), (98, .bipush 124, 2, 124, [], [], false), (100, .if_icmp .ne 8, 3, 0, [108], [], false), (103, .bipush 124, 2, 124, [], [], false), (105, .goto 5, 3, 0, [110], [], false), (108, .bipush 38, 2, 38, [], [], false), (110, .invokevirtual 341, 3, 0, [0], [], false), (113, .aload_n 0, 1, 0, [0], [], false), (114, .aload_n 0, 1, 0, [0], [], false), (115, .invokevirtual 285, 3, 0, [1], [], false), (118, .invokevirtual 335, 3, 0, [2], [], false), (121, .iconst 1, 1, 1, [], [], false), (122, .ireturn, 1, 0, [1], [], false), (123, .aload_n 0, 1, 0, [0], [], false), (124, .aload_n 0, 1, 0, [0], [], false), (125, .getfield 332, 3, 0, [12, 30, 0, 0, 0], [], false), (128, .ifCond .gt 14, 3, 0, [142], [], false), (131, .aload_n 0, 1, 0, [0], [], false), (132, .getfield 279, 3, 0, [12, 21, 0, 0, 0], [], false), (135, .aload_n 0, 1, 0, [0], [], false), (136, .getfield 276, 3, 0, [12, 20, 0, 0, 0], [], false), (139, .if_icmp .ge 7, 3, 0, [146], [], false), (142, .iconst 1, 1, 1, [], [], false), (143, .goto 4, 3, 0, [147], [], false), (146, .iconst 0, 1, 0, [], [], false), (147, .putfield 282, 3, 0, [12, 22, 1], [], false), (150, .iconst 0, 1, 0, [], [], false), (151, .ireturn, 1, 0, [1], [], false)]
def mo_readsOn_y : MethodName := ⟨"SpanLayersModel", "readsOn", "()Z"⟩
theorem mo_readsOn_tb : sl_tbOK sl_R12 prog_14_method_85_code 1 (some .boolean) lk_mo [(341, 0), (285, 0), (335, 0)] mo_readsOn_cd = true := by decide +kernel
theorem mo_popsWhile_w2 : Cond.instanceMethod mo_popsWhile_y ∈ sl_T0 := sl_in1 1508 (by decide +kernel) rfl
theorem mo_popsWhile_w3 : Cond.selects mo_popsWhile_y.cls mo_popsWhile_y mo_popsWhile_y ∈ sl_T0 := sl_in1 67 (by decide +kernel) rfl
theorem mo_popsWhile_w4 : Cond.initialized mo_popsWhile_y.cls ∈ sl_T0 := sl_in1 97 (by decide +kernel) rfl
theorem mo_popsWhile_w5 : Cond.code mo_popsWhile_y prog_14_method_82_code 3 none ∈ sl_T0 := sl_in1 1509 (by decide +kernel) rfl
theorem mo_popsWhile_w6 : mo_popsWhile_y.cls ≠ "java/lang/invoke/MethodHandle" ∧ mo_popsWhile_y.cls ≠ "java/lang/invoke/VarHandle" ∧ (parseMethodDescriptor mo_popsWhile_y.desc).map (fun d => d.parameters.length) = some 2 := by decide +kernel
theorem cs_mo_341 (g : sl_G) {hh : Nat} (h : 2 ≤ hh) : sl_CallS g sl_R12 341 0 12 hh 3 mo_popsWhile_pt := sl_callV (y := mo_popsWhile_y) (T := sl_F12) (N := 50) (mo_popsWhile_snd g) h (by decide) (sl_in1 1506 (by decide +kernel) rfl) mo_popsWhile_w2 mo_popsWhile_w3 mo_popsWhile_w4 mo_popsWhile_w5 mo_popsWhile_w6 rfl (by decide)
def mo_readsOn_ct : List sl_Ct := [(3, 0, 12, mo_popsWhile_pt), (1, 0, 12, mo_here_pt), (2, 0, 12, mo_waitFor_pt)]
theorem mo_readsOn_hc (g : sl_G) : sl_HC g sl_R12 2 mo_readsOn_ct [(341, 0), (285, 0), (335, 0)] := sl_HC_cons (cs_mo_341 g (by decide)) (sl_HC_cons (cs_mo_285 g (by decide)) (sl_HC_cons (cs_mo_335 g (by decide)) (sl_HC_nil g sl_R12 2)))
set_option maxRecDepth 20000 in
set_option maxHeartbeats 2000000 in
theorem mo_readsOn_snd (g : sl_G) : sl_Snd g mo_readsOn_y prog_14_method_85_code 1 (some .boolean) 2 (mo_readsOn_pt) := by
  intro As μ Q hw h
  unfold mo_readsOn_pt at h
  split at h
  next c0 a0 =>
    split at h
    next e_ =>
      subst e_
      split at h
      next e_ =>
        subst e_
        refine sl_mk2 g [true] (cst := [some (.inr (.inr (some (12, 104))))]) (lv0 := [none]) (by decide) rfl hw rfl rfl rfl lk_mo_ok (mo_readsOn_hc g) mo_readsOn_tb rfl ?_
        intro X M
        have v91 := sl_ext M sl_VV0 91 (fun lv st μ => match lv, st with | [_], [] => mo_readsOn_B91 (fun r μ' => Q (some (.inl r)) μ') μ | _, _ => False) (by
            intro lv st μ h
            split at h
            · exact h
            · exact h.elim)
        have v73 := sl_ext M v91 73 (fun lv st μ => match lv, st with | [_], [] => mo_readsOn_B73 (fun r μ' => Q (some (.inl r)) μ') μ | _, _ => False) (by
            intro lv st μ h
            split at h
            · exact h
            · exact h.elim)
        have v8 := sl_extL M v73 8 (fun n lv st μ => match lv, st with | [_], [] => mo_readsOn_L8 (fun r μ' => Q (some (.inl r)) μ') n μ | _, _ => False) (by
            intro lv st μ h
            split at h
            · exact h
            · exact h) (by
            intro n8 w8
            refine ⟨_, w8, ?_⟩
            intro lv st μ h
            split at h
            · exact h
            · exact h.elim)
        exact ⟨_, v8, h⟩
      next => exact h.elim
    next => exact h.elim
  next => exact h.elim
def mo_readCondition_B65 (Q : Int32 → sl_M → Prop) : sl_M → Prop
  | μ => mo_popsWhile (38 : Int32) (124 : Int32) μ (fun m4 => ∀ m5, m5 = sl_up m4 104 20 (0 : Int32) → ((sl_bz (m5 104 22)) = (0 : Int32) → Q (0 : Int32) m5) ∧ (¬ (sl_bz (m5 104 22)) = (0 : Int32) → Q ((-100 : Int32) - (m5 104 21)) m5))
def mo_readCondition_L27 (Q : Int32 → sl_M → Prop) : Nat → Int32 → sl_M → Prop
  | 0, _, _ => False
  | n + 1, x1, μ => (x1 = (0 : Int32) → mo_readCondition_B65 Q μ) ∧ (¬ x1 = (0 : Int32) → ((sl_bz (μ 104 22)) = (0 : Int32) → mo_readFactor μ (fun m1 => ((sl_bz (m1 104 22)) = (0 : Int32) → mo_readsOn m1 (fun r3 m2 => (r3 = (0 : Int32) → (mo_readCondition_L27 Q n) (0 : Int32) m2) ∧ (¬ r3 = (0 : Int32) → (mo_readCondition_L27 Q n) (1 : Int32) m2))) ∧ (¬ (sl_bz (m1 104 22)) = (0 : Int32) → (mo_readCondition_L27 Q n) (0 : Int32) m1))) ∧ (¬ (sl_bz (μ 104 22)) = (0 : Int32) → mo_readCondition_B65 Q μ))
def mo_readCondition (μ : sl_M) (Q : Int32 → sl_M → Prop) : Prop := ∀ m6, m6 = sl_up μ 104 21 (0 : Int32) → sl_bz (0 : Int32) = (0 : Int32) ∧ ∀ m7, m7 = sl_up m6 104 22 (0 : Int32) → ∀ m8, m8 = sl_up m7 104 23 (0 : Int32) → ∀ m9, m9 = sl_up m8 104 28 (0 : Int32) → ∀ m10, m10 = sl_up m9 104 30 (0 : Int32) → ∃ n11, mo_readCondition_L27 Q n11 (1 : Int32) m10
def mo_readCondition_pt : sl_PT := fun As μ Q => match As with
  | [.inr (.inr (some (c0, a0)))] => if c0 = 12 then (if a0 = 104 then (mo_readCondition μ (fun r μ' => Q (some (.inl r)) μ')) else False) else False
  | _ => False
def mo_readCondition_cd : List sl_Ent := [(0, .aload_n 0, 1, 0, [0], [], false), (1, .iconst 0, 1, 0, [], [], false), (2, .putfield 279, 3, 0, [12, 21, 0], [], false), (5, .aload_n 0, 1, 0, [0], [], false), (6, .iconst 0, 1, 0, [], [], false), (7, .putfield 282, 3, 0, [12, 22, 1], [], false), (10, .aload_n 0, 1, 0, [0], [], false), (11, .iconst 0, 1, 0, [], [], false), (12, .putfield 314, 3, 0, [12, 23, 0], [], false), (15, .aload_n 0, 1, 0, [0], [], false), (16, .iconst 0, 1, 0, [], [], false), (17, .putfield 329, 3, 0, [12, 28, 0], [], false), (20, .aload_n 0, 1, 0, [0], [], false), (21, .iconst 0, 1, 0, [], [], false), (22, .putfield 332, 3, 0, [12, 30, 0], [], false), (25, .iconst 1, 1, 1, [], [], false), (26, .istore_n 1, 1, 0, [1], [], false), (27, .iload_n 1, 1, 0, [1], [], true), (28, .ifCond .eq 37, 3, 0, [65], [], false), (31, .aload_n 0, 1, 0, [0], [], false), (32, .getfield 282, 3, 0, [12, 22, 1, 0, 0], [], false), (35, .ifCond .ne 30, 3, 0, [65], [], false), (38, .aload_n 0, 1, 0, [0], [], false), (39, .invokevirtual 345, 3, 0, [0], [], false), (42, .aload_n 0, 1, 0, [0], [], false), (43, .getfield 282, 3, 0, [12, 22, 1, 0, 0], [], false), (46, .ifCond .ne 14, 3, 0, [60], [], false), (49, .aload_n 0, 1, 0, [0], [], false), (50, .invokevirtual 348, 3, 0, [1], [], false), (53, .ifCond .eq 7, 3, 0, [60], [], false), (56, .iconst 1, 1, 1, [], [], false), (57, .goto 4, 3, 0, [61], [], false), (60, .iconst 0, 1, 0, [], [], false), (61, .istore_n 1, 1, 0, [1], [], false), (62, .goto (-35), 3, 0, [27], [], false), (65, .aload_n 0, 1, 0, [0], [], true), (66, .bipush 38, 2, 38, [], [], false), (68, .bipush 124, 2, 124, [], [], false), (70, .invokevirtual 341, 3, 0, [2], [], false), (73, .aload_n 0, 1, 0, [0], [], false), (74, .iconst 0, 1, 0, [], [], false), (75, .putfield 276, 3, 0, [12, 20, 0], [], false), (78, .aload_n 0, 1, 0, [0], [], false), (79, .getfield 282, 3, 0, [12, 22, 1, 0, 0], [], false), (82, .ifCond .eq 13, 3, 0, [95], [], false), (85, .bipush (-100), 2, (-100), [], [], false), (87, .aload_n 0, 1, 0, [0], [], false), (88, .getfield 279, 3, 0, [12, 21, 0, 0, 0], [], false), (91, .isub, 1, 0, [], [], false), (92, .goto 4, 3, 0, [96], [], false), (95, .iconst 0, 1, 0, [], [], false), (96, .ireturn, 1, 0, [], [], false)]
def mo_readCondition_y : MethodName := ⟨"SpanLayersModel", "readCondition", "()I"⟩
theorem mo_readCondition_tb : sl_tbOK sl_R12 prog_14_method_86_code 2 (some .int) lk_mo [(345, 0), (348, 0), (341, 0)] mo_readCondition_cd = true := by decide +kernel
theorem mo_readFactor_w2 : Cond.instanceMethod mo_readFactor_y ∈ sl_T0 := sl_in1 1451 (by decide +kernel) rfl
theorem mo_readFactor_w3 : Cond.selects mo_readFactor_y.cls mo_readFactor_y mo_readFactor_y ∈ sl_T0 := sl_in1 55 (by decide +kernel) rfl
theorem mo_readFactor_w4 : Cond.initialized mo_readFactor_y.cls ∈ sl_T0 := sl_in1 97 (by decide +kernel) rfl
theorem mo_readFactor_w5 : Cond.code mo_readFactor_y prog_14_method_84_code 2 none ∈ sl_T0 := sl_in1 1452 (by decide +kernel) rfl
theorem mo_readFactor_w6 : mo_readFactor_y.cls ≠ "java/lang/invoke/MethodHandle" ∧ mo_readFactor_y.cls ≠ "java/lang/invoke/VarHandle" ∧ (parseMethodDescriptor mo_readFactor_y.desc).map (fun d => d.parameters.length) = some 0 := by decide +kernel
theorem cs_mo_345 (g : sl_G) {hh : Nat} (h : 5 ≤ hh) : sl_CallS g sl_R12 345 0 12 hh 1 mo_readFactor_pt := sl_callV (y := mo_readFactor_y) (T := sl_F12) (N := 50) (mo_readFactor_snd g) h (by decide) (sl_in1 1449 (by decide +kernel) rfl) mo_readFactor_w2 mo_readFactor_w3 mo_readFactor_w4 mo_readFactor_w5 mo_readFactor_w6 rfl (by decide)
theorem mo_readsOn_w2 : Cond.instanceMethod mo_readsOn_y ∈ sl_T0 := sl_in1 1504 (by decide +kernel) rfl
theorem mo_readsOn_w3 : Cond.selects mo_readsOn_y.cls mo_readsOn_y mo_readsOn_y ∈ sl_T0 := sl_in1 66 (by decide +kernel) rfl
theorem mo_readsOn_w4 : Cond.initialized mo_readsOn_y.cls ∈ sl_T0 := sl_in1 97 (by decide +kernel) rfl
theorem mo_readsOn_w5 : Cond.code mo_readsOn_y prog_14_method_85_code 1 (some .boolean) ∈ sl_T0 := sl_in1 1505 (by decide +kernel) rfl
theorem mo_readsOn_w6 : mo_readsOn_y.cls ≠ "java/lang/invoke/MethodHandle" ∧ mo_readsOn_y.cls ≠ "java/lang/invoke/VarHandle" ∧ (parseMethodDescriptor mo_readsOn_y.desc).map (fun d => d.parameters.length) = some 0 := by decide +kernel
theorem cs_mo_348 (g : sl_G) {hh : Nat} (h : 3 ≤ hh) : sl_CallS g sl_R12 348 0 12 hh 1 mo_readsOn_pt := sl_callV (y := mo_readsOn_y) (T := sl_F12) (N := 50) (mo_readsOn_snd g) h (by decide) (sl_in1 1502 (by decide +kernel) rfl) mo_readsOn_w2 mo_readsOn_w3 mo_readsOn_w4 mo_readsOn_w5 mo_readsOn_w6 rfl (by decide)
def mo_readCondition_ct : List sl_Ct := [(1, 0, 12, mo_readFactor_pt), (1, 0, 12, mo_readsOn_pt), (3, 0, 12, mo_popsWhile_pt)]
theorem mo_readCondition_hc (g : sl_G) : sl_HC g sl_R12 5 mo_readCondition_ct [(345, 0), (348, 0), (341, 0)] := sl_HC_cons (cs_mo_345 g (by decide)) (sl_HC_cons (cs_mo_348 g (by decide)) (sl_HC_cons (cs_mo_341 g (by decide)) (sl_HC_nil g sl_R12 5)))
set_option maxRecDepth 20000 in
set_option maxHeartbeats 2000000 in
theorem mo_readCondition_snd (g : sl_G) : sl_Snd g mo_readCondition_y prog_14_method_86_code 2 (some .int) 5 (mo_readCondition_pt) := by
  intro As μ Q hw h
  unfold mo_readCondition_pt at h
  split at h
  next c0 a0 =>
    split at h
    next e_ =>
      subst e_
      split at h
      next e_ =>
        subst e_
        refine sl_mk2 g [true, false] (cst := [some (.inr (.inr (some (12, 104))))]) (lv0 := [none, none]) (by decide) rfl hw rfl rfl rfl lk_mo_ok (mo_readCondition_hc g) mo_readCondition_tb rfl ?_
        intro X M
        have v65 := sl_ext M sl_VV0 65 (fun lv st μ => match lv, st with | [_, _], [] => mo_readCondition_B65 (fun r μ' => Q (some (.inl r)) μ') μ | _, _ => False) (by
            intro lv st μ h
            split at h
            · exact h
            · exact h.elim)
        have v27 := sl_extL M v65 27 (fun n lv st μ => match lv, st with | [_, some (.inl x1)], [] => mo_readCondition_L27 (fun r μ' => Q (some (.inl r)) μ') n x1 μ | _, _ => False) (by
            intro lv st μ h
            split at h
            · exact h
            · exact h) (by
            intro n27 w27
            refine ⟨_, w27, ?_⟩
            intro lv st μ h
            split at h
            · exact h
            · exact h.elim)
        exact ⟨_, v27, h⟩
      next => exact h.elim
    next => exact h.elim
  next => exact h.elim
def mo_numberOf (a1 : Int32) (a2 : Int32) (μ : sl_M) (Q : Int32 → sl_M → Prop) : Prop := (a2 = (0 : Int32) → vp_in a1 30 ∧ Q (μ 105 a1.toNatClampNeg) μ) ∧ (¬ a2 = (0 : Int32) → (a2 = (1 : Int32) → vp_in a1 30 ∧ Q (μ 106 a1.toNatClampNeg) μ) ∧ (¬ a2 = (1 : Int32) → (a2 = (2 : Int32) → vp_in a1 30 ∧ Q (μ 107 a1.toNatClampNeg) μ) ∧ (¬ a2 = (2 : Int32) → (a2 = (3 : Int32) → mo_lengthOf a1 μ (fun r2 m1 => Q r2 m1)) ∧ (¬ a2 = (3 : Int32) → (a2 = (4 : Int32) → Q a1 μ) ∧ (¬ a2 = (4 : Int32) → vp_in a1 30 ∧ Q (μ 109 a1.toNatClampNeg) μ)))))
def mo_numberOf_pt : sl_PT := fun As μ Q => match As with
  | [.inr (.inr (some (c0, a0))), .inl a1, .inl a2] => if c0 = 12 then (if a0 = 104 then (mo_numberOf a1 a2 μ (fun r μ' => Q (some (.inl r)) μ')) else False) else False
  | _ => False
def mo_numberOf_cd : List sl_Ent := [(0, .iload_n 2, 1, 0, [2], [], false), (1, .tableswitch 64 0 4 #[35, 42, 49, 56, 62], 35, 0, [65], [(0, 36), (1, 43), (2, 50), (3, 57), (4, 63)], false), (36, .aload_n 0, 1, 0, [0], [], false), (37, .getfield 7, 3, 0, [12, 0, 2, 20, 1], [], false), (40, .iload_n 1, 1, 0, [1], [], false), (41, .iaload, 1, 0, [], [], false), (42, .ireturn, 1, 0, [], [], false), (43, .aload_n 0, 1, 0, [0], [], false), (44, .getfield 13, 3, 0, [12, 1, 2, 20, 2], [], false), (47, .iload_n 1, 1, 0, [1], [], false), (48, .iaload, 1, 0, [], [], false), (49, .ireturn, 1, 0, [], [], false), (50, .aload_n 0, 1, 0, [0], [], false), (51, .getfield 16, 3, 0, [12, 2, 2, 20, 3], [], false), (54, .iload_n 1, 1, 0, [1], [], false), (55, .iaload, 1, 0, [], [], false), (56, .ireturn, 1, 0, [], [], false), (57, .aload_n 0, 1, 0, [0], [], false), (58, .iload_n 1, 1, 0, [1], [], false), (59, .invokevirtual 127, 3, 0, [0], [], false), (62, .ireturn, 1, 0, [], [], false), (63, .iload_n 1, 1, 0, [1], [], false), (64, .ireturn, 1, 0, [], [], false), (65, .aload_n 0, 1, 0, [0], [], false), (66, .getfield 22, 3, 0, [12, 4, 2, 20, 5], [], false), (69, .iload_n 1, 1, 0, [1], [], false), (70, .iaload, 1, 0, [], [], false), (71, .ireturn, 1, 0, [], [], false)]
def mo_numberOf_y : MethodName := ⟨"SpanLayersModel", "numberOf", "(II)I"⟩
theorem mo_numberOf_tb : sl_tbOK sl_R12 prog_14_method_87_code 3 (some .int) lk_mo [(127, 0)] mo_numberOf_cd = true := by decide +kernel
def mo_numberOf_ct : List sl_Ct := [(2, 0, 12, mo_lengthOf_pt)]
theorem mo_numberOf_hc (g : sl_G) : sl_HC g sl_R12 1 mo_numberOf_ct [(127, 0)] := sl_HC_cons (cs_mo_127 g (by decide)) (sl_HC_nil g sl_R12 1)
set_option maxRecDepth 20000 in
set_option maxHeartbeats 2000000 in
theorem mo_numberOf_snd (g : sl_G) : sl_Snd g mo_numberOf_y prog_14_method_87_code 3 (some .int) 1 (mo_numberOf_pt) := by
  intro As μ Q hw h
  unfold mo_numberOf_pt at h
  split at h
  next c0 a0 a1 a2 =>
    split at h
    next e_ =>
      subst e_
      split at h
      next e_ =>
        subst e_
        refine sl_mk2 g [true, true, true] (cst := [some (.inr (.inr (some (12, 104)))), some (.inl a1), some (.inl a2)]) (lv0 := [none, none, none]) (by decide) rfl hw rfl rfl rfl lk_mo_ok (mo_numberOf_hc g) mo_numberOf_tb rfl ?_
        intro X M
        exact ⟨_, sl_VV0, h⟩
      next => exact h.elim
    next => exact h.elim
  next => exact h.elim
def mo_isTest (a1 : Int32) (a2 : Int32) (μ : sl_M) (Q : Int32 → sl_M → Prop) : Prop := vp_in a2 90 ∧ mo_numberOf a1 (μ 123 a2.toNatClampNeg) μ (fun r2 m1 => vp_in a2 90 ∧ ((m1 124 a2.toNatClampNeg) = (60 : Int32) → vp_in a2 90 ∧ (r2 < (m1 125 a2.toNatClampNeg) → sl_bz (1 : Int32) = (1 : Int32) ∧ Q (1 : Int32) m1) ∧ (¬ r2 < (m1 125 a2.toNatClampNeg) → sl_bz (0 : Int32) = (0 : Int32) ∧ Q (0 : Int32) m1)) ∧ (¬ (m1 124 a2.toNatClampNeg) = (60 : Int32) → vp_in a2 90 ∧ ((m1 124 a2.toNatClampNeg) = (62 : Int32) → vp_in a2 90 ∧ (r2 ≤ (m1 125 a2.toNatClampNeg) → sl_bz (0 : Int32) = (0 : Int32) ∧ Q (0 : Int32) m1) ∧ (¬ r2 ≤ (m1 125 a2.toNatClampNeg) → sl_bz (1 : Int32) = (1 : Int32) ∧ Q (1 : Int32) m1)) ∧ (¬ (m1 124 a2.toNatClampNeg) = (62 : Int32) → vp_in a2 90 ∧ (r2 = (m1 125 a2.toNatClampNeg) → sl_bz (1 : Int32) = (1 : Int32) ∧ Q (1 : Int32) m1) ∧ (¬ r2 = (m1 125 a2.toNatClampNeg) → sl_bz (0 : Int32) = (0 : Int32) ∧ Q (0 : Int32) m1))))
def mo_isTest_pt : sl_PT := fun As μ Q => match As with
  | [.inr (.inr (some (c0, a0))), .inl a1, .inl a2] => if c0 = 12 then (if a0 = 104 then (mo_isTest a1 a2 μ (fun r μ' => Q (some (.inl r)) μ')) else False) else False
  | _ => False
def mo_isTest_cd : List sl_Ent := [(0, .aload_n 0, 1, 0, [0], [], false), (1, .iload_n 1, 1, 0, [1], [], false), (2, .aload_n 0, 1, 0, [0], [], false), (3, .getfield 64, 3, 0, [12, 25, 2, 20, 19], [], false), (6, .iload_n 2, 1, 0, [2], [], false), (7, .iaload, 1, 0, [], [], false), (8, .invokevirtual 352, 3, 0, [0], [], false), (11, .istore_n 3, 1, 0, [3], [], false), (12, .aload_n 0, 1, 0, [0], [], false), (13, .getfield 67, 3, 0, [12, 26, 2, 20, 20], [], false), (16, .iload_n 2, 1, 0, [2], [], false), (17, .iaload, 1, 0, [], [], false), (18, .bipush 60, 2, 60, [], [], false), (20, .if_icmp .ne 21, 3, 0, [41], [], false), (23, .iload_n 3, 1, 0, [3], [], false), (24, .aload_n 0, 1, 0, [0], [], false), (25, .getfield 70, 3, 0, [12, 27, 2, 20, 21], [], false), (28, .iload_n 2, 1, 0, [2], [], false), (29, .iaload, 1, 0, [], [], false), (30, .if_icmp .ge 7, 3, 0, [37], [], false), (33, .iconst 1, 1, 1, [], [], false), (34, .goto 51, 3, 0, [85], [], false), (37, .iconst 0, 1, 0, [], [], false), (38, .goto 47, 3, 0, [85], [], false), (41, .aload_n 0, 1, 0, [0], [], false), (42, .getfield 67, 3, 0, [12, 26, 2, 20, 20], [], false), (45, .iload_n 2, 1, 0, [2], [], false), (46, .iaload, 1, 0, [], [], false), (47, .bipush 62, 2, 62, [], [], false), (49, .if_icmp .ne 21, 3, 0, [70], [], false), (52, .iload_n 3, 1, 0, [3], [], false), (53, .aload_n 0, 1, 0, [0], [], false), (54, .getfield 70, 3, 0, [12, 27, 2, 20, 21], [], false), (57, .iload_n 2, 1, 0, [2], [], false), (58, .iaload, 1, 0, [], [], false), (59, .if_icmp .le 7, 3, 0, [66], [], false), (62, .iconst 1, 1, 1, [], [], false), (63, .goto 22, 3, 0, [85], [], false), (66, .iconst 0, 1, 0, [], [], false), (67, .goto 18, 3, 0, [85], [], false), (70, .iload_n 3, 1, 0, [3], [], false), (71, .aload_n 0, 1, 0, [0], [], false), (72, .getfield 70, 3, 0, [12, 27, 2, 20, 21], [], false), (75, .iload_n 2, 1, 0, [2], [], false), (76, .iaload, 1, 0, [], [], false), (77, .if_icmp .ne 7, 3, 0, [84], [], false), (80, .iconst 1, 1, 1, [], [], false), (81, .goto 4, 3, 0, [85], [], false), (84, .iconst 0, 1, 0, [], [], false), (85, .ireturn, 1, 0, [1], [], false)]
def mo_isTest_y : MethodName := ⟨"SpanLayersModel", "isTest", "(II)Z"⟩
theorem mo_isTest_tb : sl_tbOK sl_R12 prog_14_method_88_code 4 (some .boolean) lk_mo [(352, 0)] mo_isTest_cd = true := by decide +kernel
theorem mo_numberOf_w2 : Cond.instanceMethod mo_numberOf_y ∈ sl_T0 := sl_in1 1524 (by decide +kernel) rfl
theorem mo_numberOf_w3 : Cond.selects mo_numberOf_y.cls mo_numberOf_y mo_numberOf_y ∈ sl_T0 := sl_in1 71 (by decide +kernel) rfl
theorem mo_numberOf_w4 : Cond.initialized mo_numberOf_y.cls ∈ sl_T0 := sl_in1 97 (by decide +kernel) rfl
theorem mo_numberOf_w5 : Cond.code mo_numberOf_y prog_14_method_87_code 3 (some .int) ∈ sl_T0 := sl_in1 1525 (by decide +kernel) rfl
theorem mo_numberOf_w6 : mo_numberOf_y.cls ≠ "java/lang/invoke/MethodHandle" ∧ mo_numberOf_y.cls ≠ "java/lang/invoke/VarHandle" ∧ (parseMethodDescriptor mo_numberOf_y.desc).map (fun d => d.parameters.length) = some 2 := by decide +kernel
theorem cs_mo_352 (g : sl_G) {hh : Nat} (h : 2 ≤ hh) : sl_CallS g sl_R12 352 0 12 hh 3 mo_numberOf_pt := sl_callV (y := mo_numberOf_y) (T := sl_F12) (N := 50) (mo_numberOf_snd g) h (by decide) (sl_in1 1522 (by decide +kernel) rfl) mo_numberOf_w2 mo_numberOf_w3 mo_numberOf_w4 mo_numberOf_w5 mo_numberOf_w6 rfl (by decide)
def mo_isTest_ct : List sl_Ct := [(3, 0, 12, mo_numberOf_pt)]
theorem mo_isTest_hc (g : sl_G) : sl_HC g sl_R12 2 mo_isTest_ct [(352, 0)] := sl_HC_cons (cs_mo_352 g (by decide)) (sl_HC_nil g sl_R12 2)
set_option maxRecDepth 20000 in
set_option maxHeartbeats 2000000 in
theorem mo_isTest_snd (g : sl_G) : sl_Snd g mo_isTest_y prog_14_method_88_code 4 (some .boolean) 2 (mo_isTest_pt) := by
  intro As μ Q hw h
  unfold mo_isTest_pt at h
  split at h
  next c0 a0 a1 a2 =>
    split at h
    next e_ =>
      subst e_
      split at h
      next e_ =>
        subst e_
        refine sl_mk2 g [true, true, true, false] (cst := [some (.inr (.inr (some (12, 104)))), some (.inl a1), some (.inl a2)]) (lv0 := [none, none, none, none]) (by decide) rfl hw rfl rfl rfl lk_mo_ok (mo_isTest_hc g) mo_isTest_tb rfl ?_
        intro X M
        exact ⟨_, sl_VV0, h⟩
      next => exact h.elim
    next => exact h.elim
  next => exact h.elim
def mo_holds_L4 (a1 : Int32) (Q : Int32 → sl_M → Prop) : Nat → Int32 → Int32 → sl_M → Prop
  | 0, _, _, _ => False
  | n + 1, x2, x3, μ => (x3 < (μ 104 23) → vp_in x3 90 ∧ ((μ 122 x3.toNatClampNeg) = (0 : Int32) → mo_isTest a1 x3 μ (fun r2 m1 => vp_in x2 90 ∧ sl_bz r2 = r2 ∧ ∀ m3, m3 = sl_up m1 127 x2.toNatClampNeg r2 → (mo_holds_L4 a1 Q n) (x2 + (1 : Int32)) (x3 + (1 : Int32)) m3)) ∧ (¬ (μ 122 x3.toNatClampNeg) = (0 : Int32) → vp_in x3 90 ∧ ((μ 122 x3.toNatClampNeg) = (33 : Int32) → vp_in (x2 - (1 : Int32)) 90 ∧ ((sl_bz (μ 127 (x2 - (1 : Int32)).toNatClampNeg)) = (0 : Int32) → vp_in (x2 - (1 : Int32)) 90 ∧ sl_bz (1 : Int32) = (1 : Int32) ∧ ∀ m4, m4 = sl_up μ 127 (x2 - (1 : Int32)).toNatClampNeg (1 : Int32) → (mo_holds_L4 a1 Q n) x2 (x3 + (1 : Int32)) m4) ∧ (¬ (sl_bz (μ 127 (x2 - (1 : Int32)).toNatClampNeg)) = (0 : Int32) → vp_in (x2 - (1 : Int32)) 90 ∧ sl_bz (0 : Int32) = (0 : Int32) ∧ ∀ m5, m5 = sl_up μ 127 (x2 - (1 : Int32)).toNatClampNeg (0 : Int32) → (mo_holds_L4 a1 Q n) x2 (x3 + (1 : Int32)) m5)) ∧ (¬ (μ 122 x3.toNatClampNeg) = (33 : Int32) → vp_in x3 90 ∧ ((μ 122 x3.toNatClampNeg) = (38 : Int32) → vp_in ((x2 + (-1 : Int32)) - (1 : Int32)) 90 ∧ ((sl_bz (μ 127 ((x2 + (-1 : Int32)) - (1 : Int32)).toNatClampNeg)) = (0 : Int32) → vp_in ((x2 + (-1 : Int32)) - (1 : Int32)) 90 ∧ sl_bz (0 : Int32) = (0 : Int32) ∧ ∀ m6, m6 = sl_up μ 127 ((x2 + (-1 : Int32)) - (1 : Int32)).toNatClampNeg (0 : Int32) → (mo_holds_L4 a1 Q n) (x2 + (-1 : Int32)) (x3 + (1 : Int32)) m6) ∧ (¬ (sl_bz (μ 127 ((x2 + (-1 : Int32)) - (1 : Int32)).toNatClampNeg)) = (0 : Int32) → vp_in (x2 + (-1 : Int32)) 90 ∧ ((sl_bz (μ 127 (x2 + (-1 : Int32)).toNatClampNeg)) = (0 : Int32) → vp_in ((x2 + (-1 : Int32)) - (1 : Int32)) 90 ∧ sl_bz (0 : Int32) = (0 : Int32) ∧ ∀ m7, m7 = sl_up μ 127 ((x2 + (-1 : Int32)) - (1 : Int32)).toNatClampNeg (0 : Int32) → (mo_holds_L4 a1 Q n) (x2 + (-1 : Int32)) (x3 + (1 : Int32)) m7) ∧ (¬ (sl_bz (μ 127 (x2 + (-1 : Int32)).toNatClampNeg)) = (0 : Int32) → vp_in ((x2 + (-1 : Int32)) - (1 : Int32)) 90 ∧ sl_bz (1 : Int32) = (1 : Int32) ∧ ∀ m8, m8 = sl_up μ 127 ((x2 + (-1 : Int32)) - (1 : Int32)).toNatClampNeg (1 : Int32) → (mo_holds_L4 a1 Q n) (x2 + (-1 : Int32)) (x3 + (1 : Int32)) m8))) ∧ (¬ (μ 122 x3.toNatClampNeg) = (38 : Int32) → vp_in ((x2 + (-1 : Int32)) - (1 : Int32)) 90 ∧ ((sl_bz (μ 127 ((x2 + (-1 : Int32)) - (1 : Int32)).toNatClampNeg)) = (0 : Int32) → vp_in (x2 + (-1 : Int32)) 90 ∧ ((sl_bz (μ 127 (x2 + (-1 : Int32)).toNatClampNeg)) = (0 : Int32) → vp_in ((x2 + (-1 : Int32)) - (1 : Int32)) 90 ∧ sl_bz (0 : Int32) = (0 : Int32) ∧ ∀ m9, m9 = sl_up μ 127 ((x2 + (-1 : Int32)) - (1 : Int32)).toNatClampNeg (0 : Int32) → (mo_holds_L4 a1 Q n) (x2 + (-1 : Int32)) (x3 + (1 : Int32)) m9) ∧ (¬ (sl_bz (μ 127 (x2 + (-1 : Int32)).toNatClampNeg)) = (0 : Int32) → vp_in ((x2 + (-1 : Int32)) - (1 : Int32)) 90 ∧ sl_bz (1 : Int32) = (1 : Int32) ∧ ∀ m10, m10 = sl_up μ 127 ((x2 + (-1 : Int32)) - (1 : Int32)).toNatClampNeg (1 : Int32) → (mo_holds_L4 a1 Q n) (x2 + (-1 : Int32)) (x3 + (1 : Int32)) m10)) ∧ (¬ (sl_bz (μ 127 ((x2 + (-1 : Int32)) - (1 : Int32)).toNatClampNeg)) = (0 : Int32) → vp_in ((x2 + (-1 : Int32)) - (1 : Int32)) 90 ∧ sl_bz (1 : Int32) = (1 : Int32) ∧ ∀ m11, m11 = sl_up μ 127 ((x2 + (-1 : Int32)) - (1 : Int32)).toNatClampNeg (1 : Int32) → (mo_holds_L4 a1 Q n) (x2 + (-1 : Int32)) (x3 + (1 : Int32)) m11))))) ∧ (¬ x3 < (μ 104 23) → vp_in (0 : Int32) 90 ∧ sl_bz (sl_bz (μ 127 (0 : Int32).toNatClampNeg)) = (sl_bz (μ 127 (0 : Int32).toNatClampNeg)) ∧ Q (sl_bz (μ 127 (0 : Int32).toNatClampNeg)) μ)
def mo_holds (a1 : Int32) (μ : sl_M) (Q : Int32 → sl_M → Prop) : Prop := ∃ n12, mo_holds_L4 a1 Q n12 (0 : Int32) (0 : Int32) μ
def mo_holds_pt : sl_PT := fun As μ Q => match As with
  | [.inr (.inr (some (c0, a0))), .inl a1] => if c0 = 12 then (if a0 = 104 then (mo_holds a1 μ (fun r μ' => Q (some (.inl r)) μ')) else False) else False
  | _ => False
def mo_holds_cd : List sl_Ent := [(0, .iconst 0, 1, 0, [], [], false), (1, .istore_n 2, 1, 0, [2], [], false), (2, .iconst 0, 1, 0, [], [], false), (3, .istore_n 3, 1, 0, [3], [], false), (4, .iload_n 3, 1, 0, [3], [], true), (5, .aload_n 0, 1, 0, [0], [], false), (6, .getfield 314, 3, 0, [12, 23, 0, 0, 0], [], false), (9, .if_icmp .ge 149, 3, 0, [158], [], false), (12, .aload_n 0, 1, 0, [0], [], false), (13, .getfield 61, 3, 0, [12, 24, 2, 20, 18], [], false), (16, .iload_n 3, 1, 0, [3], [], false), (17, .iaload, 1, 0, [], [], false), (18, .ifCond .ne 21, 3, 0, [39], [], false), (21, .aload_n 0, 1, 0, [0], [], false), (22, .getfield 76, 3, 0, [12, 31, 2, 21, 23], [], false), (25, .iload_n 2, 1, 0, [2], [], false), (26, .aload_n 0, 1, 0, [0], [], false), (27, .iload_n 1, 1, 0, [1], [], false), (28, .iload_n 3, 1, 0, [3], [], false), (29, .invokevirtual 355, 3, 0, [0], [], false), (32, .bastore, 1, 0, [], [], false), (33, .iinc 2 1, 3, 1, [], [], false), (36, .goto 116, 3, 0, [152], [], false), (39, .aload_n 0, 1, 0, [0], [], false), (40, .getfield 61, 3, 0, [12, 24, 2, 20, 18], [], false), (43, .iload_n 3, 1, 0, [3], [], false), (44, .iaload, 1, 0, [], [], false), (45, .bipush 33, 2, 33, [], [], false), (47, .if_icmp .ne 30, 3, 0, [77], [], false), (50, .aload_n 0, 1, 0, [0], [], false), (51, .getfield 76, 3, 0, [12, 31, 2, 21, 23], [], false), (54, .iload_n 2, 1, 0, [2], [], false), (55, .iconst 1, 1, 1, [], [], false), (56, .isub, 1, 0, [], [], false), (57, .aload_n 0, 1, 0, [0], [], false), (58, .getfield 76, 3, 0, [12, 31, 2, 21, 23], [], false), (61, .iload_n 2, 1, 0, [2], [], false), (62, .iconst 1, 1, 1, [], [], false), (63, .isub, 1, 0, [], [], false), (64, .baload, 1, 0, [], [], false), (65, .ifCond .ne 7, 3, 0, [72], [], false), (68, .iconst 1, 1, 1, [], [], false), (69, .goto 4, 3, 0, [73], [], false), (72, .iconst 0, 1, 0, [], [], false), (73, .bastore, 1, 0, [], [], false), (74, .goto 78, 3, 0, [152], [], false), (77, .iinc 2 (-1), 3, (-1), [], [], false), (80, .aload_n 0, 1, 0, [0], [], false), (81, .getfield 76, 3, 0, [12, 31, 2, 21, 23], [], false), (84, .iload_n 2, 1, 0, [2], [], false), (85, .iconst 1, 1, 1, [], [], false), (86, .isub, 1, 0, [], [], false), (87, .aload_n 0, 1, 0, [0], [], false), (88, .getfield 61, 3, 0, [12, 24, 2, 20, 18], [], false), (91, .iload_n 3, 1, 0, [3], [], false), (92, .iaload, 1, 0, [], [], false), (93, .bipush 38, 2, 38, [], [], false), (95, .if_icmp .ne 31, 3, 0, [126], [], false), (98, .aload_n 0, 1, 0, [0], [], false), (99, .getfield 76, 3, 0, [12, 31, 2, 21, 23], [], false), (102, .iload_n 2, 1, 0, [2], [], false), (103, .iconst 1, 1, 1, [], [], false), (104, .isub, 1, 0, [], [], false), (105, .baload, 1, 0, [], [], false), (106, .ifCond .eq 16, 3, 0, [122], [], false), (109, .aload_n 0, 1, 0, [0], [], false), (110, .getfield 76, 3, 0, [12, 31, 2, 21, 23], [], false), (113, .iload_n 2, 1, 0, [2], [], false), (114, .baload, 1, 0, [], [], false), (115, .ifCond .eq 7, 3, 0, [122], [], false), (118, .iconst 1, 1, 1, [], [], false), (119, .goto 32, 3, 0, [151], [], false), (122, .iconst 0, 1, 0, [], [], false), (123, .goto 28, 3, 0, [151], [], false), (126, .aload_n 0, 1, 0, [0], [], false), (127, .getfield 76, 3, 0, [12, 31, 2, 21, 23], [], false), (130, .iload_n 2, 1, 0, [2], [], false), (131, .iconst 1, 1, 1, [], [], false), (132, .isub, 1, 0, [], [], false), (133, .baload, 1, 0, [], [], false), (134, .ifCond .ne 12, 3, 0, [146], [], false), (137, .aload_n 0, 1, 0, [0], [], false), (138, .getfield 76, 3, 0, [12, 31, 2, 21, 23], [], false), (141, .iload_n 2, 1, 0, [2], [], false), (142, .baload, 1, 0, [], [], false), (143, .ifCond .eq 7, 3, 0, [150], [], false), (146, .iconst 1, 1, 1, [], [], false), (147, .goto 4, 3, 0, [151], [], false), (150, .iconst 0, 1, 0, [], [], false), (151, .bastore, 1, 0, [], [], false), (152, .iinc 3 1, 3, 1, [], [], false), (155, .goto (-151), 3, 0, [4], [], false), (158, .aload_n 0, 1, 0, [0], [], false), (159, .getfield 76, 3, 0, [12, 31, 2, 21, 23], [], false), (162, .iconst 0, 1, 0, [], [], false), (163, .baload, 1, 0, [], [], false), (164, .ireturn, 1, 0, [1], [], false)]
def mo_holds_y : MethodName := ⟨"SpanLayersModel", "holds", "(I)Z"⟩
theorem mo_holds_tb : sl_tbOK sl_R12 prog_14_method_89_code 4 (some .boolean) lk_mo [(355, 0)] mo_holds_cd = true := by decide +kernel
theorem mo_isTest_w2 : Cond.instanceMethod mo_isTest_y ∈ sl_T0 := sl_in1 1520 (by decide +kernel) rfl
theorem mo_isTest_w3 : Cond.selects mo_isTest_y.cls mo_isTest_y mo_isTest_y ∈ sl_T0 := sl_in1 70 (by decide +kernel) rfl
theorem mo_isTest_w4 : Cond.initialized mo_isTest_y.cls ∈ sl_T0 := sl_in1 97 (by decide +kernel) rfl
theorem mo_isTest_w5 : Cond.code mo_isTest_y prog_14_method_88_code 4 (some .boolean) ∈ sl_T0 := sl_in1 1521 (by decide +kernel) rfl
theorem mo_isTest_w6 : mo_isTest_y.cls ≠ "java/lang/invoke/MethodHandle" ∧ mo_isTest_y.cls ≠ "java/lang/invoke/VarHandle" ∧ (parseMethodDescriptor mo_isTest_y.desc).map (fun d => d.parameters.length) = some 2 := by decide +kernel
theorem cs_mo_355 (g : sl_G) {hh : Nat} (h : 3 ≤ hh) : sl_CallS g sl_R12 355 0 12 hh 3 mo_isTest_pt := sl_callV (y := mo_isTest_y) (T := sl_F12) (N := 50) (mo_isTest_snd g) h (by decide) (sl_in1 1518 (by decide +kernel) rfl) mo_isTest_w2 mo_isTest_w3 mo_isTest_w4 mo_isTest_w5 mo_isTest_w6 rfl (by decide)
def mo_holds_ct : List sl_Ct := [(3, 0, 12, mo_isTest_pt)]
theorem mo_holds_hc (g : sl_G) : sl_HC g sl_R12 3 mo_holds_ct [(355, 0)] := sl_HC_cons (cs_mo_355 g (by decide)) (sl_HC_nil g sl_R12 3)
set_option maxRecDepth 20000 in
set_option maxHeartbeats 2000000 in
theorem mo_holds_snd (g : sl_G) : sl_Snd g mo_holds_y prog_14_method_89_code 4 (some .boolean) 3 (mo_holds_pt) := by
  intro As μ Q hw h
  unfold mo_holds_pt at h
  split at h
  next c0 a0 a1 =>
    split at h
    next e_ =>
      subst e_
      split at h
      next e_ =>
        subst e_
        refine sl_mk2 g [true, true, false, false] (cst := [some (.inr (.inr (some (12, 104)))), some (.inl a1)]) (lv0 := [none, none, none, none]) (by decide) rfl hw rfl rfl rfl lk_mo_ok (mo_holds_hc g) mo_holds_tb rfl ?_
        intro X M
        have v4 := sl_extL M sl_VV0 4 (fun n lv st μ => match lv, st with | [_, _, some (.inl x2), some (.inl x3)], [] => mo_holds_L4 a1 (fun r μ' => Q (some (.inl r)) μ') n x2 x3 μ | _, _ => False) (by
            intro lv st μ h
            split at h
            · exact h
            · exact h) (by
            intro n4 w4
            refine ⟨_, w4, ?_⟩
            intro lv st μ h
            split at h
            · exact h
            · exact h.elim)
        exact ⟨_, v4, h⟩
      next => exact h.elim
    next => exact h.elim
  next => exact h.elim
def mo_heldBits_L8 (Q : Int32 → sl_M → Prop) : Nat → Int32 → Int32 → sl_M → Prop
  | 0, _, _, _ => False
  | n + 1, x1, x2, μ => (x2 < (30 : Int32) → vp_in x2 30 ∧ ((μ 108 x2.toNatClampNeg) = (1 : Int32) → mo_holds x2 μ (fun r2 m1 => (r2 = (0 : Int32) → ∀ v3, v3 = (x1 ||| (0 : Int32)) → (mo_heldBits_L8 Q n) v3 (x2 + (1 : Int32)) m1) ∧ (¬ r2 = (0 : Int32) → ∀ v4, v4 = (x1 ||| ((1 : Int32) <<< (x2 &&& 31))) → (mo_heldBits_L8 Q n) v4 (x2 + (1 : Int32)) m1))) ∧ (¬ (μ 108 x2.toNatClampNeg) = (1 : Int32) → ∀ v5, v5 = (x1 ||| (0 : Int32)) → (mo_heldBits_L8 Q n) v5 (x2 + (1 : Int32)) μ)) ∧ (¬ x2 < (30 : Int32) → Q x1 μ)
def mo_heldBits (μ : sl_M) (Q : Int32 → sl_M → Prop) : Prop := mo_layLayers μ (fun m6 => ∃ n7, mo_heldBits_L8 Q n7 (0 : Int32) (0 : Int32) m6)
def mo_heldBits_pt : sl_PT := fun As μ Q => match As with
  | [.inr (.inr (some (c0, a0)))] => if c0 = 12 then (if a0 = 104 then (mo_heldBits μ (fun r μ' => Q (some (.inl r)) μ')) else False) else False
  | _ => False
def mo_heldBits_cd : List sl_Ent := [(0, .aload_n 0, 1, 0, [0], [], false), (1, .invokevirtual 158, 3, 0, [0], [], false), (4, .iconst 0, 1, 0, [], [], false), (5, .istore_n 1, 1, 0, [1], [], false), (6, .iconst 0, 1, 0, [], [], false), (7, .istore_n 2, 1, 0, [2], [], false), (8, .iload_n 2, 1, 0, [2], [], true), (9, .bipush 30, 2, 30, [], [], false), (11, .if_icmp .ge 37, 3, 0, [48], [], false), (14, .iload_n 1, 1, 0, [1], [], false), (15, .aload_n 0, 1, 0, [0], [], false), (16, .getfield 19, 3, 0, [12, 3, 2, 20, 4], [], false), (19, .iload_n 2, 1, 0, [2], [], false), (20, .iaload, 1, 0, [], [], false), (21, .iconst 1, 1, 1, [], [], false), (22, .if_icmp .ne 17, 3, 0, [39], [], false), (25, .aload_n 0, 1, 0, [0], [], false), (26, .iload_n 2, 1, 0, [2], [], false), (27, .invokevirtual 358, 3, 0, [1], [], false), (30, .ifCond .eq 9, 3, 0, [39], [], false), (33, .iconst 1, 1, 1, [], [], false), (34, .iload_n 2, 1, 0, [2], [], false), (35, .ishl, 1, 0, [], [], false), (36, .goto 4, 3, 0, [40], [], false), (39, .iconst 0, 1, 0, [], [], false), (40, .ior, 1, 0, [], [], false), (41, .istore_n 1, 1, 0, [1, 1], [], false), (42, .iinc 2 1, 3, 1, [], [], false), (45, .goto (-37), 3, 0, [8], [], false), (48, .iload_n 1, 1, 0, [1], [], false), (49, .ireturn, 1, 0, [], [], false)]
def mo_heldBits_y : MethodName := ⟨"SpanLayersModel", "heldBits", "()I"⟩
theorem mo_heldBits_tb : sl_tbOK sl_R12 prog_14_method_90_code 3 (some .int) lk_mo [(158, 0), (358, 0)] mo_heldBits_cd = true := by decide +kernel
theorem mo_holds_w2 : Cond.instanceMethod mo_holds_y ∈ sl_T0 := sl_in1 1516 (by decide +kernel) rfl
theorem mo_holds_w3 : Cond.selects mo_holds_y.cls mo_holds_y mo_holds_y ∈ sl_T0 := sl_in1 69 (by decide +kernel) rfl
theorem mo_holds_w4 : Cond.initialized mo_holds_y.cls ∈ sl_T0 := sl_in1 97 (by decide +kernel) rfl
theorem mo_holds_w5 : Cond.code mo_holds_y prog_14_method_89_code 4 (some .boolean) ∈ sl_T0 := sl_in1 1517 (by decide +kernel) rfl
theorem mo_holds_w6 : mo_holds_y.cls ≠ "java/lang/invoke/MethodHandle" ∧ mo_holds_y.cls ≠ "java/lang/invoke/VarHandle" ∧ (parseMethodDescriptor mo_holds_y.desc).map (fun d => d.parameters.length) = some 1 := by decide +kernel
theorem cs_mo_358 (g : sl_G) {hh : Nat} (h : 4 ≤ hh) : sl_CallS g sl_R12 358 0 12 hh 2 mo_holds_pt := sl_callV (y := mo_holds_y) (T := sl_F12) (N := 50) (mo_holds_snd g) h (by decide) (sl_in1 1514 (by decide +kernel) rfl) mo_holds_w2 mo_holds_w3 mo_holds_w4 mo_holds_w5 mo_holds_w6 rfl (by decide)
def mo_heldBits_ct : List sl_Ct := [(1, 0, 12, mo_layLayers_pt), (2, 0, 12, mo_holds_pt)]
theorem mo_heldBits_hc (g : sl_G) : sl_HC g sl_R12 4 mo_heldBits_ct [(158, 0), (358, 0)] := sl_HC_cons (cs_mo_158 g (by decide)) (sl_HC_cons (cs_mo_358 g (by decide)) (sl_HC_nil g sl_R12 4))
set_option maxRecDepth 20000 in
set_option maxHeartbeats 2000000 in
theorem mo_heldBits_snd (g : sl_G) : sl_Snd g mo_heldBits_y prog_14_method_90_code 3 (some .int) 4 (mo_heldBits_pt) := by
  intro As μ Q hw h
  unfold mo_heldBits_pt at h
  split at h
  next c0 a0 =>
    split at h
    next e_ =>
      subst e_
      split at h
      next e_ =>
        subst e_
        refine sl_mk2 g [true, false, false] (cst := [some (.inr (.inr (some (12, 104))))]) (lv0 := [none, none, none]) (by decide) rfl hw rfl rfl rfl lk_mo_ok (mo_heldBits_hc g) mo_heldBits_tb rfl ?_
        intro X M
        have v8 := sl_extL M sl_VV0 8 (fun n lv st μ => match lv, st with | [_, some (.inl x1), some (.inl x2)], [] => mo_heldBits_L8 (fun r μ' => Q (some (.inl r)) μ') n x1 x2 μ | _, _ => False) (by
            intro lv st μ h
            split at h
            · exact h
            · exact h) (by
            intro n8 w8
            refine ⟨_, w8, ?_⟩
            intro lv st μ h
            split at h
            · exact h
            · exact h.elim)
        exact ⟨_, v8, h⟩
      next => exact h.elim
    next => exact h.elim
  next => exact h.elim
def mo_pick (μ : sl_M) (Q : Int32 → sl_M → Prop) : Prop := ∀ m1, m1 = sl_up μ 104 5 (0 : Int32) → mo_readCondition m1 (fun r3 m2 => (r3 < (0 : Int32) → Q r3 m2) ∧ (¬ r3 < (0 : Int32) → mo_heldBits m2 (fun r5 m4 => Q r5 m4)))
def mo_pick_pt : sl_PT := fun As μ Q => match As with
  | [.inr (.inr (some (c0, a0)))] => if c0 = 12 then (if a0 = 104 then (mo_pick μ (fun r μ' => Q (some (.inl r)) μ')) else False) else False
  | _ => False
def mo_pick_cd : List sl_Ent := [(0, .aload_n 0, 1, 0, [0], [], false), (1, .iconst 0, 1, 0, [], [], false), (2, .putfield 113, 3, 0, [12, 5, 0], [], false), (5, .aload_n 0, 1, 0, [0], [], false), (6, .invokevirtual 361, 3, 0, [0], [], false), (9, .istore_n 1, 1, 0, [1], [], false), (10, .iload_n 1, 1, 0, [1], [], false), (11, .ifCond .ge 7, 3, 0, [18], [], false), (14, .iload_n 1, 1, 0, [1], [], false), (15, .goto 7, 3, 0, [22], [], false), (18, .aload_n 0, 1, 0, [0], [], false), (19, .invokevirtual 364, 3, 0, [1], [], false), (22, .ireturn, 1, 0, [], [], false)]
def mo_pick_y : MethodName := ⟨"SpanLayersModel", "pick", "()I"⟩
theorem mo_pick_tb : sl_tbOK sl_R12 prog_14_method_91_code 2 (some .int) lk_mo [(361, 0), (364, 0)] mo_pick_cd = true := by decide +kernel
theorem mo_readCondition_w2 : Cond.instanceMethod mo_readCondition_y ∈ sl_T0 := sl_in1 1447 (by decide +kernel) rfl
theorem mo_readCondition_w3 : Cond.selects mo_readCondition_y.cls mo_readCondition_y mo_readCondition_y ∈ sl_T0 := sl_in1 54 (by decide +kernel) rfl
theorem mo_readCondition_w4 : Cond.initialized mo_readCondition_y.cls ∈ sl_T0 := sl_in1 97 (by decide +kernel) rfl
theorem mo_readCondition_w5 : Cond.code mo_readCondition_y prog_14_method_86_code 2 (some .int) ∈ sl_T0 := sl_in1 1448 (by decide +kernel) rfl
theorem mo_readCondition_w6 : mo_readCondition_y.cls ≠ "java/lang/invoke/MethodHandle" ∧ mo_readCondition_y.cls ≠ "java/lang/invoke/VarHandle" ∧ (parseMethodDescriptor mo_readCondition_y.desc).map (fun d => d.parameters.length) = some 0 := by decide +kernel
theorem cs_mo_361 (g : sl_G) {hh : Nat} (h : 6 ≤ hh) : sl_CallS g sl_R12 361 0 12 hh 1 mo_readCondition_pt := sl_callV (y := mo_readCondition_y) (T := sl_F12) (N := 50) (mo_readCondition_snd g) h (by decide) (sl_in1 1445 (by decide +kernel) rfl) mo_readCondition_w2 mo_readCondition_w3 mo_readCondition_w4 mo_readCondition_w5 mo_readCondition_w6 rfl (by decide)
theorem mo_heldBits_w2 : Cond.instanceMethod mo_heldBits_y ∈ sl_T0 := sl_in1 1512 (by decide +kernel) rfl
theorem mo_heldBits_w3 : Cond.selects mo_heldBits_y.cls mo_heldBits_y mo_heldBits_y ∈ sl_T0 := sl_in1 68 (by decide +kernel) rfl
theorem mo_heldBits_w4 : Cond.initialized mo_heldBits_y.cls ∈ sl_T0 := sl_in1 97 (by decide +kernel) rfl
theorem mo_heldBits_w5 : Cond.code mo_heldBits_y prog_14_method_90_code 3 (some .int) ∈ sl_T0 := sl_in1 1513 (by decide +kernel) rfl
theorem mo_heldBits_w6 : mo_heldBits_y.cls ≠ "java/lang/invoke/MethodHandle" ∧ mo_heldBits_y.cls ≠ "java/lang/invoke/VarHandle" ∧ (parseMethodDescriptor mo_heldBits_y.desc).map (fun d => d.parameters.length) = some 0 := by decide +kernel
theorem cs_mo_364 (g : sl_G) {hh : Nat} (h : 5 ≤ hh) : sl_CallS g sl_R12 364 0 12 hh 1 mo_heldBits_pt := sl_callV (y := mo_heldBits_y) (T := sl_F12) (N := 50) (mo_heldBits_snd g) h (by decide) (sl_in1 1510 (by decide +kernel) rfl) mo_heldBits_w2 mo_heldBits_w3 mo_heldBits_w4 mo_heldBits_w5 mo_heldBits_w6 rfl (by decide)
def mo_pick_ct : List sl_Ct := [(1, 0, 12, mo_readCondition_pt), (1, 0, 12, mo_heldBits_pt)]
theorem mo_pick_hc (g : sl_G) : sl_HC g sl_R12 6 mo_pick_ct [(361, 0), (364, 0)] := sl_HC_cons (cs_mo_361 g (by decide)) (sl_HC_cons (cs_mo_364 g (by decide)) (sl_HC_nil g sl_R12 6))
set_option maxRecDepth 20000 in
set_option maxHeartbeats 2000000 in
theorem mo_pick_snd (g : sl_G) : sl_Snd g mo_pick_y prog_14_method_91_code 2 (some .int) 6 (mo_pick_pt) := by
  intro As μ Q hw h
  unfold mo_pick_pt at h
  split at h
  next c0 a0 =>
    split at h
    next e_ =>
      subst e_
      split at h
      next e_ =>
        subst e_
        refine sl_mk2 g [true, false] (cst := [some (.inr (.inr (some (12, 104))))]) (lv0 := [none, none]) (by decide) rfl hw rfl rfl rfl lk_mo_ok (mo_pick_hc g) mo_pick_tb rfl ?_
        intro X M
        exact ⟨_, sl_VV0, h⟩
      next => exact h.elim
    next => exact h.elim
  next => exact h.elim
def mo_many (μ : sl_M) (Q : Int32 → sl_M → Prop) : Prop := ∀ m1, m1 = sl_up μ 104 5 (0 : Int32) → mo_readCondition m1 (fun r3 m2 => (r3 < (0 : Int32) → Q r3 m2) ∧ (¬ r3 < (0 : Int32) → mo_heldBits m2 (fun r5 m4 => mo_onesOf r5 m4 (fun r7 m6 => Q r7 m6))))
def mo_many_pt : sl_PT := fun As μ Q => match As with
  | [.inr (.inr (some (c0, a0)))] => if c0 = 12 then (if a0 = 104 then (mo_many μ (fun r μ' => Q (some (.inl r)) μ')) else False) else False
  | _ => False
def mo_many_cd : List sl_Ent := [(0, .aload_n 0, 1, 0, [0], [], false), (1, .iconst 0, 1, 0, [], [], false), (2, .putfield 113, 3, 0, [12, 5, 0], [], false), (5, .aload_n 0, 1, 0, [0], [], false), (6, .invokevirtual 361, 3, 0, [0], [], false), (9, .istore_n 1, 1, 0, [1], [], false), (10, .iload_n 1, 1, 0, [1], [], false), (11, .ifCond .ge 7, 3, 0, [18], [], false), (14, .iload_n 1, 1, 0, [1], [], false), (15, .goto 11, 3, 0, [26], [], false), (18, .aload_n 0, 1, 0, [0], [], false), (19, .aload_n 0, 1, 0, [0], [], false), (20, .invokevirtual 364, 3, 0, [1], [], false), (23, .invokevirtual 248, 3, 0, [2], [], false), (26, .ireturn, 1, 0, [], [], false)]
def mo_many_y : MethodName := ⟨"SpanLayersModel", "many", "()I"⟩
theorem mo_many_tb : sl_tbOK sl_R12 prog_14_method_92_code 2 (some .int) lk_mo [(361, 0), (364, 0), (248, 0)] mo_many_cd = true := by decide +kernel
def mo_many_ct : List sl_Ct := [(1, 0, 12, mo_readCondition_pt), (1, 0, 12, mo_heldBits_pt), (2, 0, 12, mo_onesOf_pt)]
theorem mo_many_hc (g : sl_G) : sl_HC g sl_R12 6 mo_many_ct [(361, 0), (364, 0), (248, 0)] := sl_HC_cons (cs_mo_361 g (by decide)) (sl_HC_cons (cs_mo_364 g (by decide)) (sl_HC_cons (cs_mo_248 g (by decide)) (sl_HC_nil g sl_R12 6)))
set_option maxRecDepth 20000 in
set_option maxHeartbeats 2000000 in
theorem mo_many_snd (g : sl_G) : sl_Snd g mo_many_y prog_14_method_92_code 2 (some .int) 6 (mo_many_pt) := by
  intro As μ Q hw h
  unfold mo_many_pt at h
  split at h
  next c0 a0 =>
    split at h
    next e_ =>
      subst e_
      split at h
      next e_ =>
        subst e_
        refine sl_mk2 g [true, false] (cst := [some (.inr (.inr (some (12, 104))))]) (lv0 := [none, none]) (by decide) rfl hw rfl rfl rfl lk_mo_ok (mo_many_hc g) mo_many_tb rfl ?_
        intro X M
        exact ⟨_, sl_VV0, h⟩
      next => exact h.elim
    next => exact h.elim
  next => exact h.elim
def mo_cull_L23 (Q : Int32 → sl_M → Prop) : Nat → Int32 → Int32 → sl_M → Prop
  | 0, _, _, _ => False
  | n + 1, x2, x3, μ => (x3 < (30 : Int32) → (((x2 >>> (x3 &&& 31)) &&& (1 : Int32)) = (1 : Int32) → vp_in x3 30 ∧ ∀ m1, m1 = sl_up μ 108 x3.toNatClampNeg (0 : Int32) → (mo_cull_L23 Q n) x2 (x3 + (1 : Int32)) m1) ∧ (¬ ((x2 >>> (x3 &&& 31)) &&& (1 : Int32)) = (1 : Int32) → vp_in x3 30 ∧ vp_in x3 30 ∧ ∀ m2, m2 = sl_up μ 108 x3.toNatClampNeg (μ 108 x3.toNatClampNeg) → (mo_cull_L23 Q n) x2 (x3 + (1 : Int32)) m2)) ∧ (¬ x3 < (30 : Int32) → mo_onesOf x2 μ (fun r4 m3 => Q r4 m3))
def mo_cull (μ : sl_M) (Q : Int32 → sl_M → Prop) : Prop := ∀ m5, m5 = sl_up μ 104 5 (0 : Int32) → mo_readCondition m5 (fun r7 m6 => (r7 < (0 : Int32) → Q r7 m6) ∧ (¬ r7 < (0 : Int32) → mo_heldBits m6 (fun r9 m8 => ∃ n10, mo_cull_L23 Q n10 r9 (0 : Int32) m8)))
def mo_cull_pt : sl_PT := fun As μ Q => match As with
  | [.inr (.inr (some (c0, a0)))] => if c0 = 12 then (if a0 = 104 then (mo_cull μ (fun r μ' => Q (some (.inl r)) μ')) else False) else False
  | _ => False
def mo_cull_cd : List sl_Ent := [(0, .aload_n 0, 1, 0, [0], [], false), (1, .iconst 0, 1, 0, [], [], false), (2, .putfield 113, 3, 0, [12, 5, 0], [], false), (5, .aload_n 0, 1, 0, [0], [], false), (6, .invokevirtual 361, 3, 0, [0], [], false), (9, .istore_n 1, 1, 0, [1], [], false), (10, .iload_n 1, 1, 0, [1], [], false), (11, .ifCond .ge 5, 3, 0, [16], [], false), (14, .iload_n 1, 1, 0, [1], [], false), (15, .ireturn, 1, 0, [], [], false), (16, .aload_n 0, 1, 0, [0], [], false), (17, .invokevirtual 364, 3, 0, [1], [], false), (20, .istore_n 2, 1, 0, [2], [], false), (21, .iconst 0, 1, 0, [], [], false), (22, .istore_n 3, 1, 0, [3], [], false), (23, .iload_n 3, 1, 0, [3], [], true), (24, .bipush 30, 2, 30, [], [], false), (26, .if_icmp .ge 34, 3, 0, [60], [], false), (29, .aload_n 0, 1, 0, [0], [], false), (30, .getfield 19, 3, 0, [12, 3, 2, 20, 4], [], false), (33, .iload_n 3, 1, 0, [3], [], false), (34, .iload_n 2, 1, 0, [2], [], false), (35, .iload_n 3, 1, 0, [3], [], false), (36, .ishr, 1, 0, [], [], false), (37, .iconst 1, 1, 1, [], [], false), (38, .iand, 1, 0, [], [], false), (39, .iconst 1, 1, 1, [], [], false), (40, .if_icmp .ne 7, 3, 0, [47], [], false), (43, .iconst 0, 1, 0, [], [], false), (44, .goto 9, 3, 0, [53], [], false), (47, .aload_n 0, 1, 0, [0], [], false), (48, .getfield 19, 3, 0, [12, 3, 2, 20, 4], [], false), (51, .iload_n 3, 1, 0, [3], [], false), (52, .iaload, 1, 0, [], [], false), (53, .iastore, 1, 0, [], [], false), (54, .iinc 3 1, 3, 1, [], [], false), (57, .goto (-34), 3, 0, [23], [], false), (60, .aload_n 0, 1, 0, [0], [], false), (61, .iload_n 2, 1, 0, [2], [], false), (62, .invokevirtual 248, 3, 0, [2], [], false), (65, .ireturn, 1, 0, [], [], false)]
def mo_cull_y : MethodName := ⟨"SpanLayersModel", "cull", "()I"⟩
theorem mo_cull_tb : sl_tbOK sl_R12 prog_14_method_93_code 4 (some .int) lk_mo [(361, 0), (364, 0), (248, 0)] mo_cull_cd = true := by decide +kernel
def mo_cull_ct : List sl_Ct := [(1, 0, 12, mo_readCondition_pt), (1, 0, 12, mo_heldBits_pt), (2, 0, 12, mo_onesOf_pt)]
theorem mo_cull_hc (g : sl_G) : sl_HC g sl_R12 6 mo_cull_ct [(361, 0), (364, 0), (248, 0)] := sl_HC_cons (cs_mo_361 g (by decide)) (sl_HC_cons (cs_mo_364 g (by decide)) (sl_HC_cons (cs_mo_248 g (by decide)) (sl_HC_nil g sl_R12 6)))
set_option maxRecDepth 20000 in
set_option maxHeartbeats 2000000 in
theorem mo_cull_snd (g : sl_G) : sl_Snd g mo_cull_y prog_14_method_93_code 4 (some .int) 6 (mo_cull_pt) := by
  intro As μ Q hw h
  unfold mo_cull_pt at h
  split at h
  next c0 a0 =>
    split at h
    next e_ =>
      subst e_
      split at h
      next e_ =>
        subst e_
        refine sl_mk2 g [true, false, false, false] (cst := [some (.inr (.inr (some (12, 104))))]) (lv0 := [none, none, none, none]) (by decide) rfl hw rfl rfl rfl lk_mo_ok (mo_cull_hc g) mo_cull_tb rfl ?_
        intro X M
        have v23 := sl_extL M sl_VV0 23 (fun n lv st μ => match lv, st with | [_, _, some (.inl x2), some (.inl x3)], [] => mo_cull_L23 (fun r μ' => Q (some (.inl r)) μ') n x2 x3 μ | _, _ => False) (by
            intro lv st μ h
            split at h
            · exact h
            · exact h) (by
            intro n23 w23
            refine ⟨_, w23, ?_⟩
            intro lv st μ h
            split at h
            · exact h
            · exact h.elim)
        exact ⟨_, v23, h⟩
      next => exact h.elim
    next => exact h.elim
  next => exact h.elim
def mo_stepWordHere (μ : sl_M) (Q : Int32 → sl_M → Prop) : Prop := mo_wordHere μ (fun r2 m1 => mo_wordOf (115 : Int32) (104 : Int32) (105 : Int32) (102 : Int32) (116 : Int32) (0 : Int32) m1 (fun r4 m3 => ((lg_cmp r2 r4) = (0 : Int32) → Q (0 : Int32) m3) ∧ (¬ (lg_cmp r2 r4) = (0 : Int32) → mo_wordOf (103 : Int32) (114 : Int32) (111 : Int32) (119 : Int32) (0 : Int32) (0 : Int32) m3 (fun r6 m5 => ((lg_cmp r2 r6) = (0 : Int32) → Q (1 : Int32) m5) ∧ (¬ (lg_cmp r2 r6) = (0 : Int32) → mo_wordOf (99 : Int32) (108 : Int32) (105 : Int32) (112 : Int32) (0 : Int32) (0 : Int32) m5 (fun r8 m7 => ((lg_cmp r2 r8) = (0 : Int32) → Q (2 : Int32) m7) ∧ (¬ (lg_cmp r2 r8) = (0 : Int32) → mo_wordOf (109 : Int32) (105 : Int32) (114 : Int32) (114 : Int32) (111 : Int32) (114 : Int32) m7 (fun r10 m9 => ((lg_cmp r2 r10) = (0 : Int32) → Q (3 : Int32) m9) ∧ (¬ (lg_cmp r2 r10) = (0 : Int32) → mo_wordOf (116 : Int32) (105 : Int32) (109 : Int32) (101 : Int32) (115 : Int32) (0 : Int32) m9 (fun r12 m11 => ((lg_cmp r2 r12) = (0 : Int32) → Q (4 : Int32) m11) ∧ (¬ (lg_cmp r2 r12) = (0 : Int32) → mo_wordOf (104 : Int32) (101 : Int32) (97 : Int32) (112 : Int32) (0 : Int32) (0 : Int32) m11 (fun r14 m13 => ((lg_cmp r2 r14) = (0 : Int32) → Q (5 : Int32) m13) ∧ (¬ (lg_cmp r2 r14) = (0 : Int32) → Q (-1 : Int32) m13)))))))))))))
def mo_stepWordHere_pt : sl_PT := fun As μ Q => match As with
  | [.inr (.inr (some (c0, a0)))] => if c0 = 12 then (if a0 = 104 then (mo_stepWordHere μ (fun r μ' => Q (some (.inl r)) μ')) else False) else False
  | _ => False
def mo_stepWordHere_cd : List sl_Ent := [(0, .aload_n 0, 1, 0, [0], [], false), (1, .invokevirtual 306, 3, 0, [0], [], false), (4, .lstore_n 1, 1, 0, [1], [], false), (5, .lload_n 1, 1, 0, [1], [], false), (6, .bipush 115, 2, 115, [], [], false), (8, .bipush 104, 2, 104, [], [], false), (10, .bipush 105, 2, 105, [], [], false), (12, .bipush 102, 2, 102, [], [], false), (14, .bipush 116, 2, 116, [], [], false), (16, .iconst 0, 1, 0, [], [], false), (17, .invokestatic 310, 3, 0, [1], [], false), (20, .lcmp, 1, 0, [], [], false), (21, .ifCond .ne 7, 3, 0, [28], [], false), (24, .iconst 0, 1, 0, [], [], false), (25, .goto 117, 3, 0, [142], [], false), (28, .lload_n 1, 1, 0, [1], [], false), (29, .bipush 103, 2, 103, [], [], false), (31, .bipush 114, 2, 114, [], [], false), (33, .bipush 111, 2, 111, [], [], false), (35, .bipush 119, 2, 119, [], [], false), (37, .iconst 0, 1, 0, [], [], false), (38, .iconst 0, 1, 0, [], [], false), (39, .invokestatic 310, 3, 0, [1], [], false), (42, .lcmp, 1, 0, [], [], false), (43, .ifCond .ne 7, 3, 0, [50], [], false), (46, .iconst 1, 1, 1, [], [], false), (47, .goto 95, 3, 0, [142], [], false), (50, .lload_n 1, 1, 0, [1], [], false), (51, .bipush 99, 2, 99, [], [], false), (53, .bipush 108, 2, 108, [], [], false), (55, .bipush 105, 2, 105, [], [], false), (57, .bipush 112, 2, 112, [], [], false), (59, .iconst 0, 1, 0, [], [], false), (60, .iconst 0, 1, 0, [], [], false), (61, .invokestatic 310, 3, 0, [1], [], false), (64, .lcmp, 1, 0, [], [], false), (65, .ifCond .ne 7, 3, 0, [72], [], false), (68, .iconst 2, 1, 2, [], [], false), (69, .goto 73, 3, 0, [142], [], false), (72, .lload_n 1, 1, 0, [1], [], false), (73, .bipush 109, 2, 109, [], [], false), (75, .bipush 105, 2, 105, [], [], false), (77, .bipush 114, 2, 114, [], [], false), (79, .bipush 114, 2, 114, [], [], false), (81, .bipush 111, 2, 111, [], [], false), (83, .bipush 114, 2, 114, [], [], false), (85, .invokestatic 310, 3, 0, [1], [], false), (88, .lcmp, 1, 0, [], [], false), (89, .ifCond .ne 7, 3, 0, [96], [], false), (92, .iconst 3, 1, 3, [], [], false), (93, .goto 49, 3, 0, [142], [], false), (96, .lload_n 1, 1, 0, [1], [], false), (97, .bipush 116, 2, 116, [], [], false), (99, .bipush 105, 2, 105, [], [], false), (101, .bipush 109, 2, 109, [], [], false), (103, .bipush 101, 2, 101, [], [], false), (105, .bipush 115, 2, 115, [], [], false), (107, .iconst 0, 1, 0, [], [], false), (108, .invokestatic 310, 3, 0, [1], [], false), (111, .lcmp, 1, 0, [], [], false), (112, .ifCond .ne 7, 3, 0, [119], [], false), (115, .iconst 4, 1, 4, [], [], false), (116, .goto 26, 3, 0, [142], [], false), (119, .lload_n 1, 1, 0, [1], [], false), (120, .bipush 104, 2, 104, [], [], false), (122, .bipush 101, 2, 101, [], [], false), (124, .bipush 97, 2, 97, [], [], false), (126, .bipush 112, 2, 112, [], [], false), (128, .iconst 0, 1, 0, [], [], false), (129, .iconst 0, 1, 0, [], [], false), (130, .invokestatic 310, 3, 0, [1], [], false), (133, .lcmp, 1, 0, [], [], false), (134, .ifCond .ne 7, 3, 0, [141], [], false), (137, .iconst 5, 1, 5, [], [], false), (138, .goto 4, 3, 0, [142], [], false), (141, .iconst (-1), 1, (-1), [], [], false), (142, .ireturn, 1, 0, [], [], false)]
def mo_stepWordHere_y : MethodName := ⟨"SpanLayersModel", "stepWordHere", "()I"⟩
theorem mo_stepWordHere_tb : sl_tbOK sl_R12 prog_14_method_94_code 3 (some .int) lk_mo [(306, 0), (310, 1)] mo_stepWordHere_cd = true := by decide +kernel
def mo_stepWordHere_ct : List sl_Ct := [(1, 0, 12, mo_wordHere_pt), (6, 1, 0, mo_wordOf_pt)]
theorem mo_stepWordHere_hc (g : sl_G) : sl_HC g sl_R12 2 mo_stepWordHere_ct [(306, 0), (310, 1)] := sl_HC_cons (cs_mo_306 g (by decide)) (sl_HC_cons (cs_mo_310 g (by decide)) (sl_HC_nil g sl_R12 2))
set_option maxRecDepth 20000 in
set_option maxHeartbeats 2000000 in
theorem mo_stepWordHere_snd (g : sl_G) : sl_Snd g mo_stepWordHere_y prog_14_method_94_code 3 (some .int) 2 (mo_stepWordHere_pt) := by
  intro As μ Q hw h
  unfold mo_stepWordHere_pt at h
  split at h
  next c0 a0 =>
    split at h
    next e_ =>
      subst e_
      split at h
      next e_ =>
        subst e_
        refine sl_mk2 g [true, false, false] (cst := [some (.inr (.inr (some (12, 104))))]) (lv0 := [none, none, none]) (by decide) rfl hw rfl rfl rfl lk_mo_ok (mo_stepWordHere_hc g) mo_stepWordHere_tb rfl ?_
        intro X M
        exact ⟨_, sl_VV0, h⟩
      next => exact h.elim
    next => exact h.elim
  next => exact h.elim
