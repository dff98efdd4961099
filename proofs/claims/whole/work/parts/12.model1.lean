def mo_in (a0 : Int64) (a2 : Int64) (a4 : Int64) (μ : sl_M) (Q : Int32 → sl_M → Prop) : Prop := ((lg_cmp a0 a2) < (0 : Int32) → sl_bz (0 : Int32) = (0 : Int32) ∧ Q (0 : Int32) μ) ∧ (¬ (lg_cmp a0 a2) < (0 : Int32) → ((lg_cmp a0 a4) ≤ (0 : Int32) → sl_bz (1 : Int32) = (1 : Int32) ∧ Q (1 : Int32) μ) ∧ (¬ (lg_cmp a0 a4) ≤ (0 : Int32) → sl_bz (0 : Int32) = (0 : Int32) ∧ Q (0 : Int32) μ))
def mo_in_pt : sl_PT := fun As μ Q => match As with
  | [.inr (.inl a0), .inr (.inl a2), .inr (.inl a4)] => mo_in a0 a2 a4 μ (fun r μ' => Q (some (.inl r)) μ')
  | _ => False
def mo_in_cd : List sl_Ent := [(0, .lload_n 0, 1, 0, [0], [], false), (1, .lload_n 2, 1, 0, [2], [], false), (2, .lcmp, 1, 0, [], [], false), (3, .ifCond .lt 14, 3, 0, [17], [], false), (6, .lload_n 0, 1, 0, [0], [], false), (7, .lload 4, 2, 0, [4], [], false), (9, .lcmp, 1, 0, [], [], false), (10, .ifCond .gt 7, 3, 0, [17], [], false), (13, .iconst 1, 1, 1, [], [], false), (14, .goto 4, 3, 0, [18], [], false), (17, .iconst 0, 1, 0, [], [], false), (18, .ireturn, 1, 0, [1], [], false)]
def mo_in_y : MethodName := ⟨"SpanLayersModel", "in", "(JJJ)Z"⟩
theorem mo_in_tb : sl_tbOK sl_R12 prog_14_method_3_code 6 (some .boolean) lk_mo [] mo_in_cd = true := by decide +kernel
def mo_in_ct : List sl_Ct := []
theorem mo_in_hc (g : sl_G) : sl_HC g sl_R12 0 mo_in_ct [] := sl_HC_nil g sl_R12 0
set_option maxRecDepth 20000 in
set_option maxHeartbeats 2000000 in
theorem mo_in_snd (g : sl_G) : sl_Snd g mo_in_y prog_14_method_3_code 6 (some .boolean) 0 (mo_in_pt) := by
  intro As μ Q hw h
  unfold mo_in_pt at h
  split at h
  next a0 a2 a4 =>
    refine sl_mk2 g [true, false, true, false, true, false] (cst := [some (.inr (.inl a0)), none, some (.inr (.inl a2)), none, some (.inr (.inl a4)), none]) (lv0 := [none, none, none, none, none, none]) (by decide) rfl hw rfl rfl rfl lk_mo_ok (mo_in_hc g) mo_in_tb rfl ?_
    intro X M
    exact ⟨_, sl_VV0, h⟩
  next => exact h.elim
def mo_isSpan (a0 : Int32) (μ : sl_M) (Q : Int32 → sl_M → Prop) : Prop := mo_in a0.toInt64 ((0 : Int32).toInt64) ((29 : Int32).toInt64) μ (fun r2 m1 => sl_bz r2 = r2 ∧ Q r2 m1)
def mo_isSpan_pt : sl_PT := fun As μ Q => match As with
  | [.inl a0] => mo_isSpan a0 μ (fun r μ' => Q (some (.inl r)) μ')
  | _ => False
def mo_isSpan_cd : List sl_Ent := [(0, .iload_n 0, 1, 0, [0], [], false), (1, .i2l, 1, 0, [], [], false), (2, .lconst 0, 1, 0, [], [], false), (3, .ldc2_w 117, 3, 29, [], [], false), (6, .invokestatic 119, 3, 0, [0], [], false), (9, .ireturn, 1, 0, [1], [], false)]
def mo_isSpan_y : MethodName := ⟨"SpanLayersModel", "isSpan", "(I)Z"⟩
theorem mo_isSpan_tb : sl_tbOK sl_R12 prog_14_method_4_code 1 (some .boolean) lk_mo [(119, 1)] mo_isSpan_cd = true := by decide +kernel
theorem mo_in_w2 : Cond.static mo_in_y ∈ sl_T0 := sl_in1 1178 (by decide +kernel) rfl
theorem mo_in_w4 : Cond.initialized mo_in_y.cls ∈ sl_T0 := sl_in1 97 (by decide +kernel) rfl
theorem mo_in_w5 : Cond.code mo_in_y prog_14_method_3_code 6 (some .boolean) ∈ sl_T0 := sl_in1 1179 (by decide +kernel) rfl
theorem mo_in_w6 : mo_in_y.cls ≠ "java/lang/invoke/MethodHandle" ∧ mo_in_y.cls ≠ "java/lang/invoke/VarHandle" ∧ (parseMethodDescriptor mo_in_y.desc).map (fun d => d.parameters.length) = some 3 := by decide +kernel
theorem cs_mo_119 (g : sl_G) {hh : Nat} (h : 1 ≤ hh) : sl_CallS g sl_R12 119 1 0 hh 3 mo_in_pt := sl_callS (y := mo_in_y) (mo_in_snd g) h (by decide) (sl_in1 1177 (by decide +kernel) rfl) mo_in_w2 mo_in_w4 mo_in_w5 mo_in_w6
def mo_isSpan_ct : List sl_Ct := [(3, 1, 0, mo_in_pt)]
theorem mo_isSpan_hc (g : sl_G) : sl_HC g sl_R12 1 mo_isSpan_ct [(119, 1)] := sl_HC_cons (cs_mo_119 g (by decide)) (sl_HC_nil g sl_R12 1)
set_option maxRecDepth 20000 in
set_option maxHeartbeats 2000000 in
theorem mo_isSpan_snd (g : sl_G) : sl_Snd g mo_isSpan_y prog_14_method_4_code 1 (some .boolean) 1 (mo_isSpan_pt) := by
  intro As μ Q hw h
  unfold mo_isSpan_pt at h
  split at h
  next a0 =>
    refine sl_mk2 g [true] (cst := [some (.inl a0)]) (lv0 := [none]) (by decide) rfl hw rfl rfl rfl lk_mo_ok (mo_isSpan_hc g) mo_isSpan_tb rfl ?_
    intro X M
    exact ⟨_, sl_VV0, h⟩
  next => exact h.elim
def mo_isHere (a1 : Int32) (μ : sl_M) (Q : Int32 → sl_M → Prop) : Prop := mo_isSpan a1 μ (fun r2 m1 => (r2 = (0 : Int32) → sl_bz (0 : Int32) = (0 : Int32) ∧ Q (0 : Int32) m1) ∧ (¬ r2 = (0 : Int32) → vp_in a1 30 ∧ ((m1 108 a1.toNatClampNeg) = (1 : Int32) → sl_bz (1 : Int32) = (1 : Int32) ∧ Q (1 : Int32) m1) ∧ (¬ (m1 108 a1.toNatClampNeg) = (1 : Int32) → sl_bz (0 : Int32) = (0 : Int32) ∧ Q (0 : Int32) m1)))
def mo_isHere_pt : sl_PT := fun As μ Q => match As with
  | [.inr (.inr (some (c0, a0))), .inl a1] => if c0 = 12 then (if a0 = 104 then (mo_isHere a1 μ (fun r μ' => Q (some (.inl r)) μ')) else False) else False
  | _ => False
def mo_isHere_cd : List sl_Ent := [(0, .iload_n 1, 1, 0, [1], [], false), (1, .invokestatic 123, 3, 0, [0], [], false), (4, .ifCond .eq 17, 3, 0, [21], [], false), (7, .aload_n 0, 1, 0, [0], [], false), (8, .getfield 19, 3, 0, [12, 3, 2, 20, 4], [], false), (11, .iload_n 1, 1, 0, [1], [], false), (12, .iaload, 1, 0, [], [], false), (13, .iconst 1, 1, 1, [], [], false), (14, .if_icmp .ne 7, 3, 0, [21], [], false), (17, .iconst 1, 1, 1, [], [], false), (18, .goto 4, 3, 0, [22], [], false), (21, .iconst 0, 1, 0, [], [], false), (22, .ireturn, 1, 0, [1], [], false)]
def mo_isHere_y : MethodName := ⟨"SpanLayersModel", "isHere", "(I)Z"⟩
theorem mo_isHere_tb : sl_tbOK sl_R12 prog_14_method_5_code 2 (some .boolean) lk_mo [(123, 1)] mo_isHere_cd = true := by decide +kernel
theorem mo_isSpan_w2 : Cond.static mo_isSpan_y ∈ sl_T0 := sl_in1 1195 (by decide +kernel) rfl
theorem mo_isSpan_w4 : Cond.initialized mo_isSpan_y.cls ∈ sl_T0 := sl_in1 97 (by decide +kernel) rfl
theorem mo_isSpan_w5 : Cond.code mo_isSpan_y prog_14_method_4_code 1 (some .boolean) ∈ sl_T0 := sl_in1 1196 (by decide +kernel) rfl
theorem mo_isSpan_w6 : mo_isSpan_y.cls ≠ "java/lang/invoke/MethodHandle" ∧ mo_isSpan_y.cls ≠ "java/lang/invoke/VarHandle" ∧ (parseMethodDescriptor mo_isSpan_y.desc).map (fun d => d.parameters.length) = some 1 := by decide +kernel
theorem cs_mo_123 (g : sl_G) {hh : Nat} (h : 2 ≤ hh) : sl_CallS g sl_R12 123 1 0 hh 1 mo_isSpan_pt := sl_callS (y := mo_isSpan_y) (mo_isSpan_snd g) h (by decide) (sl_in1 1194 (by decide +kernel) rfl) mo_isSpan_w2 mo_isSpan_w4 mo_isSpan_w5 mo_isSpan_w6
def mo_isHere_ct : List sl_Ct := [(1, 1, 0, mo_isSpan_pt)]
theorem mo_isHere_hc (g : sl_G) : sl_HC g sl_R12 2 mo_isHere_ct [(123, 1)] := sl_HC_cons (cs_mo_123 g (by decide)) (sl_HC_nil g sl_R12 2)
set_option maxRecDepth 20000 in
set_option maxHeartbeats 2000000 in
theorem mo_isHere_snd (g : sl_G) : sl_Snd g mo_isHere_y prog_14_method_5_code 2 (some .boolean) 2 (mo_isHere_pt) := by
  intro As μ Q hw h
  unfold mo_isHere_pt at h
  split at h
  next c0 a0 a1 =>
    split at h
    next e_ =>
      subst e_
      split at h
      next e_ =>
        subst e_
        refine sl_mk2 g [true, true] (cst := [some (.inr (.inr (some (12, 104)))), some (.inl a1)]) (lv0 := [none, none]) (by decide) rfl hw rfl rfl rfl lk_mo_ok (mo_isHere_hc g) mo_isHere_tb rfl ?_
        intro X M
        exact ⟨_, sl_VV0, h⟩
      next => exact h.elim
    next => exact h.elim
  next => exact h.elim
def mo_manyIn_L4 (Q : Int32 → sl_M → Prop) : Nat → Int32 → Int32 → sl_M → Prop
  | 0, _, _, _ => False
  | n + 1, x1, x2, μ => (x2 < (30 : Int32) → vp_in x2 30 ∧ ∀ v1, v1 = (x1 + (μ 108 x2.toNatClampNeg)) → (mo_manyIn_L4 Q n) v1 (x2 + (1 : Int32)) μ) ∧ (¬ x2 < (30 : Int32) → Q x1 μ)
def mo_manyIn (μ : sl_M) (Q : Int32 → sl_M → Prop) : Prop := ∃ n2, mo_manyIn_L4 Q n2 (0 : Int32) (0 : Int32) μ
def mo_manyIn_pt : sl_PT := fun As μ Q => match As with
  | [.inr (.inr (some (c0, a0)))] => if c0 = 12 then (if a0 = 104 then (mo_manyIn μ (fun r μ' => Q (some (.inl r)) μ')) else False) else False
  | _ => False
def mo_manyIn_cd : List sl_Ent := [(0, .iconst 0, 1, 0, [], [], false), (1, .istore_n 1, 1, 0, [1], [], false), (2, .iconst 0, 1, 0, [], [], false), (3, .istore_n 2, 1, 0, [2], [], false), (4, .iload_n 2, 1, 0, [2], [], true), (5, .bipush 30, 2, 30, [], [], false), (7, .if_icmp .ge 18, 3, 0, [25], [], false), (10, .iload_n 1, 1, 0, [1], [], false), (11, .aload_n 0, 1, 0, [0], [], false), (12, .getfield 19, 3, 0, [12, 3, 2, 20, 4], [], false), (15, .iload_n 2, 1, 0, [2], [], false), (16, .iaload, 1, 0, [], [], false), (17, .iadd, 1, 0, [], [], false), (18, .istore_n 1, 1, 0, [1, 1], [], false), (19, .iinc 2 1, 3, 1, [], [], false), (22, .goto (-18), 3, 0, [4], [], false), (25, .iload_n 1, 1, 0, [1], [], false), (26, .ireturn, 1, 0, [], [], false)]
def mo_manyIn_y : MethodName := ⟨"SpanLayersModel", "manyIn", "()I"⟩
theorem mo_manyIn_tb : sl_tbOK sl_R12 prog_14_method_6_code 3 (some .int) lk_mo [] mo_manyIn_cd = true := by decide +kernel
def mo_manyIn_ct : List sl_Ct := []
theorem mo_manyIn_hc (g : sl_G) : sl_HC g sl_R12 0 mo_manyIn_ct [] := sl_HC_nil g sl_R12 0
set_option maxRecDepth 20000 in
set_option maxHeartbeats 2000000 in
theorem mo_manyIn_snd (g : sl_G) : sl_Snd g mo_manyIn_y prog_14_method_6_code 3 (some .int) 0 (mo_manyIn_pt) := by
  intro As μ Q hw h
  unfold mo_manyIn_pt at h
  split at h
  next c0 a0 =>
    split at h
    next e_ =>
      subst e_
      split at h
      next e_ =>
        subst e_
        refine sl_mk2 g [true, false, false] (cst := [some (.inr (.inr (some (12, 104))))]) (lv0 := [none, none, none]) (by decide) rfl hw rfl rfl rfl lk_mo_ok (mo_manyIn_hc g) mo_manyIn_tb rfl ?_
        intro X M
        have v4 := sl_extL M sl_VV0 4 (fun n lv st μ => match lv, st with | [_, some (.inl x1), some (.inl x2)], [] => mo_manyIn_L4 (fun r μ' => Q (some (.inl r)) μ') n x1 x2 μ | _, _ => False) (by
            intro lv st μ h
            split at h
            · exact h
            · exact h) (by
            intro n4 w4
            refine ⟨_, w4, ?_⟩
            intro lv st μ h
            split at h
            · exact h
            · exact h.elim)
        exact ⟨_, v4, h⟩
      next => exact h.elim
    next => exact h.elim
  next => exact h.elim
def mo_lengthOf (a1 : Int32) (μ : sl_M) (Q : Int32 → sl_M → Prop) : Prop := vp_in a1 30 ∧ vp_in a1 30 ∧ Q (((μ 106 a1.toNatClampNeg) - (μ 105 a1.toNatClampNeg)) + (1 : Int32)) μ
def mo_lengthOf_pt : sl_PT := fun As μ Q => match As with
  | [.inr (.inr (some (c0, a0))), .inl a1] => if c0 = 12 then (if a0 = 104 then (mo_lengthOf a1 μ (fun r μ' => Q (some (.inl r)) μ')) else False) else False
  | _ => False
def mo_lengthOf_cd : List sl_Ent := [(0, .aload_n 0, 1, 0, [0], [], false), (1, .getfield 13, 3, 0, [12, 1, 2, 20, 2], [], false), (4, .iload_n 1, 1, 0, [1], [], false), (5, .iaload, 1, 0, [], [], false), (6, .aload_n 0, 1, 0, [0], [], false), (7, .getfield 7, 3, 0, [12, 0, 2, 20, 1], [], false), (10, .iload_n 1, 1, 0, [1], [], false), (11, .iaload, 1, 0, [], [], false), (12, .isub, 1, 0, [], [], false), (13, .iconst 1, 1, 1, [], [], false), (14, .iadd, 1, 0, [], [], false), (15, .ireturn, 1, 0, [], [], false)]
def mo_lengthOf_y : MethodName := ⟨"SpanLayersModel", "lengthOf", "(I)I"⟩
theorem mo_lengthOf_tb : sl_tbOK sl_R12 prog_14_method_7_code 2 (some .int) lk_mo [] mo_lengthOf_cd = true := by decide +kernel
def mo_lengthOf_ct : List sl_Ct := []
theorem mo_lengthOf_hc (g : sl_G) : sl_HC g sl_R12 0 mo_lengthOf_ct [] := sl_HC_nil g sl_R12 0
set_option maxRecDepth 20000 in
set_option maxHeartbeats 2000000 in
theorem mo_lengthOf_snd (g : sl_G) : sl_Snd g mo_lengthOf_y prog_14_method_7_code 2 (some .int) 0 (mo_lengthOf_pt) := by
  intro As μ Q hw h
  unfold mo_lengthOf_pt at h
  split at h
  next c0 a0 a1 =>
    split at h
    next e_ =>
      subst e_
      split at h
      next e_ =>
        subst e_
        refine sl_mk2 g [true, true] (cst := [some (.inr (.inr (some (12, 104)))), some (.inl a1)]) (lv0 := [none, none]) (by decide) rfl hw rfl rfl rfl lk_mo_ok (mo_lengthOf_hc g) mo_lengthOf_tb rfl ?_
        intro X M
        exact ⟨_, sl_VV0, h⟩
      next => exact h.elim
    next => exact h.elim
  next => exact h.elim
def mo_has (a1 : Int32) (a2 : Int32) (μ : sl_M) (Q : Int32 → sl_M → Prop) : Prop := vp_in a1 30 ∧ ((μ 108 a1.toNatClampNeg) = (1 : Int32) → vp_in a1 30 ∧ vp_in a1 30 ∧ mo_in a2.toInt64 ((μ 105 a1.toNatClampNeg).toInt64) ((μ 106 a1.toNatClampNeg).toInt64) μ (fun r2 m1 => (r2 = (0 : Int32) → sl_bz (0 : Int32) = (0 : Int32) ∧ Q (0 : Int32) m1) ∧ (¬ r2 = (0 : Int32) → sl_bz (1 : Int32) = (1 : Int32) ∧ Q (1 : Int32) m1))) ∧ (¬ (μ 108 a1.toNatClampNeg) = (1 : Int32) → sl_bz (0 : Int32) = (0 : Int32) ∧ Q (0 : Int32) μ)
def mo_has_pt : sl_PT := fun As μ Q => match As with
  | [.inr (.inr (some (c0, a0))), .inl a1, .inl a2] => if c0 = 12 then (if a0 = 104 then (mo_has a1 a2 μ (fun r μ' => Q (some (.inl r)) μ')) else False) else False
  | _ => False
def mo_has_cd : List sl_Ent := [(0, .aload_n 0, 1, 0, [0], [], false), (1, .getfield 19, 3, 0, [12, 3, 2, 20, 4], [], false), (4, .iload_n 1, 1, 0, [1], [], false), (5, .iaload, 1, 0, [], [], false), (6, .iconst 1, 1, 1, [], [], false), (7, .if_icmp .ne 29, 3, 0, [36], [], false), (10, .iload_n 2, 1, 0, [2], [], false), (11, .i2l, 1, 0, [], [], false), (12, .aload_n 0, 1, 0, [0], [], false), (13, .getfield 7, 3, 0, [12, 0, 2, 20, 1], [], false), (16, .iload_n 1, 1, 0, [1], [], false), (17, .iaload, 1, 0, [], [], false), (18, .i2l, 1, 0, [], [], false), (19, .aload_n 0, 1, 0, [0], [], false), (20, .getfield 13, 3, 0, [12, 1, 2, 20, 2], [], false), (23, .iload_n 1, 1, 0, [1], [], false), (24, .iaload, 1, 0, [], [], false), (25, .i2l, 1, 0, [], [], false), (26, .invokestatic 119, 3, 0, [0], [], false), (29, .ifCond .eq 7, 3, 0, [36], [], false), (32, .iconst 1, 1, 1, [], [], false), (33, .goto 4, 3, 0, [37], [], false), (36, .iconst 0, 1, 0, [], [], false), (37, .ireturn, 1, 0, [1], [], false)]
def mo_has_y : MethodName := ⟨"SpanLayersModel", "has", "(II)Z"⟩
theorem mo_has_tb : sl_tbOK sl_R12 prog_14_method_8_code 3 (some .boolean) lk_mo [(119, 1)] mo_has_cd = true := by decide +kernel
def mo_has_ct : List sl_Ct := [(3, 1, 0, mo_in_pt)]
theorem mo_has_hc (g : sl_G) : sl_HC g sl_R12 1 mo_has_ct [(119, 1)] := sl_HC_cons (cs_mo_119 g (by decide)) (sl_HC_nil g sl_R12 1)
set_option maxRecDepth 20000 in
set_option maxHeartbeats 2000000 in
theorem mo_has_snd (g : sl_G) : sl_Snd g mo_has_y prog_14_method_8_code 3 (some .boolean) 1 (mo_has_pt) := by
  intro As μ Q hw h
  unfold mo_has_pt at h
  split at h
  next c0 a0 a1 a2 =>
    split at h
    next e_ =>
      subst e_
      split at h
      next e_ =>
        subst e_
        refine sl_mk2 g [true, true, true] (cst := [some (.inr (.inr (some (12, 104)))), some (.inl a1), some (.inl a2)]) (lv0 := [none, none, none]) (by decide) rfl hw rfl rfl rfl lk_mo_ok (mo_has_hc g) mo_has_tb rfl ?_
        intro X M
        exact ⟨_, sl_VV0, h⟩
      next => exact h.elim
    next => exact h.elim
  next => exact h.elim
def mo_covers_B61 (a1 : Int32) (a2 : Int32) (Q : Int32 → sl_M → Prop) : Int32 → sl_M → Prop
  | x3, μ => (x3 = (0 : Int32) → sl_bz (0 : Int32) = (0 : Int32) ∧ Q (0 : Int32) μ) ∧ (¬ x3 = (0 : Int32) → mo_lengthOf a1 μ (fun r2 m1 => mo_lengthOf a2 m1 (fun r4 m3 => (r2 ≤ r4 → (a1 < a2 → sl_bz (1 : Int32) = (1 : Int32) ∧ Q (1 : Int32) m3) ∧ (¬ a1 < a2 → sl_bz (0 : Int32) = (0 : Int32) ∧ Q (0 : Int32) m3)) ∧ (¬ r2 ≤ r4 → sl_bz (1 : Int32) = (1 : Int32) ∧ Q (1 : Int32) m3))))
def mo_covers (a1 : Int32) (a2 : Int32) (μ : sl_M) (Q : Int32 → sl_M → Prop) : Prop := vp_in a1 30 ∧ ((μ 108 a1.toNatClampNeg) = (1 : Int32) → vp_in a2 30 ∧ ((μ 108 a2.toNatClampNeg) = (1 : Int32) → (a1 = a2 → mo_covers_B61 a1 a2 Q (0 : Int32) μ) ∧ (¬ a1 = a2 → vp_in a1 30 ∧ vp_in a2 30 ∧ ((μ 105 a1.toNatClampNeg) ≤ (μ 105 a2.toNatClampNeg) → vp_in a1 30 ∧ vp_in a2 30 ∧ ((μ 106 a1.toNatClampNeg) < (μ 106 a2.toNatClampNeg) → mo_covers_B61 a1 a2 Q (0 : Int32) μ) ∧ (¬ (μ 106 a1.toNatClampNeg) < (μ 106 a2.toNatClampNeg) → mo_covers_B61 a1 a2 Q (1 : Int32) μ)) ∧ (¬ (μ 105 a1.toNatClampNeg) ≤ (μ 105 a2.toNatClampNeg) → mo_covers_B61 a1 a2 Q (0 : Int32) μ))) ∧ (¬ (μ 108 a2.toNatClampNeg) = (1 : Int32) → mo_covers_B61 a1 a2 Q (0 : Int32) μ)) ∧ (¬ (μ 108 a1.toNatClampNeg) = (1 : Int32) → mo_covers_B61 a1 a2 Q (0 : Int32) μ)
def mo_covers_pt : sl_PT := fun As μ Q => match As with
  | [.inr (.inr (some (c0, a0))), .inl a1, .inl a2] => if c0 = 12 then (if a0 = 104 then (mo_covers a1 a2 μ (fun r μ' => Q (some (.inl r)) μ')) else False) else False
  | _ => False
def mo_covers_cd : List sl_Ent := [(0, .aload_n 0, 1, 0, [0], [], false), (1, .getfield 19, 3, 0, [12, 3, 2, 20, 4], [], false), (4, .iload_n 1, 1, 0, [1], [], false), (5, .iaload, 1, 0, [], [], false), (6, .iconst 1, 1, 1, [], [], false), (7, .if_icmp .ne 52, 3, 0, [59], [], false), (10, .aload_n 0, 1, 0, [0], [], false), (11, .getfield 19, 3, 0, [12, 3, 2, 20, 4], [], false), (14, .iload_n 2, 1, 0, [2], [], false), (15, .iaload, 1, 0, [], [], false), (16, .iconst 1, 1, 1, [], [], false), (17, .if_icmp .ne 42, 3, 0, [59], [], false), (20, .iload_n 1, 1, 0, [1], [], false), (21, .iload_n 2, 1, 0, [2], [], false), (22, .if_icmp .eq 37, 3, 0, [59], [], false), (25, .aload_n 0, 1, 0, [0], [], false), (26, .getfield 7, 3, 0, [12, 0, 2, 20, 1], [], false), (29, .iload_n 1, 1, 0, [1], [], false), (30, .iaload, 1, 0, [], [], false), (31, .aload_n 0, 1, 0, [0], [], false), (32, .getfield 7, 3, 0, [12, 0, 2, 20, 1], [], false), (35, .iload_n 2, 1, 0, [2], [], false), (36, .iaload, 1, 0, [], [], false), (37, .if_icmp .gt 22, 3, 0, [59], [], false), (40, .aload_n 0, 1, 0, [0], [], false), (41, .getfield 13, 3, 0, [12, 1, 2, 20, 2], [], false), (44, .iload_n 1, 1, 0, [1], [], false), (45, .iaload, 1, 0, [], [], false), (46, .aload_n 0, 1, 0, [0], [], false), (47, .getfield 13, 3, 0, [12, 1, 2, 20, 2], [], false), (50, .iload_n 2, 1, 0, [2], [], false), (51, .iaload, 1, 0, [], [], false), (52, .if_icmp .lt 7, 3, 0, [59], [], false), (55, .iconst 1, 1, 1, [], [], false), (56, .goto 4, 3, 0, [60], [], false), (59, .iconst 0, 1, 0, [], [], false), (60, .istore_n 3, 1, 0, [3], [], false), (61, .iload_n 3, 1, 0, [3], [], true), (62, .ifCond .eq 25, 3, 0, [87], [], false), (65, .aload_n 0, 1, 0, [0], [], false), (66, .iload_n 1, 1, 0, [1], [], false), (67, .invokevirtual 127, 3, 0, [0], [], false), (70, .aload_n 0, 1, 0, [0], [], false), (71, .iload_n 2, 1, 0, [2], [], false), (72, .invokevirtual 127, 3, 0, [0], [], false), (75, .if_icmp .gt 8, 3, 0, [83], [], false), (78, .iload_n 1, 1, 0, [1], [], false), (79, .iload_n 2, 1, 0, [2], [], false), (80, .if_icmp .ge 7, 3, 0, [87], [], false), (83, .iconst 1, 1, 1, [], [], false), (84, .goto 4, 3, 0, [88], [], false), (87, .iconst 0, 1, 0, [], [], false), (88, .ireturn, 1, 0, [1], [], false)]
def mo_covers_y : MethodName := ⟨"SpanLayersModel", "covers", "(II)Z"⟩
theorem mo_covers_tb : sl_tbOK sl_R12 prog_14_method_9_code 4 (some .boolean) lk_mo [(127, 0)] mo_covers_cd = true := by decide +kernel
theorem mo_lengthOf_w2 : Cond.instanceMethod mo_lengthOf_y ∈ sl_T0 := sl_in1 1225 (by decide +kernel) rfl
theorem mo_lengthOf_w3 : Cond.selects mo_lengthOf_y.cls mo_lengthOf_y mo_lengthOf_y ∈ sl_T0 := sl_in1 26 (by decide +kernel) rfl
theorem mo_lengthOf_w4 : Cond.initialized mo_lengthOf_y.cls ∈ sl_T0 := sl_in1 97 (by decide +kernel) rfl
theorem mo_lengthOf_w5 : Cond.code mo_lengthOf_y prog_14_method_7_code 2 (some .int) ∈ sl_T0 := sl_in1 1226 (by decide +kernel) rfl
theorem mo_lengthOf_w6 : mo_lengthOf_y.cls ≠ "java/lang/invoke/MethodHandle" ∧ mo_lengthOf_y.cls ≠ "java/lang/invoke/VarHandle" ∧ (parseMethodDescriptor mo_lengthOf_y.desc).map (fun d => d.parameters.length) = some 1 := by decide +kernel
theorem cs_mo_127 (g : sl_G) {hh : Nat} (h : 1 ≤ hh) : sl_CallS g sl_R12 127 0 12 hh 2 mo_lengthOf_pt := sl_callV (y := mo_lengthOf_y) (T := sl_F12) (N := 50) (mo_lengthOf_snd g) h (by decide) (sl_in1 1223 (by decide +kernel) rfl) mo_lengthOf_w2 mo_lengthOf_w3 mo_lengthOf_w4 mo_lengthOf_w5 mo_lengthOf_w6 rfl (by decide)
def mo_covers_ct : List sl_Ct := [(2, 0, 12, mo_lengthOf_pt)]
theorem mo_covers_hc (g : sl_G) : sl_HC g sl_R12 1 mo_covers_ct [(127, 0)] := sl_HC_cons (cs_mo_127 g (by decide)) (sl_HC_nil g sl_R12 1)
set_option maxRecDepth 20000 in
set_option maxHeartbeats 2000000 in
theorem mo_covers_snd (g : sl_G) : sl_Snd g mo_covers_y prog_14_method_9_code 4 (some .boolean) 1 (mo_covers_pt) := by
  intro As μ Q hw h
  unfold mo_covers_pt at h
  split at h
  next c0 a0 a1 a2 =>
    split at h
    next e_ =>
      subst e_
      split at h
      next e_ =>
        subst e_
        refine sl_mk2 g [true, true, true, false] (cst := [some (.inr (.inr (some (12, 104)))), some (.inl a1), some (.inl a2)]) (lv0 := [none, none, none, none]) (by decide) rfl hw rfl rfl rfl lk_mo_ok (mo_covers_hc g) mo_covers_tb rfl ?_
        intro X M
        have v61 := sl_ext M sl_VV0 61 (fun lv st μ => match lv, st with | [_, _, _, some (.inl x3)], [] => mo_covers_B61 a1 a2 (fun r μ' => Q (some (.inl r)) μ') x3 μ | _, _ => False) (by
            intro lv st μ h
            split at h
            · exact h
            · exact h.elim)
        exact ⟨_, v61, h⟩
      next => exact h.elim
    next => exact h.elim
  next => exact h.elim
def mo_meets (a1 : Int32) (a2 : Int32) (μ : sl_M) (Q : Int32 → sl_M → Prop) : Prop := vp_in a1 30 ∧ ((μ 108 a1.toNatClampNeg) = (1 : Int32) → vp_in a2 30 ∧ ((μ 108 a2.toNatClampNeg) = (1 : Int32) → vp_in a1 30 ∧ vp_in a2 30 ∧ ((μ 105 a1.toNatClampNeg) ≤ (μ 106 a2.toNatClampNeg) → vp_in a2 30 ∧ vp_in a1 30 ∧ ((μ 105 a2.toNatClampNeg) ≤ (μ 106 a1.toNatClampNeg) → sl_bz (1 : Int32) = (1 : Int32) ∧ Q (1 : Int32) μ) ∧ (¬ (μ 105 a2.toNatClampNeg) ≤ (μ 106 a1.toNatClampNeg) → sl_bz (0 : Int32) = (0 : Int32) ∧ Q (0 : Int32) μ)) ∧ (¬ (μ 105 a1.toNatClampNeg) ≤ (μ 106 a2.toNatClampNeg) → sl_bz (0 : Int32) = (0 : Int32) ∧ Q (0 : Int32) μ)) ∧ (¬ (μ 108 a2.toNatClampNeg) = (1 : Int32) → sl_bz (0 : Int32) = (0 : Int32) ∧ Q (0 : Int32) μ)) ∧ (¬ (μ 108 a1.toNatClampNeg) = (1 : Int32) → sl_bz (0 : Int32) = (0 : Int32) ∧ Q (0 : Int32) μ)
def mo_meets_pt : sl_PT := fun As μ Q => match As with
  | [.inr (.inr (some (c0, a0))), .inl a1, .inl a2] => if c0 = 12 then (if a0 = 104 then (mo_meets a1 a2 μ (fun r μ' => Q (some (.inl r)) μ')) else False) else False
  | _ => False
def mo_meets_cd : List sl_Ent := [(0, .aload_n 0, 1, 0, [0], [], false), (1, .getfield 19, 3, 0, [12, 3, 2, 20, 4], [], false), (4, .iload_n 1, 1, 0, [1], [], false), (5, .iaload, 1, 0, [], [], false), (6, .iconst 1, 1, 1, [], [], false), (7, .if_icmp .ne 47, 3, 0, [54], [], false), (10, .aload_n 0, 1, 0, [0], [], false), (11, .getfield 19, 3, 0, [12, 3, 2, 20, 4], [], false), (14, .iload_n 2, 1, 0, [2], [], false), (15, .iaload, 1, 0, [], [], false), (16, .iconst 1, 1, 1, [], [], false), (17, .if_icmp .ne 37, 3, 0, [54], [], false), (20, .aload_n 0, 1, 0, [0], [], false), (21, .getfield 7, 3, 0, [12, 0, 2, 20, 1], [], false), (24, .iload_n 1, 1, 0, [1], [], false), (25, .iaload, 1, 0, [], [], false), (26, .aload_n 0, 1, 0, [0], [], false), (27, .getfield 13, 3, 0, [12, 1, 2, 20, 2], [], false), (30, .iload_n 2, 1, 0, [2], [], false), (31, .iaload, 1, 0, [], [], false), (32, .if_icmp .gt 22, 3, 0, [54], [], false), (35, .aload_n 0, 1, 0, [0], [], false), (36, .getfield 7, 3, 0, [12, 0, 2, 20, 1], [], false), (39, .iload_n 2, 1, 0, [2], [], false), (40, .iaload, 1, 0, [], [], false), (41, .aload_n 0, 1, 0, [0], [], false), (42, .getfield 13, 3, 0, [12, 1, 2, 20, 2], [], false), (45, .iload_n 1, 1, 0, [1], [], false), (46, .iaload, 1, 0, [], [], false), (47, .if_icmp .gt 7, 3, 0, [54], [], false), (50, .iconst 1, 1, 1, [], [], false), (51, .goto 4, 3, 0, [55], [], false), (54, .iconst 0, 1, 0, [], [], false), (55, .ireturn, 1, 0, [1], [], false)]
def mo_meets_y : MethodName := ⟨"SpanLayersModel", "meets", "(II)Z"⟩
theorem mo_meets_tb : sl_tbOK sl_R12 prog_14_method_10_code 3 (some .boolean) lk_mo [] mo_meets_cd = true := by decide +kernel
def mo_meets_ct : List sl_Ct := []
theorem mo_meets_hc (g : sl_G) : sl_HC g sl_R12 0 mo_meets_ct [] := sl_HC_nil g sl_R12 0
set_option maxRecDepth 20000 in
set_option maxHeartbeats 2000000 in
theorem mo_meets_snd (g : sl_G) : sl_Snd g mo_meets_y prog_14_method_10_code 3 (some .boolean) 0 (mo_meets_pt) := by
  intro As μ Q hw h
  unfold mo_meets_pt at h
  split at h
  next c0 a0 a1 a2 =>
    split at h
    next e_ =>
      subst e_
      split at h
      next e_ =>
        subst e_
        refine sl_mk2 g [true, true, true] (cst := [some (.inr (.inr (some (12, 104)))), some (.inl a1), some (.inl a2)]) (lv0 := [none, none, none]) (by decide) rfl hw rfl rfl rfl lk_mo_ok (mo_meets_hc g) mo_meets_tb rfl ?_
        intro X M
        exact ⟨_, sl_VV0, h⟩
      next => exact h.elim
    next => exact h.elim
  next => exact h.elim
def mo_layLayers_L39 (Q : sl_M → Prop) (k23 : Int32 → sl_M → Prop) (k31 : Int32 → Int32 → sl_M → Prop) : Nat → Int32 → Int32 → Int32 → sl_M → Prop
  | 0, _, _, _, _ => False
  | n + 1, x1, x2, x3, μ => (x3 < (30 : Int32) → mo_covers x2 x3 μ (fun r6 m5 => (r6 = (0 : Int32) → (mo_layLayers_L39 Q k23 k31 n) x1 x2 (x3 + (1 : Int32)) m5) ∧ (¬ r6 = (0 : Int32) → vp_in x3 30 ∧ vp_in x2 30 ∧ ((m5 109 x3.toNatClampNeg) ≤ (m5 109 x2.toNatClampNeg) → vp_in x2 30 ∧ vp_in x3 30 ∧ ∀ m7, m7 = sl_up m5 109 x3.toNatClampNeg ((m5 109 x2.toNatClampNeg) + (1 : Int32)) → (mo_layLayers_L39 Q k23 k31 n) (1 : Int32) x2 (x3 + (1 : Int32)) m7) ∧ (¬ (m5 109 x3.toNatClampNeg) ≤ (m5 109 x2.toNatClampNeg) → (mo_layLayers_L39 Q k23 k31 n) x1 x2 (x3 + (1 : Int32)) m5)))) ∧ (¬ x3 < (30 : Int32) → k31 x1 (x2 + (1 : Int32)) μ)
def mo_layLayers_L31 (Q : sl_M → Prop) (k23 : Int32 → sl_M → Prop) : Nat → Int32 → Int32 → sl_M → Prop
  | 0, _, _, _ => False
  | n + 1, x1, x2, μ => (x2 < (30 : Int32) → ∃ n4, mo_layLayers_L39 Q k23 (mo_layLayers_L31 Q k23 n) n4 x1 x2 (0 : Int32) μ) ∧ (¬ x2 < (30 : Int32) → k23 x1 μ)
def mo_layLayers_L23 (Q : sl_M → Prop) : Nat → Int32 → sl_M → Prop
  | 0, _, _ => False
  | n + 1, x1, μ => (x1 = (0 : Int32) → Q μ) ∧ (¬ x1 = (0 : Int32) → ∃ n3, mo_layLayers_L31 Q (mo_layLayers_L23 Q n) n3 (0 : Int32) (0 : Int32) μ)
def mo_layLayers_L2 (Q : sl_M → Prop) : Nat → Int32 → sl_M → Prop
  | 0, _, _ => False
  | n + 1, x1, μ => (x1 < (30 : Int32) → vp_in x1 30 ∧ ∀ m1, m1 = sl_up μ 109 x1.toNatClampNeg (0 : Int32) → (mo_layLayers_L2 Q n) (x1 + (1 : Int32)) m1) ∧ (¬ x1 < (30 : Int32) → ∃ n2, mo_layLayers_L23 Q n2 (1 : Int32) μ)
def mo_layLayers (μ : sl_M) (Q : sl_M → Prop) : Prop := ∃ n8, mo_layLayers_L2 Q n8 (0 : Int32) μ
def mo_layLayers_pt : sl_PT := fun As μ Q => match As with
  | [.inr (.inr (some (c0, a0)))] => if c0 = 12 then (if a0 = 104 then (mo_layLayers μ (fun μ' => Q none μ')) else False) else False
  | _ => False
def mo_layLayers_cd : List sl_Ent := [(0, .iconst 0, 1, 0, [], [], false), (1, .istore_n 1, 1, 0, [1], [], false), (2, .iload_n 1, 1, 0, [1], [], true), (3, .bipush 30, 2, 30, [], [], false), (5, .if_icmp .ge 16, 3, 0, [21], [], false), (8, .aload_n 0, 1, 0, [0], [], false), (9, .getfield 22, 3, 0, [12, 4, 2, 20, 5], [], false), (12, .iload_n 1, 1, 0, [1], [], false), (13, .iconst 0, 1, 0, [], [], false), (14, .iastore, 1, 0, [], [], false), (15, .iinc 1 1, 3, 1, [], [], false), (18, .goto (-16), 3, 0, [2], [], false), (21, .iconst 1, 1, 1, [], [], false), (22, .istore_n 1, 1, 0, [1], [], false), (23, .iload_n 1, 1, 0, [1], [], true), (24, .ifCond .eq 76, 3, 0, [100], [], false), (27, .iconst 0, 1, 0, [], [], false), (28, .istore_n 1, 1, 0, [1], [], false), (29, .iconst 0, 1, 0, [], [], false), (30, .istore_n 2, 1, 0, [2], [], false), (31, .iload_n 2, 1, 0, [2], [], true), (32, .bipush 30, 2, 30, [], [], false), (34, .if_icmp .ge 63, 3, 0, [97], [], false), (37, .iconst 0, 1, 0, [], [], false), (38, .istore_n 3, 1, 0, [3], [], false), (39, .iload_n 3, 1, 0, [3], [], true), (40, .bipush 30, 2, 30, [], [], false), (42, .if_icmp .ge 49, 3, 0, [91], [], false), (45, .aload_n 0, 1, 0, [0], [], false), (46, .iload_n 2, 1, 0, [2], [], false), (47, .iload_n 3, 1, 0, [3], [], false), (48, .invokevirtual 131, 3, 0, [0], [], false), (51, .ifCond .eq 34, 3, 0, [85], [], false), (54, .aload_n 0, 1, 0, [0], [], false), (55, .getfield 22, 3, 0, [12, 4, 2, 20, 5], [], false), (58, .iload_n 3, 1, 0, [3], [], false), (59, .iaload, 1, 0, [], [], false), (60, .aload_n 0, 1, 0, [0], [], false), (61, .getfield 22, 3, 0, [12, 4, 2, 20, 5], [], false), (64, .iload_n 2, 1, 0, [2], [], false), (65, .iaload, 1, 0, [], [], false), (66, .if_icmp .gt 19, 3, 0, [85], [], false), (69, .aload_n 0, 1, 0, [0], [], false), (70, .getfield 22, 3, 0, [12, 4, 2, 20, 5], [], false), (73, .iload_n 3, 1, 0, [3], [], false), (74, .aload_n 0, 1, 0, [0], [], false), (75, .getfield 22, 3, 0, [12, 4, 2, 20, 5], [], false), (78, .iload_n 2, 1, 0, [2], [], false), (79, .iaload, 1, 0, [], [], false), (80, .iconst 1, 1, 1, [], [], false), (81, .iadd, 1, 0, [], [], false), (82, .iastore, 1, 0, [], [], false), (83, .iconst 1, 1, 1, [], [], false), (84, .istore_n 1, 1, 0, [1], [], false), (85, .iinc 3 1, 3, 1, [], [], false), (88, .goto (-49), 3, 0, [39], [], false), (91, .iinc 2 1, 3, 1, [], [], false), (94, .goto (-63), 3, 0, [31], [], false), (97, .goto (-74), 3, 0, [23], [], false), (100, .return_, 1, 0, [], [], false)]
def mo_layLayers_y : MethodName := ⟨"SpanLayersModel", "layLayers", "()V"⟩
theorem mo_layLayers_tb : sl_tbOK sl_R12 prog_14_method_11_code 4 none lk_mo [(131, 0)] mo_layLayers_cd = true := by decide +kernel
theorem mo_covers_w2 : Cond.instanceMethod mo_covers_y ∈ sl_T0 := sl_in1 1221 (by decide +kernel) rfl
theorem mo_covers_w3 : Cond.selects mo_covers_y.cls mo_covers_y mo_covers_y ∈ sl_T0 := sl_in1 25 (by decide +kernel) rfl
theorem mo_covers_w4 : Cond.initialized mo_covers_y.cls ∈ sl_T0 := sl_in1 97 (by decide +kernel) rfl
theorem mo_covers_w5 : Cond.code mo_covers_y prog_14_method_9_code 4 (some .boolean) ∈ sl_T0 := sl_in1 1222 (by decide +kernel) rfl
theorem mo_covers_w6 : mo_covers_y.cls ≠ "java/lang/invoke/MethodHandle" ∧ mo_covers_y.cls ≠ "java/lang/invoke/VarHandle" ∧ (parseMethodDescriptor mo_covers_y.desc).map (fun d => d.parameters.length) = some 2 := by decide +kernel
theorem cs_mo_131 (g : sl_G) {hh : Nat} (h : 2 ≤ hh) : sl_CallS g sl_R12 131 0 12 hh 3 mo_covers_pt := sl_callV (y := mo_covers_y) (T := sl_F12) (N := 50) (mo_covers_snd g) h (by decide) (sl_in1 1219 (by decide +kernel) rfl) mo_covers_w2 mo_covers_w3 mo_covers_w4 mo_covers_w5 mo_covers_w6 rfl (by decide)
def mo_layLayers_ct : List sl_Ct := [(3, 0, 12, mo_covers_pt)]
theorem mo_layLayers_hc (g : sl_G) : sl_HC g sl_R12 2 mo_layLayers_ct [(131, 0)] := sl_HC_cons (cs_mo_131 g (by decide)) (sl_HC_nil g sl_R12 2)
set_option maxRecDepth 20000 in
set_option maxHeartbeats 2000000 in
theorem mo_layLayers_snd (g : sl_G) : sl_Snd g mo_layLayers_y prog_14_method_11_code 4 none 2 (mo_layLayers_pt) := by
  intro As μ Q hw h
  unfold mo_layLayers_pt at h
  split at h
  next c0 a0 =>
    split at h
    next e_ =>
      subst e_
      split at h
      next e_ =>
        subst e_
        refine sl_mk2 g [true, false, false, false] (cst := [some (.inr (.inr (some (12, 104))))]) (lv0 := [none, none, none, none]) (by decide) rfl hw rfl rfl rfl lk_mo_ok (mo_layLayers_hc g) mo_layLayers_tb rfl ?_
        intro X M
        have v23 := sl_extL M sl_VV0 23 (fun n lv st μ => match lv, st with | [_, some (.inl x1), _, _], [] => mo_layLayers_L23 (fun μ' => Q none μ') n x1 μ | _, _ => False) (by
            intro lv st μ h
            split at h
            · exact h
            · exact h) (by
            intro n23 w23
            have v31 := sl_extL M w23 31 (fun n lv st μ => match lv, st with | [_, some (.inl x1), some (.inl x2), _], [] => mo_layLayers_L31 (fun μ' => Q none μ') (mo_layLayers_L23 (fun μ' => Q none μ') n23) n x1 x2 μ | _, _ => False) (by
                intro lv st μ h
                split at h
                · exact h
                · exact h) (by
                intro n31 w31
                have v39 := sl_extL M w31 39 (fun n lv st μ => match lv, st with | [_, some (.inl x1), some (.inl x2), some (.inl x3)], [] => mo_layLayers_L39 (fun μ' => Q none μ') (mo_layLayers_L23 (fun μ' => Q none μ') n23) (mo_layLayers_L31 (fun μ' => Q none μ') (mo_layLayers_L23 (fun μ' => Q none μ') n23) n31) n x1 x2 x3 μ | _, _ => False) (by
                    intro lv st μ h
                    split at h
                    · exact h
                    · exact h) (by
                    intro n39 w39
                    refine ⟨_, w39, ?_⟩
                    intro lv st μ h
                    split at h
                    · exact h
                    · exact h.elim)
                refine ⟨_, v39, ?_⟩
                intro lv st μ h
                split at h
                · exact h
                · exact h.elim)
            refine ⟨_, v31, ?_⟩
            intro lv st μ h
            split at h
            · exact h
            · exact h.elim)
        have v2 := sl_extL M v23 2 (fun n lv st μ => match lv, st with | [_, some (.inl x1), _, _], [] => mo_layLayers_L2 (fun μ' => Q none μ') n x1 μ | _, _ => False) (by
            intro lv st μ h
            split at h
            · exact h
            · exact h) (by
            intro n2 w2
            refine ⟨_, w2, ?_⟩
            intro lv st μ h
            split at h
            · exact h
            · exact h.elim)
        exact ⟨_, v2, h⟩
      next => exact h.elim
    next => exact h.elim
  next => exact h.elim
def mo_firstOf (a0 : Int32) (a1 : Int32) (a2 : Int32) (a3 : Int32) (a4 : Int32) (μ : sl_M) (Q : Int32 → sl_M → Prop) : Prop := (a0 = (0 : Int32) → Q a1 μ) ∧ (¬ a0 = (0 : Int32) → (a0 = (1 : Int32) → Q (-a2) μ) ∧ (¬ a0 = (1 : Int32) → (a0 = (2 : Int32) → Q (a1 - a2) μ) ∧ (¬ a0 = (2 : Int32) → (a0 = (3 : Int32) → Q (-a3) μ) ∧ (¬ a0 = (3 : Int32) → Q a4 μ))))
def mo_firstOf_pt : sl_PT := fun As μ Q => match As with
  | [.inl a0, .inl a1, .inl a2, .inl a3, .inl a4] => mo_firstOf a0 a1 a2 a3 a4 μ (fun r μ' => Q (some (.inl r)) μ')
  | _ => False
def mo_firstOf_cd : List sl_Ent := [(0, .iload_n 0, 1, 0, [0], [], false), (1, .tableswitch 43 0 3 #[31, 33, 36, 40], 31, 0, [44], [(0, 32), (1, 34), (2, 37), (3, 41)], false), (32, .iload_n 1, 1, 0, [1], [], false), (33, .ireturn, 1, 0, [], [], false), (34, .iload_n 2, 1, 0, [2], [], false), (35, .ineg, 1, 0, [], [], false), (36, .ireturn, 1, 0, [], [], false), (37, .iload_n 1, 1, 0, [1], [], false), (38, .iload_n 2, 1, 0, [2], [], false), (39, .isub, 1, 0, [], [], false), (40, .ireturn, 1, 0, [], [], false), (41, .iload_n 3, 1, 0, [3], [], false), (42, .ineg, 1, 0, [], [], false), (43, .ireturn, 1, 0, [], [], false), (44, .iload 4, 2, 0, [4], [], false), (46, .ireturn, 1, 0, [], [], false)]
def mo_firstOf_y : MethodName := ⟨"SpanLayersModel", "firstOf", "(IIIII)I"⟩
theorem mo_firstOf_tb : sl_tbOK sl_R12 prog_14_method_12_code 5 (some .int) lk_mo [] mo_firstOf_cd = true := by decide +kernel
def mo_firstOf_ct : List sl_Ct := []
theorem mo_firstOf_hc (g : sl_G) : sl_HC g sl_R12 0 mo_firstOf_ct [] := sl_HC_nil g sl_R12 0
set_option maxRecDepth 20000 in
set_option maxHeartbeats 2000000 in
theorem mo_firstOf_snd (g : sl_G) : sl_Snd g mo_firstOf_y prog_14_method_12_code 5 (some .int) 0 (mo_firstOf_pt) := by
  intro As μ Q hw h
  unfold mo_firstOf_pt at h
  split at h
  next a0 a1 a2 a3 a4 =>
    refine sl_mk2 g [true, true, true, true, true] (cst := [some (.inl a0), some (.inl a1), some (.inl a2), some (.inl a3), some (.inl a4)]) (lv0 := [none, none, none, none, none]) (by decide) rfl hw rfl rfl rfl lk_mo_ok (mo_firstOf_hc g) mo_firstOf_tb rfl ?_
    intro X M
    exact ⟨_, sl_VV0, h⟩
  next => exact h.elim
def mo_secondOf (a0 : Int32) (a1 : Int32) (a2 : Int32) (μ : sl_M) (Q : Int32 → sl_M → Prop) : Prop := (a0 = (0 : Int32) → Q a2 μ) ∧ (¬ a0 = (0 : Int32) → (a0 = (3 : Int32) → Q (a1 - a2) μ) ∧ (¬ a0 = (3 : Int32) → Q a1 μ))
def mo_secondOf_pt : sl_PT := fun As μ Q => match As with
  | [.inl a0, .inl a1, .inl a2] => mo_secondOf a0 a1 a2 μ (fun r μ' => Q (some (.inl r)) μ')
  | _ => False
def mo_secondOf_cd : List sl_Ent := [(0, .iload_n 0, 1, 0, [0], [], false), (1, .ifCond .ne 7, 3, 0, [8], [], false), (4, .iload_n 2, 1, 0, [2], [], false), (5, .goto 15, 3, 0, [20], [], false), (8, .iload_n 0, 1, 0, [0], [], false), (9, .iconst 3, 1, 3, [], [], false), (10, .if_icmp .ne 9, 3, 0, [19], [], false), (13, .iload_n 1, 1, 0, [1], [], false), (14, .iload_n 2, 1, 0, [2], [], false), (15, .isub, 1, 0, [], [], false), (16, .goto 4, 3, 0, [20], [], false), (19, .iload_n 1, 1, 0, [1], [], false), (20, .ireturn, 1, 0, [], [], false)]
def mo_secondOf_y : MethodName := ⟨"SpanLayersModel", "secondOf", "(III)I"⟩
theorem mo_secondOf_tb : sl_tbOK sl_R12 prog_14_method_13_code 3 (some .int) lk_mo [] mo_secondOf_cd = true := by decide +kernel
def mo_secondOf_ct : List sl_Ct := []
theorem mo_secondOf_hc (g : sl_G) : sl_HC g sl_R12 0 mo_secondOf_ct [] := sl_HC_nil g sl_R12 0
set_option maxRecDepth 20000 in
set_option maxHeartbeats 2000000 in
theorem mo_secondOf_snd (g : sl_G) : sl_Snd g mo_secondOf_y prog_14_method_13_code 3 (some .int) 0 (mo_secondOf_pt) := by
  intro As μ Q hw h
  unfold mo_secondOf_pt at h
  split at h
  next a0 a1 a2 =>
    refine sl_mk2 g [true, true, true] (cst := [some (.inl a0), some (.inl a1), some (.inl a2)]) (lv0 := [none, none, none]) (by decide) rfl hw rfl rfl rfl lk_mo_ok (mo_secondOf_hc g) mo_secondOf_tb rfl ?_
    intro X M
    exact ⟨_, sl_VV0, h⟩
  next => exact h.elim
def mo_isLess (a0 : Int32) (a1 : Int32) (a2 : Int32) (a3 : Int32) (a4 : Int32) (a5 : Int32) (μ : sl_M) (Q : Int32 → sl_M → Prop) : Prop := (a0 < a3 → sl_bz (1 : Int32) = (1 : Int32) ∧ Q (1 : Int32) μ) ∧ (¬ a0 < a3 → (a0 = a3 → (a1 < a4 → sl_bz (1 : Int32) = (1 : Int32) ∧ Q (1 : Int32) μ) ∧ (¬ a1 < a4 → (a1 = a4 → (a2 < a5 → sl_bz (1 : Int32) = (1 : Int32) ∧ Q (1 : Int32) μ) ∧ (¬ a2 < a5 → sl_bz (0 : Int32) = (0 : Int32) ∧ Q (0 : Int32) μ)) ∧ (¬ a1 = a4 → sl_bz (0 : Int32) = (0 : Int32) ∧ Q (0 : Int32) μ))) ∧ (¬ a0 = a3 → sl_bz (0 : Int32) = (0 : Int32) ∧ Q (0 : Int32) μ))
def mo_isLess_pt : sl_PT := fun As μ Q => match As with
  | [.inl a0, .inl a1, .inl a2, .inl a3, .inl a4, .inl a5] => mo_isLess a0 a1 a2 a3 a4 a5 μ (fun r μ' => Q (some (.inl r)) μ')
  | _ => False
def mo_isLess_cd : List sl_Ent := [(0, .iload_n 0, 1, 0, [0], [], false), (1, .iload_n 3, 1, 0, [3], [], false), (2, .if_icmp .lt 26, 3, 0, [28], [], false), (5, .iload_n 0, 1, 0, [0], [], false), (6, .iload_n 3, 1, 0, [3], [], false), (7, .if_icmp .ne 25, 3, 0, [32], [], false), (10, .iload_n 1, 1, 0, [1], [], false), (11, .iload 4, 2, 0, [4], [], false), (13, .if_icmp .lt 15, 3, 0, [28], [], false), (16, .iload_n 1, 1, 0, [1], [], false), (17, .iload 4, 2, 0, [4], [], false), (19, .if_icmp .ne 13, 3, 0, [32], [], false), (22, .iload_n 2, 1, 0, [2], [], false), (23, .iload 5, 2, 0, [5], [], false), (25, .if_icmp .ge 7, 3, 0, [32], [], false), (28, .iconst 1, 1, 1, [], [], false), (29, .goto 4, 3, 0, [33], [], false), (32, .iconst 0, 1, 0, [], [], false), (33, .ireturn, 1, 0, [1], [], false)]
def mo_isLess_y : MethodName := ⟨"SpanLayersModel", "isLess", "(IIIIII)Z"⟩
theorem mo_isLess_tb : sl_tbOK sl_R12 prog_14_method_14_code 6 (some .boolean) lk_mo [] mo_isLess_cd = true := by decide +kernel
def mo_isLess_ct : List sl_Ct := []
theorem mo_isLess_hc (g : sl_G) : sl_HC g sl_R12 0 mo_isLess_ct [] := sl_HC_nil g sl_R12 0
set_option maxRecDepth 20000 in
set_option maxHeartbeats 2000000 in
theorem mo_isLess_snd (g : sl_G) : sl_Snd g mo_isLess_y prog_14_method_14_code 6 (some .boolean) 0 (mo_isLess_pt) := by
  intro As μ Q hw h
  unfold mo_isLess_pt at h
  split at h
  next a0 a1 a2 a3 a4 a5 =>
    refine sl_mk2 g [true, true, true, true, true, true] (cst := [some (.inl a0), some (.inl a1), some (.inl a2), some (.inl a3), some (.inl a4), some (.inl a5)]) (lv0 := [none, none, none, none, none, none]) (by decide) rfl hw rfl rfl rfl lk_mo_ok (mo_isLess_hc g) mo_isLess_tb rfl ?_
    intro X M
    exact ⟨_, sl_VV0, h⟩
  next => exact h.elim
def mo_first (a1 : Int32) (a2 : Int32) (μ : sl_M) (Q : Int32 → sl_M → Prop) : Prop := vp_in a2 30 ∧ vp_in a2 30 ∧ vp_in a2 30 ∧ vp_in a2 30 ∧ mo_firstOf a1 (μ 105 a2.toNatClampNeg) (μ 106 a2.toNatClampNeg) (μ 107 a2.toNatClampNeg) (μ 109 a2.toNatClampNeg) μ (fun r2 m1 => Q r2 m1)
def mo_first_pt : sl_PT := fun As μ Q => match As with
  | [.inr (.inr (some (c0, a0))), .inl a1, .inl a2] => if c0 = 12 then (if a0 = 104 then (mo_first a1 a2 μ (fun r μ' => Q (some (.inl r)) μ')) else False) else False
  | _ => False
def mo_first_cd : List sl_Ent := [(0, .iload_n 1, 1, 0, [1], [], false), (1, .aload_n 0, 1, 0, [0], [], false), (2, .getfield 7, 3, 0, [12, 0, 2, 20, 1], [], false), (5, .iload_n 2, 1, 0, [2], [], false), (6, .iaload, 1, 0, [], [], false), (7, .aload_n 0, 1, 0, [0], [], false), (8, .getfield 13, 3, 0, [12, 1, 2, 20, 2], [], false), (11, .iload_n 2, 1, 0, [2], [], false), (12, .iaload, 1, 0, [], [], false), (13, .aload_n 0, 1, 0, [0], [], false), (14, .getfield 16, 3, 0, [12, 2, 2, 20, 3], [], false), (17, .iload_n 2, 1, 0, [2], [], false), (18, .iaload, 1, 0, [], [], false), (19, .aload_n 0, 1, 0, [0], [], false), (20, .getfield 22, 3, 0, [12, 4, 2, 20, 5], [], false), (23, .iload_n 2, 1, 0, [2], [], false), (24, .iaload, 1, 0, [], [], false), (25, .invokestatic 135, 3, 0, [0], [], false), (28, .ireturn, 1, 0, [], [], false)]
def mo_first_y : MethodName := ⟨"SpanLayersModel", "first", "(II)I"⟩
theorem mo_first_tb : sl_tbOK sl_R12 prog_14_method_15_code 3 (some .int) lk_mo [(135, 1)] mo_first_cd = true := by decide +kernel
theorem mo_firstOf_w2 : Cond.static mo_firstOf_y ∈ sl_T0 := sl_in1 1276 (by decide +kernel) rfl
theorem mo_firstOf_w4 : Cond.initialized mo_firstOf_y.cls ∈ sl_T0 := sl_in1 97 (by decide +kernel) rfl
theorem mo_firstOf_w5 : Cond.code mo_firstOf_y prog_14_method_12_code 5 (some .int) ∈ sl_T0 := sl_in1 1277 (by decide +kernel) rfl
theorem mo_firstOf_w6 : mo_firstOf_y.cls ≠ "java/lang/invoke/MethodHandle" ∧ mo_firstOf_y.cls ≠ "java/lang/invoke/VarHandle" ∧ (parseMethodDescriptor mo_firstOf_y.desc).map (fun d => d.parameters.length) = some 5 := by decide +kernel
theorem cs_mo_135 (g : sl_G) {hh : Nat} (h : 1 ≤ hh) : sl_CallS g sl_R12 135 1 0 hh 5 mo_firstOf_pt := sl_callS (y := mo_firstOf_y) (mo_firstOf_snd g) h (by decide) (sl_in1 1275 (by decide +kernel) rfl) mo_firstOf_w2 mo_firstOf_w4 mo_firstOf_w5 mo_firstOf_w6
def mo_first_ct : List sl_Ct := [(5, 1, 0, mo_firstOf_pt)]
theorem mo_first_hc (g : sl_G) : sl_HC g sl_R12 1 mo_first_ct [(135, 1)] := sl_HC_cons (cs_mo_135 g (by decide)) (sl_HC_nil g sl_R12 1)
set_option maxRecDepth 20000 in
set_option maxHeartbeats 2000000 in
theorem mo_first_snd (g : sl_G) : sl_Snd g mo_first_y prog_14_method_15_code 3 (some .int) 1 (mo_first_pt) := by
  intro As μ Q hw h
  unfold mo_first_pt at h
  split at h
  next c0 a0 a1 a2 =>
    split at h
    next e_ =>
      subst e_
      split at h
      next e_ =>
        subst e_
        refine sl_mk2 g [true, true, true] (cst := [some (.inr (.inr (some (12, 104)))), some (.inl a1), some (.inl a2)]) (lv0 := [none, none, none]) (by decide) rfl hw rfl rfl rfl lk_mo_ok (mo_first_hc g) mo_first_tb rfl ?_
        intro X M
        exact ⟨_, sl_VV0, h⟩
      next => exact h.elim
    next => exact h.elim
  next => exact h.elim
def mo_second (a1 : Int32) (a2 : Int32) (μ : sl_M) (Q : Int32 → sl_M → Prop) : Prop := vp_in a2 30 ∧ vp_in a2 30 ∧ mo_secondOf a1 (μ 105 a2.toNatClampNeg) (μ 106 a2.toNatClampNeg) μ (fun r2 m1 => Q r2 m1)
def mo_second_pt : sl_PT := fun As μ Q => match As with
  | [.inr (.inr (some (c0, a0))), .inl a1, .inl a2] => if c0 = 12 then (if a0 = 104 then (mo_second a1 a2 μ (fun r μ' => Q (some (.inl r)) μ')) else False) else False
  | _ => False
def mo_second_cd : List sl_Ent := [(0, .iload_n 1, 1, 0, [1], [], false), (1, .aload_n 0, 1, 0, [0], [], false), (2, .getfield 7, 3, 0, [12, 0, 2, 20, 1], [], false), (5, .iload_n 2, 1, 0, [2], [], false), (6, .iaload, 1, 0, [], [], false), (7, .aload_n 0, 1, 0, [0], [], false), (8, .getfield 13, 3, 0, [12, 1, 2, 20, 2], [], false), (11, .iload_n 2, 1, 0, [2], [], false), (12, .iaload, 1, 0, [], [], false), (13, .invokestatic 139, 3, 0, [0], [], false), (16, .ireturn, 1, 0, [], [], false)]
def mo_second_y : MethodName := ⟨"SpanLayersModel", "second", "(II)I"⟩
theorem mo_second_tb : sl_tbOK sl_R12 prog_14_method_16_code 3 (some .int) lk_mo [(139, 1)] mo_second_cd = true := by decide +kernel
theorem mo_secondOf_w2 : Cond.static mo_secondOf_y ∈ sl_T0 := sl_in1 1283 (by decide +kernel) rfl
theorem mo_secondOf_w4 : Cond.initialized mo_secondOf_y.cls ∈ sl_T0 := sl_in1 97 (by decide +kernel) rfl
theorem mo_secondOf_w5 : Cond.code mo_secondOf_y prog_14_method_13_code 3 (some .int) ∈ sl_T0 := sl_in1 1284 (by decide +kernel) rfl
theorem mo_secondOf_w6 : mo_secondOf_y.cls ≠ "java/lang/invoke/MethodHandle" ∧ mo_secondOf_y.cls ≠ "java/lang/invoke/VarHandle" ∧ (parseMethodDescriptor mo_secondOf_y.desc).map (fun d => d.parameters.length) = some 3 := by decide +kernel
theorem cs_mo_139 (g : sl_G) {hh : Nat} (h : 1 ≤ hh) : sl_CallS g sl_R12 139 1 0 hh 3 mo_secondOf_pt := sl_callS (y := mo_secondOf_y) (mo_secondOf_snd g) h (by decide) (sl_in1 1282 (by decide +kernel) rfl) mo_secondOf_w2 mo_secondOf_w4 mo_secondOf_w5 mo_secondOf_w6
def mo_second_ct : List sl_Ct := [(3, 1, 0, mo_secondOf_pt)]
theorem mo_second_hc (g : sl_G) : sl_HC g sl_R12 1 mo_second_ct [(139, 1)] := sl_HC_cons (cs_mo_139 g (by decide)) (sl_HC_nil g sl_R12 1)
set_option maxRecDepth 20000 in
set_option maxHeartbeats 2000000 in
theorem mo_second_snd (g : sl_G) : sl_Snd g mo_second_y prog_14_method_16_code 3 (some .int) 1 (mo_second_pt) := by
  intro As μ Q hw h
  unfold mo_second_pt at h
  split at h
  next c0 a0 a1 a2 =>
    split at h
    next e_ =>
      subst e_
      split at h
      next e_ =>
        subst e_
        refine sl_mk2 g [true, true, true] (cst := [some (.inr (.inr (some (12, 104)))), some (.inl a1), some (.inl a2)]) (lv0 := [none, none, none]) (by decide) rfl hw rfl rfl rfl lk_mo_ok (mo_second_hc g) mo_second_tb rfl ?_
        intro X M
        exact ⟨_, sl_VV0, h⟩
      next => exact h.elim
    next => exact h.elim
  next => exact h.elim
def mo_isAhead (a1 : Int32) (a2 : Int32) (a3 : Int32) (μ : sl_M) (Q : Int32 → sl_M → Prop) : Prop := mo_first a1 a2 μ (fun r2 m1 => mo_second a1 a2 m1 (fun r4 m3 => mo_first a1 a3 m3 (fun r6 m5 => mo_second a1 a3 m5 (fun r8 m7 => mo_isLess r2 r4 a2 r6 r8 a3 m7 (fun r10 m9 => sl_bz r10 = r10 ∧ Q r10 m9)))))
def mo_isAhead_pt : sl_PT := fun As μ Q => match As with
  | [.inr (.inr (some (c0, a0))), .inl a1, .inl a2, .inl a3] => if c0 = 12 then (if a0 = 104 then (mo_isAhead a1 a2 a3 μ (fun r μ' => Q (some (.inl r)) μ')) else False) else False
  | _ => False
def mo_isAhead_cd : List sl_Ent := [(0, .aload_n 0, 1, 0, [0], [], false), (1, .iload_n 1, 1, 0, [1], [], false), (2, .iload_n 2, 1, 0, [2], [], false), (3, .invokevirtual 143, 3, 0, [0], [], false), (6, .aload_n 0, 1, 0, [0], [], false), (7, .iload_n 1, 1, 0, [1], [], false), (8, .iload_n 2, 1, 0, [2], [], false), (9, .invokevirtual 147, 3, 0, [1], [], false), (12, .iload_n 2, 1, 0, [2], [], false), (13, .aload_n 0, 1, 0, [0], [], false), (14, .iload_n 1, 1, 0, [1], [], false), (15, .iload_n 3, 1, 0, [3], [], false), (16, .invokevirtual 143, 3, 0, [0], [], false), (19, .aload_n 0, 1, 0, [0], [], false), (20, .iload_n 1, 1, 0, [1], [], false), (21, .iload_n 3, 1, 0, [3], [], false), (22, .invokevirtual 147, 3, 0, [1], [], false), (25, .iload_n 3, 1, 0, [3], [], false), (26, .invokestatic 150, 3, 0, [2], [], false), (29, .ireturn, 1, 0, [1], [], false)]
def mo_isAhead_y : MethodName := ⟨"SpanLayersModel", "isAhead", "(III)Z"⟩
theorem mo_isAhead_tb : sl_tbOK sl_R12 prog_14_method_17_code 4 (some .boolean) lk_mo [(143, 0), (147, 0), (150, 1)] mo_isAhead_cd = true := by decide +kernel
theorem mo_first_w2 : Cond.instanceMethod mo_first_y ∈ sl_T0 := sl_in1 1273 (by decide +kernel) rfl
theorem mo_first_w3 : Cond.selects mo_first_y.cls mo_first_y mo_first_y ∈ sl_T0 := sl_in1 35 (by decide +kernel) rfl
theorem mo_first_w4 : Cond.initialized mo_first_y.cls ∈ sl_T0 := sl_in1 97 (by decide +kernel) rfl
theorem mo_first_w5 : Cond.code mo_first_y prog_14_method_15_code 3 (some .int) ∈ sl_T0 := sl_in1 1274 (by decide +kernel) rfl
theorem mo_first_w6 : mo_first_y.cls ≠ "java/lang/invoke/MethodHandle" ∧ mo_first_y.cls ≠ "java/lang/invoke/VarHandle" ∧ (parseMethodDescriptor mo_first_y.desc).map (fun d => d.parameters.length) = some 2 := by decide +kernel
theorem cs_mo_143 (g : sl_G) {hh : Nat} (h : 2 ≤ hh) : sl_CallS g sl_R12 143 0 12 hh 3 mo_first_pt := sl_callV (y := mo_first_y) (T := sl_F12) (N := 50) (mo_first_snd g) h (by decide) (sl_in1 1271 (by decide +kernel) rfl) mo_first_w2 mo_first_w3 mo_first_w4 mo_first_w5 mo_first_w6 rfl (by decide)
theorem mo_second_w2 : Cond.instanceMethod mo_second_y ∈ sl_T0 := sl_in1 1280 (by decide +kernel) rfl
theorem mo_second_w3 : Cond.selects mo_second_y.cls mo_second_y mo_second_y ∈ sl_T0 := sl_in1 36 (by decide +kernel) rfl
theorem mo_second_w4 : Cond.initialized mo_second_y.cls ∈ sl_T0 := sl_in1 97 (by decide +kernel) rfl
theorem mo_second_w5 : Cond.code mo_second_y prog_14_method_16_code 3 (some .int) ∈ sl_T0 := sl_in1 1281 (by decide +kernel) rfl
theorem mo_second_w6 : mo_second_y.cls ≠ "java/lang/invoke/MethodHandle" ∧ mo_second_y.cls ≠ "java/lang/invoke/VarHandle" ∧ (parseMethodDescriptor mo_second_y.desc).map (fun d => d.parameters.length) = some 2 := by decide +kernel
theorem cs_mo_147 (g : sl_G) {hh : Nat} (h : 2 ≤ hh) : sl_CallS g sl_R12 147 0 12 hh 3 mo_second_pt := sl_callV (y := mo_second_y) (T := sl_F12) (N := 50) (mo_second_snd g) h (by decide) (sl_in1 1278 (by decide +kernel) rfl) mo_second_w2 mo_second_w3 mo_second_w4 mo_second_w5 mo_second_w6 rfl (by decide)
theorem mo_isLess_w2 : Cond.static mo_isLess_y ∈ sl_T0 := sl_in1 1286 (by decide +kernel) rfl
theorem mo_isLess_w4 : Cond.initialized mo_isLess_y.cls ∈ sl_T0 := sl_in1 97 (by decide +kernel) rfl
theorem mo_isLess_w5 : Cond.code mo_isLess_y prog_14_method_14_code 6 (some .boolean) ∈ sl_T0 := sl_in1 1287 (by decide +kernel) rfl
theorem mo_isLess_w6 : mo_isLess_y.cls ≠ "java/lang/invoke/MethodHandle" ∧ mo_isLess_y.cls ≠ "java/lang/invoke/VarHandle" ∧ (parseMethodDescriptor mo_isLess_y.desc).map (fun d => d.parameters.length) = some 6 := by decide +kernel
theorem cs_mo_150 (g : sl_G) {hh : Nat} (h : 1 ≤ hh) : sl_CallS g sl_R12 150 1 0 hh 6 mo_isLess_pt := sl_callS (y := mo_isLess_y) (mo_isLess_snd g) h (by decide) (sl_in1 1285 (by decide +kernel) rfl) mo_isLess_w2 mo_isLess_w4 mo_isLess_w5 mo_isLess_w6
def mo_isAhead_ct : List sl_Ct := [(3, 0, 12, mo_first_pt), (3, 0, 12, mo_second_pt), (6, 1, 0, mo_isLess_pt)]
theorem mo_isAhead_hc (g : sl_G) : sl_HC g sl_R12 2 mo_isAhead_ct [(143, 0), (147, 0), (150, 1)] := sl_HC_cons (cs_mo_143 g (by decide)) (sl_HC_cons (cs_mo_147 g (by decide)) (sl_HC_cons (cs_mo_150 g (by decide)) (sl_HC_nil g sl_R12 2)))
set_option maxRecDepth 20000 in
set_option maxHeartbeats 2000000 in
theorem mo_isAhead_snd (g : sl_G) : sl_Snd g mo_isAhead_y prog_14_method_17_code 4 (some .boolean) 2 (mo_isAhead_pt) := by
  intro As μ Q hw h
  unfold mo_isAhead_pt at h
  split at h
  next c0 a0 a1 a2 a3 =>
    split at h
    next e_ =>
      subst e_
      split at h
      next e_ =>
        subst e_
        refine sl_mk2 g [true, true, true, true] (cst := [some (.inr (.inr (some (12, 104)))), some (.inl a1), some (.inl a2), some (.inl a3)]) (lv0 := [none, none, none, none]) (by decide) rfl hw rfl rfl rfl lk_mo_ok (mo_isAhead_hc g) mo_isAhead_tb rfl ?_
        intro X M
        exact ⟨_, sl_VV0, h⟩
      next => exact h.elim
    next => exact h.elim
  next => exact h.elim
def mo_aheadOf_L5 (a1 : Int32) (a2 : Int32) (Q : Int32 → sl_M → Prop) : Nat → Int32 → Int32 → sl_M → Prop
  | 0, _, _, _ => False
  | n + 1, x3, x4, μ => (x4 < (30 : Int32) → vp_in x4 30 ∧ ((μ 108 x4.toNatClampNeg) = (1 : Int32) → mo_isAhead a1 x4 a2 μ (fun r2 m1 => (r2 = (0 : Int32) → ∀ v3, v3 = (x3 + (0 : Int32)) → (mo_aheadOf_L5 a1 a2 Q n) v3 (x4 + (1 : Int32)) m1) ∧ (¬ r2 = (0 : Int32) → ∀ v4, v4 = (x3 + (1 : Int32)) → (mo_aheadOf_L5 a1 a2 Q n) v4 (x4 + (1 : Int32)) m1))) ∧ (¬ (μ 108 x4.toNatClampNeg) = (1 : Int32) → ∀ v5, v5 = (x3 + (0 : Int32)) → (mo_aheadOf_L5 a1 a2 Q n) v5 (x4 + (1 : Int32)) μ)) ∧ (¬ x4 < (30 : Int32) → Q x3 μ)
def mo_aheadOf (a1 : Int32) (a2 : Int32) (μ : sl_M) (Q : Int32 → sl_M → Prop) : Prop := ∃ n6, mo_aheadOf_L5 a1 a2 Q n6 (0 : Int32) (0 : Int32) μ
def mo_aheadOf_pt : sl_PT := fun As μ Q => match As with
  | [.inr (.inr (some (c0, a0))), .inl a1, .inl a2] => if c0 = 12 then (if a0 = 104 then (mo_aheadOf a1 a2 μ (fun r μ' => Q (some (.inl r)) μ')) else False) else False
  | _ => False
def mo_aheadOf_cd : List sl_Ent := [(0, .iconst 0, 1, 0, [], [], false), (1, .istore_n 3, 1, 0, [3], [], false), (2, .iconst 0, 1, 0, [], [], false), (3, .istore 4, 2, 0, [4], [], false), (5, .iload 4, 2, 0, [4], [], true), (7, .bipush 30, 2, 30, [], [], false), (9, .if_icmp .ge 39, 3, 0, [48], [], false), (12, .iload_n 3, 1, 0, [3], [], false), (13, .aload_n 0, 1, 0, [0], [], false), (14, .getfield 19, 3, 0, [12, 3, 2, 20, 4], [], false), (17, .iload 4, 2, 0, [4], [], false), (19, .iaload, 1, 0, [], [], false), (20, .iconst 1, 1, 1, [], [], false), (21, .if_icmp .ne 18, 3, 0, [39], [], false), (24, .aload_n 0, 1, 0, [0], [], false), (25, .iload_n 1, 1, 0, [1], [], false), (26, .iload 4, 2, 0, [4], [], false), (28, .iload_n 2, 1, 0, [2], [], false), (29, .invokevirtual 154, 3, 0, [0], [], false), (32, .ifCond .eq 7, 3, 0, [39], [], false), (35, .iconst 1, 1, 1, [], [], false), (36, .goto 4, 3, 0, [40], [], false), (39, .iconst 0, 1, 0, [], [], false), (40, .iadd, 1, 0, [], [], false), (41, .istore_n 3, 1, 0, [3, 1], [], false), (42, .iinc 4 1, 3, 1, [], [], false), (45, .goto (-40), 3, 0, [5], [], false), (48, .iload_n 3, 1, 0, [3], [], false), (49, .ireturn, 1, 0, [], [], false)]
def mo_aheadOf_y : MethodName := ⟨"SpanLayersModel", "aheadOf", "(II)I"⟩
theorem mo_aheadOf_tb : sl_tbOK sl_R12 prog_14_method_18_code 5 (some .int) lk_mo [(154, 0)] mo_aheadOf_cd = true := by decide +kernel
theorem mo_isAhead_w2 : Cond.instanceMethod mo_isAhead_y ∈ sl_T0 := sl_in1 1269 (by decide +kernel) rfl
theorem mo_isAhead_w3 : Cond.selects mo_isAhead_y.cls mo_isAhead_y mo_isAhead_y ∈ sl_T0 := sl_in1 34 (by decide +kernel) rfl
theorem mo_isAhead_w4 : Cond.initialized mo_isAhead_y.cls ∈ sl_T0 := sl_in1 97 (by decide +kernel) rfl
theorem mo_isAhead_w5 : Cond.code mo_isAhead_y prog_14_method_17_code 4 (some .boolean) ∈ sl_T0 := sl_in1 1270 (by decide +kernel) rfl
theorem mo_isAhead_w6 : mo_isAhead_y.cls ≠ "java/lang/invoke/MethodHandle" ∧ mo_isAhead_y.cls ≠ "java/lang/invoke/VarHandle" ∧ (parseMethodDescriptor mo_isAhead_y.desc).map (fun d => d.parameters.length) = some 3 := by decide +kernel
theorem cs_mo_154 (g : sl_G) {hh : Nat} (h : 3 ≤ hh) : sl_CallS g sl_R12 154 0 12 hh 4 mo_isAhead_pt := sl_callV (y := mo_isAhead_y) (T := sl_F12) (N := 50) (mo_isAhead_snd g) h (by decide) (sl_in1 1267 (by decide +kernel) rfl) mo_isAhead_w2 mo_isAhead_w3 mo_isAhead_w4 mo_isAhead_w5 mo_isAhead_w6 rfl (by decide)
def mo_aheadOf_ct : List sl_Ct := [(4, 0, 12, mo_isAhead_pt)]
theorem mo_aheadOf_hc (g : sl_G) : sl_HC g sl_R12 3 mo_aheadOf_ct [(154, 0)] := sl_HC_cons (cs_mo_154 g (by decide)) (sl_HC_nil g sl_R12 3)
set_option maxRecDepth 20000 in
set_option maxHeartbeats 2000000 in
theorem mo_aheadOf_snd (g : sl_G) : sl_Snd g mo_aheadOf_y prog_14_method_18_code 5 (some .int) 3 (mo_aheadOf_pt) := by
  intro As μ Q hw h
  unfold mo_aheadOf_pt at h
  split at h
  next c0 a0 a1 a2 =>
    split at h
    next e_ =>
      subst e_
      split at h
      next e_ =>
        subst e_
        refine sl_mk2 g [true, true, true, false, false] (cst := [some (.inr (.inr (some (12, 104)))), some (.inl a1), some (.inl a2)]) (lv0 := [none, none, none, none, none]) (by decide) rfl hw rfl rfl rfl lk_mo_ok (mo_aheadOf_hc g) mo_aheadOf_tb rfl ?_
        intro X M
        have v5 := sl_extL M sl_VV0 5 (fun n lv st μ => match lv, st with | [_, _, _, some (.inl x3), some (.inl x4)], [] => mo_aheadOf_L5 a1 a2 (fun r μ' => Q (some (.inl r)) μ') n x3 x4 μ | _, _ => False) (by
            intro lv st μ h
            split at h
            · exact h
            · exact h) (by
            intro n5 w5
            refine ⟨_, w5, ?_⟩
            intro lv st μ h
            split at h
            · exact h
            · exact h.elim)
        exact ⟨_, v5, h⟩
      next => exact h.elim
    next => exact h.elim
  next => exact h.elim
def mo_layOrder_L6 (a1 : Int32) (Q : sl_M → Prop) : Nat → Int32 → sl_M → Prop
  | 0, _, _ => False
  | n + 1, x2, μ => (x2 < (30 : Int32) → vp_in x2 30 ∧ ((μ 108 x2.toNatClampNeg) = (1 : Int32) → mo_aheadOf a1 x2 μ (fun r2 m1 => vp_in r2 30 ∧ ∀ m3, m3 = sl_up m1 110 r2.toNatClampNeg x2 → (mo_layOrder_L6 a1 Q n) (x2 + (1 : Int32)) m3)) ∧ (¬ (μ 108 x2.toNatClampNeg) = (1 : Int32) → (mo_layOrder_L6 a1 Q n) (x2 + (1 : Int32)) μ)) ∧ (¬ x2 < (30 : Int32) → Q μ)
def mo_layOrder (a1 : Int32) (μ : sl_M) (Q : sl_M → Prop) : Prop := mo_layLayers μ (fun m4 => ∃ n5, mo_layOrder_L6 a1 Q n5 (0 : Int32) m4)
def mo_layOrder_pt : sl_PT := fun As μ Q => match As with
  | [.inr (.inr (some (c0, a0))), .inl a1] => if c0 = 12 then (if a0 = 104 then (mo_layOrder a1 μ (fun μ' => Q none μ')) else False) else False
  | _ => False
def mo_layOrder_cd : List sl_Ent := [(0, .aload_n 0, 1, 0, [0], [], false), (1, .invokevirtual 158, 3, 0, [0], [], false), (4, .iconst 0, 1, 0, [], [], false), (5, .istore_n 2, 1, 0, [2], [], false), (6, .iload_n 2, 1, 0, [2], [], true), (7, .bipush 30, 2, 30, [], [], false), (9, .if_icmp .ge 31, 3, 0, [40], [], false), (12, .aload_n 0, 1, 0, [0], [], false), (13, .getfield 19, 3, 0, [12, 3, 2, 20, 4], [], false), (16, .iload_n 2, 1, 0, [2], [], false), (17, .iaload, 1, 0, [], [], false), (18, .iconst 1, 1, 1, [], [], false), (19, .if_icmp .ne 15, 3, 0, [34], [], false), (22, .aload_n 0, 1, 0, [0], [], false), (23, .getfield 25, 3, 0, [12, 6, 2, 20, 6], [], false), (26, .aload_n 0, 1, 0, [0], [], false), (27, .iload_n 1, 1, 0, [1], [], false), (28, .iload_n 2, 1, 0, [2], [], false), (29, .invokevirtual 161, 3, 0, [1], [], false), (32, .iload_n 2, 1, 0, [2], [], false), (33, .iastore, 1, 0, [], [], false), (34, .iinc 2 1, 3, 1, [], [], false), (37, .goto (-31), 3, 0, [6], [], false), (40, .return_, 1, 0, [], [], false)]
def mo_layOrder_y : MethodName := ⟨"SpanLayersModel", "layOrder", "(I)V"⟩
theorem mo_layOrder_tb : sl_tbOK sl_R12 prog_14_method_19_code 3 none lk_mo [(158, 0), (161, 0)] mo_layOrder_cd = true := by decide +kernel
theorem mo_layLayers_w2 : Cond.instanceMethod mo_layLayers_y ∈ sl_T0 := sl_in1 1217 (by decide +kernel) rfl
theorem mo_layLayers_w3 : Cond.selects mo_layLayers_y.cls mo_layLayers_y mo_layLayers_y ∈ sl_T0 := sl_in1 24 (by decide +kernel) rfl
theorem mo_layLayers_w4 : Cond.initialized mo_layLayers_y.cls ∈ sl_T0 := sl_in1 97 (by decide +kernel) rfl
theorem mo_layLayers_w5 : Cond.code mo_layLayers_y prog_14_method_11_code 4 none ∈ sl_T0 := sl_in1 1218 (by decide +kernel) rfl
theorem mo_layLayers_w6 : mo_layLayers_y.cls ≠ "java/lang/invoke/MethodHandle" ∧ mo_layLayers_y.cls ≠ "java/lang/invoke/VarHandle" ∧ (parseMethodDescriptor mo_layLayers_y.desc).map (fun d => d.parameters.length) = some 0 := by decide +kernel
theorem cs_mo_158 (g : sl_G) {hh : Nat} (h : 3 ≤ hh) : sl_CallS g sl_R12 158 0 12 hh 1 mo_layLayers_pt := sl_callV (y := mo_layLayers_y) (T := sl_F12) (N := 50) (mo_layLayers_snd g) h (by decide) (sl_in1 1215 (by decide +kernel) rfl) mo_layLayers_w2 mo_layLayers_w3 mo_layLayers_w4 mo_layLayers_w5 mo_layLayers_w6 rfl (by decide)
theorem mo_aheadOf_w2 : Cond.instanceMethod mo_aheadOf_y ∈ sl_T0 := sl_in1 1265 (by decide +kernel) rfl
theorem mo_aheadOf_w3 : Cond.selects mo_aheadOf_y.cls mo_aheadOf_y mo_aheadOf_y ∈ sl_T0 := sl_in1 33 (by decide +kernel) rfl
theorem mo_aheadOf_w4 : Cond.initialized mo_aheadOf_y.cls ∈ sl_T0 := sl_in1 97 (by decide +kernel) rfl
theorem mo_aheadOf_w5 : Cond.code mo_aheadOf_y prog_14_method_18_code 5 (some .int) ∈ sl_T0 := sl_in1 1266 (by decide +kernel) rfl
theorem mo_aheadOf_w6 : mo_aheadOf_y.cls ≠ "java/lang/invoke/MethodHandle" ∧ mo_aheadOf_y.cls ≠ "java/lang/invoke/VarHandle" ∧ (parseMethodDescriptor mo_aheadOf_y.desc).map (fun d => d.parameters.length) = some 2 := by decide +kernel
theorem cs_mo_161 (g : sl_G) {hh : Nat} (h : 4 ≤ hh) : sl_CallS g sl_R12 161 0 12 hh 3 mo_aheadOf_pt := sl_callV (y := mo_aheadOf_y) (T := sl_F12) (N := 50) (mo_aheadOf_snd g) h (by decide) (sl_in1 1263 (by decide +kernel) rfl) mo_aheadOf_w2 mo_aheadOf_w3 mo_aheadOf_w4 mo_aheadOf_w5 mo_aheadOf_w6 rfl (by decide)
def mo_layOrder_ct : List sl_Ct := [(1, 0, 12, mo_layLayers_pt), (3, 0, 12, mo_aheadOf_pt)]
theorem mo_layOrder_hc (g : sl_G) : sl_HC g sl_R12 4 mo_layOrder_ct [(158, 0), (161, 0)] := sl_HC_cons (cs_mo_158 g (by decide)) (sl_HC_cons (cs_mo_161 g (by decide)) (sl_HC_nil g sl_R12 4))
set_option maxRecDepth 20000 in
set_option maxHeartbeats 2000000 in
theorem mo_layOrder_snd (g : sl_G) : sl_Snd g mo_layOrder_y prog_14_method_19_code 3 none 4 (mo_layOrder_pt) := by
  intro As μ Q hw h
  unfold mo_layOrder_pt at h
  split at h
  next c0 a0 a1 =>
    split at h
    next e_ =>
      subst e_
      split at h
      next e_ =>
        subst e_
        refine sl_mk2 g [true, true, false] (cst := [some (.inr (.inr (some (12, 104)))), some (.inl a1)]) (lv0 := [none, none, none]) (by decide) rfl hw rfl rfl rfl lk_mo_ok (mo_layOrder_hc g) mo_layOrder_tb rfl ?_
        intro X M
        have v6 := sl_extL M sl_VV0 6 (fun n lv st μ => match lv, st with | [_, _, some (.inl x2)], [] => mo_layOrder_L6 a1 (fun μ' => Q none μ') n x2 μ | _, _ => False) (by
            intro lv st μ h
            split at h
            · exact h
            · exact h) (by
            intro n6 w6
            refine ⟨_, w6, ?_⟩
            intro lv st μ h
            split at h
            · exact h
            · exact h.elim)
        exact ⟨_, v6, h⟩
      next => exact h.elim
    next => exact h.elim
  next => exact h.elim
def mo_isBad (a0 : Int32) (a1 : Int32) (a2 : Int32) (μ : sl_M) (Q : Int32 → sl_M → Prop) : Prop := mo_in a0.toInt64 ((0 : Int32).toInt64) ((999 : Int32).toInt64) μ (fun r2 m1 => (r2 = (0 : Int32) → sl_bz (1 : Int32) = (1 : Int32) ∧ Q (1 : Int32) m1) ∧ (¬ r2 = (0 : Int32) → mo_in a1.toInt64 a0.toInt64 ((999 : Int32).toInt64) m1 (fun r4 m3 => (r4 = (0 : Int32) → sl_bz (1 : Int32) = (1 : Int32) ∧ Q (1 : Int32) m3) ∧ (¬ r4 = (0 : Int32) → mo_in a2.toInt64 ((-99 : Int32).toInt64) ((99 : Int32).toInt64) m3 (fun r6 m5 => (r6 = (0 : Int32) → sl_bz (1 : Int32) = (1 : Int32) ∧ Q (1 : Int32) m5) ∧ (¬ r6 = (0 : Int32) → sl_bz (0 : Int32) = (0 : Int32) ∧ Q (0 : Int32) m5))))))
def mo_isBad_pt : sl_PT := fun As μ Q => match As with
  | [.inl a0, .inl a1, .inl a2] => mo_isBad a0 a1 a2 μ (fun r μ' => Q (some (.inl r)) μ')
  | _ => False
def mo_isBad_cd : List sl_Ent := [(0, .iload_n 0, 1, 0, [0], [], false), (1, .i2l, 1, 0, [], [], false), (2, .lconst 0, 1, 0, [], [], false), (3, .ldc2_w 164, 3, 999, [], [], false), (6, .invokestatic 119, 3, 0, [0], [], false), (9, .ifCond .eq 30, 3, 0, [39], [], false), (12, .iload_n 1, 1, 0, [1], [], false), (13, .i2l, 1, 0, [], [], false), (14, .iload_n 0, 1, 0, [0], [], false), (15, .i2l, 1, 0, [], [], false), (16, .ldc2_w 164, 3, 999, [], [], false), (19, .invokestatic 119, 3, 0, [0], [], false), (22, .ifCond .eq 17, 3, 0, [39], [], false), (25, .iload_n 2, 1, 0, [2], [], false), (26, .i2l, 1, 0, [], [], false), (27, .ldc2_w 166, 3, (-99), [], [], false), (30, .ldc2_w 168, 3, 99, [], [], false), (33, .invokestatic 119, 3, 0, [0], [], false), (36, .ifCond .ne 7, 3, 0, [43], [], false), (39, .iconst 1, 1, 1, [], [], false), (40, .goto 4, 3, 0, [44], [], false), (43, .iconst 0, 1, 0, [], [], false), (44, .ireturn, 1, 0, [1], [], false)]
def mo_isBad_y : MethodName := ⟨"SpanLayersModel", "isBad", "(III)Z"⟩
theorem mo_isBad_tb : sl_tbOK sl_R12 prog_14_method_20_code 3 (some .boolean) lk_mo [(119, 1)] mo_isBad_cd = true := by decide +kernel
def mo_isBad_ct : List sl_Ct := [(3, 1, 0, mo_in_pt)]
theorem mo_isBad_hc (g : sl_G) : sl_HC g sl_R12 1 mo_isBad_ct [(119, 1)] := sl_HC_cons (cs_mo_119 g (by decide)) (sl_HC_nil g sl_R12 1)
set_option maxRecDepth 20000 in
set_option maxHeartbeats 2000000 in
theorem mo_isBad_snd (g : sl_G) : sl_Snd g mo_isBad_y prog_14_method_20_code 3 (some .boolean) 1 (mo_isBad_pt) := by
  intro As μ Q hw h
  unfold mo_isBad_pt at h
  split at h
  next a0 a1 a2 =>
    refine sl_mk2 g [true, true, true] (cst := [some (.inl a0), some (.inl a1), some (.inl a2)]) (lv0 := [none, none, none]) (by decide) rfl hw rfl rfl rfl lk_mo_ok (mo_isBad_hc g) mo_isBad_tb rfl ?_
    intro X M
    exact ⟨_, sl_VV0, h⟩
  next => exact h.elim
def mo_comes (a1 : Int32) (a2 : Int32) (a3 : Int32) (a4 : Int32) (μ : sl_M) (Q : sl_M → Prop) : Prop := vp_in a1 30 ∧ ∀ m1, m1 = sl_up μ 105 a1.toNatClampNeg a2 → vp_in a1 30 ∧ ∀ m2, m2 = sl_up m1 106 a1.toNatClampNeg a3 → vp_in a1 30 ∧ ∀ m3, m3 = sl_up m2 107 a1.toNatClampNeg a4 → vp_in a1 30 ∧ ∀ m4, m4 = sl_up m3 108 a1.toNatClampNeg (1 : Int32) → Q m4
def mo_comes_pt : sl_PT := fun As μ Q => match As with
  | [.inr (.inr (some (c0, a0))), .inl a1, .inl a2, .inl a3, .inl a4] => if c0 = 12 then (if a0 = 104 then (mo_comes a1 a2 a3 a4 μ (fun μ' => Q none μ')) else False) else False
  | _ => False
def mo_comes_cd : List sl_Ent := [(0, .aload_n 0, 1, 0, [0], [], false), (1, .getfield 7, 3, 0, [12, 0, 2, 20, 1], [], false), (4, .iload_n 1, 1, 0, [1], [], false), (5, .iload_n 2, 1, 0, [2], [], false), (6, .iastore, 1, 0, [], [], false), (7, .aload_n 0, 1, 0, [0], [], false), (8, .getfield 13, 3, 0, [12, 1, 2, 20, 2], [], false), (11, .iload_n 1, 1, 0, [1], [], false), (12, .iload_n 3, 1, 0, [3], [], false), (13, .iastore, 1, 0, [], [], false), (14, .aload_n 0, 1, 0, [0], [], false), (15, .getfield 16, 3, 0, [12, 2, 2, 20, 3], [], false), (18, .iload_n 1, 1, 0, [1], [], false), (19, .iload 4, 2, 0, [4], [], false), (21, .iastore, 1, 0, [], [], false), (22, .aload_n 0, 1, 0, [0], [], false), (23, .getfield 19, 3, 0, [12, 3, 2, 20, 4], [], false), (26, .iload_n 1, 1, 0, [1], [], false), (27, .iconst 1, 1, 1, [], [], false), (28, .iastore, 1, 0, [], [], false), (29, .return_, 1, 0, [], [], false)]
def mo_comes_y : MethodName := ⟨"SpanLayersModel", "comes", "(IIII)V"⟩
theorem mo_comes_tb : sl_tbOK sl_R12 prog_14_method_21_code 5 none lk_mo [] mo_comes_cd = true := by decide +kernel
def mo_comes_ct : List sl_Ct := []
theorem mo_comes_hc (g : sl_G) : sl_HC g sl_R12 0 mo_comes_ct [] := sl_HC_nil g sl_R12 0
set_option maxRecDepth 20000 in
set_option maxHeartbeats 2000000 in
theorem mo_comes_snd (g : sl_G) : sl_Snd g mo_comes_y prog_14_method_21_code 5 none 0 (mo_comes_pt) := by
  intro As μ Q hw h
  unfold mo_comes_pt at h
  split at h
  next c0 a0 a1 a2 a3 a4 =>
    split at h
    next e_ =>
      subst e_
      split at h
      next e_ =>
        subst e_
        refine sl_mk2 g [true, true, true, true, true] (cst := [some (.inr (.inr (some (12, 104)))), some (.inl a1), some (.inl a2), some (.inl a3), some (.inl a4)]) (lv0 := [none, none, none, none, none]) (by decide) rfl hw rfl rfl rfl lk_mo_ok (mo_comes_hc g) mo_comes_tb rfl ?_
        intro X M
        exact ⟨_, sl_VV0, h⟩
      next => exact h.elim
    next => exact h.elim
  next => exact h.elim
def mo_leastOut_L5 (Q : Int32 → sl_M → Prop) : Nat → Int32 → Int32 → sl_M → Prop
  | 0, _, _, _ => False
  | n + 1, x1, x2, μ => (x2 < (0 : Int32) → Q x1 μ) ∧ (¬ x2 < (0 : Int32) → vp_in x2 30 ∧ ((μ 108 x2.toNatClampNeg) = (0 : Int32) → (mo_leastOut_L5 Q n) x2 (x2 + (-1 : Int32)) μ) ∧ (¬ (μ 108 x2.toNatClampNeg) = (0 : Int32) → (mo_leastOut_L5 Q n) x1 (x2 + (-1 : Int32)) μ))
def mo_leastOut (μ : sl_M) (Q : Int32 → sl_M → Prop) : Prop := ∃ n1, mo_leastOut_L5 Q n1 (-1 : Int32) (29 : Int32) μ
def mo_leastOut_pt : sl_PT := fun As μ Q => match As with
  | [.inr (.inr (some (c0, a0)))] => if c0 = 12 then (if a0 = 104 then (mo_leastOut μ (fun r μ' => Q (some (.inl r)) μ')) else False) else False
  | _ => False
def mo_leastOut_cd : List sl_Ent := [(0, .iconst (-1), 1, (-1), [], [], false), (1, .istore_n 1, 1, 0, [1], [], false), (2, .bipush 29, 2, 29, [], [], false), (4, .istore_n 2, 1, 0, [2], [], false), (5, .iload_n 2, 1, 0, [2], [], true), (6, .ifCond .lt 24, 3, 0, [30], [], false), (9, .aload_n 0, 1, 0, [0], [], false), (10, .getfield 19, 3, 0, [12, 3, 2, 20, 4], [], false), (13, .iload_n 2, 1, 0, [2], [], false), (14, .iaload, 1, 0, [], [], false), (15, .ifCond .ne 7, 3, 0, [22], [], false), (18, .iload_n 2, 1, 0, [2], [], false), (19, .goto 4, 3, 0, [23], [], false), (22, .iload_n 1, 1, 0, [1], [], false), (23, .istore_n 1, 1, 0, [1], [], false), (24, .iinc 2 (-1), 3, (-1), [], [], false), (27, .goto (-22), 3, 0, [5], [], false), (30, .iload_n 1, 1, 0, [1], [], false), (31, .ireturn, 1, 0, [], [], false)]
def mo_leastOut_y : MethodName := ⟨"SpanLayersModel", "leastOut", "()I"⟩
theorem mo_leastOut_tb : sl_tbOK sl_R12 prog_14_method_22_code 3 (some .int) lk_mo [] mo_leastOut_cd = true := by decide +kernel
def mo_leastOut_ct : List sl_Ct := []
theorem mo_leastOut_hc (g : sl_G) : sl_HC g sl_R12 0 mo_leastOut_ct [] := sl_HC_nil g sl_R12 0
set_option maxRecDepth 20000 in
set_option maxHeartbeats 2000000 in
theorem mo_leastOut_snd (g : sl_G) : sl_Snd g mo_leastOut_y prog_14_method_22_code 3 (some .int) 0 (mo_leastOut_pt) := by
  intro As μ Q hw h
  unfold mo_leastOut_pt at h
  split at h
  next c0 a0 =>
    split at h
    next e_ =>
      subst e_
      split at h
      next e_ =>
        subst e_
        refine sl_mk2 g [true, false, false] (cst := [some (.inr (.inr (some (12, 104))))]) (lv0 := [none, none, none]) (by decide) rfl hw rfl rfl rfl lk_mo_ok (mo_leastOut_hc g) mo_leastOut_tb rfl ?_
        intro X M
        have v5 := sl_extL M sl_VV0 5 (fun n lv st μ => match lv, st with | [_, some (.inl x1), some (.inl x2)], [] => mo_leastOut_L5 (fun r μ' => Q (some (.inl r)) μ') n x1 x2 μ | _, _ => False) (by
            intro lv st μ h
            split at h
            · exact h
            · exact h) (by
            intro n5 w5
            refine ⟨_, w5, ?_⟩
            intro lv st μ h
            split at h
            · exact h
            · exact h.elim)
        exact ⟨_, v5, h⟩
      next => exact h.elim
    next => exact h.elim
  next => exact h.elim
def mo_add (a1 : Int32) (a2 : Int32) (a3 : Int32) (μ : sl_M) (Q : Int32 → sl_M → Prop) : Prop := ∀ m1, m1 = sl_up μ 104 5 (0 : Int32) → mo_isBad a1 a2 a3 m1 (fun r3 m2 => (r3 = (0 : Int32) → mo_leastOut m2 (fun r5 m4 => (r5 < (0 : Int32) → Q (-4 : Int32) m4) ∧ (¬ r5 < (0 : Int32) → mo_comes r5 a1 a2 a3 m4 (fun m6 => Q r5 m6)))) ∧ (¬ r3 = (0 : Int32) → Q (-2 : Int32) m2))
def mo_add_pt : sl_PT := fun As μ Q => match As with
  | [.inr (.inr (some (c0, a0))), .inl a1, .inl a2, .inl a3] => if c0 = 12 then (if a0 = 104 then (mo_add a1 a2 a3 μ (fun r μ' => Q (some (.inl r)) μ')) else False) else False
  | _ => False
def mo_add_cd : List sl_Ent := [(0, .aload_n 0, 1, 0, [0], [], false), (1, .iconst 0, 1, 0, [], [], false), (2, .putfield 113, 3, 0, [12, 5, 0], [], false), (5, .iload_n 1, 1, 0, [1], [], false), (6, .iload_n 2, 1, 0, [2], [], false), (7, .iload_n 3, 1, 0, [3], [], false), (8, .invokestatic 170, 3, 0, [0], [], false), (11, .ifCond .eq 6, 3, 0, [17], [], false), (14, .bipush (-2), 2, (-2), [], [], false), (16, .ireturn, 1, 0, [], [], false), (17, .aload_n 0, 1, 0, [0], [], false), (18, .invokevirtual 173, 3, 0, [1], [], false), (21, .istore 4, 2, 0, [4], [], false), (23, .iload 4, 2, 0, [4], [], false), (25, .ifCond .ge 6, 3, 0, [31], [], false), (28, .bipush (-4), 2, (-4), [], [], false), (30, .ireturn, 1, 0, [], [], false), (31, .aload_n 0, 1, 0, [0], [], false), (32, .iload 4, 2, 0, [4], [], false), (34, .iload_n 1, 1, 0, [1], [], false), (35, .iload_n 2, 1, 0, [2], [], false), (36, .iload_n 3, 1, 0, [3], [], false), (37, .invokevirtual 177, 3, 0, [2], [], false), (40, .iload 4, 2, 0, [4], [], false), (42, .ireturn, 1, 0, [], [], false)]
def mo_add_y : MethodName := ⟨"SpanLayersModel", "add", "(III)I"⟩
theorem mo_add_tb : sl_tbOK sl_R12 prog_14_method_23_code 5 (some .int) lk_mo [(170, 1), (173, 0), (177, 0)] mo_add_cd = true := by decide +kernel
theorem mo_isBad_w2 : Cond.static mo_isBad_y ∈ sl_T0 := sl_in1 1174 (by decide +kernel) rfl
theorem mo_isBad_w4 : Cond.initialized mo_isBad_y.cls ∈ sl_T0 := sl_in1 97 (by decide +kernel) rfl
theorem mo_isBad_w5 : Cond.code mo_isBad_y prog_14_method_20_code 3 (some .boolean) ∈ sl_T0 := sl_in1 1175 (by decide +kernel) rfl
theorem mo_isBad_w6 : mo_isBad_y.cls ≠ "java/lang/invoke/MethodHandle" ∧ mo_isBad_y.cls ≠ "java/lang/invoke/VarHandle" ∧ (parseMethodDescriptor mo_isBad_y.desc).map (fun d => d.parameters.length) = some 3 := by decide +kernel
theorem cs_mo_170 (g : sl_G) {hh : Nat} (h : 2 ≤ hh) : sl_CallS g sl_R12 170 1 0 hh 3 mo_isBad_pt := sl_callS (y := mo_isBad_y) (mo_isBad_snd g) h (by decide) (sl_in1 1173 (by decide +kernel) rfl) mo_isBad_w2 mo_isBad_w4 mo_isBad_w5 mo_isBad_w6
theorem mo_leastOut_w2 : Cond.instanceMethod mo_leastOut_y ∈ sl_T0 := sl_in1 1184 (by decide +kernel) rfl
theorem mo_leastOut_w3 : Cond.selects mo_leastOut_y.cls mo_leastOut_y mo_leastOut_y ∈ sl_T0 := sl_in1 20 (by decide +kernel) rfl
theorem mo_leastOut_w4 : Cond.initialized mo_leastOut_y.cls ∈ sl_T0 := sl_in1 97 (by decide +kernel) rfl
theorem mo_leastOut_w5 : Cond.code mo_leastOut_y prog_14_method_22_code 3 (some .int) ∈ sl_T0 := sl_in1 1185 (by decide +kernel) rfl
theorem mo_leastOut_w6 : mo_leastOut_y.cls ≠ "java/lang/invoke/MethodHandle" ∧ mo_leastOut_y.cls ≠ "java/lang/invoke/VarHandle" ∧ (parseMethodDescriptor mo_leastOut_y.desc).map (fun d => d.parameters.length) = some 0 := by decide +kernel
theorem cs_mo_173 (g : sl_G) {hh : Nat} (h : 1 ≤ hh) : sl_CallS g sl_R12 173 0 12 hh 1 mo_leastOut_pt := sl_callV (y := mo_leastOut_y) (T := sl_F12) (N := 50) (mo_leastOut_snd g) h (by decide) (sl_in1 1182 (by decide +kernel) rfl) mo_leastOut_w2 mo_leastOut_w3 mo_leastOut_w4 mo_leastOut_w5 mo_leastOut_w6 rfl (by decide)
theorem mo_comes_w2 : Cond.instanceMethod mo_comes_y ∈ sl_T0 := sl_in1 1188 (by decide +kernel) rfl
theorem mo_comes_w3 : Cond.selects mo_comes_y.cls mo_comes_y mo_comes_y ∈ sl_T0 := sl_in1 21 (by decide +kernel) rfl
theorem mo_comes_w4 : Cond.initialized mo_comes_y.cls ∈ sl_T0 := sl_in1 97 (by decide +kernel) rfl
theorem mo_comes_w5 : Cond.code mo_comes_y prog_14_method_21_code 5 none ∈ sl_T0 := sl_in1 1189 (by decide +kernel) rfl
theorem mo_comes_w6 : mo_comes_y.cls ≠ "java/lang/invoke/MethodHandle" ∧ mo_comes_y.cls ≠ "java/lang/invoke/VarHandle" ∧ (parseMethodDescriptor mo_comes_y.desc).map (fun d => d.parameters.length) = some 4 := by decide +kernel
theorem cs_mo_177 (g : sl_G) {hh : Nat} (h : 1 ≤ hh) : sl_CallS g sl_R12 177 0 12 hh 5 mo_comes_pt := sl_callV (y := mo_comes_y) (T := sl_F12) (N := 50) (mo_comes_snd g) h (by decide) (sl_in1 1186 (by decide +kernel) rfl) mo_comes_w2 mo_comes_w3 mo_comes_w4 mo_comes_w5 mo_comes_w6 rfl (by decide)
def mo_add_ct : List sl_Ct := [(3, 1, 0, mo_isBad_pt), (1, 0, 12, mo_leastOut_pt), (5, 0, 12, mo_comes_pt)]
theorem mo_add_hc (g : sl_G) : sl_HC g sl_R12 2 mo_add_ct [(170, 1), (173, 0), (177, 0)] := sl_HC_cons (cs_mo_170 g (by decide)) (sl_HC_cons (cs_mo_173 g (by decide)) (sl_HC_cons (cs_mo_177 g (by decide)) (sl_HC_nil g sl_R12 2)))
set_option maxRecDepth 20000 in
set_option maxHeartbeats 2000000 in
theorem mo_add_snd (g : sl_G) : sl_Snd g mo_add_y prog_14_method_23_code 5 (some .int) 2 (mo_add_pt) := by
  intro As μ Q hw h
  unfold mo_add_pt at h
  split at h
  next c0 a0 a1 a2 a3 =>
    split at h
    next e_ =>
      subst e_
      split at h
      next e_ =>
        subst e_
        refine sl_mk2 g [true, true, true, true, false] (cst := [some (.inr (.inr (some (12, 104)))), some (.inl a1), some (.inl a2), some (.inl a3)]) (lv0 := [none, none, none, none, none]) (by decide) rfl hw rfl rfl rfl lk_mo_ok (mo_add_hc g) mo_add_tb rfl ?_
        intro X M
        exact ⟨_, sl_VV0, h⟩
      next => exact h.elim
    next => exact h.elim
  next => exact h.elim
def mo_put (a1 : Int32) (a2 : Int32) (a3 : Int32) (a4 : Int32) (μ : sl_M) (Q : Int32 → sl_M → Prop) : Prop := ∀ m1, m1 = sl_up μ 104 5 (0 : Int32) → mo_isSpan a1 m1 (fun r3 m2 => (r3 = (0 : Int32) → Q (-1 : Int32) m2) ∧ (¬ r3 = (0 : Int32) → mo_isBad a2 a3 a4 m2 (fun r5 m4 => (r5 = (0 : Int32) → vp_in a1 30 ∧ ∀ v6, v6 = (m4 108 a1.toNatClampNeg) → mo_comes a1 a2 a3 a4 m4 (fun m7 => Q v6 m7)) ∧ (¬ r5 = (0 : Int32) → Q (-2 : Int32) m4))))
def mo_put_pt : sl_PT := fun As μ Q => match As with
  | [.inr (.inr (some (c0, a0))), .inl a1, .inl a2, .inl a3, .inl a4] => if c0 = 12 then (if a0 = 104 then (mo_put a1 a2 a3 a4 μ (fun r μ' => Q (some (.inl r)) μ')) else False) else False
  | _ => False
def mo_put_cd : List sl_Ent := [(0, .aload_n 0, 1, 0, [0], [], false), (1, .iconst 0, 1, 0, [], [], false), (2, .putfield 113, 3, 0, [12, 5, 0], [], false), (5, .iload_n 1, 1, 0, [1], [], false), (6, .invokestatic 123, 3, 0, [0], [], false), (9, .ifCond .ne 5, 3, 0, [14], [], false), (12, .iconst (-1), 1, (-1), [], [], false), (13, .ireturn, 1, 0, [], [], false), (14, .iload_n 2, 1, 0, [2], [], false), (15, .iload_n 3, 1, 0, [3], [], false), (16, .iload 4, 2, 0, [4], [], false), (18, .invokestatic 170, 3, 0, [1], [], false), (21, .ifCond .eq 6, 3, 0, [27], [], false), (24, .bipush (-2), 2, (-2), [], [], false), (26, .ireturn, 1, 0, [], [], false), (27, .aload_n 0, 1, 0, [0], [], false), (28, .getfield 19, 3, 0, [12, 3, 2, 20, 4], [], false), (31, .iload_n 1, 1, 0, [1], [], false), (32, .iaload, 1, 0, [], [], false), (33, .istore 5, 2, 0, [5, 1], [], false), (35, .aload_n 0, 1, 0, [0], [], false), (36, .iload_n 1, 1, 0, [1], [], false), (37, .iload_n 2, 1, 0, [2], [], false), (38, .iload_n 3, 1, 0, [3], [], false), (39, .iload 4, 2, 0, [4], [], false), (41, .invokevirtual 177, 3, 0, [2], [], false), (44, .iload 5, 2, 0, [5], [], false), (46, .ireturn, 1, 0, [], [], false)]
def mo_put_y : MethodName := ⟨"SpanLayersModel", "put", "(IIII)I"⟩
theorem mo_put_tb : sl_tbOK sl_R12 prog_14_method_24_code 6 (some .int) lk_mo [(123, 1), (170, 1), (177, 0)] mo_put_cd = true := by decide +kernel
def mo_put_ct : List sl_Ct := [(1, 1, 0, mo_isSpan_pt), (3, 1, 0, mo_isBad_pt), (5, 0, 12, mo_comes_pt)]
theorem mo_put_hc (g : sl_G) : sl_HC g sl_R12 2 mo_put_ct [(123, 1), (170, 1), (177, 0)] := sl_HC_cons (cs_mo_123 g (by decide)) (sl_HC_cons (cs_mo_170 g (by decide)) (sl_HC_cons (cs_mo_177 g (by decide)) (sl_HC_nil g sl_R12 2)))
set_option maxRecDepth 20000 in
set_option maxHeartbeats 2000000 in
theorem mo_put_snd (g : sl_G) : sl_Snd g mo_put_y prog_14_method_24_code 6 (some .int) 2 (mo_put_pt) := by
  intro As μ Q hw h
  unfold mo_put_pt at h
  split at h
  next c0 a0 a1 a2 a3 a4 =>
    split at h
    next e_ =>
      subst e_
      split at h
      next e_ =>
        subst e_
        refine sl_mk2 g [true, true, true, true, true, false] (cst := [some (.inr (.inr (some (12, 104)))), some (.inl a1), some (.inl a2), some (.inl a3), some (.inl a4)]) (lv0 := [none, none, none, none, none, none]) (by decide) rfl hw rfl rfl rfl lk_mo_ok (mo_put_hc g) mo_put_tb rfl ?_
        intro X M
        exact ⟨_, sl_VV0, h⟩
      next => exact h.elim
    next => exact h.elim
  next => exact h.elim
def mo_drop (a1 : Int32) (μ : sl_M) (Q : Int32 → sl_M → Prop) : Prop := ∀ m1, m1 = sl_up μ 104 5 (0 : Int32) → mo_isHere a1 m1 (fun r3 m2 => (r3 = (0 : Int32) → mo_isSpan a1 m2 (fun r5 m4 => (r5 = (0 : Int32) → Q (-1 : Int32) m4) ∧ (¬ r5 = (0 : Int32) → Q (-3 : Int32) m4))) ∧ (¬ r3 = (0 : Int32) → vp_in a1 30 ∧ ∀ m6, m6 = sl_up m2 108 a1.toNatClampNeg (0 : Int32) → mo_manyIn m6 (fun r8 m7 => Q r8 m7)))
def mo_drop_pt : sl_PT := fun As μ Q => match As with
  | [.inr (.inr (some (c0, a0))), .inl a1] => if c0 = 12 then (if a0 = 104 then (mo_drop a1 μ (fun r μ' => Q (some (.inl r)) μ')) else False) else False
  | _ => False
def mo_drop_cd : List sl_Ent := [(0, .aload_n 0, 1, 0, [0], [], false), (1, .iconst 0, 1, 0, [], [], false), (2, .putfield 113, 3, 0, [12, 5, 0], [], false), (5, .aload_n 0, 1, 0, [0], [], false), (6, .iload_n 1, 1, 0, [1], [], false), (7, .invokevirtual 181, 3, 0, [0], [], false), (10, .ifCond .ne 17, 3, 0, [27], [], false), (13, .iload_n 1, 1, 0, [1], [], false), (14, .invokestatic 123, 3, 0, [1], [], false), (17, .ifCond .eq 8, 3, 0, [25], [], false), (20, .bipush (-3), 2, (-3), [], [], false), (22, .goto 4, 3, 0, [26], [], false), (25, .iconst (-1), 1, (-1), [], [], false), (26, .ireturn, 1, 0, [], [], false), (27, .aload_n 0, 1, 0, [0], [], false), (28, .getfield 19, 3, 0, [12, 3, 2, 20, 4], [], false), (31, .iload_n 1, 1, 0, [1], [], false), (32, .iconst 0, 1, 0, [], [], false), (33, .iastore, 1, 0, [], [], false), (34, .aload_n 0, 1, 0, [0], [], false), (35, .invokevirtual 184, 3, 0, [2], [], false), (38, .ireturn, 1, 0, [], [], false)]
def mo_drop_y : MethodName := ⟨"SpanLayersModel", "drop", "(I)I"⟩
theorem mo_drop_tb : sl_tbOK sl_R12 prog_14_method_25_code 2 (some .int) lk_mo [(181, 0), (123, 1), (184, 0)] mo_drop_cd = true := by decide +kernel
theorem mo_isHere_w2 : Cond.instanceMethod mo_isHere_y ∈ sl_T0 := sl_in1 1204 (by decide +kernel) rfl
theorem mo_isHere_w3 : Cond.selects mo_isHere_y.cls mo_isHere_y mo_isHere_y ∈ sl_T0 := sl_in1 22 (by decide +kernel) rfl
theorem mo_isHere_w4 : Cond.initialized mo_isHere_y.cls ∈ sl_T0 := sl_in1 97 (by decide +kernel) rfl
theorem mo_isHere_w5 : Cond.code mo_isHere_y prog_14_method_5_code 2 (some .boolean) ∈ sl_T0 := sl_in1 1205 (by decide +kernel) rfl
theorem mo_isHere_w6 : mo_isHere_y.cls ≠ "java/lang/invoke/MethodHandle" ∧ mo_isHere_y.cls ≠ "java/lang/invoke/VarHandle" ∧ (parseMethodDescriptor mo_isHere_y.desc).map (fun d => d.parameters.length) = some 1 := by decide +kernel
theorem cs_mo_181 (g : sl_G) {hh : Nat} (h : 3 ≤ hh) : sl_CallS g sl_R12 181 0 12 hh 2 mo_isHere_pt := sl_callV (y := mo_isHere_y) (T := sl_F12) (N := 50) (mo_isHere_snd g) h (by decide) (sl_in1 1202 (by decide +kernel) rfl) mo_isHere_w2 mo_isHere_w3 mo_isHere_w4 mo_isHere_w5 mo_isHere_w6 rfl (by decide)
theorem mo_manyIn_w2 : Cond.instanceMethod mo_manyIn_y ∈ sl_T0 := sl_in1 1208 (by decide +kernel) rfl
theorem mo_manyIn_w3 : Cond.selects mo_manyIn_y.cls mo_manyIn_y mo_manyIn_y ∈ sl_T0 := sl_in1 23 (by decide +kernel) rfl
theorem mo_manyIn_w4 : Cond.initialized mo_manyIn_y.cls ∈ sl_T0 := sl_in1 97 (by decide +kernel) rfl
theorem mo_manyIn_w5 : Cond.code mo_manyIn_y prog_14_method_6_code 3 (some .int) ∈ sl_T0 := sl_in1 1209 (by decide +kernel) rfl
theorem mo_manyIn_w6 : mo_manyIn_y.cls ≠ "java/lang/invoke/MethodHandle" ∧ mo_manyIn_y.cls ≠ "java/lang/invoke/VarHandle" ∧ (parseMethodDescriptor mo_manyIn_y.desc).map (fun d => d.parameters.length) = some 0 := by decide +kernel
theorem cs_mo_184 (g : sl_G) {hh : Nat} (h : 1 ≤ hh) : sl_CallS g sl_R12 184 0 12 hh 1 mo_manyIn_pt := sl_callV (y := mo_manyIn_y) (T := sl_F12) (N := 50) (mo_manyIn_snd g) h (by decide) (sl_in1 1206 (by decide +kernel) rfl) mo_manyIn_w2 mo_manyIn_w3 mo_manyIn_w4 mo_manyIn_w5 mo_manyIn_w6 rfl (by decide)
def mo_drop_ct : List sl_Ct := [(2, 0, 12, mo_isHere_pt), (1, 1, 0, mo_isSpan_pt), (1, 0, 12, mo_manyIn_pt)]
theorem mo_drop_hc (g : sl_G) : sl_HC g sl_R12 3 mo_drop_ct [(181, 0), (123, 1), (184, 0)] := sl_HC_cons (cs_mo_181 g (by decide)) (sl_HC_cons (cs_mo_123 g (by decide)) (sl_HC_cons (cs_mo_184 g (by decide)) (sl_HC_nil g sl_R12 3)))
set_option maxRecDepth 20000 in
set_option maxHeartbeats 2000000 in
theorem mo_drop_snd (g : sl_G) : sl_Snd g mo_drop_y prog_14_method_25_code 2 (some .int) 3 (mo_drop_pt) := by
  intro As μ Q hw h
  unfold mo_drop_pt at h
  split at h
  next c0 a0 a1 =>
    split at h
    next e_ =>
      subst e_
      split at h
      next e_ =>
        subst e_
        refine sl_mk2 g [true, true] (cst := [some (.inr (.inr (some (12, 104)))), some (.inl a1)]) (lv0 := [none, none]) (by decide) rfl hw rfl rfl rfl lk_mo_ok (mo_drop_hc g) mo_drop_tb rfl ?_
        intro X M
        exact ⟨_, sl_VV0, h⟩
      next => exact h.elim
    next => exact h.elim
  next => exact h.elim
def mo_countOf_B66 (a1 : Int32) (a2 : Int32) (Q : Int32 → sl_M → Prop) (k5 : Int32 → Int32 → sl_M → Prop) : Int32 → Int32 → Int32 → sl_M → Prop
  | x3, x4, x5, μ => (x5 = (0 : Int32) → ∀ v7, v7 = (x3 + (0 : Int32)) → k5 v7 (x4 + (1 : Int32)) μ) ∧ (¬ x5 = (0 : Int32) → ∀ v8, v8 = (x3 + (1 : Int32)) → k5 v8 (x4 + (1 : Int32)) μ)
def mo_countOf_L5 (a1 : Int32) (a2 : Int32) (Q : Int32 → sl_M → Prop) : Nat → Int32 → Int32 → sl_M → Prop
  | 0, _, _, _ => False
  | n + 1, x3, x4, μ => (x4 < (30 : Int32) → (a2 = (5 : Int32) → mo_covers x4 a1 μ (fun r2 m1 => mo_countOf_B66 a1 a2 Q (mo_countOf_L5 a1 a2 Q n) x3 x4 r2 m1)) ∧ (¬ a2 = (5 : Int32) → (a2 = (6 : Int32) → mo_covers a1 x4 μ (fun r4 m3 => mo_countOf_B66 a1 a2 Q (mo_countOf_L5 a1 a2 Q n) x3 x4 r4 m3)) ∧ (¬ a2 = (6 : Int32) → (x4 = a1 → mo_countOf_B66 a1 a2 Q (mo_countOf_L5 a1 a2 Q n) x3 x4 (0 : Int32) μ) ∧ (¬ x4 = a1 → mo_meets x4 a1 μ (fun r6 m5 => (r6 = (0 : Int32) → mo_countOf_B66 a1 a2 Q (mo_countOf_L5 a1 a2 Q n) x3 x4 (0 : Int32) m5) ∧ (¬ r6 = (0 : Int32) → mo_countOf_B66 a1 a2 Q (mo_countOf_L5 a1 a2 Q n) x3 x4 (1 : Int32) m5)))))) ∧ (¬ x4 < (30 : Int32) → Q x3 μ)
def mo_countOf (a1 : Int32) (a2 : Int32) (μ : sl_M) (Q : Int32 → sl_M → Prop) : Prop := ∃ n9, mo_countOf_L5 a1 a2 Q n9 (0 : Int32) (0 : Int32) μ
def mo_countOf_pt : sl_PT := fun As μ Q => match As with
  | [.inr (.inr (some (c0, a0))), .inl a1, .inl a2] => if c0 = 12 then (if a0 = 104 then (mo_countOf a1 a2 μ (fun r μ' => Q (some (.inl r)) μ')) else False) else False
  | _ => False
def mo_countOf_cd : List sl_Ent := [(0, .iconst 0, 1, 0, [], [], false), (1, .istore_n 3, 1, 0, [3], [], false), (2, .iconst 0, 1, 0, [], [], false), (3, .istore 4, 2, 0, [4], [], false), (5, .iload 4, 2, 0, [4], [], true), (7, .bipush 30, 2, 30, [], [], false), (9, .if_icmp .ge 76, 3, 0, [85], [], false), (12, .iload_n 2, 1, 0, [2], [], false), (13, .iconst 5, 1, 5, [], [], false), (14, .if_icmp .ne 13, 3, 0, [27], [], false), (17, .aload_n 0, 1, 0, [0], [], false), (18, .iload 4, 2, 0, [4], [], false), (20, .iload_n 1, 1, 0, [1], [], false), (21, .invokevirtual 131, 3, 0, [0], [], false), (24, .goto 40, 3, 0, [64], [], false), (27, .iload_n 2, 1, 0, [2], [], false), (28, .bipush 6, 2, 6, [], [], false), (30, .if_icmp .ne 13, 3, 0, [43], [], false), (33, .aload_n 0, 1, 0, [0], [], false), (34, .iload_n 1, 1, 0, [1], [], false), (35, .iload 4, 2, 0, [4], [], false), (37, .invokevirtual 131, 3, 0, [0], [], false), (40, .goto 24, 3, 0, [64], [], false), (43, .iload 4, 2, 0, [4], [], false), (45, .iload_n 1, 1, 0, [1], [], false), (46, .if_icmp .eq 17, 3, 0, [63], [], false), (49, .aload_n 0, 1, 0, [0], [], false), (50, .iload 4, 2, 0, [4], [], false), (52, .iload_n 1, 1, 0, [1], [], false), (53, .invokevirtual 187, 3, 0, [1], [], false), (56, .ifCond .eq 7, 3, 0, [63], [], false), (59, .iconst 1, 1, 1, [], [], false), (60, .goto 4, 3, 0, [64], [], false), (63, .iconst 0, 1, 0, [], [], false), (64, .istore 5, 2, 0, [5], [], false), (66, .iload_n 3, 1, 0, [3], [], true), (67, .iload 5, 2, 0, [5], [], false), (69, .ifCond .eq 7, 3, 0, [76], [], false), (72, .iconst 1, 1, 1, [], [], false), (73, .goto 4, 3, 0, [77], [], false), (76, .iconst 0, 1, 0, [], [], false), (77, .iadd, 1, 0, [], [], false), (78, .istore_n 3, 1, 0, [3, 1], [], false), (79, .iinc 4 1, 3, 1, [], [], false), (82, .goto (-77), 3, 0, [5], [], false), (85, .iload_n 3, 1, 0, [3], [], false), (86, .ireturn, 1, 0, [], [], false)]
def mo_countOf_y : MethodName := ⟨"SpanLayersModel", "countOf", "(II)I"⟩
theorem mo_countOf_tb : sl_tbOK sl_R12 prog_14_method_26_code 6 (some .int) lk_mo [(131, 0), (187, 0)] mo_countOf_cd = true := by decide +kernel
theorem mo_meets_w2 : Cond.instanceMethod mo_meets_y ∈ sl_T0 := sl_in1 1233 (by decide +kernel) rfl
theorem mo_meets_w3 : Cond.selects mo_meets_y.cls mo_meets_y mo_meets_y ∈ sl_T0 := sl_in1 28 (by decide +kernel) rfl
theorem mo_meets_w4 : Cond.initialized mo_meets_y.cls ∈ sl_T0 := sl_in1 97 (by decide +kernel) rfl
theorem mo_meets_w5 : Cond.code mo_meets_y prog_14_method_10_code 3 (some .boolean) ∈ sl_T0 := sl_in1 1234 (by decide +kernel) rfl
theorem mo_meets_w6 : mo_meets_y.cls ≠ "java/lang/invoke/MethodHandle" ∧ mo_meets_y.cls ≠ "java/lang/invoke/VarHandle" ∧ (parseMethodDescriptor mo_meets_y.desc).map (fun d => d.parameters.length) = some 2 := by decide +kernel
theorem cs_mo_187 (g : sl_G) {hh : Nat} (h : 1 ≤ hh) : sl_CallS g sl_R12 187 0 12 hh 3 mo_meets_pt := sl_callV (y := mo_meets_y) (T := sl_F12) (N := 50) (mo_meets_snd g) h (by decide) (sl_in1 1231 (by decide +kernel) rfl) mo_meets_w2 mo_meets_w3 mo_meets_w4 mo_meets_w5 mo_meets_w6 rfl (by decide)
def mo_countOf_ct : List sl_Ct := [(3, 0, 12, mo_covers_pt), (3, 0, 12, mo_meets_pt)]
theorem mo_countOf_hc (g : sl_G) : sl_HC g sl_R12 2 mo_countOf_ct [(131, 0), (187, 0)] := sl_HC_cons (cs_mo_131 g (by decide)) (sl_HC_cons (cs_mo_187 g (by decide)) (sl_HC_nil g sl_R12 2))
set_option maxRecDepth 20000 in
set_option maxHeartbeats 2000000 in
theorem mo_countOf_snd (g : sl_G) : sl_Snd g mo_countOf_y prog_14_method_26_code 6 (some .int) 2 (mo_countOf_pt) := by
  intro As μ Q hw h
  unfold mo_countOf_pt at h
  split at h
  next c0 a0 a1 a2 =>
    split at h
    next e_ =>
      subst e_
      split at h
      next e_ =>
        subst e_
        refine sl_mk2 g [true, true, true, false, false, false] (cst := [some (.inr (.inr (some (12, 104)))), some (.inl a1), some (.inl a2)]) (lv0 := [none, none, none, none, none, none]) (by decide) rfl hw rfl rfl rfl lk_mo_ok (mo_countOf_hc g) mo_countOf_tb rfl ?_
        intro X M
        have v5 := sl_extL M sl_VV0 5 (fun n lv st μ => match lv, st with | [_, _, _, some (.inl x3), some (.inl x4), _], [] => mo_countOf_L5 a1 a2 (fun r μ' => Q (some (.inl r)) μ') n x3 x4 μ | _, _ => False) (by
            intro lv st μ h
            split at h
            · exact h
            · exact h) (by
            intro n5 w5
            have v66 := sl_ext M w5 66 (fun lv st μ => match lv, st with | [_, _, _, some (.inl x3), some (.inl x4), some (.inl x5)], [] => mo_countOf_B66 a1 a2 (fun r μ' => Q (some (.inl r)) μ') (mo_countOf_L5 a1 a2 (fun r μ' => Q (some (.inl r)) μ') n5) x3 x4 x5 μ | _, _ => False) (by
                intro lv st μ h
                split at h
                · exact h
                · exact h.elim)
            refine ⟨_, v66, ?_⟩
            intro lv st μ h
            split at h
            · exact h
            · exact h.elim)
        exact ⟨_, v5, h⟩
      next => exact h.elim
    next => exact h.elim
  next => exact h.elim
def mo_of (a1 : Int32) (a2 : Int32) (μ : sl_M) (Q : Int32 → sl_M → Prop) : Prop := ∀ m1, m1 = sl_up μ 104 5 (0 : Int32) → mo_isSpan a1 m1 (fun r3 m2 => (r3 = (0 : Int32) → Q (-1 : Int32) m2) ∧ (¬ r3 = (0 : Int32) → mo_in a2.toInt64 ((0 : Int32).toInt64) ((7 : Int32).toInt64) m2 (fun r5 m4 => (r5 = (0 : Int32) → Q (-1 : Int32) m4) ∧ (¬ r5 = (0 : Int32) → vp_in a1 30 ∧ ((m4 108 a1.toNatClampNeg) = (0 : Int32) → Q (-3 : Int32) m4) ∧ (¬ (m4 108 a1.toNatClampNeg) = (0 : Int32) → mo_layLayers m4 (fun m6 => (a2 = (0 : Int32) → vp_in a1 30 ∧ Q (m6 105 a1.toNatClampNeg) m6) ∧ (¬ a2 = (0 : Int32) → (a2 = (1 : Int32) → vp_in a1 30 ∧ Q (m6 106 a1.toNatClampNeg) m6) ∧ (¬ a2 = (1 : Int32) → (a2 = (2 : Int32) → vp_in a1 30 ∧ Q (m6 107 a1.toNatClampNeg) m6) ∧ (¬ a2 = (2 : Int32) → (a2 = (3 : Int32) → mo_lengthOf a1 m6 (fun r8 m7 => Q r8 m7)) ∧ (¬ a2 = (3 : Int32) → (a2 = (4 : Int32) → vp_in a1 30 ∧ Q (m6 109 a1.toNatClampNeg) m6) ∧ (¬ a2 = (4 : Int32) → mo_countOf a1 a2 m6 (fun r10 m9 => Q r10 m9))))))))))))
def mo_of_pt : sl_PT := fun As μ Q => match As with
  | [.inr (.inr (some (c0, a0))), .inl a1, .inl a2] => if c0 = 12 then (if a0 = 104 then (mo_of a1 a2 μ (fun r μ' => Q (some (.inl r)) μ')) else False) else False
  | _ => False
def mo_of_cd : List sl_Ent := [(0, .aload_n 0, 1, 0, [0], [], false), (1, .iconst 0, 1, 0, [], [], false), (2, .putfield 113, 3, 0, [12, 5, 0], [], false), (5, .iload_n 1, 1, 0, [1], [], false), (6, .invokestatic 123, 3, 0, [0], [], false), (9, .ifCond .eq 15, 3, 0, [24], [], false), (12, .iload_n 2, 1, 0, [2], [], false), (13, .i2l, 1, 0, [], [], false), (14, .lconst 0, 1, 0, [], [], false), (15, .ldc2_w 190, 3, 7, [], [], false), (18, .invokestatic 119, 3, 0, [1], [], false), (21, .ifCond .ne 5, 3, 0, [26], [], false), (24, .iconst (-1), 1, (-1), [], [], false), (25, .ireturn, 1, 0, [], [], false), (26, .aload_n 0, 1, 0, [0], [], false), (27, .getfield 19, 3, 0, [12, 3, 2, 20, 4], [], false), (30, .iload_n 1, 1, 0, [1], [], false), (31, .iaload, 1, 0, [], [], false), (32, .ifCond .ne 6, 3, 0, [38], [], false), (35, .bipush (-3), 2, (-3), [], [], false), (37, .ireturn, 1, 0, [], [], false), (38, .aload_n 0, 1, 0, [0], [], false), (39, .invokevirtual 158, 3, 0, [2], [], false), (42, .iload_n 2, 1, 0, [2], [], false), (43, .tableswitch 67 0 4 #[33, 40, 47, 54, 60], 33, 0, [110], [(0, 76), (1, 83), (2, 90), (3, 97), (4, 103)], false), (76, .aload_n 0, 1, 0, [0], [], false), (77, .getfield 7, 3, 0, [12, 0, 2, 20, 1], [], false), (80, .iload_n 1, 1, 0, [1], [], false), (81, .iaload, 1, 0, [], [], false), (82, .ireturn, 1, 0, [], [], false), (83, .aload_n 0, 1, 0, [0], [], false), (84, .getfield 13, 3, 0, [12, 1, 2, 20, 2], [], false), (87, .iload_n 1, 1, 0, [1], [], false), (88, .iaload, 1, 0, [], [], false), (89, .ireturn, 1, 0, [], [], false), (90, .aload_n 0, 1, 0, [0], [], false), (91, .getfield 16, 3, 0, [12, 2, 2, 20, 3], [], false), (94, .iload_n 1, 1, 0, [1], [], false), (95, .iaload, 1, 0, [], [], false), (96, .ireturn, 1, 0, [], [], false), (97, .aload_n 0, 1, 0, [0], [], false), (98, .iload_n 1, 1, 0, [1], [], false), (99, .invokevirtual 127, 3, 0, [3], [], false), (102, .ireturn, 1, 0, [], [], false), (103, .aload_n 0, 1, 0, [0], [], false), (104, .getfield 22, 3, 0, [12, 4, 2, 20, 5], [], false), (107, .iload_n 1, 1, 0, [1], [], false), (108, .iaload, 1, 0, [], [], false), (109, .ireturn, 1, 0, [], [], false), (110, .aload_n 0, 1, 0, [0], [], false), (111, .iload_n 1, 1, 0, [1], [], false), (112, .iload_n 2, 1, 0, [2], [], false), (113, .invokevirtual 192, 3, 0, [4], [], false), (116, .ireturn, 1, 0, [], [], false)]
def mo_of_y : MethodName := ⟨"SpanLayersModel", "of", "(II)I"⟩
theorem mo_of_tb : sl_tbOK sl_R12 prog_14_method_27_code 3 (some .int) lk_mo [(123, 1), (119, 1), (158, 0), (127, 0), (192, 0)] mo_of_cd = true := by decide +kernel
theorem mo_countOf_w2 : Cond.instanceMethod mo_countOf_y ∈ sl_T0 := sl_in1 1229 (by decide +kernel) rfl
theorem mo_countOf_w3 : Cond.selects mo_countOf_y.cls mo_countOf_y mo_countOf_y ∈ sl_T0 := sl_in1 27 (by decide +kernel) rfl
theorem mo_countOf_w4 : Cond.initialized mo_countOf_y.cls ∈ sl_T0 := sl_in1 97 (by decide +kernel) rfl
theorem mo_countOf_w5 : Cond.code mo_countOf_y prog_14_method_26_code 6 (some .int) ∈ sl_T0 := sl_in1 1230 (by decide +kernel) rfl
theorem mo_countOf_w6 : mo_countOf_y.cls ≠ "java/lang/invoke/MethodHandle" ∧ mo_countOf_y.cls ≠ "java/lang/invoke/VarHandle" ∧ (parseMethodDescriptor mo_countOf_y.desc).map (fun d => d.parameters.length) = some 2 := by decide +kernel
theorem cs_mo_192 (g : sl_G) {hh : Nat} (h : 3 ≤ hh) : sl_CallS g sl_R12 192 0 12 hh 3 mo_countOf_pt := sl_callV (y := mo_countOf_y) (T := sl_F12) (N := 50) (mo_countOf_snd g) h (by decide) (sl_in1 1227 (by decide +kernel) rfl) mo_countOf_w2 mo_countOf_w3 mo_countOf_w4 mo_countOf_w5 mo_countOf_w6 rfl (by decide)
def mo_of_ct : List sl_Ct := [(1, 1, 0, mo_isSpan_pt), (3, 1, 0, mo_in_pt), (1, 0, 12, mo_layLayers_pt), (2, 0, 12, mo_lengthOf_pt), (3, 0, 12, mo_countOf_pt)]
theorem mo_of_hc (g : sl_G) : sl_HC g sl_R12 3 mo_of_ct [(123, 1), (119, 1), (158, 0), (127, 0), (192, 0)] := sl_HC_cons (cs_mo_123 g (by decide)) (sl_HC_cons (cs_mo_119 g (by decide)) (sl_HC_cons (cs_mo_158 g (by decide)) (sl_HC_cons (cs_mo_127 g (by decide)) (sl_HC_cons (cs_mo_192 g (by decide)) (sl_HC_nil g sl_R12 3)))))
set_option maxRecDepth 20000 in
set_option maxHeartbeats 2000000 in
theorem mo_of_snd (g : sl_G) : sl_Snd g mo_of_y prog_14_method_27_code 3 (some .int) 3 (mo_of_pt) := by
  intro As μ Q hw h
  unfold mo_of_pt at h
  split at h
  next c0 a0 a1 a2 =>
    split at h
    next e_ =>
      subst e_
      split at h
      next e_ =>
        subst e_
        refine sl_mk2 g [true, true, true] (cst := [some (.inr (.inr (some (12, 104)))), some (.inl a1), some (.inl a2)]) (lv0 := [none, none, none]) (by decide) rfl hw rfl rfl rfl lk_mo_ok (mo_of_hc g) mo_of_tb rfl ?_
        intro X M
        exact ⟨_, sl_VV0, h⟩
      next => exact h.elim
    next => exact h.elim
  next => exact h.elim
def mo_plainHow (a1 : Int32) (a2 : Int32) (μ : sl_M) (Q : Int32 → sl_M → Prop) : Prop := vp_in a1 30 ∧ vp_in a2 30 ∧ ((μ 106 a1.toNatClampNeg) < (μ 105 a2.toNatClampNeg) → vp_in a1 30 ∧ vp_in a2 30 ∧ (((μ 106 a1.toNatClampNeg) + (1 : Int32)) < (μ 105 a2.toNatClampNeg) → Q (0 : Int32) μ) ∧ (¬ ((μ 106 a1.toNatClampNeg) + (1 : Int32)) < (μ 105 a2.toNatClampNeg) → Q (1 : Int32) μ)) ∧ (¬ (μ 106 a1.toNatClampNeg) < (μ 105 a2.toNatClampNeg) → mo_meets a1 a2 μ (fun r2 m1 => (r2 = (0 : Int32) → Q (-1 : Int32) m1) ∧ (¬ r2 = (0 : Int32) → vp_in a1 30 ∧ vp_in a2 30 ∧ ((m1 105 a1.toNatClampNeg) ≤ (m1 105 a2.toNatClampNeg) → vp_in a1 30 ∧ vp_in a2 30 ∧ ((m1 105 a1.toNatClampNeg) < (m1 105 a2.toNatClampNeg) → vp_in a1 30 ∧ vp_in a2 30 ∧ ((m1 106 a1.toNatClampNeg) < (m1 106 a2.toNatClampNeg) → Q (2 : Int32) m1) ∧ (¬ (m1 106 a1.toNatClampNeg) < (m1 106 a2.toNatClampNeg) → vp_in a1 30 ∧ vp_in a2 30 ∧ ((m1 106 a1.toNatClampNeg) = (m1 106 a2.toNatClampNeg) → Q (3 : Int32) m1) ∧ (¬ (m1 106 a1.toNatClampNeg) = (m1 106 a2.toNatClampNeg) → Q (4 : Int32) m1))) ∧ (¬ (m1 105 a1.toNatClampNeg) < (m1 105 a2.toNatClampNeg) → vp_in a1 30 ∧ vp_in a2 30 ∧ ((m1 106 a1.toNatClampNeg) < (m1 106 a2.toNatClampNeg) → Q (5 : Int32) m1) ∧ (¬ (m1 106 a1.toNatClampNeg) < (m1 106 a2.toNatClampNeg) → vp_in a1 30 ∧ vp_in a2 30 ∧ ((m1 106 a1.toNatClampNeg) = (m1 106 a2.toNatClampNeg) → Q (6 : Int32) m1) ∧ (¬ (m1 106 a1.toNatClampNeg) = (m1 106 a2.toNatClampNeg) → Q (-1 : Int32) m1)))) ∧ (¬ (m1 105 a1.toNatClampNeg) ≤ (m1 105 a2.toNatClampNeg) → Q (-1 : Int32) m1))))
def mo_plainHow_pt : sl_PT := fun As μ Q => match As with
  | [.inr (.inr (some (c0, a0))), .inl a1, .inl a2] => if c0 = 12 then (if a0 = 104 then (mo_plainHow a1 a2 μ (fun r μ' => Q (some (.inl r)) μ')) else False) else False
  | _ => False
def mo_plainHow_cd : List sl_Ent := [(0, .aload_n 0, 1, 0, [0], [], false), (1, .getfield 13, 3, 0, [12, 1, 2, 20, 2], [], false), (4, .iload_n 1, 1, 0, [1], [], false), (5, .iaload, 1, 0, [], [], false), (6, .aload_n 0, 1, 0, [0], [], false), (7, .getfield 7, 3, 0, [12, 0, 2, 20, 1], [], false), (10, .iload_n 2, 1, 0, [2], [], false), (11, .iaload, 1, 0, [], [], false), (12, .if_icmp .ge 26, 3, 0, [38], [], false), (15, .aload_n 0, 1, 0, [0], [], false), (16, .getfield 13, 3, 0, [12, 1, 2, 20, 2], [], false), (19, .iload_n 1, 1, 0, [1], [], false), (20, .iaload, 1, 0, [], [], false), (21, .iconst 1, 1, 1, [], [], false), (22, .iadd, 1, 0, [], [], false), (23, .aload_n 0, 1, 0, [0], [], false), (24, .getfield 7, 3, 0, [12, 0, 2, 20, 1], [], false), (27, .iload_n 2, 1, 0, [2], [], false), (28, .iaload, 1, 0, [], [], false), (29, .if_icmp .ge 7, 3, 0, [36], [], false), (32, .iconst 0, 1, 0, [], [], false), (33, .goto 4, 3, 0, [37], [], false), (36, .iconst 1, 1, 1, [], [], false), (37, .ireturn, 1, 0, [], [], false), (38, .aload_n 0, 1, 0, [0], [], false), (39, .iload_n 1, 1, 0, [1], [], false), (40, .iload_n 2, 1, 0, [2], [], false), (41, .invokevirtual 187, 3, 0, [0], [], false), (44, .ifCond .eq 18, 3, 0, [62], [], false), (47, .aload_n 0, 1, 0, [0], [], false), (48, .getfield 7, 3, 0, [12, 0, 2, 20, 1], [], false), (51, .iload_n 1, 1, 0, [1], [], false), (52, .iaload, 1, 0, [], [], false), (53, .aload_n 0, 1, 0, [0], [], false), (54, .getfield 7, 3, 0, [12, 0, 2, 20, 1], [], false), (57, .iload_n 2, 1, 0, [2], [], false), (58, .iaload, 1, 0, [], [], false), (59, .if_icmp .le 5, 3, 0, [64], [], false), (62, .iconst (-1), 1, (-1), [], [], false), (63, .ireturn, 1, 0, [], [], false), (64, .aload_n 0, 1, 0, [0], [], false), (65, .getfield 7, 3, 0, [12, 0, 2, 20, 1], [], false), (68, .iload_n 1, 1, 0, [1], [], false), (69, .iaload, 1, 0, [], [], false), (70, .aload_n 0, 1, 0, [0], [], false), (71, .getfield 7, 3, 0, [12, 0, 2, 20, 1], [], false), (74, .iload_n 2, 1, 0, [2], [], false), (75, .iaload, 1, 0, [], [], false), (76, .if_icmp .ge 43, 3, 0, [119], [], false), (79, .aload_n 0, 1, 0, [0], [], false), (80, .getfield 13, 3, 0, [12, 1, 2, 20, 2], [], false), (83, .iload_n 1, 1, 0, [1], [], false), (84, .iaload, 1, 0, [], [], false), (85, .aload_n 0, 1, 0, [0], [], false), (86, .getfield 13, 3, 0, [12, 1, 2, 20, 2], [], false), (89, .iload_n 2, 1, 0, [2], [], false), (90, .iaload, 1, 0, [], [], false), (91, .if_icmp .ge 7, 3, 0, [98], [], false), (94, .iconst 2, 1, 2, [], [], false), (95, .goto 23, 3, 0, [118], [], false), (98, .aload_n 0, 1, 0, [0], [], false), (99, .getfield 13, 3, 0, [12, 1, 2, 20, 2], [], false), (102, .iload_n 1, 1, 0, [1], [], false), (103, .iaload, 1, 0, [], [], false), (104, .aload_n 0, 1, 0, [0], [], false), (105, .getfield 13, 3, 0, [12, 1, 2, 20, 2], [], false), (108, .iload_n 2, 1, 0, [2], [], false), (109, .iaload, 1, 0, [], [], false), (110, .if_icmp .ne 7, 3, 0, [117], [], false), (113, .iconst 3, 1, 3, [], [], false), (114, .goto 4, 3, 0, [118], [], false), (117, .iconst 4, 1, 4, [], [], false), (118, .ireturn, 1, 0, [], [], false), (119, .aload_n 0, 1, 0, [0], [], false), (120, .getfield 13, 3, 0, [12, 1, 2, 20, 2], [], false), (123, .iload_n 1, 1, 0, [1], [], false), (124, .iaload, 1, 0, [], [], false), (125, .aload_n 0, 1, 0, [0], [], false), (126, .getfield 13, 3, 0, [12, 1, 2, 20, 2], [], false), (129, .iload_n 2, 1, 0, [2], [], false), (130, .iaload, 1, 0, [], [], false), (131, .if_icmp .ge 7, 3, 0, [138], [], false), (134, .iconst 5, 1, 5, [], [], false), (135, .goto 24, 3, 0, [159], [], false), (138, .aload_n 0, 1, 0, [0], [], false), (139, .getfield 13, 3, 0, [12, 1, 2, 20, 2], [], false), (142, .iload_n 1, 1, 0, [1], [], false), (143, .iaload, 1, 0, [], [], false), (144, .aload_n 0, 1, 0, [0], [], false), (145, .getfield 13, 3, 0, [12, 1, 2, 20, 2], [], false), (148, .iload_n 2, 1, 0, [2], [], false), (149, .iaload, 1, 0, [], [], false), (150, .if_icmp .ne 8, 3, 0, [158], [], false), (153, .bipush 6, 2, 6, [], [], false), (155, .goto 4, 3, 0, [159], [], false), (158, .iconst (-1), 1, (-1), [], [], false), (159, .ireturn, 1, 0, [], [], false)]
def mo_plainHow_y : MethodName := ⟨"SpanLayersModel", "plainHow", "(II)I"⟩
theorem mo_plainHow_tb : sl_tbOK sl_R12 prog_14_method_28_code 3 (some .int) lk_mo [(187, 0)] mo_plainHow_cd = true := by decide +kernel
def mo_plainHow_ct : List sl_Ct := [(3, 0, 12, mo_meets_pt)]
theorem mo_plainHow_hc (g : sl_G) : sl_HC g sl_R12 1 mo_plainHow_ct [(187, 0)] := sl_HC_cons (cs_mo_187 g (by decide)) (sl_HC_nil g sl_R12 1)
set_option maxRecDepth 20000 in
set_option maxHeartbeats 2000000 in
theorem mo_plainHow_snd (g : sl_G) : sl_Snd g mo_plainHow_y prog_14_method_28_code 3 (some .int) 1 (mo_plainHow_pt) := by
  intro As μ Q hw h
  unfold mo_plainHow_pt at h
  split at h
  next c0 a0 a1 a2 =>
    split at h
    next e_ =>
      subst e_
      split at h
      next e_ =>
        subst e_
        refine sl_mk2 g [true, true, true] (cst := [some (.inr (.inr (some (12, 104)))), some (.inl a1), some (.inl a2)]) (lv0 := [none, none, none]) (by decide) rfl hw rfl rfl rfl lk_mo_ok (mo_plainHow_hc g) mo_plainHow_tb rfl ?_
        intro X M
        exact ⟨_, sl_VV0, h⟩
      next => exact h.elim
    next => exact h.elim
  next => exact h.elim
def mo_howOf (a1 : Int32) (a2 : Int32) (μ : sl_M) (Q : Int32 → sl_M → Prop) : Prop := mo_plainHow a1 a2 μ (fun r2 m1 => (r2 < (0 : Int32) → mo_plainHow a2 a1 m1 (fun r4 m3 => Q ((12 : Int32) - r4) m3)) ∧ (¬ r2 < (0 : Int32) → mo_plainHow a1 a2 m1 (fun r6 m5 => Q r6 m5)))
def mo_howOf_pt : sl_PT := fun As μ Q => match As with
  | [.inr (.inr (some (c0, a0))), .inl a1, .inl a2] => if c0 = 12 then (if a0 = 104 then (mo_howOf a1 a2 μ (fun r μ' => Q (some (.inl r)) μ')) else False) else False
  | _ => False
def mo_howOf_cd : List sl_Ent := [(0, .aload_n 0, 1, 0, [0], [], false), (1, .iload_n 1, 1, 0, [1], [], false), (2, .iload_n 2, 1, 0, [2], [], false), (3, .invokevirtual 195, 3, 0, [0], [], false), (6, .ifCond .lt 12, 3, 0, [18], [], false), (9, .aload_n 0, 1, 0, [0], [], false), (10, .iload_n 1, 1, 0, [1], [], false), (11, .iload_n 2, 1, 0, [2], [], false), (12, .invokevirtual 195, 3, 0, [0], [], false), (15, .goto 12, 3, 0, [27], [], false), (18, .bipush 12, 2, 12, [], [], false), (20, .aload_n 0, 1, 0, [0], [], false), (21, .iload_n 2, 1, 0, [2], [], false), (22, .iload_n 1, 1, 0, [1], [], false), (23, .invokevirtual 195, 3, 0, [0], [], false), (26, .isub, 1, 0, [], [], false), (27, .ireturn, 1, 0, [], [], false)]
def mo_howOf_y : MethodName := ⟨"SpanLayersModel", "howOf", "(II)I"⟩
theorem mo_howOf_tb : sl_tbOK sl_R12 prog_14_method_29_code 3 (some .int) lk_mo [(195, 0)] mo_howOf_cd = true := by decide +kernel
theorem mo_plainHow_w2 : Cond.instanceMethod mo_plainHow_y ∈ sl_T0 := sl_in1 1245 (by decide +kernel) rfl
theorem mo_plainHow_w3 : Cond.selects mo_plainHow_y.cls mo_plainHow_y mo_plainHow_y ∈ sl_T0 := sl_in1 30 (by decide +kernel) rfl
theorem mo_plainHow_w4 : Cond.initialized mo_plainHow_y.cls ∈ sl_T0 := sl_in1 97 (by decide +kernel) rfl
theorem mo_plainHow_w5 : Cond.code mo_plainHow_y prog_14_method_28_code 3 (some .int) ∈ sl_T0 := sl_in1 1246 (by decide +kernel) rfl
theorem mo_plainHow_w6 : mo_plainHow_y.cls ≠ "java/lang/invoke/MethodHandle" ∧ mo_plainHow_y.cls ≠ "java/lang/invoke/VarHandle" ∧ (parseMethodDescriptor mo_plainHow_y.desc).map (fun d => d.parameters.length) = some 2 := by decide +kernel
theorem cs_mo_195 (g : sl_G) {hh : Nat} (h : 2 ≤ hh) : sl_CallS g sl_R12 195 0 12 hh 3 mo_plainHow_pt := sl_callV (y := mo_plainHow_y) (T := sl_F12) (N := 50) (mo_plainHow_snd g) h (by decide) (sl_in1 1243 (by decide +kernel) rfl) mo_plainHow_w2 mo_plainHow_w3 mo_plainHow_w4 mo_plainHow_w5 mo_plainHow_w6 rfl (by decide)
def mo_howOf_ct : List sl_Ct := [(3, 0, 12, mo_plainHow_pt)]
theorem mo_howOf_hc (g : sl_G) : sl_HC g sl_R12 2 mo_howOf_ct [(195, 0)] := sl_HC_cons (cs_mo_195 g (by decide)) (sl_HC_nil g sl_R12 2)
set_option maxRecDepth 20000 in
set_option maxHeartbeats 2000000 in
theorem mo_howOf_snd (g : sl_G) : sl_Snd g mo_howOf_y prog_14_method_29_code 3 (some .int) 2 (mo_howOf_pt) := by
  intro As μ Q hw h
  unfold mo_howOf_pt at h
  split at h
  next c0 a0 a1 a2 =>
    split at h
    next e_ =>
      subst e_
      split at h
      next e_ =>
        subst e_
        refine sl_mk2 g [true, true, true] (cst := [some (.inr (.inr (some (12, 104)))), some (.inl a1), some (.inl a2)]) (lv0 := [none, none, none]) (by decide) rfl hw rfl rfl rfl lk_mo_ok (mo_howOf_hc g) mo_howOf_tb rfl ?_
        intro X M
        exact ⟨_, sl_VV0, h⟩
      next => exact h.elim
    next => exact h.elim
  next => exact h.elim
def mo_how (a1 : Int32) (a2 : Int32) (μ : sl_M) (Q : Int32 → sl_M → Prop) : Prop := ∀ m1, m1 = sl_up μ 104 5 (0 : Int32) → mo_isSpan a1 m1 (fun r3 m2 => (r3 = (0 : Int32) → Q (-1 : Int32) m2) ∧ (¬ r3 = (0 : Int32) → mo_isSpan a2 m2 (fun r5 m4 => (r5 = (0 : Int32) → Q (-1 : Int32) m4) ∧ (¬ r5 = (0 : Int32) → (a1 = a2 → Q (-1 : Int32) m4) ∧ (¬ a1 = a2 → mo_isHere a1 m4 (fun r7 m6 => (r7 = (0 : Int32) → Q (-3 : Int32) m6) ∧ (¬ r7 = (0 : Int32) → mo_isHere a2 m6 (fun r9 m8 => (r9 = (0 : Int32) → Q (-3 : Int32) m8) ∧ (¬ r9 = (0 : Int32) → mo_howOf a1 a2 m8 (fun r11 m10 => Q r11 m10))))))))))
def mo_how_pt : sl_PT := fun As μ Q => match As with
  | [.inr (.inr (some (c0, a0))), .inl a1, .inl a2] => if c0 = 12 then (if a0 = 104 then (mo_how a1 a2 μ (fun r μ' => Q (some (.inl r)) μ')) else False) else False
  | _ => False
def mo_how_cd : List sl_Ent := [(0, .aload_n 0, 1, 0, [0], [], false), (1, .iconst 0, 1, 0, [], [], false), (2, .putfield 113, 3, 0, [12, 5, 0], [], false), (5, .iload_n 1, 1, 0, [1], [], false), (6, .invokestatic 123, 3, 0, [0], [], false), (9, .ifCond .eq 15, 3, 0, [24], [], false), (12, .iload_n 2, 1, 0, [2], [], false), (13, .invokestatic 123, 3, 0, [0], [], false), (16, .ifCond .eq 8, 3, 0, [24], [], false), (19, .iload_n 1, 1, 0, [1], [], false), (20, .iload_n 2, 1, 0, [2], [], false), (21, .if_icmp .ne 5, 3, 0, [26], [], false), (24, .iconst (-1), 1, (-1), [], [], false), (25, .ireturn, 1, 0, [], [], false), (26, .aload_n 0, 1, 0, [0], [], false), (27, .iload_n 1, 1, 0, [1], [], false), (28, .invokevirtual 181, 3, 0, [1], [], false), (31, .ifCond .eq 20, 3, 0, [51], [], false), (34, .aload_n 0, 1, 0, [0], [], false), (35, .iload_n 2, 1, 0, [2], [], false), (36, .invokevirtual 181, 3, 0, [1], [], false), (39, .ifCond .eq 12, 3, 0, [51], [], false), (42, .aload_n 0, 1, 0, [0], [], false), (43, .iload_n 1, 1, 0, [1], [], false), (44, .iload_n 2, 1, 0, [2], [], false), (45, .invokevirtual 198, 3, 0, [2], [], false), (48, .goto 5, 3, 0, [53], [], false), (51, .bipush (-3), 2, (-3), [], [], false), (53, .ireturn, 1, 0, [], [], false)]
def mo_how_y : MethodName := ⟨"SpanLayersModel", "how", "(II)I"⟩
theorem mo_how_tb : sl_tbOK sl_R12 prog_14_method_30_code 3 (some .int) lk_mo [(123, 1), (181, 0), (198, 0)] mo_how_cd = true := by decide +kernel
theorem mo_howOf_w2 : Cond.instanceMethod mo_howOf_y ∈ sl_T0 := sl_in1 1241 (by decide +kernel) rfl
theorem mo_howOf_w3 : Cond.selects mo_howOf_y.cls mo_howOf_y mo_howOf_y ∈ sl_T0 := sl_in1 29 (by decide +kernel) rfl
theorem mo_howOf_w4 : Cond.initialized mo_howOf_y.cls ∈ sl_T0 := sl_in1 97 (by decide +kernel) rfl
theorem mo_howOf_w5 : Cond.code mo_howOf_y prog_14_method_29_code 3 (some .int) ∈ sl_T0 := sl_in1 1242 (by decide +kernel) rfl
theorem mo_howOf_w6 : mo_howOf_y.cls ≠ "java/lang/invoke/MethodHandle" ∧ mo_howOf_y.cls ≠ "java/lang/invoke/VarHandle" ∧ (parseMethodDescriptor mo_howOf_y.desc).map (fun d => d.parameters.length) = some 2 := by decide +kernel
theorem cs_mo_198 (g : sl_G) {hh : Nat} (h : 3 ≤ hh) : sl_CallS g sl_R12 198 0 12 hh 3 mo_howOf_pt := sl_callV (y := mo_howOf_y) (T := sl_F12) (N := 50) (mo_howOf_snd g) h (by decide) (sl_in1 1239 (by decide +kernel) rfl) mo_howOf_w2 mo_howOf_w3 mo_howOf_w4 mo_howOf_w5 mo_howOf_w6 rfl (by decide)
def mo_how_ct : List sl_Ct := [(1, 1, 0, mo_isSpan_pt), (2, 0, 12, mo_isHere_pt), (3, 0, 12, mo_howOf_pt)]
theorem mo_how_hc (g : sl_G) : sl_HC g sl_R12 3 mo_how_ct [(123, 1), (181, 0), (198, 0)] := sl_HC_cons (cs_mo_123 g (by decide)) (sl_HC_cons (cs_mo_181 g (by decide)) (sl_HC_cons (cs_mo_198 g (by decide)) (sl_HC_nil g sl_R12 3)))
set_option maxRecDepth 20000 in
set_option maxHeartbeats 2000000 in
theorem mo_how_snd (g : sl_G) : sl_Snd g mo_how_y prog_14_method_30_code 3 (some .int) 3 (mo_how_pt) := by
  intro As μ Q hw h
  unfold mo_how_pt at h
  split at h
  next c0 a0 a1 a2 =>
    split at h
    next e_ =>
      subst e_
      split at h
      next e_ =>
        subst e_
        refine sl_mk2 g [true, true, true] (cst := [some (.inr (.inr (some (12, 104)))), some (.inl a1), some (.inl a2)]) (lv0 := [none, none, none]) (by decide) rfl hw rfl rfl rfl lk_mo_ok (mo_how_hc g) mo_how_tb rfl ?_
        intro X M
        exact ⟨_, sl_VV0, h⟩
      next => exact h.elim
    next => exact h.elim
  next => exact h.elim
def mo_metBits_L5 (a1 : Int32) (a2 : Int32) (Q : Int32 → sl_M → Prop) : Nat → Int32 → Int32 → sl_M → Prop
  | 0, _, _, _ => False
  | n + 1, x3, x4, μ => (x4 < (30 : Int32) → vp_in x4 30 ∧ ((μ 108 x4.toNatClampNeg) = (1 : Int32) → vp_in x4 30 ∧ ((μ 105 x4.toNatClampNeg) ≤ a2 → vp_in x4 30 ∧ ((μ 106 x4.toNatClampNeg) < a1 → ∀ v1, v1 = (x3 ||| (0 : Int32)) → (mo_metBits_L5 a1 a2 Q n) v1 (x4 + (1 : Int32)) μ) ∧ (¬ (μ 106 x4.toNatClampNeg) < a1 → ∀ v2, v2 = (x3 ||| ((1 : Int32) <<< (x4 &&& 31))) → (mo_metBits_L5 a1 a2 Q n) v2 (x4 + (1 : Int32)) μ)) ∧ (¬ (μ 105 x4.toNatClampNeg) ≤ a2 → ∀ v3, v3 = (x3 ||| (0 : Int32)) → (mo_metBits_L5 a1 a2 Q n) v3 (x4 + (1 : Int32)) μ)) ∧ (¬ (μ 108 x4.toNatClampNeg) = (1 : Int32) → ∀ v4, v4 = (x3 ||| (0 : Int32)) → (mo_metBits_L5 a1 a2 Q n) v4 (x4 + (1 : Int32)) μ)) ∧ (¬ x4 < (30 : Int32) → Q x3 μ)
def mo_metBits (a1 : Int32) (a2 : Int32) (μ : sl_M) (Q : Int32 → sl_M → Prop) : Prop := ∃ n5, mo_metBits_L5 a1 a2 Q n5 (0 : Int32) (0 : Int32) μ
def mo_metBits_pt : sl_PT := fun As μ Q => match As with
  | [.inr (.inr (some (c0, a0))), .inl a1, .inl a2] => if c0 = 12 then (if a0 = 104 then (mo_metBits a1 a2 μ (fun r μ' => Q (some (.inl r)) μ')) else False) else False
  | _ => False
def mo_metBits_cd : List sl_Ent := [(0, .iconst 0, 1, 0, [], [], false), (1, .istore_n 3, 1, 0, [3], [], false), (2, .iconst 0, 1, 0, [], [], false), (3, .istore 4, 2, 0, [4], [], false), (5, .iload 4, 2, 0, [4], [], true), (7, .bipush 30, 2, 30, [], [], false), (9, .if_icmp .ge 53, 3, 0, [62], [], false), (12, .iload_n 3, 1, 0, [3], [], false), (13, .aload_n 0, 1, 0, [0], [], false), (14, .getfield 19, 3, 0, [12, 3, 2, 20, 4], [], false), (17, .iload 4, 2, 0, [4], [], false), (19, .iaload, 1, 0, [], [], false), (20, .iconst 1, 1, 1, [], [], false), (21, .if_icmp .ne 32, 3, 0, [53], [], false), (24, .aload_n 0, 1, 0, [0], [], false), (25, .getfield 7, 3, 0, [12, 0, 2, 20, 1], [], false), (28, .iload 4, 2, 0, [4], [], false), (30, .iaload, 1, 0, [], [], false), (31, .iload_n 2, 1, 0, [2], [], false), (32, .if_icmp .gt 21, 3, 0, [53], [], false), (35, .aload_n 0, 1, 0, [0], [], false), (36, .getfield 13, 3, 0, [12, 1, 2, 20, 2], [], false), (39, .iload 4, 2, 0, [4], [], false), (41, .iaload, 1, 0, [], [], false), (42, .iload_n 1, 1, 0, [1], [], false), (43, .if_icmp .lt 10, 3, 0, [53], [], false), (46, .iconst 1, 1, 1, [], [], false), (47, .iload 4, 2, 0, [4], [], false), (49, .ishl, 1, 0, [], [], false), (50, .goto 4, 3, 0, [54], [], false), (53, .iconst 0, 1, 0, [], [], false), (54, .ior, 1, 0, [], [], false), (55, .istore_n 3, 1, 0, [3, 1], [], false), (56, .iinc 4 1, 3, 1, [], [], false), (59, .goto (-54), 3, 0, [5], [], false), (62, .iload_n 3, 1, 0, [3], [], false), (63, .ireturn, 1, 0, [], [], false)]
def mo_metBits_y : MethodName := ⟨"SpanLayersModel", "metBits", "(II)I"⟩
theorem mo_metBits_tb : sl_tbOK sl_R12 prog_14_method_32_code 5 (some .int) lk_mo [] mo_metBits_cd = true := by decide +kernel
def mo_metBits_ct : List sl_Ct := []
theorem mo_metBits_hc (g : sl_G) : sl_HC g sl_R12 0 mo_metBits_ct [] := sl_HC_nil g sl_R12 0
set_option maxRecDepth 20000 in
set_option maxHeartbeats 2000000 in
theorem mo_metBits_snd (g : sl_G) : sl_Snd g mo_metBits_y prog_14_method_32_code 5 (some .int) 0 (mo_metBits_pt) := by
  intro As μ Q hw h
  unfold mo_metBits_pt at h
  split at h
  next c0 a0 a1 a2 =>
    split at h
    next e_ =>
      subst e_
      split at h
      next e_ =>
        subst e_
        refine sl_mk2 g [true, true, true, false, false] (cst := [some (.inr (.inr (some (12, 104)))), some (.inl a1), some (.inl a2)]) (lv0 := [none, none, none, none, none]) (by decide) rfl hw rfl rfl rfl lk_mo_ok (mo_metBits_hc g) mo_metBits_tb rfl ?_
        intro X M
        have v5 := sl_extL M sl_VV0 5 (fun n lv st μ => match lv, st with | [_, _, _, some (.inl x3), some (.inl x4)], [] => mo_metBits_L5 a1 a2 (fun r μ' => Q (some (.inl r)) μ') n x3 x4 μ | _, _ => False) (by
            intro lv st μ h
            split at h
            · exact h
            · exact h) (by
            intro n5 w5
            refine ⟨_, w5, ?_⟩
            intro lv st μ h
            split at h
            · exact h
            · exact h.elim)
        exact ⟨_, v5, h⟩
      next => exact h.elim
    next => exact h.elim
  next => exact h.elim
def mo_stab (a1 : Int32) (μ : sl_M) (Q : Int32 → sl_M → Prop) : Prop := ∀ m1, m1 = sl_up μ 104 5 (0 : Int32) → mo_in a1.toInt64 ((0 : Int32).toInt64) ((999 : Int32).toInt64) m1 (fun r3 m2 => (r3 = (0 : Int32) → Q (-2 : Int32) m2) ∧ (¬ r3 = (0 : Int32) → mo_metBits a1 a1 m2 (fun r5 m4 => Q r5 m4)))
def mo_stab_pt : sl_PT := fun As μ Q => match As with
  | [.inr (.inr (some (c0, a0))), .inl a1] => if c0 = 12 then (if a0 = 104 then (mo_stab a1 μ (fun r μ' => Q (some (.inl r)) μ')) else False) else False
  | _ => False
def mo_stab_cd : List sl_Ent := [(0, .aload_n 0, 1, 0, [0], [], false), (1, .iconst 0, 1, 0, [], [], false), (2, .putfield 113, 3, 0, [12, 5, 0], [], false), (5, .iload_n 1, 1, 0, [1], [], false), (6, .i2l, 1, 0, [], [], false), (7, .lconst 0, 1, 0, [], [], false), (8, .ldc2_w 164, 3, 999, [], [], false), (11, .invokestatic 119, 3, 0, [0], [], false), (14, .ifCond .eq 12, 3, 0, [26], [], false), (17, .aload_n 0, 1, 0, [0], [], false), (18, .iload_n 1, 1, 0, [1], [], false), (19, .iload_n 1, 1, 0, [1], [], false), (20, .invokevirtual 201, 3, 0, [1], [], false), (23, .goto 5, 3, 0, [28], [], false), (26, .bipush (-2), 2, (-2), [], [], false), (28, .ireturn, 1, 0, [], [], false)]
def mo_stab_y : MethodName := ⟨"SpanLayersModel", "stab", "(I)I"⟩
theorem mo_stab_tb : sl_tbOK sl_R12 prog_14_method_31_code 2 (some .int) lk_mo [(119, 1), (201, 0)] mo_stab_cd = true := by decide +kernel
theorem mo_metBits_w2 : Cond.instanceMethod mo_metBits_y ∈ sl_T0 := sl_in1 1253 (by decide +kernel) rfl
theorem mo_metBits_w3 : Cond.selects mo_metBits_y.cls mo_metBits_y mo_metBits_y ∈ sl_T0 := sl_in1 31 (by decide +kernel) rfl
theorem mo_metBits_w4 : Cond.initialized mo_metBits_y.cls ∈ sl_T0 := sl_in1 97 (by decide +kernel) rfl
theorem mo_metBits_w5 : Cond.code mo_metBits_y prog_14_method_32_code 5 (some .int) ∈ sl_T0 := sl_in1 1254 (by decide +kernel) rfl
theorem mo_metBits_w6 : mo_metBits_y.cls ≠ "java/lang/invoke/MethodHandle" ∧ mo_metBits_y.cls ≠ "java/lang/invoke/VarHandle" ∧ (parseMethodDescriptor mo_metBits_y.desc).map (fun d => d.parameters.length) = some 2 := by decide +kernel
theorem cs_mo_201 (g : sl_G) {hh : Nat} (h : 1 ≤ hh) : sl_CallS g sl_R12 201 0 12 hh 3 mo_metBits_pt := sl_callV (y := mo_metBits_y) (T := sl_F12) (N := 50) (mo_metBits_snd g) h (by decide) (sl_in1 1251 (by decide +kernel) rfl) mo_metBits_w2 mo_metBits_w3 mo_metBits_w4 mo_metBits_w5 mo_metBits_w6 rfl (by decide)
def mo_stab_ct : List sl_Ct := [(3, 1, 0, mo_in_pt), (3, 0, 12, mo_metBits_pt)]
theorem mo_stab_hc (g : sl_G) : sl_HC g sl_R12 1 mo_stab_ct [(119, 1), (201, 0)] := sl_HC_cons (cs_mo_119 g (by decide)) (sl_HC_cons (cs_mo_201 g (by decide)) (sl_HC_nil g sl_R12 1))
set_option maxRecDepth 20000 in
set_option maxHeartbeats 2000000 in
theorem mo_stab_snd (g : sl_G) : sl_Snd g mo_stab_y prog_14_method_31_code 2 (some .int) 1 (mo_stab_pt) := by
  intro As μ Q hw h
  unfold mo_stab_pt at h
  split at h
  next c0 a0 a1 =>
    split at h
    next e_ =>
      subst e_
      split at h
      next e_ =>
        subst e_
        refine sl_mk2 g [true, true] (cst := [some (.inr (.inr (some (12, 104)))), some (.inl a1)]) (lv0 := [none, none]) (by decide) rfl hw rfl rfl rfl lk_mo_ok (mo_stab_hc g) mo_stab_tb rfl ?_
        intro X M
        exact ⟨_, sl_VV0, h⟩
      next => exact h.elim
    next => exact h.elim
  next => exact h.elim
def mo_stabbed_L42 (a1 : Int32) (a2 : Int32) (a3 : Int32) (Q : Int32 → sl_M → Prop) : Nat → Int32 → Int32 → sl_M → Prop
  | 0, _, _, _ => False
  | n + 1, x4, x5, μ => mo_manyIn μ (fun r2 m1 => (x5 < r2 → vp_in x5 30 ∧ ∀ v3, v3 = (m1 110 x5.toNatClampNeg) → mo_has v3 a1 m1 (fun r5 m4 => (r5 = (0 : Int32) → (mo_stabbed_L42 a1 a2 a3 Q n) x4 (x5 + (1 : Int32)) m4) ∧ (¬ r5 = (0 : Int32) → (a2 = (-1 : Int32) → (x4 = (0 : Int32) → Q v3 m4) ∧ (¬ x4 = (0 : Int32) → (mo_stabbed_L42 a1 a2 a3 Q n) (x4 + (-1 : Int32)) (x5 + (1 : Int32)) m4)) ∧ (¬ a2 = (-1 : Int32) → vp_in v3 30 ∧ ((m4 109 v3.toNatClampNeg) = a2 → (x4 = (0 : Int32) → Q v3 m4) ∧ (¬ x4 = (0 : Int32) → (mo_stabbed_L42 a1 a2 a3 Q n) (x4 + (-1 : Int32)) (x5 + (1 : Int32)) m4)) ∧ (¬ (m4 109 v3.toNatClampNeg) = a2 → (mo_stabbed_L42 a1 a2 a3 Q n) x4 (x5 + (1 : Int32)) m4))))) ∧ (¬ x5 < r2 → Q (-5 : Int32) m1))
def mo_stabbed (a1 : Int32) (a2 : Int32) (a3 : Int32) (μ : sl_M) (Q : Int32 → sl_M → Prop) : Prop := ∀ m6, m6 = sl_up μ 104 5 (0 : Int32) → mo_in a1.toInt64 ((0 : Int32).toInt64) ((999 : Int32).toInt64) m6 (fun r8 m7 => (r8 = (0 : Int32) → Q (-2 : Int32) m7) ∧ (¬ r8 = (0 : Int32) → (a2 < (-1 : Int32) → Q (-1 : Int32) m7) ∧ (¬ a2 < (-1 : Int32) → (a3 < (0 : Int32) → Q (-1 : Int32) m7) ∧ (¬ a3 < (0 : Int32) → mo_layOrder (0 : Int32) m7 (fun m9 => ∃ n10, mo_stabbed_L42 a1 a2 a3 Q n10 a3 (0 : Int32) m9)))))
def mo_stabbed_pt : sl_PT := fun As μ Q => match As with
  | [.inr (.inr (some (c0, a0))), .inl a1, .inl a2, .inl a3] => if c0 = 12 then (if a0 = 104 then (mo_stabbed a1 a2 a3 μ (fun r μ' => Q (some (.inl r)) μ')) else False) else False
  | _ => False
def mo_stabbed_cd : List sl_Ent := [(0, .aload_n 0, 1, 0, [0], [], false), (1, .iconst 0, 1, 0, [], [], false), (2, .putfield 113, 3, 0, [12, 5, 0], [], false), (5, .iload_n 1, 1, 0, [1], [], false), (6, .i2l, 1, 0, [], [], false), (7, .lconst 0, 1, 0, [], [], false), (8, .ldc2_w 164, 3, 999, [], [], false), (11, .invokestatic 119, 3, 0, [0], [], false), (14, .ifCond .ne 6, 3, 0, [20], [], false), (17, .bipush (-2), 2, (-2), [], [], false), (19, .ireturn, 1, 0, [], [], false), (20, .iload_n 2, 1, 0, [2], [], false), (21, .iconst (-1), 1, (-1), [], [], false), (22, .if_icmp .lt 7, 3, 0, [29], [], false), (25, .iload_n 3, 1, 0, [3], [], false), (26, .ifCond .ge 5, 3, 0, [31], [], false), (29, .iconst (-1), 1, (-1), [], [], false), (30, .ireturn, 1, 0, [], [], false), (31, .aload_n 0, 1, 0, [0], [], false), (32, .iconst 0, 1, 0, [], [], false), (33, .invokevirtual 204, 3, 0, [1], [], false), (36, .iload_n 3, 1, 0, [3], [], false), (37, .istore 4, 2, 0, [4], [], false), (39, .iconst 0, 1, 0, [], [], false), (40, .istore 5, 2, 0, [5], [], false), (42, .iload 5, 2, 0, [5], [], true), (44, .aload_n 0, 1, 0, [0], [], false), (45, .invokevirtual 184, 3, 0, [2], [], false), (48, .if_icmp .ge 55, 3, 0, [103], [], false), (51, .aload_n 0, 1, 0, [0], [], false), (52, .getfield 25, 3, 0, [12, 6, 2, 20, 6], [], false), (55, .iload 5, 2, 0, [5], [], false), (57, .iaload, 1, 0, [], [], false), (58, .istore 6, 2, 0, [6, 1], [], false), (60, .aload_n 0, 1, 0, [0], [], false), (61, .iload 6, 2, 0, [6], [], false), (63, .iload_n 1, 1, 0, [1], [], false), (64, .invokevirtual 208, 3, 0, [3], [], false), (67, .ifCond .eq 30, 3, 0, [97], [], false), (70, .iload_n 2, 1, 0, [2], [], false), (71, .iconst (-1), 1, (-1), [], [], false), (72, .if_icmp .eq 14, 3, 0, [86], [], false), (75, .aload_n 0, 1, 0, [0], [], false), (76, .getfield 22, 3, 0, [12, 4, 2, 20, 5], [], false), (79, .iload 6, 2, 0, [6], [], false), (81, .iaload, 1, 0, [], [], false), (82, .iload_n 2, 1, 0, [2], [], false), (83, .if_icmp .ne 14, 3, 0, [97], [], false), (86, .iload 4, 2, 0, [4], [], false), (88, .ifCond .ne 6, 3, 0, [94], [], false), (91, .iload 6, 2, 0, [6], [], false), (93, .ireturn, 1, 0, [], [], false), (94, .iinc 4 (-1), 3, (-1), [], [], false), (97, .iinc 5 1, 3, 1, [], [], false), (100, .goto (-58), 3, 0, [42], [], false), (103, .bipush (-5), 2, (-5), [], [], false), (105, .ireturn, 1, 0, [], [], false)]
def mo_stabbed_y : MethodName := ⟨"SpanLayersModel", "stabbed", "(III)I"⟩
theorem mo_stabbed_tb : sl_tbOK sl_R12 prog_14_method_33_code 7 (some .int) lk_mo [(119, 1), (204, 0), (184, 0), (208, 0)] mo_stabbed_cd = true := by decide +kernel
theorem mo_layOrder_w2 : Cond.instanceMethod mo_layOrder_y ∈ sl_T0 := sl_in1 1261 (by decide +kernel) rfl
theorem mo_layOrder_w3 : Cond.selects mo_layOrder_y.cls mo_layOrder_y mo_layOrder_y ∈ sl_T0 := sl_in1 32 (by decide +kernel) rfl
theorem mo_layOrder_w4 : Cond.initialized mo_layOrder_y.cls ∈ sl_T0 := sl_in1 97 (by decide +kernel) rfl
theorem mo_layOrder_w5 : Cond.code mo_layOrder_y prog_14_method_19_code 3 none ∈ sl_T0 := sl_in1 1262 (by decide +kernel) rfl
theorem mo_layOrder_w6 : mo_layOrder_y.cls ≠ "java/lang/invoke/MethodHandle" ∧ mo_layOrder_y.cls ≠ "java/lang/invoke/VarHandle" ∧ (parseMethodDescriptor mo_layOrder_y.desc).map (fun d => d.parameters.length) = some 1 := by decide +kernel
theorem cs_mo_204 (g : sl_G) {hh : Nat} (h : 5 ≤ hh) : sl_CallS g sl_R12 204 0 12 hh 2 mo_layOrder_pt := sl_callV (y := mo_layOrder_y) (T := sl_F12) (N := 50) (mo_layOrder_snd g) h (by decide) (sl_in1 1259 (by decide +kernel) rfl) mo_layOrder_w2 mo_layOrder_w3 mo_layOrder_w4 mo_layOrder_w5 mo_layOrder_w6 rfl (by decide)
theorem mo_has_w2 : Cond.instanceMethod mo_has_y ∈ sl_T0 := sl_in1 1290 (by decide +kernel) rfl
theorem mo_has_w3 : Cond.selects mo_has_y.cls mo_has_y mo_has_y ∈ sl_T0 := sl_in1 37 (by decide +kernel) rfl
theorem mo_has_w4 : Cond.initialized mo_has_y.cls ∈ sl_T0 := sl_in1 97 (by decide +kernel) rfl
theorem mo_has_w5 : Cond.code mo_has_y prog_14_method_8_code 3 (some .boolean) ∈ sl_T0 := sl_in1 1291 (by decide +kernel) rfl
theorem mo_has_w6 : mo_has_y.cls ≠ "java/lang/invoke/MethodHandle" ∧ mo_has_y.cls ≠ "java/lang/invoke/VarHandle" ∧ (parseMethodDescriptor mo_has_y.desc).map (fun d => d.parameters.length) = some 2 := by decide +kernel
theorem cs_mo_208 (g : sl_G) {hh : Nat} (h : 2 ≤ hh) : sl_CallS g sl_R12 208 0 12 hh 3 mo_has_pt := sl_callV (y := mo_has_y) (T := sl_F12) (N := 50) (mo_has_snd g) h (by decide) (sl_in1 1288 (by decide +kernel) rfl) mo_has_w2 mo_has_w3 mo_has_w4 mo_has_w5 mo_has_w6 rfl (by decide)
def mo_stabbed_ct : List sl_Ct := [(3, 1, 0, mo_in_pt), (2, 0, 12, mo_layOrder_pt), (1, 0, 12, mo_manyIn_pt), (3, 0, 12, mo_has_pt)]
theorem mo_stabbed_hc (g : sl_G) : sl_HC g sl_R12 5 mo_stabbed_ct [(119, 1), (204, 0), (184, 0), (208, 0)] := sl_HC_cons (cs_mo_119 g (by decide)) (sl_HC_cons (cs_mo_204 g (by decide)) (sl_HC_cons (cs_mo_184 g (by decide)) (sl_HC_cons (cs_mo_208 g (by decide)) (sl_HC_nil g sl_R12 5))))
set_option maxRecDepth 20000 in
set_option maxHeartbeats 2000000 in
theorem mo_stabbed_snd (g : sl_G) : sl_Snd g mo_stabbed_y prog_14_method_33_code 7 (some .int) 5 (mo_stabbed_pt) := by
  intro As μ Q hw h
  unfold mo_stabbed_pt at h
  split at h
  next c0 a0 a1 a2 a3 =>
    split at h
    next e_ =>
      subst e_
      split at h
      next e_ =>
        subst e_
        refine sl_mk2 g [true, true, true, true, false, false, false] (cst := [some (.inr (.inr (some (12, 104)))), some (.inl a1), some (.inl a2), some (.inl a3)]) (lv0 := [none, none, none, none, none, none, none]) (by decide) rfl hw rfl rfl rfl lk_mo_ok (mo_stabbed_hc g) mo_stabbed_tb rfl ?_
        intro X M
        have v42 := sl_extL M sl_VV0 42 (fun n lv st μ => match lv, st with | [_, _, _, _, some (.inl x4), some (.inl x5), _], [] => mo_stabbed_L42 a1 a2 a3 (fun r μ' => Q (some (.inl r)) μ') n x4 x5 μ | _, _ => False) (by
            intro lv st μ h
            split at h
            · exact h
            · exact h) (by
            intro n42 w42
            refine ⟨_, w42, ?_⟩
            intro lv st μ h
            split at h
            · exact h
            · exact h.elim)
        exact ⟨_, v42, h⟩
      next => exact h.elim
    next => exact h.elim
  next => exact h.elim
def mo_meet (a1 : Int32) (a2 : Int32) (μ : sl_M) (Q : Int32 → sl_M → Prop) : Prop := ∀ m1, m1 = sl_up μ 104 5 (0 : Int32) → mo_isBad a1 a2 (0 : Int32) m1 (fun r3 m2 => (r3 = (0 : Int32) → mo_metBits a1 a2 m2 (fun r5 m4 => Q r5 m4)) ∧ (¬ r3 = (0 : Int32) → Q (-2 : Int32) m2))
def mo_meet_pt : sl_PT := fun As μ Q => match As with
  | [.inr (.inr (some (c0, a0))), .inl a1, .inl a2] => if c0 = 12 then (if a0 = 104 then (mo_meet a1 a2 μ (fun r μ' => Q (some (.inl r)) μ')) else False) else False
  | _ => False
def mo_meet_cd : List sl_Ent := [(0, .aload_n 0, 1, 0, [0], [], false), (1, .iconst 0, 1, 0, [], [], false), (2, .putfield 113, 3, 0, [12, 5, 0], [], false), (5, .iload_n 1, 1, 0, [1], [], false), (6, .iload_n 2, 1, 0, [2], [], false), (7, .iconst 0, 1, 0, [], [], false), (8, .invokestatic 170, 3, 0, [0], [], false), (11, .ifCond .eq 8, 3, 0, [19], [], false), (14, .bipush (-2), 2, (-2), [], [], false), (16, .goto 9, 3, 0, [25], [], false), (19, .aload_n 0, 1, 0, [0], [], false), (20, .iload_n 1, 1, 0, [1], [], false), (21, .iload_n 2, 1, 0, [2], [], false), (22, .invokevirtual 201, 3, 0, [1], [], false), (25, .ireturn, 1, 0, [], [], false)]
def mo_meet_y : MethodName := ⟨"SpanLayersModel", "meet", "(II)I"⟩
theorem mo_meet_tb : sl_tbOK sl_R12 prog_14_method_34_code 3 (some .int) lk_mo [(170, 1), (201, 0)] mo_meet_cd = true := by decide +kernel
def mo_meet_ct : List sl_Ct := [(3, 1, 0, mo_isBad_pt), (3, 0, 12, mo_metBits_pt)]
theorem mo_meet_hc (g : sl_G) : sl_HC g sl_R12 2 mo_meet_ct [(170, 1), (201, 0)] := sl_HC_cons (cs_mo_170 g (by decide)) (sl_HC_cons (cs_mo_201 g (by decide)) (sl_HC_nil g sl_R12 2))
set_option maxRecDepth 20000 in
set_option maxHeartbeats 2000000 in
theorem mo_meet_snd (g : sl_G) : sl_Snd g mo_meet_y prog_14_method_34_code 3 (some .int) 2 (mo_meet_pt) := by
  intro As μ Q hw h
  unfold mo_meet_pt at h
  split at h
  next c0 a0 a1 a2 =>
    split at h
    next e_ =>
      subst e_
      split at h
      next e_ =>
        subst e_
        refine sl_mk2 g [true, true, true] (cst := [some (.inr (.inr (some (12, 104)))), some (.inl a1), some (.inl a2)]) (lv0 := [none, none, none]) (by decide) rfl hw rfl rfl rfl lk_mo_ok (mo_meet_hc g) mo_meet_tb rfl ?_
        intro X M
        exact ⟨_, sl_VV0, h⟩
      next => exact h.elim
    next => exact h.elim
  next => exact h.elim
def mo_isPair (a1 : Int32) (a2 : Int32) (a3 : Int32) (μ : sl_M) (Q : Int32 → sl_M → Prop) : Prop := (a3 = (0 : Int32) → mo_meets a1 a2 μ (fun r2 m1 => sl_bz r2 = r2 ∧ Q r2 m1)) ∧ (¬ a3 = (0 : Int32) → (a3 = (1 : Int32) → mo_covers a1 a2 μ (fun r4 m3 => (r4 = (0 : Int32) → mo_covers a2 a1 m3 (fun r6 m5 => (r6 = (0 : Int32) → sl_bz (0 : Int32) = (0 : Int32) ∧ Q (0 : Int32) m5) ∧ (¬ r6 = (0 : Int32) → sl_bz (1 : Int32) = (1 : Int32) ∧ Q (1 : Int32) m5))) ∧ (¬ r4 = (0 : Int32) → sl_bz (1 : Int32) = (1 : Int32) ∧ Q (1 : Int32) m3))) ∧ (¬ a3 = (1 : Int32) → (a3 = (2 : Int32) → mo_meets a1 a2 μ (fun r8 m7 => (r8 = (0 : Int32) → sl_bz (1 : Int32) = (1 : Int32) ∧ Q (1 : Int32) m7) ∧ (¬ r8 = (0 : Int32) → sl_bz (0 : Int32) = (0 : Int32) ∧ Q (0 : Int32) m7))) ∧ (¬ a3 = (2 : Int32) → mo_howOf a1 a2 μ (fun r10 m9 => (r10 = (1 : Int32) → sl_bz (1 : Int32) = (1 : Int32) ∧ Q (1 : Int32) m9) ∧ (¬ r10 = (1 : Int32) → mo_howOf a1 a2 m9 (fun r12 m11 => (r12 = (11 : Int32) → sl_bz (1 : Int32) = (1 : Int32) ∧ Q (1 : Int32) m11) ∧ (¬ r12 = (11 : Int32) → sl_bz (0 : Int32) = (0 : Int32) ∧ Q (0 : Int32) m11)))))))
def mo_isPair_pt : sl_PT := fun As μ Q => match As with
  | [.inr (.inr (some (c0, a0))), .inl a1, .inl a2, .inl a3] => if c0 = 12 then (if a0 = 104 then (mo_isPair a1 a2 a3 μ (fun r μ' => Q (some (.inl r)) μ')) else False) else False
  | _ => False
def mo_isPair_cd : List sl_Ent := [(0, .iload_n 3, 1, 0, [3], [], false), (1, .tableswitch 73 0 2 #[27, 34, 58], 27, 0, [74], [(0, 28), (1, 35), (2, 59)], false), (28, .aload_n 0, 1, 0, [0], [], false), (29, .iload_n 1, 1, 0, [1], [], false), (30, .iload_n 2, 1, 0, [2], [], false), (31, .invokevirtual 187, 3, 0, [0], [], false), (34, .ireturn, 1, 0, [1], [], false), (35, .aload_n 0, 1, 0, [0], [], false), (36, .iload_n 1, 1, 0, [1], [], false), (37, .iload_n 2, 1, 0, [2], [], false), (38, .invokevirtual 131, 3, 0, [1], [], false), (41, .ifCond .ne 12, 3, 0, [53], [], false), (44, .aload_n 0, 1, 0, [0], [], false), (45, .iload_n 2, 1, 0, [2], [], false), (46, .iload_n 1, 1, 0, [1], [], false), (47, .invokevirtual 131, 3, 0, [1], [], false), (50, .ifCond .eq 7, 3, 0, [57], [], false), (53, .iconst 1, 1, 1, [], [], false), (54, .goto 4, 3, 0, [58], [], false), (57, .iconst 0, 1, 0, [], [], false), (58, .ireturn, 1, 0, [1], [], false), (59, .aload_n 0, 1, 0, [0], [], false), (60, .iload_n 1, 1, 0, [1], [], false), (61, .iload_n 2, 1, 0, [2], [], false), (62, .invokevirtual 187, 3, 0, [0], [], false), (65, .ifCond .ne 7, 3, 0, [72], [], false), (68, .iconst 1, 1, 1, [], [], false), (69, .goto 4, 3, 0, [73], [], false), (72, .iconst 0, 1, 0, [], [], false), (73, .ireturn, 1, 0, [1], [], false), (74, .aload_n 0, 1, 0, [0], [], false), (75, .iload_n 1, 1, 0, [1], [], false), (76, .iload_n 2, 1, 0, [2], [], false), (77, .invokevirtual 198, 3, 0, [2], [], false), (80, .iconst 1, 1, 1, [], [], false), (81, .if_icmp .eq 14, 3, 0, [95], [], false), (84, .aload_n 0, 1, 0, [0], [], false), (85, .iload_n 1, 1, 0, [1], [], false), (86, .iload_n 2, 1, 0, [2], [], false), (87, .invokevirtual 198, 3, 0, [2], [], false), (90, .bipush 11, 2, 11, [], [], false), (92, .if_icmp .ne 7, 3, 0, [99], [], false), (95, .iconst 1, 1, 1, [], [], false), (96, .goto 4, 3, 0, [100], [], false), (99, .iconst 0, 1, 0, [], [], false), (100, .ireturn, 1, 0, [1], [], false)]
def mo_isPair_y : MethodName := ⟨"SpanLayersModel", "isPair", "(III)Z"⟩
theorem mo_isPair_tb : sl_tbOK sl_R12 prog_14_method_35_code 4 (some .boolean) lk_mo [(187, 0), (131, 0), (198, 0)] mo_isPair_cd = true := by decide +kernel
def mo_isPair_ct : List sl_Ct := [(3, 0, 12, mo_meets_pt), (3, 0, 12, mo_covers_pt), (3, 0, 12, mo_howOf_pt)]
theorem mo_isPair_hc (g : sl_G) : sl_HC g sl_R12 3 mo_isPair_ct [(187, 0), (131, 0), (198, 0)] := sl_HC_cons (cs_mo_187 g (by decide)) (sl_HC_cons (cs_mo_131 g (by decide)) (sl_HC_cons (cs_mo_198 g (by decide)) (sl_HC_nil g sl_R12 3)))
set_option maxRecDepth 20000 in
set_option maxHeartbeats 2000000 in
theorem mo_isPair_snd (g : sl_G) : sl_Snd g mo_isPair_y prog_14_method_35_code 4 (some .boolean) 3 (mo_isPair_pt) := by
  intro As μ Q hw h
  unfold mo_isPair_pt at h
  split at h
  next c0 a0 a1 a2 a3 =>
    split at h
    next e_ =>
      subst e_
      split at h
      next e_ =>
        subst e_
        refine sl_mk2 g [true, true, true, true] (cst := [some (.inr (.inr (some (12, 104)))), some (.inl a1), some (.inl a2), some (.inl a3)]) (lv0 := [none, none, none, none]) (by decide) rfl hw rfl rfl rfl lk_mo_ok (mo_isPair_hc g) mo_isPair_tb rfl ?_
        intro X M
        exact ⟨_, sl_VV0, h⟩
      next => exact h.elim
    next => exact h.elim
  next => exact h.elim
def mo_pairs_L32 (a1 : Int32) (Q : Int32 → sl_M → Prop) (k23 : Int32 → Int32 → sl_M → Prop) : Nat → Int32 → Int32 → Int32 → sl_M → Prop
  | 0, _, _, _, _ => False
  | n + 1, x2, x3, x4, μ => (x4 < x3 → vp_in x3 30 ∧ ((μ 108 x3.toNatClampNeg) = (1 : Int32) → vp_in x4 30 ∧ ((μ 108 x4.toNatClampNeg) = (1 : Int32) → mo_isPair x3 x4 a1 μ (fun r3 m2 => (r3 = (0 : Int32) → ∀ v4, v4 = (x2 + (0 : Int32)) → (mo_pairs_L32 a1 Q k23 n) v4 x3 (x4 + (1 : Int32)) m2) ∧ (¬ r3 = (0 : Int32) → ∀ v5, v5 = (x2 + (1 : Int32)) → (mo_pairs_L32 a1 Q k23 n) v5 x3 (x4 + (1 : Int32)) m2))) ∧ (¬ (μ 108 x4.toNatClampNeg) = (1 : Int32) → ∀ v6, v6 = (x2 + (0 : Int32)) → (mo_pairs_L32 a1 Q k23 n) v6 x3 (x4 + (1 : Int32)) μ)) ∧ (¬ (μ 108 x3.toNatClampNeg) = (1 : Int32) → ∀ v7, v7 = (x2 + (0 : Int32)) → (mo_pairs_L32 a1 Q k23 n) v7 x3 (x4 + (1 : Int32)) μ)) ∧ (¬ x4 < x3 → k23 x2 (x3 + (1 : Int32)) μ)
def mo_pairs_L23 (a1 : Int32) (Q : Int32 → sl_M → Prop) : Nat → Int32 → Int32 → sl_M → Prop
  | 0, _, _, _ => False
  | n + 1, x2, x3, μ => (x3 < (30 : Int32) → ∃ n1, mo_pairs_L32 a1 Q (mo_pairs_L23 a1 Q n) n1 x2 x3 (0 : Int32) μ) ∧ (¬ x3 < (30 : Int32) → Q x2 μ)
def mo_pairs (a1 : Int32) (μ : sl_M) (Q : Int32 → sl_M → Prop) : Prop := ∀ m8, m8 = sl_up μ 104 5 (0 : Int32) → mo_in a1.toInt64 ((0 : Int32).toInt64) ((3 : Int32).toInt64) m8 (fun r10 m9 => (r10 = (0 : Int32) → Q (-1 : Int32) m9) ∧ (¬ r10 = (0 : Int32) → ∃ n11, mo_pairs_L23 a1 Q n11 (0 : Int32) (0 : Int32) m9))
def mo_pairs_pt : sl_PT := fun As μ Q => match As with
  | [.inr (.inr (some (c0, a0))), .inl a1] => if c0 = 12 then (if a0 = 104 then (mo_pairs a1 μ (fun r μ' => Q (some (.inl r)) μ')) else False) else False
  | _ => False
def mo_pairs_cd : List sl_Ent := [(0, .aload_n 0, 1, 0, [0], [], false), (1, .iconst 0, 1, 0, [], [], false), (2, .putfield 113, 3, 0, [12, 5, 0], [], false), (5, .iload_n 1, 1, 0, [1], [], false), (6, .i2l, 1, 0, [], [], false), (7, .lconst 0, 1, 0, [], [], false), (8, .ldc2_w 211, 3, 3, [], [], false), (11, .invokestatic 119, 3, 0, [0], [], false), (14, .ifCond .ne 5, 3, 0, [19], [], false), (17, .iconst (-1), 1, (-1), [], [], false), (18, .ireturn, 1, 0, [], [], false), (19, .iconst 0, 1, 0, [], [], false), (20, .istore_n 2, 1, 0, [2], [], false), (21, .iconst 0, 1, 0, [], [], false), (22, .istore_n 3, 1, 0, [3], [], false), (23, .iload_n 3, 1, 0, [3], [], true), (24, .bipush 30, 2, 30, [], [], false), (26, .if_icmp .ge 64, 3, 0, [90], [], false), (29, .iconst 0, 1, 0, [], [], false), (30, .istore 4, 2, 0, [4], [], false), (32, .iload 4, 2, 0, [4], [], true), (34, .iload_n 3, 1, 0, [3], [], false), (35, .if_icmp .ge 49, 3, 0, [84], [], false), (38, .iload_n 2, 1, 0, [2], [], false), (39, .aload_n 0, 1, 0, [0], [], false), (40, .getfield 19, 3, 0, [12, 3, 2, 20, 4], [], false), (43, .iload_n 3, 1, 0, [3], [], false), (44, .iaload, 1, 0, [], [], false), (45, .iconst 1, 1, 1, [], [], false), (46, .if_icmp .ne 29, 3, 0, [75], [], false), (49, .aload_n 0, 1, 0, [0], [], false), (50, .getfield 19, 3, 0, [12, 3, 2, 20, 4], [], false), (53, .iload 4, 2, 0, [4], [], false), (55, .iaload, 1, 0, [], [], false), (56, .iconst 1, 1, 1, [], [], false), (57, .if_icmp .ne 18, 3, 0, [75], [], false), (60, .aload_n 0, 1, 0, [0], [], false), (61, .iload_n 3, 1, 0, [3], [], false), (62, .iload 4, 2, 0, [4], [], false), (64, .iload_n 1, 1, 0, [1], [], false), (65, .invokevirtual 213, 3, 0, [1], [], false), (68, .ifCond .eq 7, 3, 0, [75], [], false), (71, .iconst 1, 1, 1, [], [], false), (72, .goto 4, 3, 0, [76], [], false), (75, .iconst 0, 1, 0, [], [], false), (76, .iadd, 1, 0, [], [], false), (77, .istore_n 2, 1, 0, [2, 1], [], false), (78, .iinc 4 1, 3, 1, [], [], false), (81, .goto (-49), 3, 0, [32], [], false), (84, .iinc 3 1, 3, 1, [], [], false), (87, .goto (-64), 3, 0, [23], [], false), (90, .iload_n 2, 1, 0, [2], [], false), (91, .ireturn, 1, 0, [], [], false)]
def mo_pairs_y : MethodName := ⟨"SpanLayersModel", "pairs", "(I)I"⟩
theorem mo_pairs_tb : sl_tbOK sl_R12 prog_14_method_36_code 5 (some .int) lk_mo [(119, 1), (213, 0)] mo_pairs_cd = true := by decide +kernel
theorem mo_isPair_w2 : Cond.instanceMethod mo_isPair_y ∈ sl_T0 := sl_in1 1303 (by decide +kernel) rfl
theorem mo_isPair_w3 : Cond.selects mo_isPair_y.cls mo_isPair_y mo_isPair_y ∈ sl_T0 := sl_in1 38 (by decide +kernel) rfl
theorem mo_isPair_w4 : Cond.initialized mo_isPair_y.cls ∈ sl_T0 := sl_in1 97 (by decide +kernel) rfl
theorem mo_isPair_w5 : Cond.code mo_isPair_y prog_14_method_35_code 4 (some .boolean) ∈ sl_T0 := sl_in1 1304 (by decide +kernel) rfl
theorem mo_isPair_w6 : mo_isPair_y.cls ≠ "java/lang/invoke/MethodHandle" ∧ mo_isPair_y.cls ≠ "java/lang/invoke/VarHandle" ∧ (parseMethodDescriptor mo_isPair_y.desc).map (fun d => d.parameters.length) = some 3 := by decide +kernel
theorem cs_mo_213 (g : sl_G) {hh : Nat} (h : 4 ≤ hh) : sl_CallS g sl_R12 213 0 12 hh 4 mo_isPair_pt := sl_callV (y := mo_isPair_y) (T := sl_F12) (N := 50) (mo_isPair_snd g) h (by decide) (sl_in1 1301 (by decide +kernel) rfl) mo_isPair_w2 mo_isPair_w3 mo_isPair_w4 mo_isPair_w5 mo_isPair_w6 rfl (by decide)
def mo_pairs_ct : List sl_Ct := [(3, 1, 0, mo_in_pt), (4, 0, 12, mo_isPair_pt)]
theorem mo_pairs_hc (g : sl_G) : sl_HC g sl_R12 4 mo_pairs_ct [(119, 1), (213, 0)] := sl_HC_cons (cs_mo_119 g (by decide)) (sl_HC_cons (cs_mo_213 g (by decide)) (sl_HC_nil g sl_R12 4))
set_option maxRecDepth 20000 in
set_option maxHeartbeats 2000000 in
theorem mo_pairs_snd (g : sl_G) : sl_Snd g mo_pairs_y prog_14_method_36_code 5 (some .int) 4 (mo_pairs_pt) := by
  intro As μ Q hw h
  unfold mo_pairs_pt at h
  split at h
  next c0 a0 a1 =>
    split at h
    next e_ =>
      subst e_
      split at h
      next e_ =>
        subst e_
        refine sl_mk2 g [true, true, false, false, false] (cst := [some (.inr (.inr (some (12, 104)))), some (.inl a1)]) (lv0 := [none, none, none, none, none]) (by decide) rfl hw rfl rfl rfl lk_mo_ok (mo_pairs_hc g) mo_pairs_tb rfl ?_
        intro X M
        have v23 := sl_extL M sl_VV0 23 (fun n lv st μ => match lv, st with | [_, _, some (.inl x2), some (.inl x3), _], [] => mo_pairs_L23 a1 (fun r μ' => Q (some (.inl r)) μ') n x2 x3 μ | _, _ => False) (by
            intro lv st μ h
            split at h
            · exact h
            · exact h) (by
            intro n23 w23
            have v32 := sl_extL M w23 32 (fun n lv st μ => match lv, st with | [_, _, some (.inl x2), some (.inl x3), some (.inl x4)], [] => mo_pairs_L32 a1 (fun r μ' => Q (some (.inl r)) μ') (mo_pairs_L23 a1 (fun r μ' => Q (some (.inl r)) μ') n23) n x2 x3 x4 μ | _, _ => False) (by
                intro lv st μ h
                split at h
                · exact h
                · exact h) (by
                intro n32 w32
                refine ⟨_, w32, ?_⟩
                intro lv st μ h
                split at h
                · exact h
                · exact h.elim)
            refine ⟨_, v32, ?_⟩
            intro lv st μ h
            split at h
            · exact h
            · exact h.elim)
        exact ⟨_, v23, h⟩
      next => exact h.elim
    next => exact h.elim
  next => exact h.elim
def mo_nth (a1 : Int32) (a2 : Int32) (μ : sl_M) (Q : Int32 → sl_M → Prop) : Prop := ∀ m1, m1 = sl_up μ 104 5 (0 : Int32) → mo_in a1.toInt64 ((0 : Int32).toInt64) ((4 : Int32).toInt64) m1 (fun r3 m2 => (r3 = (0 : Int32) → Q (-1 : Int32) m2) ∧ (¬ r3 = (0 : Int32) → (a2 < (0 : Int32) → Q (-1 : Int32) m2) ∧ (¬ a2 < (0 : Int32) → mo_layOrder a1 m2 (fun m4 => mo_manyIn m4 (fun r6 m5 => (a2 < r6 → vp_in a2 30 ∧ Q (m5 110 a2.toNatClampNeg) m5) ∧ (¬ a2 < r6 → Q (-5 : Int32) m5))))))
def mo_nth_pt : sl_PT := fun As μ Q => match As with
  | [.inr (.inr (some (c0, a0))), .inl a1, .inl a2] => if c0 = 12 then (if a0 = 104 then (mo_nth a1 a2 μ (fun r μ' => Q (some (.inl r)) μ')) else False) else False
  | _ => False
def mo_nth_cd : List sl_Ent := [(0, .aload_n 0, 1, 0, [0], [], false), (1, .iconst 0, 1, 0, [], [], false), (2, .putfield 113, 3, 0, [12, 5, 0], [], false), (5, .iload_n 1, 1, 0, [1], [], false), (6, .i2l, 1, 0, [], [], false), (7, .lconst 0, 1, 0, [], [], false), (8, .ldc2_w 216, 3, 4, [], [], false), (11, .invokestatic 119, 3, 0, [0], [], false), (14, .ifCond .eq 7, 3, 0, [21], [], false), (17, .iload_n 2, 1, 0, [2], [], false), (18, .ifCond .ge 5, 3, 0, [23], [], false), (21, .iconst (-1), 1, (-1), [], [], false), (22, .ireturn, 1, 0, [], [], false), (23, .aload_n 0, 1, 0, [0], [], false), (24, .iload_n 1, 1, 0, [1], [], false), (25, .invokevirtual 204, 3, 0, [1], [], false), (28, .iload_n 2, 1, 0, [2], [], false), (29, .aload_n 0, 1, 0, [0], [], false), (30, .invokevirtual 184, 3, 0, [2], [], false), (33, .if_icmp .ge 12, 3, 0, [45], [], false), (36, .aload_n 0, 1, 0, [0], [], false), (37, .getfield 25, 3, 0, [12, 6, 2, 20, 6], [], false), (40, .iload_n 2, 1, 0, [2], [], false), (41, .iaload, 1, 0, [], [], false), (42, .goto 5, 3, 0, [47], [], false), (45, .bipush (-5), 2, (-5), [], [], false), (47, .ireturn, 1, 0, [], [], false)]
def mo_nth_y : MethodName := ⟨"SpanLayersModel", "nth", "(II)I"⟩
theorem mo_nth_tb : sl_tbOK sl_R12 prog_14_method_37_code 3 (some .int) lk_mo [(119, 1), (204, 0), (184, 0)] mo_nth_cd = true := by decide +kernel
def mo_nth_ct : List sl_Ct := [(3, 1, 0, mo_in_pt), (2, 0, 12, mo_layOrder_pt), (1, 0, 12, mo_manyIn_pt)]
theorem mo_nth_hc (g : sl_G) : sl_HC g sl_R12 5 mo_nth_ct [(119, 1), (204, 0), (184, 0)] := sl_HC_cons (cs_mo_119 g (by decide)) (sl_HC_cons (cs_mo_204 g (by decide)) (sl_HC_cons (cs_mo_184 g (by decide)) (sl_HC_nil g sl_R12 5)))
set_option maxRecDepth 20000 in
set_option maxHeartbeats 2000000 in
theorem mo_nth_snd (g : sl_G) : sl_Snd g mo_nth_y prog_14_method_37_code 3 (some .int) 5 (mo_nth_pt) := by
  intro As μ Q hw h
  unfold mo_nth_pt at h
  split at h
  next c0 a0 a1 a2 =>
    split at h
    next e_ =>
      subst e_
      split at h
      next e_ =>
        subst e_
        refine sl_mk2 g [true, true, true] (cst := [some (.inr (.inr (some (12, 104)))), some (.inl a1), some (.inl a2)]) (lv0 := [none, none, none]) (by decide) rfl hw rfl rfl rfl lk_mo_ok (mo_nth_hc g) mo_nth_tb rfl ?_
        intro X M
        exact ⟨_, sl_VV0, h⟩
      next => exact h.elim
    next => exact h.elim
  next => exact h.elim
def mo_place (a1 : Int32) (a2 : Int32) (μ : sl_M) (Q : Int32 → sl_M → Prop) : Prop := ∀ m1, m1 = sl_up μ 104 5 (0 : Int32) → mo_in a1.toInt64 ((0 : Int32).toInt64) ((4 : Int32).toInt64) m1 (fun r3 m2 => (r3 = (0 : Int32) → Q (-1 : Int32) m2) ∧ (¬ r3 = (0 : Int32) → mo_isSpan a2 m2 (fun r5 m4 => (r5 = (0 : Int32) → Q (-1 : Int32) m4) ∧ (¬ r5 = (0 : Int32) → vp_in a2 30 ∧ ((m4 108 a2.toNatClampNeg) = (0 : Int32) → Q (-3 : Int32) m4) ∧ (¬ (m4 108 a2.toNatClampNeg) = (0 : Int32) → mo_layLayers m4 (fun m6 => mo_aheadOf a1 a2 m6 (fun r8 m7 => Q r8 m7)))))))
def mo_place_pt : sl_PT := fun As μ Q => match As with
  | [.inr (.inr (some (c0, a0))), .inl a1, .inl a2] => if c0 = 12 then (if a0 = 104 then (mo_place a1 a2 μ (fun r μ' => Q (some (.inl r)) μ')) else False) else False
  | _ => False
def mo_place_cd : List sl_Ent := [(0, .aload_n 0, 1, 0, [0], [], false), (1, .iconst 0, 1, 0, [], [], false), (2, .putfield 113, 3, 0, [12, 5, 0], [], false), (5, .iload_n 1, 1, 0, [1], [], false), (6, .i2l, 1, 0, [], [], false), (7, .lconst 0, 1, 0, [], [], false), (8, .ldc2_w 216, 3, 4, [], [], false), (11, .invokestatic 119, 3, 0, [0], [], false), (14, .ifCond .eq 10, 3, 0, [24], [], false), (17, .iload_n 2, 1, 0, [2], [], false), (18, .invokestatic 123, 3, 0, [1], [], false), (21, .ifCond .ne 5, 3, 0, [26], [], false), (24, .iconst (-1), 1, (-1), [], [], false), (25, .ireturn, 1, 0, [], [], false), (26, .aload_n 0, 1, 0, [0], [], false), (27, .getfield 19, 3, 0, [12, 3, 2, 20, 4], [], false), (30, .iload_n 2, 1, 0, [2], [], false), (31, .iaload, 1, 0, [], [], false), (32, .ifCond .ne 6, 3, 0, [38], [], false), (35, .bipush (-3), 2, (-3), [], [], false), (37, .ireturn, 1, 0, [], [], false), (38, .aload_n 0, 1, 0, [0], [], false), (39, .invokevirtual 158, 3, 0, [2], [], false), (42, .aload_n 0, 1, 0, [0], [], false), (43, .iload_n 1, 1, 0, [1], [], false), (44, .iload_n 2, 1, 0, [2], [], false), (45, .invokevirtual 161, 3, 0, [3], [], false), (48, .ireturn, 1, 0, [], [], false)]
def mo_place_y : MethodName := ⟨"SpanLayersModel", "place", "(II)I"⟩
theorem mo_place_tb : sl_tbOK sl_R12 prog_14_method_38_code 3 (some .int) lk_mo [(119, 1), (123, 1), (158, 0), (161, 0)] mo_place_cd = true := by decide +kernel
def mo_place_ct : List sl_Ct := [(3, 1, 0, mo_in_pt), (1, 1, 0, mo_isSpan_pt), (1, 0, 12, mo_layLayers_pt), (3, 0, 12, mo_aheadOf_pt)]
theorem mo_place_hc (g : sl_G) : sl_HC g sl_R12 4 mo_place_ct [(119, 1), (123, 1), (158, 0), (161, 0)] := sl_HC_cons (cs_mo_119 g (by decide)) (sl_HC_cons (cs_mo_123 g (by decide)) (sl_HC_cons (cs_mo_158 g (by decide)) (sl_HC_cons (cs_mo_161 g (by decide)) (sl_HC_nil g sl_R12 4))))
set_option maxRecDepth 20000 in
set_option maxHeartbeats 2000000 in
theorem mo_place_snd (g : sl_G) : sl_Snd g mo_place_y prog_14_method_38_code 3 (some .int) 4 (mo_place_pt) := by
  intro As μ Q hw h
  unfold mo_place_pt at h
  split at h
  next c0 a0 a1 a2 =>
    split at h
    next e_ =>
      subst e_
      split at h
      next e_ =>
        subst e_
        refine sl_mk2 g [true, true, true] (cst := [some (.inr (.inr (some (12, 104)))), some (.inl a1), some (.inl a2)]) (lv0 := [none, none, none]) (by decide) rfl hw rfl rfl rfl lk_mo_ok (mo_place_hc g) mo_place_tb rfl ?_
        intro X M
        exact ⟨_, sl_VV0, h⟩
      next => exact h.elim
    next => exact h.elim
  next => exact h.elim
def mo_layer_L19 (a1 : Int32) (Q : Int32 → sl_M → Prop) : Nat → Int32 → Int32 → sl_M → Prop
  | 0, _, _, _ => False
  | n + 1, x2, x3, μ => (x3 < (30 : Int32) → vp_in x3 30 ∧ ((μ 108 x3.toNatClampNeg) = (1 : Int32) → vp_in x3 30 ∧ ((μ 109 x3.toNatClampNeg) = a1 → ∀ v1, v1 = (x2 ||| ((1 : Int32) <<< (x3 &&& 31))) → (mo_layer_L19 a1 Q n) v1 (x3 + (1 : Int32)) μ) ∧ (¬ (μ 109 x3.toNatClampNeg) = a1 → ∀ v2, v2 = (x2 ||| (0 : Int32)) → (mo_layer_L19 a1 Q n) v2 (x3 + (1 : Int32)) μ)) ∧ (¬ (μ 108 x3.toNatClampNeg) = (1 : Int32) → ∀ v3, v3 = (x2 ||| (0 : Int32)) → (mo_layer_L19 a1 Q n) v3 (x3 + (1 : Int32)) μ)) ∧ (¬ x3 < (30 : Int32) → Q x2 μ)
def mo_layer (a1 : Int32) (μ : sl_M) (Q : Int32 → sl_M → Prop) : Prop := ∀ m4, m4 = sl_up μ 104 5 (0 : Int32) → (a1 < (0 : Int32) → Q (-1 : Int32) m4) ∧ (¬ a1 < (0 : Int32) → mo_layLayers m4 (fun m5 => ∃ n6, mo_layer_L19 a1 Q n6 (0 : Int32) (0 : Int32) m5))
def mo_layer_pt : sl_PT := fun As μ Q => match As with
  | [.inr (.inr (some (c0, a0))), .inl a1] => if c0 = 12 then (if a0 = 104 then (mo_layer a1 μ (fun r μ' => Q (some (.inl r)) μ')) else False) else False
  | _ => False
def mo_layer_cd : List sl_Ent := [(0, .aload_n 0, 1, 0, [0], [], false), (1, .iconst 0, 1, 0, [], [], false), (2, .putfield 113, 3, 0, [12, 5, 0], [], false), (5, .iload_n 1, 1, 0, [1], [], false), (6, .ifCond .ge 5, 3, 0, [11], [], false), (9, .iconst (-1), 1, (-1), [], [], false), (10, .ireturn, 1, 0, [], [], false), (11, .aload_n 0, 1, 0, [0], [], false), (12, .invokevirtual 158, 3, 0, [0], [], false), (15, .iconst 0, 1, 0, [], [], false), (16, .istore_n 2, 1, 0, [2], [], false), (17, .iconst 0, 1, 0, [], [], false), (18, .istore_n 3, 1, 0, [3], [], false), (19, .iload_n 3, 1, 0, [3], [], true), (20, .bipush 30, 2, 30, [], [], false), (22, .if_icmp .ge 39, 3, 0, [61], [], false), (25, .iload_n 2, 1, 0, [2], [], false), (26, .aload_n 0, 1, 0, [0], [], false), (27, .getfield 19, 3, 0, [12, 3, 2, 20, 4], [], false), (30, .iload_n 3, 1, 0, [3], [], false), (31, .iaload, 1, 0, [], [], false), (32, .iconst 1, 1, 1, [], [], false), (33, .if_icmp .ne 19, 3, 0, [52], [], false), (36, .aload_n 0, 1, 0, [0], [], false), (37, .getfield 22, 3, 0, [12, 4, 2, 20, 5], [], false), (40, .iload_n 3, 1, 0, [3], [], false), (41, .iaload, 1, 0, [], [], false), (42, .iload_n 1, 1, 0, [1], [], false), (43, .if_icmp .ne 9, 3, 0, [52], [], false), (46, .iconst 1, 1, 1, [], [], false), (47, .iload_n 3, 1, 0, [3], [], false), (48, .ishl, 1, 0, [], [], false), (49, .goto 4, 3, 0, [53], [], false), (52, .iconst 0, 1, 0, [], [], false), (53, .ior, 1, 0, [], [], false), (54, .istore_n 2, 1, 0, [2, 1], [], false), (55, .iinc 3 1, 3, 1, [], [], false), (58, .goto (-39), 3, 0, [19], [], false), (61, .iload_n 2, 1, 0, [2], [], false), (62, .ireturn, 1, 0, [], [], false)]
def mo_layer_y : MethodName := ⟨"SpanLayersModel", "layer", "(I)I"⟩
theorem mo_layer_tb : sl_tbOK sl_R12 prog_14_method_39_code 4 (some .int) lk_mo [(158, 0)] mo_layer_cd = true := by decide +kernel
def mo_layer_ct : List sl_Ct := [(1, 0, 12, mo_layLayers_pt)]
theorem mo_layer_hc (g : sl_G) : sl_HC g sl_R12 3 mo_layer_ct [(158, 0)] := sl_HC_cons (cs_mo_158 g (by decide)) (sl_HC_nil g sl_R12 3)
set_option maxRecDepth 20000 in
set_option maxHeartbeats 2000000 in
theorem mo_layer_snd (g : sl_G) : sl_Snd g mo_layer_y prog_14_method_39_code 4 (some .int) 3 (mo_layer_pt) := by
  intro As μ Q hw h
  unfold mo_layer_pt at h
  split at h
  next c0 a0 a1 =>
    split at h
    next e_ =>
      subst e_
      split at h
      next e_ =>
        subst e_
        refine sl_mk2 g [true, true, false, false] (cst := [some (.inr (.inr (some (12, 104)))), some (.inl a1)]) (lv0 := [none, none, none, none]) (by decide) rfl hw rfl rfl rfl lk_mo_ok (mo_layer_hc g) mo_layer_tb rfl ?_
        intro X M
        have v19 := sl_extL M sl_VV0 19 (fun n lv st μ => match lv, st with | [_, _, some (.inl x2), some (.inl x3)], [] => mo_layer_L19 a1 (fun r μ' => Q (some (.inl r)) μ') n x2 x3 μ | _, _ => False) (by
            intro lv st μ h
            split at h
            · exact h
            · exact h) (by
            intro n19 w19
            refine ⟨_, w19, ?_⟩
            intro lv st μ h
            split at h
            · exact h
            · exact h.elim)
        exact ⟨_, v19, h⟩
      next => exact h.elim
    next => exact h.elim
  next => exact h.elim
def mo_opens_L4 (Q : Int32 → sl_M → Prop) : Nat → Int32 → Int32 → sl_M → Prop
  | 0, _, _, _ => False
  | n + 1, x1, x2, μ => (x2 < (3 : Int32) → vp_in x2 3 ∧ ((μ 111 x2.toNatClampNeg) < (0 : Int32) → ∀ v1, v1 = (x1 + (0 : Int32)) → (mo_opens_L4 Q n) v1 (x2 + (1 : Int32)) μ) ∧ (¬ (μ 111 x2.toNatClampNeg) < (0 : Int32) → ∀ v2, v2 = (x1 + (1 : Int32)) → (mo_opens_L4 Q n) v2 (x2 + (1 : Int32)) μ)) ∧ (¬ x2 < (3 : Int32) → Q x1 μ)
def mo_opens (μ : sl_M) (Q : Int32 → sl_M → Prop) : Prop := ∃ n3, mo_opens_L4 Q n3 (0 : Int32) (0 : Int32) μ
def mo_opens_pt : sl_PT := fun As μ Q => match As with
  | [.inr (.inr (some (c0, a0)))] => if c0 = 12 then (if a0 = 104 then (mo_opens μ (fun r μ' => Q (some (.inl r)) μ')) else False) else False
  | _ => False
def mo_opens_cd : List sl_Ent := [(0, .iconst 0, 1, 0, [], [], false), (1, .istore_n 1, 1, 0, [1], [], false), (2, .iconst 0, 1, 0, [], [], false), (3, .istore_n 2, 1, 0, [2], [], false), (4, .iload_n 2, 1, 0, [2], [], true), (5, .iconst 3, 1, 3, [], [], false), (6, .if_icmp .ge 26, 3, 0, [32], [], false), (9, .iload_n 1, 1, 0, [1], [], false), (10, .aload_n 0, 1, 0, [0], [], false), (11, .getfield 28, 3, 0, [12, 7, 2, 20, 7], [], false), (14, .iload_n 2, 1, 0, [2], [], false), (15, .iaload, 1, 0, [], [], false), (16, .ifCond .lt 7, 3, 0, [23], [], false), (19, .iconst 1, 1, 1, [], [], false), (20, .goto 4, 3, 0, [24], [], false), (23, .iconst 0, 1, 0, [], [], false), (24, .iadd, 1, 0, [], [], false), (25, .istore_n 1, 1, 0, [1, 1], [], false), (26, .iinc 2 1, 3, 1, [], [], false), (29, .goto (-25), 3, 0, [4], [], false), (32, .iload_n 1, 1, 0, [1], [], false), (33, .ireturn, 1, 0, [], [], false)]
def mo_opens_y : MethodName := ⟨"SpanLayersModel", "opens", "()I"⟩
theorem mo_opens_tb : sl_tbOK sl_R12 prog_14_method_40_code 3 (some .int) lk_mo [] mo_opens_cd = true := by decide +kernel
def mo_opens_ct : List sl_Ct := []
theorem mo_opens_hc (g : sl_G) : sl_HC g sl_R12 0 mo_opens_ct [] := sl_HC_nil g sl_R12 0
set_option maxRecDepth 20000 in
set_option maxHeartbeats 2000000 in
theorem mo_opens_snd (g : sl_G) : sl_Snd g mo_opens_y prog_14_method_40_code 3 (some .int) 0 (mo_opens_pt) := by
  intro As μ Q hw h
  unfold mo_opens_pt at h
  split at h
  next c0 a0 =>
    split at h
    next e_ =>
      subst e_
      split at h
      next e_ =>
        subst e_
        refine sl_mk2 g [true, false, false] (cst := [some (.inr (.inr (some (12, 104))))]) (lv0 := [none, none, none]) (by decide) rfl hw rfl rfl rfl lk_mo_ok (mo_opens_hc g) mo_opens_tb rfl ?_
        intro X M
        have v4 := sl_extL M sl_VV0 4 (fun n lv st μ => match lv, st with | [_, some (.inl x1), some (.inl x2)], [] => mo_opens_L4 (fun r μ' => Q (some (.inl r)) μ') n x1 x2 μ | _, _ => False) (by
            intro lv st μ h
            split at h
            · exact h
            · exact h) (by
            intro n4 w4
            refine ⟨_, w4, ?_⟩
            intro lv st μ h
            split at h
            · exact h
            · exact h.elim)
        exact ⟨_, v4, h⟩
      next => exact h.elim
    next => exact h.elim
  next => exact h.elim
def mo_open (a1 : Int32) (a2 : Int32) (μ : sl_M) (Q : Int32 → sl_M → Prop) : Prop := ∀ m1, m1 = sl_up μ 104 5 (0 : Int32) → mo_in a1.toInt64 ((0 : Int32).toInt64) ((2 : Int32).toInt64) m1 (fun r3 m2 => (r3 = (0 : Int32) → Q (-1 : Int32) m2) ∧ (¬ r3 = (0 : Int32) → mo_in a2.toInt64 ((0 : Int32).toInt64) ((4 : Int32).toInt64) m2 (fun r5 m4 => (r5 = (0 : Int32) → Q (-1 : Int32) m4) ∧ (¬ r5 = (0 : Int32) → vp_in a1 3 ∧ ∀ m6, m6 = sl_up m4 111 a1.toNatClampNeg a2 → vp_in a1 3 ∧ ∀ m7, m7 = sl_up m6 112 a1.toNatClampNeg (-1 : Int32) → mo_opens m7 (fun r9 m8 => Q r9 m8)))))
def mo_open_pt : sl_PT := fun As μ Q => match As with
  | [.inr (.inr (some (c0, a0))), .inl a1, .inl a2] => if c0 = 12 then (if a0 = 104 then (mo_open a1 a2 μ (fun r μ' => Q (some (.inl r)) μ')) else False) else False
  | _ => False
def mo_open_cd : List sl_Ent := [(0, .aload_n 0, 1, 0, [0], [], false), (1, .iconst 0, 1, 0, [], [], false), (2, .putfield 113, 3, 0, [12, 5, 0], [], false), (5, .iload_n 1, 1, 0, [1], [], false), (6, .i2l, 1, 0, [], [], false), (7, .lconst 0, 1, 0, [], [], false), (8, .ldc2_w 218, 3, 2, [], [], false), (11, .invokestatic 119, 3, 0, [0], [], false), (14, .ifCond .eq 15, 3, 0, [29], [], false), (17, .iload_n 2, 1, 0, [2], [], false), (18, .i2l, 1, 0, [], [], false), (19, .lconst 0, 1, 0, [], [], false), (20, .ldc2_w 216, 3, 4, [], [], false), (23, .invokestatic 119, 3, 0, [0], [], false), (26, .ifCond .ne 5, 3, 0, [31], [], false), (29, .iconst (-1), 1, (-1), [], [], false), (30, .ireturn, 1, 0, [], [], false), (31, .aload_n 0, 1, 0, [0], [], false), (32, .getfield 28, 3, 0, [12, 7, 2, 20, 7], [], false), (35, .iload_n 1, 1, 0, [1], [], false), (36, .iload_n 2, 1, 0, [2], [], false), (37, .iastore, 1, 0, [], [], false), (38, .aload_n 0, 1, 0, [0], [], false), (39, .getfield 31, 3, 0, [12, 8, 2, 20, 8], [], false), (42, .iload_n 1, 1, 0, [1], [], false), (43, .iconst (-1), 1, (-1), [], [], false), (44, .iastore, 1, 0, [], [], false), (45, .aload_n 0, 1, 0, [0], [], false), (46, .invokevirtual 220, 3, 0, [1], [], false), (49, .ireturn, 1, 0, [], [], false)]
def mo_open_y : MethodName := ⟨"SpanLayersModel", "open", "(II)I"⟩
theorem mo_open_tb : sl_tbOK sl_R12 prog_14_method_41_code 3 (some .int) lk_mo [(119, 1), (220, 0)] mo_open_cd = true := by decide +kernel
theorem mo_opens_w2 : Cond.instanceMethod mo_opens_y ∈ sl_T0 := sl_in1 1325 (by decide +kernel) rfl
theorem mo_opens_w3 : Cond.selects mo_opens_y.cls mo_opens_y mo_opens_y ∈ sl_T0 := sl_in1 39 (by decide +kernel) rfl
theorem mo_opens_w4 : Cond.initialized mo_opens_y.cls ∈ sl_T0 := sl_in1 97 (by decide +kernel) rfl
theorem mo_opens_w5 : Cond.code mo_opens_y prog_14_method_40_code 3 (some .int) ∈ sl_T0 := sl_in1 1326 (by decide +kernel) rfl
theorem mo_opens_w6 : mo_opens_y.cls ≠ "java/lang/invoke/MethodHandle" ∧ mo_opens_y.cls ≠ "java/lang/invoke/VarHandle" ∧ (parseMethodDescriptor mo_opens_y.desc).map (fun d => d.parameters.length) = some 0 := by decide +kernel
theorem cs_mo_220 (g : sl_G) {hh : Nat} (h : 1 ≤ hh) : sl_CallS g sl_R12 220 0 12 hh 1 mo_opens_pt := sl_callV (y := mo_opens_y) (T := sl_F12) (N := 50) (mo_opens_snd g) h (by decide) (sl_in1 1323 (by decide +kernel) rfl) mo_opens_w2 mo_opens_w3 mo_opens_w4 mo_opens_w5 mo_opens_w6 rfl (by decide)
def mo_open_ct : List sl_Ct := [(3, 1, 0, mo_in_pt), (1, 0, 12, mo_opens_pt)]
theorem mo_open_hc (g : sl_G) : sl_HC g sl_R12 1 mo_open_ct [(119, 1), (220, 0)] := sl_HC_cons (cs_mo_119 g (by decide)) (sl_HC_cons (cs_mo_220 g (by decide)) (sl_HC_nil g sl_R12 1))
set_option maxRecDepth 20000 in
set_option maxHeartbeats 2000000 in
theorem mo_open_snd (g : sl_G) : sl_Snd g mo_open_y prog_14_method_41_code 3 (some .int) 1 (mo_open_pt) := by
  intro As μ Q hw h
  unfold mo_open_pt at h
  split at h
  next c0 a0 a1 a2 =>
    split at h
    next e_ =>
      subst e_
      split at h
      next e_ =>
        subst e_
        refine sl_mk2 g [true, true, true] (cst := [some (.inr (.inr (some (12, 104)))), some (.inl a1), some (.inl a2)]) (lv0 := [none, none, none]) (by decide) rfl hw rfl rfl rfl lk_mo_ok (mo_open_hc g) mo_open_tb rfl ?_
        intro X M
        exact ⟨_, sl_VV0, h⟩
      next => exact h.elim
    next => exact h.elim
  next => exact h.elim
def mo_shut (a1 : Int32) (μ : sl_M) (Q : Int32 → sl_M → Prop) : Prop := ∀ m1, m1 = sl_up μ 104 5 (0 : Int32) → mo_in a1.toInt64 ((0 : Int32).toInt64) ((2 : Int32).toInt64) m1 (fun r3 m2 => (r3 = (0 : Int32) → mo_in a1.toInt64 ((0 : Int32).toInt64) ((2 : Int32).toInt64) m2 (fun r5 m4 => (r5 = (0 : Int32) → Q (-1 : Int32) m4) ∧ (¬ r5 = (0 : Int32) → Q (-3 : Int32) m4))) ∧ (¬ r3 = (0 : Int32) → vp_in a1 3 ∧ ((m2 111 a1.toNatClampNeg) < (0 : Int32) → mo_in a1.toInt64 ((0 : Int32).toInt64) ((2 : Int32).toInt64) m2 (fun r7 m6 => (r7 = (0 : Int32) → Q (-1 : Int32) m6) ∧ (¬ r7 = (0 : Int32) → Q (-3 : Int32) m6))) ∧ (¬ (m2 111 a1.toNatClampNeg) < (0 : Int32) → vp_in a1 3 ∧ ∀ m8, m8 = sl_up m2 111 a1.toNatClampNeg (-1 : Int32) → mo_opens m8 (fun r10 m9 => Q r10 m9))))
def mo_shut_pt : sl_PT := fun As μ Q => match As with
  | [.inr (.inr (some (c0, a0))), .inl a1] => if c0 = 12 then (if a0 = 104 then (mo_shut a1 μ (fun r μ' => Q (some (.inl r)) μ')) else False) else False
  | _ => False
def mo_shut_cd : List sl_Ent := [(0, .aload_n 0, 1, 0, [0], [], false), (1, .iconst 0, 1, 0, [], [], false), (2, .putfield 113, 3, 0, [12, 5, 0], [], false), (5, .iload_n 1, 1, 0, [1], [], false), (6, .i2l, 1, 0, [], [], false), (7, .lconst 0, 1, 0, [], [], false), (8, .ldc2_w 218, 3, 2, [], [], false), (11, .invokestatic 119, 3, 0, [0], [], false), (14, .ifCond .eq 12, 3, 0, [26], [], false), (17, .aload_n 0, 1, 0, [0], [], false), (18, .getfield 28, 3, 0, [12, 7, 2, 20, 7], [], false), (21, .iload_n 1, 1, 0, [1], [], false), (22, .iaload, 1, 0, [], [], false), (23, .ifCond .ge 22, 3, 0, [45], [], false), (26, .iload_n 1, 1, 0, [1], [], false), (27, .i2l, 1, 0, [], [], false), (28, .lconst 0, 1, 0, [], [], false), (29, .ldc2_w 218, 3, 2, [], [], false), (32, .invokestatic 119, 3, 0, [0], [], false), (35, .ifCond .eq 8, 3, 0, [43], [], false), (38, .bipush (-3), 2, (-3), [], [], false), (40, .goto 4, 3, 0, [44], [], false), (43, .iconst (-1), 1, (-1), [], [], false), (44, .ireturn, 1, 0, [], [], false), (45, .aload_n 0, 1, 0, [0], [], false), (46, .getfield 28, 3, 0, [12, 7, 2, 20, 7], [], false), (49, .iload_n 1, 1, 0, [1], [], false), (50, .iconst (-1), 1, (-1), [], [], false), (51, .iastore, 1, 0, [], [], false), (52, .aload_n 0, 1, 0, [0], [], false), (53, .invokevirtual 220, 3, 0, [1], [], false), (56, .ireturn, 1, 0, [], [], false)]
def mo_shut_y : MethodName := ⟨"SpanLayersModel", "shut", "(I)I"⟩
theorem mo_shut_tb : sl_tbOK sl_R12 prog_14_method_42_code 2 (some .int) lk_mo [(119, 1), (220, 0)] mo_shut_cd = true := by decide +kernel
def mo_shut_ct : List sl_Ct := [(3, 1, 0, mo_in_pt), (1, 0, 12, mo_opens_pt)]
theorem mo_shut_hc (g : sl_G) : sl_HC g sl_R12 1 mo_shut_ct [(119, 1), (220, 0)] := sl_HC_cons (cs_mo_119 g (by decide)) (sl_HC_cons (cs_mo_220 g (by decide)) (sl_HC_nil g sl_R12 1))
set_option maxRecDepth 20000 in
set_option maxHeartbeats 2000000 in
theorem mo_shut_snd (g : sl_G) : sl_Snd g mo_shut_y prog_14_method_42_code 2 (some .int) 1 (mo_shut_pt) := by
  intro As μ Q hw h
  unfold mo_shut_pt at h
  split at h
  next c0 a0 a1 =>
    split at h
    next e_ =>
      subst e_
      split at h
      next e_ =>
        subst e_
        refine sl_mk2 g [true, true] (cst := [some (.inr (.inr (some (12, 104)))), some (.inl a1)]) (lv0 := [none, none]) (by decide) rfl hw rfl rfl rfl lk_mo_ok (mo_shut_hc g) mo_shut_tb rfl ?_
        intro X M
        exact ⟨_, sl_VV0, h⟩
      next => exact h.elim
    next => exact h.elim
  next => exact h.elim
def mo_isBehindTold (a1 : Int32) (a2 : Int32) (μ : sl_M) (Q : Int32 → sl_M → Prop) : Prop := vp_in a1 3 ∧ ((μ 112 a1.toNatClampNeg) < (0 : Int32) → sl_bz (1 : Int32) = (1 : Int32) ∧ Q (1 : Int32) μ) ∧ (¬ (μ 112 a1.toNatClampNeg) < (0 : Int32) → vp_in a1 3 ∧ vp_in a1 3 ∧ vp_in a1 3 ∧ vp_in a1 3 ∧ mo_first (μ 111 a1.toNatClampNeg) a2 μ (fun r2 m1 => vp_in a1 3 ∧ mo_second (m1 111 a1.toNatClampNeg) a2 m1 (fun r4 m3 => mo_isLess (μ 113 a1.toNatClampNeg) (μ 114 a1.toNatClampNeg) (μ 112 a1.toNatClampNeg) r2 r4 a2 m3 (fun r6 m5 => (r6 = (0 : Int32) → sl_bz (0 : Int32) = (0 : Int32) ∧ Q (0 : Int32) m5) ∧ (¬ r6 = (0 : Int32) → sl_bz (1 : Int32) = (1 : Int32) ∧ Q (1 : Int32) m5)))))
def mo_isBehindTold_pt : sl_PT := fun As μ Q => match As with
  | [.inr (.inr (some (c0, a0))), .inl a1, .inl a2] => if c0 = 12 then (if a0 = 104 then (mo_isBehindTold a1 a2 μ (fun r μ' => Q (some (.inl r)) μ')) else False) else False
  | _ => False
def mo_isBehindTold_cd : List sl_Ent := [(0, .aload_n 0, 1, 0, [0], [], false), (1, .getfield 31, 3, 0, [12, 8, 2, 20, 8], [], false), (4, .iload_n 1, 1, 0, [1], [], false), (5, .iaload, 1, 0, [], [], false), (6, .ifCond .lt 50, 3, 0, [56], [], false), (9, .aload_n 0, 1, 0, [0], [], false), (10, .getfield 34, 3, 0, [12, 9, 2, 20, 9], [], false), (13, .iload_n 1, 1, 0, [1], [], false), (14, .iaload, 1, 0, [], [], false), (15, .aload_n 0, 1, 0, [0], [], false), (16, .getfield 37, 3, 0, [12, 10, 2, 20, 10], [], false), (19, .iload_n 1, 1, 0, [1], [], false), (20, .iaload, 1, 0, [], [], false), (21, .aload_n 0, 1, 0, [0], [], false), (22, .getfield 31, 3, 0, [12, 8, 2, 20, 8], [], false), (25, .iload_n 1, 1, 0, [1], [], false), (26, .iaload, 1, 0, [], [], false), (27, .aload_n 0, 1, 0, [0], [], false), (28, .aload_n 0, 1, 0, [0], [], false), (29, .getfield 28, 3, 0, [12, 7, 2, 20, 7], [], false), (32, .iload_n 1, 1, 0, [1], [], false), (33, .iaload, 1, 0, [], [], false), (34, .iload_n 2, 1, 0, [2], [], false), (35, .invokevirtual 143, 3, 0, [0], [], false), (38, .aload_n 0, 1, 0, [0], [], false), (39, .aload_n 0, 1, 0, [0], [], false), (40, .getfield 28, 3, 0, [12, 7, 2, 20, 7], [], false), (43, .iload_n 1, 1, 0, [1], [], false), (44, .iaload, 1, 0, [], [], false), (45, .iload_n 2, 1, 0, [2], [], false), (46, .invokevirtual 147, 3, 0, [1], [], false), (49, .iload_n 2, 1, 0, [2], [], false), (50, .invokestatic 150, 3, 0, [2], [], false), (53, .ifCond .eq 7, 3, 0, [60], [], false), (56, .iconst 1, 1, 1, [], [], false), (57, .goto 4, 3, 0, [61], [], false), (60, .iconst 0, 1, 0, [], [], false), (61, .ireturn, 1, 0, [1], [], false)]
def mo_isBehindTold_y : MethodName := ⟨"SpanLayersModel", "isBehindTold", "(II)Z"⟩
theorem mo_isBehindTold_tb : sl_tbOK sl_R12 prog_14_method_43_code 3 (some .boolean) lk_mo [(143, 0), (147, 0), (150, 1)] mo_isBehindTold_cd = true := by decide +kernel
def mo_isBehindTold_ct : List sl_Ct := [(3, 0, 12, mo_first_pt), (3, 0, 12, mo_second_pt), (6, 1, 0, mo_isLess_pt)]
theorem mo_isBehindTold_hc (g : sl_G) : sl_HC g sl_R12 2 mo_isBehindTold_ct [(143, 0), (147, 0), (150, 1)] := sl_HC_cons (cs_mo_143 g (by decide)) (sl_HC_cons (cs_mo_147 g (by decide)) (sl_HC_cons (cs_mo_150 g (by decide)) (sl_HC_nil g sl_R12 2)))
set_option maxRecDepth 20000 in
set_option maxHeartbeats 2000000 in
theorem mo_isBehindTold_snd (g : sl_G) : sl_Snd g mo_isBehindTold_y prog_14_method_43_code 3 (some .boolean) 2 (mo_isBehindTold_pt) := by
  intro As μ Q hw h
  unfold mo_isBehindTold_pt at h
  split at h
  next c0 a0 a1 a2 =>
    split at h
    next e_ =>
      subst e_
      split at h
      next e_ =>
        subst e_
        refine sl_mk2 g [true, true, true] (cst := [some (.inr (.inr (some (12, 104)))), some (.inl a1), some (.inl a2)]) (lv0 := [none, none, none]) (by decide) rfl hw rfl rfl rfl lk_mo_ok (mo_isBehindTold_hc g) mo_isBehindTold_tb rfl ?_
        intro X M
        exact ⟨_, sl_VV0, h⟩
      next => exact h.elim
    next => exact h.elim
  next => exact h.elim
def mo_next_L65 (a1 : Int32) (Q : Int32 → sl_M → Prop) : Nat → Int32 → Int32 → sl_M → Prop
  | 0, _, _, _ => False
  | n + 1, x2, x3, μ => (x3 < (0 : Int32) → (x2 < (0 : Int32) → Q x2 μ) ∧ (¬ x2 < (0 : Int32) → vp_in a1 3 ∧ mo_first (μ 111 a1.toNatClampNeg) x2 μ (fun r2 m1 => vp_in a1 3 ∧ ∀ m3, m3 = sl_up m1 113 a1.toNatClampNeg r2 → vp_in a1 3 ∧ mo_second (m3 111 a1.toNatClampNeg) x2 m3 (fun r5 m4 => vp_in a1 3 ∧ ∀ m6, m6 = sl_up m4 114 a1.toNatClampNeg r5 → vp_in a1 3 ∧ ∀ m7, m7 = sl_up m6 112 a1.toNatClampNeg x2 → Q x2 m7)))) ∧ (¬ x3 < (0 : Int32) → vp_in x3 30 ∧ mo_isBehindTold a1 (μ 110 x3.toNatClampNeg) μ (fun r9 m8 => (r9 = (0 : Int32) → (mo_next_L65 a1 Q n) x2 (x3 + (-1 : Int32)) m8) ∧ (¬ r9 = (0 : Int32) → vp_in x3 30 ∧ (mo_next_L65 a1 Q n) (m8 110 x3.toNatClampNeg) (x3 + (-1 : Int32)) m8)))
def mo_next (a1 : Int32) (μ : sl_M) (Q : Int32 → sl_M → Prop) : Prop := ∀ m10, m10 = sl_up μ 104 5 (0 : Int32) → mo_in a1.toInt64 ((0 : Int32).toInt64) ((2 : Int32).toInt64) m10 (fun r12 m11 => (r12 = (0 : Int32) → mo_in a1.toInt64 ((0 : Int32).toInt64) ((2 : Int32).toInt64) m11 (fun r14 m13 => (r14 = (0 : Int32) → Q (-1 : Int32) m13) ∧ (¬ r14 = (0 : Int32) → Q (-3 : Int32) m13))) ∧ (¬ r12 = (0 : Int32) → vp_in a1 3 ∧ ((m11 111 a1.toNatClampNeg) < (0 : Int32) → mo_in a1.toInt64 ((0 : Int32).toInt64) ((2 : Int32).toInt64) m11 (fun r16 m15 => (r16 = (0 : Int32) → Q (-1 : Int32) m15) ∧ (¬ r16 = (0 : Int32) → Q (-3 : Int32) m15))) ∧ (¬ (m11 111 a1.toNatClampNeg) < (0 : Int32) → vp_in a1 3 ∧ mo_layOrder (m11 111 a1.toNatClampNeg) m11 (fun m17 => mo_manyIn m17 (fun r19 m18 => ∃ n20, mo_next_L65 a1 Q n20 (-5 : Int32) (r19 - (1 : Int32)) m18)))))
def mo_next_pt : sl_PT := fun As μ Q => match As with
  | [.inr (.inr (some (c0, a0))), .inl a1] => if c0 = 12 then (if a0 = 104 then (mo_next a1 μ (fun r μ' => Q (some (.inl r)) μ')) else False) else False
  | _ => False
def mo_next_cd : List sl_Ent := [(0, .aload_n 0, 1, 0, [0], [], false), (1, .iconst 0, 1, 0, [], [], false), (2, .putfield 113, 3, 0, [12, 5, 0], [], false), (5, .iload_n 1, 1, 0, [1], [], false), (6, .i2l, 1, 0, [], [], false), (7, .lconst 0, 1, 0, [], [], false), (8, .ldc2_w 218, 3, 2, [], [], false), (11, .invokestatic 119, 3, 0, [0], [], false), (14, .ifCond .eq 12, 3, 0, [26], [], false), (17, .aload_n 0, 1, 0, [0], [], false), (18, .getfield 28, 3, 0, [12, 7, 2, 20, 7], [], false), (21, .iload_n 1, 1, 0, [1], [], false), (22, .iaload, 1, 0, [], [], false), (23, .ifCond .ge 22, 3, 0, [45], [], false), (26, .iload_n 1, 1, 0, [1], [], false), (27, .i2l, 1, 0, [], [], false), (28, .lconst 0, 1, 0, [], [], false), (29, .ldc2_w 218, 3, 2, [], [], false), (32, .invokestatic 119, 3, 0, [0], [], false), (35, .ifCond .eq 8, 3, 0, [43], [], false), (38, .bipush (-3), 2, (-3), [], [], false), (40, .goto 4, 3, 0, [44], [], false), (43, .iconst (-1), 1, (-1), [], [], false), (44, .ireturn, 1, 0, [], [], false), (45, .aload_n 0, 1, 0, [0], [], false), (46, .aload_n 0, 1, 0, [0], [], false), (47, .getfield 28, 3, 0, [12, 7, 2, 20, 7], [], false), (50, .iload_n 1, 1, 0, [1], [], false), (51, .iaload, 1, 0, [], [], false), (52, .invokevirtual 204, 3, 0, [1], [], false), (55, .bipush (-5), 2, (-5), [], [], false), (57, .istore_n 2, 1, 0, [2], [], false), (58, .aload_n 0, 1, 0, [0], [], false), (59, .invokevirtual 184, 3, 0, [2], [], false), (62, .iconst 1, 1, 1, [], [], false), (63, .isub, 1, 0, [], [], false), (64, .istore_n 3, 1, 0, [3], [], false), (65, .iload_n 3, 1, 0, [3], [], true), (66, .ifCond .lt 34, 3, 0, [100], [], false), (69, .aload_n 0, 1, 0, [0], [], false), (70, .iload_n 1, 1, 0, [1], [], false), (71, .aload_n 0, 1, 0, [0], [], false), (72, .getfield 25, 3, 0, [12, 6, 2, 20, 6], [], false), (75, .iload_n 3, 1, 0, [3], [], false), (76, .iaload, 1, 0, [], [], false), (77, .invokevirtual 223, 3, 0, [3], [], false), (80, .ifCond .eq 12, 3, 0, [92], [], false), (83, .aload_n 0, 1, 0, [0], [], false), (84, .getfield 25, 3, 0, [12, 6, 2, 20, 6], [], false), (87, .iload_n 3, 1, 0, [3], [], false), (88, .iaload, 1, 0, [], [], false), (89, .goto 4, 3, 0, [93], [], false), (92, .iload_n 2, 1, 0, [2], [], false), (93, .istore_n 2, 1, 0, [2], [], false), (94, .iinc 3 (-1), 3, (-1), [], [], false), (97, .goto (-32), 3, 0, [65], [], false), (100, .iload_n 2, 1, 0, [2], [], false), (101, .ifCond .lt 44, 3, 0, [145], [], false), (104, .aload_n 0, 1, 0, [0], [], false), (105, .getfield 34, 3, 0, [12, 9, 2, 20, 9], [], false), (108, .iload_n 1, 1, 0, [1], [], false), (109, .aload_n 0, 1, 0, [0], [], false), (110, .aload_n 0, 1, 0, [0], [], false), (111, .getfield 28, 3, 0, [12, 7, 2, 20, 7], [], false), (114, .iload_n 1, 1, 0, [1], [], false), (115, .iaload, 1, 0, [], [], false), (116, .iload_n 2, 1, 0, [2], [], false), (117, .invokevirtual 143, 3, 0, [4], [], false), (120, .iastore, 1, 0, [], [], false), (121, .aload_n 0, 1, 0, [0], [], false), (122, .getfield 37, 3, 0, [12, 10, 2, 20, 10], [], false), (125, .iload_n 1, 1, 0, [1], [], false), (126, .aload_n 0, 1, 0, [0], [], false), (127, .aload_n 0, 1, 0, [0], [], false), (128, .getfield 28, 3, 0, [12, 7, 2, 20, 7], [], false), (131, .iload_n 1, 1, 0, [1], [], false), (132, .iaload, 1, 0, [], [], false), (133, .iload_n 2, 1, 0, [2], [], false), (134, .invokevirtual 147, 3, 0, [5], [], false), (137, .iastore, 1, 0, [], [], false), (138, .aload_n 0, 1, 0, [0], [], false), (139, .getfield 31, 3, 0, [12, 8, 2, 20, 8], [], false), (142, .iload_n 1, 1, 0, [1], [], false), (143, .iload_n 2, 1, 0, [2], [], false), (144, .iastore, 1, 0, [], [], false), (145, .iload_n 2, 1, 0, [2], [], false), (146, .ireturn, 1, 0, [], [], false)]
def mo_next_y : MethodName := ⟨"SpanLayersModel", "next", "(I)I"⟩
theorem mo_next_tb : sl_tbOK sl_R12 prog_14_method_44_code 4 (some .int) lk_mo [(119, 1), (204, 0), (184, 0), (223, 0), (143, 0), (147, 0)] mo_next_cd = true := by decide +kernel
theorem mo_isBehindTold_w2 : Cond.instanceMethod mo_isBehindTold_y ∈ sl_T0 := sl_in1 1337 (by decide +kernel) rfl
theorem mo_isBehindTold_w3 : Cond.selects mo_isBehindTold_y.cls mo_isBehindTold_y mo_isBehindTold_y ∈ sl_T0 := sl_in1 40 (by decide +kernel) rfl
theorem mo_isBehindTold_w4 : Cond.initialized mo_isBehindTold_y.cls ∈ sl_T0 := sl_in1 97 (by decide +kernel) rfl
theorem mo_isBehindTold_w5 : Cond.code mo_isBehindTold_y prog_14_method_43_code 3 (some .boolean) ∈ sl_T0 := sl_in1 1338 (by decide +kernel) rfl
theorem mo_isBehindTold_w6 : mo_isBehindTold_y.cls ≠ "java/lang/invoke/MethodHandle" ∧ mo_isBehindTold_y.cls ≠ "java/lang/invoke/VarHandle" ∧ (parseMethodDescriptor mo_isBehindTold_y.desc).map (fun d => d.parameters.length) = some 2 := by decide +kernel
theorem cs_mo_223 (g : sl_G) {hh : Nat} (h : 3 ≤ hh) : sl_CallS g sl_R12 223 0 12 hh 3 mo_isBehindTold_pt := sl_callV (y := mo_isBehindTold_y) (T := sl_F12) (N := 50) (mo_isBehindTold_snd g) h (by decide) (sl_in1 1335 (by decide +kernel) rfl) mo_isBehindTold_w2 mo_isBehindTold_w3 mo_isBehindTold_w4 mo_isBehindTold_w5 mo_isBehindTold_w6 rfl (by decide)
def mo_next_ct : List sl_Ct := [(3, 1, 0, mo_in_pt), (2, 0, 12, mo_layOrder_pt), (1, 0, 12, mo_manyIn_pt), (3, 0, 12, mo_isBehindTold_pt), (3, 0, 12, mo_first_pt), (3, 0, 12, mo_second_pt)]
theorem mo_next_hc (g : sl_G) : sl_HC g sl_R12 5 mo_next_ct [(119, 1), (204, 0), (184, 0), (223, 0), (143, 0), (147, 0)] := sl_HC_cons (cs_mo_119 g (by decide)) (sl_HC_cons (cs_mo_204 g (by decide)) (sl_HC_cons (cs_mo_184 g (by decide)) (sl_HC_cons (cs_mo_223 g (by decide)) (sl_HC_cons (cs_mo_143 g (by decide)) (sl_HC_cons (cs_mo_147 g (by decide)) (sl_HC_nil g sl_R12 5))))))
set_option maxRecDepth 20000 in
set_option maxHeartbeats 2000000 in
theorem mo_next_snd (g : sl_G) : sl_Snd g mo_next_y prog_14_method_44_code 4 (some .int) 5 (mo_next_pt) := by
  intro As μ Q hw h
  unfold mo_next_pt at h
  split at h
  next c0 a0 a1 =>
    split at h
    next e_ =>
      subst e_
      split at h
      next e_ =>
        subst e_
        refine sl_mk2 g [true, true, false, false] (cst := [some (.inr (.inr (some (12, 104)))), some (.inl a1)]) (lv0 := [none, none, none, none]) (by decide) rfl hw rfl rfl rfl lk_mo_ok (mo_next_hc g) mo_next_tb rfl ?_
        intro X M
        have v65 := sl_extL M sl_VV0 65 (fun n lv st μ => match lv, st with | [_, _, some (.inl x2), some (.inl x3)], [] => mo_next_L65 a1 (fun r μ' => Q (some (.inl r)) μ') n x2 x3 μ | _, _ => False) (by
            intro lv st μ h
            split at h
            · exact h
            · exact h) (by
            intro n65 w65
            refine ⟨_, w65, ?_⟩
            intro lv st μ h
            split at h
            · exact h
            · exact h.elim)
        exact ⟨_, v65, h⟩
      next => exact h.elim
    next => exact h.elim
  next => exact h.elim
def mo_remove (a1 : Int32) (μ : sl_M) (Q : Int32 → sl_M → Prop) : Prop := ∀ m1, m1 = sl_up μ 104 5 (0 : Int32) → mo_in a1.toInt64 ((0 : Int32).toInt64) ((2 : Int32).toInt64) m1 (fun r3 m2 => (r3 = (0 : Int32) → Q (-1 : Int32) m2) ∧ (¬ r3 = (0 : Int32) → vp_in a1 3 ∧ ((m2 111 a1.toNatClampNeg) < (0 : Int32) → Q (-3 : Int32) m2) ∧ (¬ (m2 111 a1.toNatClampNeg) < (0 : Int32) → vp_in a1 3 ∧ mo_isHere (m2 112 a1.toNatClampNeg) m2 (fun r5 m4 => (r5 = (0 : Int32) → Q (-3 : Int32) m4) ∧ (¬ r5 = (0 : Int32) → vp_in a1 3 ∧ vp_in (m4 112 a1.toNatClampNeg) 30 ∧ ∀ m6, m6 = sl_up m4 108 (m4 112 a1.toNatClampNeg).toNatClampNeg (0 : Int32) → mo_manyIn m6 (fun r8 m7 => Q r8 m7))))))
def mo_remove_pt : sl_PT := fun As μ Q => match As with
  | [.inr (.inr (some (c0, a0))), .inl a1] => if c0 = 12 then (if a0 = 104 then (mo_remove a1 μ (fun r μ' => Q (some (.inl r)) μ')) else False) else False
  | _ => False
def mo_remove_cd : List sl_Ent := [(0, .aload_n 0, 1, 0, [0], [], false), (1, .iconst 0, 1, 0, [], [], false), (2, .putfield 113, 3, 0, [12, 5, 0], [], false), (5, .iload_n 1, 1, 0, [1], [], false), (6, .i2l, 1, 0, [], [], false), (7, .lconst 0, 1, 0, [], [], false), (8, .ldc2_w 218, 3, 2, [], [], false), (11, .invokestatic 119, 3, 0, [0], [], false), (14, .ifCond .ne 5, 3, 0, [19], [], false), (17, .iconst (-1), 1, (-1), [], [], false), (18, .ireturn, 1, 0, [], [], false), (19, .aload_n 0, 1, 0, [0], [], false), (20, .getfield 28, 3, 0, [12, 7, 2, 20, 7], [], false), (23, .iload_n 1, 1, 0, [1], [], false), (24, .iaload, 1, 0, [], [], false), (25, .ifCond .lt 16, 3, 0, [41], [], false), (28, .aload_n 0, 1, 0, [0], [], false), (29, .aload_n 0, 1, 0, [0], [], false), (30, .getfield 31, 3, 0, [12, 8, 2, 20, 8], [], false), (33, .iload_n 1, 1, 0, [1], [], false), (34, .iaload, 1, 0, [], [], false), (35, .invokevirtual 181, 3, 0, [1], [], false), (38, .ifCond .ne 6, 3, 0, [44], [], false), (41, .bipush (-3), 2, (-3), [], [], false), (43, .ireturn, 1, 0, [], [], false), (44, .aload_n 0, 1, 0, [0], [], false), (45, .getfield 19, 3, 0, [12, 3, 2, 20, 4], [], false), (48, .aload_n 0, 1, 0, [0], [], false), (49, .getfield 31, 3, 0, [12, 8, 2, 20, 8], [], false), (52, .iload_n 1, 1, 0, [1], [], false), (53, .iaload, 1, 0, [], [], false), (54, .iconst 0, 1, 0, [], [], false), (55, .iastore, 1, 0, [], [], false), (56, .aload_n 0, 1, 0, [0], [], false), (57, .invokevirtual 184, 3, 0, [2], [], false), (60, .ireturn, 1, 0, [], [], false)]
def mo_remove_y : MethodName := ⟨"SpanLayersModel", "remove", "(I)I"⟩
theorem mo_remove_tb : sl_tbOK sl_R12 prog_14_method_45_code 2 (some .int) lk_mo [(119, 1), (181, 0), (184, 0)] mo_remove_cd = true := by decide +kernel
def mo_remove_ct : List sl_Ct := [(3, 1, 0, mo_in_pt), (2, 0, 12, mo_isHere_pt), (1, 0, 12, mo_manyIn_pt)]
theorem mo_remove_hc (g : sl_G) : sl_HC g sl_R12 3 mo_remove_ct [(119, 1), (181, 0), (184, 0)] := sl_HC_cons (cs_mo_119 g (by decide)) (sl_HC_cons (cs_mo_181 g (by decide)) (sl_HC_cons (cs_mo_184 g (by decide)) (sl_HC_nil g sl_R12 3)))
set_option maxRecDepth 20000 in
set_option maxHeartbeats 2000000 in
theorem mo_remove_snd (g : sl_G) : sl_Snd g mo_remove_y prog_14_method_45_code 2 (some .int) 3 (mo_remove_pt) := by
  intro As μ Q hw h
  unfold mo_remove_pt at h
  split at h
  next c0 a0 a1 =>
    split at h
    next e_ =>
      subst e_
      split at h
      next e_ =>
        subst e_
        refine sl_mk2 g [true, true] (cst := [some (.inr (.inr (some (12, 104)))), some (.inl a1)]) (lv0 := [none, none]) (by decide) rfl hw rfl rfl rfl lk_mo_ok (mo_remove_hc g) mo_remove_tb rfl ?_
        intro X M
        exact ⟨_, sl_VV0, h⟩
      next => exact h.elim
    next => exact h.elim
  next => exact h.elim
def mo_layDepths_L44 (Q : sl_M → Prop) (k31 : Int32 → sl_M → Prop) : Nat → Int32 → Int32 → sl_M → Prop
  | 0, _, _, _ => False
  | n + 1, x1, x2, μ => vp_in x1 30 ∧ ((μ 108 x1.toNatClampNeg) = (1 : Int32) → vp_in x1 30 ∧ (x2 ≤ (μ 106 x1.toNatClampNeg) → vp_in x2 1000 ∧ vp_in x2 1000 ∧ ∀ m5, m5 = sl_up μ 115 x2.toNatClampNeg ((μ 115 x2.toNatClampNeg) + (1 : Int32)) → vp_in x2 1000 ∧ vp_in x1 30 ∧ vp_in x2 1000 ∧ ∀ m6, m6 = sl_up m5 116 x2.toNatClampNeg ((m5 116 x2.toNatClampNeg) + (m5 107 x1.toNatClampNeg)) → (mo_layDepths_L44 Q k31 n) x1 (x2 + (1 : Int32)) m6) ∧ (¬ x2 ≤ (μ 106 x1.toNatClampNeg) → k31 (x1 + (1 : Int32)) μ)) ∧ (¬ (μ 108 x1.toNatClampNeg) = (1 : Int32) → k31 (x1 + (1 : Int32)) μ)
def mo_layDepths_L31 (Q : sl_M → Prop) : Nat → Int32 → sl_M → Prop
  | 0, _, _ => False
  | n + 1, x1, μ => (x1 < (30 : Int32) → vp_in x1 30 ∧ ∃ n4, mo_layDepths_L44 Q (mo_layDepths_L31 Q n) n4 x1 (μ 105 x1.toNatClampNeg) μ) ∧ (¬ x1 < (30 : Int32) → Q μ)
def mo_layDepths_L2 (Q : sl_M → Prop) : Nat → Int32 → sl_M → Prop
  | 0, _, _ => False
  | n + 1, x1, μ => (x1 < (1000 : Int32) → vp_in x1 1000 ∧ ∀ m1, m1 = sl_up μ 115 x1.toNatClampNeg (0 : Int32) → vp_in x1 1000 ∧ ∀ m2, m2 = sl_up m1 116 x1.toNatClampNeg (0 : Int32) → (mo_layDepths_L2 Q n) (x1 + (1 : Int32)) m2) ∧ (¬ x1 < (1000 : Int32) → ∃ n3, mo_layDepths_L31 Q n3 (0 : Int32) μ)
def mo_layDepths (μ : sl_M) (Q : sl_M → Prop) : Prop := ∃ n7, mo_layDepths_L2 Q n7 (0 : Int32) μ
def mo_layDepths_pt : sl_PT := fun As μ Q => match As with
  | [.inr (.inr (some (c0, a0)))] => if c0 = 12 then (if a0 = 104 then (mo_layDepths μ (fun μ' => Q none μ')) else False) else False
  | _ => False
def mo_layDepths_cd : List sl_Ent := [(0, .iconst 0, 1, 0, [], [], false), (1, .istore_n 1, 1, 0, [1], [], false), (2, .iload_n 1, 1, 0, [1], [], true), (3, .sipush 1000, 3, 1000, [], [], false), (6, .if_icmp .ge 23, 3, 0, [29], [], false), (9, .aload_n 0, 1, 0, [0], [], false), (10, .getfield 40, 3, 0, [12, 11, 2, 20, 11], [], false), (13, .iload_n 1, 1, 0, [1], [], false), (14, .iconst 0, 1, 0, [], [], false), (15, .iastore, 1, 0, [], [], false), (16, .aload_n 0, 1, 0, [0], [], false), (17, .getfield 43, 3, 0, [12, 12, 2, 20, 12], [], false), (20, .iload_n 1, 1, 0, [1], [], false), (21, .iconst 0, 1, 0, [], [], false), (22, .iastore, 1, 0, [], [], false), (23, .iinc 1 1, 3, 1, [], [], false), (26, .goto (-24), 3, 0, [2], [], false), (29, .iconst 0, 1, 0, [], [], false), (30, .istore_n 1, 1, 0, [1], [], false), (31, .iload_n 1, 1, 0, [1], [], true), (32, .bipush 30, 2, 30, [], [], false), (34, .if_icmp .ge 67, 3, 0, [101], [], false), (37, .aload_n 0, 1, 0, [0], [], false), (38, .getfield 7, 3, 0, [12, 0, 2, 20, 1], [], false), (41, .iload_n 1, 1, 0, [1], [], false), (42, .iaload, 1, 0, [], [], false), (43, .istore_n 2, 1, 0, [2], [], false), (44, .aload_n 0, 1, 0, [0], [], true), (45, .getfield 19, 3, 0, [12, 3, 2, 20, 4], [], false), (48, .iload_n 1, 1, 0, [1], [], false), (49, .iaload, 1, 0, [], [], false), (50, .iconst 1, 1, 1, [], [], false), (51, .if_icmp .ne 44, 3, 0, [95], [], false), (54, .iload_n 2, 1, 0, [2], [], false), (55, .aload_n 0, 1, 0, [0], [], false), (56, .getfield 13, 3, 0, [12, 1, 2, 20, 2], [], false), (59, .iload_n 1, 1, 0, [1], [], false), (60, .iaload, 1, 0, [], [], false), (61, .if_icmp .gt 34, 3, 0, [95], [], false), (64, .aload_n 0, 1, 0, [0], [], false), (65, .getfield 40, 3, 0, [12, 11, 2, 20, 11], [], false), (68, .iload_n 2, 1, 0, [2], [], false), (69, .dup2, 1, 0, [], [], false), (70, .iaload, 1, 0, [], [], false), (71, .iconst 1, 1, 1, [], [], false), (72, .iadd, 1, 0, [], [], false), (73, .iastore, 1, 0, [], [], false), (74, .aload_n 0, 1, 0, [0], [], false), (75, .getfield 43, 3, 0, [12, 12, 2, 20, 12], [], false), (78, .iload_n 2, 1, 0, [2], [], false), (79, .dup2, 1, 0, [], [], false), (80, .iaload, 1, 0, [], [], false), (81, .aload_n 0, 1, 0, [0], [], false), (82, .getfield 16, 3, 0, [12, 2, 2, 20, 3], [], false), (85, .iload_n 1, 1, 0, [1], [], false), (86, .iaload, 1, 0, [], [], false), (87, .iadd, 1, 0, [], [], false), (88, .iastore, 1, 0, [], [], false), (89, .iinc 2 1, 3, 1, [], [], false), (92, .goto (-48), 3, 0, [44], [], false), (95, .iinc 1 1, 3, 1, [], [], false), (98, .goto (-67), 3, 0, [31], [], false), (101, .return_, 1, 0, [], [], false)]
def mo_layDepths_y : MethodName := ⟨"SpanLayersModel", "layDepths", "()V"⟩
theorem mo_layDepths_tb : sl_tbOK sl_R12 prog_14_method_46_code 3 none lk_mo [] mo_layDepths_cd = true := by decide +kernel
def mo_layDepths_ct : List sl_Ct := []
theorem mo_layDepths_hc (g : sl_G) : sl_HC g sl_R12 0 mo_layDepths_ct [] := sl_HC_nil g sl_R12 0
set_option maxRecDepth 20000 in
set_option maxHeartbeats 2000000 in
theorem mo_layDepths_snd (g : sl_G) : sl_Snd g mo_layDepths_y prog_14_method_46_code 3 none 0 (mo_layDepths_pt) := by
  intro As μ Q hw h
  unfold mo_layDepths_pt at h
  split at h
  next c0 a0 =>
    split at h
    next e_ =>
      subst e_
      split at h
      next e_ =>
        subst e_
        refine sl_mk2 g [true, false, false] (cst := [some (.inr (.inr (some (12, 104))))]) (lv0 := [none, none, none]) (by decide) rfl hw rfl rfl rfl lk_mo_ok (mo_layDepths_hc g) mo_layDepths_tb rfl ?_
        intro X M
        have v31 := sl_extL M sl_VV0 31 (fun n lv st μ => match lv, st with | [_, some (.inl x1), _], [] => mo_layDepths_L31 (fun μ' => Q none μ') n x1 μ | _, _ => False) (by
            intro lv st μ h
            split at h
            · exact h
            · exact h) (by
            intro n31 w31
            have v44 := sl_extL M w31 44 (fun n lv st μ => match lv, st with | [_, some (.inl x1), some (.inl x2)], [] => mo_layDepths_L44 (fun μ' => Q none μ') (mo_layDepths_L31 (fun μ' => Q none μ') n31) n x1 x2 μ | _, _ => False) (by
                intro lv st μ h
                split at h
                · exact h
                · exact h) (by
                intro n44 w44
                refine ⟨_, w44, ?_⟩
                intro lv st μ h
                split at h
                · exact h
                · exact h.elim)
            refine ⟨_, v44, ?_⟩
            intro lv st μ h
            split at h
            · exact h
            · exact h.elim)
        have v2 := sl_extL M v31 2 (fun n lv st μ => match lv, st with | [_, some (.inl x1), _], [] => mo_layDepths_L2 (fun μ' => Q none μ') n x1 μ | _, _ => False) (by
            intro lv st μ h
            split at h
            · exact h
            · exact h) (by
            intro n2 w2
            refine ⟨_, w2, ?_⟩
            intro lv st μ h
            split at h
            · exact h
            · exact h.elim)
        exact ⟨_, v2, h⟩
      next => exact h.elim
    next => exact h.elim
  next => exact h.elim
def mo_leastLow_L6 (Q : Int32 → sl_M → Prop) : Nat → Int32 → Int32 → sl_M → Prop
  | 0, _, _, _ => False
  | n + 1, x1, x2, μ => (x2 < (30 : Int32) → vp_in x2 30 ∧ ((μ 108 x2.toNatClampNeg) = (1 : Int32) → vp_in x2 30 ∧ ((μ 105 x2.toNatClampNeg) < x1 → vp_in x2 30 ∧ (mo_leastLow_L6 Q n) (μ 105 x2.toNatClampNeg) (x2 + (1 : Int32)) μ) ∧ (¬ (μ 105 x2.toNatClampNeg) < x1 → (mo_leastLow_L6 Q n) x1 (x2 + (1 : Int32)) μ)) ∧ (¬ (μ 108 x2.toNatClampNeg) = (1 : Int32) → (mo_leastLow_L6 Q n) x1 (x2 + (1 : Int32)) μ)) ∧ (¬ x2 < (30 : Int32) → Q x1 μ)
def mo_leastLow (μ : sl_M) (Q : Int32 → sl_M → Prop) : Prop := ∃ n1, mo_leastLow_L6 Q n1 (1000 : Int32) (0 : Int32) μ
def mo_leastLow_pt : sl_PT := fun As μ Q => match As with
  | [.inr (.inr (some (c0, a0)))] => if c0 = 12 then (if a0 = 104 then (mo_leastLow μ (fun r μ' => Q (some (.inl r)) μ')) else False) else False
  | _ => False
def mo_leastLow_cd : List sl_Ent := [(0, .sipush 1000, 3, 1000, [], [], false), (3, .istore_n 1, 1, 0, [1], [], false), (4, .iconst 0, 1, 0, [], [], false), (5, .istore_n 2, 1, 0, [2], [], false), (6, .iload_n 2, 1, 0, [2], [], true), (7, .bipush 30, 2, 30, [], [], false), (9, .if_icmp .ge 40, 3, 0, [49], [], false), (12, .aload_n 0, 1, 0, [0], [], false), (13, .getfield 19, 3, 0, [12, 3, 2, 20, 4], [], false), (16, .iload_n 2, 1, 0, [2], [], false), (17, .iaload, 1, 0, [], [], false), (18, .iconst 1, 1, 1, [], [], false), (19, .if_icmp .ne 22, 3, 0, [41], [], false), (22, .aload_n 0, 1, 0, [0], [], false), (23, .getfield 7, 3, 0, [12, 0, 2, 20, 1], [], false), (26, .iload_n 2, 1, 0, [2], [], false), (27, .iaload, 1, 0, [], [], false), (28, .iload_n 1, 1, 0, [1], [], false), (29, .if_icmp .ge 12, 3, 0, [41], [], false), (32, .aload_n 0, 1, 0, [0], [], false), (33, .getfield 7, 3, 0, [12, 0, 2, 20, 1], [], false), (36, .iload_n 2, 1, 0, [2], [], false), (37, .iaload, 1, 0, [], [], false), (38, .goto 4, 3, 0, [42], [], false), (41, .iload_n 1, 1, 0, [1], [], false), (42, .istore_n 1, 1, 0, [1], [], false), (43, .iinc 2 1, 3, 1, [], [], false), (46, .goto (-40), 3, 0, [6], [], false), (49, .iload_n 1, 1, 0, [1], [], false), (50, .ireturn, 1, 0, [], [], false)]
def mo_leastLow_y : MethodName := ⟨"SpanLayersModel", "leastLow", "()I"⟩
theorem mo_leastLow_tb : sl_tbOK sl_R12 prog_14_method_47_code 3 (some .int) lk_mo [] mo_leastLow_cd = true := by decide +kernel
def mo_leastLow_ct : List sl_Ct := []
theorem mo_leastLow_hc (g : sl_G) : sl_HC g sl_R12 0 mo_leastLow_ct [] := sl_HC_nil g sl_R12 0
set_option maxRecDepth 20000 in
set_option maxHeartbeats 2000000 in
theorem mo_leastLow_snd (g : sl_G) : sl_Snd g mo_leastLow_y prog_14_method_47_code 3 (some .int) 0 (mo_leastLow_pt) := by
  intro As μ Q hw h
  unfold mo_leastLow_pt at h
  split at h
  next c0 a0 =>
    split at h
    next e_ =>
      subst e_
      split at h
      next e_ =>
        subst e_
        refine sl_mk2 g [true, false, false] (cst := [some (.inr (.inr (some (12, 104))))]) (lv0 := [none, none, none]) (by decide) rfl hw rfl rfl rfl lk_mo_ok (mo_leastLow_hc g) mo_leastLow_tb rfl ?_
        intro X M
        have v6 := sl_extL M sl_VV0 6 (fun n lv st μ => match lv, st with | [_, some (.inl x1), some (.inl x2)], [] => mo_leastLow_L6 (fun r μ' => Q (some (.inl r)) μ') n x1 x2 μ | _, _ => False) (by
            intro lv st μ h
            split at h
            · exact h
            · exact h) (by
            intro n6 w6
            refine ⟨_, w6, ?_⟩
            intro lv st μ h
            split at h
            · exact h
            · exact h.elim)
        exact ⟨_, v6, h⟩
      next => exact h.elim
    next => exact h.elim
  next => exact h.elim
def mo_greatestHigh_L4 (Q : Int32 → sl_M → Prop) : Nat → Int32 → Int32 → sl_M → Prop
  | 0, _, _, _ => False
  | n + 1, x1, x2, μ => (x2 < (30 : Int32) → vp_in x2 30 ∧ ((μ 108 x2.toNatClampNeg) = (1 : Int32) → vp_in x2 30 ∧ ((μ 106 x2.toNatClampNeg) ≤ x1 → (mo_greatestHigh_L4 Q n) x1 (x2 + (1 : Int32)) μ) ∧ (¬ (μ 106 x2.toNatClampNeg) ≤ x1 → vp_in x2 30 ∧ (mo_greatestHigh_L4 Q n) (μ 106 x2.toNatClampNeg) (x2 + (1 : Int32)) μ)) ∧ (¬ (μ 108 x2.toNatClampNeg) = (1 : Int32) → (mo_greatestHigh_L4 Q n) x1 (x2 + (1 : Int32)) μ)) ∧ (¬ x2 < (30 : Int32) → Q x1 μ)
def mo_greatestHigh (μ : sl_M) (Q : Int32 → sl_M → Prop) : Prop := ∃ n1, mo_greatestHigh_L4 Q n1 (-1 : Int32) (0 : Int32) μ
def mo_greatestHigh_pt : sl_PT := fun As μ Q => match As with
  | [.inr (.inr (some (c0, a0)))] => if c0 = 12 then (if a0 = 104 then (mo_greatestHigh μ (fun r μ' => Q (some (.inl r)) μ')) else False) else False
  | _ => False
def mo_greatestHigh_cd : List sl_Ent := [(0, .iconst (-1), 1, (-1), [], [], false), (1, .istore_n 1, 1, 0, [1], [], false), (2, .iconst 0, 1, 0, [], [], false), (3, .istore_n 2, 1, 0, [2], [], false), (4, .iload_n 2, 1, 0, [2], [], true), (5, .bipush 30, 2, 30, [], [], false), (7, .if_icmp .ge 40, 3, 0, [47], [], false), (10, .aload_n 0, 1, 0, [0], [], false), (11, .getfield 19, 3, 0, [12, 3, 2, 20, 4], [], false), (14, .iload_n 2, 1, 0, [2], [], false), (15, .iaload, 1, 0, [], [], false), (16, .iconst 1, 1, 1, [], [], false), (17, .if_icmp .ne 22, 3, 0, [39], [], false), (20, .aload_n 0, 1, 0, [0], [], false), (21, .getfield 13, 3, 0, [12, 1, 2, 20, 2], [], false), (24, .iload_n 2, 1, 0, [2], [], false), (25, .iaload, 1, 0, [], [], false), (26, .iload_n 1, 1, 0, [1], [], false), (27, .if_icmp .le 12, 3, 0, [39], [], false), (30, .aload_n 0, 1, 0, [0], [], false), (31, .getfield 13, 3, 0, [12, 1, 2, 20, 2], [], false), (34, .iload_n 2, 1, 0, [2], [], false), (35, .iaload, 1, 0, [], [], false), (36, .goto 4, 3, 0, [40], [], false), (39, .iload_n 1, 1, 0, [1], [], false), (40, .istore_n 1, 1, 0, [1], [], false), (41, .iinc 2 1, 3, 1, [], [], false), (44, .goto (-40), 3, 0, [4], [], false), (47, .iload_n 1, 1, 0, [1], [], false), (48, .ireturn, 1, 0, [], [], false)]
def mo_greatestHigh_y : MethodName := ⟨"SpanLayersModel", "greatestHigh", "()I"⟩
theorem mo_greatestHigh_tb : sl_tbOK sl_R12 prog_14_method_48_code 3 (some .int) lk_mo [] mo_greatestHigh_cd = true := by decide +kernel
def mo_greatestHigh_ct : List sl_Ct := []
theorem mo_greatestHigh_hc (g : sl_G) : sl_HC g sl_R12 0 mo_greatestHigh_ct [] := sl_HC_nil g sl_R12 0
set_option maxRecDepth 20000 in
set_option maxHeartbeats 2000000 in
theorem mo_greatestHigh_snd (g : sl_G) : sl_Snd g mo_greatestHigh_y prog_14_method_48_code 3 (some .int) 0 (mo_greatestHigh_pt) := by
  intro As μ Q hw h
  unfold mo_greatestHigh_pt at h
  split at h
  next c0 a0 =>
    split at h
    next e_ =>
      subst e_
      split at h
      next e_ =>
        subst e_
        refine sl_mk2 g [true, false, false] (cst := [some (.inr (.inr (some (12, 104))))]) (lv0 := [none, none, none]) (by decide) rfl hw rfl rfl rfl lk_mo_ok (mo_greatestHigh_hc g) mo_greatestHigh_tb rfl ?_
        intro X M
        have v4 := sl_extL M sl_VV0 4 (fun n lv st μ => match lv, st with | [_, some (.inl x1), some (.inl x2)], [] => mo_greatestHigh_L4 (fun r μ' => Q (some (.inl r)) μ') n x1 x2 μ | _, _ => False) (by
            intro lv st μ h
            split at h
            · exact h
            · exact h) (by
            intro n4 w4
            refine ⟨_, w4, ?_⟩
            intro lv st μ h
            split at h
            · exact h
            · exact h.elim)
        exact ⟨_, v4, h⟩
      next => exact h.elim
    next => exact h.elim
  next => exact h.elim
def mo_layRuns_B84 (a1 : Int32) (Q : sl_M → Prop) (k22 : Int32 → Int32 → Int32 → sl_M → Prop) : Int32 → Int32 → Int32 → sl_M → Prop
  | x3, x4, x5, μ => (x5 = (0 : Int32) → k22 x5 x3 (x4 + (1 : Int32)) μ) ∧ (¬ x5 = (0 : Int32) → vp_in ((μ 104 13) - (1 : Int32)) 31 ∧ ∀ m3, m3 = sl_up μ 118 ((μ 104 13) - (1 : Int32)).toNatClampNeg x4 → k22 x5 x3 (x4 + (1 : Int32)) m3)
def mo_layRuns_B54 (a1 : Int32) (Q : sl_M → Prop) (k22 : Int32 → Int32 → Int32 → sl_M → Prop) : Int32 → Int32 → Int32 → Int32 → sl_M → Prop
  | x2, x3, x4, x5, μ => (x5 = (0 : Int32) → mo_layRuns_B84 a1 Q k22 x3 x4 x5 μ) ∧ (¬ x5 = (0 : Int32) → (x2 = (0 : Int32) → vp_in (μ 104 13) 31 ∧ ∀ m1, m1 = sl_up μ 117 (μ 104 13).toNatClampNeg x4 → ∀ m2, m2 = sl_up m1 104 13 ((m1 104 13) + (1 : Int32)) → mo_layRuns_B84 a1 Q k22 x3 x4 x5 m2) ∧ (¬ x2 = (0 : Int32) → mo_layRuns_B84 a1 Q k22 x3 x4 x5 μ))
def mo_layRuns_L22 (a1 : Int32) (Q : sl_M → Prop) : Nat → Int32 → Int32 → Int32 → sl_M → Prop
  | 0, _, _, _, _ => False
  | n + 1, x2, x3, x4, μ => (x4 ≤ x3 → vp_in x4 1000 ∧ ((μ 115 x4.toNatClampNeg) ≤ (0 : Int32) → ((0 : Int32) = a1 → mo_layRuns_B54 a1 Q (mo_layRuns_L22 a1 Q n) x2 x3 x4 (1 : Int32) μ) ∧ (¬ (0 : Int32) = a1 → mo_layRuns_B54 a1 Q (mo_layRuns_L22 a1 Q n) x2 x3 x4 (0 : Int32) μ)) ∧ (¬ (μ 115 x4.toNatClampNeg) ≤ (0 : Int32) → ((1 : Int32) = a1 → mo_layRuns_B54 a1 Q (mo_layRuns_L22 a1 Q n) x2 x3 x4 (1 : Int32) μ) ∧ (¬ (1 : Int32) = a1 → mo_layRuns_B54 a1 Q (mo_layRuns_L22 a1 Q n) x2 x3 x4 (0 : Int32) μ))) ∧ (¬ x4 ≤ x3 → Q μ)
def mo_layRuns (a1 : Int32) (μ : sl_M) (Q : sl_M → Prop) : Prop := mo_layDepths μ (fun m4 => ∀ m5, m5 = sl_up m4 104 13 (0 : Int32) → mo_greatestHigh m5 (fun r7 m6 => mo_leastLow m6 (fun r9 m8 => ∃ n10, mo_layRuns_L22 a1 Q n10 (0 : Int32) r7 r9 m8)))
def mo_layRuns_pt : sl_PT := fun As μ Q => match As with
  | [.inr (.inr (some (c0, a0))), .inl a1] => if c0 = 12 then (if a0 = 104 then (mo_layRuns a1 μ (fun μ' => Q none μ')) else False) else False
  | _ => False
def mo_layRuns_cd : List sl_Ent := [(0, .aload_n 0, 1, 0, [0], [], false), (1, .invokevirtual 226, 3, 0, [0], [], false), (4, .aload_n 0, 1, 0, [0], [], false), (5, .iconst 0, 1, 0, [], [], false), (6, .putfield 229, 3, 0, [12, 13, 0], [], false), (9, .iconst 0, 1, 0, [], [], false), (10, .istore_n 2, 1, 0, [2], [], false), (11, .aload_n 0, 1, 0, [0], [], false), (12, .invokevirtual 232, 3, 0, [1], [], false), (15, .istore_n 3, 1, 0, [3], [], false), (16, .aload_n 0, 1, 0, [0], [], false), (17, .invokevirtual 235, 3, 0, [2], [], false), (20, .istore 4, 2, 0, [4], [], false), (22, .iload 4, 2, 0, [4], [], true), (24, .iload_n 3, 1, 0, [3], [], false), (25, .if_icmp .gt 86, 3, 0, [111], [], false), (28, .aload_n 0, 1, 0, [0], [], false), (29, .getfield 40, 3, 0, [12, 11, 2, 20, 11], [], false), (32, .iload 4, 2, 0, [4], [], false), (34, .iaload, 1, 0, [], [], false), (35, .ifCond .le 7, 3, 0, [42], [], false), (38, .iconst 1, 1, 1, [], [], false), (39, .goto 4, 3, 0, [43], [], false), (42, .iconst 0, 1, 0, [], [], false), (43, .iload_n 1, 1, 0, [1], [], false), (44, .if_icmp .ne 7, 3, 0, [51], [], false), (47, .iconst 1, 1, 1, [], [], false), (48, .goto 4, 3, 0, [52], [], false), (51, .iconst 0, 1, 0, [], [], false), (52, .istore 5, 2, 0, [5], [], false), (54, .iload 5, 2, 0, [5], [], true), (56, .ifCond .eq 28, 3, 0, [84], [], false), (59, .iload_n 2, 1, 0, [2], [], false), (60, .ifCond .ne 24, 3, 0, [84], [], false), (63, .aload_n 0, 1, 0, [0], [], false), (64, .getfield 46, 3, 0, [12, 14, 2, 20, 13], [], false), (67, .aload_n 0, 1, 0, [0], [], false), (68, .getfield 229, 3, 0, [12, 13, 0, 0, 0], [], false), (71, .iload 4, 2, 0, [4], [], false), (73, .iastore, 1, 0, [], [], false), (74, .aload_n 0, 1, 0, [0], [], false), (75, .dup, 1, 0, [], [], false), (76, .getfield 229, 3, 0, [12, 13, 0, 0, 0], [], false), (79, .iconst 1, 1, 1, [], [], false), (80, .iadd, 1, 0, [], [], false), (81, .putfield 229, 3, 0, [12, 13, 0], [], false), (84, .iload 5, 2, 0, [5], [], true), (86, .ifCond .eq 16, 3, 0, [102], [], false), (89, .aload_n 0, 1, 0, [0], [], false), (90, .getfield 49, 3, 0, [12, 15, 2, 20, 14], [], false), (93, .aload_n 0, 1, 0, [0], [], false), (94, .getfield 229, 3, 0, [12, 13, 0, 0, 0], [], false), (97, .iconst 1, 1, 1, [], [], false), (98, .isub, 1, 0, [], [], false), (99, .iload 4, 2, 0, [4], [], false), (101, .iastore, 1, 0, [], [], false), (102, .iload 5, 2, 0, [5], [], false), (104, .istore_n 2, 1, 0, [2], [], false), (105, .iinc 4 1, 3, 1, [], [], false), (108, .goto (-86), 3, 0, [22], [], false), (111, .return_, 1, 0, [], [], false)]
def mo_layRuns_y : MethodName := ⟨"SpanLayersModel", "layRuns", "(Z)V"⟩
theorem mo_layRuns_tb : sl_tbOK sl_R12 prog_14_method_49_code 6 none lk_mo [(226, 0), (232, 0), (235, 0)] mo_layRuns_cd = true := by decide +kernel
theorem mo_layDepths_w2 : Cond.instanceMethod mo_layDepths_y ∈ sl_T0 := sl_in1 1353 (by decide +kernel) rfl
theorem mo_layDepths_w3 : Cond.selects mo_layDepths_y.cls mo_layDepths_y mo_layDepths_y ∈ sl_T0 := sl_in1 42 (by decide +kernel) rfl
theorem mo_layDepths_w4 : Cond.initialized mo_layDepths_y.cls ∈ sl_T0 := sl_in1 97 (by decide +kernel) rfl
theorem mo_layDepths_w5 : Cond.code mo_layDepths_y prog_14_method_46_code 3 none ∈ sl_T0 := sl_in1 1354 (by decide +kernel) rfl
theorem mo_layDepths_w6 : mo_layDepths_y.cls ≠ "java/lang/invoke/MethodHandle" ∧ mo_layDepths_y.cls ≠ "java/lang/invoke/VarHandle" ∧ (parseMethodDescriptor mo_layDepths_y.desc).map (fun d => d.parameters.length) = some 0 := by decide +kernel
theorem cs_mo_226 (g : sl_G) {hh : Nat} (h : 1 ≤ hh) : sl_CallS g sl_R12 226 0 12 hh 1 mo_layDepths_pt := sl_callV (y := mo_layDepths_y) (T := sl_F12) (N := 50) (mo_layDepths_snd g) h (by decide) (sl_in1 1351 (by decide +kernel) rfl) mo_layDepths_w2 mo_layDepths_w3 mo_layDepths_w4 mo_layDepths_w5 mo_layDepths_w6 rfl (by decide)
theorem mo_greatestHigh_w2 : Cond.instanceMethod mo_greatestHigh_y ∈ sl_T0 := sl_in1 1357 (by decide +kernel) rfl
theorem mo_greatestHigh_w3 : Cond.selects mo_greatestHigh_y.cls mo_greatestHigh_y mo_greatestHigh_y ∈ sl_T0 := sl_in1 43 (by decide +kernel) rfl
theorem mo_greatestHigh_w4 : Cond.initialized mo_greatestHigh_y.cls ∈ sl_T0 := sl_in1 97 (by decide +kernel) rfl
theorem mo_greatestHigh_w5 : Cond.code mo_greatestHigh_y prog_14_method_48_code 3 (some .int) ∈ sl_T0 := sl_in1 1358 (by decide +kernel) rfl
theorem mo_greatestHigh_w6 : mo_greatestHigh_y.cls ≠ "java/lang/invoke/MethodHandle" ∧ mo_greatestHigh_y.cls ≠ "java/lang/invoke/VarHandle" ∧ (parseMethodDescriptor mo_greatestHigh_y.desc).map (fun d => d.parameters.length) = some 0 := by decide +kernel
theorem cs_mo_232 (g : sl_G) {hh : Nat} (h : 1 ≤ hh) : sl_CallS g sl_R12 232 0 12 hh 1 mo_greatestHigh_pt := sl_callV (y := mo_greatestHigh_y) (T := sl_F12) (N := 50) (mo_greatestHigh_snd g) h (by decide) (sl_in1 1355 (by decide +kernel) rfl) mo_greatestHigh_w2 mo_greatestHigh_w3 mo_greatestHigh_w4 mo_greatestHigh_w5 mo_greatestHigh_w6 rfl (by decide)
theorem mo_leastLow_w2 : Cond.instanceMethod mo_leastLow_y ∈ sl_T0 := sl_in1 1361 (by decide +kernel) rfl
theorem mo_leastLow_w3 : Cond.selects mo_leastLow_y.cls mo_leastLow_y mo_leastLow_y ∈ sl_T0 := sl_in1 44 (by decide +kernel) rfl
theorem mo_leastLow_w4 : Cond.initialized mo_leastLow_y.cls ∈ sl_T0 := sl_in1 97 (by decide +kernel) rfl
theorem mo_leastLow_w5 : Cond.code mo_leastLow_y prog_14_method_47_code 3 (some .int) ∈ sl_T0 := sl_in1 1362 (by decide +kernel) rfl
theorem mo_leastLow_w6 : mo_leastLow_y.cls ≠ "java/lang/invoke/MethodHandle" ∧ mo_leastLow_y.cls ≠ "java/lang/invoke/VarHandle" ∧ (parseMethodDescriptor mo_leastLow_y.desc).map (fun d => d.parameters.length) = some 0 := by decide +kernel
theorem cs_mo_235 (g : sl_G) {hh : Nat} (h : 1 ≤ hh) : sl_CallS g sl_R12 235 0 12 hh 1 mo_leastLow_pt := sl_callV (y := mo_leastLow_y) (T := sl_F12) (N := 50) (mo_leastLow_snd g) h (by decide) (sl_in1 1359 (by decide +kernel) rfl) mo_leastLow_w2 mo_leastLow_w3 mo_leastLow_w4 mo_leastLow_w5 mo_leastLow_w6 rfl (by decide)
def mo_layRuns_ct : List sl_Ct := [(1, 0, 12, mo_layDepths_pt), (1, 0, 12, mo_greatestHigh_pt), (1, 0, 12, mo_leastLow_pt)]
theorem mo_layRuns_hc (g : sl_G) : sl_HC g sl_R12 1 mo_layRuns_ct [(226, 0), (232, 0), (235, 0)] := sl_HC_cons (cs_mo_226 g (by decide)) (sl_HC_cons (cs_mo_232 g (by decide)) (sl_HC_cons (cs_mo_235 g (by decide)) (sl_HC_nil g sl_R12 1)))
set_option maxRecDepth 20000 in
set_option maxHeartbeats 2000000 in
theorem mo_layRuns_snd (g : sl_G) : sl_Snd g mo_layRuns_y prog_14_method_49_code 6 none 1 (mo_layRuns_pt) := by
  intro As μ Q hw h
  unfold mo_layRuns_pt at h
  split at h
  next c0 a0 a1 =>
    split at h
    next e_ =>
      subst e_
      split at h
      next e_ =>
        subst e_
        refine sl_mk2 g [true, true, false, false, false, false] (cst := [some (.inr (.inr (some (12, 104)))), some (.inl a1)]) (lv0 := [none, none, none, none, none, none]) (by decide) rfl hw rfl rfl rfl lk_mo_ok (mo_layRuns_hc g) mo_layRuns_tb rfl ?_
        intro X M
        have v22 := sl_extL M sl_VV0 22 (fun n lv st μ => match lv, st with | [_, _, some (.inl x2), some (.inl x3), some (.inl x4), _], [] => mo_layRuns_L22 a1 (fun μ' => Q none μ') n x2 x3 x4 μ | _, _ => False) (by
            intro lv st μ h
            split at h
            · exact h
            · exact h) (by
            intro n22 w22
            have v84 := sl_ext M w22 84 (fun lv st μ => match lv, st with | [_, _, _, some (.inl x3), some (.inl x4), some (.inl x5)], [] => mo_layRuns_B84 a1 (fun μ' => Q none μ') (mo_layRuns_L22 a1 (fun μ' => Q none μ') n22) x3 x4 x5 μ | _, _ => False) (by
                intro lv st μ h
                split at h
                · exact h
                · exact h.elim)
            have v54 := sl_ext M v84 54 (fun lv st μ => match lv, st with | [_, _, some (.inl x2), some (.inl x3), some (.inl x4), some (.inl x5)], [] => mo_layRuns_B54 a1 (fun μ' => Q none μ') (mo_layRuns_L22 a1 (fun μ' => Q none μ') n22) x2 x3 x4 x5 μ | _, _ => False) (by
                intro lv st μ h
                split at h
                · exact h
                · exact h.elim)
            refine ⟨_, v54, ?_⟩
            intro lv st μ h
            split at h
            · exact h
            · exact h.elim)
        exact ⟨_, v22, h⟩
      next => exact h.elim
    next => exact h.elim
  next => exact h.elim
def mo_runPlaces_L4 (Q : Int32 → sl_M → Prop) : Nat → Int32 → Int32 → sl_M → Prop
  | 0, _, _, _ => False
  | n + 1, x1, x2, μ => (x2 < (μ 104 13) → vp_in x2 31 ∧ vp_in x2 31 ∧ ∀ v1, v1 = (x1 + (((μ 118 x2.toNatClampNeg) - (μ 117 x2.toNatClampNeg)) + (1 : Int32))) → (mo_runPlaces_L4 Q n) v1 (x2 + (1 : Int32)) μ) ∧ (¬ x2 < (μ 104 13) → Q x1 μ)
def mo_runPlaces (μ : sl_M) (Q : Int32 → sl_M → Prop) : Prop := ∃ n2, mo_runPlaces_L4 Q n2 (0 : Int32) (0 : Int32) μ
def mo_runPlaces_pt : sl_PT := fun As μ Q => match As with
  | [.inr (.inr (some (c0, a0)))] => if c0 = 12 then (if a0 = 104 then (mo_runPlaces μ (fun r μ' => Q (some (.inl r)) μ')) else False) else False
  | _ => False
def mo_runPlaces_cd : List sl_Ent := [(0, .iconst 0, 1, 0, [], [], false), (1, .istore_n 1, 1, 0, [1], [], false), (2, .iconst 0, 1, 0, [], [], false), (3, .istore_n 2, 1, 0, [2], [], false), (4, .iload_n 2, 1, 0, [2], [], true), (5, .aload_n 0, 1, 0, [0], [], false), (6, .getfield 229, 3, 0, [12, 13, 0, 0, 0], [], false), (9, .if_icmp .ge 27, 3, 0, [36], [], false), (12, .iload_n 1, 1, 0, [1], [], false), (13, .aload_n 0, 1, 0, [0], [], false), (14, .getfield 49, 3, 0, [12, 15, 2, 20, 14], [], false), (17, .iload_n 2, 1, 0, [2], [], false), (18, .iaload, 1, 0, [], [], false), (19, .aload_n 0, 1, 0, [0], [], false), (20, .getfield 46, 3, 0, [12, 14, 2, 20, 13], [], false), (23, .iload_n 2, 1, 0, [2], [], false), (24, .iaload, 1, 0, [], [], false), (25, .isub, 1, 0, [], [], false), (26, .iconst 1, 1, 1, [], [], false), (27, .iadd, 1, 0, [], [], false), (28, .iadd, 1, 0, [], [], false), (29, .istore_n 1, 1, 0, [1, 1], [], false), (30, .iinc 2 1, 3, 1, [], [], false), (33, .goto (-29), 3, 0, [4], [], false), (36, .iload_n 1, 1, 0, [1], [], false), (37, .ireturn, 1, 0, [], [], false)]
def mo_runPlaces_y : MethodName := ⟨"SpanLayersModel", "runPlaces", "()I"⟩
theorem mo_runPlaces_tb : sl_tbOK sl_R12 prog_14_method_50_code 3 (some .int) lk_mo [] mo_runPlaces_cd = true := by decide +kernel
def mo_runPlaces_ct : List sl_Ct := []
theorem mo_runPlaces_hc (g : sl_G) : sl_HC g sl_R12 0 mo_runPlaces_ct [] := sl_HC_nil g sl_R12 0
set_option maxRecDepth 20000 in
set_option maxHeartbeats 2000000 in
theorem mo_runPlaces_snd (g : sl_G) : sl_Snd g mo_runPlaces_y prog_14_method_50_code 3 (some .int) 0 (mo_runPlaces_pt) := by
  intro As μ Q hw h
  unfold mo_runPlaces_pt at h
  split at h
  next c0 a0 =>
    split at h
    next e_ =>
      subst e_
      split at h
      next e_ =>
        subst e_
        refine sl_mk2 g [true, false, false] (cst := [some (.inr (.inr (some (12, 104))))]) (lv0 := [none, none, none]) (by decide) rfl hw rfl rfl rfl lk_mo_ok (mo_runPlaces_hc g) mo_runPlaces_tb rfl ?_
        intro X M
        have v4 := sl_extL M sl_VV0 4 (fun n lv st μ => match lv, st with | [_, some (.inl x1), some (.inl x2)], [] => mo_runPlaces_L4 (fun r μ' => Q (some (.inl r)) μ') n x1 x2 μ | _, _ => False) (by
            intro lv st μ h
            split at h
            · exact h
            · exact h) (by
            intro n4 w4
            refine ⟨_, w4, ?_⟩
            intro lv st μ h
            split at h
            · exact h
            · exact h.elim)
        exact ⟨_, v4, h⟩
      next => exact h.elim
    next => exact h.elim
  next => exact h.elim
def mo_greatestRun_L4 (Q : Int32 → sl_M → Prop) : Nat → Int32 → Int32 → sl_M → Prop
  | 0, _, _, _ => False
  | n + 1, x1, x2, μ => (x2 < (μ 104 13) → vp_in x2 31 ∧ vp_in x2 31 ∧ ∀ v1, v1 = (((μ 118 x2.toNatClampNeg) - (μ 117 x2.toNatClampNeg)) + (1 : Int32)) → (v1 ≤ x1 → (mo_greatestRun_L4 Q n) x1 (x2 + (1 : Int32)) μ) ∧ (¬ v1 ≤ x1 → (mo_greatestRun_L4 Q n) v1 (x2 + (1 : Int32)) μ)) ∧ (¬ x2 < (μ 104 13) → Q x1 μ)
def mo_greatestRun (μ : sl_M) (Q : Int32 → sl_M → Prop) : Prop := ∃ n2, mo_greatestRun_L4 Q n2 (0 : Int32) (0 : Int32) μ
def mo_greatestRun_pt : sl_PT := fun As μ Q => match As with
  | [.inr (.inr (some (c0, a0)))] => if c0 = 12 then (if a0 = 104 then (mo_greatestRun μ (fun r μ' => Q (some (.inl r)) μ')) else False) else False
  | _ => False
def mo_greatestRun_cd : List sl_Ent := [(0, .iconst 0, 1, 0, [], [], false), (1, .istore_n 1, 1, 0, [1], [], false), (2, .iconst 0, 1, 0, [], [], false), (3, .istore_n 2, 1, 0, [2], [], false), (4, .iload_n 2, 1, 0, [2], [], true), (5, .aload_n 0, 1, 0, [0], [], false), (6, .getfield 229, 3, 0, [12, 13, 0, 0, 0], [], false), (9, .if_icmp .ge 36, 3, 0, [45], [], false), (12, .aload_n 0, 1, 0, [0], [], false), (13, .getfield 49, 3, 0, [12, 15, 2, 20, 14], [], false), (16, .iload_n 2, 1, 0, [2], [], false), (17, .iaload, 1, 0, [], [], false), (18, .aload_n 0, 1, 0, [0], [], false), (19, .getfield 46, 3, 0, [12, 14, 2, 20, 13], [], false), (22, .iload_n 2, 1, 0, [2], [], false), (23, .iaload, 1, 0, [], [], false), (24, .isub, 1, 0, [], [], false), (25, .iconst 1, 1, 1, [], [], false), (26, .iadd, 1, 0, [], [], false), (27, .istore_n 3, 1, 0, [3, 1], [], false), (28, .iload_n 3, 1, 0, [3], [], false), (29, .iload_n 1, 1, 0, [1], [], false), (30, .if_icmp .le 7, 3, 0, [37], [], false), (33, .iload_n 3, 1, 0, [3], [], false), (34, .goto 4, 3, 0, [38], [], false), (37, .iload_n 1, 1, 0, [1], [], false), (38, .istore_n 1, 1, 0, [1], [], false), (39, .iinc 2 1, 3, 1, [], [], false), (42, .goto (-38), 3, 0, [4], [], false), (45, .iload_n 1, 1, 0, [1], [], false), (46, .ireturn, 1, 0, [], [], false)]
def mo_greatestRun_y : MethodName := ⟨"SpanLayersModel", "greatestRun", "()I"⟩
theorem mo_greatestRun_tb : sl_tbOK sl_R12 prog_14_method_51_code 4 (some .int) lk_mo [] mo_greatestRun_cd = true := by decide +kernel
def mo_greatestRun_ct : List sl_Ct := []
theorem mo_greatestRun_hc (g : sl_G) : sl_HC g sl_R12 0 mo_greatestRun_ct [] := sl_HC_nil g sl_R12 0
set_option maxRecDepth 20000 in
set_option maxHeartbeats 2000000 in
theorem mo_greatestRun_snd (g : sl_G) : sl_Snd g mo_greatestRun_y prog_14_method_51_code 4 (some .int) 0 (mo_greatestRun_pt) := by
  intro As μ Q hw h
  unfold mo_greatestRun_pt at h
  split at h
  next c0 a0 =>
    split at h
    next e_ =>
      subst e_
      split at h
      next e_ =>
        subst e_
        refine sl_mk2 g [true, false, false, false] (cst := [some (.inr (.inr (some (12, 104))))]) (lv0 := [none, none, none, none]) (by decide) rfl hw rfl rfl rfl lk_mo_ok (mo_greatestRun_hc g) mo_greatestRun_tb rfl ?_
        intro X M
        have v4 := sl_extL M sl_VV0 4 (fun n lv st μ => match lv, st with | [_, some (.inl x1), some (.inl x2), _], [] => mo_greatestRun_L4 (fun r μ' => Q (some (.inl r)) μ') n x1 x2 μ | _, _ => False) (by
            intro lv st μ h
            split at h
            · exact h
            · exact h) (by
            intro n4 w4
            refine ⟨_, w4, ?_⟩
            intro lv st μ h
            split at h
            · exact h
            · exact h.elim)
        exact ⟨_, v4, h⟩
      next => exact h.elim
    next => exact h.elim
  next => exact h.elim
def mo_covered_B33 (a1 : Int32) (Q : Int32 → sl_M → Prop) : sl_M → Prop
  | μ => (a1 = (0 : Int32) → mo_runPlaces μ (fun r2 m1 => Q r2 m1)) ∧ (¬ a1 = (0 : Int32) → (a1 = (3 : Int32) → mo_runPlaces μ (fun r4 m3 => Q r4 m3)) ∧ (¬ a1 = (3 : Int32) → (a1 = (4 : Int32) → mo_greatestRun μ (fun r6 m5 => Q r6 m5)) ∧ (¬ a1 = (4 : Int32) → Q (μ 104 13) μ)))
def mo_covered (a1 : Int32) (μ : sl_M) (Q : Int32 → sl_M → Prop) : Prop := ∀ m7, m7 = sl_up μ 104 5 (0 : Int32) → mo_in a1.toInt64 ((0 : Int32).toInt64) ((4 : Int32).toInt64) m7 (fun r9 m8 => (r9 = (0 : Int32) → Q (-1 : Int32) m8) ∧ (¬ r9 = (0 : Int32) → (a1 < (2 : Int32) → mo_layRuns (1 : Int32) m8 (fun m10 => mo_covered_B33 a1 Q m10)) ∧ (¬ a1 < (2 : Int32) → mo_layRuns (0 : Int32) m8 (fun m11 => mo_covered_B33 a1 Q m11))))
def mo_covered_pt : sl_PT := fun As μ Q => match As with
  | [.inr (.inr (some (c0, a0))), .inl a1] => if c0 = 12 then (if a0 = 104 then (mo_covered a1 μ (fun r μ' => Q (some (.inl r)) μ')) else False) else False
  | _ => False
def mo_covered_cd : List sl_Ent := [(0, .aload_n 0, 1, 0, [0], [], false), (1, .iconst 0, 1, 0, [], [], false), (2, .putfield 113, 3, 0, [12, 5, 0], [], false), (5, .iload_n 1, 1, 0, [1], [], false), (6, .i2l, 1, 0, [], [], false), (7, .lconst 0, 1, 0, [], [], false), (8, .ldc2_w 216, 3, 4, [], [], false), (11, .invokestatic 119, 3, 0, [0], [], false), (14, .ifCond .ne 5, 3, 0, [19], [], false), (17, .iconst (-1), 1, (-1), [], [], false), (18, .ireturn, 1, 0, [], [], false), (19, .aload_n 0, 1, 0, [0], [], false), (20, .iload_n 1, 1, 0, [1], [], false), (21, .iconst 2, 1, 2, [], [], false), (22, .if_icmp .ge 7, 3, 0, [29], [], false), (25, .iconst 1, 1, 1, [], [], false), (26, .goto 4, 3, 0, [30], [], false), (29, .iconst 0, 1, 0, [], [], false), (30, .invokevirtual 238, 3, 0, [1], [], false), (33, .iload_n 1, 1, 0, [1], [], true), (34, .ifCond .eq 8, 3, 0, [42], [], false), (37, .iload_n 1, 1, 0, [1], [], false), (38, .iconst 3, 1, 3, [], [], false), (39, .if_icmp .ne 10, 3, 0, [49], [], false), (42, .aload_n 0, 1, 0, [0], [], false), (43, .invokevirtual 242, 3, 0, [2], [], false), (46, .goto 19, 3, 0, [65], [], false), (49, .iload_n 1, 1, 0, [1], [], false), (50, .iconst 4, 1, 4, [], [], false), (51, .if_icmp .ne 10, 3, 0, [61], [], false), (54, .aload_n 0, 1, 0, [0], [], false), (55, .invokevirtual 245, 3, 0, [3], [], false), (58, .goto 7, 3, 0, [65], [], false), (61, .aload_n 0, 1, 0, [0], [], false), (62, .getfield 229, 3, 0, [12, 13, 0, 0, 0], [], false), (65, .ireturn, 1, 0, [], [], false)]
def mo_covered_y : MethodName := ⟨"SpanLayersModel", "covered", "(I)I"⟩
theorem mo_covered_tb : sl_tbOK sl_R12 prog_14_method_52_code 2 (some .int) lk_mo [(119, 1), (238, 0), (242, 0), (245, 0)] mo_covered_cd = true := by decide +kernel
theorem mo_layRuns_w2 : Cond.instanceMethod mo_layRuns_y ∈ sl_T0 := sl_in1 1349 (by decide +kernel) rfl
theorem mo_layRuns_w3 : Cond.selects mo_layRuns_y.cls mo_layRuns_y mo_layRuns_y ∈ sl_T0 := sl_in1 41 (by decide +kernel) rfl
theorem mo_layRuns_w4 : Cond.initialized mo_layRuns_y.cls ∈ sl_T0 := sl_in1 97 (by decide +kernel) rfl
theorem mo_layRuns_w5 : Cond.code mo_layRuns_y prog_14_method_49_code 6 none ∈ sl_T0 := sl_in1 1350 (by decide +kernel) rfl
theorem mo_layRuns_w6 : mo_layRuns_y.cls ≠ "java/lang/invoke/MethodHandle" ∧ mo_layRuns_y.cls ≠ "java/lang/invoke/VarHandle" ∧ (parseMethodDescriptor mo_layRuns_y.desc).map (fun d => d.parameters.length) = some 1 := by decide +kernel
theorem cs_mo_238 (g : sl_G) {hh : Nat} (h : 2 ≤ hh) : sl_CallS g sl_R12 238 0 12 hh 2 mo_layRuns_pt := sl_callV (y := mo_layRuns_y) (T := sl_F12) (N := 50) (mo_layRuns_snd g) h (by decide) (sl_in1 1347 (by decide +kernel) rfl) mo_layRuns_w2 mo_layRuns_w3 mo_layRuns_w4 mo_layRuns_w5 mo_layRuns_w6 rfl (by decide)
theorem mo_runPlaces_w2 : Cond.instanceMethod mo_runPlaces_y ∈ sl_T0 := sl_in1 1365 (by decide +kernel) rfl
theorem mo_runPlaces_w3 : Cond.selects mo_runPlaces_y.cls mo_runPlaces_y mo_runPlaces_y ∈ sl_T0 := sl_in1 45 (by decide +kernel) rfl
theorem mo_runPlaces_w4 : Cond.initialized mo_runPlaces_y.cls ∈ sl_T0 := sl_in1 97 (by decide +kernel) rfl
theorem mo_runPlaces_w5 : Cond.code mo_runPlaces_y prog_14_method_50_code 3 (some .int) ∈ sl_T0 := sl_in1 1366 (by decide +kernel) rfl
theorem mo_runPlaces_w6 : mo_runPlaces_y.cls ≠ "java/lang/invoke/MethodHandle" ∧ mo_runPlaces_y.cls ≠ "java/lang/invoke/VarHandle" ∧ (parseMethodDescriptor mo_runPlaces_y.desc).map (fun d => d.parameters.length) = some 0 := by decide +kernel
theorem cs_mo_242 (g : sl_G) {hh : Nat} (h : 1 ≤ hh) : sl_CallS g sl_R12 242 0 12 hh 1 mo_runPlaces_pt := sl_callV (y := mo_runPlaces_y) (T := sl_F12) (N := 50) (mo_runPlaces_snd g) h (by decide) (sl_in1 1363 (by decide +kernel) rfl) mo_runPlaces_w2 mo_runPlaces_w3 mo_runPlaces_w4 mo_runPlaces_w5 mo_runPlaces_w6 rfl (by decide)
theorem mo_greatestRun_w2 : Cond.instanceMethod mo_greatestRun_y ∈ sl_T0 := sl_in1 1369 (by decide +kernel) rfl
theorem mo_greatestRun_w3 : Cond.selects mo_greatestRun_y.cls mo_greatestRun_y mo_greatestRun_y ∈ sl_T0 := sl_in1 46 (by decide +kernel) rfl
theorem mo_greatestRun_w4 : Cond.initialized mo_greatestRun_y.cls ∈ sl_T0 := sl_in1 97 (by decide +kernel) rfl
theorem mo_greatestRun_w5 : Cond.code mo_greatestRun_y prog_14_method_51_code 4 (some .int) ∈ sl_T0 := sl_in1 1370 (by decide +kernel) rfl
theorem mo_greatestRun_w6 : mo_greatestRun_y.cls ≠ "java/lang/invoke/MethodHandle" ∧ mo_greatestRun_y.cls ≠ "java/lang/invoke/VarHandle" ∧ (parseMethodDescriptor mo_greatestRun_y.desc).map (fun d => d.parameters.length) = some 0 := by decide +kernel
theorem cs_mo_245 (g : sl_G) {hh : Nat} (h : 1 ≤ hh) : sl_CallS g sl_R12 245 0 12 hh 1 mo_greatestRun_pt := sl_callV (y := mo_greatestRun_y) (T := sl_F12) (N := 50) (mo_greatestRun_snd g) h (by decide) (sl_in1 1367 (by decide +kernel) rfl) mo_greatestRun_w2 mo_greatestRun_w3 mo_greatestRun_w4 mo_greatestRun_w5 mo_greatestRun_w6 rfl (by decide)
def mo_covered_ct : List sl_Ct := [(3, 1, 0, mo_in_pt), (2, 0, 12, mo_layRuns_pt), (1, 0, 12, mo_runPlaces_pt), (1, 0, 12, mo_greatestRun_pt)]
theorem mo_covered_hc (g : sl_G) : sl_HC g sl_R12 2 mo_covered_ct [(119, 1), (238, 0), (242, 0), (245, 0)] := sl_HC_cons (cs_mo_119 g (by decide)) (sl_HC_cons (cs_mo_238 g (by decide)) (sl_HC_cons (cs_mo_242 g (by decide)) (sl_HC_cons (cs_mo_245 g (by decide)) (sl_HC_nil g sl_R12 2))))
set_option maxRecDepth 20000 in
set_option maxHeartbeats 2000000 in
theorem mo_covered_snd (g : sl_G) : sl_Snd g mo_covered_y prog_14_method_52_code 2 (some .int) 2 (mo_covered_pt) := by
  intro As μ Q hw h
  unfold mo_covered_pt at h
  split at h
  next c0 a0 a1 =>
    split at h
    next e_ =>
      subst e_
      split at h
      next e_ =>
        subst e_
        refine sl_mk2 g [true, true] (cst := [some (.inr (.inr (some (12, 104)))), some (.inl a1)]) (lv0 := [none, none]) (by decide) rfl hw rfl rfl rfl lk_mo_ok (mo_covered_hc g) mo_covered_tb rfl ?_
        intro X M
        have v33 := sl_ext M sl_VV0 33 (fun lv st μ => match lv, st with | [_, _], [] => mo_covered_B33 a1 (fun r μ' => Q (some (.inl r)) μ') μ | _, _ => False) (by
            intro lv st μ h
            split at h
            · exact h
            · exact h.elim)
        exact ⟨_, v33, h⟩
      next => exact h.elim
    next => exact h.elim
  next => exact h.elim
