def sx_isBelow (a0 : Int32) (a1 : Int32) (μ : sl_M) (Q : Int32 → sl_M → Prop) : Prop := (a0 < (0 : Int32) → sl_bz (0 : Int32) = (0 : Int32) ∧ Q (0 : Int32) μ) ∧ (¬ a0 < (0 : Int32) → (a0 < a1 → sl_bz (1 : Int32) = (1 : Int32) ∧ Q (1 : Int32) μ) ∧ (¬ a0 < a1 → sl_bz (0 : Int32) = (0 : Int32) ∧ Q (0 : Int32) μ))
def sx_isBelow_pt : sl_PT := fun As μ Q => match As with
  | [.inl a0, .inl a1] => sx_isBelow a0 a1 μ (fun r μ' => Q (some (.inl r)) μ')
  | _ => False
def sx_isBelow_cd : List sl_Ent := [(0, .iload_n 0, 1, 0, [0], [], false), (1, .ifCond .lt 12, 3, 0, [13], [], false), (4, .iload_n 0, 1, 0, [0], [], false), (5, .iload_n 1, 1, 0, [1], [], false), (6, .if_icmp .ge 7, 3, 0, [13], [], false), (9, .iconst 1, 1, 1, [], [], false), (10, .goto 4, 3, 0, [14], [], false), (13, .iconst 0, 1, 0, [], [], false), (14, .ireturn, 1, 0, [1], [], false)]
def sx_isBelow_y : MethodName := ⟨"SpanLayers", "isBelow", "(II)Z"⟩
theorem sx_isBelow_tb : sl_tbOK sl_R11 prog_1_method_45_code 2 (some .boolean) lk_sx [] sx_isBelow_cd = true := by decide +kernel
def sx_isBelow_ct : List sl_Ct := []
theorem sx_isBelow_hc (g : sl_G) : sl_HC g sl_R11 0 sx_isBelow_ct [] := sl_HC_nil g sl_R11 0
set_option maxRecDepth 20000 in
set_option maxHeartbeats 2000000 in
theorem sx_isBelow_snd (g : sl_G) : sl_Snd g sx_isBelow_y prog_1_method_45_code 2 (some .boolean) 0 (sx_isBelow_pt) := by
  intro As μ Q hw h
  unfold sx_isBelow_pt at h
  split at h
  next a0 a1 =>
    refine sl_mk2 g [true, true] (cst := [some (.inl a0), some (.inl a1)]) (lv0 := [none, none]) (by decide) rfl hw rfl rfl rfl lk_sx_ok (sx_isBelow_hc g) sx_isBelow_tb rfl ?_
    intro X M
    exact ⟨_, sl_VV0, h⟩
  next => exact h.elim
def sx_isPlace (a0 : Int32) (μ : sl_M) (Q : Int32 → sl_M → Prop) : Prop := sx_isBelow a0 (1000 : Int32) μ (fun r2 m1 => sl_bz r2 = r2 ∧ Q r2 m1)
def sx_isPlace_pt : sl_PT := fun As μ Q => match As with
  | [.inl a0] => sx_isPlace a0 μ (fun r μ' => Q (some (.inl r)) μ')
  | _ => False
def sx_isPlace_cd : List sl_Ent := [(0, .iload_n 0, 1, 0, [0], [], false), (1, .sipush 1000, 3, 1000, [], [], false), (4, .invokestatic 97, 3, 0, [0], [], false), (7, .ireturn, 1, 0, [1], [], false)]
def sx_isPlace_y : MethodName := ⟨"SpanLayers", "isPlace", "(I)Z"⟩
theorem sx_isPlace_tb : sl_tbOK sl_R11 prog_1_method_46_code 1 (some .boolean) lk_sx [(97, 1)] sx_isPlace_cd = true := by decide +kernel
theorem sx_isBelow_w2 : Cond.static sx_isBelow_y ∈ sl_T0 := sl_in1 407 (by decide +kernel) rfl
theorem sx_isBelow_w4 : Cond.initialized sx_isBelow_y.cls ∈ sl_T0 := sl_in1 85 (by decide +kernel) rfl
theorem sx_isBelow_w5 : Cond.code sx_isBelow_y prog_1_method_45_code 2 (some .boolean) ∈ sl_T0 := sl_in1 408 (by decide +kernel) rfl
theorem sx_isBelow_w6 : sx_isBelow_y.cls ≠ "java/lang/invoke/MethodHandle" ∧ sx_isBelow_y.cls ≠ "java/lang/invoke/VarHandle" ∧ (parseMethodDescriptor sx_isBelow_y.desc).map (fun d => d.parameters.length) = some 2 := by decide +kernel
theorem cs_sx_97 (g : sl_G) {hh : Nat} (h : 1 ≤ hh) : sl_CallS g sl_R11 97 1 0 hh 2 sx_isBelow_pt := sl_callS (y := sx_isBelow_y) (sx_isBelow_snd g) h (by decide) (sl_in1 406 (by decide +kernel) rfl) sx_isBelow_w2 sx_isBelow_w4 sx_isBelow_w5 sx_isBelow_w6
def sx_isPlace_ct : List sl_Ct := [(2, 1, 0, sx_isBelow_pt)]
theorem sx_isPlace_hc (g : sl_G) : sl_HC g sl_R11 1 sx_isPlace_ct [(97, 1)] := sl_HC_cons (cs_sx_97 g (by decide)) (sl_HC_nil g sl_R11 1)
set_option maxRecDepth 20000 in
set_option maxHeartbeats 2000000 in
theorem sx_isPlace_snd (g : sl_G) : sl_Snd g sx_isPlace_y prog_1_method_46_code 1 (some .boolean) 1 (sx_isPlace_pt) := by
  intro As μ Q hw h
  unfold sx_isPlace_pt at h
  split at h
  next a0 =>
    refine sl_mk2 g [true] (cst := [some (.inl a0)]) (lv0 := [none]) (by decide) rfl hw rfl rfl rfl lk_sx_ok (sx_isPlace_hc g) sx_isPlace_tb rfl ?_
    intro X M
    exact ⟨_, sl_VV0, h⟩
  next => exact h.elim
def sx_isRun (a0 : Int32) (a1 : Int32) (μ : sl_M) (Q : Int32 → sl_M → Prop) : Prop := sx_isPlace a0 μ (fun r2 m1 => (r2 = (0 : Int32) → sl_bz (0 : Int32) = (0 : Int32) ∧ Q (0 : Int32) m1) ∧ (¬ r2 = (0 : Int32) → sx_isPlace a1 m1 (fun r4 m3 => (r4 = (0 : Int32) → sl_bz (0 : Int32) = (0 : Int32) ∧ Q (0 : Int32) m3) ∧ (¬ r4 = (0 : Int32) → (a0 ≤ a1 → sl_bz (1 : Int32) = (1 : Int32) ∧ Q (1 : Int32) m3) ∧ (¬ a0 ≤ a1 → sl_bz (0 : Int32) = (0 : Int32) ∧ Q (0 : Int32) m3)))))
def sx_isRun_pt : sl_PT := fun As μ Q => match As with
  | [.inl a0, .inl a1] => sx_isRun a0 a1 μ (fun r μ' => Q (some (.inl r)) μ')
  | _ => False
def sx_isRun_cd : List sl_Ent := [(0, .iload_n 0, 1, 0, [0], [], false), (1, .invokestatic 126, 3, 0, [0], [], false), (4, .ifCond .eq 19, 3, 0, [23], [], false), (7, .iload_n 1, 1, 0, [1], [], false), (8, .invokestatic 126, 3, 0, [0], [], false), (11, .ifCond .eq 12, 3, 0, [23], [], false), (14, .iload_n 0, 1, 0, [0], [], false), (15, .iload_n 1, 1, 0, [1], [], false), (16, .if_icmp .gt 7, 3, 0, [23], [], false), (19, .iconst 1, 1, 1, [], [], false), (20, .goto 4, 3, 0, [24], [], false), (23, .iconst 0, 1, 0, [], [], false), (24, .ireturn, 1, 0, [1], [], false)]
def sx_isRun_y : MethodName := ⟨"SpanLayers", "isRun", "(II)Z"⟩
theorem sx_isRun_tb : sl_tbOK sl_R11 prog_1_method_47_code 2 (some .boolean) lk_sx [(126, 1)] sx_isRun_cd = true := by decide +kernel
theorem sx_isPlace_w2 : Cond.static sx_isPlace_y ∈ sl_T0 := sl_in1 404 (by decide +kernel) rfl
theorem sx_isPlace_w4 : Cond.initialized sx_isPlace_y.cls ∈ sl_T0 := sl_in1 85 (by decide +kernel) rfl
theorem sx_isPlace_w5 : Cond.code sx_isPlace_y prog_1_method_46_code 1 (some .boolean) ∈ sl_T0 := sl_in1 405 (by decide +kernel) rfl
theorem sx_isPlace_w6 : sx_isPlace_y.cls ≠ "java/lang/invoke/MethodHandle" ∧ sx_isPlace_y.cls ≠ "java/lang/invoke/VarHandle" ∧ (parseMethodDescriptor sx_isPlace_y.desc).map (fun d => d.parameters.length) = some 1 := by decide +kernel
theorem cs_sx_126 (g : sl_G) {hh : Nat} (h : 2 ≤ hh) : sl_CallS g sl_R11 126 1 0 hh 1 sx_isPlace_pt := sl_callS (y := sx_isPlace_y) (sx_isPlace_snd g) h (by decide) (sl_in1 403 (by decide +kernel) rfl) sx_isPlace_w2 sx_isPlace_w4 sx_isPlace_w5 sx_isPlace_w6
def sx_isRun_ct : List sl_Ct := [(1, 1, 0, sx_isPlace_pt)]
theorem sx_isRun_hc (g : sl_G) : sl_HC g sl_R11 2 sx_isRun_ct [(126, 1)] := sl_HC_cons (cs_sx_126 g (by decide)) (sl_HC_nil g sl_R11 2)
set_option maxRecDepth 20000 in
set_option maxHeartbeats 2000000 in
theorem sx_isRun_snd (g : sl_G) : sl_Snd g sx_isRun_y prog_1_method_47_code 2 (some .boolean) 2 (sx_isRun_pt) := by
  intro As μ Q hw h
  unfold sx_isRun_pt at h
  split at h
  next a0 a1 =>
    refine sl_mk2 g [true, true] (cst := [some (.inl a0), some (.inl a1)]) (lv0 := [none, none]) (by decide) rfl hw rfl rfl rfl lk_sx_ok (sx_isRun_hc g) sx_isRun_tb rfl ?_
    intro X M
    exact ⟨_, sl_VV0, h⟩
  next => exact h.elim
def sx_isSpan (a0 : Int32) (a1 : Int32) (a2 : Int32) (μ : sl_M) (Q : Int32 → sl_M → Prop) : Prop := sx_isRun a0 a1 μ (fun r2 m1 => (r2 = (0 : Int32) → sl_bz (0 : Int32) = (0 : Int32) ∧ Q (0 : Int32) m1) ∧ (¬ r2 = (0 : Int32) → (a2 < (-99 : Int32) → sl_bz (0 : Int32) = (0 : Int32) ∧ Q (0 : Int32) m1) ∧ (¬ a2 < (-99 : Int32) → (a2 ≤ (99 : Int32) → sl_bz (1 : Int32) = (1 : Int32) ∧ Q (1 : Int32) m1) ∧ (¬ a2 ≤ (99 : Int32) → sl_bz (0 : Int32) = (0 : Int32) ∧ Q (0 : Int32) m1))))
def sx_isSpan_pt : sl_PT := fun As μ Q => match As with
  | [.inl a0, .inl a1, .inl a2] => sx_isSpan a0 a1 a2 μ (fun r μ' => Q (some (.inl r)) μ')
  | _ => False
def sx_isSpan_cd : List sl_Ent := [(0, .iload_n 0, 1, 0, [0], [], false), (1, .iload_n 1, 1, 0, [1], [], false), (2, .invokestatic 137, 3, 0, [0], [], false), (5, .ifCond .eq 19, 3, 0, [24], [], false), (8, .iload_n 2, 1, 0, [2], [], false), (9, .bipush (-99), 2, (-99), [], [], false), (11, .if_icmp .lt 13, 3, 0, [24], [], false), (14, .iload_n 2, 1, 0, [2], [], false), (15, .bipush 99, 2, 99, [], [], false), (17, .if_icmp .gt 7, 3, 0, [24], [], false), (20, .iconst 1, 1, 1, [], [], false), (21, .goto 4, 3, 0, [25], [], false), (24, .iconst 0, 1, 0, [], [], false), (25, .ireturn, 1, 0, [1], [], false)]
def sx_isSpan_y : MethodName := ⟨"SpanLayers", "isSpan", "(III)Z"⟩
theorem sx_isSpan_tb : sl_tbOK sl_R11 prog_1_method_48_code 3 (some .boolean) lk_sx [(137, 1)] sx_isSpan_cd = true := by decide +kernel
theorem sx_isRun_w2 : Cond.static sx_isRun_y ∈ sl_T0 := sl_in1 401 (by decide +kernel) rfl
theorem sx_isRun_w4 : Cond.initialized sx_isRun_y.cls ∈ sl_T0 := sl_in1 85 (by decide +kernel) rfl
theorem sx_isRun_w5 : Cond.code sx_isRun_y prog_1_method_47_code 2 (some .boolean) ∈ sl_T0 := sl_in1 402 (by decide +kernel) rfl
theorem sx_isRun_w6 : sx_isRun_y.cls ≠ "java/lang/invoke/MethodHandle" ∧ sx_isRun_y.cls ≠ "java/lang/invoke/VarHandle" ∧ (parseMethodDescriptor sx_isRun_y.desc).map (fun d => d.parameters.length) = some 2 := by decide +kernel
theorem cs_sx_137 (g : sl_G) {hh : Nat} (h : 3 ≤ hh) : sl_CallS g sl_R11 137 1 0 hh 2 sx_isRun_pt := sl_callS (y := sx_isRun_y) (sx_isRun_snd g) h (by decide) (sl_in1 400 (by decide +kernel) rfl) sx_isRun_w2 sx_isRun_w4 sx_isRun_w5 sx_isRun_w6
def sx_isSpan_ct : List sl_Ct := [(2, 1, 0, sx_isRun_pt)]
theorem sx_isSpan_hc (g : sl_G) : sl_HC g sl_R11 3 sx_isSpan_ct [(137, 1)] := sl_HC_cons (cs_sx_137 g (by decide)) (sl_HC_nil g sl_R11 3)
set_option maxRecDepth 20000 in
set_option maxHeartbeats 2000000 in
theorem sx_isSpan_snd (g : sl_G) : sl_Snd g sx_isSpan_y prog_1_method_48_code 3 (some .boolean) 3 (sx_isSpan_pt) := by
  intro As μ Q hw h
  unfold sx_isSpan_pt at h
  split at h
  next a0 a1 a2 =>
    refine sl_mk2 g [true, true, true] (cst := [some (.inl a0), some (.inl a1), some (.inl a2)]) (lv0 := [none, none, none]) (by decide) rfl hw rfl rfl rfl lk_sx_ok (sx_isSpan_hc g) sx_isSpan_tb rfl ?_
    intro X M
    exact ⟨_, sl_VV0, h⟩
  next => exact h.elim
def ix_leastOut_L2 (Q : Int32 → sl_M → Prop) : Nat → Int32 → sl_M → Prop
  | 0, _, _ => False
  | n + 1, x1, μ => (x1 < (30 : Int32) → vp_in x1 30 ∧ ((sl_bz (μ (4 + x1.toNatClampNeg) 1)) = (0 : Int32) → Q x1 μ) ∧ (¬ (sl_bz (μ (4 + x1.toNatClampNeg) 1)) = (0 : Int32) → (ix_leastOut_L2 Q n) (x1 + (1 : Int32)) μ)) ∧ (¬ x1 < (30 : Int32) → Q (-1 : Int32) μ)
def ix_leastOut (μ : sl_M) (Q : Int32 → sl_M → Prop) : Prop := ∃ n1, ix_leastOut_L2 Q n1 (0 : Int32) μ
def ix_leastOut_pt : sl_PT := fun As μ Q => match As with
  | [.inr (.inr (some (c0, a0)))] => if c0 = 5 then (if a0 = 1 then (ix_leastOut μ (fun r μ' => Q (some (.inl r)) μ')) else False) else False
  | _ => False
def ix_leastOut_cd : List sl_Ent := [(0, .iconst 0, 1, 0, [], [], false), (1, .istore_n 1, 1, 0, [1], [], false), (2, .iload_n 1, 1, 0, [1], [], true), (3, .bipush 30, 2, 30, [], [], false), (5, .if_icmp .ge 23, 3, 0, [28], [], false), (8, .aload_n 0, 1, 0, [0], [], false), (9, .getfield 11, 3, 0, [5, 0, 2, 22, 1], [], false), (12, .iload_n 1, 1, 0, [1], [], false), (13, .aaload, 1, 0, [], [], false), (14, .getfield 31, 3, 0, [9, 1, 1, 0, 0], [], false), (17, .ifCond .ne 5, 3, 0, [22], [], false), (20, .iload_n 1, 1, 0, [1], [], false), (21, .ireturn, 1, 0, [], [], false), (22, .iinc 1 1, 3, 1, [], [], false), (25, .goto (-23), 3, 0, [2], [], false), (28, .iconst (-1), 1, (-1), [], [], false), (29, .ireturn, 1, 0, [], [], false)]
def ix_leastOut_y : MethodName := ⟨"SpanLayers$Index", "leastOut", "()I"⟩
theorem ix_leastOut_tb : sl_tbOK sl_R5 prog_7_method_4_code 2 (some .int) lk_ix [] ix_leastOut_cd = true := by decide +kernel
def ix_leastOut_ct : List sl_Ct := []
theorem ix_leastOut_hc (g : sl_G) : sl_HC g sl_R5 0 ix_leastOut_ct [] := sl_HC_nil g sl_R5 0
set_option maxRecDepth 20000 in
set_option maxHeartbeats 2000000 in
theorem ix_leastOut_snd (g : sl_G) : sl_Snd g ix_leastOut_y prog_7_method_4_code 2 (some .int) 0 (ix_leastOut_pt) := by
  intro As μ Q hw h
  unfold ix_leastOut_pt at h
  split at h
  next c0 a0 =>
    split at h
    next e_ =>
      subst e_
      split at h
      next e_ =>
        subst e_
        refine sl_mk2 g [true, false] (cst := [some (.inr (.inr (some (5, 1))))]) (lv0 := [none, none]) (by decide) rfl hw rfl rfl rfl lk_ix_ok (ix_leastOut_hc g) ix_leastOut_tb rfl ?_
        intro X M
        have v2 := sl_extL M sl_VV0 2 (fun n lv st μ => match lv, st with | [_, some (.inl x1)], [] => ix_leastOut_L2 (fun r μ' => Q (some (.inl r)) μ') n x1 μ | _, _ => False) (by
            intro lv st μ h
            split at h
            · exact h
            · exact h) (by
            intro n2 w2
            refine ⟨_, w2, ?_⟩
            intro lv st μ h
            split at h
            · exact h
            · exact h.elim)
        exact ⟨_, v2, h⟩
      next => exact h.elim
    next => exact h.elim
  next => exact h.elim
def ix_bringIn (a1 : Int32) (a2 : Int32) (a3 : Int32) (a4 : Int32) (μ : sl_M) (Q : sl_M → Prop) : Prop := sx_isBelow a1 (30 : Int32) μ (fun r2 m1 => (r2 = (0 : Int32) → Q m1) ∧ (¬ r2 = (0 : Int32) → vp_in a1 30 ∧ sl_bz (1 : Int32) = (1 : Int32) ∧ ∀ m3, m3 = sl_up m1 (4 + a1.toNatClampNeg) 1 (1 : Int32) → vp_in a1 30 ∧ ∀ m4, m4 = sl_up m3 (4 + a1.toNatClampNeg) 2 a2 → vp_in a1 30 ∧ ∀ m5, m5 = sl_up m4 (4 + a1.toNatClampNeg) 3 a3 → vp_in a1 30 ∧ ∀ m6, m6 = sl_up m5 (4 + a1.toNatClampNeg) 4 a4 → Q m6))
def ix_bringIn_pt : sl_PT := fun As μ Q => match As with
  | [.inr (.inr (some (c0, a0))), .inl a1, .inl a2, .inl a3, .inl a4] => if c0 = 5 then (if a0 = 1 then (ix_bringIn a1 a2 a3 a4 μ (fun μ' => Q none μ')) else False) else False
  | _ => False
def ix_bringIn_cd : List sl_Ent := [(0, .iload_n 1, 1, 0, [1], [], false), (1, .bipush 30, 2, 30, [], [], false), (3, .invokestatic 27, 3, 0, [0], [], false), (6, .ifCond .eq 44, 3, 0, [50], [], false), (9, .aload_n 0, 1, 0, [0], [], false), (10, .getfield 11, 3, 0, [5, 0, 2, 22, 1], [], false), (13, .iload_n 1, 1, 0, [1], [], false), (14, .aaload, 1, 0, [], [], false), (15, .iconst 1, 1, 1, [], [], false), (16, .putfield 31, 3, 0, [9, 1, 1], [], false), (19, .aload_n 0, 1, 0, [0], [], false), (20, .getfield 11, 3, 0, [5, 0, 2, 22, 1], [], false), (23, .iload_n 1, 1, 0, [1], [], false), (24, .aaload, 1, 0, [], [], false), (25, .iload_n 2, 1, 0, [2], [], false), (26, .putfield 35, 3, 0, [9, 2, 0], [], false), (29, .aload_n 0, 1, 0, [0], [], false), (30, .getfield 11, 3, 0, [5, 0, 2, 22, 1], [], false), (33, .iload_n 1, 1, 0, [1], [], false), (34, .aaload, 1, 0, [], [], false), (35, .iload_n 3, 1, 0, [3], [], false), (36, .putfield 39, 3, 0, [9, 3, 0], [], false), (39, .aload_n 0, 1, 0, [0], [], false), (40, .getfield 11, 3, 0, [5, 0, 2, 22, 1], [], false), (43, .iload_n 1, 1, 0, [1], [], false), (44, .aaload, 1, 0, [], [], false), (45, .iload 4, 2, 0, [4], [], false), (47, .putfield 42, 3, 0, [9, 4, 0], [], false), (50, .return_, 1, 0, [], [], false)]
def ix_bringIn_y : MethodName := ⟨"SpanLayers$Index", "bringIn", "(IIII)V"⟩
theorem ix_bringIn_tb : sl_tbOK sl_R5 prog_7_method_5_code 5 none lk_ix [(27, 1)] ix_bringIn_cd = true := by decide +kernel
theorem cs_ix_27 (g : sl_G) {hh : Nat} (h : 1 ≤ hh) : sl_CallS g sl_R5 27 1 0 hh 2 sx_isBelow_pt := sl_callN (host := "SpanLayers") (y := sx_isBelow_y) (sx_isBelow_snd g) h (by decide) (List.mem_of_getElem? (i := 9) rfl) sx_isBelow_w2 sx_isBelow_w4 sx_isBelow_w5 sx_isBelow_w6
def ix_bringIn_ct : List sl_Ct := [(2, 1, 0, sx_isBelow_pt)]
theorem ix_bringIn_hc (g : sl_G) : sl_HC g sl_R5 1 ix_bringIn_ct [(27, 1)] := sl_HC_cons (cs_ix_27 g (by decide)) (sl_HC_nil g sl_R5 1)
set_option maxRecDepth 20000 in
set_option maxHeartbeats 2000000 in
theorem ix_bringIn_snd (g : sl_G) : sl_Snd g ix_bringIn_y prog_7_method_5_code 5 none 1 (ix_bringIn_pt) := by
  intro As μ Q hw h
  unfold ix_bringIn_pt at h
  split at h
  next c0 a0 a1 a2 a3 a4 =>
    split at h
    next e_ =>
      subst e_
      split at h
      next e_ =>
        subst e_
        refine sl_mk2 g [true, true, true, true, true] (cst := [some (.inr (.inr (some (5, 1)))), some (.inl a1), some (.inl a2), some (.inl a3), some (.inl a4)]) (lv0 := [none, none, none, none, none]) (by decide) rfl hw rfl rfl rfl lk_ix_ok (ix_bringIn_hc g) ix_bringIn_tb rfl ?_
        intro X M
        exact ⟨_, sl_VV0, h⟩
      next => exact h.elim
    next => exact h.elim
  next => exact h.elim
def sp_length (a0 : Nat) (μ : sl_M) (Q : Int32 → sl_M → Prop) : Prop := Q (((μ a0 3) - (μ a0 2)) + (1 : Int32)) μ
def sp_length_pt : sl_PT := fun As μ Q => match As with
  | [.inr (.inr (some (c0, a0)))] => if c0 = 9 then (sp_length a0 μ (fun r μ' => Q (some (.inl r)) μ')) else False
  | _ => False
def sp_length_cd : List sl_Ent := [(0, .aload_n 0, 1, 0, [0], [], false), (1, .getfield 22, 3, 0, [9, 3, 0, 0, 0], [], false), (4, .aload_n 0, 1, 0, [0], [], false), (5, .getfield 19, 3, 0, [9, 2, 0, 0, 0], [], false), (8, .isub, 1, 0, [], [], false), (9, .iconst 1, 1, 1, [], [], false), (10, .iadd, 1, 0, [], [], false), (11, .ireturn, 1, 0, [], [], false)]
def sp_length_y : MethodName := ⟨"SpanLayers$Span", "length", "()I"⟩
theorem sp_length_tb : sl_tbOK sl_R9 prog_11_method_3_code 1 (some .int) lk_sp [] sp_length_cd = true := by decide +kernel
def sp_length_ct : List sl_Ct := []
theorem sp_length_hc (g : sl_G) : sl_HC g sl_R9 0 sp_length_ct [] := sl_HC_nil g sl_R9 0
set_option maxRecDepth 20000 in
set_option maxHeartbeats 2000000 in
theorem sp_length_snd (g : sl_G) : sl_Snd g sp_length_y prog_11_method_3_code 1 (some .int) 0 (sp_length_pt) := by
  intro As μ Q hw h
  unfold sp_length_pt at h
  split at h
  next c0 a0 =>
    split at h
    next e_ =>
      subst e_
      refine sl_mk2 g [true] (cst := [some (.inr (.inr (some (9, a0))))]) (lv0 := [none]) (by decide) rfl hw rfl rfl rfl lk_sp_ok (sp_length_hc g) sp_length_tb rfl ?_
      intro X M
      exact ⟨_, sl_VV0, h⟩
    next => exact h.elim
  next => exact h.elim
def sp_gapByFirst (a0 : Nat) (a1 : Nat) (a2 : Int32) (μ : sl_M) (Q : Int32 → sl_M → Prop) : Prop := (a2 = (0 : Int32) → Q ((μ a0 2) - (μ a1 2)) μ) ∧ (¬ a2 = (0 : Int32) → (a2 = (1 : Int32) → Q ((μ a1 3) - (μ a0 3)) μ) ∧ (¬ a2 = (1 : Int32) → (a2 = (2 : Int32) → sp_length a1 μ (fun r2 m1 => sp_length a0 m1 (fun r4 m3 => Q (r2 - r4) m3))) ∧ (¬ a2 = (2 : Int32) → (a2 = (3 : Int32) → Q ((μ a1 4) - (μ a0 4)) μ) ∧ (¬ a2 = (3 : Int32) → Q ((μ a0 5) - (μ a1 5)) μ))))
def sp_gapByFirst_pt : sl_PT := fun As μ Q => match As with
  | [.inr (.inr (some (c0, a0))), .inr (.inr (some (c1, a1))), .inl a2] => if c0 = 9 then (if c1 = 9 then (sp_gapByFirst a0 a1 a2 μ (fun r μ' => Q (some (.inl r)) μ')) else False) else False
  | _ => False
def sp_gapByFirst_cd : List sl_Ent := [(0, .iload_n 2, 1, 0, [2], [], false), (1, .tableswitch 71 0 3 #[31, 41, 51, 61], 31, 0, [72], [(0, 32), (1, 42), (2, 52), (3, 62)], false), (32, .aload_n 0, 1, 0, [0], [], false), (33, .getfield 19, 3, 0, [9, 2, 0, 0, 0], [], false), (36, .aload_n 1, 1, 0, [1], [], false), (37, .getfield 19, 3, 0, [9, 2, 0, 0, 0], [], false), (40, .isub, 1, 0, [], [], false), (41, .ireturn, 1, 0, [], [], false), (42, .aload_n 1, 1, 0, [1], [], false), (43, .getfield 22, 3, 0, [9, 3, 0, 0, 0], [], false), (46, .aload_n 0, 1, 0, [0], [], false), (47, .getfield 22, 3, 0, [9, 3, 0, 0, 0], [], false), (50, .isub, 1, 0, [], [], false), (51, .ireturn, 1, 0, [], [], false), (52, .aload_n 1, 1, 0, [1], [], false), (53, .invokevirtual 31, 3, 0, [0], [], false), (56, .aload_n 0, 1, 0, [0], [], false), (57, .invokevirtual 31, 3, 0, [0], [], false), (60, .isub, 1, 0, [], [], false), (61, .ireturn, 1, 0, [], [], false), (62, .aload_n 1, 1, 0, [1], [], false), (63, .getfield 25, 3, 0, [9, 4, 0, 0, 0], [], false), (66, .aload_n 0, 1, 0, [0], [], false), (67, .getfield 25, 3, 0, [9, 4, 0, 0, 0], [], false), (70, .isub, 1, 0, [], [], false), (71, .ireturn, 1, 0, [], [], false), (72, .aload_n 0, 1, 0, [0], [], false), (73, .getfield 28, 3, 0, [9, 5, 0, 0, 0], [], false), (76, .aload_n 1, 1, 0, [1], [], false), (77, .getfield 28, 3, 0, [9, 5, 0, 0, 0], [], false), (80, .isub, 1, 0, [], [], false), (81, .ireturn, 1, 0, [], [], false)]
def sp_gapByFirst_y : MethodName := ⟨"SpanLayers$Span", "gapByFirst", "(LSpanLayers$Span;I)I"⟩
theorem sp_gapByFirst_tb : sl_tbOK sl_R9 prog_11_method_9_code 3 (some .int) lk_sp [(31, 0)] sp_gapByFirst_cd = true := by decide +kernel
theorem sp_length_w2 : Cond.instanceMethod sp_length_y ∈ sl_T0 := sl_in1 435 (by decide +kernel) rfl
theorem sp_length_w3 : Cond.selects sp_length_y.cls sp_length_y sp_length_y ∈ sl_T0 := sl_in1 436 (by decide +kernel) rfl
theorem sp_length_w4 : Cond.initialized sp_length_y.cls ∈ sl_T0 := sl_in1 87 (by decide +kernel) rfl
theorem sp_length_w5 : Cond.code sp_length_y prog_11_method_3_code 1 (some .int) ∈ sl_T0 := sl_in1 437 (by decide +kernel) rfl
theorem sp_length_w6 : sp_length_y.cls ≠ "java/lang/invoke/MethodHandle" ∧ sp_length_y.cls ≠ "java/lang/invoke/VarHandle" ∧ (parseMethodDescriptor sp_length_y.desc).map (fun d => d.parameters.length) = some 0 := by decide +kernel
theorem cs_sp_31 (g : sl_G) {hh : Nat} (h : 1 ≤ hh) : sl_CallS g sl_R9 31 0 9 hh 1 sp_length_pt := sl_callV (y := sp_length_y) (T := sl_F9) (N := 6) (sp_length_snd g) h (by decide) (sl_in1 434 (by decide +kernel) rfl) sp_length_w2 sp_length_w3 sp_length_w4 sp_length_w5 sp_length_w6 rfl (by decide)
def sp_gapByFirst_ct : List sl_Ct := [(1, 0, 9, sp_length_pt)]
theorem sp_gapByFirst_hc (g : sl_G) : sl_HC g sl_R9 1 sp_gapByFirst_ct [(31, 0)] := sl_HC_cons (cs_sp_31 g (by decide)) (sl_HC_nil g sl_R9 1)
set_option maxRecDepth 20000 in
set_option maxHeartbeats 2000000 in
theorem sp_gapByFirst_snd (g : sl_G) : sl_Snd g sp_gapByFirst_y prog_11_method_9_code 3 (some .int) 1 (sp_gapByFirst_pt) := by
  intro As μ Q hw h
  unfold sp_gapByFirst_pt at h
  split at h
  next c0 a0 c1 a1 a2 =>
    split at h
    next e_ =>
      subst e_
      split at h
      next e_ =>
        subst e_
        refine sl_mk2 g [true, true, true] (cst := [some (.inr (.inr (some (9, a0)))), some (.inr (.inr (some (9, a1)))), some (.inl a2)]) (lv0 := [none, none, none]) (by decide) rfl hw rfl rfl rfl lk_sp_ok (sp_gapByFirst_hc g) sp_gapByFirst_tb rfl ?_
        intro X M
        exact ⟨_, sl_VV0, h⟩
      next => exact h.elim
    next => exact h.elim
  next => exact h.elim
def sp_gapBySecond (a0 : Nat) (a1 : Nat) (a2 : Int32) (μ : sl_M) (Q : Int32 → sl_M → Prop) : Prop := (a2 = (0 : Int32) → Q ((μ a0 3) - (μ a1 3)) μ) ∧ (¬ a2 = (0 : Int32) → (a2 = (3 : Int32) → sp_length a1 μ (fun r2 m1 => sp_length a0 m1 (fun r4 m3 => Q (r2 - r4) m3))) ∧ (¬ a2 = (3 : Int32) → Q ((μ a0 2) - (μ a1 2)) μ))
def sp_gapBySecond_pt : sl_PT := fun As μ Q => match As with
  | [.inr (.inr (some (c0, a0))), .inr (.inr (some (c1, a1))), .inl a2] => if c0 = 9 then (if c1 = 9 then (sp_gapBySecond a0 a1 a2 μ (fun r μ' => Q (some (.inl r)) μ')) else False) else False
  | _ => False
def sp_gapBySecond_cd : List sl_Ent := [(0, .iload_n 2, 1, 0, [2], [], false), (1, .lookupswitch 47 #[(0, 27), (3, 37)], 27, 0, [48], [(0, 28), (3, 38)], false), (28, .aload_n 0, 1, 0, [0], [], false), (29, .getfield 22, 3, 0, [9, 3, 0, 0, 0], [], false), (32, .aload_n 1, 1, 0, [1], [], false), (33, .getfield 22, 3, 0, [9, 3, 0, 0, 0], [], false), (36, .isub, 1, 0, [], [], false), (37, .ireturn, 1, 0, [], [], false), (38, .aload_n 1, 1, 0, [1], [], false), (39, .invokevirtual 31, 3, 0, [0], [], false), (42, .aload_n 0, 1, 0, [0], [], false), (43, .invokevirtual 31, 3, 0, [0], [], false), (46, .isub, 1, 0, [], [], false), (47, .ireturn, 1, 0, [], [], false), (48, .aload_n 0, 1, 0, [0], [], false), (49, .getfield 19, 3, 0, [9, 2, 0, 0, 0], [], false), (52, .aload_n 1, 1, 0, [1], [], false), (53, .getfield 19, 3, 0, [9, 2, 0, 0, 0], [], false), (56, .isub, 1, 0, [], [], false), (57, .ireturn, 1, 0, [], [], false)]
def sp_gapBySecond_y : MethodName := ⟨"SpanLayers$Span", "gapBySecond", "(LSpanLayers$Span;I)I"⟩
theorem sp_gapBySecond_tb : sl_tbOK sl_R9 prog_11_method_10_code 3 (some .int) lk_sp [(31, 0)] sp_gapBySecond_cd = true := by decide +kernel
def sp_gapBySecond_ct : List sl_Ct := [(1, 0, 9, sp_length_pt)]
theorem sp_gapBySecond_hc (g : sl_G) : sl_HC g sl_R9 1 sp_gapBySecond_ct [(31, 0)] := sl_HC_cons (cs_sp_31 g (by decide)) (sl_HC_nil g sl_R9 1)
set_option maxRecDepth 20000 in
set_option maxHeartbeats 2000000 in
theorem sp_gapBySecond_snd (g : sl_G) : sl_Snd g sp_gapBySecond_y prog_11_method_10_code 3 (some .int) 1 (sp_gapBySecond_pt) := by
  intro As μ Q hw h
  unfold sp_gapBySecond_pt at h
  split at h
  next c0 a0 c1 a1 a2 =>
    split at h
    next e_ =>
      subst e_
      split at h
      next e_ =>
        subst e_
        refine sl_mk2 g [true, true, true] (cst := [some (.inr (.inr (some (9, a0)))), some (.inr (.inr (some (9, a1)))), some (.inl a2)]) (lv0 := [none, none, none]) (by decide) rfl hw rfl rfl rfl lk_sp_ok (sp_gapBySecond_hc g) sp_gapBySecond_tb rfl ?_
        intro X M
        exact ⟨_, sl_VV0, h⟩
      next => exact h.elim
    next => exact h.elim
  next => exact h.elim
def sp_isAhead (a0 : Nat) (a1 : Nat) (a2 : Int32) (μ : sl_M) (Q : Int32 → sl_M → Prop) : Prop := sp_gapByFirst a0 a1 a2 μ (fun r2 m1 => (r2 = (0 : Int32) → sp_gapBySecond a0 a1 a2 m1 (fun r4 m3 => (r4 = (0 : Int32) → ((m3 a0 0) < (m3 a1 0) → sl_bz (1 : Int32) = (1 : Int32) ∧ Q (1 : Int32) m3) ∧ (¬ (m3 a0 0) < (m3 a1 0) → sl_bz (0 : Int32) = (0 : Int32) ∧ Q (0 : Int32) m3)) ∧ (¬ r4 = (0 : Int32) → (r4 < (0 : Int32) → sl_bz (1 : Int32) = (1 : Int32) ∧ Q (1 : Int32) m3) ∧ (¬ r4 < (0 : Int32) → sl_bz (0 : Int32) = (0 : Int32) ∧ Q (0 : Int32) m3)))) ∧ (¬ r2 = (0 : Int32) → (r2 < (0 : Int32) → sl_bz (1 : Int32) = (1 : Int32) ∧ Q (1 : Int32) m1) ∧ (¬ r2 < (0 : Int32) → sl_bz (0 : Int32) = (0 : Int32) ∧ Q (0 : Int32) m1)))
def sp_isAhead_pt : sl_PT := fun As μ Q => match As with
  | [.inr (.inr (some (c0, a0))), .inr (.inr (some (c1, a1))), .inl a2] => if c0 = 9 then (if c1 = 9 then (sp_isAhead a0 a1 a2 μ (fun r μ' => Q (some (.inl r)) μ')) else False) else False
  | _ => False
def sp_isAhead_cd : List sl_Ent := [(0, .aload_n 0, 1, 0, [0], [], false), (1, .aload_n 1, 1, 0, [1], [], false), (2, .iload_n 2, 1, 0, [2], [], false), (3, .invokevirtual 39, 3, 0, [0], [], false), (6, .istore_n 3, 1, 0, [3], [], false), (7, .iload_n 3, 1, 0, [3], [], false), (8, .ifCond .eq 13, 3, 0, [21], [], false), (11, .iload_n 3, 1, 0, [3], [], false), (12, .ifCond .ge 7, 3, 0, [19], [], false), (15, .iconst 1, 1, 1, [], [], false), (16, .goto 4, 3, 0, [20], [], false), (19, .iconst 0, 1, 0, [], [], false), (20, .ireturn, 1, 0, [1], [], false), (21, .aload_n 0, 1, 0, [0], [], false), (22, .aload_n 1, 1, 0, [1], [], false), (23, .iload_n 2, 1, 0, [2], [], false), (24, .invokevirtual 43, 3, 0, [1], [], false), (27, .istore 4, 2, 0, [4], [], false), (29, .iload 4, 2, 0, [4], [], false), (31, .ifCond .eq 14, 3, 0, [45], [], false), (34, .iload 4, 2, 0, [4], [], false), (36, .ifCond .ge 7, 3, 0, [43], [], false), (39, .iconst 1, 1, 1, [], [], false), (40, .goto 4, 3, 0, [44], [], false), (43, .iconst 0, 1, 0, [], [], false), (44, .ireturn, 1, 0, [1], [], false), (45, .aload_n 0, 1, 0, [0], [], false), (46, .getfield 9, 3, 0, [9, 0, 0, 0, 0], [], false), (49, .aload_n 1, 1, 0, [1], [], false), (50, .getfield 9, 3, 0, [9, 0, 0, 0, 0], [], false), (53, .if_icmp .ge 7, 3, 0, [60], [], false), (56, .iconst 1, 1, 1, [], [], false), (57, .goto 4, 3, 0, [61], [], false), (60, .iconst 0, 1, 0, [], [], false), (61, .ireturn, 1, 0, [1], [], false)]
def sp_isAhead_y : MethodName := ⟨"SpanLayers$Span", "isAhead", "(LSpanLayers$Span;I)Z"⟩
theorem sp_isAhead_tb : sl_tbOK sl_R9 prog_11_method_8_code 5 (some .boolean) lk_sp [(39, 0), (43, 0)] sp_isAhead_cd = true := by decide +kernel
theorem sp_gapByFirst_w2 : Cond.instanceMethod sp_gapByFirst_y ∈ sl_T0 := sl_in1 432 (by decide +kernel) rfl
theorem sp_gapByFirst_w3 : Cond.selects sp_gapByFirst_y.cls sp_gapByFirst_y sp_gapByFirst_y ∈ sl_T0 := sl_in1 0 (by decide +kernel) rfl
theorem sp_gapByFirst_w4 : Cond.initialized sp_gapByFirst_y.cls ∈ sl_T0 := sl_in1 87 (by decide +kernel) rfl
theorem sp_gapByFirst_w5 : Cond.code sp_gapByFirst_y prog_11_method_9_code 3 (some .int) ∈ sl_T0 := sl_in1 433 (by decide +kernel) rfl
theorem sp_gapByFirst_w6 : sp_gapByFirst_y.cls ≠ "java/lang/invoke/MethodHandle" ∧ sp_gapByFirst_y.cls ≠ "java/lang/invoke/VarHandle" ∧ (parseMethodDescriptor sp_gapByFirst_y.desc).map (fun d => d.parameters.length) = some 2 := by decide +kernel
theorem cs_sp_39 (g : sl_G) {hh : Nat} (h : 2 ≤ hh) : sl_CallS g sl_R9 39 0 9 hh 3 sp_gapByFirst_pt := sl_callV (y := sp_gapByFirst_y) (T := sl_F9) (N := 6) (sp_gapByFirst_snd g) h (by decide) (sl_in1 430 (by decide +kernel) rfl) sp_gapByFirst_w2 sp_gapByFirst_w3 sp_gapByFirst_w4 sp_gapByFirst_w5 sp_gapByFirst_w6 rfl (by decide)
theorem sp_gapBySecond_w2 : Cond.instanceMethod sp_gapBySecond_y ∈ sl_T0 := sl_in1 440 (by decide +kernel) rfl
theorem sp_gapBySecond_w3 : Cond.selects sp_gapBySecond_y.cls sp_gapBySecond_y sp_gapBySecond_y ∈ sl_T0 := sl_in1 1 (by decide +kernel) rfl
theorem sp_gapBySecond_w4 : Cond.initialized sp_gapBySecond_y.cls ∈ sl_T0 := sl_in1 87 (by decide +kernel) rfl
theorem sp_gapBySecond_w5 : Cond.code sp_gapBySecond_y prog_11_method_10_code 3 (some .int) ∈ sl_T0 := sl_in1 441 (by decide +kernel) rfl
theorem sp_gapBySecond_w6 : sp_gapBySecond_y.cls ≠ "java/lang/invoke/MethodHandle" ∧ sp_gapBySecond_y.cls ≠ "java/lang/invoke/VarHandle" ∧ (parseMethodDescriptor sp_gapBySecond_y.desc).map (fun d => d.parameters.length) = some 2 := by decide +kernel
theorem cs_sp_43 (g : sl_G) {hh : Nat} (h : 2 ≤ hh) : sl_CallS g sl_R9 43 0 9 hh 3 sp_gapBySecond_pt := sl_callV (y := sp_gapBySecond_y) (T := sl_F9) (N := 6) (sp_gapBySecond_snd g) h (by decide) (sl_in1 438 (by decide +kernel) rfl) sp_gapBySecond_w2 sp_gapBySecond_w3 sp_gapBySecond_w4 sp_gapBySecond_w5 sp_gapBySecond_w6 rfl (by decide)
def sp_isAhead_ct : List sl_Ct := [(3, 0, 9, sp_gapByFirst_pt), (3, 0, 9, sp_gapBySecond_pt)]
theorem sp_isAhead_hc (g : sl_G) : sl_HC g sl_R9 2 sp_isAhead_ct [(39, 0), (43, 0)] := sl_HC_cons (cs_sp_39 g (by decide)) (sl_HC_cons (cs_sp_43 g (by decide)) (sl_HC_nil g sl_R9 2))
set_option maxRecDepth 20000 in
set_option maxHeartbeats 2000000 in
theorem sp_isAhead_snd (g : sl_G) : sl_Snd g sp_isAhead_y prog_11_method_8_code 5 (some .boolean) 2 (sp_isAhead_pt) := by
  intro As μ Q hw h
  unfold sp_isAhead_pt at h
  split at h
  next c0 a0 c1 a1 a2 =>
    split at h
    next e_ =>
      subst e_
      split at h
      next e_ =>
        subst e_
        refine sl_mk2 g [true, true, true, false, false] (cst := [some (.inr (.inr (some (9, a0)))), some (.inr (.inr (some (9, a1)))), some (.inl a2)]) (lv0 := [none, none, none, none, none]) (by decide) rfl hw rfl rfl rfl lk_sp_ok (sp_isAhead_hc g) sp_isAhead_tb rfl ?_
        intro X M
        exact ⟨_, sl_VV0, h⟩
      next => exact h.elim
    next => exact h.elim
  next => exact h.elim
def ix_sortBy_L25 (a1 : Int32) (Q : Int32 → sl_M → Prop) (k4 : Int32 → Int32 → sl_M → Prop) : Nat → Int32 → Int32 → Int32 → sl_M → Prop
  | 0, _, _, _, _ => False
  | n + 1, x2, x3, x4, μ => (x4 ≤ (0 : Int32) → vp_in x3 30 ∧ vp_in x4 30 ∧ ∀ m2, m2 = sl_up μ 3 x4.toNatClampNeg (nI (4 + x3.toNatClampNeg)) → k4 (x2 + (1 : Int32)) (x3 + (1 : Int32)) m2) ∧ (¬ x4 ≤ (0 : Int32) → vp_in x3 30 ∧ vp_in (x4 - (1 : Int32)) 30 ∧ sl_kd (μ 3 (x4 - (1 : Int32)).toNatClampNeg).toNatClampNeg = 9 ∧ sp_isAhead (4 + x3.toNatClampNeg) ((μ 3 (x4 - (1 : Int32)).toNatClampNeg).toNatClampNeg) a1 μ (fun r4 m3 => (r4 = (0 : Int32) → vp_in x3 30 ∧ vp_in x4 30 ∧ ∀ m5, m5 = sl_up m3 3 x4.toNatClampNeg (nI (4 + x3.toNatClampNeg)) → k4 (x2 + (1 : Int32)) (x3 + (1 : Int32)) m5) ∧ (¬ r4 = (0 : Int32) → vp_in (x4 - (1 : Int32)) 30 ∧ sl_kd (m3 3 (x4 - (1 : Int32)).toNatClampNeg).toNatClampNeg = 9 ∧ vp_in x4 30 ∧ ∀ m6, m6 = sl_up m3 3 x4.toNatClampNeg (nI ((m3 3 (x4 - (1 : Int32)).toNatClampNeg).toNatClampNeg)) → (ix_sortBy_L25 a1 Q k4 n) x2 x3 (x4 + (-1 : Int32)) m6)))
def ix_sortBy_L4 (a1 : Int32) (Q : Int32 → sl_M → Prop) : Nat → Int32 → Int32 → sl_M → Prop
  | 0, _, _, _ => False
  | n + 1, x2, x3, μ => (x3 < (30 : Int32) → vp_in x3 30 ∧ ((sl_bz (μ (4 + x3.toNatClampNeg) 1)) = (0 : Int32) → (ix_sortBy_L4 a1 Q n) x2 (x3 + (1 : Int32)) μ) ∧ (¬ (sl_bz (μ (4 + x3.toNatClampNeg) 1)) = (0 : Int32) → ∃ n1, ix_sortBy_L25 a1 Q (ix_sortBy_L4 a1 Q n) n1 x2 x3 x2 μ)) ∧ (¬ x3 < (30 : Int32) → Q x2 μ)
def ix_sortBy (a1 : Int32) (μ : sl_M) (Q : Int32 → sl_M → Prop) : Prop := ∃ n7, ix_sortBy_L4 a1 Q n7 (0 : Int32) (0 : Int32) μ
def ix_sortBy_pt : sl_PT := fun As μ Q => match As with
  | [.inr (.inr (some (c0, a0))), .inl a1] => if c0 = 5 then (if a0 = 1 then (ix_sortBy a1 μ (fun r μ' => Q (some (.inl r)) μ')) else False) else False
  | _ => False
def ix_sortBy_cd : List sl_Ent := [(0, .iconst 0, 1, 0, [], [], false), (1, .istore_n 2, 1, 0, [2], [], false), (2, .iconst 0, 1, 0, [], [], false), (3, .istore_n 3, 1, 0, [3], [], false), (4, .iload_n 3, 1, 0, [3], [], true), (5, .bipush 30, 2, 30, [], [], false), (7, .if_icmp .ge 89, 3, 0, [96], [], false), (10, .aload_n 0, 1, 0, [0], [], false), (11, .getfield 11, 3, 0, [5, 0, 2, 22, 1], [], false), (14, .iload_n 3, 1, 0, [3], [], false), (15, .aaload, 1, 0, [], [], false), (16, .getfield 31, 3, 0, [9, 1, 1, 0, 0], [], false), (19, .ifCond .eq 71, 3, 0, [90], [], false), (22, .iload_n 2, 1, 0, [2], [], false), (23, .istore 4, 2, 0, [4], [], false), (25, .iload 4, 2, 0, [4], [], true), (27, .ifCond .le 47, 3, 0, [74], [], false), (30, .aload_n 0, 1, 0, [0], [], false), (31, .getfield 11, 3, 0, [5, 0, 2, 22, 1], [], false), (34, .iload_n 3, 1, 0, [3], [], false), (35, .aaload, 1, 0, [], [], false), (36, .aload_n 0, 1, 0, [0], [], false), (37, .getfield 17, 3, 0, [5, 1, 2, 23, 2], [], false), (40, .iload 4, 2, 0, [4], [], false), (42, .iconst 1, 1, 1, [], [], false), (43, .isub, 1, 0, [], [], false), (44, .aaload, 1, 0, [], [], false), (45, .iload_n 1, 1, 0, [1], [], false), (46, .invokevirtual 68, 3, 0, [0], [], false), (49, .ifCond .eq 25, 3, 0, [74], [], false), (52, .aload_n 0, 1, 0, [0], [], false), (53, .getfield 17, 3, 0, [5, 1, 2, 23, 2], [], false), (56, .iload 4, 2, 0, [4], [], false), (58, .aload_n 0, 1, 0, [0], [], false), (59, .getfield 17, 3, 0, [5, 1, 2, 23, 2], [], false), (62, .iload 4, 2, 0, [4], [], false), (64, .iconst 1, 1, 1, [], [], false), (65, .isub, 1, 0, [], [], false), (66, .aaload, 1, 0, [], [], false), (67, .aastore, 1, 0, [], [], false), (68, .iinc 4 (-1), 3, (-1), [], [], false), (71, .goto (-46), 3, 0, [25], [], false), (74, .aload_n 0, 1, 0, [0], [], false), (75, .getfield 17, 3, 0, [5, 1, 2, 23, 2], [], false), (78, .iload 4, 2, 0, [4], [], false), (80, .aload_n 0, 1, 0, [0], [], false), (81, .getfield 11, 3, 0, [5, 0, 2, 22, 1], [], false), (84, .iload_n 3, 1, 0, [3], [], false), (85, .aaload, 1, 0, [], [], false), (86, .aastore, 1, 0, [], [], false), (87, .iinc 2 1, 3, 1, [], [], false), (90, .iinc 3 1, 3, 1, [], [], false), (93, .goto (-89), 3, 0, [4], [], false), (96, .iload_n 2, 1, 0, [2], [], false), (97, .ireturn, 1, 0, [], [], false)]
def ix_sortBy_y : MethodName := ⟨"SpanLayers$Index", "sortBy", "(I)I"⟩
theorem ix_sortBy_tb : sl_tbOK sl_R5 prog_7_method_8_code 5 (some .int) lk_ix [(68, 0)] ix_sortBy_cd = true := by decide +kernel
theorem sp_isAhead_w2 : Cond.instanceMethod sp_isAhead_y ∈ sl_T0 := sl_in1 427 (by decide +kernel) rfl
theorem sp_isAhead_w3 : Cond.selects sp_isAhead_y.cls sp_isAhead_y sp_isAhead_y ∈ sl_T0 := sl_in1 428 (by decide +kernel) rfl
theorem sp_isAhead_w4 : Cond.initialized sp_isAhead_y.cls ∈ sl_T0 := sl_in1 87 (by decide +kernel) rfl
theorem sp_isAhead_w5 : Cond.code sp_isAhead_y prog_11_method_8_code 5 (some .boolean) ∈ sl_T0 := sl_in1 429 (by decide +kernel) rfl
theorem sp_isAhead_w6 : sp_isAhead_y.cls ≠ "java/lang/invoke/MethodHandle" ∧ sp_isAhead_y.cls ≠ "java/lang/invoke/VarHandle" ∧ (parseMethodDescriptor sp_isAhead_y.desc).map (fun d => d.parameters.length) = some 2 := by decide +kernel
theorem cs_ix_68 (g : sl_G) {hh : Nat} (h : 3 ≤ hh) : sl_CallS g sl_R5 68 0 9 hh 3 sp_isAhead_pt := sl_callV (y := sp_isAhead_y) (T := sl_F9) (N := 6) (sp_isAhead_snd g) h (by decide) (sl_in1 426 (by decide +kernel) rfl) sp_isAhead_w2 sp_isAhead_w3 sp_isAhead_w4 sp_isAhead_w5 sp_isAhead_w6 rfl (by decide)
def ix_sortBy_ct : List sl_Ct := [(3, 0, 9, sp_isAhead_pt)]
theorem ix_sortBy_hc (g : sl_G) : sl_HC g sl_R5 3 ix_sortBy_ct [(68, 0)] := sl_HC_cons (cs_ix_68 g (by decide)) (sl_HC_nil g sl_R5 3)
set_option maxRecDepth 20000 in
set_option maxHeartbeats 2000000 in
theorem ix_sortBy_snd (g : sl_G) : sl_Snd g ix_sortBy_y prog_7_method_8_code 5 (some .int) 3 (ix_sortBy_pt) := by
  intro As μ Q hw h
  unfold ix_sortBy_pt at h
  split at h
  next c0 a0 a1 =>
    split at h
    next e_ =>
      subst e_
      split at h
      next e_ =>
        subst e_
        refine sl_mk2 g [true, true, false, false, false] (cst := [some (.inr (.inr (some (5, 1)))), some (.inl a1)]) (lv0 := [none, none, none, none, none]) (by decide) rfl hw rfl rfl rfl lk_ix_ok (ix_sortBy_hc g) ix_sortBy_tb rfl ?_
        intro X M
        have v4 := sl_extL M sl_VV0 4 (fun n lv st μ => match lv, st with | [_, _, some (.inl x2), some (.inl x3), _], [] => ix_sortBy_L4 a1 (fun r μ' => Q (some (.inl r)) μ') n x2 x3 μ | _, _ => False) (by
            intro lv st μ h
            split at h
            · exact h
            · exact h) (by
            intro n4 w4
            have v25 := sl_extL M w4 25 (fun n lv st μ => match lv, st with | [_, _, some (.inl x2), some (.inl x3), some (.inl x4)], [] => ix_sortBy_L25 a1 (fun r μ' => Q (some (.inl r)) μ') (ix_sortBy_L4 a1 (fun r μ' => Q (some (.inl r)) μ') n4) n x2 x3 x4 μ | _, _ => False) (by
                intro lv st μ h
                split at h
                · exact h
                · exact h) (by
                intro n25 w25
                refine ⟨_, w25, ?_⟩
                intro lv st μ h
                split at h
                · exact h
                · exact h.elim)
            refine ⟨_, v25, ?_⟩
            intro lv st μ h
            split at h
            · exact h
            · exact h.elim)
        exact ⟨_, v4, h⟩
      next => exact h.elim
    next => exact h.elim
  next => exact h.elim
def sp_covers (a0 : Nat) (a1 : Nat) (μ : sl_M) (Q : Int32 → sl_M → Prop) : Prop := ((μ a0 2) ≤ (μ a1 2) → ((μ a0 3) < (μ a1 3) → sl_bz (0 : Int32) = (0 : Int32) ∧ Q (0 : Int32) μ) ∧ (¬ (μ a0 3) < (μ a1 3) → sp_length a0 μ (fun r2 m1 => sp_length a1 m1 (fun r4 m3 => (r2 ≤ r4 → ((m3 a0 0) < (m3 a1 0) → sl_bz (1 : Int32) = (1 : Int32) ∧ Q (1 : Int32) m3) ∧ (¬ (m3 a0 0) < (m3 a1 0) → sl_bz (0 : Int32) = (0 : Int32) ∧ Q (0 : Int32) m3)) ∧ (¬ r2 ≤ r4 → sl_bz (1 : Int32) = (1 : Int32) ∧ Q (1 : Int32) m3))))) ∧ (¬ (μ a0 2) ≤ (μ a1 2) → sl_bz (0 : Int32) = (0 : Int32) ∧ Q (0 : Int32) μ)
def sp_covers_pt : sl_PT := fun As μ Q => match As with
  | [.inr (.inr (some (c0, a0))), .inr (.inr (some (c1, a1)))] => if c0 = 9 then (if c1 = 9 then (sp_covers a0 a1 μ (fun r μ' => Q (some (.inl r)) μ')) else False) else False
  | _ => False
def sp_covers_cd : List sl_Ent := [(0, .aload_n 0, 1, 0, [0], [], false), (1, .getfield 19, 3, 0, [9, 2, 0, 0, 0], [], false), (4, .aload_n 1, 1, 0, [1], [], false), (5, .getfield 19, 3, 0, [9, 2, 0, 0, 0], [], false), (8, .if_icmp .gt 14, 3, 0, [22], [], false), (11, .aload_n 0, 1, 0, [0], [], false), (12, .getfield 22, 3, 0, [9, 3, 0, 0, 0], [], false), (15, .aload_n 1, 1, 0, [1], [], false), (16, .getfield 22, 3, 0, [9, 3, 0, 0, 0], [], false), (19, .if_icmp .ge 5, 3, 0, [24], [], false), (22, .iconst 0, 1, 0, [], [], false), (23, .ireturn, 1, 0, [1], [], false), (24, .aload_n 0, 1, 0, [0], [], false), (25, .invokevirtual 31, 3, 0, [0], [], false), (28, .aload_n 1, 1, 0, [1], [], false), (29, .invokevirtual 31, 3, 0, [0], [], false), (32, .if_icmp .gt 14, 3, 0, [46], [], false), (35, .aload_n 0, 1, 0, [0], [], false), (36, .getfield 9, 3, 0, [9, 0, 0, 0, 0], [], false), (39, .aload_n 1, 1, 0, [1], [], false), (40, .getfield 9, 3, 0, [9, 0, 0, 0, 0], [], false), (43, .if_icmp .ge 7, 3, 0, [50], [], false), (46, .iconst 1, 1, 1, [], [], false), (47, .goto 4, 3, 0, [51], [], false), (50, .iconst 0, 1, 0, [], [], false), (51, .ireturn, 1, 0, [1], [], false)]
def sp_covers_y : MethodName := ⟨"SpanLayers$Span", "covers", "(LSpanLayers$Span;)Z"⟩
theorem sp_covers_tb : sl_tbOK sl_R9 prog_11_method_5_code 2 (some .boolean) lk_sp [(31, 0)] sp_covers_cd = true := by decide +kernel
def sp_covers_ct : List sl_Ct := [(1, 0, 9, sp_length_pt)]
theorem sp_covers_hc (g : sl_G) : sl_HC g sl_R9 1 sp_covers_ct [(31, 0)] := sl_HC_cons (cs_sp_31 g (by decide)) (sl_HC_nil g sl_R9 1)
set_option maxRecDepth 20000 in
set_option maxHeartbeats 2000000 in
theorem sp_covers_snd (g : sl_G) : sl_Snd g sp_covers_y prog_11_method_5_code 2 (some .boolean) 1 (sp_covers_pt) := by
  intro As μ Q hw h
  unfold sp_covers_pt at h
  split at h
  next c0 a0 c1 a1 =>
    split at h
    next e_ =>
      subst e_
      split at h
      next e_ =>
        subst e_
        refine sl_mk2 g [true, true] (cst := [some (.inr (.inr (some (9, a0)))), some (.inr (.inr (some (9, a1))))]) (lv0 := [none, none]) (by decide) rfl hw rfl rfl rfl lk_sp_ok (sp_covers_hc g) sp_covers_tb rfl ?_
        intro X M
        exact ⟨_, sl_VV0, h⟩
      next => exact h.elim
    next => exact h.elim
  next => exact h.elim
def ix_relayer_L18 (Q : sl_M → Prop) (k8 : Int32 → Int32 → sl_M → Prop) : Nat → Int32 → Int32 → Int32 → Int32 → sl_M → Prop
  | 0, _, _, _, _, _ => False
  | n + 1, x1, x2, x3, x4, μ => (x4 < x2 → vp_in x4 30 ∧ sl_kd (μ 3 x4.toNatClampNeg).toNatClampNeg = 9 ∧ vp_in x2 30 ∧ sl_kd (μ 3 x2.toNatClampNeg).toNatClampNeg = 9 ∧ sp_covers ((μ 3 x4.toNatClampNeg).toNatClampNeg) ((μ 3 x2.toNatClampNeg).toNatClampNeg) μ (fun r3 m2 => (r3 = (0 : Int32) → (ix_relayer_L18 Q k8 n) x1 x2 x3 (x4 + (1 : Int32)) m2) ∧ (¬ r3 = (0 : Int32) → vp_in x4 30 ∧ sl_kd (m2 3 x4.toNatClampNeg).toNatClampNeg = 9 ∧ ma_max x3 ((m2 ((m2 3 x4.toNatClampNeg).toNatClampNeg) 5) + (1 : Int32)) m2 (fun r5 m4 => (ix_relayer_L18 Q k8 n) x1 x2 r5 (x4 + (1 : Int32)) m4)))) ∧ (¬ x4 < x2 → vp_in x2 30 ∧ sl_kd (μ 3 x2.toNatClampNeg).toNatClampNeg = 9 ∧ ∀ m6, m6 = sl_up μ ((μ 3 x2.toNatClampNeg).toNatClampNeg) 5 x3 → k8 x1 (x2 + (1 : Int32)) m6)
def ix_relayer_L8 (Q : sl_M → Prop) : Nat → Int32 → Int32 → sl_M → Prop
  | 0, _, _, _ => False
  | n + 1, x1, x2, μ => (x2 < x1 → ∃ n1, ix_relayer_L18 Q (ix_relayer_L8 Q n) n1 x1 x2 (0 : Int32) (0 : Int32) μ) ∧ (¬ x2 < x1 → Q μ)
def ix_relayer (μ : sl_M) (Q : sl_M → Prop) : Prop := ix_sortBy (2 : Int32) μ (fun r8 m7 => ∃ n9, ix_relayer_L8 Q n9 r8 (0 : Int32) m7)
def ix_relayer_pt : sl_PT := fun As μ Q => match As with
  | [.inr (.inr (some (c0, a0)))] => if c0 = 5 then (if a0 = 1 then (ix_relayer μ (fun μ' => Q none μ')) else False) else False
  | _ => False
def ix_relayer_cd : List sl_Ent := [(0, .aload_n 0, 1, 0, [0], [], false), (1, .iconst 2, 1, 2, [], [], false), (2, .invokevirtual 51, 3, 0, [0], [], false), (5, .istore_n 1, 1, 0, [1], [], false), (6, .iconst 0, 1, 0, [], [], false), (7, .istore_n 2, 1, 0, [2], [], false), (8, .iload_n 2, 1, 0, [2], [], true), (9, .iload_n 1, 1, 0, [1], [], false), (10, .if_icmp .ge 72, 3, 0, [82], [], false), (13, .iconst 0, 1, 0, [], [], false), (14, .istore_n 3, 1, 0, [3], [], false), (15, .iconst 0, 1, 0, [], [], false), (16, .istore 4, 2, 0, [4], [], false), (18, .iload 4, 2, 0, [4], [], true), (20, .iload_n 2, 1, 0, [2], [], false), (21, .if_icmp .ge 45, 3, 0, [66], [], false), (24, .aload_n 0, 1, 0, [0], [], false), (25, .getfield 17, 3, 0, [5, 1, 2, 23, 2], [], false), (28, .iload 4, 2, 0, [4], [], false), (30, .aaload, 1, 0, [], [], false), (31, .aload_n 0, 1, 0, [0], [], false), (32, .getfield 17, 3, 0, [5, 1, 2, 23, 2], [], false), (35, .iload_n 2, 1, 0, [2], [], false), (36, .aaload, 1, 0, [], [], false), (37, .invokevirtual 55, 3, 0, [1], [], false), (40, .ifCond .eq 20, 3, 0, [60], [], false), (43, .iload_n 3, 1, 0, [3], [], false), (44, .aload_n 0, 1, 0, [0], [], false), (45, .getfield 17, 3, 0, [5, 1, 2, 23, 2], [], false), (48, .iload 4, 2, 0, [4], [], false), (50, .aaload, 1, 0, [], [], false), (51, .getfield 59, 3, 0, [9, 5, 0, 0, 0], [], false), (54, .iconst 1, 1, 1, [], [], false), (55, .iadd, 1, 0, [], [], false), (56, .invokestatic 62, 3, 0, [2], [], false), (59, .istore_n 3, 1, 0, [3], [], false), (60, .iinc 4 1, 3, 1, [], [], false), (63, .goto (-45), 3, 0, [18], [], false), (66, .aload_n 0, 1, 0, [0], [], false), (67, .getfield 17, 3, 0, [5, 1, 2, 23, 2], [], false), (70, .iload_n 2, 1, 0, [2], [], false), (71, .aaload, 1, 0, [], [], false), (72, .iload_n 3, 1, 0, [3], [], false), (73, .putfield 59, 3, 0, [9, 5, 0], [], false), (76, .iinc 2 1, 3, 1, [], [], false), (79, .goto (-71), 3, 0, [8], [], false), (82, .return_, 1, 0, [], [], false)]
def ix_relayer_y : MethodName := ⟨"SpanLayers$Index", "relayer", "()V"⟩
theorem ix_relayer_tb : sl_tbOK sl_R5 prog_7_method_7_code 5 none lk_ix [(51, 0), (55, 0), (62, 1)] ix_relayer_cd = true := by decide +kernel
theorem ix_sortBy_w2 : Cond.instanceMethod ix_sortBy_y ∈ sl_T0 := sl_in1 423 (by decide +kernel) rfl
theorem ix_sortBy_w3 : Cond.selects ix_sortBy_y.cls ix_sortBy_y ix_sortBy_y ∈ sl_T0 := sl_in1 424 (by decide +kernel) rfl
theorem ix_sortBy_w4 : Cond.initialized ix_sortBy_y.cls ∈ sl_T0 := sl_in1 86 (by decide +kernel) rfl
theorem ix_sortBy_w5 : Cond.code ix_sortBy_y prog_7_method_8_code 5 (some .int) ∈ sl_T0 := sl_in1 425 (by decide +kernel) rfl
theorem ix_sortBy_w6 : ix_sortBy_y.cls ≠ "java/lang/invoke/MethodHandle" ∧ ix_sortBy_y.cls ≠ "java/lang/invoke/VarHandle" ∧ (parseMethodDescriptor ix_sortBy_y.desc).map (fun d => d.parameters.length) = some 1 := by decide +kernel
theorem cs_ix_51 (g : sl_G) {hh : Nat} (h : 4 ≤ hh) : sl_CallS g sl_R5 51 0 5 hh 2 ix_sortBy_pt := sl_callV (y := ix_sortBy_y) (T := sl_F5) (N := 2) (ix_sortBy_snd g) h (by decide) (sl_in1 422 (by decide +kernel) rfl) ix_sortBy_w2 ix_sortBy_w3 ix_sortBy_w4 ix_sortBy_w5 ix_sortBy_w6 rfl (by decide)
theorem sp_covers_w2 : Cond.instanceMethod sp_covers_y ∈ sl_T0 := sl_in1 443 (by decide +kernel) rfl
theorem sp_covers_w3 : Cond.selects sp_covers_y.cls sp_covers_y sp_covers_y ∈ sl_T0 := sl_in1 444 (by decide +kernel) rfl
theorem sp_covers_w4 : Cond.initialized sp_covers_y.cls ∈ sl_T0 := sl_in1 87 (by decide +kernel) rfl
theorem sp_covers_w5 : Cond.code sp_covers_y prog_11_method_5_code 2 (some .boolean) ∈ sl_T0 := sl_in1 445 (by decide +kernel) rfl
theorem sp_covers_w6 : sp_covers_y.cls ≠ "java/lang/invoke/MethodHandle" ∧ sp_covers_y.cls ≠ "java/lang/invoke/VarHandle" ∧ (parseMethodDescriptor sp_covers_y.desc).map (fun d => d.parameters.length) = some 1 := by decide +kernel
theorem cs_ix_55 (g : sl_G) {hh : Nat} (h : 2 ≤ hh) : sl_CallS g sl_R5 55 0 9 hh 2 sp_covers_pt := sl_callV (y := sp_covers_y) (T := sl_F9) (N := 6) (sp_covers_snd g) h (by decide) (sl_in1 442 (by decide +kernel) rfl) sp_covers_w2 sp_covers_w3 sp_covers_w4 sp_covers_w5 sp_covers_w6 rfl (by decide)
theorem cs_ix_62 (g : sl_G) {hh : Nat} (h : 1 ≤ hh) : sl_CallS g sl_R5 62 1 0 hh 2 ma_max_pt := sl_callMax h (sl_in1 446 (by decide +kernel) rfl) (sl_in1 447 (by decide +kernel) rfl) (sl_in1 98 (by decide +kernel) rfl) (sl_in1 448 (by decide +kernel) rfl)
def ix_relayer_ct : List sl_Ct := [(2, 0, 5, ix_sortBy_pt), (2, 0, 9, sp_covers_pt), (2, 1, 0, ma_max_pt)]
theorem ix_relayer_hc (g : sl_G) : sl_HC g sl_R5 4 ix_relayer_ct [(51, 0), (55, 0), (62, 1)] := sl_HC_cons (cs_ix_51 g (by decide)) (sl_HC_cons (cs_ix_55 g (by decide)) (sl_HC_cons (cs_ix_62 g (by decide)) (sl_HC_nil g sl_R5 4)))
set_option maxRecDepth 20000 in
set_option maxHeartbeats 2000000 in
theorem ix_relayer_snd (g : sl_G) : sl_Snd g ix_relayer_y prog_7_method_7_code 5 none 4 (ix_relayer_pt) := by
  intro As μ Q hw h
  unfold ix_relayer_pt at h
  split at h
  next c0 a0 =>
    split at h
    next e_ =>
      subst e_
      split at h
      next e_ =>
        subst e_
        refine sl_mk2 g [true, false, false, false, false] (cst := [some (.inr (.inr (some (5, 1))))]) (lv0 := [none, none, none, none, none]) (by decide) rfl hw rfl rfl rfl lk_ix_ok (ix_relayer_hc g) ix_relayer_tb rfl ?_
        intro X M
        have v8 := sl_extL M sl_VV0 8 (fun n lv st μ => match lv, st with | [_, some (.inl x1), some (.inl x2), _, _], [] => ix_relayer_L8 (fun μ' => Q none μ') n x1 x2 μ | _, _ => False) (by
            intro lv st μ h
            split at h
            · exact h
            · exact h) (by
            intro n8 w8
            have v18 := sl_extL M w8 18 (fun n lv st μ => match lv, st with | [_, some (.inl x1), some (.inl x2), some (.inl x3), some (.inl x4)], [] => ix_relayer_L18 (fun μ' => Q none μ') (ix_relayer_L8 (fun μ' => Q none μ') n8) n x1 x2 x3 x4 μ | _, _ => False) (by
                intro lv st μ h
                split at h
                · exact h
                · exact h) (by
                intro n18 w18
                refine ⟨_, w18, ?_⟩
                intro lv st μ h
                split at h
                · exact h
                · exact h.elim)
            refine ⟨_, v18, ?_⟩
            intro lv st μ h
            split at h
            · exact h
            · exact h.elim)
        exact ⟨_, v8, h⟩
      next => exact h.elim
    next => exact h.elim
  next => exact h.elim
def ix_isIn (a1 : Int32) (μ : sl_M) (Q : Int32 → sl_M → Prop) : Prop := sx_isBelow a1 (30 : Int32) μ (fun r2 m1 => (r2 = (0 : Int32) → sl_bz (0 : Int32) = (0 : Int32) ∧ Q (0 : Int32) m1) ∧ (¬ r2 = (0 : Int32) → vp_in a1 30 ∧ ((sl_bz (m1 (4 + a1.toNatClampNeg) 1)) = (0 : Int32) → sl_bz (0 : Int32) = (0 : Int32) ∧ Q (0 : Int32) m1) ∧ (¬ (sl_bz (m1 (4 + a1.toNatClampNeg) 1)) = (0 : Int32) → sl_bz (1 : Int32) = (1 : Int32) ∧ Q (1 : Int32) m1)))
def ix_isIn_pt : sl_PT := fun As μ Q => match As with
  | [.inr (.inr (some (c0, a0))), .inl a1] => if c0 = 5 then (if a0 = 1 then (ix_isIn a1 μ (fun r μ' => Q (some (.inl r)) μ')) else False) else False
  | _ => False
def ix_isIn_cd : List sl_Ent := [(0, .iload_n 1, 1, 0, [1], [], false), (1, .bipush 30, 2, 30, [], [], false), (3, .invokestatic 27, 3, 0, [0], [], false), (6, .ifCond .eq 19, 3, 0, [25], [], false), (9, .aload_n 0, 1, 0, [0], [], false), (10, .getfield 11, 3, 0, [5, 0, 2, 22, 1], [], false), (13, .iload_n 1, 1, 0, [1], [], false), (14, .aaload, 1, 0, [], [], false), (15, .getfield 31, 3, 0, [9, 1, 1, 0, 0], [], false), (18, .ifCond .eq 7, 3, 0, [25], [], false), (21, .iconst 1, 1, 1, [], [], false), (22, .goto 4, 3, 0, [26], [], false), (25, .iconst 0, 1, 0, [], [], false), (26, .ireturn, 1, 0, [1], [], false)]
def ix_isIn_y : MethodName := ⟨"SpanLayers$Index", "isIn", "(I)Z"⟩
theorem ix_isIn_tb : sl_tbOK sl_R5 prog_7_method_3_code 2 (some .boolean) lk_ix [(27, 1)] ix_isIn_cd = true := by decide +kernel
def ix_isIn_ct : List sl_Ct := [(2, 1, 0, sx_isBelow_pt)]
theorem ix_isIn_hc (g : sl_G) : sl_HC g sl_R5 1 ix_isIn_ct [(27, 1)] := sl_HC_cons (cs_ix_27 g (by decide)) (sl_HC_nil g sl_R5 1)
set_option maxRecDepth 20000 in
set_option maxHeartbeats 2000000 in
theorem ix_isIn_snd (g : sl_G) : sl_Snd g ix_isIn_y prog_7_method_3_code 2 (some .boolean) 1 (ix_isIn_pt) := by
  intro As μ Q hw h
  unfold ix_isIn_pt at h
  split at h
  next c0 a0 a1 =>
    split at h
    next e_ =>
      subst e_
      split at h
      next e_ =>
        subst e_
        refine sl_mk2 g [true, true] (cst := [some (.inr (.inr (some (5, 1)))), some (.inl a1)]) (lv0 := [none, none]) (by decide) rfl hw rfl rfl rfl lk_ix_ok (ix_isIn_hc g) ix_isIn_tb rfl ?_
        intro X M
        exact ⟨_, sl_VV0, h⟩
      next => exact h.elim
    next => exact h.elim
  next => exact h.elim
def sx_isOfSet (a0 : Int32) (a1 : Int32) (μ : sl_M) (Q : Int32 → sl_M → Prop) : Prop := (((a1 >>> (a0 &&& 31)) &&& (1 : Int32)) = (0 : Int32) → sl_bz (0 : Int32) = (0 : Int32) ∧ Q (0 : Int32) μ) ∧ (¬ ((a1 >>> (a0 &&& 31)) &&& (1 : Int32)) = (0 : Int32) → sl_bz (1 : Int32) = (1 : Int32) ∧ Q (1 : Int32) μ)
def sx_isOfSet_pt : sl_PT := fun As μ Q => match As with
  | [.inl a0, .inl a1] => sx_isOfSet a0 a1 μ (fun r μ' => Q (some (.inl r)) μ')
  | _ => False
def sx_isOfSet_cd : List sl_Ent := [(0, .iload_n 1, 1, 0, [1], [], false), (1, .iload_n 0, 1, 0, [0], [], false), (2, .ishr, 1, 0, [], [], false), (3, .iconst 1, 1, 1, [], [], false), (4, .iand, 1, 0, [], [], false), (5, .ifCond .eq 7, 3, 0, [12], [], false), (8, .iconst 1, 1, 1, [], [], false), (9, .goto 4, 3, 0, [13], [], false), (12, .iconst 0, 1, 0, [], [], false), (13, .ireturn, 1, 0, [1], [], false)]
def sx_isOfSet_y : MethodName := ⟨"SpanLayers", "isOfSet", "(II)Z"⟩
theorem sx_isOfSet_tb : sl_tbOK sl_R11 prog_1_method_49_code 2 (some .boolean) lk_sx [] sx_isOfSet_cd = true := by decide +kernel
def sx_isOfSet_ct : List sl_Ct := []
theorem sx_isOfSet_hc (g : sl_G) : sl_HC g sl_R11 0 sx_isOfSet_ct [] := sl_HC_nil g sl_R11 0
set_option maxRecDepth 20000 in
set_option maxHeartbeats 2000000 in
theorem sx_isOfSet_snd (g : sl_G) : sl_Snd g sx_isOfSet_y prog_1_method_49_code 2 (some .boolean) 0 (sx_isOfSet_pt) := by
  intro As μ Q hw h
  unfold sx_isOfSet_pt at h
  split at h
  next a0 a1 =>
    refine sl_mk2 g [true, true] (cst := [some (.inl a0), some (.inl a1)]) (lv0 := [none, none]) (by decide) rfl hw rfl rfl rfl lk_sx_ok (sx_isOfSet_hc g) sx_isOfSet_tb rfl ?_
    intro X M
    exact ⟨_, sl_VV0, h⟩
  next => exact h.elim
def ix_takeOut_L2 (a1 : Int32) (Q : sl_M → Prop) : Nat → Int32 → sl_M → Prop
  | 0, _, _ => False
  | n + 1, x2, μ => (x2 < (30 : Int32) → sx_isOfSet x2 a1 μ (fun r2 m1 => (r2 = (0 : Int32) → (ix_takeOut_L2 a1 Q n) (x2 + (1 : Int32)) m1) ∧ (¬ r2 = (0 : Int32) → vp_in x2 30 ∧ sl_bz (0 : Int32) = (0 : Int32) ∧ ∀ m3, m3 = sl_up m1 (4 + x2.toNatClampNeg) 1 (0 : Int32) → (ix_takeOut_L2 a1 Q n) (x2 + (1 : Int32)) m3))) ∧ (¬ x2 < (30 : Int32) → ix_relayer μ (fun m4 => Q m4))
def ix_takeOut (a1 : Int32) (μ : sl_M) (Q : sl_M → Prop) : Prop := ∃ n5, ix_takeOut_L2 a1 Q n5 (0 : Int32) μ
def ix_takeOut_pt : sl_PT := fun As μ Q => match As with
  | [.inr (.inr (some (c0, a0))), .inl a1] => if c0 = 5 then (if a0 = 1 then (ix_takeOut a1 μ (fun μ' => Q none μ')) else False) else False
  | _ => False
def ix_takeOut_cd : List sl_Ent := [(0, .iconst 0, 1, 0, [], [], false), (1, .istore_n 2, 1, 0, [2], [], false), (2, .iload_n 2, 1, 0, [2], [], true), (3, .bipush 30, 2, 30, [], [], false), (5, .if_icmp .ge 27, 3, 0, [32], [], false), (8, .iload_n 2, 1, 0, [2], [], false), (9, .iload_n 1, 1, 0, [1], [], false), (10, .invokestatic 45, 3, 0, [0], [], false), (13, .ifCond .eq 13, 3, 0, [26], [], false), (16, .aload_n 0, 1, 0, [0], [], false), (17, .getfield 11, 3, 0, [5, 0, 2, 22, 1], [], false), (20, .iload_n 2, 1, 0, [2], [], false), (21, .aaload, 1, 0, [], [], false), (22, .iconst 0, 1, 0, [], [], false), (23, .putfield 31, 3, 0, [9, 1, 1], [], false), (26, .iinc 2 1, 3, 1, [], [], false), (29, .goto (-27), 3, 0, [2], [], false), (32, .aload_n 0, 1, 0, [0], [], false), (33, .invokevirtual 48, 3, 0, [1], [], false), (36, .return_, 1, 0, [], [], false)]
def ix_takeOut_y : MethodName := ⟨"SpanLayers$Index", "takeOut", "(I)V"⟩
theorem ix_takeOut_tb : sl_tbOK sl_R5 prog_7_method_6_code 3 none lk_ix [(45, 1), (48, 0)] ix_takeOut_cd = true := by decide +kernel
theorem sx_isOfSet_w2 : Cond.static sx_isOfSet_y ∈ sl_T0 := sl_in1 466 (by decide +kernel) rfl
theorem sx_isOfSet_w4 : Cond.initialized sx_isOfSet_y.cls ∈ sl_T0 := sl_in1 85 (by decide +kernel) rfl
theorem sx_isOfSet_w5 : Cond.code sx_isOfSet_y prog_1_method_49_code 2 (some .boolean) ∈ sl_T0 := sl_in1 467 (by decide +kernel) rfl
theorem sx_isOfSet_w6 : sx_isOfSet_y.cls ≠ "java/lang/invoke/MethodHandle" ∧ sx_isOfSet_y.cls ≠ "java/lang/invoke/VarHandle" ∧ (parseMethodDescriptor sx_isOfSet_y.desc).map (fun d => d.parameters.length) = some 2 := by decide +kernel
theorem cs_ix_45 (g : sl_G) {hh : Nat} (h : 1 ≤ hh) : sl_CallS g sl_R5 45 1 0 hh 2 sx_isOfSet_pt := sl_callN (host := "SpanLayers") (y := sx_isOfSet_y) (sx_isOfSet_snd g) h (by decide) (List.mem_of_getElem? (i := 10) rfl) sx_isOfSet_w2 sx_isOfSet_w4 sx_isOfSet_w5 sx_isOfSet_w6
theorem ix_relayer_w2 : Cond.instanceMethod ix_relayer_y ∈ sl_T0 := sl_in1 419 (by decide +kernel) rfl
theorem ix_relayer_w3 : Cond.selects ix_relayer_y.cls ix_relayer_y ix_relayer_y ∈ sl_T0 := sl_in1 420 (by decide +kernel) rfl
theorem ix_relayer_w4 : Cond.initialized ix_relayer_y.cls ∈ sl_T0 := sl_in1 86 (by decide +kernel) rfl
theorem ix_relayer_w5 : Cond.code ix_relayer_y prog_7_method_7_code 5 none ∈ sl_T0 := sl_in1 421 (by decide +kernel) rfl
theorem ix_relayer_w6 : ix_relayer_y.cls ≠ "java/lang/invoke/MethodHandle" ∧ ix_relayer_y.cls ≠ "java/lang/invoke/VarHandle" ∧ (parseMethodDescriptor ix_relayer_y.desc).map (fun d => d.parameters.length) = some 0 := by decide +kernel
theorem cs_ix_48 (g : sl_G) {hh : Nat} (h : 5 ≤ hh) : sl_CallS g sl_R5 48 0 5 hh 1 ix_relayer_pt := sl_callV (y := ix_relayer_y) (T := sl_F5) (N := 2) (ix_relayer_snd g) h (by decide) (sl_in1 468 (by decide +kernel) rfl) ix_relayer_w2 ix_relayer_w3 ix_relayer_w4 ix_relayer_w5 ix_relayer_w6 rfl (by decide)
def ix_takeOut_ct : List sl_Ct := [(2, 1, 0, sx_isOfSet_pt), (1, 0, 5, ix_relayer_pt)]
theorem ix_takeOut_hc (g : sl_G) : sl_HC g sl_R5 5 ix_takeOut_ct [(45, 1), (48, 0)] := sl_HC_cons (cs_ix_45 g (by decide)) (sl_HC_cons (cs_ix_48 g (by decide)) (sl_HC_nil g sl_R5 5))
set_option maxRecDepth 20000 in
set_option maxHeartbeats 2000000 in
theorem ix_takeOut_snd (g : sl_G) : sl_Snd g ix_takeOut_y prog_7_method_6_code 3 none 5 (ix_takeOut_pt) := by
  intro As μ Q hw h
  unfold ix_takeOut_pt at h
  split at h
  next c0 a0 a1 =>
    split at h
    next e_ =>
      subst e_
      split at h
      next e_ =>
        subst e_
        refine sl_mk2 g [true, true, false] (cst := [some (.inr (.inr (some (5, 1)))), some (.inl a1)]) (lv0 := [none, none, none]) (by decide) rfl hw rfl rfl rfl lk_ix_ok (ix_takeOut_hc g) ix_takeOut_tb rfl ?_
        intro X M
        have v2 := sl_extL M sl_VV0 2 (fun n lv st μ => match lv, st with | [_, _, some (.inl x2)], [] => ix_takeOut_L2 a1 (fun μ' => Q none μ') n x2 μ | _, _ => False) (by
            intro lv st μ h
            split at h
            · exact h
            · exact h) (by
            intro n2 w2
            refine ⟨_, w2, ?_⟩
            intro lv st μ h
            split at h
            · exact h
            · exact h.elim)
        exact ⟨_, v2, h⟩
      next => exact h.elim
    next => exact h.elim
  next => exact h.elim
def ix_count_L4 (Q : Int32 → sl_M → Prop) : Nat → Int32 → Int32 → sl_M → Prop
  | 0, _, _, _ => False
  | n + 1, x1, x2, μ => (x2 < (30 : Int32) → vp_in x2 30 ∧ ((sl_bz (μ (4 + x2.toNatClampNeg) 1)) = (0 : Int32) → ∀ v1, v1 = (x1 + (0 : Int32)) → (ix_count_L4 Q n) v1 (x2 + (1 : Int32)) μ) ∧ (¬ (sl_bz (μ (4 + x2.toNatClampNeg) 1)) = (0 : Int32) → ∀ v2, v2 = (x1 + (1 : Int32)) → (ix_count_L4 Q n) v2 (x2 + (1 : Int32)) μ)) ∧ (¬ x2 < (30 : Int32) → Q x1 μ)
def ix_count (μ : sl_M) (Q : Int32 → sl_M → Prop) : Prop := ∃ n3, ix_count_L4 Q n3 (0 : Int32) (0 : Int32) μ
def ix_count_k_L4 (Q : Int32 → sl_M → Prop) : Nat → Int32 → Int32 → sl_M → Prop
  | 0, _, _, _ => False
  | n + 1, x1, x2, μ => (x2 < (30 : Int32) → vp_in x2 30 ∧ ((sl_bz (μ (60 + x2.toNatClampNeg) 1)) = (0 : Int32) → ∀ v1, v1 = (x1 + (0 : Int32)) → (ix_count_k_L4 Q n) v1 (x2 + (1 : Int32)) μ) ∧ (¬ (sl_bz (μ (60 + x2.toNatClampNeg) 1)) = (0 : Int32) → ∀ v2, v2 = (x1 + (1 : Int32)) → (ix_count_k_L4 Q n) v2 (x2 + (1 : Int32)) μ)) ∧ (¬ x2 < (30 : Int32) → Q x1 μ)
def ix_count_k (μ : sl_M) (Q : Int32 → sl_M → Prop) : Prop := ∃ n3, ix_count_k_L4 Q n3 (0 : Int32) (0 : Int32) μ
def ix_count_pt : sl_PT := fun As μ Q => match As with
  | [.inr (.inr (some (c0, a0)))] => if c0 = 5 then (if a0 = 1 then (ix_count μ (fun r μ' => Q (some (.inl r)) μ')) else (if a0 = 57 then (ix_count_k μ (fun r μ' => Q (some (.inl r)) μ')) else False)) else False
  | _ => False
def ix_count_cd : List sl_Ent := [(0, .iconst 0, 1, 0, [], [], false), (1, .istore_n 1, 1, 0, [1], [], false), (2, .iconst 0, 1, 0, [], [], false), (3, .istore_n 2, 1, 0, [2], [], false), (4, .iload_n 2, 1, 0, [2], [], true), (5, .bipush 30, 2, 30, [], [], false), (7, .if_icmp .ge 29, 3, 0, [36], [], false), (10, .iload_n 1, 1, 0, [1], [], false), (11, .aload_n 0, 1, 0, [0], [], false), (12, .getfield 11, 3, 0, [5, 0, 2, 22, 1], [], false), (15, .iload_n 2, 1, 0, [2], [], false), (16, .aaload, 1, 0, [], [], false), (17, .getfield 31, 3, 0, [9, 1, 1, 0, 0], [], false), (20, .ifCond .eq 7, 3, 0, [27], [], false), (23, .iconst 1, 1, 1, [], [], false), (24, .goto 4, 3, 0, [28], [], false), (27, .iconst 0, 1, 0, [], [], false), (28, .iadd, 1, 0, [], [], false), (29, .istore_n 1, 1, 0, [1, 1], [], false), (30, .iinc 2 1, 3, 1, [], [], false), (33, .goto (-29), 3, 0, [4], [], false), (36, .iload_n 1, 1, 0, [1], [], false), (37, .ireturn, 1, 0, [], [], false)]
def ix_count_y : MethodName := ⟨"SpanLayers$Index", "count", "()I"⟩
theorem ix_count_tb : sl_tbOK sl_R5 prog_7_method_9_code 3 (some .int) lk_ix [] ix_count_cd = true := by decide +kernel
def ix_count_ct : List sl_Ct := []
theorem ix_count_hc (g : sl_G) : sl_HC g sl_R5 0 ix_count_ct [] := sl_HC_nil g sl_R5 0
set_option maxRecDepth 20000 in
set_option maxHeartbeats 2000000 in
theorem ix_count_snd (g : sl_G) : sl_Snd g ix_count_y prog_7_method_9_code 3 (some .int) 0 (ix_count_pt) := by
  intro As μ Q hw h
  unfold ix_count_pt at h
  split at h
  next c0 a0 =>
    split at h
    next e_ =>
      subst e_
      split at h
      next e_ =>
        obtain rfl := e_
        refine sl_mk2 g [true, false, false] (cst := [some (.inr (.inr (some (5, 1))))]) (lv0 := [none, none, none]) (by decide) rfl hw rfl rfl rfl lk_ix_ok (ix_count_hc g) ix_count_tb rfl ?_
        intro X M
        have v4 := sl_extL M sl_VV0 4 (fun n lv st μ => match lv, st with | [_, some (.inl x1), some (.inl x2)], [] => ix_count_L4 (fun r μ' => Q (some (.inl r)) μ') n x1 x2 μ | _, _ => False) (by
            intro lv st μ h
            split at h
            · exact h
            · exact h) (by
            intro n4 w4
            refine ⟨_, w4, ?_⟩
            intro lv st μ h
            split at h
            · exact h
            · exact h.elim)
        exact ⟨_, v4, h⟩
      next =>
        split at h
        next e_ =>
          obtain rfl := e_
          refine sl_mk2 g [true, false, false] (cst := [some (.inr (.inr (some (5, 57))))]) (lv0 := [none, none, none]) (by decide) rfl hw rfl rfl rfl lk_ix_ok (ix_count_hc g) ix_count_tb rfl ?_
          intro X M
          have v4 := sl_extL M sl_VV0 4 (fun n lv st μ => match lv, st with | [_, some (.inl x1), some (.inl x2)], [] => ix_count_k_L4 (fun r μ' => Q (some (.inl r)) μ') n x1 x2 μ | _, _ => False) (by
              intro lv st μ h
              split at h
              · exact h
              · exact h) (by
              intro n4 w4
              refine ⟨_, w4, ?_⟩
              intro lv st μ h
              split at h
              · exact h
              · exact h.elim)
          exact ⟨_, v4, h⟩
        next => exact h.elim
    next => exact h.elim
  next => exact h.elim
def ix_countCovering_L4 (a1 : Nat) (Q : Int32 → sl_M → Prop) : Nat → Int32 → Int32 → sl_M → Prop
  | 0, _, _, _ => False
  | n + 1, x2, x3, μ => (x3 < (30 : Int32) → vp_in x3 30 ∧ ((sl_bz (μ (4 + x3.toNatClampNeg) 1)) = (0 : Int32) → ∀ v1, v1 = (x2 + (0 : Int32)) → (ix_countCovering_L4 a1 Q n) v1 (x3 + (1 : Int32)) μ) ∧ (¬ (sl_bz (μ (4 + x3.toNatClampNeg) 1)) = (0 : Int32) → vp_in x3 30 ∧ sp_covers (4 + x3.toNatClampNeg) a1 μ (fun r3 m2 => (r3 = (0 : Int32) → ∀ v4, v4 = (x2 + (0 : Int32)) → (ix_countCovering_L4 a1 Q n) v4 (x3 + (1 : Int32)) m2) ∧ (¬ r3 = (0 : Int32) → ∀ v5, v5 = (x2 + (1 : Int32)) → (ix_countCovering_L4 a1 Q n) v5 (x3 + (1 : Int32)) m2)))) ∧ (¬ x3 < (30 : Int32) → Q x2 μ)
def ix_countCovering (a1 : Nat) (μ : sl_M) (Q : Int32 → sl_M → Prop) : Prop := ∃ n6, ix_countCovering_L4 a1 Q n6 (0 : Int32) (0 : Int32) μ
def ix_countCovering_pt : sl_PT := fun As μ Q => match As with
  | [.inr (.inr (some (c0, a0))), .inr (.inr (some (c1, a1)))] => if c0 = 5 then (if c1 = 9 then (if a0 = 1 then (ix_countCovering a1 μ (fun r μ' => Q (some (.inl r)) μ')) else False) else False) else False
  | _ => False
def ix_countCovering_cd : List sl_Ent := [(0, .iconst 0, 1, 0, [], [], false), (1, .istore_n 2, 1, 0, [2], [], false), (2, .iconst 0, 1, 0, [], [], false), (3, .istore_n 3, 1, 0, [3], [], false), (4, .iload_n 3, 1, 0, [3], [], true), (5, .bipush 30, 2, 30, [], [], false), (7, .if_icmp .ge 42, 3, 0, [49], [], false), (10, .iload_n 2, 1, 0, [2], [], false), (11, .aload_n 0, 1, 0, [0], [], false), (12, .getfield 11, 3, 0, [5, 0, 2, 22, 1], [], false), (15, .iload_n 3, 1, 0, [3], [], false), (16, .aaload, 1, 0, [], [], false), (17, .getfield 31, 3, 0, [9, 1, 1, 0, 0], [], false), (20, .ifCond .eq 20, 3, 0, [40], [], false), (23, .aload_n 0, 1, 0, [0], [], false), (24, .getfield 11, 3, 0, [5, 0, 2, 22, 1], [], false), (27, .iload_n 3, 1, 0, [3], [], false), (28, .aaload, 1, 0, [], [], false), (29, .aload_n 1, 1, 0, [1], [], false), (30, .invokevirtual 55, 3, 0, [0], [], false), (33, .ifCond .eq 7, 3, 0, [40], [], false), (36, .iconst 1, 1, 1, [], [], false), (37, .goto 4, 3, 0, [41], [], false), (40, .iconst 0, 1, 0, [], [], false), (41, .iadd, 1, 0, [], [], false), (42, .istore_n 2, 1, 0, [2, 1], [], false), (43, .iinc 3 1, 3, 1, [], [], false), (46, .goto (-42), 3, 0, [4], [], false), (49, .iload_n 2, 1, 0, [2], [], false), (50, .ireturn, 1, 0, [], [], false)]
def ix_countCovering_y : MethodName := ⟨"SpanLayers$Index", "countCovering", "(LSpanLayers$Span;)I"⟩
theorem ix_countCovering_tb : sl_tbOK sl_R5 prog_7_method_15_code 4 (some .int) lk_ix [(55, 0)] ix_countCovering_cd = true := by decide +kernel
def ix_countCovering_ct : List sl_Ct := [(2, 0, 9, sp_covers_pt)]
theorem ix_countCovering_hc (g : sl_G) : sl_HC g sl_R5 2 ix_countCovering_ct [(55, 0)] := sl_HC_cons (cs_ix_55 g (by decide)) (sl_HC_nil g sl_R5 2)
set_option maxRecDepth 20000 in
set_option maxHeartbeats 2000000 in
theorem ix_countCovering_snd (g : sl_G) : sl_Snd g ix_countCovering_y prog_7_method_15_code 4 (some .int) 2 (ix_countCovering_pt) := by
  intro As μ Q hw h
  unfold ix_countCovering_pt at h
  split at h
  next c0 a0 c1 a1 =>
    split at h
    next e_ =>
      subst e_
      split at h
      next e_ =>
        subst e_
        split at h
        next e_ =>
          subst e_
          refine sl_mk2 g [true, true, false, false] (cst := [some (.inr (.inr (some (5, 1)))), some (.inr (.inr (some (9, a1))))]) (lv0 := [none, none, none, none]) (by decide) rfl hw rfl rfl rfl lk_ix_ok (ix_countCovering_hc g) ix_countCovering_tb rfl ?_
          intro X M
          have v4 := sl_extL M sl_VV0 4 (fun n lv st μ => match lv, st with | [_, _, some (.inl x2), some (.inl x3)], [] => ix_countCovering_L4 a1 (fun r μ' => Q (some (.inl r)) μ') n x2 x3 μ | _, _ => False) (by
              intro lv st μ h
              split at h
              · exact h
              · exact h) (by
              intro n4 w4
              refine ⟨_, w4, ?_⟩
              intro lv st μ h
              split at h
              · exact h
              · exact h.elim)
          exact ⟨_, v4, h⟩
        next => exact h.elim
      next => exact h.elim
    next => exact h.elim
  next => exact h.elim
def ix_countCovered_L4 (a1 : Nat) (Q : Int32 → sl_M → Prop) : Nat → Int32 → Int32 → sl_M → Prop
  | 0, _, _, _ => False
  | n + 1, x2, x3, μ => (x3 < (30 : Int32) → vp_in x3 30 ∧ ((sl_bz (μ (4 + x3.toNatClampNeg) 1)) = (0 : Int32) → ∀ v1, v1 = (x2 + (0 : Int32)) → (ix_countCovered_L4 a1 Q n) v1 (x3 + (1 : Int32)) μ) ∧ (¬ (sl_bz (μ (4 + x3.toNatClampNeg) 1)) = (0 : Int32) → vp_in x3 30 ∧ sp_covers a1 (4 + x3.toNatClampNeg) μ (fun r3 m2 => (r3 = (0 : Int32) → ∀ v4, v4 = (x2 + (0 : Int32)) → (ix_countCovered_L4 a1 Q n) v4 (x3 + (1 : Int32)) m2) ∧ (¬ r3 = (0 : Int32) → ∀ v5, v5 = (x2 + (1 : Int32)) → (ix_countCovered_L4 a1 Q n) v5 (x3 + (1 : Int32)) m2)))) ∧ (¬ x3 < (30 : Int32) → Q x2 μ)
def ix_countCovered (a1 : Nat) (μ : sl_M) (Q : Int32 → sl_M → Prop) : Prop := ∃ n6, ix_countCovered_L4 a1 Q n6 (0 : Int32) (0 : Int32) μ
def ix_countCovered_pt : sl_PT := fun As μ Q => match As with
  | [.inr (.inr (some (c0, a0))), .inr (.inr (some (c1, a1)))] => if c0 = 5 then (if c1 = 9 then (if a0 = 1 then (ix_countCovered a1 μ (fun r μ' => Q (some (.inl r)) μ')) else False) else False) else False
  | _ => False
def ix_countCovered_cd : List sl_Ent := [(0, .iconst 0, 1, 0, [], [], false), (1, .istore_n 2, 1, 0, [2], [], false), (2, .iconst 0, 1, 0, [], [], false), (3, .istore_n 3, 1, 0, [3], [], false), (4, .iload_n 3, 1, 0, [3], [], true), (5, .bipush 30, 2, 30, [], [], false), (7, .if_icmp .ge 42, 3, 0, [49], [], false), (10, .iload_n 2, 1, 0, [2], [], false), (11, .aload_n 0, 1, 0, [0], [], false), (12, .getfield 11, 3, 0, [5, 0, 2, 22, 1], [], false), (15, .iload_n 3, 1, 0, [3], [], false), (16, .aaload, 1, 0, [], [], false), (17, .getfield 31, 3, 0, [9, 1, 1, 0, 0], [], false), (20, .ifCond .eq 20, 3, 0, [40], [], false), (23, .aload_n 1, 1, 0, [1], [], false), (24, .aload_n 0, 1, 0, [0], [], false), (25, .getfield 11, 3, 0, [5, 0, 2, 22, 1], [], false), (28, .iload_n 3, 1, 0, [3], [], false), (29, .aaload, 1, 0, [], [], false), (30, .invokevirtual 55, 3, 0, [0], [], false), (33, .ifCond .eq 7, 3, 0, [40], [], false), (36, .iconst 1, 1, 1, [], [], false), (37, .goto 4, 3, 0, [41], [], false), (40, .iconst 0, 1, 0, [], [], false), (41, .iadd, 1, 0, [], [], false), (42, .istore_n 2, 1, 0, [2, 1], [], false), (43, .iinc 3 1, 3, 1, [], [], false), (46, .goto (-42), 3, 0, [4], [], false), (49, .iload_n 2, 1, 0, [2], [], false), (50, .ireturn, 1, 0, [], [], false)]
def ix_countCovered_y : MethodName := ⟨"SpanLayers$Index", "countCovered", "(LSpanLayers$Span;)I"⟩
theorem ix_countCovered_tb : sl_tbOK sl_R5 prog_7_method_16_code 4 (some .int) lk_ix [(55, 0)] ix_countCovered_cd = true := by decide +kernel
def ix_countCovered_ct : List sl_Ct := [(2, 0, 9, sp_covers_pt)]
theorem ix_countCovered_hc (g : sl_G) : sl_HC g sl_R5 2 ix_countCovered_ct [(55, 0)] := sl_HC_cons (cs_ix_55 g (by decide)) (sl_HC_nil g sl_R5 2)
set_option maxRecDepth 20000 in
set_option maxHeartbeats 2000000 in
theorem ix_countCovered_snd (g : sl_G) : sl_Snd g ix_countCovered_y prog_7_method_16_code 4 (some .int) 2 (ix_countCovered_pt) := by
  intro As μ Q hw h
  unfold ix_countCovered_pt at h
  split at h
  next c0 a0 c1 a1 =>
    split at h
    next e_ =>
      subst e_
      split at h
      next e_ =>
        subst e_
        split at h
        next e_ =>
          subst e_
          refine sl_mk2 g [true, true, false, false] (cst := [some (.inr (.inr (some (5, 1)))), some (.inr (.inr (some (9, a1))))]) (lv0 := [none, none, none, none]) (by decide) rfl hw rfl rfl rfl lk_ix_ok (ix_countCovered_hc g) ix_countCovered_tb rfl ?_
          intro X M
          have v4 := sl_extL M sl_VV0 4 (fun n lv st μ => match lv, st with | [_, _, some (.inl x2), some (.inl x3)], [] => ix_countCovered_L4 a1 (fun r μ' => Q (some (.inl r)) μ') n x2 x3 μ | _, _ => False) (by
              intro lv st μ h
              split at h
              · exact h
              · exact h) (by
              intro n4 w4
              refine ⟨_, w4, ?_⟩
              intro lv st μ h
              split at h
              · exact h
              · exact h.elim)
          exact ⟨_, v4, h⟩
        next => exact h.elim
      next => exact h.elim
    next => exact h.elim
  next => exact h.elim
def sp_meets (a0 : Nat) (a1 : Int32) (a2 : Int32) (μ : sl_M) (Q : Int32 → sl_M → Prop) : Prop := ((μ a0 2) ≤ a2 → (a1 ≤ (μ a0 3) → sl_bz (1 : Int32) = (1 : Int32) ∧ Q (1 : Int32) μ) ∧ (¬ a1 ≤ (μ a0 3) → sl_bz (0 : Int32) = (0 : Int32) ∧ Q (0 : Int32) μ)) ∧ (¬ (μ a0 2) ≤ a2 → sl_bz (0 : Int32) = (0 : Int32) ∧ Q (0 : Int32) μ)
def sp_meets_pt : sl_PT := fun As μ Q => match As with
  | [.inr (.inr (some (c0, a0))), .inl a1, .inl a2] => if c0 = 9 then (sp_meets a0 a1 a2 μ (fun r μ' => Q (some (.inl r)) μ')) else False
  | _ => False
def sp_meets_cd : List sl_Ent := [(0, .aload_n 0, 1, 0, [0], [], false), (1, .getfield 19, 3, 0, [9, 2, 0, 0, 0], [], false), (4, .iload_n 2, 1, 0, [2], [], false), (5, .if_icmp .gt 15, 3, 0, [20], [], false), (8, .iload_n 1, 1, 0, [1], [], false), (9, .aload_n 0, 1, 0, [0], [], false), (10, .getfield 22, 3, 0, [9, 3, 0, 0, 0], [], false), (13, .if_icmp .gt 7, 3, 0, [20], [], false), (16, .iconst 1, 1, 1, [], [], false), (17, .goto 4, 3, 0, [21], [], false), (20, .iconst 0, 1, 0, [], [], false), (21, .ireturn, 1, 0, [1], [], false)]
def sp_meets_y : MethodName := ⟨"SpanLayers$Span", "meets", "(II)Z"⟩
theorem sp_meets_tb : sl_tbOK sl_R9 prog_11_method_4_code 3 (some .boolean) lk_sp [] sp_meets_cd = true := by decide +kernel
def sp_meets_ct : List sl_Ct := []
theorem sp_meets_hc (g : sl_G) : sl_HC g sl_R9 0 sp_meets_ct [] := sl_HC_nil g sl_R9 0
set_option maxRecDepth 20000 in
set_option maxHeartbeats 2000000 in
theorem sp_meets_snd (g : sl_G) : sl_Snd g sp_meets_y prog_11_method_4_code 3 (some .boolean) 0 (sp_meets_pt) := by
  intro As μ Q hw h
  unfold sp_meets_pt at h
  split at h
  next c0 a0 a1 a2 =>
    split at h
    next e_ =>
      subst e_
      refine sl_mk2 g [true, true, true] (cst := [some (.inr (.inr (some (9, a0)))), some (.inl a1), some (.inl a2)]) (lv0 := [none, none, none]) (by decide) rfl hw rfl rfl rfl lk_sp_ok (sp_meets_hc g) sp_meets_tb rfl ?_
      intro X M
      exact ⟨_, sl_VV0, h⟩
    next => exact h.elim
  next => exact h.elim
def ix_bitsMeeting_L5 (a1 : Int32) (a2 : Int32) (Q : Int32 → sl_M → Prop) : Nat → Int32 → Int32 → sl_M → Prop
  | 0, _, _, _ => False
  | n + 1, x3, x4, μ => (x4 < (30 : Int32) → vp_in x4 30 ∧ ((sl_bz (μ (4 + x4.toNatClampNeg) 1)) = (0 : Int32) → (ix_bitsMeeting_L5 a1 a2 Q n) x3 (x4 + (1 : Int32)) μ) ∧ (¬ (sl_bz (μ (4 + x4.toNatClampNeg) 1)) = (0 : Int32) → vp_in x4 30 ∧ sp_meets (4 + x4.toNatClampNeg) a1 a2 μ (fun r2 m1 => (r2 = (0 : Int32) → (ix_bitsMeeting_L5 a1 a2 Q n) x3 (x4 + (1 : Int32)) m1) ∧ (¬ r2 = (0 : Int32) → ∀ v3, v3 = (x3 ||| ((1 : Int32) <<< (x4 &&& 31))) → (ix_bitsMeeting_L5 a1 a2 Q n) v3 (x4 + (1 : Int32)) m1)))) ∧ (¬ x4 < (30 : Int32) → Q x3 μ)
def ix_bitsMeeting (a1 : Int32) (a2 : Int32) (μ : sl_M) (Q : Int32 → sl_M → Prop) : Prop := ∃ n4, ix_bitsMeeting_L5 a1 a2 Q n4 (0 : Int32) (0 : Int32) μ
def ix_bitsMeeting_pt : sl_PT := fun As μ Q => match As with
  | [.inr (.inr (some (c0, a0))), .inl a1, .inl a2] => if c0 = 5 then (if a0 = 1 then (ix_bitsMeeting a1 a2 μ (fun r μ' => Q (some (.inl r)) μ')) else False) else False
  | _ => False
def ix_bitsMeeting_cd : List sl_Ent := [(0, .iconst 0, 1, 0, [], [], false), (1, .istore_n 3, 1, 0, [3], [], false), (2, .iconst 0, 1, 0, [], [], false), (3, .istore 4, 2, 0, [4], [], false), (5, .iload 4, 2, 0, [4], [], true), (7, .bipush 30, 2, 30, [], [], false), (9, .if_icmp .ge 44, 3, 0, [53], [], false), (12, .aload_n 0, 1, 0, [0], [], false), (13, .getfield 11, 3, 0, [5, 0, 2, 22, 1], [], false), (16, .iload 4, 2, 0, [4], [], false), (18, .aaload, 1, 0, [], [], false), (19, .getfield 31, 3, 0, [9, 1, 1, 0, 0], [], false), (22, .ifCond .eq 25, 3, 0, [47], [], false), (25, .aload_n 0, 1, 0, [0], [], false), (26, .getfield 11, 3, 0, [5, 0, 2, 22, 1], [], false), (29, .iload 4, 2, 0, [4], [], false), (31, .aaload, 1, 0, [], [], false), (32, .iload_n 1, 1, 0, [1], [], false), (33, .iload_n 2, 1, 0, [2], [], false), (34, .invokevirtual 75, 3, 0, [0], [], false), (37, .ifCond .eq 10, 3, 0, [47], [], false), (40, .iload_n 3, 1, 0, [3], [], false), (41, .iconst 1, 1, 1, [], [], false), (42, .iload 4, 2, 0, [4], [], false), (44, .ishl, 1, 0, [], [], false), (45, .ior, 1, 0, [], [], false), (46, .istore_n 3, 1, 0, [3, 1], [], false), (47, .iinc 4 1, 3, 1, [], [], false), (50, .goto (-45), 3, 0, [5], [], false), (53, .iload_n 3, 1, 0, [3], [], false), (54, .ireturn, 1, 0, [], [], false)]
def ix_bitsMeeting_y : MethodName := ⟨"SpanLayers$Index", "bitsMeeting", "(II)I"⟩
theorem ix_bitsMeeting_tb : sl_tbOK sl_R5 prog_7_method_11_code 5 (some .int) lk_ix [(75, 0)] ix_bitsMeeting_cd = true := by decide +kernel
theorem sp_meets_w2 : Cond.instanceMethod sp_meets_y ∈ sl_T0 := sl_in1 495 (by decide +kernel) rfl
theorem sp_meets_w3 : Cond.selects sp_meets_y.cls sp_meets_y sp_meets_y ∈ sl_T0 := sl_in1 496 (by decide +kernel) rfl
theorem sp_meets_w4 : Cond.initialized sp_meets_y.cls ∈ sl_T0 := sl_in1 87 (by decide +kernel) rfl
theorem sp_meets_w5 : Cond.code sp_meets_y prog_11_method_4_code 3 (some .boolean) ∈ sl_T0 := sl_in1 497 (by decide +kernel) rfl
theorem sp_meets_w6 : sp_meets_y.cls ≠ "java/lang/invoke/MethodHandle" ∧ sp_meets_y.cls ≠ "java/lang/invoke/VarHandle" ∧ (parseMethodDescriptor sp_meets_y.desc).map (fun d => d.parameters.length) = some 2 := by decide +kernel
theorem cs_ix_75 (g : sl_G) {hh : Nat} (h : 1 ≤ hh) : sl_CallS g sl_R5 75 0 9 hh 3 sp_meets_pt := sl_callV (y := sp_meets_y) (T := sl_F9) (N := 6) (sp_meets_snd g) h (by decide) (sl_in1 494 (by decide +kernel) rfl) sp_meets_w2 sp_meets_w3 sp_meets_w4 sp_meets_w5 sp_meets_w6 rfl (by decide)
def ix_bitsMeeting_ct : List sl_Ct := [(3, 0, 9, sp_meets_pt)]
theorem ix_bitsMeeting_hc (g : sl_G) : sl_HC g sl_R5 1 ix_bitsMeeting_ct [(75, 0)] := sl_HC_cons (cs_ix_75 g (by decide)) (sl_HC_nil g sl_R5 1)
set_option maxRecDepth 20000 in
set_option maxHeartbeats 2000000 in
theorem ix_bitsMeeting_snd (g : sl_G) : sl_Snd g ix_bitsMeeting_y prog_7_method_11_code 5 (some .int) 1 (ix_bitsMeeting_pt) := by
  intro As μ Q hw h
  unfold ix_bitsMeeting_pt at h
  split at h
  next c0 a0 a1 a2 =>
    split at h
    next e_ =>
      subst e_
      split at h
      next e_ =>
        subst e_
        refine sl_mk2 g [true, true, true, false, false] (cst := [some (.inr (.inr (some (5, 1)))), some (.inl a1), some (.inl a2)]) (lv0 := [none, none, none, none, none]) (by decide) rfl hw rfl rfl rfl lk_ix_ok (ix_bitsMeeting_hc g) ix_bitsMeeting_tb rfl ?_
        intro X M
        have v5 := sl_extL M sl_VV0 5 (fun n lv st μ => match lv, st with | [_, _, _, some (.inl x3), some (.inl x4)], [] => ix_bitsMeeting_L5 a1 a2 (fun r μ' => Q (some (.inl r)) μ') n x3 x4 μ | _, _ => False) (by
            intro lv st μ h
            split at h
            · exact h
            · exact h) (by
            intro n5 w5
            refine ⟨_, w5, ?_⟩
            intro lv st μ h
            split at h
            · exact h
            · exact h.elim)
        exact ⟨_, v5, h⟩
      next => exact h.elim
    next => exact h.elim
  next => exact h.elim
def ix_factOf (a1 : Nat) (a2 : Int32) (μ : sl_M) (Q : Int32 → sl_M → Prop) : Prop := (a2 = (0 : Int32) → Q (μ a1 2) μ) ∧ (¬ a2 = (0 : Int32) → (a2 = (1 : Int32) → Q (μ a1 3) μ) ∧ (¬ a2 = (1 : Int32) → (a2 = (2 : Int32) → Q (μ a1 4) μ) ∧ (¬ a2 = (2 : Int32) → (a2 = (3 : Int32) → sp_length a1 μ (fun r2 m1 => Q r2 m1)) ∧ (¬ a2 = (3 : Int32) → (a2 = (4 : Int32) → Q (μ a1 5) μ) ∧ (¬ a2 = (4 : Int32) → (a2 = (5 : Int32) → ix_countCovering a1 μ (fun r4 m3 => Q r4 m3)) ∧ (¬ a2 = (5 : Int32) → (a2 = (6 : Int32) → ix_countCovered a1 μ (fun r6 m5 => Q r6 m5)) ∧ (¬ a2 = (6 : Int32) → ix_bitsMeeting (μ a1 2) (μ a1 3) μ (fun r8 m7 => it_bitCount r8 m7 (fun r10 m9 => Q (r10 - (1 : Int32)) m9)))))))))
def ix_factOf_pt : sl_PT := fun As μ Q => match As with
  | [.inr (.inr (some (c0, a0))), .inr (.inr (some (c1, a1))), .inl a2] => if c0 = 5 then (if c1 = 9 then (if a0 = 1 then (ix_factOf a1 a2 μ (fun r μ' => Q (some (.inl r)) μ')) else False) else False) else False
  | _ => False
def ix_factOf_cd : List sl_Ent := [(0, .iload_n 2, 1, 0, [2], [], false), (1, .tableswitch 80 0 6 #[43, 48, 53, 58, 63, 68, 74], 43, 0, [81], [(0, 44), (1, 49), (2, 54), (3, 59), (4, 64), (5, 69), (6, 75)], false), (44, .aload_n 1, 1, 0, [1], [], false), (45, .getfield 35, 3, 0, [9, 2, 0, 0, 0], [], false), (48, .ireturn, 1, 0, [], [], false), (49, .aload_n 1, 1, 0, [1], [], false), (50, .getfield 39, 3, 0, [9, 3, 0, 0, 0], [], false), (53, .ireturn, 1, 0, [], [], false), (54, .aload_n 1, 1, 0, [1], [], false), (55, .getfield 42, 3, 0, [9, 4, 0, 0, 0], [], false), (58, .ireturn, 1, 0, [], [], false), (59, .aload_n 1, 1, 0, [1], [], false), (60, .invokevirtual 81, 3, 0, [0], [], false), (63, .ireturn, 1, 0, [], [], false), (64, .aload_n 1, 1, 0, [1], [], false), (65, .getfield 59, 3, 0, [9, 5, 0, 0, 0], [], false), (68, .ireturn, 1, 0, [], [], false), (69, .aload_n 0, 1, 0, [0], [], false), (70, .aload_n 1, 1, 0, [1], [], false), (71, .invokevirtual 85, 3, 0, [1], [], false), (74, .ireturn, 1, 0, [], [], false), (75, .aload_n 0, 1, 0, [0], [], false), (76, .aload_n 1, 1, 0, [1], [], false), (77, .invokevirtual 89, 3, 0, [2], [], false), (80, .ireturn, 1, 0, [], [], false), (81, .aload_n 0, 1, 0, [0], [], false), (82, .aload_n 1, 1, 0, [1], [], false), (83, .getfield 35, 3, 0, [9, 2, 0, 0, 0], [], false), (86, .aload_n 1, 1, 0, [1], [], false), (87, .getfield 39, 3, 0, [9, 3, 0, 0, 0], [], false), (90, .invokevirtual 72, 3, 0, [3], [], false), (93, .invokestatic 92, 3, 0, [4], [], false), (96, .iconst 1, 1, 1, [], [], false), (97, .isub, 1, 0, [], [], false), (98, .ireturn, 1, 0, [], [], false)]
def ix_factOf_y : MethodName := ⟨"SpanLayers$Index", "factOf", "(LSpanLayers$Span;I)I"⟩
theorem ix_factOf_tb : sl_tbOK sl_R5 prog_7_method_14_code 3 (some .int) lk_ix [(81, 0), (85, 0), (89, 0), (72, 0), (92, 1)] ix_factOf_cd = true := by decide +kernel
theorem cs_ix_81 (g : sl_G) {hh : Nat} (h : 1 ≤ hh) : sl_CallS g sl_R5 81 0 9 hh 1 sp_length_pt := sl_callV (y := sp_length_y) (T := sl_F9) (N := 6) (sp_length_snd g) h (by decide) (sl_in1 481 (by decide +kernel) rfl) sp_length_w2 sp_length_w3 sp_length_w4 sp_length_w5 sp_length_w6 rfl (by decide)
theorem ix_countCovering_w2 : Cond.instanceMethod ix_countCovering_y ∈ sl_T0 := sl_in1 484 (by decide +kernel) rfl
theorem ix_countCovering_w3 : Cond.selects ix_countCovering_y.cls ix_countCovering_y ix_countCovering_y ∈ sl_T0 := sl_in1 2 (by decide +kernel) rfl
theorem ix_countCovering_w4 : Cond.initialized ix_countCovering_y.cls ∈ sl_T0 := sl_in1 86 (by decide +kernel) rfl
theorem ix_countCovering_w5 : Cond.code ix_countCovering_y prog_7_method_15_code 4 (some .int) ∈ sl_T0 := sl_in1 485 (by decide +kernel) rfl
theorem ix_countCovering_w6 : ix_countCovering_y.cls ≠ "java/lang/invoke/MethodHandle" ∧ ix_countCovering_y.cls ≠ "java/lang/invoke/VarHandle" ∧ (parseMethodDescriptor ix_countCovering_y.desc).map (fun d => d.parameters.length) = some 1 := by decide +kernel
theorem cs_ix_85 (g : sl_G) {hh : Nat} (h : 3 ≤ hh) : sl_CallS g sl_R5 85 0 5 hh 2 ix_countCovering_pt := sl_callV (y := ix_countCovering_y) (T := sl_F5) (N := 2) (ix_countCovering_snd g) h (by decide) (sl_in1 482 (by decide +kernel) rfl) ix_countCovering_w2 ix_countCovering_w3 ix_countCovering_w4 ix_countCovering_w5 ix_countCovering_w6 rfl (by decide)
theorem ix_countCovered_w2 : Cond.instanceMethod ix_countCovered_y ∈ sl_T0 := sl_in1 488 (by decide +kernel) rfl
theorem ix_countCovered_w3 : Cond.selects ix_countCovered_y.cls ix_countCovered_y ix_countCovered_y ∈ sl_T0 := sl_in1 3 (by decide +kernel) rfl
theorem ix_countCovered_w4 : Cond.initialized ix_countCovered_y.cls ∈ sl_T0 := sl_in1 86 (by decide +kernel) rfl
theorem ix_countCovered_w5 : Cond.code ix_countCovered_y prog_7_method_16_code 4 (some .int) ∈ sl_T0 := sl_in1 489 (by decide +kernel) rfl
theorem ix_countCovered_w6 : ix_countCovered_y.cls ≠ "java/lang/invoke/MethodHandle" ∧ ix_countCovered_y.cls ≠ "java/lang/invoke/VarHandle" ∧ (parseMethodDescriptor ix_countCovered_y.desc).map (fun d => d.parameters.length) = some 1 := by decide +kernel
theorem cs_ix_89 (g : sl_G) {hh : Nat} (h : 3 ≤ hh) : sl_CallS g sl_R5 89 0 5 hh 2 ix_countCovered_pt := sl_callV (y := ix_countCovered_y) (T := sl_F5) (N := 2) (ix_countCovered_snd g) h (by decide) (sl_in1 486 (by decide +kernel) rfl) ix_countCovered_w2 ix_countCovered_w3 ix_countCovered_w4 ix_countCovered_w5 ix_countCovered_w6 rfl (by decide)
theorem ix_bitsMeeting_w2 : Cond.instanceMethod ix_bitsMeeting_y ∈ sl_T0 := sl_in1 491 (by decide +kernel) rfl
theorem ix_bitsMeeting_w3 : Cond.selects ix_bitsMeeting_y.cls ix_bitsMeeting_y ix_bitsMeeting_y ∈ sl_T0 := sl_in1 492 (by decide +kernel) rfl
theorem ix_bitsMeeting_w4 : Cond.initialized ix_bitsMeeting_y.cls ∈ sl_T0 := sl_in1 86 (by decide +kernel) rfl
theorem ix_bitsMeeting_w5 : Cond.code ix_bitsMeeting_y prog_7_method_11_code 5 (some .int) ∈ sl_T0 := sl_in1 493 (by decide +kernel) rfl
theorem ix_bitsMeeting_w6 : ix_bitsMeeting_y.cls ≠ "java/lang/invoke/MethodHandle" ∧ ix_bitsMeeting_y.cls ≠ "java/lang/invoke/VarHandle" ∧ (parseMethodDescriptor ix_bitsMeeting_y.desc).map (fun d => d.parameters.length) = some 2 := by decide +kernel
theorem cs_ix_72 (g : sl_G) {hh : Nat} (h : 2 ≤ hh) : sl_CallS g sl_R5 72 0 5 hh 3 ix_bitsMeeting_pt := sl_callV (y := ix_bitsMeeting_y) (T := sl_F5) (N := 2) (ix_bitsMeeting_snd g) h (by decide) (sl_in1 490 (by decide +kernel) rfl) ix_bitsMeeting_w2 ix_bitsMeeting_w3 ix_bitsMeeting_w4 ix_bitsMeeting_w5 ix_bitsMeeting_w6 rfl (by decide)
theorem it_bitCount_w2 : Cond.static it_bitCount_y ∈ sl_T0 := sl_in1 499 (by decide +kernel) rfl
theorem it_bitCount_w4 : Cond.initialized it_bitCount_y.cls ∈ sl_T0 := sl_in1 99 (by decide +kernel) rfl
theorem it_bitCount_w5 : Cond.code it_bitCount_y prog_15_method_49_code 1 (some .int) ∈ sl_T0 := sl_in1 500 (by decide +kernel) rfl
theorem it_bitCount_w6 : it_bitCount_y.cls ≠ "java/lang/invoke/MethodHandle" ∧ it_bitCount_y.cls ≠ "java/lang/invoke/VarHandle" ∧ (parseMethodDescriptor it_bitCount_y.desc).map (fun d => d.parameters.length) = some 1 := by decide +kernel
theorem cs_ix_92 (g : sl_G) {hh : Nat} (h : 1 ≤ hh) : sl_CallS g sl_R5 92 1 0 hh 1 it_bitCount_pt := sl_callS (y := it_bitCount_y) (it_bitCount_snd g) h (by decide) (sl_in1 498 (by decide +kernel) rfl) it_bitCount_w2 it_bitCount_w4 it_bitCount_w5 it_bitCount_w6
def ix_factOf_ct : List sl_Ct := [(1, 0, 9, sp_length_pt), (2, 0, 5, ix_countCovering_pt), (2, 0, 5, ix_countCovered_pt), (3, 0, 5, ix_bitsMeeting_pt), (1, 1, 0, it_bitCount_pt)]
theorem ix_factOf_hc (g : sl_G) : sl_HC g sl_R5 3 ix_factOf_ct [(81, 0), (85, 0), (89, 0), (72, 0), (92, 1)] := sl_HC_cons (cs_ix_81 g (by decide)) (sl_HC_cons (cs_ix_85 g (by decide)) (sl_HC_cons (cs_ix_89 g (by decide)) (sl_HC_cons (cs_ix_72 g (by decide)) (sl_HC_cons (cs_ix_92 g (by decide)) (sl_HC_nil g sl_R5 3)))))
set_option maxRecDepth 20000 in
set_option maxHeartbeats 2000000 in
theorem ix_factOf_snd (g : sl_G) : sl_Snd g ix_factOf_y prog_7_method_14_code 3 (some .int) 3 (ix_factOf_pt) := by
  intro As μ Q hw h
  unfold ix_factOf_pt at h
  split at h
  next c0 a0 c1 a1 a2 =>
    split at h
    next e_ =>
      subst e_
      split at h
      next e_ =>
        subst e_
        split at h
        next e_ =>
          subst e_
          refine sl_mk2 g [true, true, true] (cst := [some (.inr (.inr (some (5, 1)))), some (.inr (.inr (some (9, a1)))), some (.inl a2)]) (lv0 := [none, none, none]) (by decide) rfl hw rfl rfl rfl lk_ix_ok (ix_factOf_hc g) ix_factOf_tb rfl ?_
          intro X M
          exact ⟨_, sl_VV0, h⟩
        next => exact h.elim
      next => exact h.elim
    next => exact h.elim
  next => exact h.elim
def sp_lieAhead (a0 : Nat) (a1 : Nat) (μ : sl_M) (Q : Int32 → sl_M → Prop) : Prop := ((μ a0 2) < (μ a1 2) → ((μ a0 3) < (μ a1 2) → (((μ a0 3) + (1 : Int32)) < (μ a1 2) → Q (0 : Int32) μ) ∧ (¬ ((μ a0 3) + (1 : Int32)) < (μ a1 2) → Q (1 : Int32) μ)) ∧ (¬ (μ a0 3) < (μ a1 2) → ((μ a0 3) < (μ a1 3) → Q (2 : Int32) μ) ∧ (¬ (μ a0 3) < (μ a1 3) → ((μ a0 3) = (μ a1 3) → Q (3 : Int32) μ) ∧ (¬ (μ a0 3) = (μ a1 3) → Q (4 : Int32) μ)))) ∧ (¬ (μ a0 2) < (μ a1 2) → ((μ a0 2) = (μ a1 2) → ((μ a0 3) ≤ (μ a1 3) → ((μ a0 3) < (μ a1 3) → Q (5 : Int32) μ) ∧ (¬ (μ a0 3) < (μ a1 3) → Q (6 : Int32) μ)) ∧ (¬ (μ a0 3) ≤ (μ a1 3) → Q (-1 : Int32) μ)) ∧ (¬ (μ a0 2) = (μ a1 2) → Q (-1 : Int32) μ))
def sp_lieAhead_pt : sl_PT := fun As μ Q => match As with
  | [.inr (.inr (some (c0, a0))), .inr (.inr (some (c1, a1)))] => if c0 = 9 then (if c1 = 9 then (sp_lieAhead a0 a1 μ (fun r μ' => Q (some (.inl r)) μ')) else False) else False
  | _ => False
def sp_lieAhead_cd : List sl_Ent := [(0, .aload_n 0, 1, 0, [0], [], false), (1, .getfield 19, 3, 0, [9, 2, 0, 0, 0], [], false), (4, .aload_n 1, 1, 0, [1], [], false), (5, .getfield 19, 3, 0, [9, 2, 0, 0, 0], [], false), (8, .if_icmp .ge 65, 3, 0, [73], [], false), (11, .aload_n 0, 1, 0, [0], [], false), (12, .getfield 22, 3, 0, [9, 3, 0, 0, 0], [], false), (15, .aload_n 1, 1, 0, [1], [], false), (16, .getfield 19, 3, 0, [9, 2, 0, 0, 0], [], false), (19, .if_icmp .ge 22, 3, 0, [41], [], false), (22, .aload_n 0, 1, 0, [0], [], false), (23, .getfield 22, 3, 0, [9, 3, 0, 0, 0], [], false), (26, .iconst 1, 1, 1, [], [], false), (27, .iadd, 1, 0, [], [], false), (28, .aload_n 1, 1, 0, [1], [], false), (29, .getfield 19, 3, 0, [9, 2, 0, 0, 0], [], false), (32, .if_icmp .ge 7, 3, 0, [39], [], false), (35, .iconst 0, 1, 0, [], [], false), (36, .goto 4, 3, 0, [40], [], false), (39, .iconst 1, 1, 1, [], [], false), (40, .ireturn, 1, 0, [], [], false), (41, .aload_n 0, 1, 0, [0], [], false), (42, .getfield 22, 3, 0, [9, 3, 0, 0, 0], [], false), (45, .aload_n 1, 1, 0, [1], [], false), (46, .getfield 22, 3, 0, [9, 3, 0, 0, 0], [], false), (49, .if_icmp .ge 7, 3, 0, [56], [], false), (52, .iconst 2, 1, 2, [], [], false), (53, .goto 19, 3, 0, [72], [], false), (56, .aload_n 0, 1, 0, [0], [], false), (57, .getfield 22, 3, 0, [9, 3, 0, 0, 0], [], false), (60, .aload_n 1, 1, 0, [1], [], false), (61, .getfield 22, 3, 0, [9, 3, 0, 0, 0], [], false), (64, .if_icmp .ne 7, 3, 0, [71], [], false), (67, .iconst 3, 1, 3, [], [], false), (68, .goto 4, 3, 0, [72], [], false), (71, .iconst 4, 1, 4, [], [], false), (72, .ireturn, 1, 0, [], [], false), (73, .aload_n 0, 1, 0, [0], [], false), (74, .getfield 19, 3, 0, [9, 2, 0, 0, 0], [], false), (77, .aload_n 1, 1, 0, [1], [], false), (78, .getfield 19, 3, 0, [9, 2, 0, 0, 0], [], false), (81, .if_icmp .ne 32, 3, 0, [113], [], false), (84, .aload_n 0, 1, 0, [0], [], false), (85, .getfield 22, 3, 0, [9, 3, 0, 0, 0], [], false), (88, .aload_n 1, 1, 0, [1], [], false), (89, .getfield 22, 3, 0, [9, 3, 0, 0, 0], [], false), (92, .if_icmp .gt 21, 3, 0, [113], [], false), (95, .aload_n 0, 1, 0, [0], [], false), (96, .getfield 22, 3, 0, [9, 3, 0, 0, 0], [], false), (99, .aload_n 1, 1, 0, [1], [], false), (100, .getfield 22, 3, 0, [9, 3, 0, 0, 0], [], false), (103, .if_icmp .ge 7, 3, 0, [110], [], false), (106, .iconst 5, 1, 5, [], [], false), (107, .goto 5, 3, 0, [112], [], false), (110, .bipush 6, 2, 6, [], [], false), (112, .ireturn, 1, 0, [], [], false), (113, .iconst (-1), 1, (-1), [], [], false), (114, .ireturn, 1, 0, [], [], false)]
def sp_lieAhead_y : MethodName := ⟨"SpanLayers$Span", "lieAhead", "(LSpanLayers$Span;)I"⟩
theorem sp_lieAhead_tb : sl_tbOK sl_R9 prog_11_method_7_code 2 (some .int) lk_sp [] sp_lieAhead_cd = true := by decide +kernel
def sp_lieAhead_ct : List sl_Ct := []
theorem sp_lieAhead_hc (g : sl_G) : sl_HC g sl_R9 0 sp_lieAhead_ct [] := sl_HC_nil g sl_R9 0
set_option maxRecDepth 20000 in
set_option maxHeartbeats 2000000 in
theorem sp_lieAhead_snd (g : sl_G) : sl_Snd g sp_lieAhead_y prog_11_method_7_code 2 (some .int) 0 (sp_lieAhead_pt) := by
  intro As μ Q hw h
  unfold sp_lieAhead_pt at h
  split at h
  next c0 a0 c1 a1 =>
    split at h
    next e_ =>
      subst e_
      split at h
      next e_ =>
        subst e_
        refine sl_mk2 g [true, true] (cst := [some (.inr (.inr (some (9, a0)))), some (.inr (.inr (some (9, a1))))]) (lv0 := [none, none]) (by decide) rfl hw rfl rfl rfl lk_sp_ok (sp_lieAhead_hc g) sp_lieAhead_tb rfl ?_
        intro X M
        exact ⟨_, sl_VV0, h⟩
      next => exact h.elim
    next => exact h.elim
  next => exact h.elim
def sp_lieTo (a0 : Nat) (a1 : Nat) (μ : sl_M) (Q : Int32 → sl_M → Prop) : Prop := sp_lieAhead a0 a1 μ (fun r2 m1 => (r2 < (0 : Int32) → sp_lieAhead a1 a0 m1 (fun r4 m3 => Q ((12 : Int32) - r4) m3)) ∧ (¬ r2 < (0 : Int32) → Q r2 m1))
def sp_lieTo_pt : sl_PT := fun As μ Q => match As with
  | [.inr (.inr (some (c0, a0))), .inr (.inr (some (c1, a1)))] => if c0 = 9 then (if c1 = 9 then (sp_lieTo a0 a1 μ (fun r μ' => Q (some (.inl r)) μ')) else False) else False
  | _ => False
def sp_lieTo_cd : List sl_Ent := [(0, .aload_n 0, 1, 0, [0], [], false), (1, .aload_n 1, 1, 0, [1], [], false), (2, .invokevirtual 35, 3, 0, [0], [], false), (5, .istore_n 2, 1, 0, [2], [], false), (6, .iload_n 2, 1, 0, [2], [], false), (7, .ifCond .lt 7, 3, 0, [14], [], false), (10, .iload_n 2, 1, 0, [2], [], false), (11, .goto 11, 3, 0, [22], [], false), (14, .bipush 12, 2, 12, [], [], false), (16, .aload_n 1, 1, 0, [1], [], false), (17, .aload_n 0, 1, 0, [0], [], false), (18, .invokevirtual 35, 3, 0, [0], [], false), (21, .isub, 1, 0, [], [], false), (22, .ireturn, 1, 0, [], [], false)]
def sp_lieTo_y : MethodName := ⟨"SpanLayers$Span", "lieTo", "(LSpanLayers$Span;)I"⟩
theorem sp_lieTo_tb : sl_tbOK sl_R9 prog_11_method_6_code 3 (some .int) lk_sp [(35, 0)] sp_lieTo_cd = true := by decide +kernel
theorem sp_lieAhead_w2 : Cond.instanceMethod sp_lieAhead_y ∈ sl_T0 := sl_in1 514 (by decide +kernel) rfl
theorem sp_lieAhead_w3 : Cond.selects sp_lieAhead_y.cls sp_lieAhead_y sp_lieAhead_y ∈ sl_T0 := sl_in1 4 (by decide +kernel) rfl
theorem sp_lieAhead_w4 : Cond.initialized sp_lieAhead_y.cls ∈ sl_T0 := sl_in1 87 (by decide +kernel) rfl
theorem sp_lieAhead_w5 : Cond.code sp_lieAhead_y prog_11_method_7_code 2 (some .int) ∈ sl_T0 := sl_in1 515 (by decide +kernel) rfl
theorem sp_lieAhead_w6 : sp_lieAhead_y.cls ≠ "java/lang/invoke/MethodHandle" ∧ sp_lieAhead_y.cls ≠ "java/lang/invoke/VarHandle" ∧ (parseMethodDescriptor sp_lieAhead_y.desc).map (fun d => d.parameters.length) = some 1 := by decide +kernel
theorem cs_sp_35 (g : sl_G) {hh : Nat} (h : 1 ≤ hh) : sl_CallS g sl_R9 35 0 9 hh 2 sp_lieAhead_pt := sl_callV (y := sp_lieAhead_y) (T := sl_F9) (N := 6) (sp_lieAhead_snd g) h (by decide) (sl_in1 512 (by decide +kernel) rfl) sp_lieAhead_w2 sp_lieAhead_w3 sp_lieAhead_w4 sp_lieAhead_w5 sp_lieAhead_w6 rfl (by decide)
def sp_lieTo_ct : List sl_Ct := [(2, 0, 9, sp_lieAhead_pt)]
theorem sp_lieTo_hc (g : sl_G) : sl_HC g sl_R9 1 sp_lieTo_ct [(35, 0)] := sl_HC_cons (cs_sp_35 g (by decide)) (sl_HC_nil g sl_R9 1)
set_option maxRecDepth 20000 in
set_option maxHeartbeats 2000000 in
theorem sp_lieTo_snd (g : sl_G) : sl_Snd g sp_lieTo_y prog_11_method_6_code 3 (some .int) 1 (sp_lieTo_pt) := by
  intro As μ Q hw h
  unfold sp_lieTo_pt at h
  split at h
  next c0 a0 c1 a1 =>
    split at h
    next e_ =>
      subst e_
      split at h
      next e_ =>
        subst e_
        refine sl_mk2 g [true, true, false] (cst := [some (.inr (.inr (some (9, a0)))), some (.inr (.inr (some (9, a1))))]) (lv0 := [none, none, none]) (by decide) rfl hw rfl rfl rfl lk_sp_ok (sp_lieTo_hc g) sp_lieTo_tb rfl ?_
        intro X M
        exact ⟨_, sl_VV0, h⟩
      next => exact h.elim
    next => exact h.elim
  next => exact h.elim
def ix_stabbedAt_B82 (a1 : Int32) (a2 : Int32) (a3 : Int32) (Q : Int32 → sl_M → Prop) (k13 : Int32 → Int32 → Int32 → sl_M → Prop) : Int32 → Int32 → Int32 → Int32 → sl_M → Prop
  | x4, x5, x6, x7, μ => (x7 = (0 : Int32) → ∀ v3, v3 = (x5 - (0 : Int32)) → k13 x4 v3 (x6 + (1 : Int32)) μ) ∧ (¬ x7 = (0 : Int32) → ∀ v4, v4 = (x5 - (1 : Int32)) → k13 x4 v4 (x6 + (1 : Int32)) μ)
def ix_stabbedAt_B54 (a1 : Int32) (a2 : Int32) (a3 : Int32) (Q : Int32 → sl_M → Prop) (k13 : Int32 → Int32 → Int32 → sl_M → Prop) : Int32 → Int32 → Int32 → sl_M → Prop
  | x4, x5, x6, μ => ((1 : Int32) = (0 : Int32) → ix_stabbedAt_B82 a1 a2 a3 Q k13 x4 x5 x6 (1 : Int32) μ) ∧ (¬ (1 : Int32) = (0 : Int32) → (x5 = (0 : Int32) → vp_in x6 30 ∧ sl_kd (μ 3 x6.toNatClampNeg).toNatClampNeg = 9 ∧ Q (μ ((μ 3 x6.toNatClampNeg).toNatClampNeg) 0) μ) ∧ (¬ x5 = (0 : Int32) → ix_stabbedAt_B82 a1 a2 a3 Q k13 x4 x5 x6 (1 : Int32) μ))
def ix_stabbedAt_L13 (a1 : Int32) (a2 : Int32) (a3 : Int32) (Q : Int32 → sl_M → Prop) : Nat → Int32 → Int32 → Int32 → sl_M → Prop
  | 0, _, _, _, _ => False
  | n + 1, x4, x5, x6, μ => (x6 < x4 → vp_in x6 30 ∧ sl_kd (μ 3 x6.toNatClampNeg).toNatClampNeg = 9 ∧ sp_meets ((μ 3 x6.toNatClampNeg).toNatClampNeg) a1 a1 μ (fun r2 m1 => (r2 = (0 : Int32) → ((0 : Int32) = (0 : Int32) → ix_stabbedAt_B82 a1 a2 a3 Q (ix_stabbedAt_L13 a1 a2 a3 Q n) x4 x5 x6 (0 : Int32) m1) ∧ (¬ (0 : Int32) = (0 : Int32) → (x5 = (0 : Int32) → vp_in x6 30 ∧ sl_kd (m1 3 x6.toNatClampNeg).toNatClampNeg = 9 ∧ Q (m1 ((m1 3 x6.toNatClampNeg).toNatClampNeg) 0) m1) ∧ (¬ x5 = (0 : Int32) → ix_stabbedAt_B82 a1 a2 a3 Q (ix_stabbedAt_L13 a1 a2 a3 Q n) x4 x5 x6 (0 : Int32) m1))) ∧ (¬ r2 = (0 : Int32) → (a2 = (-1 : Int32) → ix_stabbedAt_B54 a1 a2 a3 Q (ix_stabbedAt_L13 a1 a2 a3 Q n) x4 x5 x6 m1) ∧ (¬ a2 = (-1 : Int32) → vp_in x6 30 ∧ sl_kd (m1 3 x6.toNatClampNeg).toNatClampNeg = 9 ∧ ((m1 ((m1 3 x6.toNatClampNeg).toNatClampNeg) 5) = a2 → ix_stabbedAt_B54 a1 a2 a3 Q (ix_stabbedAt_L13 a1 a2 a3 Q n) x4 x5 x6 m1) ∧ (¬ (m1 ((m1 3 x6.toNatClampNeg).toNatClampNeg) 5) = a2 → ((0 : Int32) = (0 : Int32) → ix_stabbedAt_B82 a1 a2 a3 Q (ix_stabbedAt_L13 a1 a2 a3 Q n) x4 x5 x6 (0 : Int32) m1) ∧ (¬ (0 : Int32) = (0 : Int32) → (x5 = (0 : Int32) → vp_in x6 30 ∧ sl_kd (m1 3 x6.toNatClampNeg).toNatClampNeg = 9 ∧ Q (m1 ((m1 3 x6.toNatClampNeg).toNatClampNeg) 0) m1) ∧ (¬ x5 = (0 : Int32) → ix_stabbedAt_B82 a1 a2 a3 Q (ix_stabbedAt_L13 a1 a2 a3 Q n) x4 x5 x6 (0 : Int32) m1))))))) ∧ (¬ x6 < x4 → Q (-5 : Int32) μ)
def ix_stabbedAt (a1 : Int32) (a2 : Int32) (a3 : Int32) (μ : sl_M) (Q : Int32 → sl_M → Prop) : Prop := ix_sortBy (0 : Int32) μ (fun r6 m5 => ∃ n7, ix_stabbedAt_L13 a1 a2 a3 Q n7 r6 a3 (0 : Int32) m5)
def ix_stabbedAt_pt : sl_PT := fun As μ Q => match As with
  | [.inr (.inr (some (c0, a0))), .inl a1, .inl a2, .inl a3] => if c0 = 5 then (if a0 = 1 then (ix_stabbedAt a1 a2 a3 μ (fun r μ' => Q (some (.inl r)) μ')) else False) else False
  | _ => False
def ix_stabbedAt_cd : List sl_Ent := [(0, .aload_n 0, 1, 0, [0], [], false), (1, .iconst 0, 1, 0, [], [], false), (2, .invokevirtual 51, 3, 0, [0], [], false), (5, .istore 4, 2, 0, [4], [], false), (7, .iload_n 3, 1, 0, [3], [], false), (8, .istore 5, 2, 0, [5], [], false), (10, .iconst 0, 1, 0, [], [], false), (11, .istore 6, 2, 0, [6], [], false), (13, .iload 6, 2, 0, [6], [], true), (15, .iload 4, 2, 0, [4], [], false), (17, .if_icmp .ge 86, 3, 0, [103], [], false), (20, .aload_n 0, 1, 0, [0], [], false), (21, .getfield 17, 3, 0, [5, 1, 2, 23, 2], [], false), (24, .iload 6, 2, 0, [6], [], false), (26, .aaload, 1, 0, [], [], false), (27, .iload_n 1, 1, 0, [1], [], false), (28, .iload_n 1, 1, 0, [1], [], false), (29, .invokevirtual 75, 3, 0, [1], [], false), (32, .ifCond .eq 26, 3, 0, [58], [], false), (35, .iload_n 2, 1, 0, [2], [], false), (36, .iconst (-1), 1, (-1), [], [], false), (37, .if_icmp .eq 17, 3, 0, [54], [], false), (40, .aload_n 0, 1, 0, [0], [], false), (41, .getfield 17, 3, 0, [5, 1, 2, 23, 2], [], false), (44, .iload 6, 2, 0, [6], [], false), (46, .aaload, 1, 0, [], [], false), (47, .getfield 59, 3, 0, [9, 5, 0, 0, 0], [], false), (50, .iload_n 2, 1, 0, [2], [], false), (51, .if_icmp .ne 7, 3, 0, [58], [], false), (54, .iconst 1, 1, 1, [], [], true), (55, .goto 4, 3, 0, [59], [], false), (58, .iconst 0, 1, 0, [], [], false), (59, .istore 7, 2, 0, [7], [], false), (61, .iload 7, 2, 0, [7], [], false), (63, .ifCond .eq 19, 3, 0, [82], [], false), (66, .iload 5, 2, 0, [5], [], false), (68, .ifCond .ne 14, 3, 0, [82], [], false), (71, .aload_n 0, 1, 0, [0], [], false), (72, .getfield 17, 3, 0, [5, 1, 2, 23, 2], [], false), (75, .iload 6, 2, 0, [6], [], false), (77, .aaload, 1, 0, [], [], false), (78, .getfield 78, 3, 0, [9, 0, 0, 0, 0], [], false), (81, .ireturn, 1, 0, [], [], false), (82, .iload 5, 2, 0, [5], [], true), (84, .iload 7, 2, 0, [7], [], false), (86, .ifCond .eq 7, 3, 0, [93], [], false), (89, .iconst 1, 1, 1, [], [], false), (90, .goto 4, 3, 0, [94], [], false), (93, .iconst 0, 1, 0, [], [], false), (94, .isub, 1, 0, [], [], false), (95, .istore 5, 2, 0, [5, 1], [], false), (97, .iinc 6 1, 3, 1, [], [], false), (100, .goto (-87), 3, 0, [13], [], false), (103, .bipush (-5), 2, (-5), [], [], false), (105, .ireturn, 1, 0, [], [], false)]
def ix_stabbedAt_y : MethodName := ⟨"SpanLayers$Index", "stabbedAt", "(III)I"⟩
theorem ix_stabbedAt_tb : sl_tbOK sl_R5 prog_7_method_13_code 8 (some .int) lk_ix [(51, 0), (75, 0)] ix_stabbedAt_cd = true := by decide +kernel
def ix_stabbedAt_ct : List sl_Ct := [(2, 0, 5, ix_sortBy_pt), (3, 0, 9, sp_meets_pt)]
theorem ix_stabbedAt_hc (g : sl_G) : sl_HC g sl_R5 4 ix_stabbedAt_ct [(51, 0), (75, 0)] := sl_HC_cons (cs_ix_51 g (by decide)) (sl_HC_cons (cs_ix_75 g (by decide)) (sl_HC_nil g sl_R5 4))
set_option maxRecDepth 20000 in
set_option maxHeartbeats 2000000 in
theorem ix_stabbedAt_snd (g : sl_G) : sl_Snd g ix_stabbedAt_y prog_7_method_13_code 8 (some .int) 4 (ix_stabbedAt_pt) := by
  intro As μ Q hw h
  unfold ix_stabbedAt_pt at h
  split at h
  next c0 a0 a1 a2 a3 =>
    split at h
    next e_ =>
      subst e_
      split at h
      next e_ =>
        subst e_
        refine sl_mk2 g [true, true, true, true, false, false, false, false] (cst := [some (.inr (.inr (some (5, 1)))), some (.inl a1), some (.inl a2), some (.inl a3)]) (lv0 := [none, none, none, none, none, none, none, none]) (by decide) rfl hw rfl rfl rfl lk_ix_ok (ix_stabbedAt_hc g) ix_stabbedAt_tb rfl ?_
        intro X M
        have v13 := sl_extL M sl_VV0 13 (fun n lv st μ => match lv, st with | [_, _, _, _, some (.inl x4), some (.inl x5), some (.inl x6), _], [] => ix_stabbedAt_L13 a1 a2 a3 (fun r μ' => Q (some (.inl r)) μ') n x4 x5 x6 μ | _, _ => False) (by
            intro lv st μ h
            split at h
            · exact h
            · exact h) (by
            intro n13 w13
            have v82 := sl_ext M w13 82 (fun lv st μ => match lv, st with | [_, _, _, _, some (.inl x4), some (.inl x5), some (.inl x6), some (.inl x7)], [] => ix_stabbedAt_B82 a1 a2 a3 (fun r μ' => Q (some (.inl r)) μ') (ix_stabbedAt_L13 a1 a2 a3 (fun r μ' => Q (some (.inl r)) μ') n13) x4 x5 x6 x7 μ | _, _ => False) (by
                intro lv st μ h
                split at h
                · exact h
                · exact h.elim)
            have v54 := sl_ext M v82 54 (fun lv st μ => match lv, st with | [_, _, _, _, some (.inl x4), some (.inl x5), some (.inl x6), _], [] => ix_stabbedAt_B54 a1 a2 a3 (fun r μ' => Q (some (.inl r)) μ') (ix_stabbedAt_L13 a1 a2 a3 (fun r μ' => Q (some (.inl r)) μ') n13) x4 x5 x6 μ | _, _ => False) (by
                intro lv st μ h
                split at h
                · exact h
                · exact h.elim)
            refine ⟨_, v54, ?_⟩
            intro lv st μ h
            split at h
            · exact h
            · exact h.elim)
        exact ⟨_, v13, h⟩
      next => exact h.elim
    next => exact h.elim
  next => exact h.elim
def ix_isPair (a0 : Nat) (a1 : Nat) (a2 : Int32) (μ : sl_M) (Q : Int32 → sl_M → Prop) : Prop := (a2 = (0 : Int32) → sp_meets a0 (μ a1 2) (μ a1 3) μ (fun r2 m1 => sl_bz r2 = r2 ∧ Q r2 m1)) ∧ (¬ a2 = (0 : Int32) → (a2 = (1 : Int32) → sp_covers a0 a1 μ (fun r4 m3 => (r4 = (0 : Int32) → sp_covers a1 a0 m3 (fun r6 m5 => (r6 = (0 : Int32) → sl_bz (0 : Int32) = (0 : Int32) ∧ Q (0 : Int32) m5) ∧ (¬ r6 = (0 : Int32) → sl_bz (1 : Int32) = (1 : Int32) ∧ Q (1 : Int32) m5))) ∧ (¬ r4 = (0 : Int32) → sl_bz (1 : Int32) = (1 : Int32) ∧ Q (1 : Int32) m3))) ∧ (¬ a2 = (1 : Int32) → (a2 = (2 : Int32) → sp_meets a0 (μ a1 2) (μ a1 3) μ (fun r8 m7 => (r8 = (0 : Int32) → sl_bz (1 : Int32) = (1 : Int32) ∧ Q (1 : Int32) m7) ∧ (¬ r8 = (0 : Int32) → sl_bz (0 : Int32) = (0 : Int32) ∧ Q (0 : Int32) m7))) ∧ (¬ a2 = (2 : Int32) → sp_lieTo a0 a1 μ (fun r10 m9 => (r10 = (1 : Int32) → sl_bz (1 : Int32) = (1 : Int32) ∧ Q (1 : Int32) m9) ∧ (¬ r10 = (1 : Int32) → sp_lieTo a1 a0 m9 (fun r12 m11 => (r12 = (1 : Int32) → sl_bz (1 : Int32) = (1 : Int32) ∧ Q (1 : Int32) m11) ∧ (¬ r12 = (1 : Int32) → sl_bz (0 : Int32) = (0 : Int32) ∧ Q (0 : Int32) m11)))))))
def ix_isPair_pt : sl_PT := fun As μ Q => match As with
  | [.inr (.inr (some (c0, a0))), .inr (.inr (some (c1, a1))), .inl a2] => if c0 = 9 then (if c1 = 9 then (ix_isPair a0 a1 a2 μ (fun r μ' => Q (some (.inl r)) μ')) else False) else False
  | _ => False
def ix_isPair_cd : List sl_Ent := [(0, .iload_n 2, 1, 0, [2], [], false), (1, .tableswitch 83 0 2 #[27, 40, 62], 27, 0, [84], [(0, 28), (1, 41), (2, 63)], false), (28, .aload_n 0, 1, 0, [0], [], false), (29, .aload_n 1, 1, 0, [1], [], false), (30, .getfield 35, 3, 0, [9, 2, 0, 0, 0], [], false), (33, .aload_n 1, 1, 0, [1], [], false), (34, .getfield 39, 3, 0, [9, 3, 0, 0, 0], [], false), (37, .invokevirtual 75, 3, 0, [0], [], false), (40, .ireturn, 1, 0, [1], [], false), (41, .aload_n 0, 1, 0, [0], [], false), (42, .aload_n 1, 1, 0, [1], [], false), (43, .invokevirtual 55, 3, 0, [1], [], false), (46, .ifCond .ne 11, 3, 0, [57], [], false), (49, .aload_n 1, 1, 0, [1], [], false), (50, .aload_n 0, 1, 0, [0], [], false), (51, .invokevirtual 55, 3, 0, [1], [], false), (54, .ifCond .eq 7, 3, 0, [61], [], false), (57, .iconst 1, 1, 1, [], [], false), (58, .goto 4, 3, 0, [62], [], false), (61, .iconst 0, 1, 0, [], [], false), (62, .ireturn, 1, 0, [1], [], false), (63, .aload_n 0, 1, 0, [0], [], false), (64, .aload_n 1, 1, 0, [1], [], false), (65, .getfield 35, 3, 0, [9, 2, 0, 0, 0], [], false), (68, .aload_n 1, 1, 0, [1], [], false), (69, .getfield 39, 3, 0, [9, 3, 0, 0, 0], [], false), (72, .invokevirtual 75, 3, 0, [0], [], false), (75, .ifCond .ne 7, 3, 0, [82], [], false), (78, .iconst 1, 1, 1, [], [], false), (79, .goto 4, 3, 0, [83], [], false), (82, .iconst 0, 1, 0, [], [], false), (83, .ireturn, 1, 0, [1], [], false), (84, .aload_n 0, 1, 0, [0], [], false), (85, .aload_n 1, 1, 0, [1], [], false), (86, .invokevirtual 101, 3, 0, [2], [], false), (89, .iconst 1, 1, 1, [], [], false), (90, .if_icmp .eq 12, 3, 0, [102], [], false), (93, .aload_n 1, 1, 0, [1], [], false), (94, .aload_n 0, 1, 0, [0], [], false), (95, .invokevirtual 101, 3, 0, [2], [], false), (98, .iconst 1, 1, 1, [], [], false), (99, .if_icmp .ne 7, 3, 0, [106], [], false), (102, .iconst 1, 1, 1, [], [], false), (103, .goto 4, 3, 0, [107], [], false), (106, .iconst 0, 1, 0, [], [], false), (107, .ireturn, 1, 0, [1], [], false)]
def ix_isPair_y : MethodName := ⟨"SpanLayers$Index", "isPair", "(LSpanLayers$Span;LSpanLayers$Span;I)Z"⟩
theorem ix_isPair_tb : sl_tbOK sl_R5 prog_7_method_18_code 3 (some .boolean) lk_ix [(75, 0), (55, 0), (101, 0)] ix_isPair_cd = true := by decide +kernel
theorem sp_lieTo_w2 : Cond.instanceMethod sp_lieTo_y ∈ sl_T0 := sl_in1 509 (by decide +kernel) rfl
theorem sp_lieTo_w3 : Cond.selects sp_lieTo_y.cls sp_lieTo_y sp_lieTo_y ∈ sl_T0 := sl_in1 510 (by decide +kernel) rfl
theorem sp_lieTo_w4 : Cond.initialized sp_lieTo_y.cls ∈ sl_T0 := sl_in1 87 (by decide +kernel) rfl
theorem sp_lieTo_w5 : Cond.code sp_lieTo_y prog_11_method_6_code 3 (some .int) ∈ sl_T0 := sl_in1 511 (by decide +kernel) rfl
theorem sp_lieTo_w6 : sp_lieTo_y.cls ≠ "java/lang/invoke/MethodHandle" ∧ sp_lieTo_y.cls ≠ "java/lang/invoke/VarHandle" ∧ (parseMethodDescriptor sp_lieTo_y.desc).map (fun d => d.parameters.length) = some 1 := by decide +kernel
theorem cs_ix_101 (g : sl_G) {hh : Nat} (h : 2 ≤ hh) : sl_CallS g sl_R5 101 0 9 hh 2 sp_lieTo_pt := sl_callV (y := sp_lieTo_y) (T := sl_F9) (N := 6) (sp_lieTo_snd g) h (by decide) (sl_in1 544 (by decide +kernel) rfl) sp_lieTo_w2 sp_lieTo_w3 sp_lieTo_w4 sp_lieTo_w5 sp_lieTo_w6 rfl (by decide)
def ix_isPair_ct : List sl_Ct := [(3, 0, 9, sp_meets_pt), (2, 0, 9, sp_covers_pt), (2, 0, 9, sp_lieTo_pt)]
theorem ix_isPair_hc (g : sl_G) : sl_HC g sl_R5 2 ix_isPair_ct [(75, 0), (55, 0), (101, 0)] := sl_HC_cons (cs_ix_75 g (by decide)) (sl_HC_cons (cs_ix_55 g (by decide)) (sl_HC_cons (cs_ix_101 g (by decide)) (sl_HC_nil g sl_R5 2)))
set_option maxRecDepth 20000 in
set_option maxHeartbeats 2000000 in
theorem ix_isPair_snd (g : sl_G) : sl_Snd g ix_isPair_y prog_7_method_18_code 3 (some .boolean) 2 (ix_isPair_pt) := by
  intro As μ Q hw h
  unfold ix_isPair_pt at h
  split at h
  next c0 a0 c1 a1 a2 =>
    split at h
    next e_ =>
      subst e_
      split at h
      next e_ =>
        subst e_
        refine sl_mk2 g [true, true, true] (cst := [some (.inr (.inr (some (9, a0)))), some (.inr (.inr (some (9, a1)))), some (.inl a2)]) (lv0 := [none, none, none]) (by decide) rfl hw rfl rfl rfl lk_ix_ok (ix_isPair_hc g) ix_isPair_tb rfl ?_
        intro X M
        exact ⟨_, sl_VV0, h⟩
      next => exact h.elim
    next => exact h.elim
  next => exact h.elim
def ix_countPairs_L13 (a1 : Int32) (Q : Int32 → sl_M → Prop) (k4 : Int32 → Int32 → sl_M → Prop) : Nat → Int32 → Int32 → Int32 → sl_M → Prop
  | 0, _, _, _, _ => False
  | n + 1, x2, x3, x4, μ => (x4 < x3 → vp_in x3 30 ∧ ((sl_bz (μ (4 + x3.toNatClampNeg) 1)) = (0 : Int32) → (ix_countPairs_L13 a1 Q k4 n) x2 x3 (x4 + (1 : Int32)) μ) ∧ (¬ (sl_bz (μ (4 + x3.toNatClampNeg) 1)) = (0 : Int32) → vp_in x4 30 ∧ ((sl_bz (μ (4 + x4.toNatClampNeg) 1)) = (0 : Int32) → (ix_countPairs_L13 a1 Q k4 n) x2 x3 (x4 + (1 : Int32)) μ) ∧ (¬ (sl_bz (μ (4 + x4.toNatClampNeg) 1)) = (0 : Int32) → vp_in x4 30 ∧ vp_in x3 30 ∧ ix_isPair (4 + x4.toNatClampNeg) (4 + x3.toNatClampNeg) a1 μ (fun r3 m2 => (r3 = (0 : Int32) → (ix_countPairs_L13 a1 Q k4 n) x2 x3 (x4 + (1 : Int32)) m2) ∧ (¬ r3 = (0 : Int32) → (ix_countPairs_L13 a1 Q k4 n) (x2 + (1 : Int32)) x3 (x4 + (1 : Int32)) m2))))) ∧ (¬ x4 < x3 → k4 x2 (x3 + (1 : Int32)) μ)
def ix_countPairs_L4 (a1 : Int32) (Q : Int32 → sl_M → Prop) : Nat → Int32 → Int32 → sl_M → Prop
  | 0, _, _, _ => False
  | n + 1, x2, x3, μ => (x3 < (30 : Int32) → ∃ n1, ix_countPairs_L13 a1 Q (ix_countPairs_L4 a1 Q n) n1 x2 x3 (0 : Int32) μ) ∧ (¬ x3 < (30 : Int32) → Q x2 μ)
def ix_countPairs (a1 : Int32) (μ : sl_M) (Q : Int32 → sl_M → Prop) : Prop := ∃ n4, ix_countPairs_L4 a1 Q n4 (0 : Int32) (0 : Int32) μ
def ix_countPairs_pt : sl_PT := fun As μ Q => match As with
  | [.inr (.inr (some (c0, a0))), .inl a1] => if c0 = 5 then (if a0 = 1 then (ix_countPairs a1 μ (fun r μ' => Q (some (.inl r)) μ')) else False) else False
  | _ => False
def ix_countPairs_cd : List sl_Ent := [(0, .iconst 0, 1, 0, [], [], false), (1, .istore_n 2, 1, 0, [2], [], false), (2, .iconst 0, 1, 0, [], [], false), (3, .istore_n 3, 1, 0, [3], [], false), (4, .iload_n 3, 1, 0, [3], [], true), (5, .bipush 30, 2, 30, [], [], false), (7, .if_icmp .ge 72, 3, 0, [79], [], false), (10, .iconst 0, 1, 0, [], [], false), (11, .istore 4, 2, 0, [4], [], false), (13, .iload 4, 2, 0, [4], [], true), (15, .iload_n 3, 1, 0, [3], [], false), (16, .if_icmp .ge 57, 3, 0, [73], [], false), (19, .aload_n 0, 1, 0, [0], [], false), (20, .getfield 11, 3, 0, [5, 0, 2, 22, 1], [], false), (23, .iload_n 3, 1, 0, [3], [], false), (24, .aaload, 1, 0, [], [], false), (25, .getfield 31, 3, 0, [9, 1, 1, 0, 0], [], false), (28, .ifCond .eq 39, 3, 0, [67], [], false), (31, .aload_n 0, 1, 0, [0], [], false), (32, .getfield 11, 3, 0, [5, 0, 2, 22, 1], [], false), (35, .iload 4, 2, 0, [4], [], false), (37, .aaload, 1, 0, [], [], false), (38, .getfield 31, 3, 0, [9, 1, 1, 0, 0], [], false), (41, .ifCond .eq 26, 3, 0, [67], [], false), (44, .aload_n 0, 1, 0, [0], [], false), (45, .getfield 11, 3, 0, [5, 0, 2, 22, 1], [], false), (48, .iload 4, 2, 0, [4], [], false), (50, .aaload, 1, 0, [], [], false), (51, .aload_n 0, 1, 0, [0], [], false), (52, .getfield 11, 3, 0, [5, 0, 2, 22, 1], [], false), (55, .iload_n 3, 1, 0, [3], [], false), (56, .aaload, 1, 0, [], [], false), (57, .iload_n 1, 1, 0, [1], [], false), (58, .invokestatic 97, 3, 0, [0], [], false), (61, .ifCond .eq 6, 3, 0, [67], [], false), (64, .iinc 2 1, 3, 1, [], [], false), (67, .iinc 4 1, 3, 1, [], [], false), (70, .goto (-57), 3, 0, [13], [], false), (73, .iinc 3 1, 3, 1, [], [], false), (76, .goto (-72), 3, 0, [4], [], false), (79, .iload_n 2, 1, 0, [2], [], false), (80, .ireturn, 1, 0, [], [], false)]
def ix_countPairs_y : MethodName := ⟨"SpanLayers$Index", "countPairs", "(I)I"⟩
theorem ix_countPairs_tb : sl_tbOK sl_R5 prog_7_method_17_code 5 (some .int) lk_ix [(97, 1)] ix_countPairs_cd = true := by decide +kernel
theorem ix_isPair_w2 : Cond.static ix_isPair_y ∈ sl_T0 := sl_in1 542 (by decide +kernel) rfl
theorem ix_isPair_w4 : Cond.initialized ix_isPair_y.cls ∈ sl_T0 := sl_in1 86 (by decide +kernel) rfl
theorem ix_isPair_w5 : Cond.code ix_isPair_y prog_7_method_18_code 3 (some .boolean) ∈ sl_T0 := sl_in1 543 (by decide +kernel) rfl
theorem ix_isPair_w6 : ix_isPair_y.cls ≠ "java/lang/invoke/MethodHandle" ∧ ix_isPair_y.cls ≠ "java/lang/invoke/VarHandle" ∧ (parseMethodDescriptor ix_isPair_y.desc).map (fun d => d.parameters.length) = some 3 := by decide +kernel
theorem cs_ix_97 (g : sl_G) {hh : Nat} (h : 3 ≤ hh) : sl_CallS g sl_R5 97 1 0 hh 3 ix_isPair_pt := sl_callS (y := ix_isPair_y) (ix_isPair_snd g) h (by decide) (sl_in1 541 (by decide +kernel) rfl) ix_isPair_w2 ix_isPair_w4 ix_isPair_w5 ix_isPair_w6
def ix_countPairs_ct : List sl_Ct := [(3, 1, 0, ix_isPair_pt)]
theorem ix_countPairs_hc (g : sl_G) : sl_HC g sl_R5 3 ix_countPairs_ct [(97, 1)] := sl_HC_cons (cs_ix_97 g (by decide)) (sl_HC_nil g sl_R5 3)
set_option maxRecDepth 20000 in
set_option maxHeartbeats 2000000 in
theorem ix_countPairs_snd (g : sl_G) : sl_Snd g ix_countPairs_y prog_7_method_17_code 5 (some .int) 3 (ix_countPairs_pt) := by
  intro As μ Q hw h
  unfold ix_countPairs_pt at h
  split at h
  next c0 a0 a1 =>
    split at h
    next e_ =>
      subst e_
      split at h
      next e_ =>
        subst e_
        refine sl_mk2 g [true, true, false, false, false] (cst := [some (.inr (.inr (some (5, 1)))), some (.inl a1)]) (lv0 := [none, none, none, none, none]) (by decide) rfl hw rfl rfl rfl lk_ix_ok (ix_countPairs_hc g) ix_countPairs_tb rfl ?_
        intro X M
        have v4 := sl_extL M sl_VV0 4 (fun n lv st μ => match lv, st with | [_, _, some (.inl x2), some (.inl x3), _], [] => ix_countPairs_L4 a1 (fun r μ' => Q (some (.inl r)) μ') n x2 x3 μ | _, _ => False) (by
            intro lv st μ h
            split at h
            · exact h
            · exact h) (by
            intro n4 w4
            have v13 := sl_extL M w4 13 (fun n lv st μ => match lv, st with | [_, _, some (.inl x2), some (.inl x3), some (.inl x4)], [] => ix_countPairs_L13 a1 (fun r μ' => Q (some (.inl r)) μ') (ix_countPairs_L4 a1 (fun r μ' => Q (some (.inl r)) μ') n4) n x2 x3 x4 μ | _, _ => False) (by
                intro lv st μ h
                split at h
                · exact h
                · exact h) (by
                intro n13 w13
                refine ⟨_, w13, ?_⟩
                intro lv st μ h
                split at h
                · exact h
                · exact h.elim)
            refine ⟨_, v13, ?_⟩
            intro lv st μ h
            split at h
            · exact h
            · exact h.elim)
        exact ⟨_, v4, h⟩
      next => exact h.elim
    next => exact h.elim
  next => exact h.elim
def ix_countAhead_L5 (a1 : Int32) (a2 : Nat) (Q : Int32 → sl_M → Prop) : Nat → Int32 → Int32 → sl_M → Prop
  | 0, _, _, _ => False
  | n + 1, x3, x4, μ => (x4 < (30 : Int32) → vp_in x4 30 ∧ ((sl_bz (μ (4 + x4.toNatClampNeg) 1)) = (0 : Int32) → ∀ v1, v1 = (x3 + (0 : Int32)) → (ix_countAhead_L5 a1 a2 Q n) v1 (x4 + (1 : Int32)) μ) ∧ (¬ (sl_bz (μ (4 + x4.toNatClampNeg) 1)) = (0 : Int32) → vp_in x4 30 ∧ sp_isAhead (4 + x4.toNatClampNeg) a2 a1 μ (fun r3 m2 => (r3 = (0 : Int32) → ∀ v4, v4 = (x3 + (0 : Int32)) → (ix_countAhead_L5 a1 a2 Q n) v4 (x4 + (1 : Int32)) m2) ∧ (¬ r3 = (0 : Int32) → ∀ v5, v5 = (x3 + (1 : Int32)) → (ix_countAhead_L5 a1 a2 Q n) v5 (x4 + (1 : Int32)) m2)))) ∧ (¬ x4 < (30 : Int32) → Q x3 μ)
def ix_countAhead (a1 : Int32) (a2 : Nat) (μ : sl_M) (Q : Int32 → sl_M → Prop) : Prop := ∃ n6, ix_countAhead_L5 a1 a2 Q n6 (0 : Int32) (0 : Int32) μ
def ix_countAhead_pt : sl_PT := fun As μ Q => match As with
  | [.inr (.inr (some (c0, a0))), .inl a1, .inr (.inr (some (c2, a2)))] => if c0 = 5 then (if c2 = 9 then (if a0 = 1 then (ix_countAhead a1 a2 μ (fun r μ' => Q (some (.inl r)) μ')) else False) else False) else False
  | _ => False
def ix_countAhead_cd : List sl_Ent := [(0, .iconst 0, 1, 0, [], [], false), (1, .istore_n 3, 1, 0, [3], [], false), (2, .iconst 0, 1, 0, [], [], false), (3, .istore 4, 2, 0, [4], [], false), (5, .iload 4, 2, 0, [4], [], true), (7, .bipush 30, 2, 30, [], [], false), (9, .if_icmp .ge 45, 3, 0, [54], [], false), (12, .iload_n 3, 1, 0, [3], [], false), (13, .aload_n 0, 1, 0, [0], [], false), (14, .getfield 11, 3, 0, [5, 0, 2, 22, 1], [], false), (17, .iload 4, 2, 0, [4], [], false), (19, .aaload, 1, 0, [], [], false), (20, .getfield 31, 3, 0, [9, 1, 1, 0, 0], [], false), (23, .ifCond .eq 22, 3, 0, [45], [], false), (26, .aload_n 0, 1, 0, [0], [], false), (27, .getfield 11, 3, 0, [5, 0, 2, 22, 1], [], false), (30, .iload 4, 2, 0, [4], [], false), (32, .aaload, 1, 0, [], [], false), (33, .aload_n 2, 1, 0, [2], [], false), (34, .iload_n 1, 1, 0, [1], [], false), (35, .invokevirtual 68, 3, 0, [0], [], false), (38, .ifCond .eq 7, 3, 0, [45], [], false), (41, .iconst 1, 1, 1, [], [], false), (42, .goto 4, 3, 0, [46], [], false), (45, .iconst 0, 1, 0, [], [], false), (46, .iadd, 1, 0, [], [], false), (47, .istore_n 3, 1, 0, [3, 1], [], false), (48, .iinc 4 1, 3, 1, [], [], false), (51, .goto (-46), 3, 0, [5], [], false), (54, .iload_n 3, 1, 0, [3], [], false), (55, .ireturn, 1, 0, [], [], false)]
def ix_countAhead_y : MethodName := ⟨"SpanLayers$Index", "countAhead", "(ILSpanLayers$Span;)I"⟩
theorem ix_countAhead_tb : sl_tbOK sl_R5 prog_7_method_19_code 5 (some .int) lk_ix [(68, 0)] ix_countAhead_cd = true := by decide +kernel
def ix_countAhead_ct : List sl_Ct := [(3, 0, 9, sp_isAhead_pt)]
theorem ix_countAhead_hc (g : sl_G) : sl_HC g sl_R5 3 ix_countAhead_ct [(68, 0)] := sl_HC_cons (cs_ix_68 g (by decide)) (sl_HC_nil g sl_R5 3)
set_option maxRecDepth 20000 in
set_option maxHeartbeats 2000000 in
theorem ix_countAhead_snd (g : sl_G) : sl_Snd g ix_countAhead_y prog_7_method_19_code 5 (some .int) 3 (ix_countAhead_pt) := by
  intro As μ Q hw h
  unfold ix_countAhead_pt at h
  split at h
  next c0 a0 a1 c2 a2 =>
    split at h
    next e_ =>
      subst e_
      split at h
      next e_ =>
        subst e_
        split at h
        next e_ =>
          subst e_
          refine sl_mk2 g [true, true, true, false, false] (cst := [some (.inr (.inr (some (5, 1)))), some (.inl a1), some (.inr (.inr (some (9, a2))))]) (lv0 := [none, none, none, none, none]) (by decide) rfl hw rfl rfl rfl lk_ix_ok (ix_countAhead_hc g) ix_countAhead_tb rfl ?_
          intro X M
          have v5 := sl_extL M sl_VV0 5 (fun n lv st μ => match lv, st with | [_, _, _, some (.inl x3), some (.inl x4)], [] => ix_countAhead_L5 a1 a2 (fun r μ' => Q (some (.inl r)) μ') n x3 x4 μ | _, _ => False) (by
              intro lv st μ h
              split at h
              · exact h
              · exact h) (by
              intro n5 w5
              refine ⟨_, w5, ?_⟩
              intro lv st μ h
              split at h
              · exact h
              · exact h.elim)
          exact ⟨_, v5, h⟩
        next => exact h.elim
      next => exact h.elim
    next => exact h.elim
  next => exact h.elim
def ix_bitsOfLayer_L4 (a1 : Int32) (Q : Int32 → sl_M → Prop) : Nat → Int32 → Int32 → sl_M → Prop
  | 0, _, _, _ => False
  | n + 1, x2, x3, μ => (x3 < (30 : Int32) → vp_in x3 30 ∧ ((sl_bz (μ (4 + x3.toNatClampNeg) 1)) = (0 : Int32) → (ix_bitsOfLayer_L4 a1 Q n) x2 (x3 + (1 : Int32)) μ) ∧ (¬ (sl_bz (μ (4 + x3.toNatClampNeg) 1)) = (0 : Int32) → vp_in x3 30 ∧ ((μ (4 + x3.toNatClampNeg) 5) = a1 → ∀ v1, v1 = (x2 ||| ((1 : Int32) <<< (x3 &&& 31))) → (ix_bitsOfLayer_L4 a1 Q n) v1 (x3 + (1 : Int32)) μ) ∧ (¬ (μ (4 + x3.toNatClampNeg) 5) = a1 → (ix_bitsOfLayer_L4 a1 Q n) x2 (x3 + (1 : Int32)) μ))) ∧ (¬ x3 < (30 : Int32) → Q x2 μ)
def ix_bitsOfLayer (a1 : Int32) (μ : sl_M) (Q : Int32 → sl_M → Prop) : Prop := ∃ n2, ix_bitsOfLayer_L4 a1 Q n2 (0 : Int32) (0 : Int32) μ
def ix_bitsOfLayer_pt : sl_PT := fun As μ Q => match As with
  | [.inr (.inr (some (c0, a0))), .inl a1] => if c0 = 5 then (if a0 = 1 then (ix_bitsOfLayer a1 μ (fun r μ' => Q (some (.inl r)) μ')) else False) else False
  | _ => False
def ix_bitsOfLayer_cd : List sl_Ent := [(0, .iconst 0, 1, 0, [], [], false), (1, .istore_n 2, 1, 0, [2], [], false), (2, .iconst 0, 1, 0, [], [], false), (3, .istore_n 3, 1, 0, [3], [], false), (4, .iload_n 3, 1, 0, [3], [], true), (5, .bipush 30, 2, 30, [], [], false), (7, .if_icmp .ge 40, 3, 0, [47], [], false), (10, .aload_n 0, 1, 0, [0], [], false), (11, .getfield 11, 3, 0, [5, 0, 2, 22, 1], [], false), (14, .iload_n 3, 1, 0, [3], [], false), (15, .aaload, 1, 0, [], [], false), (16, .getfield 31, 3, 0, [9, 1, 1, 0, 0], [], false), (19, .ifCond .eq 22, 3, 0, [41], [], false), (22, .aload_n 0, 1, 0, [0], [], false), (23, .getfield 11, 3, 0, [5, 0, 2, 22, 1], [], false), (26, .iload_n 3, 1, 0, [3], [], false), (27, .aaload, 1, 0, [], [], false), (28, .getfield 59, 3, 0, [9, 5, 0, 0, 0], [], false), (31, .iload_n 1, 1, 0, [1], [], false), (32, .if_icmp .ne 9, 3, 0, [41], [], false), (35, .iload_n 2, 1, 0, [2], [], false), (36, .iconst 1, 1, 1, [], [], false), (37, .iload_n 3, 1, 0, [3], [], false), (38, .ishl, 1, 0, [], [], false), (39, .ior, 1, 0, [], [], false), (40, .istore_n 2, 1, 0, [2, 1], [], false), (41, .iinc 3 1, 3, 1, [], [], false), (44, .goto (-40), 3, 0, [4], [], false), (47, .iload_n 2, 1, 0, [2], [], false), (48, .ireturn, 1, 0, [], [], false)]
def ix_bitsOfLayer_y : MethodName := ⟨"SpanLayers$Index", "bitsOfLayer", "(I)I"⟩
theorem ix_bitsOfLayer_tb : sl_tbOK sl_R5 prog_7_method_12_code 4 (some .int) lk_ix [] ix_bitsOfLayer_cd = true := by decide +kernel
def ix_bitsOfLayer_ct : List sl_Ct := []
theorem ix_bitsOfLayer_hc (g : sl_G) : sl_HC g sl_R5 0 ix_bitsOfLayer_ct [] := sl_HC_nil g sl_R5 0
set_option maxRecDepth 20000 in
set_option maxHeartbeats 2000000 in
theorem ix_bitsOfLayer_snd (g : sl_G) : sl_Snd g ix_bitsOfLayer_y prog_7_method_12_code 4 (some .int) 0 (ix_bitsOfLayer_pt) := by
  intro As μ Q hw h
  unfold ix_bitsOfLayer_pt at h
  split at h
  next c0 a0 a1 =>
    split at h
    next e_ =>
      subst e_
      split at h
      next e_ =>
        subst e_
        refine sl_mk2 g [true, true, false, false] (cst := [some (.inr (.inr (some (5, 1)))), some (.inl a1)]) (lv0 := [none, none, none, none]) (by decide) rfl hw rfl rfl rfl lk_ix_ok (ix_bitsOfLayer_hc g) ix_bitsOfLayer_tb rfl ?_
        intro X M
        have v4 := sl_extL M sl_VV0 4 (fun n lv st μ => match lv, st with | [_, _, some (.inl x2), some (.inl x3)], [] => ix_bitsOfLayer_L4 a1 (fun r μ' => Q (some (.inl r)) μ') n x2 x3 μ | _, _ => False) (by
            intro lv st μ h
            split at h
            · exact h
            · exact h) (by
            intro n4 w4
            refine ⟨_, w4, ?_⟩
            intro lv st μ h
            split at h
            · exact h
            · exact h.elim)
        exact ⟨_, v4, h⟩
      next => exact h.elim
    next => exact h.elim
  next => exact h.elim
def cu_begin (a0 : Nat) (a1 : Int32) (μ : sl_M) (Q : sl_M → Prop) : Prop := sl_bz (1 : Int32) = (1 : Int32) ∧ ∀ m1, m1 = sl_up μ a0 0 (1 : Int32) → ∀ m2, m2 = sl_up m1 a0 1 a1 → sl_bz (0 : Int32) = (0 : Int32) ∧ ∀ m3, m3 = sl_up m2 a0 2 (0 : Int32) → Q m3
def cu_begin_pt : sl_PT := fun As μ Q => match As with
  | [.inr (.inr (some (c0, a0))), .inl a1] => if c0 = 4 then (cu_begin a0 a1 μ (fun μ' => Q none μ')) else False
  | _ => False
def cu_begin_cd : List sl_Ent := [(0, .aload_n 0, 1, 0, [0], [], false), (1, .iconst 1, 1, 1, [], [], false), (2, .putfield 18, 3, 0, [4, 0, 1], [], false), (5, .aload_n 0, 1, 0, [0], [], false), (6, .iload_n 1, 1, 0, [1], [], false), (7, .putfield 22, 3, 0, [4, 1, 0], [], false), (10, .aload_n 0, 1, 0, [0], [], false), (11, .iconst 0, 1, 0, [], [], false), (12, .putfield 26, 3, 0, [4, 2, 1], [], false), (15, .return_, 1, 0, [], [], false)]
def cu_begin_y : MethodName := ⟨"SpanLayers$Cursor", "begin", "(I)V"⟩
theorem cu_begin_tb : sl_tbOK sl_R4 prog_6_method_2_code 2 none lk_cu [] cu_begin_cd = true := by decide +kernel
def cu_begin_ct : List sl_Ct := []
theorem cu_begin_hc (g : sl_G) : sl_HC g sl_R4 0 cu_begin_ct [] := sl_HC_nil g sl_R4 0
set_option maxRecDepth 20000 in
set_option maxHeartbeats 2000000 in
theorem cu_begin_snd (g : sl_G) : sl_Snd g cu_begin_y prog_6_method_2_code 2 none 0 (cu_begin_pt) := by
  intro As μ Q hw h
  unfold cu_begin_pt at h
  split at h
  next c0 a0 a1 =>
    split at h
    next e_ =>
      subst e_
      refine sl_mk2 g [true, true] (cst := [some (.inr (.inr (some (4, a0)))), some (.inl a1)]) (lv0 := [none, none]) (by decide) rfl hw rfl rfl rfl lk_cu_ok (cu_begin_hc g) cu_begin_tb rfl ?_
      intro X M
      exact ⟨_, sl_VV0, h⟩
    next => exact h.elim
  next => exact h.elim
def sx_countOpen_L4 (Q : Int32 → sl_M → Prop) : Nat → Int32 → Int32 → sl_M → Prop
  | 0, _, _, _ => False
  | n + 1, x1, x2, μ => (x2 < (3 : Int32) → vp_in x2 3 ∧ ((sl_bz (μ (90 + 2 * x2.toNatClampNeg) 0)) = (0 : Int32) → ∀ v1, v1 = (x1 + (0 : Int32)) → (sx_countOpen_L4 Q n) v1 (x2 + (1 : Int32)) μ) ∧ (¬ (sl_bz (μ (90 + 2 * x2.toNatClampNeg) 0)) = (0 : Int32) → ∀ v2, v2 = (x1 + (1 : Int32)) → (sx_countOpen_L4 Q n) v2 (x2 + (1 : Int32)) μ)) ∧ (¬ x2 < (3 : Int32) → Q x1 μ)
def sx_countOpen (μ : sl_M) (Q : Int32 → sl_M → Prop) : Prop := ∃ n3, sx_countOpen_L4 Q n3 (0 : Int32) (0 : Int32) μ
def sx_countOpen_pt : sl_PT := fun As μ Q => match As with
  | [.inr (.inr (some (c0, a0)))] => if c0 = 11 then (if a0 = 0 then (sx_countOpen μ (fun r μ' => Q (some (.inl r)) μ')) else False) else False
  | _ => False
def sx_countOpen_cd : List sl_Ent := [(0, .iconst 0, 1, 0, [], [], false), (1, .istore_n 1, 1, 0, [1], [], false), (2, .iconst 0, 1, 0, [], [], false), (3, .istore_n 2, 1, 0, [2], [], false), (4, .iload_n 2, 1, 0, [2], [], true), (5, .iconst 3, 1, 3, [], [], false), (6, .if_icmp .ge 29, 3, 0, [35], [], false), (9, .iload_n 1, 1, 0, [1], [], false), (10, .aload_n 0, 1, 0, [0], [], false), (11, .getfield 32, 3, 0, [11, 3, 2, 24, 42], [], false), (14, .iload_n 2, 1, 0, [2], [], false), (15, .aaload, 1, 0, [], [], false), (16, .getfield 167, 3, 0, [4, 0, 1, 0, 0], [], false), (19, .ifCond .eq 7, 3, 0, [26], [], false), (22, .iconst 1, 1, 1, [], [], false), (23, .goto 4, 3, 0, [27], [], false), (26, .iconst 0, 1, 0, [], [], false), (27, .iadd, 1, 0, [], [], false), (28, .istore_n 1, 1, 0, [1, 1], [], false), (29, .iinc 2 1, 3, 1, [], [], false), (32, .goto (-28), 3, 0, [4], [], false), (35, .iload_n 1, 1, 0, [1], [], false), (36, .ireturn, 1, 0, [], [], false)]
def sx_countOpen_y : MethodName := ⟨"SpanLayers", "countOpen", "()I"⟩
theorem sx_countOpen_tb : sl_tbOK sl_R11 prog_1_method_44_code 3 (some .int) lk_sx [] sx_countOpen_cd = true := by decide +kernel
def sx_countOpen_ct : List sl_Ct := []
theorem sx_countOpen_hc (g : sl_G) : sl_HC g sl_R11 0 sx_countOpen_ct [] := sl_HC_nil g sl_R11 0
set_option maxRecDepth 20000 in
set_option maxHeartbeats 2000000 in
theorem sx_countOpen_snd (g : sl_G) : sl_Snd g sx_countOpen_y prog_1_method_44_code 3 (some .int) 0 (sx_countOpen_pt) := by
  intro As μ Q hw h
  unfold sx_countOpen_pt at h
  split at h
  next c0 a0 =>
    split at h
    next e_ =>
      subst e_
      split at h
      next e_ =>
        subst e_
        refine sl_mk2 g [true, false, false] (cst := [some (.inr (.inr (some (11, 0))))]) (lv0 := [none, none, none]) (by decide) rfl hw rfl rfl rfl lk_sx_ok (sx_countOpen_hc g) sx_countOpen_tb rfl ?_
        intro X M
        have v4 := sl_extL M sl_VV0 4 (fun n lv st μ => match lv, st with | [_, some (.inl x1), some (.inl x2)], [] => sx_countOpen_L4 (fun r μ' => Q (some (.inl r)) μ') n x1 x2 μ | _, _ => False) (by
            intro lv st μ h
            split at h
            · exact h
            · exact h) (by
            intro n4 w4
            refine ⟨_, w4, ?_⟩
            intro lv st μ h
            split at h
            · exact h
            · exact h.elim)
        exact ⟨_, v4, h⟩
      next => exact h.elim
    next => exact h.elim
  next => exact h.elim
def ix_firstBehind_B56 (a1 : Nat) (Q : Option Nat → sl_M → Prop) (k4 : Option (Nat × Nat) → Int32 → sl_M → Prop) : Option (Nat × Nat) → Int32 → Nat → Int32 → sl_M → Prop
  | none, x3, x4, x5, μ => (x5 = (0 : Int32) → k4 none (x3 + (1 : Int32)) μ) ∧ (¬ x5 = (0 : Int32) → k4 (some (9, x4)) (x3 + (1 : Int32)) μ)
  | (some (c2, x2)), x3, x4, x5, μ => c2 = 9 ∧ (x5 = (0 : Int32) → k4 (some (9, x2)) (x3 + (1 : Int32)) μ) ∧ (¬ x5 = (0 : Int32) → sp_isAhead x4 x2 (μ a1 1) μ (fun r6 m5 => (r6 = (0 : Int32) → k4 (some (9, x2)) (x3 + (1 : Int32)) m5) ∧ (¬ r6 = (0 : Int32) → k4 (some (9, x4)) (x3 + (1 : Int32)) m5)))
def ix_firstBehind_L4 (a1 : Nat) (Q : Option Nat → sl_M → Prop) : Nat → Option (Nat × Nat) → Int32 → sl_M → Prop
  | 0, _, _, _ => False
  | n + 1, none, x3, μ => (x3 < (30 : Int32) → vp_in x3 30 ∧ ((sl_bz (μ (4 + x3.toNatClampNeg) 1)) = (0 : Int32) → (9 : Nat) = 9 ∧ ix_firstBehind_B56 a1 Q (ix_firstBehind_L4 a1 Q n) none x3 (4 + x3.toNatClampNeg) (0 : Int32) μ) ∧ (¬ (sl_bz (μ (4 + x3.toNatClampNeg) 1)) = (0 : Int32) → ((sl_bz (μ a1 2)) = (0 : Int32) → (9 : Nat) = 9 ∧ ix_firstBehind_B56 a1 Q (ix_firstBehind_L4 a1 Q n) none x3 (4 + x3.toNatClampNeg) (1 : Int32) μ) ∧ (¬ (sl_bz (μ a1 2)) = (0 : Int32) → sp_isAhead (a1 + 1) (4 + x3.toNatClampNeg) (μ a1 1) μ (fun r2 m1 => (r2 = (0 : Int32) → (9 : Nat) = 9 ∧ ix_firstBehind_B56 a1 Q (ix_firstBehind_L4 a1 Q n) none x3 (4 + x3.toNatClampNeg) (0 : Int32) m1) ∧ (¬ r2 = (0 : Int32) → (9 : Nat) = 9 ∧ ix_firstBehind_B56 a1 Q (ix_firstBehind_L4 a1 Q n) none x3 (4 + x3.toNatClampNeg) (1 : Int32) m1))))) ∧ (¬ x3 < (30 : Int32) → Q none μ)
  | n + 1, (some (c2, x2)), x3, μ => c2 = 9 ∧ (x3 < (30 : Int32) → vp_in x3 30 ∧ ((sl_bz (μ (4 + x3.toNatClampNeg) 1)) = (0 : Int32) → (9 : Nat) = 9 ∧ ix_firstBehind_B56 a1 Q (ix_firstBehind_L4 a1 Q n) (some (9, x2)) x3 (4 + x3.toNatClampNeg) (0 : Int32) μ) ∧ (¬ (sl_bz (μ (4 + x3.toNatClampNeg) 1)) = (0 : Int32) → ((sl_bz (μ a1 2)) = (0 : Int32) → (9 : Nat) = 9 ∧ ix_firstBehind_B56 a1 Q (ix_firstBehind_L4 a1 Q n) (some (9, x2)) x3 (4 + x3.toNatClampNeg) (1 : Int32) μ) ∧ (¬ (sl_bz (μ a1 2)) = (0 : Int32) → sp_isAhead (a1 + 1) (4 + x3.toNatClampNeg) (μ a1 1) μ (fun r4 m3 => (r4 = (0 : Int32) → (9 : Nat) = 9 ∧ ix_firstBehind_B56 a1 Q (ix_firstBehind_L4 a1 Q n) (some (9, x2)) x3 (4 + x3.toNatClampNeg) (0 : Int32) m3) ∧ (¬ r4 = (0 : Int32) → (9 : Nat) = 9 ∧ ix_firstBehind_B56 a1 Q (ix_firstBehind_L4 a1 Q n) (some (9, x2)) x3 (4 + x3.toNatClampNeg) (1 : Int32) m3))))) ∧ (¬ x3 < (30 : Int32) → Q (some x2) μ)
def ix_firstBehind (a1 : Nat) (μ : sl_M) (Q : Option Nat → sl_M → Prop) : Prop := ∃ n7, ix_firstBehind_L4 a1 Q n7 none (0 : Int32) μ
def ix_firstBehind_pt : sl_PT := fun As μ Q => match As with
  | [.inr (.inr (some (c0, a0))), .inr (.inr (some (c1, a1)))] => if c0 = 5 then (if c1 = 4 then (if a0 = 1 then (ix_firstBehind a1 μ (fun r μ' => r.elim (Q (some (.inr (.inr none))) μ') (fun o => Q (some (.inr (.inr (some (9, o))))) μ'))) else False) else False) else False
  | _ => False
def ix_firstBehind_cd : List sl_Ent := [(0, .aconst_null, 1, 0, [], [], false), (1, .astore_n 2, 1, 0, [2], [], false), (2, .iconst 0, 1, 0, [], [], false), (3, .istore_n 3, 1, 0, [3], [], false), (4, .iload_n 3, 1, 0, [3], [], true), (5, .bipush 30, 2, 30, [], [], false), (7, .if_icmp .ge 80, 3, 0, [87], [], false), (10, .aload_n 0, 1, 0, [0], [], false), (11, .getfield 11, 3, 0, [5, 0, 2, 22, 1], [], false), (14, .iload_n 3, 1, 0, [3], [], false), (15, .aaload, 1, 0, [], [], false), (16, .astore 4, 2, 0, [4], [], false), (18, .aload 4, 2, 0, [4], [], false), (20, .getfield 31, 3, 0, [9, 1, 1, 0, 0], [], false), (23, .ifCond .eq 30, 3, 0, [53], [], false), (26, .aload_n 1, 1, 0, [1], [], false), (27, .getfield 104, 3, 0, [4, 2, 1, 0, 0], [], false), (30, .ifCond .eq 19, 3, 0, [49], [], false), (33, .aload_n 1, 1, 0, [1], [], false), (34, .getfield 109, 3, 0, [4, 3, 2, 9, 1], [], false), (37, .aload 4, 2, 0, [4], [], false), (39, .aload_n 1, 1, 0, [1], [], false), (40, .getfield 113, 3, 0, [4, 1, 0, 0, 0], [], false), (43, .invokevirtual 68, 3, 0, [0], [], false), (46, .ifCond .eq 7, 3, 0, [53], [], false), (49, .iconst 1, 1, 1, [], [], false), (50, .goto 4, 3, 0, [54], [], false), (53, .iconst 0, 1, 0, [], [], false), (54, .istore 5, 2, 0, [5], [], false), (56, .iload 5, 2, 0, [5], [], true), (58, .ifCond .eq 23, 3, 0, [81], [], false), (61, .aload_n 2, 1, 0, [2], [], false), (62, .ifnull 16, 3, 0, [78], [], false), (65, .aload 4, 2, 0, [4], [], false), (67, .aload_n 2, 1, 0, [2], [], false), (68, .aload_n 1, 1, 0, [1], [], false), (69, .getfield 113, 3, 0, [4, 1, 0, 0, 0], [], false), (72, .invokevirtual 68, 3, 0, [0], [], false), (75, .ifCond .eq 6, 3, 0, [81], [], false), (78, .aload 4, 2, 0, [4], [], false), (80, .astore_n 2, 1, 0, [2], [], false), (81, .iinc 3 1, 3, 1, [], [], false), (84, .goto (-80), 3, 0, [4], [], false), (87, .aload_n 2, 1, 0, [2], [], false), (88, .areturn, 1, 0, [], [], false)]
def ix_firstBehind_y : MethodName := ⟨"SpanLayers$Index", "firstBehind", "(LSpanLayers$Cursor;)LSpanLayers$Span;"⟩
theorem ix_firstBehind_tb : sl_tbOK sl_R5 prog_7_method_20_code 6 (some (.object "SpanLayers$Span")) lk_ix [(68, 0)] ix_firstBehind_cd = true := by decide +kernel
def ix_firstBehind_ct : List sl_Ct := [(3, 0, 9, sp_isAhead_pt)]
theorem ix_firstBehind_hc (g : sl_G) : sl_HC g sl_R5 3 ix_firstBehind_ct [(68, 0)] := sl_HC_cons (cs_ix_68 g (by decide)) (sl_HC_nil g sl_R5 3)
set_option maxRecDepth 20000 in
set_option maxHeartbeats 2000000 in
theorem ix_firstBehind_snd (g : sl_G) : sl_Snd g ix_firstBehind_y prog_7_method_20_code 6 (some (.object "SpanLayers$Span")) 3 (ix_firstBehind_pt) := by
  intro As μ Q hw h
  unfold ix_firstBehind_pt at h
  split at h
  next c0 a0 c1 a1 =>
    split at h
    next e_ =>
      subst e_
      split at h
      next e_ =>
        subst e_
        split at h
        next e_ =>
          subst e_
          refine sl_mk2 g [true, true, false, false, false, false] (cst := [some (.inr (.inr (some (5, 1)))), some (.inr (.inr (some (4, a1))))]) (lv0 := [none, none, none, none, none, none]) (by decide) rfl hw rfl rfl rfl lk_ix_ok (ix_firstBehind_hc g) ix_firstBehind_tb rfl ?_
          intro X M
          have v4 := sl_extL M sl_VV0 4 (fun n lv st μ => match lv, st with | [_, _, some (.inr (.inr none)), some (.inl x3), _, _], [] => ix_firstBehind_L4 a1 (fun r μ' => r.elim (Q (some (.inr (.inr none))) μ') (fun o => Q (some (.inr (.inr (some (9, o))))) μ')) n none x3 μ | [_, _, some (.inr (.inr (some (c2, x2)))), some (.inl x3), _, _], [] => ix_firstBehind_L4 a1 (fun r μ' => r.elim (Q (some (.inr (.inr none))) μ') (fun o => Q (some (.inr (.inr (some (9, o))))) μ')) n (some (c2, x2)) x3 μ | _, _ => False) (by
              intro lv st μ h
              split at h
              · exact h
              · exact h
              · exact h) (by
              intro n4 w4
              have v56 := sl_ext M w4 56 (fun lv st μ => match lv, st with | [_, _, some (.inr (.inr none)), some (.inl x3), some (.inr (.inr (some (c4, x4)))), some (.inl x5)], [] => c4 = 9 ∧ ix_firstBehind_B56 a1 (fun r μ' => r.elim (Q (some (.inr (.inr none))) μ') (fun o => Q (some (.inr (.inr (some (9, o))))) μ')) (ix_firstBehind_L4 a1 (fun r μ' => r.elim (Q (some (.inr (.inr none))) μ') (fun o => Q (some (.inr (.inr (some (9, o))))) μ')) n4) none x3 x4 x5 μ | [_, _, some (.inr (.inr (some (c2, x2)))), some (.inl x3), some (.inr (.inr (some (c4, x4)))), some (.inl x5)], [] => c4 = 9 ∧ ix_firstBehind_B56 a1 (fun r μ' => r.elim (Q (some (.inr (.inr none))) μ') (fun o => Q (some (.inr (.inr (some (9, o))))) μ')) (ix_firstBehind_L4 a1 (fun r μ' => r.elim (Q (some (.inr (.inr none))) μ') (fun o => Q (some (.inr (.inr (some (9, o))))) μ')) n4) (some (c2, x2)) x3 x4 x5 μ | _, _ => False) (by
                  intro lv st μ h
                  split at h
                  · obtain ⟨rfl, h⟩ := h; exact h
                  · obtain ⟨rfl, rfl, h⟩ := h; exact h
                  · exact h.elim)
              refine ⟨_, v56, ?_⟩
              intro lv st μ h
              split at h
              · exact h
              · obtain ⟨rfl, h⟩ := h; exact h
              · exact h.elim)
          exact ⟨_, v4, h⟩
        next => exact h.elim
      next => exact h.elim
    next => exact h.elim
  next => exact h.elim
def sp_copyFrom (a0 : Nat) (a1 : Nat) (μ : sl_M) (Q : sl_M → Prop) : Prop := ∀ m1, m1 = sl_up μ a0 0 (μ a1 0) → sl_bz (sl_bz (m1 a1 1)) = (sl_bz (m1 a1 1)) ∧ ∀ m2, m2 = sl_up m1 a0 1 (sl_bz (m1 a1 1)) → ∀ m3, m3 = sl_up m2 a0 2 (m2 a1 2) → ∀ m4, m4 = sl_up m3 a0 3 (m3 a1 3) → ∀ m5, m5 = sl_up m4 a0 4 (m4 a1 4) → ∀ m6, m6 = sl_up m5 a0 5 (m5 a1 5) → Q m6
def sp_copyFrom_pt : sl_PT := fun As μ Q => match As with
  | [.inr (.inr (some (c0, a0))), .inr (.inr (some (c1, a1)))] => if c0 = 9 then (if c1 = 9 then (sp_copyFrom a0 a1 μ (fun μ' => Q none μ')) else False) else False
  | _ => False
def sp_copyFrom_cd : List sl_Ent := [(0, .aload_n 0, 1, 0, [0], [], false), (1, .aload_n 1, 1, 0, [1], [], false), (2, .getfield 9, 3, 0, [9, 0, 0, 0, 0], [], false), (5, .putfield 9, 3, 0, [9, 0, 0], [], false), (8, .aload_n 0, 1, 0, [0], [], false), (9, .aload_n 1, 1, 0, [1], [], false), (10, .getfield 15, 3, 0, [9, 1, 1, 0, 0], [], false), (13, .putfield 15, 3, 0, [9, 1, 1], [], false), (16, .aload_n 0, 1, 0, [0], [], false), (17, .aload_n 1, 1, 0, [1], [], false), (18, .getfield 19, 3, 0, [9, 2, 0, 0, 0], [], false), (21, .putfield 19, 3, 0, [9, 2, 0], [], false), (24, .aload_n 0, 1, 0, [0], [], false), (25, .aload_n 1, 1, 0, [1], [], false), (26, .getfield 22, 3, 0, [9, 3, 0, 0, 0], [], false), (29, .putfield 22, 3, 0, [9, 3, 0], [], false), (32, .aload_n 0, 1, 0, [0], [], false), (33, .aload_n 1, 1, 0, [1], [], false), (34, .getfield 25, 3, 0, [9, 4, 0, 0, 0], [], false), (37, .putfield 25, 3, 0, [9, 4, 0], [], false), (40, .aload_n 0, 1, 0, [0], [], false), (41, .aload_n 1, 1, 0, [1], [], false), (42, .getfield 28, 3, 0, [9, 5, 0, 0, 0], [], false), (45, .putfield 28, 3, 0, [9, 5, 0], [], false), (48, .return_, 1, 0, [], [], false)]
def sp_copyFrom_y : MethodName := ⟨"SpanLayers$Span", "copyFrom", "(LSpanLayers$Span;)V"⟩
theorem sp_copyFrom_tb : sl_tbOK sl_R9 prog_11_method_2_code 2 none lk_sp [] sp_copyFrom_cd = true := by decide +kernel
def sp_copyFrom_ct : List sl_Ct := []
theorem sp_copyFrom_hc (g : sl_G) : sl_HC g sl_R9 0 sp_copyFrom_ct [] := sl_HC_nil g sl_R9 0
set_option maxRecDepth 20000 in
set_option maxHeartbeats 2000000 in
theorem sp_copyFrom_snd (g : sl_G) : sl_Snd g sp_copyFrom_y prog_11_method_2_code 2 none 0 (sp_copyFrom_pt) := by
  intro As μ Q hw h
  unfold sp_copyFrom_pt at h
  split at h
  next c0 a0 c1 a1 =>
    split at h
    next e_ =>
      subst e_
      split at h
      next e_ =>
        subst e_
        refine sl_mk2 g [true, true] (cst := [some (.inr (.inr (some (9, a0)))), some (.inr (.inr (some (9, a1))))]) (lv0 := [none, none]) (by decide) rfl hw rfl rfl rfl lk_sp_ok (sp_copyFrom_hc g) sp_copyFrom_tb rfl ?_
        intro X M
        exact ⟨_, sl_VV0, h⟩
      next => exact h.elim
    next => exact h.elim
  next => exact h.elim
def cu_tell (a0 : Nat) (a1 : Nat) (μ : sl_M) (Q : sl_M → Prop) : Prop := sl_bz (1 : Int32) = (1 : Int32) ∧ ∀ m1, m1 = sl_up μ a0 2 (1 : Int32) → sp_copyFrom (a0 + 1) a1 m1 (fun m2 => Q m2)
def cu_tell_pt : sl_PT := fun As μ Q => match As with
  | [.inr (.inr (some (c0, a0))), .inr (.inr (some (c1, a1)))] => if c0 = 4 then (if c1 = 9 then (cu_tell a0 a1 μ (fun μ' => Q none μ')) else False) else False
  | _ => False
def cu_tell_cd : List sl_Ent := [(0, .aload_n 0, 1, 0, [0], [], false), (1, .iconst 1, 1, 1, [], [], false), (2, .putfield 26, 3, 0, [4, 2, 1], [], false), (5, .aload_n 0, 1, 0, [0], [], false), (6, .getfield 12, 3, 0, [4, 3, 2, 9, 1], [], false), (9, .aload_n 1, 1, 0, [1], [], false), (10, .invokevirtual 29, 3, 0, [0], [], false), (13, .return_, 1, 0, [], [], false)]
def cu_tell_y : MethodName := ⟨"SpanLayers$Cursor", "tell", "(LSpanLayers$Span;)V"⟩
theorem cu_tell_tb : sl_tbOK sl_R4 prog_6_method_3_code 2 none lk_cu [(29, 0)] cu_tell_cd = true := by decide +kernel
theorem sp_copyFrom_w2 : Cond.instanceMethod sp_copyFrom_y ∈ sl_T0 := sl_in1 595 (by decide +kernel) rfl
theorem sp_copyFrom_w3 : Cond.selects sp_copyFrom_y.cls sp_copyFrom_y sp_copyFrom_y ∈ sl_T0 := sl_in1 596 (by decide +kernel) rfl
theorem sp_copyFrom_w4 : Cond.initialized sp_copyFrom_y.cls ∈ sl_T0 := sl_in1 87 (by decide +kernel) rfl
theorem sp_copyFrom_w5 : Cond.code sp_copyFrom_y prog_11_method_2_code 2 none ∈ sl_T0 := sl_in1 597 (by decide +kernel) rfl
theorem sp_copyFrom_w6 : sp_copyFrom_y.cls ≠ "java/lang/invoke/MethodHandle" ∧ sp_copyFrom_y.cls ≠ "java/lang/invoke/VarHandle" ∧ (parseMethodDescriptor sp_copyFrom_y.desc).map (fun d => d.parameters.length) = some 1 := by decide +kernel
theorem cs_cu_29 (g : sl_G) {hh : Nat} (h : 1 ≤ hh) : sl_CallS g sl_R4 29 0 9 hh 2 sp_copyFrom_pt := sl_callV (y := sp_copyFrom_y) (T := sl_F9) (N := 6) (sp_copyFrom_snd g) h (by decide) (sl_in1 594 (by decide +kernel) rfl) sp_copyFrom_w2 sp_copyFrom_w3 sp_copyFrom_w4 sp_copyFrom_w5 sp_copyFrom_w6 rfl (by decide)
def cu_tell_ct : List sl_Ct := [(2, 0, 9, sp_copyFrom_pt)]
theorem cu_tell_hc (g : sl_G) : sl_HC g sl_R4 1 cu_tell_ct [(29, 0)] := sl_HC_cons (cs_cu_29 g (by decide)) (sl_HC_nil g sl_R4 1)
set_option maxRecDepth 20000 in
set_option maxHeartbeats 2000000 in
theorem cu_tell_snd (g : sl_G) : sl_Snd g cu_tell_y prog_6_method_3_code 2 none 1 (cu_tell_pt) := by
  intro As μ Q hw h
  unfold cu_tell_pt at h
  split at h
  next c0 a0 c1 a1 =>
    split at h
    next e_ =>
      subst e_
      split at h
      next e_ =>
        subst e_
        refine sl_mk2 g [true, true] (cst := [some (.inr (.inr (some (4, a0)))), some (.inr (.inr (some (9, a1))))]) (lv0 := [none, none]) (by decide) rfl hw rfl rfl rfl lk_cu_ok (cu_tell_hc g) cu_tell_tb rfl ?_
        intro X M
        exact ⟨_, sl_VV0, h⟩
      next => exact h.elim
    next => exact h.elim
  next => exact h.elim
def cv_readFrom_B102 (Q : sl_M → Prop) (k13 : Int32 → Int32 → sl_M → Prop) : Int32 → Int32 → Nat → sl_M → Prop
  | x2, x3, x4, μ => vp_in ((μ 34 3) - (1 : Int32)) 30 ∧ ma_max (μ 36 ((μ 34 3) - (1 : Int32)).toNatClampNeg) (μ x4 3) μ (fun r6 m5 => vp_in ((μ 34 3) - (1 : Int32)) 30 ∧ ∀ m7, m7 = sl_up m5 36 ((μ 34 3) - (1 : Int32)).toNatClampNeg r6 → vp_in ((m7 34 3) - (1 : Int32)) 30 ∧ vp_in ((m7 34 3) - (1 : Int32)) 30 ∧ ∀ m8, m8 = sl_up m7 37 ((m7 34 3) - (1 : Int32)).toNatClampNeg ((m7 37 ((m7 34 3) - (1 : Int32)).toNatClampNeg) + (1 : Int32)) → k13 x2 (x3 + (1 : Int32)) m8)
def cv_readFrom_B54 (Q : sl_M → Prop) (k13 : Int32 → Int32 → sl_M → Prop) : Int32 → Int32 → Nat → sl_M → Prop
  | x2, x3, x4, μ => vp_in (μ 34 3) 30 ∧ ∀ m1, m1 = sl_up μ 35 (μ 34 3).toNatClampNeg (μ x4 2) → vp_in (m1 34 3) 30 ∧ ∀ m2, m2 = sl_up m1 36 (m1 34 3).toNatClampNeg (m1 x4 3) → vp_in (m2 34 3) 30 ∧ ∀ m3, m3 = sl_up m2 37 (m2 34 3).toNatClampNeg (0 : Int32) → ∀ m4, m4 = sl_up m3 34 3 ((m3 34 3) + (1 : Int32)) → (9 : Nat) = 9 ∧ cv_readFrom_B102 Q k13 x2 x3 x4 m4
def cv_readFrom_L13 (Q : sl_M → Prop) : Nat → Int32 → Int32 → sl_M → Prop
  | 0, _, _, _ => False
  | n + 1, x2, x3, μ => (x3 < x2 → vp_in x3 30 ∧ sl_kd (μ 3 x3.toNatClampNeg).toNatClampNeg = 9 ∧ ((μ 34 3) = (0 : Int32) → (9 : Nat) = 9 ∧ cv_readFrom_B54 Q (cv_readFrom_L13 Q n) x2 x3 ((μ 3 x3.toNatClampNeg).toNatClampNeg) μ) ∧ (¬ (μ 34 3) = (0 : Int32) → vp_in ((μ 34 3) - (1 : Int32)) 30 ∧ ((μ ((μ 3 x3.toNatClampNeg).toNatClampNeg) 2) ≤ ((μ 36 ((μ 34 3) - (1 : Int32)).toNatClampNeg) + (1 : Int32)) → (9 : Nat) = 9 ∧ cv_readFrom_B102 Q (cv_readFrom_L13 Q n) x2 x3 ((μ 3 x3.toNatClampNeg).toNatClampNeg) μ) ∧ (¬ (μ ((μ 3 x3.toNatClampNeg).toNatClampNeg) 2) ≤ ((μ 36 ((μ 34 3) - (1 : Int32)).toNatClampNeg) + (1 : Int32)) → (9 : Nat) = 9 ∧ cv_readFrom_B54 Q (cv_readFrom_L13 Q n) x2 x3 ((μ 3 x3.toNatClampNeg).toNatClampNeg) μ))) ∧ (¬ x3 < x2 → Q μ)
def cv_readFrom (μ : sl_M) (Q : sl_M → Prop) : Prop := ix_sortBy (0 : Int32) μ (fun r10 m9 => ∀ m11, m11 = sl_up m9 34 3 (0 : Int32) → ∃ n12, cv_readFrom_L13 Q n12 r10 (0 : Int32) m11)
def cv_readFrom_pt : sl_PT := fun As μ Q => match As with
  | [.inr (.inr (some (c0, a0))), .inr (.inr (some (c1, a1)))] => if c0 = 3 then (if c1 = 5 then (if a0 = 34 then (if a1 = 1 then (cv_readFrom μ (fun μ' => Q none μ')) else False) else False) else False) else False
  | _ => False
def cv_readFrom_cd : List sl_Ent := [(0, .aload_n 1, 1, 0, [1], [], false), (1, .iconst 0, 1, 0, [], [], false), (2, .invokevirtual 21, 3, 0, [0], [], false), (5, .istore_n 2, 1, 0, [2], [], false), (6, .aload_n 0, 1, 0, [0], [], false), (7, .iconst 0, 1, 0, [], [], false), (8, .putfield 27, 3, 0, [3, 3, 0], [], false), (11, .iconst 0, 1, 0, [], [], false), (12, .istore_n 3, 1, 0, [3], [], false), (13, .iload_n 3, 1, 0, [3], [], true), (14, .iload_n 2, 1, 0, [2], [], false), (15, .if_icmp .ge 138, 3, 0, [153], [], false), (18, .aload_n 1, 1, 0, [1], [], false), (19, .getfield 31, 3, 0, [5, 1, 2, 23, 2], [], false), (22, .iload_n 3, 1, 0, [3], [], false), (23, .aaload, 1, 0, [], [], false), (24, .astore 4, 2, 0, [4], [], false), (26, .aload_n 0, 1, 0, [0], [], false), (27, .getfield 27, 3, 0, [3, 3, 0, 0, 0], [], false), (30, .ifCond .eq 24, 3, 0, [54], [], false), (33, .aload 4, 2, 0, [4], [], false), (35, .getfield 35, 3, 0, [9, 2, 0, 0, 0], [], false), (38, .aload_n 0, 1, 0, [0], [], false), (39, .getfield 15, 3, 0, [3, 1, 2, 20, 2], [], false), (42, .aload_n 0, 1, 0, [0], [], false), (43, .getfield 27, 3, 0, [3, 3, 0, 0, 0], [], false), (46, .iconst 1, 1, 1, [], [], false), (47, .isub, 1, 0, [], [], false), (48, .iaload, 1, 0, [], [], false), (49, .iconst 1, 1, 1, [], [], false), (50, .iadd, 1, 0, [], [], false), (51, .if_icmp .le 51, 3, 0, [102], [], false), (54, .aload_n 0, 1, 0, [0], [], true), (55, .getfield 9, 3, 0, [3, 0, 2, 20, 1], [], false), (58, .aload_n 0, 1, 0, [0], [], false), (59, .getfield 27, 3, 0, [3, 3, 0, 0, 0], [], false), (62, .aload 4, 2, 0, [4], [], false), (64, .getfield 35, 3, 0, [9, 2, 0, 0, 0], [], false), (67, .iastore, 1, 0, [], [], false), (68, .aload_n 0, 1, 0, [0], [], false), (69, .getfield 15, 3, 0, [3, 1, 2, 20, 2], [], false), (72, .aload_n 0, 1, 0, [0], [], false), (73, .getfield 27, 3, 0, [3, 3, 0, 0, 0], [], false), (76, .aload 4, 2, 0, [4], [], false), (78, .getfield 40, 3, 0, [9, 3, 0, 0, 0], [], false), (81, .iastore, 1, 0, [], [], false), (82, .aload_n 0, 1, 0, [0], [], false), (83, .getfield 18, 3, 0, [3, 2, 2, 20, 3], [], false), (86, .aload_n 0, 1, 0, [0], [], false), (87, .getfield 27, 3, 0, [3, 3, 0, 0, 0], [], false), (90, .iconst 0, 1, 0, [], [], false), (91, .iastore, 1, 0, [], [], false), (92, .aload_n 0, 1, 0, [0], [], false), (93, .dup, 1, 0, [], [], false), (94, .getfield 27, 3, 0, [3, 3, 0, 0, 0], [], false), (97, .iconst 1, 1, 1, [], [], false), (98, .iadd, 1, 0, [], [], false), (99, .putfield 27, 3, 0, [3, 3, 0], [], false), (102, .aload_n 0, 1, 0, [0], [], true), (103, .getfield 15, 3, 0, [3, 1, 2, 20, 2], [], false), (106, .aload_n 0, 1, 0, [0], [], false), (107, .getfield 27, 3, 0, [3, 3, 0, 0, 0], [], false), (110, .iconst 1, 1, 1, [], [], false), (111, .isub, 1, 0, [], [], false), (112, .aload_n 0, 1, 0, [0], [], false), (113, .getfield 15, 3, 0, [3, 1, 2, 20, 2], [], false), (116, .aload_n 0, 1, 0, [0], [], false), (117, .getfield 27, 3, 0, [3, 3, 0, 0, 0], [], false), (120, .iconst 1, 1, 1, [], [], false), (121, .isub, 1, 0, [], [], false), (122, .iaload, 1, 0, [], [], false), (123, .aload 4, 2, 0, [4], [], false), (125, .getfield 40, 3, 0, [9, 3, 0, 0, 0], [], false), (128, .invokestatic 43, 3, 0, [1], [], false), (131, .iastore, 1, 0, [], [], false), (132, .aload_n 0, 1, 0, [0], [], false), (133, .getfield 18, 3, 0, [3, 2, 2, 20, 3], [], false), (136, .aload_n 0, 1, 0, [0], [], false), (137, .getfield 27, 3, 0, [3, 3, 0, 0, 0], [], false), (140, .iconst 1, 1, 1, [], [], false), (141, .isub, 1, 0, [], [], false), (142, .dup2, 1, 0, [], [], false), (143, .iaload, 1, 0, [], [], false), (144, .iconst 1, 1, 1, [], [], false), (145, .iadd, 1, 0, [], [], false), (146, .iastore, 1, 0, [], [], false), (147, .iinc 3 1, 3, 1, [], [], false), (150, .goto (-137), 3, 0, [13], [], false), (153, .return_, 1, 0, [], [], false)]
def cv_readFrom_y : MethodName := ⟨"SpanLayers$Coverage", "readFrom", "(LSpanLayers$Index;)V"⟩
theorem cv_readFrom_tb : sl_tbOK sl_R3 prog_5_method_2_code 5 none lk_cv [(21, 0), (43, 1)] cv_readFrom_cd = true := by decide +kernel
theorem cs_cv_21 (g : sl_G) {hh : Nat} (h : 4 ≤ hh) : sl_CallS g sl_R3 21 0 5 hh 2 ix_sortBy_pt := sl_callV (y := ix_sortBy_y) (T := sl_F5) (N := 2) (ix_sortBy_snd g) h (by decide) (sl_in1 610 (by decide +kernel) rfl) ix_sortBy_w2 ix_sortBy_w3 ix_sortBy_w4 ix_sortBy_w5 ix_sortBy_w6 rfl (by decide)
theorem cs_cv_43 (g : sl_G) {hh : Nat} (h : 1 ≤ hh) : sl_CallS g sl_R3 43 1 0 hh 2 ma_max_pt := sl_callMax h (sl_in1 611 (by decide +kernel) rfl) (sl_in1 447 (by decide +kernel) rfl) (sl_in1 98 (by decide +kernel) rfl) (sl_in1 448 (by decide +kernel) rfl)
def cv_readFrom_ct : List sl_Ct := [(2, 0, 5, ix_sortBy_pt), (2, 1, 0, ma_max_pt)]
theorem cv_readFrom_hc (g : sl_G) : sl_HC g sl_R3 4 cv_readFrom_ct [(21, 0), (43, 1)] := sl_HC_cons (cs_cv_21 g (by decide)) (sl_HC_cons (cs_cv_43 g (by decide)) (sl_HC_nil g sl_R3 4))
set_option maxRecDepth 20000 in
set_option maxHeartbeats 2000000 in
theorem cv_readFrom_snd (g : sl_G) : sl_Snd g cv_readFrom_y prog_5_method_2_code 5 none 4 (cv_readFrom_pt) := by
  intro As μ Q hw h
  unfold cv_readFrom_pt at h
  split at h
  next c0 a0 c1 a1 =>
    split at h
    next e_ =>
      subst e_
      split at h
      next e_ =>
        subst e_
        split at h
        next e_ =>
          subst e_
          split at h
          next e_ =>
            subst e_
            refine sl_mk2 g [true, true, false, false, false] (cst := [some (.inr (.inr (some (3, 34)))), some (.inr (.inr (some (5, 1))))]) (lv0 := [none, none, none, none, none]) (by decide) rfl hw rfl rfl rfl lk_cv_ok (cv_readFrom_hc g) cv_readFrom_tb rfl ?_
            intro X M
            have v13 := sl_extL M sl_VV0 13 (fun n lv st μ => match lv, st with | [_, _, some (.inl x2), some (.inl x3), _], [] => cv_readFrom_L13 (fun μ' => Q none μ') n x2 x3 μ | _, _ => False) (by
                intro lv st μ h
                split at h
                · exact h
                · exact h) (by
                intro n13 w13
                have v102 := sl_ext M w13 102 (fun lv st μ => match lv, st with | [_, _, some (.inl x2), some (.inl x3), some (.inr (.inr (some (c4, x4))))], [] => c4 = 9 ∧ cv_readFrom_B102 (fun μ' => Q none μ') (cv_readFrom_L13 (fun μ' => Q none μ') n13) x2 x3 x4 μ | _, _ => False) (by
                    intro lv st μ h
                    split at h
                    · obtain ⟨rfl, h⟩ := h; exact h
                    · exact h.elim)
                have v54 := sl_ext M v102 54 (fun lv st μ => match lv, st with | [_, _, some (.inl x2), some (.inl x3), some (.inr (.inr (some (c4, x4))))], [] => c4 = 9 ∧ cv_readFrom_B54 (fun μ' => Q none μ') (cv_readFrom_L13 (fun μ' => Q none μ') n13) x2 x3 x4 μ | _, _ => False) (by
                    intro lv st μ h
                    split at h
                    · obtain ⟨rfl, h⟩ := h; exact h
                    · exact h.elim)
                refine ⟨_, v54, ?_⟩
                intro lv st μ h
                split at h
                · exact h
                · exact h.elim)
            exact ⟨_, v13, h⟩
          next => exact h.elim
        next => exact h.elim
      next => exact h.elim
    next => exact h.elim
  next => exact h.elim
def cv_sumOfPieces_L4 (Q : Int32 → sl_M → Prop) : Nat → Int32 → Int32 → sl_M → Prop
  | 0, _, _, _ => False
  | n + 1, x1, x2, μ => (x2 < (μ 34 3) → vp_in x2 30 ∧ vp_in x2 30 ∧ ∀ v1, v1 = (x1 + (((μ 36 x2.toNatClampNeg) - (μ 35 x2.toNatClampNeg)) + (1 : Int32))) → (cv_sumOfPieces_L4 Q n) v1 (x2 + (1 : Int32)) μ) ∧ (¬ x2 < (μ 34 3) → Q x1 μ)
def cv_sumOfPieces (μ : sl_M) (Q : Int32 → sl_M → Prop) : Prop := ∃ n2, cv_sumOfPieces_L4 Q n2 (0 : Int32) (0 : Int32) μ
def cv_sumOfPieces_pt : sl_PT := fun As μ Q => match As with
  | [.inr (.inr (some (c0, a0)))] => if c0 = 3 then (if a0 = 34 then (cv_sumOfPieces μ (fun r μ' => Q (some (.inl r)) μ')) else False) else False
  | _ => False
def cv_sumOfPieces_cd : List sl_Ent := [(0, .iconst 0, 1, 0, [], [], false), (1, .istore_n 1, 1, 0, [1], [], false), (2, .iconst 0, 1, 0, [], [], false), (3, .istore_n 2, 1, 0, [2], [], false), (4, .iload_n 2, 1, 0, [2], [], true), (5, .aload_n 0, 1, 0, [0], [], false), (6, .getfield 27, 3, 0, [3, 3, 0, 0, 0], [], false), (9, .if_icmp .ge 27, 3, 0, [36], [], false), (12, .iload_n 1, 1, 0, [1], [], false), (13, .aload_n 0, 1, 0, [0], [], false), (14, .getfield 15, 3, 0, [3, 1, 2, 20, 2], [], false), (17, .iload_n 2, 1, 0, [2], [], false), (18, .iaload, 1, 0, [], [], false), (19, .aload_n 0, 1, 0, [0], [], false), (20, .getfield 9, 3, 0, [3, 0, 2, 20, 1], [], false), (23, .iload_n 2, 1, 0, [2], [], false), (24, .iaload, 1, 0, [], [], false), (25, .isub, 1, 0, [], [], false), (26, .iconst 1, 1, 1, [], [], false), (27, .iadd, 1, 0, [], [], false), (28, .iadd, 1, 0, [], [], false), (29, .istore_n 1, 1, 0, [1, 1], [], false), (30, .iinc 2 1, 3, 1, [], [], false), (33, .goto (-29), 3, 0, [4], [], false), (36, .iload_n 1, 1, 0, [1], [], false), (37, .ireturn, 1, 0, [], [], false)]
def cv_sumOfPieces_y : MethodName := ⟨"SpanLayers$Coverage", "sumOfPieces", "()I"⟩
theorem cv_sumOfPieces_tb : sl_tbOK sl_R3 prog_5_method_5_code 3 (some .int) lk_cv [] cv_sumOfPieces_cd = true := by decide +kernel
def cv_sumOfPieces_ct : List sl_Ct := []
theorem cv_sumOfPieces_hc (g : sl_G) : sl_HC g sl_R3 0 cv_sumOfPieces_ct [] := sl_HC_nil g sl_R3 0
set_option maxRecDepth 20000 in
set_option maxHeartbeats 2000000 in
theorem cv_sumOfPieces_snd (g : sl_G) : sl_Snd g cv_sumOfPieces_y prog_5_method_5_code 3 (some .int) 0 (cv_sumOfPieces_pt) := by
  intro As μ Q hw h
  unfold cv_sumOfPieces_pt at h
  split at h
  next c0 a0 =>
    split at h
    next e_ =>
      subst e_
      split at h
      next e_ =>
        subst e_
        refine sl_mk2 g [true, false, false] (cst := [some (.inr (.inr (some (3, 34))))]) (lv0 := [none, none, none]) (by decide) rfl hw rfl rfl rfl lk_cv_ok (cv_sumOfPieces_hc g) cv_sumOfPieces_tb rfl ?_
        intro X M
        have v4 := sl_extL M sl_VV0 4 (fun n lv st μ => match lv, st with | [_, some (.inl x1), some (.inl x2)], [] => cv_sumOfPieces_L4 (fun r μ' => Q (some (.inl r)) μ') n x1 x2 μ | _, _ => False) (by
            intro lv st μ h
            split at h
            · exact h
            · exact h) (by
            intro n4 w4
            refine ⟨_, w4, ?_⟩
            intro lv st μ h
            split at h
            · exact h
            · exact h.elim)
        exact ⟨_, v4, h⟩
      next => exact h.elim
    next => exact h.elim
  next => exact h.elim
def cv_countHoles (μ : sl_M) (Q : Int32 → sl_M → Prop) : Prop := ma_max (0 : Int32) ((μ 34 3) - (1 : Int32)) μ (fun r2 m1 => Q r2 m1)
def cv_countHoles_pt : sl_PT := fun As μ Q => match As with
  | [.inr (.inr (some (c0, a0)))] => if c0 = 3 then (if a0 = 34 then (cv_countHoles μ (fun r μ' => Q (some (.inl r)) μ')) else False) else False
  | _ => False
def cv_countHoles_cd : List sl_Ent := [(0, .iconst 0, 1, 0, [], [], false), (1, .aload_n 0, 1, 0, [0], [], false), (2, .getfield 27, 3, 0, [3, 3, 0, 0, 0], [], false), (5, .iconst 1, 1, 1, [], [], false), (6, .isub, 1, 0, [], [], false), (7, .invokestatic 43, 3, 0, [0], [], false), (10, .ireturn, 1, 0, [], [], false)]
def cv_countHoles_y : MethodName := ⟨"SpanLayers$Coverage", "countHoles", "()I"⟩
theorem cv_countHoles_tb : sl_tbOK sl_R3 prog_5_method_3_code 1 (some .int) lk_cv [(43, 1)] cv_countHoles_cd = true := by decide +kernel
def cv_countHoles_ct : List sl_Ct := [(2, 1, 0, ma_max_pt)]
theorem cv_countHoles_hc (g : sl_G) : sl_HC g sl_R3 1 cv_countHoles_ct [(43, 1)] := sl_HC_cons (cs_cv_43 g (by decide)) (sl_HC_nil g sl_R3 1)
set_option maxRecDepth 20000 in
set_option maxHeartbeats 2000000 in
theorem cv_countHoles_snd (g : sl_G) : sl_Snd g cv_countHoles_y prog_5_method_3_code 1 (some .int) 1 (cv_countHoles_pt) := by
  intro As μ Q hw h
  unfold cv_countHoles_pt at h
  split at h
  next c0 a0 =>
    split at h
    next e_ =>
      subst e_
      split at h
      next e_ =>
        subst e_
        refine sl_mk2 g [true] (cst := [some (.inr (.inr (some (3, 34))))]) (lv0 := [none]) (by decide) rfl hw rfl rfl rfl lk_cv_ok (cv_countHoles_hc g) cv_countHoles_tb rfl ?_
        intro X M
        exact ⟨_, sl_VV0, h⟩
      next => exact h.elim
    next => exact h.elim
  next => exact h.elim
def cv_sumOfHoles_L4 (Q : Int32 → sl_M → Prop) : Nat → Int32 → Int32 → sl_M → Prop
  | 0, _, _, _ => False
  | n + 1, x1, x2, μ => (x2 < (μ 34 3) → vp_in x2 30 ∧ vp_in (x2 - (1 : Int32)) 30 ∧ ∀ v1, v1 = (x1 + (((μ 35 x2.toNatClampNeg) - (μ 36 (x2 - (1 : Int32)).toNatClampNeg)) - (1 : Int32))) → (cv_sumOfHoles_L4 Q n) v1 (x2 + (1 : Int32)) μ) ∧ (¬ x2 < (μ 34 3) → Q x1 μ)
def cv_sumOfHoles (μ : sl_M) (Q : Int32 → sl_M → Prop) : Prop := ∃ n2, cv_sumOfHoles_L4 Q n2 (0 : Int32) (1 : Int32) μ
def cv_sumOfHoles_pt : sl_PT := fun As μ Q => match As with
  | [.inr (.inr (some (c0, a0)))] => if c0 = 3 then (if a0 = 34 then (cv_sumOfHoles μ (fun r μ' => Q (some (.inl r)) μ')) else False) else False
  | _ => False
def cv_sumOfHoles_cd : List sl_Ent := [(0, .iconst 0, 1, 0, [], [], false), (1, .istore_n 1, 1, 0, [1], [], false), (2, .iconst 1, 1, 1, [], [], false), (3, .istore_n 2, 1, 0, [2], [], false), (4, .iload_n 2, 1, 0, [2], [], true), (5, .aload_n 0, 1, 0, [0], [], false), (6, .getfield 27, 3, 0, [3, 3, 0, 0, 0], [], false), (9, .if_icmp .ge 29, 3, 0, [38], [], false), (12, .iload_n 1, 1, 0, [1], [], false), (13, .aload_n 0, 1, 0, [0], [], false), (14, .getfield 9, 3, 0, [3, 0, 2, 20, 1], [], false), (17, .iload_n 2, 1, 0, [2], [], false), (18, .iaload, 1, 0, [], [], false), (19, .aload_n 0, 1, 0, [0], [], false), (20, .getfield 15, 3, 0, [3, 1, 2, 20, 2], [], false), (23, .iload_n 2, 1, 0, [2], [], false), (24, .iconst 1, 1, 1, [], [], false), (25, .isub, 1, 0, [], [], false), (26, .iaload, 1, 0, [], [], false), (27, .isub, 1, 0, [], [], false), (28, .iconst 1, 1, 1, [], [], false), (29, .isub, 1, 0, [], [], false), (30, .iadd, 1, 0, [], [], false), (31, .istore_n 1, 1, 0, [1, 1], [], false), (32, .iinc 2 1, 3, 1, [], [], false), (35, .goto (-31), 3, 0, [4], [], false), (38, .iload_n 1, 1, 0, [1], [], false), (39, .ireturn, 1, 0, [], [], false)]
def cv_sumOfHoles_y : MethodName := ⟨"SpanLayers$Coverage", "sumOfHoles", "()I"⟩
theorem cv_sumOfHoles_tb : sl_tbOK sl_R3 prog_5_method_6_code 3 (some .int) lk_cv [] cv_sumOfHoles_cd = true := by decide +kernel
def cv_sumOfHoles_ct : List sl_Ct := []
theorem cv_sumOfHoles_hc (g : sl_G) : sl_HC g sl_R3 0 cv_sumOfHoles_ct [] := sl_HC_nil g sl_R3 0
set_option maxRecDepth 20000 in
set_option maxHeartbeats 2000000 in
theorem cv_sumOfHoles_snd (g : sl_G) : sl_Snd g cv_sumOfHoles_y prog_5_method_6_code 3 (some .int) 0 (cv_sumOfHoles_pt) := by
  intro As μ Q hw h
  unfold cv_sumOfHoles_pt at h
  split at h
  next c0 a0 =>
    split at h
    next e_ =>
      subst e_
      split at h
      next e_ =>
        subst e_
        refine sl_mk2 g [true, false, false] (cst := [some (.inr (.inr (some (3, 34))))]) (lv0 := [none, none, none]) (by decide) rfl hw rfl rfl rfl lk_cv_ok (cv_sumOfHoles_hc g) cv_sumOfHoles_tb rfl ?_
        intro X M
        have v4 := sl_extL M sl_VV0 4 (fun n lv st μ => match lv, st with | [_, some (.inl x1), some (.inl x2)], [] => cv_sumOfHoles_L4 (fun r μ' => Q (some (.inl r)) μ') n x1 x2 μ | _, _ => False) (by
            intro lv st μ h
            split at h
            · exact h
            · exact h) (by
            intro n4 w4
            refine ⟨_, w4, ?_⟩
            intro lv st μ h
            split at h
            · exact h
            · exact h.elim)
        exact ⟨_, v4, h⟩
      next => exact h.elim
    next => exact h.elim
  next => exact h.elim
def cv_greatestHole_L4 (Q : Int32 → sl_M → Prop) : Nat → Int32 → Int32 → sl_M → Prop
  | 0, _, _, _ => False
  | n + 1, x1, x2, μ => (x2 < (μ 34 3) → vp_in x2 30 ∧ vp_in (x2 - (1 : Int32)) 30 ∧ ma_max x1 (((μ 35 x2.toNatClampNeg) - (μ 36 (x2 - (1 : Int32)).toNatClampNeg)) - (1 : Int32)) μ (fun r2 m1 => (cv_greatestHole_L4 Q n) r2 (x2 + (1 : Int32)) m1)) ∧ (¬ x2 < (μ 34 3) → Q x1 μ)
def cv_greatestHole (μ : sl_M) (Q : Int32 → sl_M → Prop) : Prop := ∃ n3, cv_greatestHole_L4 Q n3 (0 : Int32) (1 : Int32) μ
def cv_greatestHole_pt : sl_PT := fun As μ Q => match As with
  | [.inr (.inr (some (c0, a0)))] => if c0 = 3 then (if a0 = 34 then (cv_greatestHole μ (fun r μ' => Q (some (.inl r)) μ')) else False) else False
  | _ => False
def cv_greatestHole_cd : List sl_Ent := [(0, .iconst 0, 1, 0, [], [], false), (1, .istore_n 1, 1, 0, [1], [], false), (2, .iconst 1, 1, 1, [], [], false), (3, .istore_n 2, 1, 0, [2], [], false), (4, .iload_n 2, 1, 0, [2], [], true), (5, .aload_n 0, 1, 0, [0], [], false), (6, .getfield 27, 3, 0, [3, 3, 0, 0, 0], [], false), (9, .if_icmp .ge 31, 3, 0, [40], [], false), (12, .iload_n 1, 1, 0, [1], [], false), (13, .aload_n 0, 1, 0, [0], [], false), (14, .getfield 9, 3, 0, [3, 0, 2, 20, 1], [], false), (17, .iload_n 2, 1, 0, [2], [], false), (18, .iaload, 1, 0, [], [], false), (19, .aload_n 0, 1, 0, [0], [], false), (20, .getfield 15, 3, 0, [3, 1, 2, 20, 2], [], false), (23, .iload_n 2, 1, 0, [2], [], false), (24, .iconst 1, 1, 1, [], [], false), (25, .isub, 1, 0, [], [], false), (26, .iaload, 1, 0, [], [], false), (27, .isub, 1, 0, [], [], false), (28, .iconst 1, 1, 1, [], [], false), (29, .isub, 1, 0, [], [], false), (30, .invokestatic 43, 3, 0, [0], [], false), (33, .istore_n 1, 1, 0, [1], [], false), (34, .iinc 2 1, 3, 1, [], [], false), (37, .goto (-33), 3, 0, [4], [], false), (40, .iload_n 1, 1, 0, [1], [], false), (41, .ireturn, 1, 0, [], [], false)]
def cv_greatestHole_y : MethodName := ⟨"SpanLayers$Coverage", "greatestHole", "()I"⟩
theorem cv_greatestHole_tb : sl_tbOK sl_R3 prog_5_method_7_code 3 (some .int) lk_cv [(43, 1)] cv_greatestHole_cd = true := by decide +kernel
def cv_greatestHole_ct : List sl_Ct := [(2, 1, 0, ma_max_pt)]
theorem cv_greatestHole_hc (g : sl_G) : sl_HC g sl_R3 1 cv_greatestHole_ct [(43, 1)] := sl_HC_cons (cs_cv_43 g (by decide)) (sl_HC_nil g sl_R3 1)
set_option maxRecDepth 20000 in
set_option maxHeartbeats 2000000 in
theorem cv_greatestHole_snd (g : sl_G) : sl_Snd g cv_greatestHole_y prog_5_method_7_code 3 (some .int) 1 (cv_greatestHole_pt) := by
  intro As μ Q hw h
  unfold cv_greatestHole_pt at h
  split at h
  next c0 a0 =>
    split at h
    next e_ =>
      subst e_
      split at h
      next e_ =>
        subst e_
        refine sl_mk2 g [true, false, false] (cst := [some (.inr (.inr (some (3, 34))))]) (lv0 := [none, none, none]) (by decide) rfl hw rfl rfl rfl lk_cv_ok (cv_greatestHole_hc g) cv_greatestHole_tb rfl ?_
        intro X M
        have v4 := sl_extL M sl_VV0 4 (fun n lv st μ => match lv, st with | [_, some (.inl x1), some (.inl x2)], [] => cv_greatestHole_L4 (fun r μ' => Q (some (.inl r)) μ') n x1 x2 μ | _, _ => False) (by
            intro lv st μ h
            split at h
            · exact h
            · exact h) (by
            intro n4 w4
            refine ⟨_, w4, ?_⟩
            intro lv st μ h
            split at h
            · exact h
            · exact h.elim)
        exact ⟨_, v4, h⟩
      next => exact h.elim
    next => exact h.elim
  next => exact h.elim
def cv_total (a1 : Int32) (μ : sl_M) (Q : Int32 → sl_M → Prop) : Prop := (a1 = (0 : Int32) → cv_sumOfPieces μ (fun r2 m1 => Q r2 m1)) ∧ (¬ a1 = (0 : Int32) → (a1 = (1 : Int32) → Q (μ 34 3) μ) ∧ (¬ a1 = (1 : Int32) → (a1 = (2 : Int32) → cv_countHoles μ (fun r4 m3 => Q r4 m3)) ∧ (¬ a1 = (2 : Int32) → (a1 = (3 : Int32) → cv_sumOfHoles μ (fun r6 m5 => Q r6 m5)) ∧ (¬ a1 = (3 : Int32) → cv_greatestHole μ (fun r8 m7 => Q r8 m7)))))
def cv_total_pt : sl_PT := fun As μ Q => match As with
  | [.inr (.inr (some (c0, a0))), .inl a1] => if c0 = 3 then (if a0 = 34 then (cv_total a1 μ (fun r μ' => Q (some (.inl r)) μ')) else False) else False
  | _ => False
def cv_total_cd : List sl_Ent := [(0, .iload_n 1, 1, 0, [1], [], false), (1, .tableswitch 51 0 3 #[31, 36, 41, 46], 31, 0, [52], [(0, 32), (1, 37), (2, 42), (3, 47)], false), (32, .aload_n 0, 1, 0, [0], [], false), (33, .invokevirtual 49, 3, 0, [0], [], false), (36, .ireturn, 1, 0, [], [], false), (37, .aload_n 0, 1, 0, [0], [], false), (38, .getfield 27, 3, 0, [3, 3, 0, 0, 0], [], false), (41, .ireturn, 1, 0, [], [], false), (42, .aload_n 0, 1, 0, [0], [], false), (43, .invokevirtual 53, 3, 0, [1], [], false), (46, .ireturn, 1, 0, [], [], false), (47, .aload_n 0, 1, 0, [0], [], false), (48, .invokevirtual 56, 3, 0, [2], [], false), (51, .ireturn, 1, 0, [], [], false), (52, .aload_n 0, 1, 0, [0], [], false), (53, .invokevirtual 59, 3, 0, [3], [], false), (56, .ireturn, 1, 0, [], [], false)]
def cv_total_y : MethodName := ⟨"SpanLayers$Coverage", "total", "(I)I"⟩
theorem cv_total_tb : sl_tbOK sl_R3 prog_5_method_4_code 2 (some .int) lk_cv [(49, 0), (53, 0), (56, 0), (59, 0)] cv_total_cd = true := by decide +kernel
theorem cv_sumOfPieces_w2 : Cond.instanceMethod cv_sumOfPieces_y ∈ sl_T0 := sl_in1 618 (by decide +kernel) rfl
theorem cv_sumOfPieces_w3 : Cond.selects cv_sumOfPieces_y.cls cv_sumOfPieces_y cv_sumOfPieces_y ∈ sl_T0 := sl_in1 6 (by decide +kernel) rfl
theorem cv_sumOfPieces_w4 : Cond.initialized cv_sumOfPieces_y.cls ∈ sl_T0 := sl_in1 88 (by decide +kernel) rfl
theorem cv_sumOfPieces_w5 : Cond.code cv_sumOfPieces_y prog_5_method_5_code 3 (some .int) ∈ sl_T0 := sl_in1 619 (by decide +kernel) rfl
theorem cv_sumOfPieces_w6 : cv_sumOfPieces_y.cls ≠ "java/lang/invoke/MethodHandle" ∧ cv_sumOfPieces_y.cls ≠ "java/lang/invoke/VarHandle" ∧ (parseMethodDescriptor cv_sumOfPieces_y.desc).map (fun d => d.parameters.length) = some 0 := by decide +kernel
theorem cs_cv_49 (g : sl_G) {hh : Nat} (h : 1 ≤ hh) : sl_CallS g sl_R3 49 0 3 hh 1 cv_sumOfPieces_pt := sl_callV (y := cv_sumOfPieces_y) (T := sl_F3) (N := 4) (cv_sumOfPieces_snd g) h (by decide) (sl_in1 616 (by decide +kernel) rfl) cv_sumOfPieces_w2 cv_sumOfPieces_w3 cv_sumOfPieces_w4 cv_sumOfPieces_w5 cv_sumOfPieces_w6 rfl (by decide)
theorem cv_countHoles_w2 : Cond.instanceMethod cv_countHoles_y ∈ sl_T0 := sl_in1 621 (by decide +kernel) rfl
theorem cv_countHoles_w3 : Cond.selects cv_countHoles_y.cls cv_countHoles_y cv_countHoles_y ∈ sl_T0 := sl_in1 622 (by decide +kernel) rfl
theorem cv_countHoles_w4 : Cond.initialized cv_countHoles_y.cls ∈ sl_T0 := sl_in1 88 (by decide +kernel) rfl
theorem cv_countHoles_w5 : Cond.code cv_countHoles_y prog_5_method_3_code 1 (some .int) ∈ sl_T0 := sl_in1 623 (by decide +kernel) rfl
theorem cv_countHoles_w6 : cv_countHoles_y.cls ≠ "java/lang/invoke/MethodHandle" ∧ cv_countHoles_y.cls ≠ "java/lang/invoke/VarHandle" ∧ (parseMethodDescriptor cv_countHoles_y.desc).map (fun d => d.parameters.length) = some 0 := by decide +kernel
theorem cs_cv_53 (g : sl_G) {hh : Nat} (h : 2 ≤ hh) : sl_CallS g sl_R3 53 0 3 hh 1 cv_countHoles_pt := sl_callV (y := cv_countHoles_y) (T := sl_F3) (N := 4) (cv_countHoles_snd g) h (by decide) (sl_in1 620 (by decide +kernel) rfl) cv_countHoles_w2 cv_countHoles_w3 cv_countHoles_w4 cv_countHoles_w5 cv_countHoles_w6 rfl (by decide)
theorem cv_sumOfHoles_w2 : Cond.instanceMethod cv_sumOfHoles_y ∈ sl_T0 := sl_in1 626 (by decide +kernel) rfl
theorem cv_sumOfHoles_w3 : Cond.selects cv_sumOfHoles_y.cls cv_sumOfHoles_y cv_sumOfHoles_y ∈ sl_T0 := sl_in1 7 (by decide +kernel) rfl
theorem cv_sumOfHoles_w4 : Cond.initialized cv_sumOfHoles_y.cls ∈ sl_T0 := sl_in1 88 (by decide +kernel) rfl
theorem cv_sumOfHoles_w5 : Cond.code cv_sumOfHoles_y prog_5_method_6_code 3 (some .int) ∈ sl_T0 := sl_in1 627 (by decide +kernel) rfl
theorem cv_sumOfHoles_w6 : cv_sumOfHoles_y.cls ≠ "java/lang/invoke/MethodHandle" ∧ cv_sumOfHoles_y.cls ≠ "java/lang/invoke/VarHandle" ∧ (parseMethodDescriptor cv_sumOfHoles_y.desc).map (fun d => d.parameters.length) = some 0 := by decide +kernel
theorem cs_cv_56 (g : sl_G) {hh : Nat} (h : 1 ≤ hh) : sl_CallS g sl_R3 56 0 3 hh 1 cv_sumOfHoles_pt := sl_callV (y := cv_sumOfHoles_y) (T := sl_F3) (N := 4) (cv_sumOfHoles_snd g) h (by decide) (sl_in1 624 (by decide +kernel) rfl) cv_sumOfHoles_w2 cv_sumOfHoles_w3 cv_sumOfHoles_w4 cv_sumOfHoles_w5 cv_sumOfHoles_w6 rfl (by decide)
theorem cv_greatestHole_w2 : Cond.instanceMethod cv_greatestHole_y ∈ sl_T0 := sl_in1 630 (by decide +kernel) rfl
theorem cv_greatestHole_w3 : Cond.selects cv_greatestHole_y.cls cv_greatestHole_y cv_greatestHole_y ∈ sl_T0 := sl_in1 8 (by decide +kernel) rfl
theorem cv_greatestHole_w4 : Cond.initialized cv_greatestHole_y.cls ∈ sl_T0 := sl_in1 88 (by decide +kernel) rfl
theorem cv_greatestHole_w5 : Cond.code cv_greatestHole_y prog_5_method_7_code 3 (some .int) ∈ sl_T0 := sl_in1 631 (by decide +kernel) rfl
theorem cv_greatestHole_w6 : cv_greatestHole_y.cls ≠ "java/lang/invoke/MethodHandle" ∧ cv_greatestHole_y.cls ≠ "java/lang/invoke/VarHandle" ∧ (parseMethodDescriptor cv_greatestHole_y.desc).map (fun d => d.parameters.length) = some 0 := by decide +kernel
theorem cs_cv_59 (g : sl_G) {hh : Nat} (h : 2 ≤ hh) : sl_CallS g sl_R3 59 0 3 hh 1 cv_greatestHole_pt := sl_callV (y := cv_greatestHole_y) (T := sl_F3) (N := 4) (cv_greatestHole_snd g) h (by decide) (sl_in1 628 (by decide +kernel) rfl) cv_greatestHole_w2 cv_greatestHole_w3 cv_greatestHole_w4 cv_greatestHole_w5 cv_greatestHole_w6 rfl (by decide)
def cv_total_ct : List sl_Ct := [(1, 0, 3, cv_sumOfPieces_pt), (1, 0, 3, cv_countHoles_pt), (1, 0, 3, cv_sumOfHoles_pt), (1, 0, 3, cv_greatestHole_pt)]
theorem cv_total_hc (g : sl_G) : sl_HC g sl_R3 2 cv_total_ct [(49, 0), (53, 0), (56, 0), (59, 0)] := sl_HC_cons (cs_cv_49 g (by decide)) (sl_HC_cons (cs_cv_53 g (by decide)) (sl_HC_cons (cs_cv_56 g (by decide)) (sl_HC_cons (cs_cv_59 g (by decide)) (sl_HC_nil g sl_R3 2))))
set_option maxRecDepth 20000 in
set_option maxHeartbeats 2000000 in
theorem cv_total_snd (g : sl_G) : sl_Snd g cv_total_y prog_5_method_4_code 2 (some .int) 2 (cv_total_pt) := by
  intro As μ Q hw h
  unfold cv_total_pt at h
  split at h
  next c0 a0 a1 =>
    split at h
    next e_ =>
      subst e_
      split at h
      next e_ =>
        subst e_
        refine sl_mk2 g [true, true] (cst := [some (.inr (.inr (some (3, 34)))), some (.inl a1)]) (lv0 := [none, none]) (by decide) rfl hw rfl rfl rfl lk_cv_ok (cv_total_hc g) cv_total_tb rfl ?_
        intro X M
        exact ⟨_, sl_VV0, h⟩
      next => exact h.elim
    next => exact h.elim
  next => exact h.elim
def sp_heightBy (a0 : Nat) (a1 : Int32) (μ : sl_M) (Q : Int32 → sl_M → Prop) : Prop := (a1 = (0 : Int32) → Q (1 : Int32) μ) ∧ (¬ a1 = (0 : Int32) → (a1 = (1 : Int32) → Q (μ a0 4) μ) ∧ (¬ a1 = (1 : Int32) → Q (-(μ a0 4)) μ))
def sp_heightBy_pt : sl_PT := fun As μ Q => match As with
  | [.inr (.inr (some (c0, a0))), .inl a1] => if c0 = 9 then (sp_heightBy a0 a1 μ (fun r μ' => Q (some (.inl r)) μ')) else False
  | _ => False
def sp_heightBy_cd : List sl_Ent := [(0, .iload_n 1, 1, 0, [1], [], false), (1, .lookupswitch 34 #[(0, 27), (1, 29)], 27, 0, [35], [(0, 28), (1, 30)], false), (28, .iconst 1, 1, 1, [], [], false), (29, .ireturn, 1, 0, [], [], false), (30, .aload_n 0, 1, 0, [0], [], false), (31, .getfield 25, 3, 0, [9, 4, 0, 0, 0], [], false), (34, .ireturn, 1, 0, [], [], false), (35, .aload_n 0, 1, 0, [0], [], false), (36, .getfield 25, 3, 0, [9, 4, 0, 0, 0], [], false), (39, .ineg, 1, 0, [], [], false), (40, .ireturn, 1, 0, [], [], false)]
def sp_heightBy_y : MethodName := ⟨"SpanLayers$Span", "heightBy", "(I)I"⟩
theorem sp_heightBy_tb : sl_tbOK sl_R9 prog_11_method_11_code 2 (some .int) lk_sp [] sp_heightBy_cd = true := by decide +kernel
def sp_heightBy_ct : List sl_Ct := []
theorem sp_heightBy_hc (g : sl_G) : sl_HC g sl_R9 0 sp_heightBy_ct [] := sl_HC_nil g sl_R9 0
set_option maxRecDepth 20000 in
set_option maxHeartbeats 2000000 in
theorem sp_heightBy_snd (g : sl_G) : sl_Snd g sp_heightBy_y prog_11_method_11_code 2 (some .int) 0 (sp_heightBy_pt) := by
  intro As μ Q hw h
  unfold sp_heightBy_pt at h
  split at h
  next c0 a0 a1 =>
    split at h
    next e_ =>
      subst e_
      refine sl_mk2 g [true, true] (cst := [some (.inr (.inr (some (9, a0)))), some (.inl a1)]) (lv0 := [none, none]) (by decide) rfl hw rfl rfl rfl lk_sp_ok (sp_heightBy_hc g) sp_heightBy_tb rfl ?_
      intro X M
      exact ⟨_, sl_VV0, h⟩
    next => exact h.elim
  next => exact h.elim
def ix_heightAt_L5 (a1 : Int32) (a2 : Int32) (Q : Int32 → sl_M → Prop) : Nat → Int32 → Int32 → sl_M → Prop
  | 0, _, _, _ => False
  | n + 1, x3, x4, μ => (x4 < (30 : Int32) → vp_in x4 30 ∧ ((sl_bz (μ (4 + x4.toNatClampNeg) 1)) = (0 : Int32) → (ix_heightAt_L5 a1 a2 Q n) x3 (x4 + (1 : Int32)) μ) ∧ (¬ (sl_bz (μ (4 + x4.toNatClampNeg) 1)) = (0 : Int32) → vp_in x4 30 ∧ sp_meets (4 + x4.toNatClampNeg) a1 a1 μ (fun r2 m1 => (r2 = (0 : Int32) → (ix_heightAt_L5 a1 a2 Q n) x3 (x4 + (1 : Int32)) m1) ∧ (¬ r2 = (0 : Int32) → vp_in x4 30 ∧ sp_heightBy (4 + x4.toNatClampNeg) a2 m1 (fun r4 m3 => ∀ v5, v5 = (x3 + r4) → (ix_heightAt_L5 a1 a2 Q n) v5 (x4 + (1 : Int32)) m3))))) ∧ (¬ x4 < (30 : Int32) → Q x3 μ)
def ix_heightAt (a1 : Int32) (a2 : Int32) (μ : sl_M) (Q : Int32 → sl_M → Prop) : Prop := ∃ n6, ix_heightAt_L5 a1 a2 Q n6 (0 : Int32) (0 : Int32) μ
def ix_heightAt_pt : sl_PT := fun As μ Q => match As with
  | [.inr (.inr (some (c0, a0))), .inl a1, .inl a2] => if c0 = 5 then (if a0 = 1 then (ix_heightAt a1 a2 μ (fun r μ' => Q (some (.inl r)) μ')) else False) else False
  | _ => False
def ix_heightAt_cd : List sl_Ent := [(0, .iconst 0, 1, 0, [], [], false), (1, .istore_n 3, 1, 0, [3], [], false), (2, .iconst 0, 1, 0, [], [], false), (3, .istore 4, 2, 0, [4], [], false), (5, .iload 4, 2, 0, [4], [], true), (7, .bipush 30, 2, 30, [], [], false), (9, .if_icmp .ge 51, 3, 0, [60], [], false), (12, .aload_n 0, 1, 0, [0], [], false), (13, .getfield 11, 3, 0, [5, 0, 2, 22, 1], [], false), (16, .iload 4, 2, 0, [4], [], false), (18, .aaload, 1, 0, [], [], false), (19, .getfield 31, 3, 0, [9, 1, 1, 0, 0], [], false), (22, .ifCond .eq 32, 3, 0, [54], [], false), (25, .aload_n 0, 1, 0, [0], [], false), (26, .getfield 11, 3, 0, [5, 0, 2, 22, 1], [], false), (29, .iload 4, 2, 0, [4], [], false), (31, .aaload, 1, 0, [], [], false), (32, .iload_n 1, 1, 0, [1], [], false), (33, .iload_n 1, 1, 0, [1], [], false), (34, .invokevirtual 75, 3, 0, [0], [], false), (37, .ifCond .eq 17, 3, 0, [54], [], false), (40, .iload_n 3, 1, 0, [3], [], false), (41, .aload_n 0, 1, 0, [0], [], false), (42, .getfield 11, 3, 0, [5, 0, 2, 22, 1], [], false), (45, .iload 4, 2, 0, [4], [], false), (47, .aaload, 1, 0, [], [], false), (48, .iload_n 2, 1, 0, [2], [], false), (49, .invokevirtual 116, 3, 0, [1], [], false), (52, .iadd, 1, 0, [], [], false), (53, .istore_n 3, 1, 0, [3, 1], [], false), (54, .iinc 4 1, 3, 1, [], [], false), (57, .goto (-52), 3, 0, [5], [], false), (60, .iload_n 3, 1, 0, [3], [], false), (61, .ireturn, 1, 0, [], [], false)]
def ix_heightAt_y : MethodName := ⟨"SpanLayers$Index", "heightAt", "(II)I"⟩
theorem ix_heightAt_tb : sl_tbOK sl_R5 prog_7_method_21_code 5 (some .int) lk_ix [(75, 0), (116, 0)] ix_heightAt_cd = true := by decide +kernel
theorem sp_heightBy_w2 : Cond.instanceMethod sp_heightBy_y ∈ sl_T0 := sl_in1 650 (by decide +kernel) rfl
theorem sp_heightBy_w3 : Cond.selects sp_heightBy_y.cls sp_heightBy_y sp_heightBy_y ∈ sl_T0 := sl_in1 651 (by decide +kernel) rfl
theorem sp_heightBy_w4 : Cond.initialized sp_heightBy_y.cls ∈ sl_T0 := sl_in1 87 (by decide +kernel) rfl
theorem sp_heightBy_w5 : Cond.code sp_heightBy_y prog_11_method_11_code 2 (some .int) ∈ sl_T0 := sl_in1 652 (by decide +kernel) rfl
theorem sp_heightBy_w6 : sp_heightBy_y.cls ≠ "java/lang/invoke/MethodHandle" ∧ sp_heightBy_y.cls ≠ "java/lang/invoke/VarHandle" ∧ (parseMethodDescriptor sp_heightBy_y.desc).map (fun d => d.parameters.length) = some 1 := by decide +kernel
theorem cs_ix_116 (g : sl_G) {hh : Nat} (h : 1 ≤ hh) : sl_CallS g sl_R5 116 0 9 hh 2 sp_heightBy_pt := sl_callV (y := sp_heightBy_y) (T := sl_F9) (N := 6) (sp_heightBy_snd g) h (by decide) (sl_in1 649 (by decide +kernel) rfl) sp_heightBy_w2 sp_heightBy_w3 sp_heightBy_w4 sp_heightBy_w5 sp_heightBy_w6 rfl (by decide)
def ix_heightAt_ct : List sl_Ct := [(3, 0, 9, sp_meets_pt), (2, 0, 9, sp_heightBy_pt)]
theorem ix_heightAt_hc (g : sl_G) : sl_HC g sl_R5 1 ix_heightAt_ct [(75, 0), (116, 0)] := sl_HC_cons (cs_ix_75 g (by decide)) (sl_HC_cons (cs_ix_116 g (by decide)) (sl_HC_nil g sl_R5 1))
set_option maxRecDepth 20000 in
set_option maxHeartbeats 2000000 in
theorem ix_heightAt_snd (g : sl_G) : sl_Snd g ix_heightAt_y prog_7_method_21_code 5 (some .int) 1 (ix_heightAt_pt) := by
  intro As μ Q hw h
  unfold ix_heightAt_pt at h
  split at h
  next c0 a0 a1 a2 =>
    split at h
    next e_ =>
      subst e_
      split at h
      next e_ =>
        subst e_
        refine sl_mk2 g [true, true, true, false, false] (cst := [some (.inr (.inr (some (5, 1)))), some (.inl a1), some (.inl a2)]) (lv0 := [none, none, none, none, none]) (by decide) rfl hw rfl rfl rfl lk_ix_ok (ix_heightAt_hc g) ix_heightAt_tb rfl ?_
        intro X M
        have v5 := sl_extL M sl_VV0 5 (fun n lv st μ => match lv, st with | [_, _, _, some (.inl x3), some (.inl x4)], [] => ix_heightAt_L5 a1 a2 (fun r μ' => Q (some (.inl r)) μ') n x3 x4 μ | _, _ => False) (by
            intro lv st μ h
            split at h
            · exact h
            · exact h) (by
            intro n5 w5
            refine ⟨_, w5, ?_⟩
            intro lv st μ h
            split at h
            · exact h
            · exact h.elim)
        exact ⟨_, v5, h⟩
      next => exact h.elim
    next => exact h.elim
  next => exact h.elim
def ix_higherOf (a1 : Int32) (a2 : Int32) (a3 : Int32) (μ : sl_M) (Q : Int32 → sl_M → Prop) : Prop := (a2 ≤ (999 : Int32) → ix_heightAt a2 a3 μ (fun r2 m1 => ix_heightAt a1 a3 m1 (fun r4 m3 => ∀ v5, v5 = (r2 - r4) → (v5 ≤ (0 : Int32) → (v5 = (0 : Int32) → (a2 < a1 → Q a2 m3) ∧ (¬ a2 < a1 → Q a1 m3)) ∧ (¬ v5 = (0 : Int32) → Q a1 m3)) ∧ (¬ v5 ≤ (0 : Int32) → Q a2 m3)))) ∧ (¬ a2 ≤ (999 : Int32) → Q a1 μ)
def ix_higherOf_pt : sl_PT := fun As μ Q => match As with
  | [.inr (.inr (some (c0, a0))), .inl a1, .inl a2, .inl a3] => if c0 = 5 then (if a0 = 1 then (ix_higherOf a1 a2 a3 μ (fun r μ' => Q (some (.inl r)) μ')) else False) else False
  | _ => False
def ix_higherOf_cd : List sl_Ent := [(0, .iload_n 2, 1, 0, [2], [], false), (1, .sipush 999, 3, 999, [], [], false), (4, .if_icmp .le 5, 3, 0, [9], [], false), (7, .iload_n 1, 1, 0, [1], [], false), (8, .ireturn, 1, 0, [], [], false), (9, .aload_n 0, 1, 0, [0], [], false), (10, .iload_n 2, 1, 0, [2], [], false), (11, .iload_n 3, 1, 0, [3], [], false), (12, .invokevirtual 123, 3, 0, [0], [], false), (15, .aload_n 0, 1, 0, [0], [], false), (16, .iload_n 1, 1, 0, [1], [], false), (17, .iload_n 3, 1, 0, [3], [], false), (18, .invokevirtual 123, 3, 0, [0], [], false), (21, .isub, 1, 0, [], [], false), (22, .istore 4, 2, 0, [4, 1], [], false), (24, .iload 4, 2, 0, [4], [], false), (26, .ifCond .gt 13, 3, 0, [39], [], false), (29, .iload 4, 2, 0, [4], [], false), (31, .ifCond .ne 12, 3, 0, [43], [], false), (34, .iload_n 2, 1, 0, [2], [], false), (35, .iload_n 1, 1, 0, [1], [], false), (36, .if_icmp .ge 7, 3, 0, [43], [], false), (39, .iload_n 2, 1, 0, [2], [], false), (40, .goto 4, 3, 0, [44], [], false), (43, .iload_n 1, 1, 0, [1], [], false), (44, .ireturn, 1, 0, [], [], false)]
def ix_higherOf_y : MethodName := ⟨"SpanLayers$Index", "higherOf", "(III)I"⟩
theorem ix_higherOf_tb : sl_tbOK sl_R5 prog_7_method_23_code 5 (some .int) lk_ix [(123, 0)] ix_higherOf_cd = true := by decide +kernel
theorem ix_heightAt_w2 : Cond.instanceMethod ix_heightAt_y ∈ sl_T0 := sl_in1 646 (by decide +kernel) rfl
theorem ix_heightAt_w3 : Cond.selects ix_heightAt_y.cls ix_heightAt_y ix_heightAt_y ∈ sl_T0 := sl_in1 647 (by decide +kernel) rfl
theorem ix_heightAt_w4 : Cond.initialized ix_heightAt_y.cls ∈ sl_T0 := sl_in1 86 (by decide +kernel) rfl
theorem ix_heightAt_w5 : Cond.code ix_heightAt_y prog_7_method_21_code 5 (some .int) ∈ sl_T0 := sl_in1 648 (by decide +kernel) rfl
theorem ix_heightAt_w6 : ix_heightAt_y.cls ≠ "java/lang/invoke/MethodHandle" ∧ ix_heightAt_y.cls ≠ "java/lang/invoke/VarHandle" ∧ (parseMethodDescriptor ix_heightAt_y.desc).map (fun d => d.parameters.length) = some 2 := by decide +kernel
theorem cs_ix_123 (g : sl_G) {hh : Nat} (h : 2 ≤ hh) : sl_CallS g sl_R5 123 0 5 hh 3 ix_heightAt_pt := sl_callV (y := ix_heightAt_y) (T := sl_F5) (N := 2) (ix_heightAt_snd g) h (by decide) (sl_in1 665 (by decide +kernel) rfl) ix_heightAt_w2 ix_heightAt_w3 ix_heightAt_w4 ix_heightAt_w5 ix_heightAt_w6 rfl (by decide)
def ix_higherOf_ct : List sl_Ct := [(3, 0, 5, ix_heightAt_pt)]
theorem ix_higherOf_hc (g : sl_G) : sl_HC g sl_R5 2 ix_higherOf_ct [(123, 0)] := sl_HC_cons (cs_ix_123 g (by decide)) (sl_HC_nil g sl_R5 2)
set_option maxRecDepth 20000 in
set_option maxHeartbeats 2000000 in
theorem ix_higherOf_snd (g : sl_G) : sl_Snd g ix_higherOf_y prog_7_method_23_code 5 (some .int) 2 (ix_higherOf_pt) := by
  intro As μ Q hw h
  unfold ix_higherOf_pt at h
  split at h
  next c0 a0 a1 a2 a3 =>
    split at h
    next e_ =>
      subst e_
      split at h
      next e_ =>
        subst e_
        refine sl_mk2 g [true, true, true, true, false] (cst := [some (.inr (.inr (some (5, 1)))), some (.inl a1), some (.inl a2), some (.inl a3)]) (lv0 := [none, none, none, none, none]) (by decide) rfl hw rfl rfl rfl lk_ix_ok (ix_higherOf_hc g) ix_higherOf_tb rfl ?_
        intro X M
        exact ⟨_, sl_VV0, h⟩
      next => exact h.elim
    next => exact h.elim
  next => exact h.elim
def ix_topPlace_L4 (a1 : Int32) (Q : Int32 → sl_M → Prop) : Nat → Int32 → Int32 → sl_M → Prop
  | 0, _, _, _ => False
  | n + 1, x2, x3, μ => (x3 < (30 : Int32) → vp_in x3 30 ∧ ((sl_bz (μ (4 + x3.toNatClampNeg) 1)) = (0 : Int32) → (ix_topPlace_L4 a1 Q n) x2 (x3 + (1 : Int32)) μ) ∧ (¬ (sl_bz (μ (4 + x3.toNatClampNeg) 1)) = (0 : Int32) → vp_in x3 30 ∧ ix_higherOf x2 (μ (4 + x3.toNatClampNeg) 2) a1 μ (fun r2 m1 => vp_in x3 30 ∧ ix_higherOf r2 ((m1 (4 + x3.toNatClampNeg) 3) + (1 : Int32)) a1 m1 (fun r4 m3 => (ix_topPlace_L4 a1 Q n) r4 (x3 + (1 : Int32)) m3)))) ∧ (¬ x3 < (30 : Int32) → Q x2 μ)
def ix_topPlace (a1 : Int32) (μ : sl_M) (Q : Int32 → sl_M → Prop) : Prop := ∃ n5, ix_topPlace_L4 a1 Q n5 (0 : Int32) (0 : Int32) μ
def ix_topPlace_pt : sl_PT := fun As μ Q => match As with
  | [.inr (.inr (some (c0, a0))), .inl a1] => if c0 = 5 then (if a0 = 1 then (ix_topPlace a1 μ (fun r μ' => Q (some (.inl r)) μ')) else False) else False
  | _ => False
def ix_topPlace_cd : List sl_Ent := [(0, .iconst 0, 1, 0, [], [], false), (1, .istore_n 2, 1, 0, [2], [], false), (2, .iconst 0, 1, 0, [], [], false), (3, .istore_n 3, 1, 0, [3], [], false), (4, .iload_n 3, 1, 0, [3], [], true), (5, .bipush 30, 2, 30, [], [], false), (7, .if_icmp .ge 55, 3, 0, [62], [], false), (10, .aload_n 0, 1, 0, [0], [], false), (11, .getfield 11, 3, 0, [5, 0, 2, 22, 1], [], false), (14, .iload_n 3, 1, 0, [3], [], false), (15, .aaload, 1, 0, [], [], false), (16, .getfield 31, 3, 0, [9, 1, 1, 0, 0], [], false), (19, .ifCond .eq 37, 3, 0, [56], [], false), (22, .aload_n 0, 1, 0, [0], [], false), (23, .iload_n 2, 1, 0, [2], [], false), (24, .aload_n 0, 1, 0, [0], [], false), (25, .getfield 11, 3, 0, [5, 0, 2, 22, 1], [], false), (28, .iload_n 3, 1, 0, [3], [], false), (29, .aaload, 1, 0, [], [], false), (30, .getfield 35, 3, 0, [9, 2, 0, 0, 0], [], false), (33, .iload_n 1, 1, 0, [1], [], false), (34, .invokevirtual 119, 3, 0, [0], [], false), (37, .istore_n 2, 1, 0, [2], [], false), (38, .aload_n 0, 1, 0, [0], [], false), (39, .iload_n 2, 1, 0, [2], [], false), (40, .aload_n 0, 1, 0, [0], [], false), (41, .getfield 11, 3, 0, [5, 0, 2, 22, 1], [], false), (44, .iload_n 3, 1, 0, [3], [], false), (45, .aaload, 1, 0, [], [], false), (46, .getfield 39, 3, 0, [9, 3, 0, 0, 0], [], false), (49, .iconst 1, 1, 1, [], [], false), (50, .iadd, 1, 0, [], [], false), (51, .iload_n 1, 1, 0, [1], [], false), (52, .invokevirtual 119, 3, 0, [0], [], false), (55, .istore_n 2, 1, 0, [2], [], false), (56, .iinc 3 1, 3, 1, [], [], false), (59, .goto (-55), 3, 0, [4], [], false), (62, .iload_n 2, 1, 0, [2], [], false), (63, .ireturn, 1, 0, [], [], false)]
def ix_topPlace_y : MethodName := ⟨"SpanLayers$Index", "topPlace", "(I)I"⟩
theorem ix_topPlace_tb : sl_tbOK sl_R5 prog_7_method_22_code 4 (some .int) lk_ix [(119, 0)] ix_topPlace_cd = true := by decide +kernel
theorem ix_higherOf_w2 : Cond.instanceMethod ix_higherOf_y ∈ sl_T0 := sl_in1 663 (by decide +kernel) rfl
theorem ix_higherOf_w3 : Cond.selects ix_higherOf_y.cls ix_higherOf_y ix_higherOf_y ∈ sl_T0 := sl_in1 9 (by decide +kernel) rfl
theorem ix_higherOf_w4 : Cond.initialized ix_higherOf_y.cls ∈ sl_T0 := sl_in1 86 (by decide +kernel) rfl
theorem ix_higherOf_w5 : Cond.code ix_higherOf_y prog_7_method_23_code 5 (some .int) ∈ sl_T0 := sl_in1 664 (by decide +kernel) rfl
theorem ix_higherOf_w6 : ix_higherOf_y.cls ≠ "java/lang/invoke/MethodHandle" ∧ ix_higherOf_y.cls ≠ "java/lang/invoke/VarHandle" ∧ (parseMethodDescriptor ix_higherOf_y.desc).map (fun d => d.parameters.length) = some 3 := by decide +kernel
theorem cs_ix_119 (g : sl_G) {hh : Nat} (h : 3 ≤ hh) : sl_CallS g sl_R5 119 0 5 hh 4 ix_higherOf_pt := sl_callV (y := ix_higherOf_y) (T := sl_F5) (N := 2) (ix_higherOf_snd g) h (by decide) (sl_in1 661 (by decide +kernel) rfl) ix_higherOf_w2 ix_higherOf_w3 ix_higherOf_w4 ix_higherOf_w5 ix_higherOf_w6 rfl (by decide)
def ix_topPlace_ct : List sl_Ct := [(4, 0, 5, ix_higherOf_pt)]
theorem ix_topPlace_hc (g : sl_G) : sl_HC g sl_R5 3 ix_topPlace_ct [(119, 0)] := sl_HC_cons (cs_ix_119 g (by decide)) (sl_HC_nil g sl_R5 3)
set_option maxRecDepth 20000 in
set_option maxHeartbeats 2000000 in
theorem ix_topPlace_snd (g : sl_G) : sl_Snd g ix_topPlace_y prog_7_method_22_code 4 (some .int) 3 (ix_topPlace_pt) := by
  intro As μ Q hw h
  unfold ix_topPlace_pt at h
  split at h
  next c0 a0 a1 =>
    split at h
    next e_ =>
      subst e_
      split at h
      next e_ =>
        subst e_
        refine sl_mk2 g [true, true, false, false] (cst := [some (.inr (.inr (some (5, 1)))), some (.inl a1)]) (lv0 := [none, none, none, none]) (by decide) rfl hw rfl rfl rfl lk_ix_ok (ix_topPlace_hc g) ix_topPlace_tb rfl ?_
        intro X M
        have v4 := sl_extL M sl_VV0 4 (fun n lv st μ => match lv, st with | [_, _, some (.inl x2), some (.inl x3)], [] => ix_topPlace_L4 a1 (fun r μ' => Q (some (.inl r)) μ') n x2 x3 μ | _, _ => False) (by
            intro lv st μ h
            split at h
            · exact h
            · exact h) (by
            intro n4 w4
            refine ⟨_, w4, ?_⟩
            intro lv st μ h
            split at h
            · exact h
            · exact h.elim)
        exact ⟨_, v4, h⟩
      next => exact h.elim
    next => exact h.elim
  next => exact h.elim
def co_firstToEnd_L4 (a1 : Int32) (Q : Option Nat → sl_M → Prop) : Nat → Option (Nat × Nat) → Int32 → sl_M → Prop
  | 0, _, _, _ => False
  | n + 1, none, x3, μ => (x3 < (30 : Int32) → vp_in x3 30 ∧ ((sl_bz (μ (4 + x3.toNatClampNeg) 1)) = (0 : Int32) → (co_firstToEnd_L4 a1 Q n) none (x3 + (1 : Int32)) μ) ∧ (¬ (sl_bz (μ (4 + x3.toNatClampNeg) 1)) = (0 : Int32) → ((μ (4 + x3.toNatClampNeg) 2) ≤ a1 → (co_firstToEnd_L4 a1 Q n) none (x3 + (1 : Int32)) μ) ∧ (¬ (μ (4 + x3.toNatClampNeg) 2) ≤ a1 → (co_firstToEnd_L4 a1 Q n) (some (9, (4 + x3.toNatClampNeg))) (x3 + (1 : Int32)) μ))) ∧ (¬ x3 < (30 : Int32) → Q none μ)
  | n + 1, (some (c2, x2)), x3, μ => c2 = 9 ∧ (x3 < (30 : Int32) → vp_in x3 30 ∧ ((sl_bz (μ (4 + x3.toNatClampNeg) 1)) = (0 : Int32) → (co_firstToEnd_L4 a1 Q n) (some (9, x2)) (x3 + (1 : Int32)) μ) ∧ (¬ (sl_bz (μ (4 + x3.toNatClampNeg) 1)) = (0 : Int32) → ((μ (4 + x3.toNatClampNeg) 2) ≤ a1 → (co_firstToEnd_L4 a1 Q n) (some (9, x2)) (x3 + (1 : Int32)) μ) ∧ (¬ (μ (4 + x3.toNatClampNeg) 2) ≤ a1 → ((μ (4 + x3.toNatClampNeg) 3) < (μ x2 3) → (co_firstToEnd_L4 a1 Q n) (some (9, (4 + x3.toNatClampNeg))) (x3 + (1 : Int32)) μ) ∧ (¬ (μ (4 + x3.toNatClampNeg) 3) < (μ x2 3) → (co_firstToEnd_L4 a1 Q n) (some (9, x2)) (x3 + (1 : Int32)) μ)))) ∧ (¬ x3 < (30 : Int32) → Q (some x2) μ)
def co_firstToEnd (a1 : Int32) (μ : sl_M) (Q : Option Nat → sl_M → Prop) : Prop := ∃ n1, co_firstToEnd_L4 a1 Q n1 none (0 : Int32) μ
def co_firstToEnd_pt : sl_PT := fun As μ Q => match As with
  | [.inr (.inr (some (c0, a0))), .inl a1] => if c0 = 5 then (if a0 = 1 then (co_firstToEnd a1 μ (fun r μ' => r.elim (Q (some (.inr (.inr none))) μ') (fun o => Q (some (.inr (.inr (some (9, o))))) μ'))) else False) else False
  | _ => False
def co_firstToEnd_cd : List sl_Ent := [(0, .aconst_null, 1, 0, [], [], false), (1, .astore_n 2, 1, 0, [2], [], false), (2, .iconst 0, 1, 0, [], [], false), (3, .istore_n 3, 1, 0, [3], [], false), (4, .iload_n 3, 1, 0, [3], [], true), (5, .bipush 30, 2, 30, [], [], false), (7, .if_icmp .ge 53, 3, 0, [60], [], false), (10, .aload_n 0, 1, 0, [0], [], false), (11, .getfield 37, 3, 0, [5, 0, 2, 22, 1], [], false), (14, .iload_n 3, 1, 0, [3], [], false), (15, .aaload, 1, 0, [], [], false), (16, .astore 4, 2, 0, [4], [], false), (18, .aload 4, 2, 0, [4], [], false), (20, .getfield 43, 3, 0, [9, 1, 1, 0, 0], [], false), (23, .ifCond .eq 31, 3, 0, [54], [], false), (26, .aload 4, 2, 0, [4], [], false), (28, .getfield 47, 3, 0, [9, 2, 0, 0, 0], [], false), (31, .iload_n 1, 1, 0, [1], [], false), (32, .if_icmp .le 22, 3, 0, [54], [], false), (35, .aload_n 2, 1, 0, [2], [], false), (36, .ifnull 15, 3, 0, [51], [], false), (39, .aload 4, 2, 0, [4], [], false), (41, .getfield 34, 3, 0, [9, 3, 0, 0, 0], [], false), (44, .aload_n 2, 1, 0, [2], [], false), (45, .getfield 34, 3, 0, [9, 3, 0, 0, 0], [], false), (48, .if_icmp .ge 6, 3, 0, [54], [], false), (51, .aload 4, 2, 0, [4], [], false), (53, .astore_n 2, 1, 0, [2], [], false), (54, .iinc 3 1, 3, 1, [], [], false), (57, .goto (-53), 3, 0, [4], [], false), (60, .aload_n 2, 1, 0, [2], [], false), (61, .areturn, 1, 0, [], [], false)]
def co_firstToEnd_y : MethodName := ⟨"SpanLayers$Choice", "firstToEnd", "(LSpanLayers$Index;I)LSpanLayers$Span;"⟩
theorem co_firstToEnd_tb : sl_tbOK sl_R1 prog_3_method_3_code 5 (some (.object "SpanLayers$Span")) lk_co [] co_firstToEnd_cd = true := by decide +kernel
def co_firstToEnd_ct : List sl_Ct := []
theorem co_firstToEnd_hc (g : sl_G) : sl_HC g sl_R1 0 co_firstToEnd_ct [] := sl_HC_nil g sl_R1 0
set_option maxRecDepth 20000 in
set_option maxHeartbeats 2000000 in
theorem co_firstToEnd_snd (g : sl_G) : sl_Snd g co_firstToEnd_y prog_3_method_3_code 5 (some (.object "SpanLayers$Span")) 0 (co_firstToEnd_pt) := by
  intro As μ Q hw h
  unfold co_firstToEnd_pt at h
  split at h
  next c0 a0 a1 =>
    split at h
    next e_ =>
      subst e_
      split at h
      next e_ =>
        subst e_
        refine sl_mk2 g [true, true, false, false, false] (cst := [some (.inr (.inr (some (5, 1)))), some (.inl a1)]) (lv0 := [none, none, none, none, none]) (by decide) rfl hw rfl rfl rfl lk_co_ok (co_firstToEnd_hc g) co_firstToEnd_tb rfl ?_
        intro X M
        have v4 := sl_extL M sl_VV0 4 (fun n lv st μ => match lv, st with | [_, _, some (.inr (.inr none)), some (.inl x3), _], [] => co_firstToEnd_L4 a1 (fun r μ' => r.elim (Q (some (.inr (.inr none))) μ') (fun o => Q (some (.inr (.inr (some (9, o))))) μ')) n none x3 μ | [_, _, some (.inr (.inr (some (c2, x2)))), some (.inl x3), _], [] => co_firstToEnd_L4 a1 (fun r μ' => r.elim (Q (some (.inr (.inr none))) μ') (fun o => Q (some (.inr (.inr (some (9, o))))) μ')) n (some (c2, x2)) x3 μ | _, _ => False) (by
            intro lv st μ h
            split at h
            · exact h
            · exact h
            · exact h) (by
            intro n4 w4
            refine ⟨_, w4, ?_⟩
            intro lv st μ h
            split at h
            · exact h
            · obtain ⟨rfl, h⟩ := h; exact h
            · exact h.elim)
        exact ⟨_, v4, h⟩
      next => exact h.elim
    next => exact h.elim
  next => exact h.elim
def co_takeApart_L9 (Q : sl_M → Prop) : Nat → Int32 → Int32 → sl_M → Prop
  | 0, _, _, _ => False
  | n + 1, x2, x3, μ => (x3 < (30 : Int32) → co_firstToEnd x2 μ (fun r2 m1 => r2.elim (Q m1) (fun o3 => vp_in x3 30 ∧ ∀ m4, m4 = sl_up m1 39 x3.toNatClampNeg (m1 o3 0) → vp_in x3 30 ∧ ∀ m5, m5 = sl_up m4 40 x3.toNatClampNeg (m4 o3 3) → ∀ m6, m6 = sl_up m5 38 2 ((m5 38 2) + (1 : Int32)) → ∀ v7, v7 = (m6 o3 3) → (co_takeApart_L9 Q n) v7 (x3 + (1 : Int32)) m6))) ∧ (¬ x3 < (30 : Int32) → Q μ)
def co_takeApart (μ : sl_M) (Q : sl_M → Prop) : Prop := ∀ m8, m8 = sl_up μ 38 2 (0 : Int32) → ∃ n9, co_takeApart_L9 Q n9 (-1 : Int32) (0 : Int32) m8
def co_takeApart_pt : sl_PT := fun As μ Q => match As with
  | [.inr (.inr (some (c0, a0))), .inr (.inr (some (c1, a1)))] => if c0 = 1 then (if c1 = 5 then (if a0 = 38 then (if a1 = 1 then (co_takeApart μ (fun μ' => Q none μ')) else False) else False) else False) else False
  | _ => False
def co_takeApart_cd : List sl_Ent := [(0, .iconst (-1), 1, (-1), [], [], false), (1, .istore_n 2, 1, 0, [2], [], false), (2, .aload_n 0, 1, 0, [0], [], false), (3, .iconst 0, 1, 0, [], [], false), (4, .putfield 21, 3, 0, [1, 2, 0], [], false), (7, .iconst 0, 1, 0, [], [], false), (8, .istore_n 3, 1, 0, [3], [], false), (9, .iload_n 3, 1, 0, [3], [], true), (10, .bipush 30, 2, 30, [], [], false), (12, .if_icmp .ge 60, 3, 0, [72], [], false), (15, .aload_n 1, 1, 0, [1], [], false), (16, .iload_n 2, 1, 0, [2], [], false), (17, .invokestatic 25, 3, 0, [0], [], false), (20, .astore 4, 2, 0, [4], [], false), (22, .aload 4, 2, 0, [4], [], false), (24, .ifnonnull 4, 3, 0, [28], [], false), (27, .return_, 1, 0, [], [], false), (28, .aload_n 0, 1, 0, [0], [], false), (29, .getfield 9, 3, 0, [1, 0, 2, 20, 1], [], false), (32, .iload_n 3, 1, 0, [3], [], false), (33, .aload 4, 2, 0, [4], [], false), (35, .getfield 29, 3, 0, [9, 0, 0, 0, 0], [], false), (38, .iastore, 1, 0, [], [], false), (39, .aload_n 0, 1, 0, [0], [], false), (40, .getfield 15, 3, 0, [1, 1, 2, 20, 2], [], false), (43, .iload_n 3, 1, 0, [3], [], false), (44, .aload 4, 2, 0, [4], [], false), (46, .getfield 34, 3, 0, [9, 3, 0, 0, 0], [], false), (49, .iastore, 1, 0, [], [], false), (50, .aload_n 0, 1, 0, [0], [], false), (51, .dup, 1, 0, [], [], false), (52, .getfield 21, 3, 0, [1, 2, 0, 0, 0], [], false), (55, .iconst 1, 1, 1, [], [], false), (56, .iadd, 1, 0, [], [], false), (57, .putfield 21, 3, 0, [1, 2, 0], [], false), (60, .aload 4, 2, 0, [4], [], false), (62, .getfield 34, 3, 0, [9, 3, 0, 0, 0], [], false), (65, .istore_n 2, 1, 0, [2, 1], [], false), (66, .iinc 3 1, 3, 1, [], [], false), (69, .goto (-60), 3, 0, [9], [], false), (72, .return_, 1, 0, [], [], false)]
def co_takeApart_y : MethodName := ⟨"SpanLayers$Choice", "takeApart", "(LSpanLayers$Index;)V"⟩
theorem co_takeApart_tb : sl_tbOK sl_R1 prog_3_method_2_code 5 none lk_co [(25, 1)] co_takeApart_cd = true := by decide +kernel
theorem co_firstToEnd_w2 : Cond.static co_firstToEnd_y ∈ sl_T0 := sl_in1 675 (by decide +kernel) rfl
theorem co_firstToEnd_w4 : Cond.initialized co_firstToEnd_y.cls ∈ sl_T0 := sl_in1 89 (by decide +kernel) rfl
theorem co_firstToEnd_w5 : Cond.code co_firstToEnd_y prog_3_method_3_code 5 (some (.object "SpanLayers$Span")) ∈ sl_T0 := sl_in1 676 (by decide +kernel) rfl
theorem co_firstToEnd_w6 : co_firstToEnd_y.cls ≠ "java/lang/invoke/MethodHandle" ∧ co_firstToEnd_y.cls ≠ "java/lang/invoke/VarHandle" ∧ (parseMethodDescriptor co_firstToEnd_y.desc).map (fun d => d.parameters.length) = some 2 := by decide +kernel
theorem cs_co_25 (g : sl_G) {hh : Nat} (h : 1 ≤ hh) : sl_CallS g sl_R1 25 1 0 hh 2 co_firstToEnd_pt := sl_callS (y := co_firstToEnd_y) (co_firstToEnd_snd g) h (by decide) (sl_in1 674 (by decide +kernel) rfl) co_firstToEnd_w2 co_firstToEnd_w4 co_firstToEnd_w5 co_firstToEnd_w6
def co_takeApart_ct : List sl_Ct := [(2, 1, 0, co_firstToEnd_pt)]
theorem co_takeApart_hc (g : sl_G) : sl_HC g sl_R1 1 co_takeApart_ct [(25, 1)] := sl_HC_cons (cs_co_25 g (by decide)) (sl_HC_nil g sl_R1 1)
set_option maxRecDepth 20000 in
set_option maxHeartbeats 2000000 in
theorem co_takeApart_snd (g : sl_G) : sl_Snd g co_takeApart_y prog_3_method_2_code 5 none 1 (co_takeApart_pt) := by
  intro As μ Q hw h
  unfold co_takeApart_pt at h
  split at h
  next c0 a0 c1 a1 =>
    split at h
    next e_ =>
      subst e_
      split at h
      next e_ =>
        subst e_
        split at h
        next e_ =>
          subst e_
          split at h
          next e_ =>
            subst e_
            refine sl_mk2 g [true, true, false, false, false] (cst := [some (.inr (.inr (some (1, 38)))), some (.inr (.inr (some (5, 1))))]) (lv0 := [none, none, none, none, none]) (by decide) rfl hw rfl rfl rfl lk_co_ok (co_takeApart_hc g) co_takeApart_tb rfl ?_
            intro X M
            have v9 := sl_extL M sl_VV0 9 (fun n lv st μ => match lv, st with | [_, _, some (.inl x2), some (.inl x3), _], [] => co_takeApart_L9 (fun μ' => Q none μ') n x2 x3 μ | _, _ => False) (by
                intro lv st μ h
                split at h
                · exact h
                · exact h) (by
                intro n9 w9
                refine ⟨_, w9, ?_⟩
                intro lv st μ h
                split at h
                · exact h
                · exact h.elim)
            exact ⟨_, v9, h⟩
          next => exact h.elim
        next => exact h.elim
      next => exact h.elim
    next => exact h.elim
  next => exact h.elim
def co_heaviestOf_B60 (Q : Int32 → sl_M → Prop) (k17 : Int32 → Int32 → sl_M → Prop) : Int32 → Int32 → Int32 → sl_M → Prop
  | x2, x3, x4, μ => vp_in (x3 + (1 : Int32)) 31 ∧ vp_in x3 30 ∧ sl_kd (μ 3 x3.toNatClampNeg).toNatClampNeg = 9 ∧ vp_in x4 31 ∧ ma_max (μ 41 (x3 + (1 : Int32)).toNatClampNeg) ((μ ((μ 3 x3.toNatClampNeg).toNatClampNeg) 4) + (μ 41 x4.toNatClampNeg)) μ (fun r3 m2 => vp_in x3 31 ∧ ∀ m4, m4 = sl_up m2 41 x3.toNatClampNeg r3 → k17 x2 (x3 + (-1 : Int32)) m4)
def co_heaviestOf_L26 (Q : Int32 → sl_M → Prop) (k17 : Int32 → Int32 → sl_M → Prop) : Nat → Int32 → Int32 → Int32 → sl_M → Prop
  | 0, _, _, _, _ => False
  | n + 1, x2, x3, x4, μ => (x4 < x2 → vp_in x4 30 ∧ sl_kd (μ 3 x4.toNatClampNeg).toNatClampNeg = 9 ∧ vp_in x3 30 ∧ sl_kd (μ 3 x3.toNatClampNeg).toNatClampNeg = 9 ∧ ((μ ((μ 3 x4.toNatClampNeg).toNatClampNeg) 2) ≤ (μ ((μ 3 x3.toNatClampNeg).toNatClampNeg) 3) → (co_heaviestOf_L26 Q k17 n) x2 x3 (x4 + (1 : Int32)) μ) ∧ (¬ (μ ((μ 3 x4.toNatClampNeg).toNatClampNeg) 2) ≤ (μ ((μ 3 x3.toNatClampNeg).toNatClampNeg) 3) → co_heaviestOf_B60 Q k17 x2 x3 x4 μ)) ∧ (¬ x4 < x2 → co_heaviestOf_B60 Q k17 x2 x3 x4 μ)
def co_heaviestOf_L17 (Q : Int32 → sl_M → Prop) : Nat → Int32 → Int32 → sl_M → Prop
  | 0, _, _, _ => False
  | n + 1, x2, x3, μ => (x3 < (0 : Int32) → vp_in (0 : Int32) 31 ∧ Q (μ 41 (0 : Int32).toNatClampNeg) μ) ∧ (¬ x3 < (0 : Int32) → ∃ n1, co_heaviestOf_L26 Q (co_heaviestOf_L17 Q n) n1 x2 x3 (x3 + (1 : Int32)) μ)
def co_heaviestOf (μ : sl_M) (Q : Int32 → sl_M → Prop) : Prop := ix_sortBy (0 : Int32) μ (fun r6 m5 => vp_in r6 31 ∧ ∀ m7, m7 = sl_up m5 41 r6.toNatClampNeg (0 : Int32) → ∃ n8, co_heaviestOf_L17 Q n8 r6 (r6 - (1 : Int32)) m7)
def co_heaviestOf_pt : sl_PT := fun As μ Q => match As with
  | [.inr (.inr (some (c0, a0))), .inr (.inr (some (c1, a1)))] => if c0 = 1 then (if c1 = 5 then (if a0 = 38 then (if a1 = 1 then (co_heaviestOf μ (fun r μ' => Q (some (.inl r)) μ')) else False) else False) else False) else False
  | _ => False
def co_heaviestOf_cd : List sl_Ent := [(0, .aload_n 1, 1, 0, [1], [], false), (1, .iconst 0, 1, 0, [], [], false), (2, .invokevirtual 50, 3, 0, [0], [], false), (5, .istore_n 2, 1, 0, [2], [], false), (6, .aload_n 0, 1, 0, [0], [], false), (7, .getfield 18, 3, 0, [1, 3, 2, 20, 3], [], false), (10, .iload_n 2, 1, 0, [2], [], false), (11, .iconst 0, 1, 0, [], [], false), (12, .iastore, 1, 0, [], [], false), (13, .iload_n 2, 1, 0, [2], [], false), (14, .iconst 1, 1, 1, [], [], false), (15, .isub, 1, 0, [], [], false), (16, .istore_n 3, 1, 0, [3], [], false), (17, .iload_n 3, 1, 0, [3], [], true), (18, .ifCond .lt 82, 3, 0, [100], [], false), (21, .iload_n 3, 1, 0, [3], [], false), (22, .iconst 1, 1, 1, [], [], false), (23, .iadd, 1, 0, [], [], false), (24, .istore 4, 2, 0, [4], [], false), (26, .iload 4, 2, 0, [4], [], true), (28, .iload_n 2, 1, 0, [2], [], false), (29, .if_icmp .ge 31, 3, 0, [60], [], false), (32, .aload_n 1, 1, 0, [1], [], false), (33, .getfield 54, 3, 0, [5, 1, 2, 23, 2], [], false), (36, .iload 4, 2, 0, [4], [], false), (38, .aaload, 1, 0, [], [], false), (39, .getfield 47, 3, 0, [9, 2, 0, 0, 0], [], false), (42, .aload_n 1, 1, 0, [1], [], false), (43, .getfield 54, 3, 0, [5, 1, 2, 23, 2], [], false), (46, .iload_n 3, 1, 0, [3], [], false), (47, .aaload, 1, 0, [], [], false), (48, .getfield 34, 3, 0, [9, 3, 0, 0, 0], [], false), (51, .if_icmp .gt 9, 3, 0, [60], [], false), (54, .iinc 4 1, 3, 1, [], [], false), (57, .goto (-31), 3, 0, [26], [], false), (60, .aload_n 0, 1, 0, [0], [], true), (61, .getfield 18, 3, 0, [1, 3, 2, 20, 3], [], false), (64, .iload_n 3, 1, 0, [3], [], false), (65, .aload_n 0, 1, 0, [0], [], false), (66, .getfield 18, 3, 0, [1, 3, 2, 20, 3], [], false), (69, .iload_n 3, 1, 0, [3], [], false), (70, .iconst 1, 1, 1, [], [], false), (71, .iadd, 1, 0, [], [], false), (72, .iaload, 1, 0, [], [], false), (73, .aload_n 1, 1, 0, [1], [], false), (74, .getfield 54, 3, 0, [5, 1, 2, 23, 2], [], false), (77, .iload_n 3, 1, 0, [3], [], false), (78, .aaload, 1, 0, [], [], false), (79, .getfield 57, 3, 0, [9, 4, 0, 0, 0], [], false), (82, .aload_n 0, 1, 0, [0], [], false), (83, .getfield 18, 3, 0, [1, 3, 2, 20, 3], [], false), (86, .iload 4, 2, 0, [4], [], false), (88, .iaload, 1, 0, [], [], false), (89, .iadd, 1, 0, [], [], false), (90, .invokestatic 60, 3, 0, [1], [], false), (93, .iastore, 1, 0, [], [], false), (94, .iinc 3 (-1), 3, (-1), [], [], false), (97, .goto (-80), 3, 0, [17], [], false), (100, .aload_n 0, 1, 0, [0], [], false), (101, .getfield 18, 3, 0, [1, 3, 2, 20, 3], [], false), (104, .iconst 0, 1, 0, [], [], false), (105, .iaload, 1, 0, [], [], false), (106, .ireturn, 1, 0, [], [], false)]
def co_heaviestOf_y : MethodName := ⟨"SpanLayers$Choice", "heaviestOf", "(LSpanLayers$Index;)I"⟩
theorem co_heaviestOf_tb : sl_tbOK sl_R1 prog_3_method_4_code 5 (some .int) lk_co [(50, 0), (60, 1)] co_heaviestOf_cd = true := by decide +kernel
theorem cs_co_50 (g : sl_G) {hh : Nat} (h : 4 ≤ hh) : sl_CallS g sl_R1 50 0 5 hh 2 ix_sortBy_pt := sl_callV (y := ix_sortBy_y) (T := sl_F5) (N := 2) (ix_sortBy_snd g) h (by decide) (sl_in1 689 (by decide +kernel) rfl) ix_sortBy_w2 ix_sortBy_w3 ix_sortBy_w4 ix_sortBy_w5 ix_sortBy_w6 rfl (by decide)
theorem cs_co_60 (g : sl_G) {hh : Nat} (h : 1 ≤ hh) : sl_CallS g sl_R1 60 1 0 hh 2 ma_max_pt := sl_callMax h (sl_in1 690 (by decide +kernel) rfl) (sl_in1 447 (by decide +kernel) rfl) (sl_in1 98 (by decide +kernel) rfl) (sl_in1 448 (by decide +kernel) rfl)
def co_heaviestOf_ct : List sl_Ct := [(2, 0, 5, ix_sortBy_pt), (2, 1, 0, ma_max_pt)]
theorem co_heaviestOf_hc (g : sl_G) : sl_HC g sl_R1 4 co_heaviestOf_ct [(50, 0), (60, 1)] := sl_HC_cons (cs_co_50 g (by decide)) (sl_HC_cons (cs_co_60 g (by decide)) (sl_HC_nil g sl_R1 4))
set_option maxRecDepth 20000 in
set_option maxHeartbeats 2000000 in
theorem co_heaviestOf_snd (g : sl_G) : sl_Snd g co_heaviestOf_y prog_3_method_4_code 5 (some .int) 4 (co_heaviestOf_pt) := by
  intro As μ Q hw h
  unfold co_heaviestOf_pt at h
  split at h
  next c0 a0 c1 a1 =>
    split at h
    next e_ =>
      subst e_
      split at h
      next e_ =>
        subst e_
        split at h
        next e_ =>
          subst e_
          split at h
          next e_ =>
            subst e_
            refine sl_mk2 g [true, true, false, false, false] (cst := [some (.inr (.inr (some (1, 38)))), some (.inr (.inr (some (5, 1))))]) (lv0 := [none, none, none, none, none]) (by decide) rfl hw rfl rfl rfl lk_co_ok (co_heaviestOf_hc g) co_heaviestOf_tb rfl ?_
            intro X M
            have v17 := sl_extL M sl_VV0 17 (fun n lv st μ => match lv, st with | [_, _, some (.inl x2), some (.inl x3), _], [] => co_heaviestOf_L17 (fun r μ' => Q (some (.inl r)) μ') n x2 x3 μ | _, _ => False) (by
                intro lv st μ h
                split at h
                · exact h
                · exact h) (by
                intro n17 w17
                have v60 := sl_ext M w17 60 (fun lv st μ => match lv, st with | [_, _, some (.inl x2), some (.inl x3), some (.inl x4)], [] => co_heaviestOf_B60 (fun r μ' => Q (some (.inl r)) μ') (co_heaviestOf_L17 (fun r μ' => Q (some (.inl r)) μ') n17) x2 x3 x4 μ | _, _ => False) (by
                    intro lv st μ h
                    split at h
                    · exact h
                    · exact h.elim)
                have v26 := sl_extL M v60 26 (fun n lv st μ => match lv, st with | [_, _, some (.inl x2), some (.inl x3), some (.inl x4)], [] => co_heaviestOf_L26 (fun r μ' => Q (some (.inl r)) μ') (co_heaviestOf_L17 (fun r μ' => Q (some (.inl r)) μ') n17) n x2 x3 x4 μ | _, _ => False) (by
                    intro lv st μ h
                    split at h
                    · exact h
                    · exact h) (by
                    intro n26 w26
                    refine ⟨_, w26, ?_⟩
                    intro lv st μ h
                    split at h
                    · exact h
                    · exact h.elim)
                refine ⟨_, v26, ?_⟩
                intro lv st μ h
                split at h
                · exact h
                · exact h.elim)
            exact ⟨_, v17, h⟩
          next => exact h.elim
        next => exact h.elim
      next => exact h.elim
    next => exact h.elim
  next => exact h.elim
def ix_countHighs_L10 (Q : Int32 → sl_M → Prop) : Nat → Int32 → Int32 → Int32 → sl_M → Prop
  | 0, _, _, _, _ => False
  | n + 1, x1, x2, x3, μ => (x3 < x1 → (x3 = (0 : Int32) → ∀ v1, v1 = (x2 + (1 : Int32)) → (ix_countHighs_L10 Q n) x1 v1 (x3 + (1 : Int32)) μ) ∧ (¬ x3 = (0 : Int32) → vp_in x3 30 ∧ sl_kd (μ 3 x3.toNatClampNeg).toNatClampNeg = 9 ∧ vp_in (x3 - (1 : Int32)) 30 ∧ sl_kd (μ 3 (x3 - (1 : Int32)).toNatClampNeg).toNatClampNeg = 9 ∧ ((μ ((μ 3 x3.toNatClampNeg).toNatClampNeg) 3) = (μ ((μ 3 (x3 - (1 : Int32)).toNatClampNeg).toNatClampNeg) 3) → ∀ v2, v2 = (x2 + (0 : Int32)) → (ix_countHighs_L10 Q n) x1 v2 (x3 + (1 : Int32)) μ) ∧ (¬ (μ ((μ 3 x3.toNatClampNeg).toNatClampNeg) 3) = (μ ((μ 3 (x3 - (1 : Int32)).toNatClampNeg).toNatClampNeg) 3) → ∀ v3, v3 = (x2 + (1 : Int32)) → (ix_countHighs_L10 Q n) x1 v3 (x3 + (1 : Int32)) μ))) ∧ (¬ x3 < x1 → Q x2 μ)
def ix_countHighs (μ : sl_M) (Q : Int32 → sl_M → Prop) : Prop := ix_sortBy (1 : Int32) μ (fun r5 m4 => ∃ n6, ix_countHighs_L10 Q n6 r5 (0 : Int32) (0 : Int32) m4)
def ix_countHighs_pt : sl_PT := fun As μ Q => match As with
  | [.inr (.inr (some (c0, a0)))] => if c0 = 5 then (if a0 = 1 then (ix_countHighs μ (fun r μ' => Q (some (.inl r)) μ')) else False) else False
  | _ => False
def ix_countHighs_cd : List sl_Ent := [(0, .aload_n 0, 1, 0, [0], [], false), (1, .iconst 1, 1, 1, [], [], false), (2, .invokevirtual 51, 3, 0, [0], [], false), (5, .istore_n 1, 1, 0, [1], [], false), (6, .iconst 0, 1, 0, [], [], false), (7, .istore_n 2, 1, 0, [2], [], false), (8, .iconst 0, 1, 0, [], [], false), (9, .istore_n 3, 1, 0, [3], [], false), (10, .iload_n 3, 1, 0, [3], [], true), (11, .iload_n 1, 1, 0, [1], [], false), (12, .if_icmp .ge 44, 3, 0, [56], [], false), (15, .iload_n 2, 1, 0, [2], [], false), (16, .iload_n 3, 1, 0, [3], [], false), (17, .ifCond .eq 26, 3, 0, [43], [], false), (20, .aload_n 0, 1, 0, [0], [], false), (21, .getfield 17, 3, 0, [5, 1, 2, 23, 2], [], false), (24, .iload_n 3, 1, 0, [3], [], false), (25, .aaload, 1, 0, [], [], false), (26, .getfield 39, 3, 0, [9, 3, 0, 0, 0], [], false), (29, .aload_n 0, 1, 0, [0], [], false), (30, .getfield 17, 3, 0, [5, 1, 2, 23, 2], [], false), (33, .iload_n 3, 1, 0, [3], [], false), (34, .iconst 1, 1, 1, [], [], false), (35, .isub, 1, 0, [], [], false), (36, .aaload, 1, 0, [], [], false), (37, .getfield 39, 3, 0, [9, 3, 0, 0, 0], [], false), (40, .if_icmp .eq 7, 3, 0, [47], [], false), (43, .iconst 1, 1, 1, [], [], false), (44, .goto 4, 3, 0, [48], [], false), (47, .iconst 0, 1, 0, [], [], false), (48, .iadd, 1, 0, [], [], false), (49, .istore_n 2, 1, 0, [2, 1], [], false), (50, .iinc 3 1, 3, 1, [], [], false), (53, .goto (-43), 3, 0, [10], [], false), (56, .iload_n 2, 1, 0, [2], [], false), (57, .ireturn, 1, 0, [], [], false)]
def ix_countHighs_y : MethodName := ⟨"SpanLayers$Index", "countHighs", "()I"⟩
theorem ix_countHighs_tb : sl_tbOK sl_R5 prog_7_method_27_code 4 (some .int) lk_ix [(51, 0)] ix_countHighs_cd = true := by decide +kernel
def ix_countHighs_ct : List sl_Ct := [(2, 0, 5, ix_sortBy_pt)]
theorem ix_countHighs_hc (g : sl_G) : sl_HC g sl_R5 4 ix_countHighs_ct [(51, 0)] := sl_HC_cons (cs_ix_51 g (by decide)) (sl_HC_nil g sl_R5 4)
set_option maxRecDepth 20000 in
set_option maxHeartbeats 2000000 in
theorem ix_countHighs_snd (g : sl_G) : sl_Snd g ix_countHighs_y prog_7_method_27_code 4 (some .int) 4 (ix_countHighs_pt) := by
  intro As μ Q hw h
  unfold ix_countHighs_pt at h
  split at h
  next c0 a0 =>
    split at h
    next e_ =>
      subst e_
      split at h
      next e_ =>
        subst e_
        refine sl_mk2 g [true, false, false, false] (cst := [some (.inr (.inr (some (5, 1))))]) (lv0 := [none, none, none, none]) (by decide) rfl hw rfl rfl rfl lk_ix_ok (ix_countHighs_hc g) ix_countHighs_tb rfl ?_
        intro X M
        have v10 := sl_extL M sl_VV0 10 (fun n lv st μ => match lv, st with | [_, some (.inl x1), some (.inl x2), some (.inl x3)], [] => ix_countHighs_L10 (fun r μ' => Q (some (.inl r)) μ') n x1 x2 x3 μ | _, _ => False) (by
            intro lv st μ h
            split at h
            · exact h
            · exact h) (by
            intro n10 w10
            refine ⟨_, w10, ?_⟩
            intro lv st μ h
            split at h
            · exact h
            · exact h.elim)
        exact ⟨_, v10, h⟩
      next => exact h.elim
    next => exact h.elim
  next => exact h.elim
def ix_highAt_L13 (a1 : Int32) (Q : Int32 → sl_M → Prop) : Nat → Int32 → Int32 → Int32 → sl_M → Prop
  | 0, _, _, _, _ => False
  | n + 1, x2, x3, x4, μ => (x4 < (0 : Int32) → Q (-1 : Int32) μ) ∧ (¬ x4 < (0 : Int32) → vp_in x4 30 ∧ sl_kd (μ 3 x4.toNatClampNeg).toNatClampNeg = 9 ∧ ((μ ((μ 3 x4.toNatClampNeg).toNatClampNeg) 3) = x3 → (ix_highAt_L13 a1 Q n) x2 x3 (x4 + (-1 : Int32)) μ) ∧ (¬ (μ ((μ 3 x4.toNatClampNeg).toNatClampNeg) 3) = x3 → (x2 = (0 : Int32) → vp_in x4 30 ∧ sl_kd (μ 3 x4.toNatClampNeg).toNatClampNeg = 9 ∧ Q (μ ((μ 3 x4.toNatClampNeg).toNatClampNeg) 3) μ) ∧ (¬ x2 = (0 : Int32) → vp_in x4 30 ∧ sl_kd (μ 3 x4.toNatClampNeg).toNatClampNeg = 9 ∧ ∀ v1, v1 = (μ ((μ 3 x4.toNatClampNeg).toNatClampNeg) 3) → (ix_highAt_L13 a1 Q n) (x2 + (-1 : Int32)) v1 (x4 + (-1 : Int32)) μ)))
def ix_highAt (a1 : Int32) (μ : sl_M) (Q : Int32 → sl_M → Prop) : Prop := ix_sortBy (1 : Int32) μ (fun r3 m2 => ∃ n4, ix_highAt_L13 a1 Q n4 a1 (-1 : Int32) (r3 - (1 : Int32)) m2)
def ix_highAt_pt : sl_PT := fun As μ Q => match As with
  | [.inr (.inr (some (c0, a0))), .inl a1] => if c0 = 5 then (if a0 = 1 then (ix_highAt a1 μ (fun r μ' => Q (some (.inl r)) μ')) else False) else False
  | _ => False
def ix_highAt_cd : List sl_Ent := [(0, .iload_n 1, 1, 0, [1], [], false), (1, .istore_n 2, 1, 0, [2], [], false), (2, .iconst (-1), 1, (-1), [], [], false), (3, .istore_n 3, 1, 0, [3], [], false), (4, .aload_n 0, 1, 0, [0], [], false), (5, .iconst 1, 1, 1, [], [], false), (6, .invokevirtual 51, 3, 0, [0], [], false), (9, .iconst 1, 1, 1, [], [], false), (10, .isub, 1, 0, [], [], false), (11, .istore 4, 2, 0, [4], [], false), (13, .iload 4, 2, 0, [4], [], true), (15, .ifCond .lt 52, 3, 0, [67], [], false), (18, .aload_n 0, 1, 0, [0], [], false), (19, .getfield 17, 3, 0, [5, 1, 2, 23, 2], [], false), (22, .iload 4, 2, 0, [4], [], false), (24, .aaload, 1, 0, [], [], false), (25, .getfield 39, 3, 0, [9, 3, 0, 0, 0], [], false), (28, .iload_n 3, 1, 0, [3], [], false), (29, .if_icmp .eq 32, 3, 0, [61], [], false), (32, .iload_n 2, 1, 0, [2], [], false), (33, .ifCond .ne 14, 3, 0, [47], [], false), (36, .aload_n 0, 1, 0, [0], [], false), (37, .getfield 17, 3, 0, [5, 1, 2, 23, 2], [], false), (40, .iload 4, 2, 0, [4], [], false), (42, .aaload, 1, 0, [], [], false), (43, .getfield 39, 3, 0, [9, 3, 0, 0, 0], [], false), (46, .ireturn, 1, 0, [], [], false), (47, .iinc 2 (-1), 3, (-1), [], [], false), (50, .aload_n 0, 1, 0, [0], [], false), (51, .getfield 17, 3, 0, [5, 1, 2, 23, 2], [], false), (54, .iload 4, 2, 0, [4], [], false), (56, .aaload, 1, 0, [], [], false), (57, .getfield 39, 3, 0, [9, 3, 0, 0, 0], [], false), (60, .istore_n 3, 1, 0, [3, 1], [], false), (61, .iinc 4 (-1), 3, (-1), [], [], false), (64, .goto (-51), 3, 0, [13], [], false), (67, .iconst (-1), 1, (-1), [], [], false), (68, .ireturn, 1, 0, [], [], false)]
def ix_highAt_y : MethodName := ⟨"SpanLayers$Index", "highAt", "(I)I"⟩
theorem ix_highAt_tb : sl_tbOK sl_R5 prog_7_method_28_code 5 (some .int) lk_ix [(51, 0)] ix_highAt_cd = true := by decide +kernel
def ix_highAt_ct : List sl_Ct := [(2, 0, 5, ix_sortBy_pt)]
theorem ix_highAt_hc (g : sl_G) : sl_HC g sl_R5 4 ix_highAt_ct [(51, 0)] := sl_HC_cons (cs_ix_51 g (by decide)) (sl_HC_nil g sl_R5 4)
set_option maxRecDepth 20000 in
set_option maxHeartbeats 2000000 in
theorem ix_highAt_snd (g : sl_G) : sl_Snd g ix_highAt_y prog_7_method_28_code 5 (some .int) 4 (ix_highAt_pt) := by
  intro As μ Q hw h
  unfold ix_highAt_pt at h
  split at h
  next c0 a0 a1 =>
    split at h
    next e_ =>
      subst e_
      split at h
      next e_ =>
        subst e_
        refine sl_mk2 g [true, true, false, false, false] (cst := [some (.inr (.inr (some (5, 1)))), some (.inl a1)]) (lv0 := [none, none, none, none, none]) (by decide) rfl hw rfl rfl rfl lk_ix_ok (ix_highAt_hc g) ix_highAt_tb rfl ?_
        intro X M
        have v13 := sl_extL M sl_VV0 13 (fun n lv st μ => match lv, st with | [_, _, some (.inl x2), some (.inl x3), some (.inl x4)], [] => ix_highAt_L13 a1 (fun r μ' => Q (some (.inl r)) μ') n x2 x3 x4 μ | _, _ => False) (by
            intro lv st μ h
            split at h
            · exact h
            · exact h) (by
            intro n13 w13
            refine ⟨_, w13, ?_⟩
            intro lv st μ h
            split at h
            · exact h
            · exact h.elim)
        exact ⟨_, v13, h⟩
      next => exact h.elim
    next => exact h.elim
  next => exact h.elim
def ix_ofThoseEndingAt_L8 (a1 : Int32) (a2 : Int32) (Q : Int32 → sl_M → Prop) : Nat → Int32 → Int32 → Int32 → sl_M → Prop
  | 0, _, _, _, _ => False
  | n + 1, x3, x4, x5, μ => (x5 < (30 : Int32) → vp_in x5 30 ∧ ((sl_bz (μ (4 + x5.toNatClampNeg) 1)) = (0 : Int32) → (ix_ofThoseEndingAt_L8 a1 a2 Q n) x3 x4 (x5 + (1 : Int32)) μ) ∧ (¬ (sl_bz (μ (4 + x5.toNatClampNeg) 1)) = (0 : Int32) → vp_in x5 30 ∧ ((μ (4 + x5.toNatClampNeg) 3) = a1 → ∀ v1, v1 = (x3 ||| ((1 : Int32) <<< (x5 &&& 31))) → vp_in x5 30 ∧ ∀ v2, v2 = (x4 + (μ (4 + x5.toNatClampNeg) 4)) → (ix_ofThoseEndingAt_L8 a1 a2 Q n) v1 v2 (x5 + (1 : Int32)) μ) ∧ (¬ (μ (4 + x5.toNatClampNeg) 3) = a1 → (ix_ofThoseEndingAt_L8 a1 a2 Q n) x3 x4 (x5 + (1 : Int32)) μ))) ∧ (¬ x5 < (30 : Int32) → (a2 = (0 : Int32) → Q a1 μ) ∧ (¬ a2 = (0 : Int32) → (a2 = (1 : Int32) → it_bitCount x3 μ (fun r4 m3 => Q r4 m3)) ∧ (¬ a2 = (1 : Int32) → (a2 = (2 : Int32) → Q x3 μ) ∧ (¬ a2 = (2 : Int32) → Q x4 μ))))
def ix_ofThoseEndingAt (a1 : Int32) (a2 : Int32) (μ : sl_M) (Q : Int32 → sl_M → Prop) : Prop := ∃ n5, ix_ofThoseEndingAt_L8 a1 a2 Q n5 (0 : Int32) (0 : Int32) (0 : Int32) μ
def ix_ofThoseEndingAt_pt : sl_PT := fun As μ Q => match As with
  | [.inr (.inr (some (c0, a0))), .inl a1, .inl a2] => if c0 = 5 then (if a0 = 1 then (ix_ofThoseEndingAt a1 a2 μ (fun r μ' => Q (some (.inl r)) μ')) else False) else False
  | _ => False
def ix_ofThoseEndingAt_cd : List sl_Ent := [(0, .iconst 0, 1, 0, [], [], false), (1, .istore_n 3, 1, 0, [3], [], false), (2, .iconst 0, 1, 0, [], [], false), (3, .istore 4, 2, 0, [4], [], false), (5, .iconst 0, 1, 0, [], [], false), (6, .istore 5, 2, 0, [5], [], false), (8, .iload 5, 2, 0, [5], [], true), (10, .bipush 30, 2, 30, [], [], false), (12, .if_icmp .ge 58, 3, 0, [70], [], false), (15, .aload_n 0, 1, 0, [0], [], false), (16, .getfield 11, 3, 0, [5, 0, 2, 22, 1], [], false), (19, .iload 5, 2, 0, [5], [], false), (21, .aaload, 1, 0, [], [], false), (22, .getfield 31, 3, 0, [9, 1, 1, 0, 0], [], false), (25, .ifCond .eq 39, 3, 0, [64], [], false), (28, .aload_n 0, 1, 0, [0], [], false), (29, .getfield 11, 3, 0, [5, 0, 2, 22, 1], [], false), (32, .iload 5, 2, 0, [5], [], false), (34, .aaload, 1, 0, [], [], false), (35, .getfield 39, 3, 0, [9, 3, 0, 0, 0], [], false), (38, .iload_n 1, 1, 0, [1], [], false), (39, .if_icmp .ne 25, 3, 0, [64], [], false), (42, .iload_n 3, 1, 0, [3], [], false), (43, .iconst 1, 1, 1, [], [], false), (44, .iload 5, 2, 0, [5], [], false), (46, .ishl, 1, 0, [], [], false), (47, .ior, 1, 0, [], [], false), (48, .istore_n 3, 1, 0, [3, 1], [], false), (49, .iload 4, 2, 0, [4], [], false), (51, .aload_n 0, 1, 0, [0], [], false), (52, .getfield 11, 3, 0, [5, 0, 2, 22, 1], [], false), (55, .iload 5, 2, 0, [5], [], false), (57, .aaload, 1, 0, [], [], false), (58, .getfield 42, 3, 0, [9, 4, 0, 0, 0], [], false), (61, .iadd, 1, 0, [], [], false), (62, .istore 4, 2, 0, [4, 1], [], false), (64, .iinc 5 1, 3, 1, [], [], false), (67, .goto (-59), 3, 0, [8], [], false), (70, .iload_n 2, 1, 0, [2], [], false), (71, .tableswitch 34 0 2 #[25, 27, 32], 25, 0, [105], [(0, 96), (1, 98), (2, 103)], false), (96, .iload_n 1, 1, 0, [1], [], false), (97, .ireturn, 1, 0, [], [], false), (98, .iload_n 3, 1, 0, [3], [], false), (99, .invokestatic 92, 3, 0, [0], [], false), (102, .ireturn, 1, 0, [], [], false), (103, .iload_n 3, 1, 0, [3], [], false), (104, .ireturn, 1, 0, [], [], false), (105, .iload 4, 2, 0, [4], [], false), (107, .ireturn, 1, 0, [], [], false)]
def ix_ofThoseEndingAt_y : MethodName := ⟨"SpanLayers$Index", "ofThoseEndingAt", "(II)I"⟩
theorem ix_ofThoseEndingAt_tb : sl_tbOK sl_R5 prog_7_method_29_code 6 (some .int) lk_ix [(92, 1)] ix_ofThoseEndingAt_cd = true := by decide +kernel
def ix_ofThoseEndingAt_ct : List sl_Ct := [(1, 1, 0, it_bitCount_pt)]
theorem ix_ofThoseEndingAt_hc (g : sl_G) : sl_HC g sl_R5 1 ix_ofThoseEndingAt_ct [(92, 1)] := sl_HC_cons (cs_ix_92 g (by decide)) (sl_HC_nil g sl_R5 1)
set_option maxRecDepth 20000 in
set_option maxHeartbeats 2000000 in
theorem ix_ofThoseEndingAt_snd (g : sl_G) : sl_Snd g ix_ofThoseEndingAt_y prog_7_method_29_code 6 (some .int) 1 (ix_ofThoseEndingAt_pt) := by
  intro As μ Q hw h
  unfold ix_ofThoseEndingAt_pt at h
  split at h
  next c0 a0 a1 a2 =>
    split at h
    next e_ =>
      subst e_
      split at h
      next e_ =>
        subst e_
        refine sl_mk2 g [true, true, true, false, false, false] (cst := [some (.inr (.inr (some (5, 1)))), some (.inl a1), some (.inl a2)]) (lv0 := [none, none, none, none, none, none]) (by decide) rfl hw rfl rfl rfl lk_ix_ok (ix_ofThoseEndingAt_hc g) ix_ofThoseEndingAt_tb rfl ?_
        intro X M
        have v8 := sl_extL M sl_VV0 8 (fun n lv st μ => match lv, st with | [_, _, _, some (.inl x3), some (.inl x4), some (.inl x5)], [] => ix_ofThoseEndingAt_L8 a1 a2 (fun r μ' => Q (some (.inl r)) μ') n x3 x4 x5 μ | _, _ => False) (by
            intro lv st μ h
            split at h
            · exact h
            · exact h) (by
            intro n8 w8
            refine ⟨_, w8, ?_⟩
            intro lv st μ h
            split at h
            · exact h
            · exact h.elim)
        exact ⟨_, v8, h⟩
      next => exact h.elim
    next => exact h.elim
  next => exact h.elim
def tp_append (a1 : Int32) (μ : sl_M) (Q : Int32 → sl_M → Prop) : Prop := ((μ 43 1) < (80 : Int32) → vp_in (μ 43 1) 80 ∧ ∀ m1, m1 = sl_up μ 44 (μ 43 1).toNatClampNeg a1 → ∀ m2, m2 = sl_up m1 43 1 ((m1 43 1) + (1 : Int32)) → sl_bz (1 : Int32) = (1 : Int32) ∧ Q (1 : Int32) m2) ∧ (¬ (μ 43 1) < (80 : Int32) → sl_bz (0 : Int32) = (0 : Int32) ∧ Q (0 : Int32) μ)
def tp_append_pt : sl_PT := fun As μ Q => match As with
  | [.inr (.inr (some (c0, a0))), .inl a1] => if c0 = 10 then (if a0 = 43 then (tp_append a1 μ (fun r μ' => Q (some (.inl r)) μ')) else False) else False
  | _ => False
def tp_append_cd : List sl_Ent := [(0, .aload_n 0, 1, 0, [0], [], false), (1, .getfield 19, 3, 0, [10, 1, 0, 0, 0], [], false), (4, .bipush 80, 2, 80, [], [], false), (6, .if_icmp .lt 5, 3, 0, [11], [], false), (9, .iconst 0, 1, 0, [], [], false), (10, .ireturn, 1, 0, [1], [], false), (11, .aload_n 0, 1, 0, [0], [], false), (12, .getfield 9, 3, 0, [10, 0, 2, 20, 1], [], false), (15, .aload_n 0, 1, 0, [0], [], false), (16, .getfield 19, 3, 0, [10, 1, 0, 0, 0], [], false), (19, .iload_n 1, 1, 0, [1], [], false), (20, .iastore, 1, 0, [], [], false), (21, .aload_n 0, 1, 0, [0], [], false), (22, .dup, 1, 0, [], [], false), (23, .getfield 19, 3, 0, [10, 1, 0, 0, 0], [], false), (26, .iconst 1, 1, 1, [], [], false), (27, .iadd, 1, 0, [], [], false), (28, .putfield 19, 3, 0, [10, 1, 0], [], false), (31, .iconst 1, 1, 1, [], [], false), (32, .ireturn, 1, 0, [1], [], false)]
def tp_append_y : MethodName := ⟨"SpanLayers$Tape", "append", "(I)Z"⟩
theorem tp_append_tb : sl_tbOK sl_R10 prog_12_method_2_code 2 (some .boolean) lk_tp [] tp_append_cd = true := by decide +kernel
def tp_append_ct : List sl_Ct := []
theorem tp_append_hc (g : sl_G) : sl_HC g sl_R10 0 tp_append_ct [] := sl_HC_nil g sl_R10 0
set_option maxRecDepth 20000 in
set_option maxHeartbeats 2000000 in
theorem tp_append_snd (g : sl_G) : sl_Snd g tp_append_y prog_12_method_2_code 2 (some .boolean) 0 (tp_append_pt) := by
  intro As μ Q hw h
  unfold tp_append_pt at h
  split at h
  next c0 a0 a1 =>
    split at h
    next e_ =>
      subst e_
      split at h
      next e_ =>
        subst e_
        refine sl_mk2 g [true, true] (cst := [some (.inr (.inr (some (10, 43)))), some (.inl a1)]) (lv0 := [none, none]) (by decide) rfl hw rfl rfl rfl lk_tp_ok (tp_append_hc g) tp_append_tb rfl ?_
        intro X M
        exact ⟨_, sl_VV0, h⟩
      next => exact h.elim
    next => exact h.elim
  next => exact h.elim
def tp_empty (μ : sl_M) (Q : sl_M → Prop) : Prop := ∀ m1, m1 = sl_up μ 43 1 (0 : Int32) → ∀ m2, m2 = sl_up m1 43 2 (0 : Int32) → ∀ m3, m3 = sl_up m2 43 3 (-1 : Int32) → Q m3
def tp_empty_pt : sl_PT := fun As μ Q => match As with
  | [.inr (.inr (some (c0, a0)))] => if c0 = 10 then (if a0 = 43 then (tp_empty μ (fun μ' => Q none μ')) else False) else False
  | _ => False
def tp_empty_cd : List sl_Ent := [(0, .aload_n 0, 1, 0, [0], [], false), (1, .iconst 0, 1, 0, [], [], false), (2, .putfield 19, 3, 0, [10, 1, 0], [], false), (5, .aload_n 0, 1, 0, [0], [], false), (6, .iconst 0, 1, 0, [], [], false), (7, .putfield 22, 3, 0, [10, 2, 0], [], false), (10, .aload_n 0, 1, 0, [0], [], false), (11, .iconst (-1), 1, (-1), [], [], false), (12, .putfield 15, 3, 0, [10, 3, 0], [], false), (15, .return_, 1, 0, [], [], false)]
def tp_empty_y : MethodName := ⟨"SpanLayers$Tape", "empty", "()V"⟩
theorem tp_empty_tb : sl_tbOK sl_R10 prog_12_method_3_code 1 none lk_tp [] tp_empty_cd = true := by decide +kernel
def tp_empty_ct : List sl_Ct := []
theorem tp_empty_hc (g : sl_G) : sl_HC g sl_R10 0 tp_empty_ct [] := sl_HC_nil g sl_R10 0
set_option maxRecDepth 20000 in
set_option maxHeartbeats 2000000 in
theorem tp_empty_snd (g : sl_G) : sl_Snd g tp_empty_y prog_12_method_3_code 1 none 0 (tp_empty_pt) := by
  intro As μ Q hw h
  unfold tp_empty_pt at h
  split at h
  next c0 a0 =>
    split at h
    next e_ =>
      subst e_
      split at h
      next e_ =>
        subst e_
        refine sl_mk2 g [true] (cst := [some (.inr (.inr (some (10, 43))))]) (lv0 := [none]) (by decide) rfl hw rfl rfl rfl lk_tp_ok (tp_empty_hc g) tp_empty_tb rfl ?_
        intro X M
        exact ⟨_, sl_VV0, h⟩
      next => exact h.elim
    next => exact h.elim
  next => exact h.elim
def tp_letter (μ : sl_M) (Q : Int32 → sl_M → Prop) : Prop := ((μ 43 2) < (0 : Int32) → Q (-1 : Int32) μ) ∧ (¬ (μ 43 2) < (0 : Int32) → ((μ 43 2) < (μ 43 1) → ((μ 43 2) < (80 : Int32) → vp_in (μ 43 2) 80 ∧ Q (μ 44 (μ 43 2).toNatClampNeg) μ) ∧ (¬ (μ 43 2) < (80 : Int32) → Q (-1 : Int32) μ)) ∧ (¬ (μ 43 2) < (μ 43 1) → Q (-1 : Int32) μ))
def tp_letter_pt : sl_PT := fun As μ Q => match As with
  | [.inr (.inr (some (c0, a0)))] => if c0 = 10 then (if a0 = 43 then (tp_letter μ (fun r μ' => Q (some (.inl r)) μ')) else False) else False
  | _ => False
def tp_letter_cd : List sl_Ent := [(0, .aload_n 0, 1, 0, [0], [], false), (1, .getfield 22, 3, 0, [10, 2, 0, 0, 0], [], false), (4, .ifCond .lt 35, 3, 0, [39], [], false), (7, .aload_n 0, 1, 0, [0], [], false), (8, .getfield 22, 3, 0, [10, 2, 0, 0, 0], [], false), (11, .aload_n 0, 1, 0, [0], [], false), (12, .getfield 19, 3, 0, [10, 1, 0, 0, 0], [], false), (15, .if_icmp .ge 24, 3, 0, [39], [], false), (18, .aload_n 0, 1, 0, [0], [], false), (19, .getfield 22, 3, 0, [10, 2, 0, 0, 0], [], false), (22, .bipush 80, 2, 80, [], [], false), (24, .if_icmp .ge 15, 3, 0, [39], [], false), (27, .aload_n 0, 1, 0, [0], [], false), (28, .getfield 9, 3, 0, [10, 0, 2, 20, 1], [], false), (31, .aload_n 0, 1, 0, [0], [], false), (32, .getfield 22, 3, 0, [10, 2, 0, 0, 0], [], false), (35, .iaload, 1, 0, [], [], false), (36, .goto 4, 3, 0, [40], [], false), (39, .iconst (-1), 1, (-1), [], [], false), (40, .ireturn, 1, 0, [], [], false)]
def tp_letter_y : MethodName := ⟨"SpanLayers$Tape", "letter", "()I"⟩
theorem tp_letter_tb : sl_tbOK sl_R10 prog_12_method_6_code 1 (some .int) lk_tp [] tp_letter_cd = true := by decide +kernel
def tp_letter_ct : List sl_Ct := []
theorem tp_letter_hc (g : sl_G) : sl_HC g sl_R10 0 tp_letter_ct [] := sl_HC_nil g sl_R10 0
set_option maxRecDepth 20000 in
set_option maxHeartbeats 2000000 in
theorem tp_letter_snd (g : sl_G) : sl_Snd g tp_letter_y prog_12_method_6_code 1 (some .int) 0 (tp_letter_pt) := by
  intro As μ Q hw h
  unfold tp_letter_pt at h
  split at h
  next c0 a0 =>
    split at h
    next e_ =>
      subst e_
      split at h
      next e_ =>
        subst e_
        refine sl_mk2 g [true] (cst := [some (.inr (.inr (some (10, 43))))]) (lv0 := [none]) (by decide) rfl hw rfl rfl rfl lk_tp_ok (tp_letter_hc g) tp_letter_tb rfl ?_
        intro X M
        exact ⟨_, sl_VV0, h⟩
      next => exact h.elim
    next => exact h.elim
  next => exact h.elim
def tp_skip (a1 : Int32) (μ : sl_M) (Q : Int32 → sl_M → Prop) : Prop := tp_letter μ (fun r2 m1 => (r2 = a1 → ∀ m3, m3 = sl_up m1 43 2 ((m1 43 2) + (1 : Int32)) → sl_bz (1 : Int32) = (1 : Int32) ∧ Q (1 : Int32) m3) ∧ (¬ r2 = a1 → sl_bz (0 : Int32) = (0 : Int32) ∧ Q (0 : Int32) m1))
def tp_skip_pt : sl_PT := fun As μ Q => match As with
  | [.inr (.inr (some (c0, a0))), .inl a1] => if c0 = 10 then (if a0 = 43 then (tp_skip a1 μ (fun r μ' => Q (some (.inl r)) μ')) else False) else False
  | _ => False
def tp_skip_cd : List sl_Ent := [(0, .aload_n 0, 1, 0, [0], [], false), (1, .invokevirtual 32, 3, 0, [0], [], false), (4, .iload_n 1, 1, 0, [1], [], false), (5, .if_icmp .eq 5, 3, 0, [10], [], false), (8, .iconst 0, 1, 0, [], [], false), (9, .ireturn, 1, 0, [1], [], false), (10, .aload_n 0, 1, 0, [0], [], false), (11, .dup, 1, 0, [], [], false), (12, .getfield 22, 3, 0, [10, 2, 0, 0, 0], [], false), (15, .iconst 1, 1, 1, [], [], false), (16, .iadd, 1, 0, [], [], false), (17, .putfield 22, 3, 0, [10, 2, 0], [], false), (20, .iconst 1, 1, 1, [], [], false), (21, .ireturn, 1, 0, [1], [], false)]
def tp_skip_y : MethodName := ⟨"SpanLayers$Tape", "skip", "(I)Z"⟩
theorem tp_skip_tb : sl_tbOK sl_R10 prog_12_method_7_code 2 (some .boolean) lk_tp [(32, 0)] tp_skip_cd = true := by decide +kernel
theorem tp_letter_w2 : Cond.instanceMethod tp_letter_y ∈ sl_T0 := sl_in1 745 (by decide +kernel) rfl
theorem tp_letter_w3 : Cond.selects tp_letter_y.cls tp_letter_y tp_letter_y ∈ sl_T0 := sl_in1 13 (by decide +kernel) rfl
theorem tp_letter_w4 : Cond.initialized tp_letter_y.cls ∈ sl_T0 := sl_in1 90 (by decide +kernel) rfl
theorem tp_letter_w5 : Cond.code tp_letter_y prog_12_method_6_code 1 (some .int) ∈ sl_T0 := sl_in1 746 (by decide +kernel) rfl
theorem tp_letter_w6 : tp_letter_y.cls ≠ "java/lang/invoke/MethodHandle" ∧ tp_letter_y.cls ≠ "java/lang/invoke/VarHandle" ∧ (parseMethodDescriptor tp_letter_y.desc).map (fun d => d.parameters.length) = some 0 := by decide +kernel
theorem cs_tp_32 (g : sl_G) {hh : Nat} (h : 1 ≤ hh) : sl_CallS g sl_R10 32 0 10 hh 1 tp_letter_pt := sl_callV (y := tp_letter_y) (T := sl_F10) (N := 4) (tp_letter_snd g) h (by decide) (sl_in1 743 (by decide +kernel) rfl) tp_letter_w2 tp_letter_w3 tp_letter_w4 tp_letter_w5 tp_letter_w6 rfl (by decide)
def tp_skip_ct : List sl_Ct := [(1, 0, 10, tp_letter_pt)]
theorem tp_skip_hc (g : sl_G) : sl_HC g sl_R10 1 tp_skip_ct [(32, 0)] := sl_HC_cons (cs_tp_32 g (by decide)) (sl_HC_nil g sl_R10 1)
set_option maxRecDepth 20000 in
set_option maxHeartbeats 2000000 in
theorem tp_skip_snd (g : sl_G) : sl_Snd g tp_skip_y prog_12_method_7_code 2 (some .boolean) 1 (tp_skip_pt) := by
  intro As μ Q hw h
  unfold tp_skip_pt at h
  split at h
  next c0 a0 a1 =>
    split at h
    next e_ =>
      subst e_
      split at h
      next e_ =>
        subst e_
        refine sl_mk2 g [true, true] (cst := [some (.inr (.inr (some (10, 43)))), some (.inl a1)]) (lv0 := [none, none]) (by decide) rfl hw rfl rfl rfl lk_tp_ok (tp_skip_hc g) tp_skip_tb rfl ?_
        intro X M
        exact ⟨_, sl_VV0, h⟩
      next => exact h.elim
    next => exact h.elim
  next => exact h.elim
def tp_fail (a1 : Int32) (μ : sl_M) (Q : sl_M → Prop) : Prop := ((μ 43 3) < (0 : Int32) → ∀ m1, m1 = sl_up μ 43 3 a1 → ∀ m2, m2 = sl_up m1 43 2 (m1 43 1) → Q m2) ∧ (¬ (μ 43 3) < (0 : Int32) → ∀ m3, m3 = sl_up μ 43 2 (μ 43 1) → Q m3)
def tp_fail_pt : sl_PT := fun As μ Q => match As with
  | [.inr (.inr (some (c0, a0))), .inl a1] => if c0 = 10 then (if a0 = 43 then (tp_fail a1 μ (fun μ' => Q none μ')) else False) else False
  | _ => False
def tp_fail_cd : List sl_Ent := [(0, .aload_n 0, 1, 0, [0], [], false), (1, .getfield 15, 3, 0, [10, 3, 0, 0, 0], [], false), (4, .ifCond .ge 8, 3, 0, [12], [], false), (7, .aload_n 0, 1, 0, [0], [], false), (8, .iload_n 1, 1, 0, [1], [], false), (9, .putfield 15, 3, 0, [10, 3, 0], [], false), (12, .aload_n 0, 1, 0, [0], [], false), (13, .aload_n 0, 1, 0, [0], [], false), (14, .getfield 19, 3, 0, [10, 1, 0, 0, 0], [], false), (17, .putfield 22, 3, 0, [10, 2, 0], [], false), (20, .return_, 1, 0, [], [], false)]
def tp_fail_y : MethodName := ⟨"SpanLayers$Tape", "fail", "(I)V"⟩
theorem tp_fail_tb : sl_tbOK sl_R10 prog_12_method_5_code 2 none lk_tp [] tp_fail_cd = true := by decide +kernel
def tp_fail_ct : List sl_Ct := []
theorem tp_fail_hc (g : sl_G) : sl_HC g sl_R10 0 tp_fail_ct [] := sl_HC_nil g sl_R10 0
set_option maxRecDepth 20000 in
set_option maxHeartbeats 2000000 in
theorem tp_fail_snd (g : sl_G) : sl_Snd g tp_fail_y prog_12_method_5_code 2 none 0 (tp_fail_pt) := by
  intro As μ Q hw h
  unfold tp_fail_pt at h
  split at h
  next c0 a0 a1 =>
    split at h
    next e_ =>
      subst e_
      split at h
      next e_ =>
        subst e_
        refine sl_mk2 g [true, true] (cst := [some (.inr (.inr (some (10, 43)))), some (.inl a1)]) (lv0 := [none, none]) (by decide) rfl hw rfl rfl rfl lk_tp_ok (tp_fail_hc g) tp_fail_tb rfl ?_
        intro X M
        exact ⟨_, sl_VV0, h⟩
      next => exact h.elim
    next => exact h.elim
  next => exact h.elim
def tp_expect (a1 : Int32) (μ : sl_M) (Q : sl_M → Prop) : Prop := tp_skip a1 μ (fun r2 m1 => (r2 = (0 : Int32) → tp_fail (m1 43 2) m1 (fun m3 => Q m3)) ∧ (¬ r2 = (0 : Int32) → Q m1))
def tp_expect_pt : sl_PT := fun As μ Q => match As with
  | [.inr (.inr (some (c0, a0))), .inl a1] => if c0 = 10 then (if a0 = 43 then (tp_expect a1 μ (fun μ' => Q none μ')) else False) else False
  | _ => False
def tp_expect_cd : List sl_Ent := [(0, .aload_n 0, 1, 0, [0], [], false), (1, .iload_n 1, 1, 0, [1], [], false), (2, .invokevirtual 36, 3, 0, [0], [], false), (5, .ifCond .ne 11, 3, 0, [16], [], false), (8, .aload_n 0, 1, 0, [0], [], false), (9, .aload_n 0, 1, 0, [0], [], false), (10, .getfield 22, 3, 0, [10, 2, 0, 0, 0], [], false), (13, .invokevirtual 25, 3, 0, [1], [], false), (16, .return_, 1, 0, [], [], false)]
def tp_expect_y : MethodName := ⟨"SpanLayers$Tape", "expect", "(I)V"⟩
theorem tp_expect_tb : sl_tbOK sl_R10 prog_12_method_8_code 2 none lk_tp [(36, 0), (25, 0)] tp_expect_cd = true := by decide +kernel
theorem tp_skip_w2 : Cond.instanceMethod tp_skip_y ∈ sl_T0 := sl_in1 740 (by decide +kernel) rfl
theorem tp_skip_w3 : Cond.selects tp_skip_y.cls tp_skip_y tp_skip_y ∈ sl_T0 := sl_in1 741 (by decide +kernel) rfl
theorem tp_skip_w4 : Cond.initialized tp_skip_y.cls ∈ sl_T0 := sl_in1 90 (by decide +kernel) rfl
theorem tp_skip_w5 : Cond.code tp_skip_y prog_12_method_7_code 2 (some .boolean) ∈ sl_T0 := sl_in1 742 (by decide +kernel) rfl
theorem tp_skip_w6 : tp_skip_y.cls ≠ "java/lang/invoke/MethodHandle" ∧ tp_skip_y.cls ≠ "java/lang/invoke/VarHandle" ∧ (parseMethodDescriptor tp_skip_y.desc).map (fun d => d.parameters.length) = some 1 := by decide +kernel
theorem cs_tp_36 (g : sl_G) {hh : Nat} (h : 2 ≤ hh) : sl_CallS g sl_R10 36 0 10 hh 2 tp_skip_pt := sl_callV (y := tp_skip_y) (T := sl_F10) (N := 4) (tp_skip_snd g) h (by decide) (sl_in1 752 (by decide +kernel) rfl) tp_skip_w2 tp_skip_w3 tp_skip_w4 tp_skip_w5 tp_skip_w6 rfl (by decide)
theorem tp_fail_w2 : Cond.instanceMethod tp_fail_y ∈ sl_T0 := sl_in1 754 (by decide +kernel) rfl
theorem tp_fail_w3 : Cond.selects tp_fail_y.cls tp_fail_y tp_fail_y ∈ sl_T0 := sl_in1 755 (by decide +kernel) rfl
theorem tp_fail_w4 : Cond.initialized tp_fail_y.cls ∈ sl_T0 := sl_in1 90 (by decide +kernel) rfl
theorem tp_fail_w5 : Cond.code tp_fail_y prog_12_method_5_code 2 none ∈ sl_T0 := sl_in1 756 (by decide +kernel) rfl
theorem tp_fail_w6 : tp_fail_y.cls ≠ "java/lang/invoke/MethodHandle" ∧ tp_fail_y.cls ≠ "java/lang/invoke/VarHandle" ∧ (parseMethodDescriptor tp_fail_y.desc).map (fun d => d.parameters.length) = some 1 := by decide +kernel
theorem cs_tp_25 (g : sl_G) {hh : Nat} (h : 1 ≤ hh) : sl_CallS g sl_R10 25 0 10 hh 2 tp_fail_pt := sl_callV (y := tp_fail_y) (T := sl_F10) (N := 4) (tp_fail_snd g) h (by decide) (sl_in1 753 (by decide +kernel) rfl) tp_fail_w2 tp_fail_w3 tp_fail_w4 tp_fail_w5 tp_fail_w6 rfl (by decide)
def tp_expect_ct : List sl_Ct := [(2, 0, 10, tp_skip_pt), (2, 0, 10, tp_fail_pt)]
theorem tp_expect_hc (g : sl_G) : sl_HC g sl_R10 2 tp_expect_ct [(36, 0), (25, 0)] := sl_HC_cons (cs_tp_36 g (by decide)) (sl_HC_cons (cs_tp_25 g (by decide)) (sl_HC_nil g sl_R10 2))
set_option maxRecDepth 20000 in
set_option maxHeartbeats 2000000 in
theorem tp_expect_snd (g : sl_G) : sl_Snd g tp_expect_y prog_12_method_8_code 2 none 2 (tp_expect_pt) := by
  intro As μ Q hw h
  unfold tp_expect_pt at h
  split at h
  next c0 a0 a1 =>
    split at h
    next e_ =>
      subst e_
      split at h
      next e_ =>
        subst e_
        refine sl_mk2 g [true, true] (cst := [some (.inr (.inr (some (10, 43)))), some (.inl a1)]) (lv0 := [none, none]) (by decide) rfl hw rfl rfl rfl lk_tp_ok (tp_expect_hc g) tp_expect_tb rfl ?_
        intro X M
        exact ⟨_, sl_VV0, h⟩
      next => exact h.elim
    next => exact h.elim
  next => exact h.elim
def cn_readSign (μ : sl_M) (Q : Int32 → sl_M → Prop) : Prop := tp_skip (60 : Int32) μ (fun r2 m1 => (r2 = (0 : Int32) → tp_skip (62 : Int32) m1 (fun r4 m3 => (r4 = (0 : Int32) → tp_skip (61 : Int32) m3 (fun r6 m5 => (r6 = (0 : Int32) → tp_fail (m5 43 2) m5 (fun m7 => Q (61 : Int32) m7)) ∧ (¬ r6 = (0 : Int32) → Q (61 : Int32) m5))) ∧ (¬ r4 = (0 : Int32) → Q (62 : Int32) m3))) ∧ (¬ r2 = (0 : Int32) → Q (60 : Int32) m1))
def cn_readSign_pt : sl_PT := fun As μ Q => match As with
  | [.inr (.inr (some (c0, a0)))] => if c0 = 10 then (if a0 = 43 then (cn_readSign μ (fun r μ' => Q (some (.inl r)) μ')) else False) else False
  | _ => False
def cn_readSign_cd : List sl_Ent := [(0, .aload_n 0, 1, 0, [0], [], false), (1, .bipush 60, 2, 60, [], [], false), (3, .invokevirtual 15, 3, 0, [0], [], false), (6, .ifCond .eq 6, 3, 0, [12], [], false), (9, .bipush 60, 2, 60, [], [], false), (11, .ireturn, 1, 0, [], [], false), (12, .aload_n 0, 1, 0, [0], [], false), (13, .bipush 62, 2, 62, [], [], false), (15, .invokevirtual 15, 3, 0, [0], [], false), (18, .ifCond .eq 6, 3, 0, [24], [], false), (21, .bipush 62, 2, 62, [], [], false), (23, .ireturn, 1, 0, [], [], false), (24, .aload_n 0, 1, 0, [0], [], false), (25, .bipush 61, 2, 61, [], [], false), (27, .invokevirtual 15, 3, 0, [0], [], false), (30, .ifCond .ne 11, 3, 0, [41], [], false), (33, .aload_n 0, 1, 0, [0], [], false), (34, .aload_n 0, 1, 0, [0], [], false), (35, .getfield 72, 3, 0, [10, 2, 0, 0, 0], [], false), (38, .invokevirtual 76, 3, 0, [1], [], false), (41, .bipush 61, 2, 61, [], [], false), (43, .ireturn, 1, 0, [], [], false)]
def cn_readSign_y : MethodName := ⟨"SpanLayers$Condition", "readSign", "(LSpanLayers$Tape;)I"⟩
theorem cn_readSign_tb : sl_tbOK sl_R2 prog_4_method_6_code 1 (some .int) lk_cn [(15, 0), (76, 0)] cn_readSign_cd = true := by decide +kernel
theorem cs_cn_15 (g : sl_G) {hh : Nat} (h : 2 ≤ hh) : sl_CallS g sl_R2 15 0 10 hh 2 tp_skip_pt := sl_callV (y := tp_skip_y) (T := sl_F10) (N := 4) (tp_skip_snd g) h (by decide) (sl_in1 739 (by decide +kernel) rfl) tp_skip_w2 tp_skip_w3 tp_skip_w4 tp_skip_w5 tp_skip_w6 rfl (by decide)
theorem cs_cn_76 (g : sl_G) {hh : Nat} (h : 1 ≤ hh) : sl_CallS g sl_R2 76 0 10 hh 2 tp_fail_pt := sl_callV (y := tp_fail_y) (T := sl_F10) (N := 4) (tp_fail_snd g) h (by decide) (sl_in1 820 (by decide +kernel) rfl) tp_fail_w2 tp_fail_w3 tp_fail_w4 tp_fail_w5 tp_fail_w6 rfl (by decide)
def cn_readSign_ct : List sl_Ct := [(2, 0, 10, tp_skip_pt), (2, 0, 10, tp_fail_pt)]
theorem cn_readSign_hc (g : sl_G) : sl_HC g sl_R2 2 cn_readSign_ct [(15, 0), (76, 0)] := sl_HC_cons (cs_cn_15 g (by decide)) (sl_HC_cons (cs_cn_76 g (by decide)) (sl_HC_nil g sl_R2 2))
set_option maxRecDepth 20000 in
set_option maxHeartbeats 2000000 in
theorem cn_readSign_snd (g : sl_G) : sl_Snd g cn_readSign_y prog_4_method_6_code 1 (some .int) 2 (cn_readSign_pt) := by
  intro As μ Q hw h
  unfold cn_readSign_pt at h
  split at h
  next c0 a0 =>
    split at h
    next e_ =>
      subst e_
      split at h
      next e_ =>
        subst e_
        refine sl_mk2 g [true] (cst := [some (.inr (.inr (some (10, 43))))]) (lv0 := [none]) (by decide) rfl hw rfl rfl rfl lk_cn_ok (cn_readSign_hc g) cn_readSign_tb rfl ?_
        intro X M
        exact ⟨_, sl_VV0, h⟩
      next => exact h.elim
    next => exact h.elim
  next => exact h.elim
def tp_readNumber_B63 (a1 : Int32) (Q : Int32 → sl_M → Prop) : Int32 → Int32 → sl_M → Prop
  | x2, x3, μ => ((μ 43 2) = x2 → tp_fail (μ 43 2) μ (fun m9 => Q x3 m9)) ∧ (¬ (μ 43 2) = x2 → Q x3 μ)
def tp_readNumber_L10 (a1 : Int32) (Q : Int32 → sl_M → Prop) : Nat → Int32 → Int32 → Int32 → sl_M → Prop
  | 0, _, _, _, _ => False
  | n + 1, x2, x3, x4, μ => (x4 < a1 → tp_letter μ (fun r2 m1 => (r2 < (48 : Int32) → tp_readNumber_B63 a1 Q x2 x3 m1) ∧ (¬ r2 < (48 : Int32) → tp_letter m1 (fun r4 m3 => (r4 ≤ (57 : Int32) → tp_letter m3 (fun r6 m5 => ∀ v7, v7 = ((x3 * (10 : Int32)) + (r6 - (48 : Int32))) → ∀ m8, m8 = sl_up m5 43 2 ((m5 43 2) + (1 : Int32)) → (tp_readNumber_L10 a1 Q n) x2 v7 (x4 + (1 : Int32)) m8)) ∧ (¬ r4 ≤ (57 : Int32) → tp_readNumber_B63 a1 Q x2 x3 m3))))) ∧ (¬ x4 < a1 → tp_readNumber_B63 a1 Q x2 x3 μ)
def tp_readNumber (a1 : Int32) (μ : sl_M) (Q : Int32 → sl_M → Prop) : Prop := ∀ v10, v10 = (μ 43 2) → ∃ n11, tp_readNumber_L10 a1 Q n11 v10 (0 : Int32) (0 : Int32) μ
def tp_readNumber_pt : sl_PT := fun As μ Q => match As with
  | [.inr (.inr (some (c0, a0))), .inl a1] => if c0 = 10 then (if a0 = 43 then (tp_readNumber a1 μ (fun r μ' => Q (some (.inl r)) μ')) else False) else False
  | _ => False
def tp_readNumber_cd : List sl_Ent := [(0, .aload_n 0, 1, 0, [0], [], false), (1, .getfield 22, 3, 0, [10, 2, 0, 0, 0], [], false), (4, .istore_n 2, 1, 0, [2, 1], [], false), (5, .iconst 0, 1, 0, [], [], false), (6, .istore_n 3, 1, 0, [3], [], false), (7, .iconst 0, 1, 0, [], [], false), (8, .istore 4, 2, 0, [4], [], false), (10, .iload 4, 2, 0, [4], [], true), (12, .iload_n 1, 1, 0, [1], [], false), (13, .if_icmp .ge 50, 3, 0, [63], [], false), (16, .aload_n 0, 1, 0, [0], [], false), (17, .invokevirtual 32, 3, 0, [0], [], false), (20, .bipush 48, 2, 48, [], [], false), (22, .if_icmp .lt 41, 3, 0, [63], [], false), (25, .aload_n 0, 1, 0, [0], [], false), (26, .invokevirtual 32, 3, 0, [0], [], false), (29, .bipush 57, 2, 57, [], [], false), (31, .if_icmp .gt 32, 3, 0, [63], [], false), (34, .iload_n 3, 1, 0, [3], [], false), (35, .bipush 10, 2, 10, [], [], false), (37, .imul, 1, 0, [], [], false), (38, .aload_n 0, 1, 0, [0], [], false), (39, .invokevirtual 32, 3, 0, [0], [], false), (42, .bipush 48, 2, 48, [], [], false), (44, .isub, 1, 0, [], [], false), (45, .iadd, 1, 0, [], [], false), (46, .istore_n 3, 1, 0, [3, 1], [], false), (47, .aload_n 0, 1, 0, [0], [], false), (48, .dup, 1, 0, [], [], false), (49, .getfield 22, 3, 0, [10, 2, 0, 0, 0], [], false), (52, .iconst 1, 1, 1, [], [], false), (53, .iadd, 1, 0, [], [], false), (54, .putfield 22, 3, 0, [10, 2, 0], [], false), (57, .iinc 4 1, 3, 1, [], [], false), (60, .goto (-50), 3, 0, [10], [], false), (63, .aload_n 0, 1, 0, [0], [], true), (64, .getfield 22, 3, 0, [10, 2, 0, 0, 0], [], false), (67, .iload_n 2, 1, 0, [2], [], false), (68, .if_icmp .ne 11, 3, 0, [79], [], false), (71, .aload_n 0, 1, 0, [0], [], false), (72, .aload_n 0, 1, 0, [0], [], false), (73, .getfield 22, 3, 0, [10, 2, 0, 0, 0], [], false), (76, .invokevirtual 25, 3, 0, [1], [], false), (79, .iload_n 3, 1, 0, [3], [], false), (80, .ireturn, 1, 0, [], [], false)]
def tp_readNumber_y : MethodName := ⟨"SpanLayers$Tape", "readNumber", "(I)I"⟩
theorem tp_readNumber_tb : sl_tbOK sl_R10 prog_12_method_9_code 5 (some .int) lk_tp [(32, 0), (25, 0)] tp_readNumber_cd = true := by decide +kernel
def tp_readNumber_ct : List sl_Ct := [(1, 0, 10, tp_letter_pt), (2, 0, 10, tp_fail_pt)]
theorem tp_readNumber_hc (g : sl_G) : sl_HC g sl_R10 1 tp_readNumber_ct [(32, 0), (25, 0)] := sl_HC_cons (cs_tp_32 g (by decide)) (sl_HC_cons (cs_tp_25 g (by decide)) (sl_HC_nil g sl_R10 1))
set_option maxRecDepth 20000 in
set_option maxHeartbeats 2000000 in
theorem tp_readNumber_snd (g : sl_G) : sl_Snd g tp_readNumber_y prog_12_method_9_code 5 (some .int) 1 (tp_readNumber_pt) := by
  intro As μ Q hw h
  unfold tp_readNumber_pt at h
  split at h
  next c0 a0 a1 =>
    split at h
    next e_ =>
      subst e_
      split at h
      next e_ =>
        subst e_
        refine sl_mk2 g [true, true, false, false, false] (cst := [some (.inr (.inr (some (10, 43)))), some (.inl a1)]) (lv0 := [none, none, none, none, none]) (by decide) rfl hw rfl rfl rfl lk_tp_ok (tp_readNumber_hc g) tp_readNumber_tb rfl ?_
        intro X M
        have v63 := sl_ext M sl_VV0 63 (fun lv st μ => match lv, st with | [_, _, some (.inl x2), some (.inl x3), _], [] => tp_readNumber_B63 a1 (fun r μ' => Q (some (.inl r)) μ') x2 x3 μ | _, _ => False) (by
            intro lv st μ h
            split at h
            · exact h
            · exact h.elim)
        have v10 := sl_extL M v63 10 (fun n lv st μ => match lv, st with | [_, _, some (.inl x2), some (.inl x3), some (.inl x4)], [] => tp_readNumber_L10 a1 (fun r μ' => Q (some (.inl r)) μ') n x2 x3 x4 μ | _, _ => False) (by
            intro lv st μ h
            split at h
            · exact h
            · exact h) (by
            intro n10 w10
            refine ⟨_, w10, ?_⟩
            intro lv st μ h
            split at h
            · exact h
            · exact h.elim)
        exact ⟨_, v10, h⟩
      next => exact h.elim
    next => exact h.elim
  next => exact h.elim
def tp_readSigned (a1 : Int32) (μ : sl_M) (Q : Int32 → sl_M → Prop) : Prop := tp_skip (45 : Int32) μ (fun r2 m1 => tp_readNumber a1 m1 (fun r4 m3 => (r2 = (0 : Int32) → Q r4 m3) ∧ (¬ r2 = (0 : Int32) → Q (-r4) m3)))
def tp_readSigned_pt : sl_PT := fun As μ Q => match As with
  | [.inr (.inr (some (c0, a0))), .inl a1] => if c0 = 10 then (if a0 = 43 then (tp_readSigned a1 μ (fun r μ' => Q (some (.inl r)) μ')) else False) else False
  | _ => False
def tp_readSigned_cd : List sl_Ent := [(0, .aload_n 0, 1, 0, [0], [], false), (1, .bipush 45, 2, 45, [], [], false), (3, .invokevirtual 36, 3, 0, [0], [], false), (6, .istore_n 2, 1, 0, [2], [], false), (7, .aload_n 0, 1, 0, [0], [], false), (8, .iload_n 1, 1, 0, [1], [], false), (9, .invokevirtual 40, 3, 0, [1], [], false), (12, .istore_n 3, 1, 0, [3], [], false), (13, .iload_n 2, 1, 0, [2], [], false), (14, .ifCond .eq 8, 3, 0, [22], [], false), (17, .iload_n 3, 1, 0, [3], [], false), (18, .ineg, 1, 0, [], [], false), (19, .goto 4, 3, 0, [23], [], false), (22, .iload_n 3, 1, 0, [3], [], false), (23, .ireturn, 1, 0, [], [], false)]
def tp_readSigned_y : MethodName := ⟨"SpanLayers$Tape", "readSigned", "(I)I"⟩
theorem tp_readSigned_tb : sl_tbOK sl_R10 prog_12_method_10_code 4 (some .int) lk_tp [(36, 0), (40, 0)] tp_readSigned_cd = true := by decide +kernel
theorem tp_readNumber_w2 : Cond.instanceMethod tp_readNumber_y ∈ sl_T0 := sl_in1 826 (by decide +kernel) rfl
theorem tp_readNumber_w3 : Cond.selects tp_readNumber_y.cls tp_readNumber_y tp_readNumber_y ∈ sl_T0 := sl_in1 827 (by decide +kernel) rfl
theorem tp_readNumber_w4 : Cond.initialized tp_readNumber_y.cls ∈ sl_T0 := sl_in1 90 (by decide +kernel) rfl
theorem tp_readNumber_w5 : Cond.code tp_readNumber_y prog_12_method_9_code 5 (some .int) ∈ sl_T0 := sl_in1 828 (by decide +kernel) rfl
theorem tp_readNumber_w6 : tp_readNumber_y.cls ≠ "java/lang/invoke/MethodHandle" ∧ tp_readNumber_y.cls ≠ "java/lang/invoke/VarHandle" ∧ (parseMethodDescriptor tp_readNumber_y.desc).map (fun d => d.parameters.length) = some 1 := by decide +kernel
theorem cs_tp_40 (g : sl_G) {hh : Nat} (h : 2 ≤ hh) : sl_CallS g sl_R10 40 0 10 hh 2 tp_readNumber_pt := sl_callV (y := tp_readNumber_y) (T := sl_F10) (N := 4) (tp_readNumber_snd g) h (by decide) (sl_in1 825 (by decide +kernel) rfl) tp_readNumber_w2 tp_readNumber_w3 tp_readNumber_w4 tp_readNumber_w5 tp_readNumber_w6 rfl (by decide)
def tp_readSigned_ct : List sl_Ct := [(2, 0, 10, tp_skip_pt), (2, 0, 10, tp_readNumber_pt)]
theorem tp_readSigned_hc (g : sl_G) : sl_HC g sl_R10 2 tp_readSigned_ct [(36, 0), (40, 0)] := sl_HC_cons (cs_tp_36 g (by decide)) (sl_HC_cons (cs_tp_40 g (by decide)) (sl_HC_nil g sl_R10 2))
set_option maxRecDepth 20000 in
set_option maxHeartbeats 2000000 in
theorem tp_readSigned_snd (g : sl_G) : sl_Snd g tp_readSigned_y prog_12_method_10_code 4 (some .int) 2 (tp_readSigned_pt) := by
  intro As μ Q hw h
  unfold tp_readSigned_pt at h
  split at h
  next c0 a0 a1 =>
    split at h
    next e_ =>
      subst e_
      split at h
      next e_ =>
        subst e_
        refine sl_mk2 g [true, true, false, false] (cst := [some (.inr (.inr (some (10, 43)))), some (.inl a1)]) (lv0 := [none, none, none, none]) (by decide) rfl hw rfl rfl rfl lk_tp_ok (tp_readSigned_hc g) tp_readSigned_tb rfl ?_
        intro X M
        exact ⟨_, sl_VV0, h⟩
      next => exact h.elim
    next => exact h.elim
  next => exact h.elim
def sp_valueOf (a0 : Nat) (a1 : Int32) (μ : sl_M) (Q : Int32 → sl_M → Prop) : Prop := (a1 = (0 : Int32) → Q (μ a0 2) μ) ∧ (¬ a1 = (0 : Int32) → (a1 = (1 : Int32) → Q (μ a0 3) μ) ∧ (¬ a1 = (1 : Int32) → (a1 = (2 : Int32) → Q (μ a0 4) μ) ∧ (¬ a1 = (2 : Int32) → (a1 = (3 : Int32) → sp_length a0 μ (fun r2 m1 => Q r2 m1)) ∧ (¬ a1 = (3 : Int32) → (a1 = (4 : Int32) → Q (μ a0 0) μ) ∧ (¬ a1 = (4 : Int32) → Q (μ a0 5) μ)))))
def sp_valueOf_pt : sl_PT := fun As μ Q => match As with
  | [.inr (.inr (some (c0, a0))), .inl a1] => if c0 = 9 then (sp_valueOf a0 a1 μ (fun r μ' => Q (some (.inl r)) μ')) else False
  | _ => False
def sp_valueOf_cd : List sl_Ent := [(0, .iload_n 1, 1, 0, [1], [], false), (1, .tableswitch 60 0 4 #[35, 40, 45, 50, 55], 35, 0, [61], [(0, 36), (1, 41), (2, 46), (3, 51), (4, 56)], false), (36, .aload_n 0, 1, 0, [0], [], false), (37, .getfield 19, 3, 0, [9, 2, 0, 0, 0], [], false), (40, .ireturn, 1, 0, [], [], false), (41, .aload_n 0, 1, 0, [0], [], false), (42, .getfield 22, 3, 0, [9, 3, 0, 0, 0], [], false), (45, .ireturn, 1, 0, [], [], false), (46, .aload_n 0, 1, 0, [0], [], false), (47, .getfield 25, 3, 0, [9, 4, 0, 0, 0], [], false), (50, .ireturn, 1, 0, [], [], false), (51, .aload_n 0, 1, 0, [0], [], false), (52, .invokevirtual 31, 3, 0, [0], [], false), (55, .ireturn, 1, 0, [], [], false), (56, .aload_n 0, 1, 0, [0], [], false), (57, .getfield 9, 3, 0, [9, 0, 0, 0, 0], [], false), (60, .ireturn, 1, 0, [], [], false), (61, .aload_n 0, 1, 0, [0], [], false), (62, .getfield 28, 3, 0, [9, 5, 0, 0, 0], [], false), (65, .ireturn, 1, 0, [], [], false)]
def sp_valueOf_y : MethodName := ⟨"SpanLayers$Span", "valueOf", "(I)I"⟩
theorem sp_valueOf_tb : sl_tbOK sl_R9 prog_11_method_12_code 2 (some .int) lk_sp [(31, 0)] sp_valueOf_cd = true := by decide +kernel
def sp_valueOf_ct : List sl_Ct := [(1, 0, 9, sp_length_pt)]
theorem sp_valueOf_hc (g : sl_G) : sl_HC g sl_R9 1 sp_valueOf_ct [(31, 0)] := sl_HC_cons (cs_sp_31 g (by decide)) (sl_HC_nil g sl_R9 1)
set_option maxRecDepth 20000 in
set_option maxHeartbeats 2000000 in
theorem sp_valueOf_snd (g : sl_G) : sl_Snd g sp_valueOf_y prog_11_method_12_code 2 (some .int) 1 (sp_valueOf_pt) := by
  intro As μ Q hw h
  unfold sp_valueOf_pt at h
  split at h
  next c0 a0 a1 =>
    split at h
    next e_ =>
      subst e_
      refine sl_mk2 g [true, true] (cst := [some (.inr (.inr (some (9, a0)))), some (.inl a1)]) (lv0 := [none, none]) (by decide) rfl hw rfl rfl rfl lk_sp_ok (sp_valueOf_hc g) sp_valueOf_tb rfl ?_
      intro X M
      exact ⟨_, sl_VV0, h⟩
    next => exact h.elim
  next => exact h.elim
def cn_isSo (a0 : Int32) (a1 : Int32) (a2 : Int32) (μ : sl_M) (Q : Int32 → sl_M → Prop) : Prop := (a1 = (60 : Int32) → (a0 < a2 → sl_bz (1 : Int32) = (1 : Int32) ∧ Q (1 : Int32) μ) ∧ (¬ a0 < a2 → sl_bz (0 : Int32) = (0 : Int32) ∧ Q (0 : Int32) μ)) ∧ (¬ a1 = (60 : Int32) → (a1 = (62 : Int32) → (a0 ≤ a2 → sl_bz (0 : Int32) = (0 : Int32) ∧ Q (0 : Int32) μ) ∧ (¬ a0 ≤ a2 → sl_bz (1 : Int32) = (1 : Int32) ∧ Q (1 : Int32) μ)) ∧ (¬ a1 = (62 : Int32) → (a0 = a2 → sl_bz (1 : Int32) = (1 : Int32) ∧ Q (1 : Int32) μ) ∧ (¬ a0 = a2 → sl_bz (0 : Int32) = (0 : Int32) ∧ Q (0 : Int32) μ)))
def cn_isSo_pt : sl_PT := fun As μ Q => match As with
  | [.inl a0, .inl a1, .inl a2] => cn_isSo a0 a1 a2 μ (fun r μ' => Q (some (.inl r)) μ')
  | _ => False
def cn_isSo_cd : List sl_Ent := [(0, .iload_n 1, 1, 0, [1], [], false), (1, .lookupswitch 49 #[(60, 27), (62, 38)], 27, 0, [50], [(60, 28), (62, 39)], false), (28, .iload_n 0, 1, 0, [0], [], false), (29, .iload_n 2, 1, 0, [2], [], false), (30, .if_icmp .ge 7, 3, 0, [37], [], false), (33, .iconst 1, 1, 1, [], [], false), (34, .goto 4, 3, 0, [38], [], false), (37, .iconst 0, 1, 0, [], [], false), (38, .ireturn, 1, 0, [1], [], false), (39, .iload_n 0, 1, 0, [0], [], false), (40, .iload_n 2, 1, 0, [2], [], false), (41, .if_icmp .le 7, 3, 0, [48], [], false), (44, .iconst 1, 1, 1, [], [], false), (45, .goto 4, 3, 0, [49], [], false), (48, .iconst 0, 1, 0, [], [], false), (49, .ireturn, 1, 0, [1], [], false), (50, .iload_n 0, 1, 0, [0], [], false), (51, .iload_n 2, 1, 0, [2], [], false), (52, .if_icmp .ne 7, 3, 0, [59], [], false), (55, .iconst 1, 1, 1, [], [], false), (56, .goto 4, 3, 0, [60], [], false), (59, .iconst 0, 1, 0, [], [], false), (60, .ireturn, 1, 0, [1], [], false)]
def cn_isSo_y : MethodName := ⟨"SpanLayers$Condition", "isSo", "(III)Z"⟩
theorem cn_isSo_tb : sl_tbOK sl_R2 prog_4_method_7_code 3 (some .boolean) lk_cn [] cn_isSo_cd = true := by decide +kernel
def cn_isSo_ct : List sl_Ct := []
theorem cn_isSo_hc (g : sl_G) : sl_HC g sl_R2 0 cn_isSo_ct [] := sl_HC_nil g sl_R2 0
set_option maxRecDepth 20000 in
set_option maxHeartbeats 2000000 in
theorem cn_isSo_snd (g : sl_G) : sl_Snd g cn_isSo_y prog_4_method_7_code 3 (some .boolean) 0 (cn_isSo_pt) := by
  intro As μ Q hw h
  unfold cn_isSo_pt at h
  split at h
  next a0 a1 a2 =>
    refine sl_mk2 g [true, true, true] (cst := [some (.inl a0), some (.inl a1), some (.inl a2)]) (lv0 := [none, none, none]) (by decide) rfl hw rfl rfl rfl lk_cn_ok (cn_isSo_hc g) cn_isSo_tb rfl ?_
    intro X M
    exact ⟨_, sl_VV0, h⟩
  next => exact h.elim
def ix_allBits (μ : sl_M) (Q : Int32 → sl_M → Prop) : Prop := ix_bitsMeeting (0 : Int32) (999 : Int32) μ (fun r2 m1 => Q r2 m1)
def ix_allBits_pt : sl_PT := fun As μ Q => match As with
  | [.inr (.inr (some (c0, a0)))] => if c0 = 5 then (if a0 = 1 then (ix_allBits μ (fun r μ' => Q (some (.inl r)) μ')) else False) else False
  | _ => False
def ix_allBits_cd : List sl_Ent := [(0, .aload_n 0, 1, 0, [0], [], false), (1, .iconst 0, 1, 0, [], [], false), (2, .sipush 999, 3, 999, [], [], false), (5, .invokevirtual 72, 3, 0, [0], [], false), (8, .ireturn, 1, 0, [], [], false)]
def ix_allBits_y : MethodName := ⟨"SpanLayers$Index", "allBits", "()I"⟩
theorem ix_allBits_tb : sl_tbOK sl_R5 prog_7_method_10_code 1 (some .int) lk_ix [(72, 0)] ix_allBits_cd = true := by decide +kernel
def ix_allBits_ct : List sl_Ct := [(3, 0, 5, ix_bitsMeeting_pt)]
theorem ix_allBits_hc (g : sl_G) : sl_HC g sl_R5 2 ix_allBits_ct [(72, 0)] := sl_HC_cons (cs_ix_72 g (by decide)) (sl_HC_nil g sl_R5 2)
set_option maxRecDepth 20000 in
set_option maxHeartbeats 2000000 in
theorem ix_allBits_snd (g : sl_G) : sl_Snd g ix_allBits_y prog_7_method_10_code 1 (some .int) 2 (ix_allBits_pt) := by
  intro As μ Q hw h
  unfold ix_allBits_pt at h
  split at h
  next c0 a0 =>
    split at h
    next e_ =>
      subst e_
      split at h
      next e_ =>
        subst e_
        refine sl_mk2 g [true] (cst := [some (.inr (.inr (some (5, 1))))]) (lv0 := [none]) (by decide) rfl hw rfl rfl rfl lk_ix_ok (ix_allBits_hc g) ix_allBits_tb rfl ?_
        intro X M
        exact ⟨_, sl_VV0, h⟩
      next => exact h.elim
    next => exact h.elim
  next => exact h.elim
def tp_finish (μ : sl_M) (Q : Int32 → sl_M → Prop) : Prop := ((μ 43 2) < (μ 43 1) → tp_fail (μ 43 2) μ (fun m1 => ∀ v2, v2 = (m1 43 3) → tp_empty m1 (fun m3 => Q v2 m3))) ∧ (¬ (μ 43 2) < (μ 43 1) → ∀ v4, v4 = (μ 43 3) → tp_empty μ (fun m5 => Q v4 m5))
def tp_finish_pt : sl_PT := fun As μ Q => match As with
  | [.inr (.inr (some (c0, a0)))] => if c0 = 10 then (if a0 = 43 then (tp_finish μ (fun r μ' => Q (some (.inl r)) μ')) else False) else False
  | _ => False
def tp_finish_cd : List sl_Ent := [(0, .aload_n 0, 1, 0, [0], [], false), (1, .getfield 22, 3, 0, [10, 2, 0, 0, 0], [], false), (4, .aload_n 0, 1, 0, [0], [], false), (5, .getfield 19, 3, 0, [10, 1, 0, 0, 0], [], false), (8, .if_icmp .ge 11, 3, 0, [19], [], false), (11, .aload_n 0, 1, 0, [0], [], false), (12, .aload_n 0, 1, 0, [0], [], false), (13, .getfield 22, 3, 0, [10, 2, 0, 0, 0], [], false), (16, .invokevirtual 25, 3, 0, [0], [], false), (19, .aload_n 0, 1, 0, [0], [], false), (20, .getfield 15, 3, 0, [10, 3, 0, 0, 0], [], false), (23, .istore_n 1, 1, 0, [1, 1], [], false), (24, .aload_n 0, 1, 0, [0], [], false), (25, .invokevirtual 29, 3, 0, [1], [], false), (28, .iload_n 1, 1, 0, [1], [], false), (29, .ireturn, 1, 0, [], [], false)]
def tp_finish_y : MethodName := ⟨"SpanLayers$Tape", "finish", "()I"⟩
theorem tp_finish_tb : sl_tbOK sl_R10 prog_12_method_4_code 2 (some .int) lk_tp [(25, 0), (29, 0)] tp_finish_cd = true := by decide +kernel
theorem tp_empty_w2 : Cond.instanceMethod tp_empty_y ∈ sl_T0 := sl_in1 720 (by decide +kernel) rfl
theorem tp_empty_w3 : Cond.selects tp_empty_y.cls tp_empty_y tp_empty_y ∈ sl_T0 := sl_in1 721 (by decide +kernel) rfl
theorem tp_empty_w4 : Cond.initialized tp_empty_y.cls ∈ sl_T0 := sl_in1 90 (by decide +kernel) rfl
theorem tp_empty_w5 : Cond.code tp_empty_y prog_12_method_3_code 1 none ∈ sl_T0 := sl_in1 722 (by decide +kernel) rfl
theorem tp_empty_w6 : tp_empty_y.cls ≠ "java/lang/invoke/MethodHandle" ∧ tp_empty_y.cls ≠ "java/lang/invoke/VarHandle" ∧ (parseMethodDescriptor tp_empty_y.desc).map (fun d => d.parameters.length) = some 0 := by decide +kernel
theorem cs_tp_29 (g : sl_G) {hh : Nat} (h : 1 ≤ hh) : sl_CallS g sl_R10 29 0 10 hh 1 tp_empty_pt := sl_callV (y := tp_empty_y) (T := sl_F10) (N := 4) (tp_empty_snd g) h (by decide) (sl_in1 844 (by decide +kernel) rfl) tp_empty_w2 tp_empty_w3 tp_empty_w4 tp_empty_w5 tp_empty_w6 rfl (by decide)
def tp_finish_ct : List sl_Ct := [(2, 0, 10, tp_fail_pt), (1, 0, 10, tp_empty_pt)]
theorem tp_finish_hc (g : sl_G) : sl_HC g sl_R10 1 tp_finish_ct [(25, 0), (29, 0)] := sl_HC_cons (cs_tp_25 g (by decide)) (sl_HC_cons (cs_tp_29 g (by decide)) (sl_HC_nil g sl_R10 1))
set_option maxRecDepth 20000 in
set_option maxHeartbeats 2000000 in
theorem tp_finish_snd (g : sl_G) : sl_Snd g tp_finish_y prog_12_method_4_code 2 (some .int) 1 (tp_finish_pt) := by
  intro As μ Q hw h
  unfold tp_finish_pt at h
  split at h
  next c0 a0 =>
    split at h
    next e_ =>
      subst e_
      split at h
      next e_ =>
        subst e_
        refine sl_mk2 g [true, false] (cst := [some (.inr (.inr (some (10, 43))))]) (lv0 := [none, none]) (by decide) rfl hw rfl rfl rfl lk_tp_ok (tp_finish_hc g) tp_finish_tb rfl ?_
        intro X M
        exact ⟨_, sl_VV0, h⟩
      next => exact h.elim
    next => exact h.elim
  next => exact h.elim
def tp_readNotLess (a1 : Int32) (μ : sl_M) (Q : Int32 → sl_M → Prop) : Prop := ∀ v1, v1 = (μ 43 2) → tp_readNumber (3 : Int32) μ (fun r3 m2 => (r3 < a1 → tp_fail v1 m2 (fun m4 => Q r3 m4)) ∧ (¬ r3 < a1 → Q r3 m2))
def tp_readNotLess_pt : sl_PT := fun As μ Q => match As with
  | [.inr (.inr (some (c0, a0))), .inl a1] => if c0 = 10 then (if a0 = 43 then (tp_readNotLess a1 μ (fun r μ' => Q (some (.inl r)) μ')) else False) else False
  | _ => False
def tp_readNotLess_cd : List sl_Ent := [(0, .aload_n 0, 1, 0, [0], [], false), (1, .getfield 22, 3, 0, [10, 2, 0, 0, 0], [], false), (4, .istore_n 2, 1, 0, [2, 1], [], false), (5, .aload_n 0, 1, 0, [0], [], false), (6, .iconst 3, 1, 3, [], [], false), (7, .invokevirtual 40, 3, 0, [0], [], false), (10, .istore_n 3, 1, 0, [3], [], false), (11, .iload_n 3, 1, 0, [3], [], false), (12, .iload_n 1, 1, 0, [1], [], false), (13, .if_icmp .ge 8, 3, 0, [21], [], false), (16, .aload_n 0, 1, 0, [0], [], false), (17, .iload_n 2, 1, 0, [2], [], false), (18, .invokevirtual 25, 3, 0, [1], [], false), (21, .iload_n 3, 1, 0, [3], [], false), (22, .ireturn, 1, 0, [], [], false)]
def tp_readNotLess_y : MethodName := ⟨"SpanLayers$Tape", "readNotLess", "(I)I"⟩
theorem tp_readNotLess_tb : sl_tbOK sl_R10 prog_12_method_11_code 4 (some .int) lk_tp [(40, 0), (25, 0)] tp_readNotLess_cd = true := by decide +kernel
def tp_readNotLess_ct : List sl_Ct := [(2, 0, 10, tp_readNumber_pt), (2, 0, 10, tp_fail_pt)]
theorem tp_readNotLess_hc (g : sl_G) : sl_HC g sl_R10 2 tp_readNotLess_ct [(40, 0), (25, 0)] := sl_HC_cons (cs_tp_40 g (by decide)) (sl_HC_cons (cs_tp_25 g (by decide)) (sl_HC_nil g sl_R10 2))
set_option maxRecDepth 20000 in
set_option maxHeartbeats 2000000 in
theorem tp_readNotLess_snd (g : sl_G) : sl_Snd g tp_readNotLess_y prog_12_method_11_code 4 (some .int) 2 (tp_readNotLess_pt) := by
  intro As μ Q hw h
  unfold tp_readNotLess_pt at h
  split at h
  next c0 a0 a1 =>
    split at h
    next e_ =>
      subst e_
      split at h
      next e_ =>
        subst e_
        refine sl_mk2 g [true, true, false, false] (cst := [some (.inr (.inr (some (10, 43)))), some (.inl a1)]) (lv0 := [none, none, none, none]) (by decide) rfl hw rfl rfl rfl lk_tp_ok (tp_readNotLess_hc g) tp_readNotLess_tb rfl ?_
        intro X M
        exact ⟨_, sl_VV0, h⟩
      next => exact h.elim
    next => exact h.elim
  next => exact h.elim
def ch_held (a0 : Int32) (μ : sl_M) (Q : Int32 → sl_M → Prop) : Prop := ma_min (99 : Int32) a0 μ (fun r2 m1 => ma_max (-99 : Int32) r2 m1 (fun r4 m3 => Q r4 m3))
def ch_held_pt : sl_PT := fun As μ Q => match As with
  | [.inl a0] => ch_held a0 μ (fun r μ' => Q (some (.inl r)) μ')
  | _ => False
def ch_held_cd : List sl_Ent := [(0, .bipush (-99), 2, (-99), [], [], false), (2, .bipush 99, 2, 99, [], [], false), (4, .iload_n 0, 1, 0, [0], [], false), (5, .invokestatic 94, 3, 0, [0], [], false), (8, .invokestatic 85, 3, 0, [1], [], false), (11, .ireturn, 1, 0, [], [], false)]
def ch_held_y : MethodName := ⟨"SpanLayers$Change", "held", "(I)I"⟩
theorem ch_held_tb : sl_tbOK sl_R0 prog_2_method_7_code 1 (some .int) lk_ch [(94, 1), (85, 1)] ch_held_cd = true := by decide +kernel
theorem cs_ch_94 (g : sl_G) {hh : Nat} (h : 1 ≤ hh) : sl_CallS g sl_R0 94 1 0 hh 2 ma_min_pt := sl_callMin h (sl_in1 890 (by decide +kernel) rfl) (sl_in1 891 (by decide +kernel) rfl) (sl_in1 98 (by decide +kernel) rfl) (sl_in1 892 (by decide +kernel) rfl)
theorem cs_ch_85 (g : sl_G) {hh : Nat} (h : 1 ≤ hh) : sl_CallS g sl_R0 85 1 0 hh 2 ma_max_pt := sl_callMax h (sl_in1 889 (by decide +kernel) rfl) (sl_in1 447 (by decide +kernel) rfl) (sl_in1 98 (by decide +kernel) rfl) (sl_in1 448 (by decide +kernel) rfl)
def ch_held_ct : List sl_Ct := [(2, 1, 0, ma_min_pt), (2, 1, 0, ma_max_pt)]
theorem ch_held_hc (g : sl_G) : sl_HC g sl_R0 1 ch_held_ct [(94, 1), (85, 1)] := sl_HC_cons (cs_ch_94 g (by decide)) (sl_HC_cons (cs_ch_85 g (by decide)) (sl_HC_nil g sl_R0 1))
set_option maxRecDepth 20000 in
set_option maxHeartbeats 2000000 in
theorem ch_held_snd (g : sl_G) : sl_Snd g ch_held_y prog_2_method_7_code 1 (some .int) 1 (ch_held_pt) := by
  intro As μ Q hw h
  unfold ch_held_pt at h
  split at h
  next a0 =>
    refine sl_mk2 g [true] (cst := [some (.inl a0)]) (lv0 := [none]) (by decide) rfl hw rfl rfl rfl lk_ch_ok (ch_held_hc g) ch_held_tb rfl ?_
    intro X M
    exact ⟨_, sl_VV0, h⟩
  next => exact h.elim
def ch_takeStep (a0 : Nat) (a1 : Int32) (a2 : Int32) (a3 : Int32) (μ : sl_M) (Q : sl_M → Prop) : Prop := ∀ v1, v1 = (μ a0 2) → ∀ v2, v2 = (μ a0 3) → (a1 = (0 : Int32) → ∀ m3, m3 = sl_up μ a0 2 (v1 + a2) → ∀ m4, m4 = sl_up m3 a0 3 (v2 + a2) → Q m4) ∧ (¬ a1 = (0 : Int32) → (a1 = (1 : Int32) → ∀ m5, m5 = sl_up μ a0 2 (v1 - a2) → ∀ m6, m6 = sl_up m5 a0 3 (v2 + a2) → Q m6) ∧ (¬ a1 = (1 : Int32) → (a1 = (2 : Int32) → ma_max v1 a2 μ (fun r8 m7 => ∀ m9, m9 = sl_up m7 a0 2 r8 → ma_min v2 a3 m9 (fun r11 m10 => ∀ m12, m12 = sl_up m10 a0 3 r11 → Q m12))) ∧ (¬ a1 = (2 : Int32) → (a1 = (3 : Int32) → ∀ m13, m13 = sl_up μ a0 2 ((999 : Int32) - v2) → ∀ m14, m14 = sl_up m13 a0 3 ((999 : Int32) - v1) → Q m14) ∧ (¬ a1 = (3 : Int32) → (a1 = (4 : Int32) → ch_held ((μ a0 4) * a2) μ (fun r16 m15 => ∀ m17, m17 = sl_up m15 a0 4 r16 → Q m17)) ∧ (¬ a1 = (4 : Int32) → sp_length a0 μ (fun r19 m18 => ma_min (99 : Int32) r19 m18 (fun r21 m20 => ∀ m22, m22 = sl_up m20 a0 4 r21 → Q m22)))))))
def ch_takeStep_pt : sl_PT := fun As μ Q => match As with
  | [.inr (.inr (some (c0, a0))), .inl a1, .inl a2, .inl a3] => if c0 = 9 then (ch_takeStep a0 a1 a2 a3 μ (fun μ' => Q none μ')) else False
  | _ => False
def ch_takeStep_cd : List sl_Ent := [(0, .aload_n 0, 1, 0, [0], [], false), (1, .getfield 82, 3, 0, [9, 2, 0, 0, 0], [], false), (4, .istore 4, 2, 0, [4, 1], [], false), (6, .aload_n 0, 1, 0, [0], [], false), (7, .getfield 91, 3, 0, [9, 3, 0, 0, 0], [], false), (10, .istore 5, 2, 0, [5, 1], [], false), (12, .iload_n 1, 1, 0, [1], [], false), (13, .tableswitch 135 0 4 #[35, 54, 73, 96, 119], 35, 0, [148], [(0, 48), (1, 67), (2, 86), (3, 109), (4, 132)], false), (48, .aload_n 0, 1, 0, [0], [], false), (49, .iload 4, 2, 0, [4], [], false), (51, .iload_n 2, 1, 0, [2], [], false), (52, .iadd, 1, 0, [], [], false), (53, .putfield 82, 3, 0, [9, 2, 0], [], false), (56, .aload_n 0, 1, 0, [0], [], false), (57, .iload 5, 2, 0, [5], [], false), (59, .iload_n 2, 1, 0, [2], [], false), (60, .iadd, 1, 0, [], [], false), (61, .putfield 91, 3, 0, [9, 3, 0], [], false), (64, .goto 97, 3, 0, [161], [], false), (67, .aload_n 0, 1, 0, [0], [], false), (68, .iload 4, 2, 0, [4], [], false), (70, .iload_n 2, 1, 0, [2], [], false), (71, .isub, 1, 0, [], [], false), (72, .putfield 82, 3, 0, [9, 2, 0], [], false), (75, .aload_n 0, 1, 0, [0], [], false), (76, .iload 5, 2, 0, [5], [], false), (78, .iload_n 2, 1, 0, [2], [], false), (79, .iadd, 1, 0, [], [], false), (80, .putfield 91, 3, 0, [9, 3, 0], [], false), (83, .goto 78, 3, 0, [161], [], false), (86, .aload_n 0, 1, 0, [0], [], false), (87, .iload 4, 2, 0, [4], [], false), (89, .iload_n 2, 1, 0, [2], [], false), (90, .invokestatic 85, 3, 0, [0], [], false), (93, .putfield 82, 3, 0, [9, 2, 0], [], false), (96, .aload_n 0, 1, 0, [0], [], false), (97, .iload 5, 2, 0, [5], [], false), (99, .iload_n 3, 1, 0, [3], [], false), (100, .invokestatic 94, 3, 0, [1], [], false), (103, .putfield 91, 3, 0, [9, 3, 0], [], false), (106, .goto 55, 3, 0, [161], [], false), (109, .aload_n 0, 1, 0, [0], [], false), (110, .sipush 999, 3, 999, [], [], false), (113, .iload 5, 2, 0, [5], [], false), (115, .isub, 1, 0, [], [], false), (116, .putfield 82, 3, 0, [9, 2, 0], [], false), (119, .aload_n 0, 1, 0, [0], [], false), (120, .sipush 999, 3, 999, [], [], false), (123, .iload 4, 2, 0, [4], [], false), (125, .isub, 1, 0, [], [], false), (126, .putfield 91, 3, 0, [9, 3, 0], [], false), (129, .goto 32, 3, 0, [161], [], false), (132, .aload_n 0, 1, 0, [0], [], false), (133, .aload_n 0, 1, 0, [0], [], false), (134, .getfield 97, 3, 0, [9, 4, 0, 0, 0], [], false), (137, .iload_n 2, 1, 0, [2], [], false), (138, .imul, 1, 0, [], [], false), (139, .invokestatic 100, 3, 0, [2], [], false), (142, .putfield 97, 3, 0, [9, 4, 0], [], false), (145, .goto 16, 3, 0, [161], [], false), (148, .aload_n 0, 1, 0, [0], [], false), (149, .bipush 99, 2, 99, [], [], false), (151, .aload_n 0, 1, 0, [0], [], false), (152, .invokevirtual 103, 3, 0, [3], [], false), (155, .invokestatic 94, 3, 0, [1], [], false), (158, .putfield 97, 3, 0, [9, 4, 0], [], false), (161, .return_, 1, 0, [], [], false)]
def ch_takeStep_y : MethodName := ⟨"SpanLayers$Change", "takeStep", "(LSpanLayers$Span;III)V"⟩
theorem ch_takeStep_tb : sl_tbOK sl_R0 prog_2_method_6_code 6 none lk_ch [(85, 1), (94, 1), (100, 1), (103, 0)] ch_takeStep_cd = true := by decide +kernel
theorem ch_held_w2 : Cond.static ch_held_y ∈ sl_T0 := sl_in1 894 (by decide +kernel) rfl
theorem ch_held_w4 : Cond.initialized ch_held_y.cls ∈ sl_T0 := sl_in1 92 (by decide +kernel) rfl
theorem ch_held_w5 : Cond.code ch_held_y prog_2_method_7_code 1 (some .int) ∈ sl_T0 := sl_in1 895 (by decide +kernel) rfl
theorem ch_held_w6 : ch_held_y.cls ≠ "java/lang/invoke/MethodHandle" ∧ ch_held_y.cls ≠ "java/lang/invoke/VarHandle" ∧ (parseMethodDescriptor ch_held_y.desc).map (fun d => d.parameters.length) = some 1 := by decide +kernel
theorem cs_ch_100 (g : sl_G) {hh : Nat} (h : 2 ≤ hh) : sl_CallS g sl_R0 100 1 0 hh 1 ch_held_pt := sl_callS (y := ch_held_y) (ch_held_snd g) h (by decide) (sl_in1 893 (by decide +kernel) rfl) ch_held_w2 ch_held_w4 ch_held_w5 ch_held_w6
theorem cs_ch_103 (g : sl_G) {hh : Nat} (h : 1 ≤ hh) : sl_CallS g sl_R0 103 0 9 hh 1 sp_length_pt := sl_callV (y := sp_length_y) (T := sl_F9) (N := 6) (sp_length_snd g) h (by decide) (sl_in1 896 (by decide +kernel) rfl) sp_length_w2 sp_length_w3 sp_length_w4 sp_length_w5 sp_length_w6 rfl (by decide)
def ch_takeStep_ct : List sl_Ct := [(2, 1, 0, ma_max_pt), (2, 1, 0, ma_min_pt), (1, 1, 0, ch_held_pt), (1, 0, 9, sp_length_pt)]
theorem ch_takeStep_hc (g : sl_G) : sl_HC g sl_R0 2 ch_takeStep_ct [(85, 1), (94, 1), (100, 1), (103, 0)] := sl_HC_cons (cs_ch_85 g (by decide)) (sl_HC_cons (cs_ch_94 g (by decide)) (sl_HC_cons (cs_ch_100 g (by decide)) (sl_HC_cons (cs_ch_103 g (by decide)) (sl_HC_nil g sl_R0 2))))
set_option maxRecDepth 20000 in
set_option maxHeartbeats 2000000 in
theorem ch_takeStep_snd (g : sl_G) : sl_Snd g ch_takeStep_y prog_2_method_6_code 6 none 2 (ch_takeStep_pt) := by
  intro As μ Q hw h
  unfold ch_takeStep_pt at h
  split at h
  next c0 a0 a1 a2 a3 =>
    split at h
    next e_ =>
      subst e_
      refine sl_mk2 g [true, true, true, true, false, false] (cst := [some (.inr (.inr (some (9, a0)))), some (.inl a1), some (.inl a2), some (.inl a3)]) (lv0 := [none, none, none, none, none, none]) (by decide) rfl hw rfl rfl rfl lk_ch_ok (ch_takeStep_hc g) ch_takeStep_tb rfl ?_
      intro X M
      exact ⟨_, sl_VV0, h⟩
    next => exact h.elim
  next => exact h.elim
def ch_changeOne_L2 (a1 : Nat) (Q : sl_M → Prop) : Nat → Int32 → sl_M → Prop
  | 0, _, _ => False
  | n + 1, x2, μ => (x2 < (μ 46 3) → vp_in x2 5 ∧ vp_in x2 5 ∧ vp_in x2 5 ∧ ch_takeStep a1 (μ 47 x2.toNatClampNeg) (μ 48 x2.toNatClampNeg) (μ 49 x2.toNatClampNeg) μ (fun m1 => (ch_changeOne_L2 a1 Q n) (x2 + (1 : Int32)) m1)) ∧ (¬ x2 < (μ 46 3) → ma_max (0 : Int32) (μ a1 2) μ (fun r3 m2 => ∀ m4, m4 = sl_up m2 a1 2 r3 → ma_min (999 : Int32) (m4 a1 3) m4 (fun r6 m5 => ∀ m7, m7 = sl_up m5 a1 3 r6 → ch_held (m7 a1 4) m7 (fun r9 m8 => ∀ m10, m10 = sl_up m8 a1 4 r9 → ((m10 a1 2) ≤ (m10 a1 3) → sl_bz (1 : Int32) = (1 : Int32) ∧ ∀ m11, m11 = sl_up m10 a1 1 (1 : Int32) → Q m11) ∧ (¬ (m10 a1 2) ≤ (m10 a1 3) → sl_bz (0 : Int32) = (0 : Int32) ∧ ∀ m12, m12 = sl_up m10 a1 1 (0 : Int32) → Q m12)))))
def ch_changeOne (a1 : Nat) (μ : sl_M) (Q : sl_M → Prop) : Prop := ∃ n13, ch_changeOne_L2 a1 Q n13 (0 : Int32) μ
def ch_changeOne_pt : sl_PT := fun As μ Q => match As with
  | [.inr (.inr (some (c0, a0))), .inr (.inr (some (c1, a1)))] => if c0 = 0 then (if c1 = 9 then (if a0 = 46 then (ch_changeOne a1 μ (fun μ' => Q none μ')) else False) else False) else False
  | _ => False
def ch_changeOne_cd : List sl_Ent := [(0, .iconst 0, 1, 0, [], [], false), (1, .istore_n 2, 1, 0, [2], [], false), (2, .iload_n 2, 1, 0, [2], [], true), (3, .aload_n 0, 1, 0, [0], [], false), (4, .getfield 21, 3, 0, [0, 3, 0, 0, 0], [], false), (7, .if_icmp .ge 31, 3, 0, [38], [], false), (10, .aload_n 1, 1, 0, [1], [], false), (11, .aload_n 0, 1, 0, [0], [], false), (12, .getfield 9, 3, 0, [0, 0, 2, 20, 1], [], false), (15, .iload_n 2, 1, 0, [2], [], false), (16, .iaload, 1, 0, [], [], false), (17, .aload_n 0, 1, 0, [0], [], false), (18, .getfield 15, 3, 0, [0, 1, 2, 20, 2], [], false), (21, .iload_n 2, 1, 0, [2], [], false), (22, .iaload, 1, 0, [], [], false), (23, .aload_n 0, 1, 0, [0], [], false), (24, .getfield 18, 3, 0, [0, 2, 2, 20, 3], [], false), (27, .iload_n 2, 1, 0, [2], [], false), (28, .iaload, 1, 0, [], [], false), (29, .invokestatic 78, 3, 0, [0], [], false), (32, .iinc 2 1, 3, 1, [], [], false), (35, .goto (-33), 3, 0, [2], [], false), (38, .aload_n 1, 1, 0, [1], [], false), (39, .iconst 0, 1, 0, [], [], false), (40, .aload_n 1, 1, 0, [1], [], false), (41, .getfield 82, 3, 0, [9, 2, 0, 0, 0], [], false), (44, .invokestatic 85, 3, 0, [1], [], false), (47, .putfield 82, 3, 0, [9, 2, 0], [], false), (50, .aload_n 1, 1, 0, [1], [], false), (51, .sipush 999, 3, 999, [], [], false), (54, .aload_n 1, 1, 0, [1], [], false), (55, .getfield 91, 3, 0, [9, 3, 0, 0, 0], [], false), (58, .invokestatic 94, 3, 0, [2], [], false), (61, .putfield 91, 3, 0, [9, 3, 0], [], false), (64, .aload_n 1, 1, 0, [1], [], false), (65, .aload_n 1, 1, 0, [1], [], false), (66, .getfield 97, 3, 0, [9, 4, 0, 0, 0], [], false), (69, .invokestatic 100, 3, 0, [3], [], false), (72, .putfield 97, 3, 0, [9, 4, 0], [], false), (75, .aload_n 1, 1, 0, [1], [], false), (76, .aload_n 1, 1, 0, [1], [], false), (77, .getfield 82, 3, 0, [9, 2, 0, 0, 0], [], false), (80, .aload_n 1, 1, 0, [1], [], false), (81, .getfield 91, 3, 0, [9, 3, 0, 0, 0], [], false), (84, .if_icmp .gt 7, 3, 0, [91], [], false), (87, .iconst 1, 1, 1, [], [], false), (88, .goto 4, 3, 0, [92], [], false), (91, .iconst 0, 1, 0, [], [], false), (92, .putfield 61, 3, 0, [9, 1, 1], [], false), (95, .return_, 1, 0, [], [], false)]
def ch_changeOne_y : MethodName := ⟨"SpanLayers$Change", "changeOne", "(LSpanLayers$Span;)V"⟩
theorem ch_changeOne_tb : sl_tbOK sl_R0 prog_2_method_5_code 3 none lk_ch [(78, 1), (85, 1), (94, 1), (100, 1)] ch_changeOne_cd = true := by decide +kernel
theorem ch_takeStep_w2 : Cond.static ch_takeStep_y ∈ sl_T0 := sl_in1 887 (by decide +kernel) rfl
theorem ch_takeStep_w4 : Cond.initialized ch_takeStep_y.cls ∈ sl_T0 := sl_in1 92 (by decide +kernel) rfl
theorem ch_takeStep_w5 : Cond.code ch_takeStep_y prog_2_method_6_code 6 none ∈ sl_T0 := sl_in1 888 (by decide +kernel) rfl
theorem ch_takeStep_w6 : ch_takeStep_y.cls ≠ "java/lang/invoke/MethodHandle" ∧ ch_takeStep_y.cls ≠ "java/lang/invoke/VarHandle" ∧ (parseMethodDescriptor ch_takeStep_y.desc).map (fun d => d.parameters.length) = some 4 := by decide +kernel
theorem cs_ch_78 (g : sl_G) {hh : Nat} (h : 3 ≤ hh) : sl_CallS g sl_R0 78 1 0 hh 4 ch_takeStep_pt := sl_callS (y := ch_takeStep_y) (ch_takeStep_snd g) h (by decide) (sl_in1 886 (by decide +kernel) rfl) ch_takeStep_w2 ch_takeStep_w4 ch_takeStep_w5 ch_takeStep_w6
def ch_changeOne_ct : List sl_Ct := [(4, 1, 0, ch_takeStep_pt), (2, 1, 0, ma_max_pt), (2, 1, 0, ma_min_pt), (1, 1, 0, ch_held_pt)]
theorem ch_changeOne_hc (g : sl_G) : sl_HC g sl_R0 3 ch_changeOne_ct [(78, 1), (85, 1), (94, 1), (100, 1)] := sl_HC_cons (cs_ch_78 g (by decide)) (sl_HC_cons (cs_ch_85 g (by decide)) (sl_HC_cons (cs_ch_94 g (by decide)) (sl_HC_cons (cs_ch_100 g (by decide)) (sl_HC_nil g sl_R0 3))))
set_option maxRecDepth 20000 in
set_option maxHeartbeats 2000000 in
theorem ch_changeOne_snd (g : sl_G) : sl_Snd g ch_changeOne_y prog_2_method_5_code 3 none 3 (ch_changeOne_pt) := by
  intro As μ Q hw h
  unfold ch_changeOne_pt at h
  split at h
  next c0 a0 c1 a1 =>
    split at h
    next e_ =>
      subst e_
      split at h
      next e_ =>
        subst e_
        split at h
        next e_ =>
          subst e_
          refine sl_mk2 g [true, true, false] (cst := [some (.inr (.inr (some (0, 46)))), some (.inr (.inr (some (9, a1))))]) (lv0 := [none, none, none]) (by decide) rfl hw rfl rfl rfl lk_ch_ok (ch_changeOne_hc g) ch_changeOne_tb rfl ?_
          intro X M
          have v2 := sl_extL M sl_VV0 2 (fun n lv st μ => match lv, st with | [_, _, some (.inl x2)], [] => ch_changeOne_L2 a1 (fun μ' => Q none μ') n x2 μ | _, _ => False) (by
              intro lv st μ h
              split at h
              · exact h
              · exact h) (by
              intro n2 w2
              refine ⟨_, w2, ?_⟩
              intro lv st μ h
              split at h
              · exact h
              · exact h.elim)
          exact ⟨_, v2, h⟩
        next => exact h.elim
      next => exact h.elim
    next => exact h.elim
  next => exact h.elim
def ch_changeAll_L5 (a2 : Int32) (Q : Int32 → sl_M → Prop) : Nat → Int32 → Int32 → sl_M → Prop
  | 0, _, _, _ => False
  | n + 1, x3, x4, μ => (x4 < (30 : Int32) → vp_in x4 30 ∧ ((sl_bz (μ (4 + x4.toNatClampNeg) 1)) = (0 : Int32) → (ch_changeAll_L5 a2 Q n) x3 (x4 + (1 : Int32)) μ) ∧ (¬ (sl_bz (μ (4 + x4.toNatClampNeg) 1)) = (0 : Int32) → sx_isOfSet x4 a2 μ (fun r2 m1 => (r2 = (0 : Int32) → (ch_changeAll_L5 a2 Q n) x3 (x4 + (1 : Int32)) m1) ∧ (¬ r2 = (0 : Int32) → vp_in x4 30 ∧ ch_changeOne (4 + x4.toNatClampNeg) m1 (fun m3 => (ch_changeAll_L5 a2 Q n) (x3 + (1 : Int32)) (x4 + (1 : Int32)) m3))))) ∧ (¬ x4 < (30 : Int32) → ix_relayer μ (fun m4 => Q x3 m4))
def ch_changeAll (a2 : Int32) (μ : sl_M) (Q : Int32 → sl_M → Prop) : Prop := ∃ n5, ch_changeAll_L5 a2 Q n5 (0 : Int32) (0 : Int32) μ
def ch_changeAll_pt : sl_PT := fun As μ Q => match As with
  | [.inr (.inr (some (c0, a0))), .inr (.inr (some (c1, a1))), .inl a2] => if c0 = 0 then (if c1 = 5 then (if a0 = 46 then (if a1 = 1 then (ch_changeAll a2 μ (fun r μ' => Q (some (.inl r)) μ')) else False) else False) else False) else False
  | _ => False
def ch_changeAll_cd : List sl_Ent := [(0, .iconst 0, 1, 0, [], [], false), (1, .istore_n 3, 1, 0, [3], [], false), (2, .iconst 0, 1, 0, [], [], false), (3, .istore 4, 2, 0, [4], [], false), (5, .iload 4, 2, 0, [4], [], true), (7, .bipush 30, 2, 30, [], [], false), (9, .if_icmp .ge 45, 3, 0, [54], [], false), (12, .aload_n 1, 1, 0, [1], [], false), (13, .getfield 55, 3, 0, [5, 0, 2, 22, 1], [], false), (16, .iload 4, 2, 0, [4], [], false), (18, .aaload, 1, 0, [], [], false), (19, .getfield 61, 3, 0, [9, 1, 1, 0, 0], [], false), (22, .ifCond .eq 26, 3, 0, [48], [], false), (25, .iload 4, 2, 0, [4], [], false), (27, .iload_n 2, 1, 0, [2], [], false), (28, .invokestatic 67, 3, 0, [0], [], false), (31, .ifCond .eq 17, 3, 0, [48], [], false), (34, .aload_n 0, 1, 0, [0], [], false), (35, .aload_n 1, 1, 0, [1], [], false), (36, .getfield 55, 3, 0, [5, 0, 2, 22, 1], [], false), (39, .iload 4, 2, 0, [4], [], false), (41, .aaload, 1, 0, [], [], false), (42, .invokevirtual 71, 3, 0, [1], [], false), (45, .iinc 3 1, 3, 1, [], [], false), (48, .iinc 4 1, 3, 1, [], [], false), (51, .goto (-46), 3, 0, [5], [], false), (54, .aload_n 1, 1, 0, [1], [], false), (55, .invokevirtual 75, 3, 0, [2], [], false), (58, .iload_n 3, 1, 0, [3], [], false), (59, .ireturn, 1, 0, [], [], false)]
def ch_changeAll_y : MethodName := ⟨"SpanLayers$Change", "changeAll", "(LSpanLayers$Index;I)I"⟩
theorem ch_changeAll_tb : sl_tbOK sl_R0 prog_2_method_4_code 5 (some .int) lk_ch [(67, 1), (71, 0), (75, 0)] ch_changeAll_cd = true := by decide +kernel
theorem cs_ch_67 (g : sl_G) {hh : Nat} (h : 1 ≤ hh) : sl_CallS g sl_R0 67 1 0 hh 2 sx_isOfSet_pt := sl_callN (host := "SpanLayers") (y := sx_isOfSet_y) (sx_isOfSet_snd g) h (by decide) (List.mem_of_getElem? (i := 12) rfl) sx_isOfSet_w2 sx_isOfSet_w4 sx_isOfSet_w5 sx_isOfSet_w6
theorem ch_changeOne_w2 : Cond.instanceMethod ch_changeOne_y ∈ sl_T0 := sl_in1 884 (by decide +kernel) rfl
theorem ch_changeOne_w3 : Cond.selects ch_changeOne_y.cls ch_changeOne_y ch_changeOne_y ∈ sl_T0 := sl_in1 16 (by decide +kernel) rfl
theorem ch_changeOne_w4 : Cond.initialized ch_changeOne_y.cls ∈ sl_T0 := sl_in1 92 (by decide +kernel) rfl
theorem ch_changeOne_w5 : Cond.code ch_changeOne_y prog_2_method_5_code 3 none ∈ sl_T0 := sl_in1 885 (by decide +kernel) rfl
theorem ch_changeOne_w6 : ch_changeOne_y.cls ≠ "java/lang/invoke/MethodHandle" ∧ ch_changeOne_y.cls ≠ "java/lang/invoke/VarHandle" ∧ (parseMethodDescriptor ch_changeOne_y.desc).map (fun d => d.parameters.length) = some 1 := by decide +kernel
theorem cs_ch_71 (g : sl_G) {hh : Nat} (h : 4 ≤ hh) : sl_CallS g sl_R0 71 0 0 hh 2 ch_changeOne_pt := sl_callV (y := ch_changeOne_y) (T := sl_F0) (N := 4) (ch_changeOne_snd g) h (by decide) (sl_in1 882 (by decide +kernel) rfl) ch_changeOne_w2 ch_changeOne_w3 ch_changeOne_w4 ch_changeOne_w5 ch_changeOne_w6 rfl (by decide)
theorem cs_ch_75 (g : sl_G) {hh : Nat} (h : 5 ≤ hh) : sl_CallS g sl_R0 75 0 5 hh 1 ix_relayer_pt := sl_callV (y := ix_relayer_y) (T := sl_F5) (N := 2) (ix_relayer_snd g) h (by decide) (sl_in1 897 (by decide +kernel) rfl) ix_relayer_w2 ix_relayer_w3 ix_relayer_w4 ix_relayer_w5 ix_relayer_w6 rfl (by decide)
def ch_changeAll_ct : List sl_Ct := [(2, 1, 0, sx_isOfSet_pt), (2, 0, 0, ch_changeOne_pt), (1, 0, 5, ix_relayer_pt)]
theorem ch_changeAll_hc (g : sl_G) : sl_HC g sl_R0 5 ch_changeAll_ct [(67, 1), (71, 0), (75, 0)] := sl_HC_cons (cs_ch_67 g (by decide)) (sl_HC_cons (cs_ch_71 g (by decide)) (sl_HC_cons (cs_ch_75 g (by decide)) (sl_HC_nil g sl_R0 5)))
set_option maxRecDepth 20000 in
set_option maxHeartbeats 2000000 in
theorem ch_changeAll_snd (g : sl_G) : sl_Snd g ch_changeAll_y prog_2_method_4_code 5 (some .int) 5 (ch_changeAll_pt) := by
  intro As μ Q hw h
  unfold ch_changeAll_pt at h
  split at h
  next c0 a0 c1 a1 a2 =>
    split at h
    next e_ =>
      subst e_
      split at h
      next e_ =>
        subst e_
        split at h
        next e_ =>
          subst e_
          split at h
          next e_ =>
            subst e_
            refine sl_mk2 g [true, true, true, false, false] (cst := [some (.inr (.inr (some (0, 46)))), some (.inr (.inr (some (5, 1)))), some (.inl a2)]) (lv0 := [none, none, none, none, none]) (by decide) rfl hw rfl rfl rfl lk_ch_ok (ch_changeAll_hc g) ch_changeAll_tb rfl ?_
            intro X M
            have v5 := sl_extL M sl_VV0 5 (fun n lv st μ => match lv, st with | [_, _, _, some (.inl x3), some (.inl x4)], [] => ch_changeAll_L5 a2 (fun r μ' => Q (some (.inl r)) μ') n x3 x4 μ | _, _ => False) (by
                intro lv st μ h
                split at h
                · exact h
                · exact h) (by
                intro n5 w5
                refine ⟨_, w5, ?_⟩
                intro lv st μ h
                split at h
                · exact h
                · exact h.elim)
            exact ⟨_, v5, h⟩
          next => exact h.elim
        next => exact h.elim
      next => exact h.elim
    next => exact h.elim
  next => exact h.elim
def pa_readFrom_B76 (Q : sl_M → Prop) (k9 : Int32 → Int32 → sl_M → Prop) : Int32 → sl_M → Prop
  | x3, μ => ∀ m16, m16 = sl_up μ 50 3 ((μ 50 3) + (1 : Int32)) → tp_skip (59 : Int32) m16 (fun r18 m17 => k9 r18 (x3 + (1 : Int32)) m17)
def pa_readFrom_L9 (Q : sl_M → Prop) : Nat → Int32 → Int32 → sl_M → Prop
  | 0, _, _, _ => False
  | n + 1, x2, x3, μ => (x3 < (20 : Int32) → (x2 = (0 : Int32) → (x2 = (0 : Int32) → Q μ) ∧ (¬ x2 = (0 : Int32) → tp_fail (μ 43 2) μ (fun m1 => Q m1))) ∧ (¬ x2 = (0 : Int32) → tp_readNumber (3 : Int32) μ (fun r3 m2 => vp_in x3 20 ∧ ∀ m4, m4 = sl_up m2 51 x3.toNatClampNeg r3 → tp_expect (45 : Int32) m4 (fun m5 => vp_in x3 20 ∧ tp_readNotLess (m5 51 x3.toNatClampNeg) m5 (fun r7 m6 => vp_in x3 20 ∧ ∀ m8, m8 = sl_up m6 52 x3.toNatClampNeg r7 → tp_skip (58 : Int32) m8 (fun r10 m9 => (r10 = (0 : Int32) → vp_in x3 20 ∧ ∀ m11, m11 = sl_up m9 53 x3.toNatClampNeg (1 : Int32) → pa_readFrom_B76 Q (pa_readFrom_L9 Q n) x3 m11) ∧ (¬ r10 = (0 : Int32) → tp_readSigned (2 : Int32) m9 (fun r13 m12 => vp_in x3 20 ∧ ∀ m14, m14 = sl_up m12 53 x3.toNatClampNeg r13 → pa_readFrom_B76 Q (pa_readFrom_L9 Q n) x3 m14)))))))) ∧ (¬ x3 < (20 : Int32) → (x2 = (0 : Int32) → Q μ) ∧ (¬ x2 = (0 : Int32) → tp_fail (μ 43 2) μ (fun m15 => Q m15)))
def pa_readFrom (μ : sl_M) (Q : sl_M → Prop) : Prop := ∀ m19, m19 = sl_up μ 50 3 (0 : Int32) → ∃ n20, pa_readFrom_L9 Q n20 (1 : Int32) (0 : Int32) m19
def pa_readFrom_pt : sl_PT := fun As μ Q => match As with
  | [.inr (.inr (some (c0, a0))), .inr (.inr (some (c1, a1)))] => if c0 = 7 then (if c1 = 10 then (if a0 = 50 then (if a1 = 43 then (pa_readFrom μ (fun μ' => Q none μ')) else False) else False) else False) else False
  | _ => False
def pa_readFrom_cd : List sl_Ent := [(0, .aload_n 0, 1, 0, [0], [], false), (1, .iconst 0, 1, 0, [], [], false), (2, .putfield 21, 3, 0, [7, 3, 0], [], false), (5, .iconst 1, 1, 1, [], [], false), (6, .istore_n 2, 1, 0, [2], [], false), (7, .iconst 0, 1, 0, [], [], false), (8, .istore_n 3, 1, 0, [3], [], false), (9, .iload_n 3, 1, 0, [3], [], true), (10, .bipush 20, 2, 20, [], [], false), (12, .if_icmp .ge 87, 3, 0, [99], [], false), (15, .iload_n 2, 1, 0, [2], [], false), (16, .ifCond .eq 83, 3, 0, [99], [], false), (19, .aload_n 0, 1, 0, [0], [], false), (20, .getfield 9, 3, 0, [7, 0, 2, 20, 1], [], false), (23, .iload_n 3, 1, 0, [3], [], false), (24, .aload_n 1, 1, 0, [1], [], false), (25, .iconst 3, 1, 3, [], [], false), (26, .invokevirtual 25, 3, 0, [0], [], false), (29, .iastore, 1, 0, [], [], false), (30, .aload_n 1, 1, 0, [1], [], false), (31, .bipush 45, 2, 45, [], [], false), (33, .invokevirtual 31, 3, 0, [1], [], false), (36, .aload_n 0, 1, 0, [0], [], false), (37, .getfield 15, 3, 0, [7, 1, 2, 20, 2], [], false), (40, .iload_n 3, 1, 0, [3], [], false), (41, .aload_n 1, 1, 0, [1], [], false), (42, .aload_n 0, 1, 0, [0], [], false), (43, .getfield 9, 3, 0, [7, 0, 2, 20, 1], [], false), (46, .iload_n 3, 1, 0, [3], [], false), (47, .iaload, 1, 0, [], [], false), (48, .invokevirtual 35, 3, 0, [2], [], false), (51, .iastore, 1, 0, [], [], false), (52, .aload_n 0, 1, 0, [0], [], false), (53, .getfield 18, 3, 0, [7, 2, 2, 20, 3], [], false), (56, .iload_n 3, 1, 0, [3], [], false), (57, .aload_n 1, 1, 0, [1], [], false), (58, .bipush 58, 2, 58, [], [], false), (60, .invokevirtual 38, 3, 0, [3], [], false), (63, .ifCond .eq 11, 3, 0, [74], [], false), (66, .aload_n 1, 1, 0, [1], [], false), (67, .iconst 2, 1, 2, [], [], false), (68, .invokevirtual 42, 3, 0, [4], [], false), (71, .goto 4, 3, 0, [75], [], false), (74, .iconst 1, 1, 1, [], [], false), (75, .iastore, 1, 0, [], [], false), (76, .aload_n 0, 1, 0, [0], [], true), (77, .dup, 1, 0, [], [], false), (78, .getfield 21, 3, 0, [7, 3, 0, 0, 0], [], false), (81, .iconst 1, 1, 1, [], [], false), (82, .iadd, 1, 0, [], [], false), (83, .putfield 21, 3, 0, [7, 3, 0], [], false), (86, .aload_n 1, 1, 0, [1], [], false), (87, .bipush 59, 2, 59, [], [], false), (89, .invokevirtual 38, 3, 0, [3], [], false), (92, .istore_n 2, 1, 0, [2], [], false), (93, .iinc 3 1, 3, 1, [], [], false), (96, .goto (-87), 3, 0, [9], [], false), (99, .iload_n 2, 1, 0, [2], [], false), (100, .ifCond .eq 11, 3, 0, [111], [], false), (103, .aload_n 1, 1, 0, [1], [], false), (104, .aload_n 1, 1, 0, [1], [], false), (105, .getfield 45, 3, 0, [10, 2, 0, 0, 0], [], false), (108, .invokevirtual 48, 3, 0, [5], [], false), (111, .return_, 1, 0, [], [], false)]
def pa_readFrom_y : MethodName := ⟨"SpanLayers$Parts", "readFrom", "(LSpanLayers$Tape;)V"⟩
theorem pa_readFrom_tb : sl_tbOK sl_R7 prog_9_method_2_code 4 none lk_pa [(25, 0), (31, 0), (35, 0), (38, 0), (42, 0), (48, 0)] pa_readFrom_cd = true := by decide +kernel
theorem cs_pa_25 (g : sl_G) {hh : Nat} (h : 2 ≤ hh) : sl_CallS g sl_R7 25 0 10 hh 2 tp_readNumber_pt := sl_callV (y := tp_readNumber_y) (T := sl_F10) (N := 4) (tp_readNumber_snd g) h (by decide) (sl_in1 906 (by decide +kernel) rfl) tp_readNumber_w2 tp_readNumber_w3 tp_readNumber_w4 tp_readNumber_w5 tp_readNumber_w6 rfl (by decide)
theorem tp_expect_w2 : Cond.instanceMethod tp_expect_y ∈ sl_T0 := sl_in1 749 (by decide +kernel) rfl
theorem tp_expect_w3 : Cond.selects tp_expect_y.cls tp_expect_y tp_expect_y ∈ sl_T0 := sl_in1 750 (by decide +kernel) rfl
theorem tp_expect_w4 : Cond.initialized tp_expect_y.cls ∈ sl_T0 := sl_in1 90 (by decide +kernel) rfl
theorem tp_expect_w5 : Cond.code tp_expect_y prog_12_method_8_code 2 none ∈ sl_T0 := sl_in1 751 (by decide +kernel) rfl
theorem tp_expect_w6 : tp_expect_y.cls ≠ "java/lang/invoke/MethodHandle" ∧ tp_expect_y.cls ≠ "java/lang/invoke/VarHandle" ∧ (parseMethodDescriptor tp_expect_y.desc).map (fun d => d.parameters.length) = some 1 := by decide +kernel
theorem cs_pa_31 (g : sl_G) {hh : Nat} (h : 3 ≤ hh) : sl_CallS g sl_R7 31 0 10 hh 2 tp_expect_pt := sl_callV (y := tp_expect_y) (T := sl_F10) (N := 4) (tp_expect_snd g) h (by decide) (sl_in1 907 (by decide +kernel) rfl) tp_expect_w2 tp_expect_w3 tp_expect_w4 tp_expect_w5 tp_expect_w6 rfl (by decide)
theorem tp_readNotLess_w2 : Cond.instanceMethod tp_readNotLess_y ∈ sl_T0 := sl_in1 873 (by decide +kernel) rfl
theorem tp_readNotLess_w3 : Cond.selects tp_readNotLess_y.cls tp_readNotLess_y tp_readNotLess_y ∈ sl_T0 := sl_in1 874 (by decide +kernel) rfl
theorem tp_readNotLess_w4 : Cond.initialized tp_readNotLess_y.cls ∈ sl_T0 := sl_in1 90 (by decide +kernel) rfl
theorem tp_readNotLess_w5 : Cond.code tp_readNotLess_y prog_12_method_11_code 4 (some .int) ∈ sl_T0 := sl_in1 875 (by decide +kernel) rfl
theorem tp_readNotLess_w6 : tp_readNotLess_y.cls ≠ "java/lang/invoke/MethodHandle" ∧ tp_readNotLess_y.cls ≠ "java/lang/invoke/VarHandle" ∧ (parseMethodDescriptor tp_readNotLess_y.desc).map (fun d => d.parameters.length) = some 1 := by decide +kernel
theorem cs_pa_35 (g : sl_G) {hh : Nat} (h : 3 ≤ hh) : sl_CallS g sl_R7 35 0 10 hh 2 tp_readNotLess_pt := sl_callV (y := tp_readNotLess_y) (T := sl_F10) (N := 4) (tp_readNotLess_snd g) h (by decide) (sl_in1 908 (by decide +kernel) rfl) tp_readNotLess_w2 tp_readNotLess_w3 tp_readNotLess_w4 tp_readNotLess_w5 tp_readNotLess_w6 rfl (by decide)
theorem cs_pa_38 (g : sl_G) {hh : Nat} (h : 2 ≤ hh) : sl_CallS g sl_R7 38 0 10 hh 2 tp_skip_pt := sl_callV (y := tp_skip_y) (T := sl_F10) (N := 4) (tp_skip_snd g) h (by decide) (sl_in1 909 (by decide +kernel) rfl) tp_skip_w2 tp_skip_w3 tp_skip_w4 tp_skip_w5 tp_skip_w6 rfl (by decide)
theorem tp_readSigned_w2 : Cond.instanceMethod tp_readSigned_y ∈ sl_T0 := sl_in1 822 (by decide +kernel) rfl
theorem tp_readSigned_w3 : Cond.selects tp_readSigned_y.cls tp_readSigned_y tp_readSigned_y ∈ sl_T0 := sl_in1 823 (by decide +kernel) rfl
theorem tp_readSigned_w4 : Cond.initialized tp_readSigned_y.cls ∈ sl_T0 := sl_in1 90 (by decide +kernel) rfl
theorem tp_readSigned_w5 : Cond.code tp_readSigned_y prog_12_method_10_code 4 (some .int) ∈ sl_T0 := sl_in1 824 (by decide +kernel) rfl
theorem tp_readSigned_w6 : tp_readSigned_y.cls ≠ "java/lang/invoke/MethodHandle" ∧ tp_readSigned_y.cls ≠ "java/lang/invoke/VarHandle" ∧ (parseMethodDescriptor tp_readSigned_y.desc).map (fun d => d.parameters.length) = some 1 := by decide +kernel
theorem cs_pa_42 (g : sl_G) {hh : Nat} (h : 3 ≤ hh) : sl_CallS g sl_R7 42 0 10 hh 2 tp_readSigned_pt := sl_callV (y := tp_readSigned_y) (T := sl_F10) (N := 4) (tp_readSigned_snd g) h (by decide) (sl_in1 910 (by decide +kernel) rfl) tp_readSigned_w2 tp_readSigned_w3 tp_readSigned_w4 tp_readSigned_w5 tp_readSigned_w6 rfl (by decide)
theorem cs_pa_48 (g : sl_G) {hh : Nat} (h : 1 ≤ hh) : sl_CallS g sl_R7 48 0 10 hh 2 tp_fail_pt := sl_callV (y := tp_fail_y) (T := sl_F10) (N := 4) (tp_fail_snd g) h (by decide) (sl_in1 911 (by decide +kernel) rfl) tp_fail_w2 tp_fail_w3 tp_fail_w4 tp_fail_w5 tp_fail_w6 rfl (by decide)
def pa_readFrom_ct : List sl_Ct := [(2, 0, 10, tp_readNumber_pt), (2, 0, 10, tp_expect_pt), (2, 0, 10, tp_readNotLess_pt), (2, 0, 10, tp_skip_pt), (2, 0, 10, tp_readSigned_pt), (2, 0, 10, tp_fail_pt)]
theorem pa_readFrom_hc (g : sl_G) : sl_HC g sl_R7 3 pa_readFrom_ct [(25, 0), (31, 0), (35, 0), (38, 0), (42, 0), (48, 0)] := sl_HC_cons (cs_pa_25 g (by decide)) (sl_HC_cons (cs_pa_31 g (by decide)) (sl_HC_cons (cs_pa_35 g (by decide)) (sl_HC_cons (cs_pa_38 g (by decide)) (sl_HC_cons (cs_pa_42 g (by decide)) (sl_HC_cons (cs_pa_48 g (by decide)) (sl_HC_nil g sl_R7 3))))))
set_option maxRecDepth 20000 in
set_option maxHeartbeats 2000000 in
theorem pa_readFrom_snd (g : sl_G) : sl_Snd g pa_readFrom_y prog_9_method_2_code 4 none 3 (pa_readFrom_pt) := by
  intro As μ Q hw h
  unfold pa_readFrom_pt at h
  split at h
  next c0 a0 c1 a1 =>
    split at h
    next e_ =>
      subst e_
      split at h
      next e_ =>
        subst e_
        split at h
        next e_ =>
          subst e_
          split at h
          next e_ =>
            subst e_
            refine sl_mk2 g [true, true, false, false] (cst := [some (.inr (.inr (some (7, 50)))), some (.inr (.inr (some (10, 43))))]) (lv0 := [none, none, none, none]) (by decide) rfl hw rfl rfl rfl lk_pa_ok (pa_readFrom_hc g) pa_readFrom_tb rfl ?_
            intro X M
            have v9 := sl_extL M sl_VV0 9 (fun n lv st μ => match lv, st with | [_, _, some (.inl x2), some (.inl x3)], [] => pa_readFrom_L9 (fun μ' => Q none μ') n x2 x3 μ | _, _ => False) (by
                intro lv st μ h
                split at h
                · exact h
                · exact h) (by
                intro n9 w9
                have v76 := sl_ext M w9 76 (fun lv st μ => match lv, st with | [_, _, _, some (.inl x3)], [] => pa_readFrom_B76 (fun μ' => Q none μ') (pa_readFrom_L9 (fun μ' => Q none μ') n9) x3 μ | _, _ => False) (by
                    intro lv st μ h
                    split at h
                    · exact h
                    · exact h.elim)
                refine ⟨_, v76, ?_⟩
                intro lv st μ h
                split at h
                · exact h
                · exact h.elim)
            exact ⟨_, v9, h⟩
          next => exact h.elim
        next => exact h.elim
      next => exact h.elim
    next => exact h.elim
  next => exact h.elim
def pa_bringInto_L4 (Q : Int32 → sl_M → Prop) : Nat → Int32 → Int32 → sl_M → Prop
  | 0, _, _, _ => False
  | n + 1, x2, x3, μ => (x3 < (μ 50 3) → ix_leastOut μ (fun r2 m1 => (r2 < (0 : Int32) → (pa_bringInto_L4 Q n) x2 (x3 + (1 : Int32)) m1) ∧ (¬ r2 < (0 : Int32) → vp_in x3 20 ∧ vp_in x3 20 ∧ vp_in x3 20 ∧ ix_bringIn r2 (m1 51 x3.toNatClampNeg) (m1 52 x3.toNatClampNeg) (m1 53 x3.toNatClampNeg) m1 (fun m3 => (pa_bringInto_L4 Q n) (x2 + (1 : Int32)) (x3 + (1 : Int32)) m3)))) ∧ (¬ x3 < (μ 50 3) → ix_relayer μ (fun m4 => Q x2 m4))
def pa_bringInto (μ : sl_M) (Q : Int32 → sl_M → Prop) : Prop := ∃ n5, pa_bringInto_L4 Q n5 (0 : Int32) (0 : Int32) μ
def pa_bringInto_pt : sl_PT := fun As μ Q => match As with
  | [.inr (.inr (some (c0, a0))), .inr (.inr (some (c1, a1)))] => if c0 = 7 then (if c1 = 5 then (if a0 = 50 then (if a1 = 1 then (pa_bringInto μ (fun r μ' => Q (some (.inl r)) μ')) else False) else False) else False) else False
  | _ => False
def pa_bringInto_cd : List sl_Ent := [(0, .iconst 0, 1, 0, [], [], false), (1, .istore_n 2, 1, 0, [2], [], false), (2, .iconst 0, 1, 0, [], [], false), (3, .istore_n 3, 1, 0, [3], [], false), (4, .iload_n 3, 1, 0, [3], [], true), (5, .aload_n 0, 1, 0, [0], [], false), (6, .getfield 21, 3, 0, [7, 3, 0, 0, 0], [], false), (9, .if_icmp .ge 47, 3, 0, [56], [], false), (12, .aload_n 1, 1, 0, [1], [], false), (13, .invokevirtual 51, 3, 0, [0], [], false), (16, .istore 4, 2, 0, [4], [], false), (18, .iload 4, 2, 0, [4], [], false), (20, .ifCond .lt 30, 3, 0, [50], [], false), (23, .aload_n 1, 1, 0, [1], [], false), (24, .iload 4, 2, 0, [4], [], false), (26, .aload_n 0, 1, 0, [0], [], false), (27, .getfield 9, 3, 0, [7, 0, 2, 20, 1], [], false), (30, .iload_n 3, 1, 0, [3], [], false), (31, .iaload, 1, 0, [], [], false), (32, .aload_n 0, 1, 0, [0], [], false), (33, .getfield 15, 3, 0, [7, 1, 2, 20, 2], [], false), (36, .iload_n 3, 1, 0, [3], [], false), (37, .iaload, 1, 0, [], [], false), (38, .aload_n 0, 1, 0, [0], [], false), (39, .getfield 18, 3, 0, [7, 2, 2, 20, 3], [], false), (42, .iload_n 3, 1, 0, [3], [], false), (43, .iaload, 1, 0, [], [], false), (44, .invokevirtual 57, 3, 0, [1], [], false), (47, .iinc 2 1, 3, 1, [], [], false), (50, .iinc 3 1, 3, 1, [], [], false), (53, .goto (-49), 3, 0, [4], [], false), (56, .aload_n 1, 1, 0, [1], [], false), (57, .invokevirtual 61, 3, 0, [2], [], false), (60, .iload_n 2, 1, 0, [2], [], false), (61, .ireturn, 1, 0, [], [], false)]
def pa_bringInto_y : MethodName := ⟨"SpanLayers$Parts", "bringInto", "(LSpanLayers$Index;)I"⟩
theorem pa_bringInto_tb : sl_tbOK sl_R7 prog_9_method_3_code 5 (some .int) lk_pa [(51, 0), (57, 0), (61, 0)] pa_bringInto_cd = true := by decide +kernel
theorem ix_leastOut_w2 : Cond.instanceMethod ix_leastOut_y ∈ sl_T0 := sl_in1 410 (by decide +kernel) rfl
theorem ix_leastOut_w3 : Cond.selects ix_leastOut_y.cls ix_leastOut_y ix_leastOut_y ∈ sl_T0 := sl_in1 411 (by decide +kernel) rfl
theorem ix_leastOut_w4 : Cond.initialized ix_leastOut_y.cls ∈ sl_T0 := sl_in1 86 (by decide +kernel) rfl
theorem ix_leastOut_w5 : Cond.code ix_leastOut_y prog_7_method_4_code 2 (some .int) ∈ sl_T0 := sl_in1 412 (by decide +kernel) rfl
theorem ix_leastOut_w6 : ix_leastOut_y.cls ≠ "java/lang/invoke/MethodHandle" ∧ ix_leastOut_y.cls ≠ "java/lang/invoke/VarHandle" ∧ (parseMethodDescriptor ix_leastOut_y.desc).map (fun d => d.parameters.length) = some 0 := by decide +kernel
theorem cs_pa_51 (g : sl_G) {hh : Nat} (h : 1 ≤ hh) : sl_CallS g sl_R7 51 0 5 hh 1 ix_leastOut_pt := sl_callV (y := ix_leastOut_y) (T := sl_F5) (N := 2) (ix_leastOut_snd g) h (by decide) (sl_in1 916 (by decide +kernel) rfl) ix_leastOut_w2 ix_leastOut_w3 ix_leastOut_w4 ix_leastOut_w5 ix_leastOut_w6 rfl (by decide)
theorem ix_bringIn_w2 : Cond.instanceMethod ix_bringIn_y ∈ sl_T0 := sl_in1 414 (by decide +kernel) rfl
theorem ix_bringIn_w3 : Cond.selects ix_bringIn_y.cls ix_bringIn_y ix_bringIn_y ∈ sl_T0 := sl_in1 415 (by decide +kernel) rfl
theorem ix_bringIn_w4 : Cond.initialized ix_bringIn_y.cls ∈ sl_T0 := sl_in1 86 (by decide +kernel) rfl
theorem ix_bringIn_w5 : Cond.code ix_bringIn_y prog_7_method_5_code 5 none ∈ sl_T0 := sl_in1 416 (by decide +kernel) rfl
theorem ix_bringIn_w6 : ix_bringIn_y.cls ≠ "java/lang/invoke/MethodHandle" ∧ ix_bringIn_y.cls ≠ "java/lang/invoke/VarHandle" ∧ (parseMethodDescriptor ix_bringIn_y.desc).map (fun d => d.parameters.length) = some 4 := by decide +kernel
theorem cs_pa_57 (g : sl_G) {hh : Nat} (h : 2 ≤ hh) : sl_CallS g sl_R7 57 0 5 hh 5 ix_bringIn_pt := sl_callV (y := ix_bringIn_y) (T := sl_F5) (N := 2) (ix_bringIn_snd g) h (by decide) (sl_in1 917 (by decide +kernel) rfl) ix_bringIn_w2 ix_bringIn_w3 ix_bringIn_w4 ix_bringIn_w5 ix_bringIn_w6 rfl (by decide)
theorem cs_pa_61 (g : sl_G) {hh : Nat} (h : 5 ≤ hh) : sl_CallS g sl_R7 61 0 5 hh 1 ix_relayer_pt := sl_callV (y := ix_relayer_y) (T := sl_F5) (N := 2) (ix_relayer_snd g) h (by decide) (sl_in1 918 (by decide +kernel) rfl) ix_relayer_w2 ix_relayer_w3 ix_relayer_w4 ix_relayer_w5 ix_relayer_w6 rfl (by decide)
def pa_bringInto_ct : List sl_Ct := [(1, 0, 5, ix_leastOut_pt), (5, 0, 5, ix_bringIn_pt), (1, 0, 5, ix_relayer_pt)]
theorem pa_bringInto_hc (g : sl_G) : sl_HC g sl_R7 5 pa_bringInto_ct [(51, 0), (57, 0), (61, 0)] := sl_HC_cons (cs_pa_51 g (by decide)) (sl_HC_cons (cs_pa_57 g (by decide)) (sl_HC_cons (cs_pa_61 g (by decide)) (sl_HC_nil g sl_R7 5)))
set_option maxRecDepth 20000 in
set_option maxHeartbeats 2000000 in
theorem pa_bringInto_snd (g : sl_G) : sl_Snd g pa_bringInto_y prog_9_method_3_code 5 (some .int) 5 (pa_bringInto_pt) := by
  intro As μ Q hw h
  unfold pa_bringInto_pt at h
  split at h
  next c0 a0 c1 a1 =>
    split at h
    next e_ =>
      subst e_
      split at h
      next e_ =>
        subst e_
        split at h
        next e_ =>
          subst e_
          split at h
          next e_ =>
            subst e_
            refine sl_mk2 g [true, true, false, false, false] (cst := [some (.inr (.inr (some (7, 50)))), some (.inr (.inr (some (5, 1))))]) (lv0 := [none, none, none, none, none]) (by decide) rfl hw rfl rfl rfl lk_pa_ok (pa_bringInto_hc g) pa_bringInto_tb rfl ?_
            intro X M
            have v4 := sl_extL M sl_VV0 4 (fun n lv st μ => match lv, st with | [_, _, some (.inl x2), some (.inl x3), _], [] => pa_bringInto_L4 (fun r μ' => Q (some (.inl r)) μ') n x2 x3 μ | _, _ => False) (by
                intro lv st μ h
                split at h
                · exact h
                · exact h) (by
                intro n4 w4
                refine ⟨_, w4, ?_⟩
                intro lv st μ h
                split at h
                · exact h
                · exact h.elim)
            exact ⟨_, v4, h⟩
          next => exact h.elim
        next => exact h.elim
      next => exact h.elim
    next => exact h.elim
  next => exact h.elim
def pp_write (a1 : Int32) (μ : sl_M) (Q : sl_M → Prop) : Prop := ((μ 54 1) < (360 : Int32) → vp_in (μ 54 1) 360 ∧ ∀ m1, m1 = sl_up μ 55 (μ 54 1).toNatClampNeg a1 → ∀ m2, m2 = sl_up m1 54 1 ((m1 54 1) + (1 : Int32)) → Q m2) ∧ (¬ (μ 54 1) < (360 : Int32) → Q μ)
def pp_write_pt : sl_PT := fun As μ Q => match As with
  | [.inr (.inr (some (c0, a0))), .inl a1] => if c0 = 6 then (if a0 = 54 then (pp_write a1 μ (fun μ' => Q none μ')) else False) else False
  | _ => False
def pp_write_cd : List sl_Ent := [(0, .aload_n 0, 1, 0, [0], [], false), (1, .getfield 21, 3, 0, [6, 1, 0, 0, 0], [], false), (4, .sipush 360, 3, 360, [], [], false), (7, .if_icmp .ge 23, 3, 0, [30], [], false), (10, .aload_n 0, 1, 0, [0], [], false), (11, .getfield 9, 3, 0, [6, 0, 2, 20, 1], [], false), (14, .aload_n 0, 1, 0, [0], [], false), (15, .getfield 21, 3, 0, [6, 1, 0, 0, 0], [], false), (18, .iload_n 1, 1, 0, [1], [], false), (19, .iastore, 1, 0, [], [], false), (20, .aload_n 0, 1, 0, [0], [], false), (21, .dup, 1, 0, [], [], false), (22, .getfield 21, 3, 0, [6, 1, 0, 0, 0], [], false), (25, .iconst 1, 1, 1, [], [], false), (26, .iadd, 1, 0, [], [], false), (27, .putfield 21, 3, 0, [6, 1, 0], [], false), (30, .return_, 1, 0, [], [], false)]
def pp_write_y : MethodName := ⟨"SpanLayers$Paper", "write", "(I)V"⟩
theorem pp_write_tb : sl_tbOK sl_R6 prog_8_method_5_code 2 none lk_pp [] pp_write_cd = true := by decide +kernel
def pp_write_ct : List sl_Ct := []
theorem pp_write_hc (g : sl_G) : sl_HC g sl_R6 0 pp_write_ct [] := sl_HC_nil g sl_R6 0
set_option maxRecDepth 20000 in
set_option maxHeartbeats 2000000 in
theorem pp_write_snd (g : sl_G) : sl_Snd g pp_write_y prog_8_method_5_code 2 none 0 (pp_write_pt) := by
  intro As μ Q hw h
  unfold pp_write_pt at h
  split at h
  next c0 a0 a1 =>
    split at h
    next e_ =>
      subst e_
      split at h
      next e_ =>
        subst e_
        refine sl_mk2 g [true, true] (cst := [some (.inr (.inr (some (6, 54)))), some (.inl a1)]) (lv0 := [none, none]) (by decide) rfl hw rfl rfl rfl lk_pp_ok (pp_write_hc g) pp_write_tb rfl ?_
        intro X M
        exact ⟨_, sl_VV0, h⟩
      next => exact h.elim
    next => exact h.elim
  next => exact h.elim
def pp_writeNumber_B35 (a1 : Int32) (Q : sl_M → Prop) : Int32 → sl_M → Prop
  | x2, μ => (x2 < (10 : Int32) → ¬ (10 : Int32) = 0 ∧ pp_write ((48 : Int32) + (x2 - x2 / (10 : Int32) * (10 : Int32))) μ (fun m2 => Q m2)) ∧ (¬ x2 < (10 : Int32) → ¬ (10 : Int32) = 0 ∧ ¬ (10 : Int32) = 0 ∧ pp_write ((48 : Int32) + ((x2 / (10 : Int32)) - (x2 / (10 : Int32)) / (10 : Int32) * (10 : Int32))) μ (fun m3 => ¬ (10 : Int32) = 0 ∧ pp_write ((48 : Int32) + (x2 - x2 / (10 : Int32) * (10 : Int32))) m3 (fun m4 => Q m4)))
def pp_writeNumber_B15 (a1 : Int32) (Q : sl_M → Prop) : Int32 → sl_M → Prop
  | x2, μ => (x2 < (100 : Int32) → pp_writeNumber_B35 a1 Q x2 μ) ∧ (¬ x2 < (100 : Int32) → ¬ (100 : Int32) = 0 ∧ ¬ (10 : Int32) = 0 ∧ pp_write ((48 : Int32) + ((x2 / (100 : Int32)) - (x2 / (100 : Int32)) / (10 : Int32) * (10 : Int32))) μ (fun m1 => pp_writeNumber_B35 a1 Q x2 m1))
def pp_writeNumber (a1 : Int32) (μ : sl_M) (Q : sl_M → Prop) : Prop := ma_abs a1 μ (fun r6 m5 => (a1 < (0 : Int32) → pp_write (45 : Int32) m5 (fun m7 => pp_writeNumber_B15 a1 Q r6 m7)) ∧ (¬ a1 < (0 : Int32) → pp_writeNumber_B15 a1 Q r6 m5))
def pp_writeNumber_pt : sl_PT := fun As μ Q => match As with
  | [.inr (.inr (some (c0, a0))), .inl a1] => if c0 = 6 then (if a0 = 54 then (pp_writeNumber a1 μ (fun μ' => Q none μ')) else False) else False
  | _ => False
def pp_writeNumber_cd : List sl_Ent := [(0, .iload_n 1, 1, 0, [1], [], false), (1, .invokestatic 51, 3, 0, [0], [], false), (4, .istore_n 2, 1, 0, [2], [], false), (5, .iload_n 1, 1, 0, [1], [], false), (6, .ifCond .ge 9, 3, 0, [15], [], false), (9, .aload_n 0, 1, 0, [0], [], false), (10, .bipush 45, 2, 45, [], [], false), (12, .invokevirtual 25, 3, 0, [1], [], false), (15, .iload_n 2, 1, 0, [2], [], true), (16, .bipush 100, 2, 100, [], [], false), (18, .if_icmp .lt 17, 3, 0, [35], [], false), (21, .aload_n 0, 1, 0, [0], [], false), (22, .bipush 48, 2, 48, [], [], false), (24, .iload_n 2, 1, 0, [2], [], false), (25, .bipush 100, 2, 100, [], [], false), (27, .idiv, 1, 0, [], [], false), (28, .bipush 10, 2, 10, [], [], false), (30, .irem, 1, 0, [], [], false), (31, .iadd, 1, 0, [], [], false), (32, .invokevirtual 25, 3, 0, [1], [], false), (35, .iload_n 2, 1, 0, [2], [], true), (36, .bipush 10, 2, 10, [], [], false), (38, .if_icmp .lt 17, 3, 0, [55], [], false), (41, .aload_n 0, 1, 0, [0], [], false), (42, .bipush 48, 2, 48, [], [], false), (44, .iload_n 2, 1, 0, [2], [], false), (45, .bipush 10, 2, 10, [], [], false), (47, .idiv, 1, 0, [], [], false), (48, .bipush 10, 2, 10, [], [], false), (50, .irem, 1, 0, [], [], false), (51, .iadd, 1, 0, [], [], false), (52, .invokevirtual 25, 3, 0, [1], [], false), (55, .aload_n 0, 1, 0, [0], [], false), (56, .bipush 48, 2, 48, [], [], false), (58, .iload_n 2, 1, 0, [2], [], false), (59, .bipush 10, 2, 10, [], [], false), (61, .irem, 1, 0, [], [], false), (62, .iadd, 1, 0, [], [], false), (63, .invokevirtual 25, 3, 0, [1], [], false), (66, .return_, 1, 0, [], [], false)]
def pp_writeNumber_y : MethodName := ⟨"SpanLayers$Paper", "writeNumber", "(I)V"⟩
theorem pp_writeNumber_tb : sl_tbOK sl_R6 prog_8_method_4_code 3 none lk_pp [(51, 1), (25, 0)] pp_writeNumber_cd = true := by decide +kernel
theorem cs_pp_51 (g : sl_G) {hh : Nat} (h : 1 ≤ hh) : sl_CallS g sl_R6 51 1 0 hh 1 ma_abs_pt := sl_callAbs h (sl_in1 940 (by decide +kernel) rfl) (sl_in1 941 (by decide +kernel) rfl) (sl_in1 98 (by decide +kernel) rfl) (sl_in1 942 (by decide +kernel) rfl)
theorem pp_write_w2 : Cond.instanceMethod pp_write_y ∈ sl_T0 := sl_in1 930 (by decide +kernel) rfl
theorem pp_write_w3 : Cond.selects pp_write_y.cls pp_write_y pp_write_y ∈ sl_T0 := sl_in1 17 (by decide +kernel) rfl
theorem pp_write_w4 : Cond.initialized pp_write_y.cls ∈ sl_T0 := sl_in1 94 (by decide +kernel) rfl
theorem pp_write_w5 : Cond.code pp_write_y prog_8_method_5_code 2 none ∈ sl_T0 := sl_in1 931 (by decide +kernel) rfl
theorem pp_write_w6 : pp_write_y.cls ≠ "java/lang/invoke/MethodHandle" ∧ pp_write_y.cls ≠ "java/lang/invoke/VarHandle" ∧ (parseMethodDescriptor pp_write_y.desc).map (fun d => d.parameters.length) = some 1 := by decide +kernel
theorem cs_pp_25 (g : sl_G) {hh : Nat} (h : 1 ≤ hh) : sl_CallS g sl_R6 25 0 6 hh 2 pp_write_pt := sl_callV (y := pp_write_y) (T := sl_F6) (N := 2) (pp_write_snd g) h (by decide) (sl_in1 928 (by decide +kernel) rfl) pp_write_w2 pp_write_w3 pp_write_w4 pp_write_w5 pp_write_w6 rfl (by decide)
def pp_writeNumber_ct : List sl_Ct := [(1, 1, 0, ma_abs_pt), (2, 0, 6, pp_write_pt)]
theorem pp_writeNumber_hc (g : sl_G) : sl_HC g sl_R6 1 pp_writeNumber_ct [(51, 1), (25, 0)] := sl_HC_cons (cs_pp_51 g (by decide)) (sl_HC_cons (cs_pp_25 g (by decide)) (sl_HC_nil g sl_R6 1))
set_option maxRecDepth 20000 in
set_option maxHeartbeats 2000000 in
theorem pp_writeNumber_snd (g : sl_G) : sl_Snd g pp_writeNumber_y prog_8_method_4_code 3 none 1 (pp_writeNumber_pt) := by
  intro As μ Q hw h
  unfold pp_writeNumber_pt at h
  split at h
  next c0 a0 a1 =>
    split at h
    next e_ =>
      subst e_
      split at h
      next e_ =>
        subst e_
        refine sl_mk2 g [true, true, false] (cst := [some (.inr (.inr (some (6, 54)))), some (.inl a1)]) (lv0 := [none, none, none]) (by decide) rfl hw rfl rfl rfl lk_pp_ok (pp_writeNumber_hc g) pp_writeNumber_tb rfl ?_
        intro X M
        have v35 := sl_ext M sl_VV0 35 (fun lv st μ => match lv, st with | [_, _, some (.inl x2)], [] => pp_writeNumber_B35 a1 (fun μ' => Q none μ') x2 μ | _, _ => False) (by
            intro lv st μ h
            split at h
            · exact h
            · exact h.elim)
        have v15 := sl_ext M v35 15 (fun lv st μ => match lv, st with | [_, _, some (.inl x2)], [] => pp_writeNumber_B15 a1 (fun μ' => Q none μ') x2 μ | _, _ => False) (by
            intro lv st μ h
            split at h
            · exact h
            · exact h.elim)
        exact ⟨_, v15, h⟩
      next => exact h.elim
    next => exact h.elim
  next => exact h.elim
def pp_writePart (a1 : Nat) (μ : sl_M) (Q : sl_M → Prop) : Prop := pp_writeNumber (μ a1 2) μ (fun m1 => pp_write (45 : Int32) m1 (fun m2 => pp_writeNumber (m2 a1 3) m2 (fun m3 => ((m3 a1 4) = (1 : Int32) → Q m3) ∧ (¬ (m3 a1 4) = (1 : Int32) → pp_write (58 : Int32) m3 (fun m4 => pp_writeNumber (m4 a1 4) m4 (fun m5 => Q m5))))))
def pp_writePart_pt : sl_PT := fun As μ Q => match As with
  | [.inr (.inr (some (c0, a0))), .inr (.inr (some (c1, a1)))] => if c0 = 6 then (if c1 = 9 then (if a0 = 54 then (pp_writePart a1 μ (fun μ' => Q none μ')) else False) else False) else False
  | _ => False
def pp_writePart_cd : List sl_Ent := [(0, .aload_n 0, 1, 0, [0], [], false), (1, .aload_n 1, 1, 0, [1], [], false), (2, .getfield 37, 3, 0, [9, 2, 0, 0, 0], [], false), (5, .invokevirtual 42, 3, 0, [0], [], false), (8, .aload_n 0, 1, 0, [0], [], false), (9, .bipush 45, 2, 45, [], [], false), (11, .invokevirtual 25, 3, 0, [1], [], false), (14, .aload_n 0, 1, 0, [0], [], false), (15, .aload_n 1, 1, 0, [1], [], false), (16, .getfield 45, 3, 0, [9, 3, 0, 0, 0], [], false), (19, .invokevirtual 42, 3, 0, [0], [], false), (22, .aload_n 1, 1, 0, [1], [], false), (23, .getfield 48, 3, 0, [9, 4, 0, 0, 0], [], false), (26, .iconst 1, 1, 1, [], [], false), (27, .if_icmp .eq 17, 3, 0, [44], [], false), (30, .aload_n 0, 1, 0, [0], [], false), (31, .bipush 58, 2, 58, [], [], false), (33, .invokevirtual 25, 3, 0, [1], [], false), (36, .aload_n 0, 1, 0, [0], [], false), (37, .aload_n 1, 1, 0, [1], [], false), (38, .getfield 48, 3, 0, [9, 4, 0, 0, 0], [], false), (41, .invokevirtual 42, 3, 0, [0], [], false), (44, .return_, 1, 0, [], [], false)]
def pp_writePart_y : MethodName := ⟨"SpanLayers$Paper", "writePart", "(LSpanLayers$Span;)V"⟩
theorem pp_writePart_tb : sl_tbOK sl_R6 prog_8_method_3_code 2 none lk_pp [(42, 0), (25, 0)] pp_writePart_cd = true := by decide +kernel
theorem pp_writeNumber_w2 : Cond.instanceMethod pp_writeNumber_y ∈ sl_T0 := sl_in1 938 (by decide +kernel) rfl
theorem pp_writeNumber_w3 : Cond.selects pp_writeNumber_y.cls pp_writeNumber_y pp_writeNumber_y ∈ sl_T0 := sl_in1 19 (by decide +kernel) rfl
theorem pp_writeNumber_w4 : Cond.initialized pp_writeNumber_y.cls ∈ sl_T0 := sl_in1 94 (by decide +kernel) rfl
theorem pp_writeNumber_w5 : Cond.code pp_writeNumber_y prog_8_method_4_code 3 none ∈ sl_T0 := sl_in1 939 (by decide +kernel) rfl
theorem pp_writeNumber_w6 : pp_writeNumber_y.cls ≠ "java/lang/invoke/MethodHandle" ∧ pp_writeNumber_y.cls ≠ "java/lang/invoke/VarHandle" ∧ (parseMethodDescriptor pp_writeNumber_y.desc).map (fun d => d.parameters.length) = some 1 := by decide +kernel
theorem cs_pp_42 (g : sl_G) {hh : Nat} (h : 2 ≤ hh) : sl_CallS g sl_R6 42 0 6 hh 2 pp_writeNumber_pt := sl_callV (y := pp_writeNumber_y) (T := sl_F6) (N := 2) (pp_writeNumber_snd g) h (by decide) (sl_in1 936 (by decide +kernel) rfl) pp_writeNumber_w2 pp_writeNumber_w3 pp_writeNumber_w4 pp_writeNumber_w5 pp_writeNumber_w6 rfl (by decide)
def pp_writePart_ct : List sl_Ct := [(2, 0, 6, pp_writeNumber_pt), (2, 0, 6, pp_write_pt)]
theorem pp_writePart_hc (g : sl_G) : sl_HC g sl_R6 2 pp_writePart_ct [(42, 0), (25, 0)] := sl_HC_cons (cs_pp_42 g (by decide)) (sl_HC_cons (cs_pp_25 g (by decide)) (sl_HC_nil g sl_R6 2))
set_option maxRecDepth 20000 in
set_option maxHeartbeats 2000000 in
theorem pp_writePart_snd (g : sl_G) : sl_Snd g pp_writePart_y prog_8_method_3_code 2 none 2 (pp_writePart_pt) := by
  intro As μ Q hw h
  unfold pp_writePart_pt at h
  split at h
  next c0 a0 c1 a1 =>
    split at h
    next e_ =>
      subst e_
      split at h
      next e_ =>
        subst e_
        split at h
        next e_ =>
          subst e_
          refine sl_mk2 g [true, true] (cst := [some (.inr (.inr (some (6, 54)))), some (.inr (.inr (some (9, a1))))]) (lv0 := [none, none]) (by decide) rfl hw rfl rfl rfl lk_pp_ok (pp_writePart_hc g) pp_writePart_tb rfl ?_
          intro X M
          exact ⟨_, sl_VV0, h⟩
        next => exact h.elim
      next => exact h.elim
    next => exact h.elim
  next => exact h.elim
def pp_writeAll_L14 (a2 : Int32) (Q : sl_M → Prop) : Nat → Int32 → Int32 → sl_M → Prop
  | 0, _, _, _ => False
  | n + 1, x3, x4, μ => (x4 < x3 → (x4 ≤ (0 : Int32) → vp_in x4 30 ∧ sl_kd (μ 3 x4.toNatClampNeg).toNatClampNeg = 9 ∧ pp_writePart ((μ 3 x4.toNatClampNeg).toNatClampNeg) μ (fun m1 => (pp_writeAll_L14 a2 Q n) x3 (x4 + (1 : Int32)) m1)) ∧ (¬ x4 ≤ (0 : Int32) → pp_write (59 : Int32) μ (fun m2 => vp_in x4 30 ∧ sl_kd (m2 3 x4.toNatClampNeg).toNatClampNeg = 9 ∧ pp_writePart ((m2 3 x4.toNatClampNeg).toNatClampNeg) m2 (fun m3 => (pp_writeAll_L14 a2 Q n) x3 (x4 + (1 : Int32)) m3)))) ∧ (¬ x4 < x3 → Q μ)
def pp_writeAll (a2 : Int32) (μ : sl_M) (Q : sl_M → Prop) : Prop := ix_sortBy a2 μ (fun r5 m4 => ∀ m6, m6 = sl_up m4 54 1 (0 : Int32) → ∃ n7, pp_writeAll_L14 a2 Q n7 r5 (0 : Int32) m6)
def pp_writeAll_pt : sl_PT := fun As μ Q => match As with
  | [.inr (.inr (some (c0, a0))), .inr (.inr (some (c1, a1))), .inl a2] => if c0 = 6 then (if c1 = 5 then (if a0 = 54 then (if a1 = 1 then (pp_writeAll a2 μ (fun μ' => Q none μ')) else False) else False) else False) else False
  | _ => False
def pp_writeAll_cd : List sl_Ent := [(0, .aload_n 1, 1, 0, [1], [], false), (1, .iload_n 2, 1, 0, [2], [], false), (2, .invokevirtual 15, 3, 0, [0], [], false), (5, .istore_n 3, 1, 0, [3], [], false), (6, .aload_n 0, 1, 0, [0], [], false), (7, .iconst 0, 1, 0, [], [], false), (8, .putfield 21, 3, 0, [6, 1, 0], [], false), (11, .iconst 0, 1, 0, [], [], false), (12, .istore 4, 2, 0, [4], [], false), (14, .iload 4, 2, 0, [4], [], true), (16, .iload_n 3, 1, 0, [3], [], false), (17, .if_icmp .ge 31, 3, 0, [48], [], false), (20, .iload 4, 2, 0, [4], [], false), (22, .ifCond .le 9, 3, 0, [31], [], false), (25, .aload_n 0, 1, 0, [0], [], false), (26, .bipush 59, 2, 59, [], [], false), (28, .invokevirtual 25, 3, 0, [1], [], false), (31, .aload_n 0, 1, 0, [0], [], false), (32, .aload_n 1, 1, 0, [1], [], false), (33, .getfield 29, 3, 0, [5, 1, 2, 23, 2], [], false), (36, .iload 4, 2, 0, [4], [], false), (38, .aaload, 1, 0, [], [], false), (39, .invokevirtual 33, 3, 0, [2], [], false), (42, .iinc 4 1, 3, 1, [], [], false), (45, .goto (-31), 3, 0, [14], [], false), (48, .return_, 1, 0, [], [], false)]
def pp_writeAll_y : MethodName := ⟨"SpanLayers$Paper", "writeAll", "(LSpanLayers$Index;I)V"⟩
theorem pp_writeAll_tb : sl_tbOK sl_R6 prog_8_method_2_code 5 none lk_pp [(15, 0), (25, 0), (33, 0)] pp_writeAll_cd = true := by decide +kernel
theorem cs_pp_15 (g : sl_G) {hh : Nat} (h : 4 ≤ hh) : sl_CallS g sl_R6 15 0 5 hh 2 ix_sortBy_pt := sl_callV (y := ix_sortBy_y) (T := sl_F5) (N := 2) (ix_sortBy_snd g) h (by decide) (sl_in1 927 (by decide +kernel) rfl) ix_sortBy_w2 ix_sortBy_w3 ix_sortBy_w4 ix_sortBy_w5 ix_sortBy_w6 rfl (by decide)
theorem pp_writePart_w2 : Cond.instanceMethod pp_writePart_y ∈ sl_T0 := sl_in1 934 (by decide +kernel) rfl
theorem pp_writePart_w3 : Cond.selects pp_writePart_y.cls pp_writePart_y pp_writePart_y ∈ sl_T0 := sl_in1 18 (by decide +kernel) rfl
theorem pp_writePart_w4 : Cond.initialized pp_writePart_y.cls ∈ sl_T0 := sl_in1 94 (by decide +kernel) rfl
theorem pp_writePart_w5 : Cond.code pp_writePart_y prog_8_method_3_code 2 none ∈ sl_T0 := sl_in1 935 (by decide +kernel) rfl
theorem pp_writePart_w6 : pp_writePart_y.cls ≠ "java/lang/invoke/MethodHandle" ∧ pp_writePart_y.cls ≠ "java/lang/invoke/VarHandle" ∧ (parseMethodDescriptor pp_writePart_y.desc).map (fun d => d.parameters.length) = some 1 := by decide +kernel
theorem cs_pp_33 (g : sl_G) {hh : Nat} (h : 3 ≤ hh) : sl_CallS g sl_R6 33 0 6 hh 2 pp_writePart_pt := sl_callV (y := pp_writePart_y) (T := sl_F6) (N := 2) (pp_writePart_snd g) h (by decide) (sl_in1 932 (by decide +kernel) rfl) pp_writePart_w2 pp_writePart_w3 pp_writePart_w4 pp_writePart_w5 pp_writePart_w6 rfl (by decide)
def pp_writeAll_ct : List sl_Ct := [(2, 0, 5, ix_sortBy_pt), (2, 0, 6, pp_write_pt), (2, 0, 6, pp_writePart_pt)]
theorem pp_writeAll_hc (g : sl_G) : sl_HC g sl_R6 4 pp_writeAll_ct [(15, 0), (25, 0), (33, 0)] := sl_HC_cons (cs_pp_15 g (by decide)) (sl_HC_cons (cs_pp_25 g (by decide)) (sl_HC_cons (cs_pp_33 g (by decide)) (sl_HC_nil g sl_R6 4)))
set_option maxRecDepth 20000 in
set_option maxHeartbeats 2000000 in
theorem pp_writeAll_snd (g : sl_G) : sl_Snd g pp_writeAll_y prog_8_method_2_code 5 none 4 (pp_writeAll_pt) := by
  intro As μ Q hw h
  unfold pp_writeAll_pt at h
  split at h
  next c0 a0 c1 a1 a2 =>
    split at h
    next e_ =>
      subst e_
      split at h
      next e_ =>
        subst e_
        split at h
        next e_ =>
          subst e_
          split at h
          next e_ =>
            subst e_
            refine sl_mk2 g [true, true, true, false, false] (cst := [some (.inr (.inr (some (6, 54)))), some (.inr (.inr (some (5, 1)))), some (.inl a2)]) (lv0 := [none, none, none, none, none]) (by decide) rfl hw rfl rfl rfl lk_pp_ok (pp_writeAll_hc g) pp_writeAll_tb rfl ?_
            intro X M
            have v14 := sl_extL M sl_VV0 14 (fun n lv st μ => match lv, st with | [_, _, _, some (.inl x3), some (.inl x4)], [] => pp_writeAll_L14 a2 (fun μ' => Q none μ') n x3 x4 μ | _, _ => False) (by
                intro lv st μ h
                split at h
                · exact h
                · exact h) (by
                intro n14 w14
                refine ⟨_, w14, ?_⟩
                intro lv st μ h
                split at h
                · exact h
                · exact h.elim)
            exact ⟨_, v14, h⟩
          next => exact h.elim
        next => exact h.elim
      next => exact h.elim
    next => exact h.elim
  next => exact h.elim
def ix_countLayers_L4 (Q : Int32 → sl_M → Prop) : Nat → Int32 → Int32 → sl_M → Prop
  | 0, _, _, _ => False
  | n + 1, x1, x2, μ => (x2 < (30 : Int32) → vp_in x2 30 ∧ ((sl_bz (μ (4 + x2.toNatClampNeg) 1)) = (0 : Int32) → (ix_countLayers_L4 Q n) x1 (x2 + (1 : Int32)) μ) ∧ (¬ (sl_bz (μ (4 + x2.toNatClampNeg) 1)) = (0 : Int32) → vp_in x2 30 ∧ ma_max x1 ((μ (4 + x2.toNatClampNeg) 5) + (1 : Int32)) μ (fun r2 m1 => (ix_countLayers_L4 Q n) r2 (x2 + (1 : Int32)) m1))) ∧ (¬ x2 < (30 : Int32) → Q x1 μ)
def ix_countLayers (μ : sl_M) (Q : Int32 → sl_M → Prop) : Prop := ∃ n3, ix_countLayers_L4 Q n3 (0 : Int32) (0 : Int32) μ
def ix_countLayers_pt : sl_PT := fun As μ Q => match As with
  | [.inr (.inr (some (c0, a0)))] => if c0 = 5 then (if a0 = 1 then (ix_countLayers μ (fun r μ' => Q (some (.inl r)) μ')) else False) else False
  | _ => False
def ix_countLayers_cd : List sl_Ent := [(0, .iconst 0, 1, 0, [], [], false), (1, .istore_n 1, 1, 0, [1], [], false), (2, .iconst 0, 1, 0, [], [], false), (3, .istore_n 2, 1, 0, [2], [], false), (4, .iload_n 2, 1, 0, [2], [], true), (5, .bipush 30, 2, 30, [], [], false), (7, .if_icmp .ge 37, 3, 0, [44], [], false), (10, .aload_n 0, 1, 0, [0], [], false), (11, .getfield 11, 3, 0, [5, 0, 2, 22, 1], [], false), (14, .iload_n 2, 1, 0, [2], [], false), (15, .aaload, 1, 0, [], [], false), (16, .getfield 31, 3, 0, [9, 1, 1, 0, 0], [], false), (19, .ifCond .eq 19, 3, 0, [38], [], false), (22, .iload_n 1, 1, 0, [1], [], false), (23, .aload_n 0, 1, 0, [0], [], false), (24, .getfield 11, 3, 0, [5, 0, 2, 22, 1], [], false), (27, .iload_n 2, 1, 0, [2], [], false), (28, .aaload, 1, 0, [], [], false), (29, .getfield 59, 3, 0, [9, 5, 0, 0, 0], [], false), (32, .iconst 1, 1, 1, [], [], false), (33, .iadd, 1, 0, [], [], false), (34, .invokestatic 62, 3, 0, [0], [], false), (37, .istore_n 1, 1, 0, [1], [], false), (38, .iinc 2 1, 3, 1, [], [], false), (41, .goto (-37), 3, 0, [4], [], false), (44, .iload_n 1, 1, 0, [1], [], false), (45, .ireturn, 1, 0, [], [], false)]
def ix_countLayers_y : MethodName := ⟨"SpanLayers$Index", "countLayers", "()I"⟩
theorem ix_countLayers_tb : sl_tbOK sl_R5 prog_7_method_24_code 3 (some .int) lk_ix [(62, 1)] ix_countLayers_cd = true := by decide +kernel
def ix_countLayers_ct : List sl_Ct := [(2, 1, 0, ma_max_pt)]
theorem ix_countLayers_hc (g : sl_G) : sl_HC g sl_R5 1 ix_countLayers_ct [(62, 1)] := sl_HC_cons (cs_ix_62 g (by decide)) (sl_HC_nil g sl_R5 1)
set_option maxRecDepth 20000 in
set_option maxHeartbeats 2000000 in
theorem ix_countLayers_snd (g : sl_G) : sl_Snd g ix_countLayers_y prog_7_method_24_code 3 (some .int) 1 (ix_countLayers_pt) := by
  intro As μ Q hw h
  unfold ix_countLayers_pt at h
  split at h
  next c0 a0 =>
    split at h
    next e_ =>
      subst e_
      split at h
      next e_ =>
        subst e_
        refine sl_mk2 g [true, false, false] (cst := [some (.inr (.inr (some (5, 1))))]) (lv0 := [none, none, none]) (by decide) rfl hw rfl rfl rfl lk_ix_ok (ix_countLayers_hc g) ix_countLayers_tb rfl ?_
        intro X M
        have v4 := sl_extL M sl_VV0 4 (fun n lv st μ => match lv, st with | [_, some (.inl x1), some (.inl x2)], [] => ix_countLayers_L4 (fun r μ' => Q (some (.inl r)) μ') n x1 x2 μ | _, _ => False) (by
            intro lv st μ h
            split at h
            · exact h
            · exact h) (by
            intro n4 w4
            refine ⟨_, w4, ?_⟩
            intro lv st μ h
            split at h
            · exact h
            · exact h.elim)
        exact ⟨_, v4, h⟩
      next => exact h.elim
    next => exact h.elim
  next => exact h.elim
def ix_sumOfWeights_L4 (Q : Int32 → sl_M → Prop) : Nat → Int32 → Int32 → sl_M → Prop
  | 0, _, _, _ => False
  | n + 1, x1, x2, μ => (x2 < (30 : Int32) → vp_in x2 30 ∧ ((sl_bz (μ (4 + x2.toNatClampNeg) 1)) = (0 : Int32) → ∀ v1, v1 = (x1 + (0 : Int32)) → (ix_sumOfWeights_L4 Q n) v1 (x2 + (1 : Int32)) μ) ∧ (¬ (sl_bz (μ (4 + x2.toNatClampNeg) 1)) = (0 : Int32) → vp_in x2 30 ∧ ∀ v2, v2 = (x1 + (μ (4 + x2.toNatClampNeg) 4)) → (ix_sumOfWeights_L4 Q n) v2 (x2 + (1 : Int32)) μ)) ∧ (¬ x2 < (30 : Int32) → Q x1 μ)
def ix_sumOfWeights (μ : sl_M) (Q : Int32 → sl_M → Prop) : Prop := ∃ n3, ix_sumOfWeights_L4 Q n3 (0 : Int32) (0 : Int32) μ
def ix_sumOfWeights_pt : sl_PT := fun As μ Q => match As with
  | [.inr (.inr (some (c0, a0)))] => if c0 = 5 then (if a0 = 1 then (ix_sumOfWeights μ (fun r μ' => Q (some (.inl r)) μ')) else False) else False
  | _ => False
def ix_sumOfWeights_cd : List sl_Ent := [(0, .iconst 0, 1, 0, [], [], false), (1, .istore_n 1, 1, 0, [1], [], false), (2, .iconst 0, 1, 0, [], [], false), (3, .istore_n 2, 1, 0, [2], [], false), (4, .iload_n 2, 1, 0, [2], [], true), (5, .bipush 30, 2, 30, [], [], false), (7, .if_icmp .ge 37, 3, 0, [44], [], false), (10, .iload_n 1, 1, 0, [1], [], false), (11, .aload_n 0, 1, 0, [0], [], false), (12, .getfield 11, 3, 0, [5, 0, 2, 22, 1], [], false), (15, .iload_n 2, 1, 0, [2], [], false), (16, .aaload, 1, 0, [], [], false), (17, .getfield 31, 3, 0, [9, 1, 1, 0, 0], [], false), (20, .ifCond .eq 15, 3, 0, [35], [], false), (23, .aload_n 0, 1, 0, [0], [], false), (24, .getfield 11, 3, 0, [5, 0, 2, 22, 1], [], false), (27, .iload_n 2, 1, 0, [2], [], false), (28, .aaload, 1, 0, [], [], false), (29, .getfield 42, 3, 0, [9, 4, 0, 0, 0], [], false), (32, .goto 4, 3, 0, [36], [], false), (35, .iconst 0, 1, 0, [], [], false), (36, .iadd, 1, 0, [], [], false), (37, .istore_n 1, 1, 0, [1, 1], [], false), (38, .iinc 2 1, 3, 1, [], [], false), (41, .goto (-37), 3, 0, [4], [], false), (44, .iload_n 1, 1, 0, [1], [], false), (45, .ireturn, 1, 0, [], [], false)]
def ix_sumOfWeights_y : MethodName := ⟨"SpanLayers$Index", "sumOfWeights", "()I"⟩
theorem ix_sumOfWeights_tb : sl_tbOK sl_R5 prog_7_method_25_code 3 (some .int) lk_ix [] ix_sumOfWeights_cd = true := by decide +kernel
def ix_sumOfWeights_ct : List sl_Ct := []
theorem ix_sumOfWeights_hc (g : sl_G) : sl_HC g sl_R5 0 ix_sumOfWeights_ct [] := sl_HC_nil g sl_R5 0
set_option maxRecDepth 20000 in
set_option maxHeartbeats 2000000 in
theorem ix_sumOfWeights_snd (g : sl_G) : sl_Snd g ix_sumOfWeights_y prog_7_method_25_code 3 (some .int) 0 (ix_sumOfWeights_pt) := by
  intro As μ Q hw h
  unfold ix_sumOfWeights_pt at h
  split at h
  next c0 a0 =>
    split at h
    next e_ =>
      subst e_
      split at h
      next e_ =>
        subst e_
        refine sl_mk2 g [true, false, false] (cst := [some (.inr (.inr (some (5, 1))))]) (lv0 := [none, none, none]) (by decide) rfl hw rfl rfl rfl lk_ix_ok (ix_sumOfWeights_hc g) ix_sumOfWeights_tb rfl ?_
        intro X M
        have v4 := sl_extL M sl_VV0 4 (fun n lv st μ => match lv, st with | [_, some (.inl x1), some (.inl x2)], [] => ix_sumOfWeights_L4 (fun r μ' => Q (some (.inl r)) μ') n x1 x2 μ | _, _ => False) (by
            intro lv st μ h
            split at h
            · exact h
            · exact h) (by
            intro n4 w4
            refine ⟨_, w4, ?_⟩
            intro lv st μ h
            split at h
            · exact h
            · exact h.elim)
        exact ⟨_, v4, h⟩
      next => exact h.elim
    next => exact h.elim
  next => exact h.elim
def ix_sumOfLengths_L4 (Q : Int32 → sl_M → Prop) : Nat → Int32 → Int32 → sl_M → Prop
  | 0, _, _, _ => False
  | n + 1, x1, x2, μ => (x2 < (30 : Int32) → vp_in x2 30 ∧ ((sl_bz (μ (4 + x2.toNatClampNeg) 1)) = (0 : Int32) → ∀ v1, v1 = (x1 + (0 : Int32)) → (ix_sumOfLengths_L4 Q n) v1 (x2 + (1 : Int32)) μ) ∧ (¬ (sl_bz (μ (4 + x2.toNatClampNeg) 1)) = (0 : Int32) → vp_in x2 30 ∧ sp_length (4 + x2.toNatClampNeg) μ (fun r3 m2 => ∀ v4, v4 = (x1 + r3) → (ix_sumOfLengths_L4 Q n) v4 (x2 + (1 : Int32)) m2))) ∧ (¬ x2 < (30 : Int32) → Q x1 μ)
def ix_sumOfLengths (μ : sl_M) (Q : Int32 → sl_M → Prop) : Prop := ∃ n5, ix_sumOfLengths_L4 Q n5 (0 : Int32) (0 : Int32) μ
def ix_sumOfLengths_pt : sl_PT := fun As μ Q => match As with
  | [.inr (.inr (some (c0, a0)))] => if c0 = 5 then (if a0 = 1 then (ix_sumOfLengths μ (fun r μ' => Q (some (.inl r)) μ')) else False) else False
  | _ => False
def ix_sumOfLengths_cd : List sl_Ent := [(0, .iconst 0, 1, 0, [], [], false), (1, .istore_n 1, 1, 0, [1], [], false), (2, .iconst 0, 1, 0, [], [], false), (3, .istore_n 2, 1, 0, [2], [], false), (4, .iload_n 2, 1, 0, [2], [], true), (5, .bipush 30, 2, 30, [], [], false), (7, .if_icmp .ge 37, 3, 0, [44], [], false), (10, .iload_n 1, 1, 0, [1], [], false), (11, .aload_n 0, 1, 0, [0], [], false), (12, .getfield 11, 3, 0, [5, 0, 2, 22, 1], [], false), (15, .iload_n 2, 1, 0, [2], [], false), (16, .aaload, 1, 0, [], [], false), (17, .getfield 31, 3, 0, [9, 1, 1, 0, 0], [], false), (20, .ifCond .eq 15, 3, 0, [35], [], false), (23, .aload_n 0, 1, 0, [0], [], false), (24, .getfield 11, 3, 0, [5, 0, 2, 22, 1], [], false), (27, .iload_n 2, 1, 0, [2], [], false), (28, .aaload, 1, 0, [], [], false), (29, .invokevirtual 81, 3, 0, [0], [], false), (32, .goto 4, 3, 0, [36], [], false), (35, .iconst 0, 1, 0, [], [], false), (36, .iadd, 1, 0, [], [], false), (37, .istore_n 1, 1, 0, [1, 1], [], false), (38, .iinc 2 1, 3, 1, [], [], false), (41, .goto (-37), 3, 0, [4], [], false), (44, .iload_n 1, 1, 0, [1], [], false), (45, .ireturn, 1, 0, [], [], false)]
def ix_sumOfLengths_y : MethodName := ⟨"SpanLayers$Index", "sumOfLengths", "()I"⟩
theorem ix_sumOfLengths_tb : sl_tbOK sl_R5 prog_7_method_26_code 3 (some .int) lk_ix [(81, 0)] ix_sumOfLengths_cd = true := by decide +kernel
def ix_sumOfLengths_ct : List sl_Ct := [(1, 0, 9, sp_length_pt)]
theorem ix_sumOfLengths_hc (g : sl_G) : sl_HC g sl_R5 1 ix_sumOfLengths_ct [(81, 0)] := sl_HC_cons (cs_ix_81 g (by decide)) (sl_HC_nil g sl_R5 1)
set_option maxRecDepth 20000 in
set_option maxHeartbeats 2000000 in
theorem ix_sumOfLengths_snd (g : sl_G) : sl_Snd g ix_sumOfLengths_y prog_7_method_26_code 3 (some .int) 1 (ix_sumOfLengths_pt) := by
  intro As μ Q hw h
  unfold ix_sumOfLengths_pt at h
  split at h
  next c0 a0 =>
    split at h
    next e_ =>
      subst e_
      split at h
      next e_ =>
        subst e_
        refine sl_mk2 g [true, false, false] (cst := [some (.inr (.inr (some (5, 1))))]) (lv0 := [none, none, none]) (by decide) rfl hw rfl rfl rfl lk_ix_ok (ix_sumOfLengths_hc g) ix_sumOfLengths_tb rfl ?_
        intro X M
        have v4 := sl_extL M sl_VV0 4 (fun n lv st μ => match lv, st with | [_, some (.inl x1), some (.inl x2)], [] => ix_sumOfLengths_L4 (fun r μ' => Q (some (.inl r)) μ') n x1 x2 μ | _, _ => False) (by
            intro lv st μ h
            split at h
            · exact h
            · exact h) (by
            intro n4 w4
            refine ⟨_, w4, ?_⟩
            intro lv st μ h
            split at h
            · exact h
            · exact h.elim)
        exact ⟨_, v4, h⟩
      next => exact h.elim
    next => exact h.elim
  next => exact h.elim
def ro_begin_L12 (a0 : Nat) (a1 : Int32) (Q : sl_M → Prop) : Nat → Int32 → sl_M → Prop
  | 0, _, _ => False
  | n + 1, x2, μ => (x2 < (40 : Int32) → vp_in x2 (sl_len (a0 + 1)) ∧ ∀ m1, m1 = sl_up μ (a0 + 1) x2.toNatClampNeg (0 : Int32) → (ro_begin_L12 a0 a1 Q n) (x2 + (1 : Int32)) m1) ∧ (¬ x2 < (40 : Int32) → Q μ)
def ro_begin (a0 : Nat) (a1 : Int32) (μ : sl_M) (Q : sl_M → Prop) : Prop := sl_bz (1 : Int32) = (1 : Int32) ∧ ∀ m2, m2 = sl_up μ a0 1 (1 : Int32) → ∀ m3, m3 = sl_up m2 a0 2 a1 → ∃ n4, ro_begin_L12 a0 a1 Q n4 (0 : Int32) m3
def ro_begin_pt : sl_PT := fun As μ Q => match As with
  | [.inr (.inr (some (c0, a0))), .inl a1] => if c0 = 8 then (ro_begin a0 a1 μ (fun μ' => Q none μ')) else False
  | _ => False
def ro_begin_cd : List sl_Ent := [(0, .aload_n 0, 1, 0, [0], [], false), (1, .iconst 1, 1, 1, [], [], false), (2, .putfield 15, 3, 0, [8, 1, 1], [], false), (5, .aload_n 0, 1, 0, [0], [], false), (6, .iload_n 1, 1, 0, [1], [], false), (7, .putfield 19, 3, 0, [8, 2, 0], [], false), (10, .iconst 0, 1, 0, [], [], false), (11, .istore_n 2, 1, 0, [2], [], false), (12, .iload_n 2, 1, 0, [2], [], true), (13, .bipush 40, 2, 40, [], [], false), (15, .if_icmp .ge 16, 3, 0, [31], [], false), (18, .aload_n 0, 1, 0, [0], [], false), (19, .getfield 9, 3, 0, [8, 0, 2, 20, 1], [], false), (22, .iload_n 2, 1, 0, [2], [], false), (23, .iconst 0, 1, 0, [], [], false), (24, .iastore, 1, 0, [], [], false), (25, .iinc 2 1, 3, 1, [], [], false), (28, .goto (-16), 3, 0, [12], [], false), (31, .return_, 1, 0, [], [], false)]
def ro_begin_y : MethodName := ⟨"SpanLayers$Row", "begin", "(I)V"⟩
theorem ro_begin_tb : sl_tbOK sl_R8 prog_10_method_2_code 3 none lk_ro [] ro_begin_cd = true := by decide +kernel
def ro_begin_ct : List sl_Ct := []
theorem ro_begin_hc (g : sl_G) : sl_HC g sl_R8 0 ro_begin_ct [] := sl_HC_nil g sl_R8 0
set_option maxRecDepth 20000 in
set_option maxHeartbeats 2000000 in
theorem ro_begin_snd (g : sl_G) : sl_Snd g ro_begin_y prog_10_method_2_code 3 none 0 (ro_begin_pt) := by
  intro As μ Q hw h
  unfold ro_begin_pt at h
  split at h
  next c0 a0 a1 =>
    split at h
    next e_ =>
      subst e_
      refine sl_mk2 g [true, true, false] (cst := [some (.inr (.inr (some (8, a0)))), some (.inl a1)]) (lv0 := [none, none, none]) (by decide) rfl hw rfl rfl rfl lk_ro_ok (ro_begin_hc g) ro_begin_tb rfl ?_
      intro X M
      have v12 := sl_extL M sl_VV0 12 (fun n lv st μ => match lv, st with | [_, _, some (.inl x2)], [] => ro_begin_L12 a0 a1 (fun μ' => Q none μ') n x2 μ | _, _ => False) (by
          intro lv st μ h
          split at h
          · exact h
          · exact h) (by
          intro n12 w12
          refine ⟨_, w12, ?_⟩
          intro lv st μ h
          split at h
          · exact h
          · exact h.elim)
      exact ⟨_, v12, h⟩
    next => exact h.elim
  next => exact h.elim
def ro_hasPlace (a0 : Nat) (a1 : Int32) (μ : sl_M) (Q : Int32 → sl_M → Prop) : Prop := sx_isBelow a1 (μ a0 2) μ (fun r2 m1 => (r2 = (0 : Int32) → sl_bz (0 : Int32) = (0 : Int32) ∧ Q (0 : Int32) m1) ∧ (¬ r2 = (0 : Int32) → (a1 < (40 : Int32) → sl_bz (1 : Int32) = (1 : Int32) ∧ Q (1 : Int32) m1) ∧ (¬ a1 < (40 : Int32) → sl_bz (0 : Int32) = (0 : Int32) ∧ Q (0 : Int32) m1)))
def ro_hasPlace_pt : sl_PT := fun As μ Q => match As with
  | [.inr (.inr (some (c0, a0))), .inl a1] => if c0 = 8 then (ro_hasPlace a0 a1 μ (fun r μ' => Q (some (.inl r)) μ')) else False
  | _ => False
def ro_hasPlace_cd : List sl_Ent := [(0, .iload_n 1, 1, 0, [1], [], false), (1, .aload_n 0, 1, 0, [0], [], false), (2, .getfield 19, 3, 0, [8, 2, 0, 0, 0], [], false), (5, .invokestatic 23, 3, 0, [0], [], false), (8, .ifCond .eq 13, 3, 0, [21], [], false), (11, .iload_n 1, 1, 0, [1], [], false), (12, .bipush 40, 2, 40, [], [], false), (14, .if_icmp .ge 7, 3, 0, [21], [], false), (17, .iconst 1, 1, 1, [], [], false), (18, .goto 4, 3, 0, [22], [], false), (21, .iconst 0, 1, 0, [], [], false), (22, .ireturn, 1, 0, [1], [], false)]
def ro_hasPlace_y : MethodName := ⟨"SpanLayers$Row", "hasPlace", "(I)Z"⟩
theorem ro_hasPlace_tb : sl_tbOK sl_R8 prog_10_method_3_code 2 (some .boolean) lk_ro [(23, 1)] ro_hasPlace_cd = true := by decide +kernel
theorem cs_ro_23 (g : sl_G) {hh : Nat} (h : 1 ≤ hh) : sl_CallS g sl_R8 23 1 0 hh 2 sx_isBelow_pt := sl_callN (host := "SpanLayers") (y := sx_isBelow_y) (sx_isBelow_snd g) h (by decide) (List.mem_of_getElem? (i := 13) rfl) sx_isBelow_w2 sx_isBelow_w4 sx_isBelow_w5 sx_isBelow_w6
def ro_hasPlace_ct : List sl_Ct := [(2, 1, 0, sx_isBelow_pt)]
theorem ro_hasPlace_hc (g : sl_G) : sl_HC g sl_R8 1 ro_hasPlace_ct [(23, 1)] := sl_HC_cons (cs_ro_23 g (by decide)) (sl_HC_nil g sl_R8 1)
set_option maxRecDepth 20000 in
set_option maxHeartbeats 2000000 in
theorem ro_hasPlace_snd (g : sl_G) : sl_Snd g ro_hasPlace_y prog_10_method_3_code 2 (some .boolean) 1 (ro_hasPlace_pt) := by
  intro As μ Q hw h
  unfold ro_hasPlace_pt at h
  split at h
  next c0 a0 a1 =>
    split at h
    next e_ =>
      subst e_
      refine sl_mk2 g [true, true] (cst := [some (.inr (.inr (some (8, a0)))), some (.inl a1)]) (lv0 := [none, none]) (by decide) rfl hw rfl rfl rfl lk_ro_ok (ro_hasPlace_hc g) ro_hasPlace_tb rfl ?_
      intro X M
      exact ⟨_, sl_VV0, h⟩
    next => exact h.elim
  next => exact h.elim
def ro_write (a0 : Nat) (a1 : Int32) (a2 : Int32) (μ : sl_M) (Q : Int32 → sl_M → Prop) : Prop := ro_hasPlace a0 a1 μ (fun r2 m1 => (r2 = (0 : Int32) → sl_bz (0 : Int32) = (0 : Int32) ∧ Q (0 : Int32) m1) ∧ (¬ r2 = (0 : Int32) → vp_in a1 (sl_len (a0 + 1)) ∧ ∀ m3, m3 = sl_up m1 (a0 + 1) a1.toNatClampNeg a2 → sl_bz (1 : Int32) = (1 : Int32) ∧ Q (1 : Int32) m3))
def ro_write_pt : sl_PT := fun As μ Q => match As with
  | [.inr (.inr (some (c0, a0))), .inl a1, .inl a2] => if c0 = 8 then (ro_write a0 a1 a2 μ (fun r μ' => Q (some (.inl r)) μ')) else False
  | _ => False
def ro_write_cd : List sl_Ent := [(0, .aload_n 0, 1, 0, [0], [], false), (1, .iload_n 1, 1, 0, [1], [], false), (2, .invokevirtual 27, 3, 0, [0], [], false), (5, .ifCond .ne 5, 3, 0, [10], [], false), (8, .iconst 0, 1, 0, [], [], false), (9, .ireturn, 1, 0, [1], [], false), (10, .aload_n 0, 1, 0, [0], [], false), (11, .getfield 9, 3, 0, [8, 0, 2, 20, 1], [], false), (14, .iload_n 1, 1, 0, [1], [], false), (15, .iload_n 2, 1, 0, [2], [], false), (16, .iastore, 1, 0, [], [], false), (17, .iconst 1, 1, 1, [], [], false), (18, .ireturn, 1, 0, [1], [], false)]
def ro_write_y : MethodName := ⟨"SpanLayers$Row", "write", "(II)Z"⟩
theorem ro_write_tb : sl_tbOK sl_R8 prog_10_method_4_code 3 (some .boolean) lk_ro [(27, 0)] ro_write_cd = true := by decide +kernel
theorem ro_hasPlace_w2 : Cond.instanceMethod ro_hasPlace_y ∈ sl_T0 := sl_in1 980 (by decide +kernel) rfl
theorem ro_hasPlace_w3 : Cond.selects ro_hasPlace_y.cls ro_hasPlace_y ro_hasPlace_y ∈ sl_T0 := sl_in1 981 (by decide +kernel) rfl
theorem ro_hasPlace_w4 : Cond.initialized ro_hasPlace_y.cls ∈ sl_T0 := sl_in1 96 (by decide +kernel) rfl
theorem ro_hasPlace_w5 : Cond.code ro_hasPlace_y prog_10_method_3_code 2 (some .boolean) ∈ sl_T0 := sl_in1 982 (by decide +kernel) rfl
theorem ro_hasPlace_w6 : ro_hasPlace_y.cls ≠ "java/lang/invoke/MethodHandle" ∧ ro_hasPlace_y.cls ≠ "java/lang/invoke/VarHandle" ∧ (parseMethodDescriptor ro_hasPlace_y.desc).map (fun d => d.parameters.length) = some 1 := by decide +kernel
theorem cs_ro_27 (g : sl_G) {hh : Nat} (h : 2 ≤ hh) : sl_CallS g sl_R8 27 0 8 hh 2 ro_hasPlace_pt := sl_callV (y := ro_hasPlace_y) (T := sl_F8) (N := 3) (ro_hasPlace_snd g) h (by decide) (sl_in1 979 (by decide +kernel) rfl) ro_hasPlace_w2 ro_hasPlace_w3 ro_hasPlace_w4 ro_hasPlace_w5 ro_hasPlace_w6 rfl (by decide)
def ro_write_ct : List sl_Ct := [(2, 0, 8, ro_hasPlace_pt)]
theorem ro_write_hc (g : sl_G) : sl_HC g sl_R8 2 ro_write_ct [(27, 0)] := sl_HC_cons (cs_ro_27 g (by decide)) (sl_HC_nil g sl_R8 2)
set_option maxRecDepth 20000 in
set_option maxHeartbeats 2000000 in
theorem ro_write_snd (g : sl_G) : sl_Snd g ro_write_y prog_10_method_4_code 3 (some .boolean) 2 (ro_write_pt) := by
  intro As μ Q hw h
  unfold ro_write_pt at h
  split at h
  next c0 a0 a1 a2 =>
    split at h
    next e_ =>
      subst e_
      refine sl_mk2 g [true, true, true] (cst := [some (.inr (.inr (some (8, a0)))), some (.inl a1), some (.inl a2)]) (lv0 := [none, none, none]) (by decide) rfl hw rfl rfl rfl lk_ro_ok (ro_write_hc g) ro_write_tb rfl ?_
      intro X M
      exact ⟨_, sl_VV0, h⟩
    next => exact h.elim
  next => exact h.elim
def ix_copyFrom_k_L2 (Q : sl_M → Prop) : Nat → Int32 → sl_M → Prop
  | 0, _, _ => False
  | n + 1, x2, μ => (x2 < (30 : Int32) → vp_in x2 30 ∧ vp_in x2 30 ∧ sp_copyFrom (60 + x2.toNatClampNeg) (4 + x2.toNatClampNeg) μ (fun m1 => (ix_copyFrom_k_L2 Q n) (x2 + (1 : Int32)) m1)) ∧ (¬ x2 < (30 : Int32) → Q μ)
def ix_copyFrom_k (μ : sl_M) (Q : sl_M → Prop) : Prop := ∃ n2, ix_copyFrom_k_L2 Q n2 (0 : Int32) μ
def ix_copyFrom_u_L2 (Q : sl_M → Prop) : Nat → Int32 → sl_M → Prop
  | 0, _, _ => False
  | n + 1, x2, μ => (x2 < (30 : Int32) → vp_in x2 30 ∧ vp_in x2 30 ∧ sp_copyFrom (4 + x2.toNatClampNeg) (60 + x2.toNatClampNeg) μ (fun m1 => (ix_copyFrom_u_L2 Q n) (x2 + (1 : Int32)) m1)) ∧ (¬ x2 < (30 : Int32) → Q μ)
def ix_copyFrom_u (μ : sl_M) (Q : sl_M → Prop) : Prop := ∃ n2, ix_copyFrom_u_L2 Q n2 (0 : Int32) μ
def ix_copyFrom_pt : sl_PT := fun As μ Q => match As with
  | [.inr (.inr (some (c0, a0))), .inr (.inr (some (c1, a1)))] => if c0 = 5 then (if c1 = 5 then (if a0 = 57 ∧ a1 = 1 then (ix_copyFrom_k μ (fun μ' => Q none μ')) else (if a0 = 1 ∧ a1 = 57 then (ix_copyFrom_u μ (fun μ' => Q none μ')) else False)) else False) else False
  | _ => False
def ix_copyFrom_cd : List sl_Ent := [(0, .iconst 0, 1, 0, [], [], false), (1, .istore_n 2, 1, 0, [2], [], false), (2, .iload_n 2, 1, 0, [2], [], true), (3, .bipush 30, 2, 30, [], [], false), (5, .if_icmp .ge 24, 3, 0, [29], [], false), (8, .aload_n 0, 1, 0, [0], [], false), (9, .getfield 11, 3, 0, [5, 0, 2, 22, 1], [], false), (12, .iload_n 2, 1, 0, [2], [], false), (13, .aaload, 1, 0, [], [], false), (14, .aload_n 1, 1, 0, [1], [], false), (15, .getfield 11, 3, 0, [5, 0, 2, 22, 1], [], false), (18, .iload_n 2, 1, 0, [2], [], false), (19, .aaload, 1, 0, [], [], false), (20, .invokevirtual 23, 3, 0, [0], [], false), (23, .iinc 2 1, 3, 1, [], [], false), (26, .goto (-24), 3, 0, [2], [], false), (29, .return_, 1, 0, [], [], false)]
def ix_copyFrom_y : MethodName := ⟨"SpanLayers$Index", "copyFrom", "(LSpanLayers$Index;)V"⟩
theorem ix_copyFrom_tb : sl_tbOK sl_R5 prog_7_method_2_code 3 none lk_ix [(23, 0)] ix_copyFrom_cd = true := by decide +kernel
theorem cs_ix_23 (g : sl_G) {hh : Nat} (h : 1 ≤ hh) : sl_CallS g sl_R5 23 0 9 hh 2 sp_copyFrom_pt := sl_callV (y := sp_copyFrom_y) (T := sl_F9) (N := 6) (sp_copyFrom_snd g) h (by decide) (sl_in1 1006 (by decide +kernel) rfl) sp_copyFrom_w2 sp_copyFrom_w3 sp_copyFrom_w4 sp_copyFrom_w5 sp_copyFrom_w6 rfl (by decide)
def ix_copyFrom_ct : List sl_Ct := [(2, 0, 9, sp_copyFrom_pt)]
theorem ix_copyFrom_hc (g : sl_G) : sl_HC g sl_R5 1 ix_copyFrom_ct [(23, 0)] := sl_HC_cons (cs_ix_23 g (by decide)) (sl_HC_nil g sl_R5 1)
set_option maxRecDepth 20000 in
set_option maxHeartbeats 2000000 in
theorem ix_copyFrom_snd (g : sl_G) : sl_Snd g ix_copyFrom_y prog_7_method_2_code 3 none 1 (ix_copyFrom_pt) := by
  intro As μ Q hw h
  unfold ix_copyFrom_pt at h
  split at h
  next c0 a0 c1 a1 =>
    split at h
    next e_ =>
      subst e_
      split at h
      next e_ =>
        subst e_
        split at h
        next e_ =>
          obtain ⟨rfl, rfl⟩ := e_
          refine sl_mk2 g [true, true, false] (cst := [some (.inr (.inr (some (5, 57)))), some (.inr (.inr (some (5, 1))))]) (lv0 := [none, none, none]) (by decide) rfl hw rfl rfl rfl lk_ix_ok (ix_copyFrom_hc g) ix_copyFrom_tb rfl ?_
          intro X M
          have v2 := sl_extL M sl_VV0 2 (fun n lv st μ => match lv, st with | [_, _, some (.inl x2)], [] => ix_copyFrom_k_L2 (fun μ' => Q none μ') n x2 μ | _, _ => False) (by
              intro lv st μ h
              split at h
              · exact h
              · exact h) (by
              intro n2 w2
              refine ⟨_, w2, ?_⟩
              intro lv st μ h
              split at h
              · exact h
              · exact h.elim)
          exact ⟨_, v2, h⟩
        next =>
          split at h
          next e_ =>
            obtain ⟨rfl, rfl⟩ := e_
            refine sl_mk2 g [true, true, false] (cst := [some (.inr (.inr (some (5, 1)))), some (.inr (.inr (some (5, 57))))]) (lv0 := [none, none, none]) (by decide) rfl hw rfl rfl rfl lk_ix_ok (ix_copyFrom_hc g) ix_copyFrom_tb rfl ?_
            intro X M
            have v2 := sl_extL M sl_VV0 2 (fun n lv st μ => match lv, st with | [_, _, some (.inl x2)], [] => ix_copyFrom_u_L2 (fun μ' => Q none μ') n x2 μ | _, _ => False) (by
                intro lv st μ h
                split at h
                · exact h
                · exact h) (by
                intro n2 w2
                refine ⟨_, w2, ?_⟩
                intro lv st μ h
                split at h
                · exact h
                · exact h.elim)
            exact ⟨_, v2, h⟩
          next => exact h.elim
      next => exact h.elim
    next => exact h.elim
  next => exact h.elim
