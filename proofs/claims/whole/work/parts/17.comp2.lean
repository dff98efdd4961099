def tp_isSame_L31 (a1 : Int32) (a2 : Nat) (a3 : Int32) (a4 : Int32) (Q : Int32 → sl_M → Prop) : Nat → Int32 → sl_M → Prop
  | 0, _, _ => False
  | n + 1, x5, μ => (x5 < (a4 - a3) → vp_in (a1 + x5) 80 ∧ sg_charAt a2 (a3 + x5) μ (fun r2 m1 => ((μ 44 (a1 + x5).toNatClampNeg) = r2 → (tp_isSame_L31 a1 a2 a3 a4 Q n) (x5 + (1 : Int32)) m1) ∧ (¬ (μ 44 (a1 + x5).toNatClampNeg) = r2 → sl_bz (0 : Int32) = (0 : Int32) ∧ Q (0 : Int32) m1))) ∧ (¬ x5 < (a4 - a3) → sl_bz (1 : Int32) = (1 : Int32) ∧ Q (1 : Int32) μ)
def tp_isSame (a1 : Int32) (a2 : Nat) (a3 : Int32) (a4 : Int32) (μ : sl_M) (Q : Int32 → sl_M → Prop) : Prop := (a1 < (0 : Int32) → sl_bz (0 : Int32) = (0 : Int32) ∧ Q (0 : Int32) μ) ∧ (¬ a1 < (0 : Int32) → ((μ 43 2) ≤ (80 : Int32) → (((μ 43 2) - a1) = (a4 - a3) → ∃ n3, tp_isSame_L31 a1 a2 a3 a4 Q n3 (0 : Int32) μ) ∧ (¬ ((μ 43 2) - a1) = (a4 - a3) → sl_bz (0 : Int32) = (0 : Int32) ∧ Q (0 : Int32) μ)) ∧ (¬ (μ 43 2) ≤ (80 : Int32) → sl_bz (0 : Int32) = (0 : Int32) ∧ Q (0 : Int32) μ))
def tp_isSame_pt : sl_PT := fun As μ Q => match As with
  | [.inr (.inr (some (c0, a0))), .inl a1, .inr (.inr (some (c2, a2))), .inl a3, .inl a4] => if c0 = 10 then (if c2 = 90 then (if a0 = 43 then (tp_isSame a1 a2 a3 a4 μ (fun r μ' => Q (some (.inl r)) μ')) else False) else False) else False
  | _ => False
def tp_isSame_cd : List sl_Ent := [(0, .iload_n 1, 1, 0, [1], [], false), (1, .ifCond .lt 25, 3, 0, [26], [], false), (4, .aload_n 0, 1, 0, [0], [], false), (5, .getfield 22, 3, 0, [10, 2, 0, 0, 0], [], false), (8, .bipush 80, 2, 80, [], [], false), (10, .if_icmp .gt 16, 3, 0, [26], [], false), (13, .aload_n 0, 1, 0, [0], [], false), (14, .getfield 22, 3, 0, [10, 2, 0, 0, 0], [], false), (17, .iload_n 1, 1, 0, [1], [], false), (18, .isub, 1, 0, [], [], false), (19, .iload 4, 2, 0, [4], [], false), (21, .iload_n 3, 1, 0, [3], [], false), (22, .isub, 1, 0, [], [], false), (23, .if_icmp .eq 5, 3, 0, [28], [], false), (26, .iconst 0, 1, 0, [], [], false), (27, .ireturn, 1, 0, [1], [], false), (28, .iconst 0, 1, 0, [], [], false), (29, .istore 5, 2, 0, [5], [], false), (31, .iload 5, 2, 0, [5], [], true), (33, .iload 4, 2, 0, [4], [], false), (35, .iload_n 3, 1, 0, [3], [], false), (36, .isub, 1, 0, [], [], false), (37, .if_icmp .ge 31, 3, 0, [68], [], false), (40, .aload_n 0, 1, 0, [0], [], false), (41, .getfield 9, 3, 0, [10, 0, 2, 20, 1], [], false), (44, .iload_n 1, 1, 0, [1], [], false), (45, .iload 5, 2, 0, [5], [], false), (47, .iadd, 1, 0, [], [], false), (48, .iaload, 1, 0, [], [], false), (49, .aload_n 2, 1, 0, [2], [], false), (50, .iload_n 3, 1, 0, [3], [], false), (51, .iload 5, 2, 0, [5], [], false), (53, .iadd, 1, 0, [], [], false), (54, .invokevirtual 49, 3, 0, [0], [], false), (57, .if_icmp .eq 5, 3, 0, [62], [], false), (60, .iconst 0, 1, 0, [], [], false), (61, .ireturn, 1, 0, [1], [], false), (62, .iinc 5 1, 3, 1, [], [], false), (65, .goto (-34), 3, 0, [31], [], false), (68, .iconst 1, 1, 1, [], [], false), (69, .ireturn, 1, 0, [1], [], false)]
def tp_isSame_y : MethodName := ⟨"SpanLayers$Tape", "isSame", "(ILjava/lang/String;II)Z"⟩
theorem tp_isSame_tb : sl_tbOK sl_R10 prog_12_method_13_code 6 (some .boolean) lk_tp [(49, 0)] tp_isSame_cd = true := by decide +kernel
theorem sg_charAt_w2 : Cond.instanceMethod sg_charAt_y ∈ sl_T0 := sl_in1 776 (by decide +kernel) rfl
theorem sg_charAt_w3 : Cond.selects sg_charAt_y.cls sg_charAt_y sg_charAt_y ∈ sl_T0 := sl_in1 777 (by decide +kernel) rfl
theorem sg_charAt_w4 : Cond.initialized sg_charAt_y.cls ∈ sl_T0 := sl_in1 100 (by decide +kernel) rfl
theorem sg_charAt_w5 : Cond.code sg_charAt_y prog_17_method_56_code 2 (some .char) ∈ sl_T0 := sl_in1 778 (by decide +kernel) rfl
theorem sg_charAt_w6 : sg_charAt_y.cls ≠ "java/lang/invoke/MethodHandle" ∧ sg_charAt_y.cls ≠ "java/lang/invoke/VarHandle" ∧ (parseMethodDescriptor sg_charAt_y.desc).map (fun d => d.parameters.length) = some 1 := by decide +kernel
theorem cs_tp_49 (g : sl_G) {hh : Nat} (h : 7 ≤ hh) : sl_CallS g sl_R10 49 0 90 hh 2 sg_charAt_pt := sl_callG (y := sg_charAt_y) sg_charAt_ho (sg_charAt_snd g) h (by decide) (sl_in1 775 (by decide +kernel) rfl) sg_charAt_w2 sg_charAt_w3 sg_charAt_w4 sg_charAt_w5 sg_charAt_w6 rfl
def tp_isSame_ct : List sl_Ct := [(2, 0, 90, sg_charAt_pt)]
theorem tp_isSame_hc (g : sl_G) : sl_HC g sl_R10 7 tp_isSame_ct [(49, 0)] := sl_HC_cons (cs_tp_49 g (by decide)) (sl_HC_nil g sl_R10 7)
set_option maxRecDepth 20000 in
set_option maxHeartbeats 2000000 in
theorem tp_isSame_snd (g : sl_G) : sl_Snd g tp_isSame_y prog_12_method_13_code 6 (some .boolean) 7 (tp_isSame_pt) := by
  intro As μ Q hw h
  unfold tp_isSame_pt at h
  split at h
  next c0 a0 a1 c2 a2 a3 a4 =>
    split at h
    next e_ =>
      subst e_
      split at h
      next e_ =>
        subst e_
        split at h
        next e_ =>
          subst e_
          refine sl_mk2 g [true, true, true, true, true, false] (cst := [some (.inr (.inr (some (10, 43)))), some (.inl a1), some (.inr (.inr (some (90, a2)))), some (.inl a3), some (.inl a4)]) (lv0 := [none, none, none, none, none, none]) (by decide) rfl hw rfl rfl rfl lk_tp_ok (tp_isSame_hc g) tp_isSame_tb rfl ?_
          intro X M
          have v31 := sl_extL M sl_VV0 31 (fun n lv st μ => match lv, st with | [_, _, _, _, _, some (.inl x5)], [] => tp_isSame_L31 a1 a2 a3 a4 (fun r μ' => Q (some (.inl r)) μ') n x5 μ | _, _ => False) (by
              intro lv st μ h
              split at h
              · exact h
              · exact h) (by
              intro n31 w31
              refine ⟨_, w31, ?_⟩
              intro lv st μ h
              split at h
              · exact h
              · exact h.elim)
          exact ⟨_, v31, h⟩
        next => exact h.elim
      next => exact h.elim
    next => exact h.elim
  next => exact h.elim
def tp_readOneOf_L55 (a1 : Nat) (Q : Int32 → sl_M → Prop) : Nat → Int32 → Int32 → Int32 → Int32 → sl_M → Prop
  | 0, _, _, _, _, _ => False
  | n + 1, x2, x3, x4, x5, μ => sg_length a1 μ (fun r10 m9 => (x5 < r10 → sg_charAt a1 x5 m9 (fun r12 m11 => (r12 = (32 : Int32) → tp_isSame x2 a1 x4 x5 m11 (fun r14 m13 => (r14 = (0 : Int32) → ∀ v15, v15 = (x5 + (1 : Int32)) → (tp_readOneOf_L55 a1 Q n) x2 (x3 + (1 : Int32)) v15 (x5 + (1 : Int32)) m13) ∧ (¬ r14 = (0 : Int32) → Q x3 m13))) ∧ (¬ r12 = (32 : Int32) → (tp_readOneOf_L55 a1 Q n) x2 x3 x4 (x5 + (1 : Int32)) m11))) ∧ (¬ x5 < r10 → tp_fail x2 m9 (fun m16 => Q (-1 : Int32) m16)))
def tp_readOneOf_L7 (a1 : Nat) (Q : Int32 → sl_M → Prop) : Nat → Int32 → Int32 → sl_M → Prop
  | 0, _, _, _ => False
  | n + 1, x2, x3, μ => (x3 < (80 : Int32) → tp_letter μ (fun r2 m1 => (r2 < (97 : Int32) → ∃ n3, tp_readOneOf_L55 a1 Q n3 x2 (0 : Int32) (0 : Int32) (0 : Int32) m1) ∧ (¬ r2 < (97 : Int32) → tp_letter m1 (fun r5 m4 => (r5 ≤ (122 : Int32) → ∀ m6, m6 = sl_up m4 43 2 ((m4 43 2) + (1 : Int32)) → (tp_readOneOf_L7 a1 Q n) x2 (x3 + (1 : Int32)) m6) ∧ (¬ r5 ≤ (122 : Int32) → ∃ n7, tp_readOneOf_L55 a1 Q n7 x2 (0 : Int32) (0 : Int32) (0 : Int32) m4))))) ∧ (¬ x3 < (80 : Int32) → ∃ n8, tp_readOneOf_L55 a1 Q n8 x2 (0 : Int32) (0 : Int32) (0 : Int32) μ)
def tp_readOneOf (a1 : Nat) (μ : sl_M) (Q : Int32 → sl_M → Prop) : Prop := ∀ v17, v17 = (μ 43 2) → ∃ n18, tp_readOneOf_L7 a1 Q n18 v17 (0 : Int32) μ
def tp_readOneOf_pt : sl_PT := fun As μ Q => match As with
  | [.inr (.inr (some (c0, a0))), .inr (.inr (some (c1, a1)))] => if c0 = 10 then (if c1 = 90 then (if a0 = 43 then (tp_readOneOf a1 μ (fun r μ' => Q (some (.inl r)) μ')) else False) else False) else False
  | _ => False
def tp_readOneOf_cd : List sl_Ent := [(0, .aload_n 0, 1, 0, [0], [], false), (1, .getfield 22, 3, 0, [10, 2, 0, 0, 0], [], false), (4, .istore_n 2, 1, 0, [2, 1], [], false), (5, .iconst 0, 1, 0, [], [], false), (6, .istore_n 3, 1, 0, [3], [], false), (7, .iload_n 3, 1, 0, [3], [], true), (8, .bipush 80, 2, 80, [], [], false), (10, .if_icmp .ge 37, 3, 0, [47], [], false), (13, .aload_n 0, 1, 0, [0], [], false), (14, .invokevirtual 32, 3, 0, [0], [], false), (17, .bipush 97, 2, 97, [], [], false), (19, .if_icmp .lt 28, 3, 0, [47], [], false), (22, .aload_n 0, 1, 0, [0], [], false), (23, .invokevirtual 32, 3, 0, [0], [], false), (26, .bipush 122, 2, 122, [], [], false), (28, .if_icmp .gt 19, 3, 0, [47], [], false), (31, .aload_n 0, 1, 0, [0], [], false), (32, .dup, 1, 0, [], [], false), (33, .getfield 22, 3, 0, [10, 2, 0, 0, 0], [], false), (36, .iconst 1, 1, 1, [], [], false), (37, .iadd, 1, 0, [], [], false), (38, .putfield 22, 3, 0, [10, 2, 0], [], false), (41, .iinc 3 1, 3, 1, [], [], false), (44, .goto (-37), 3, 0, [7], [], false), (47, .iconst 0, 1, 0, [], [], false), (48, .istore_n 3, 1, 0, [3], [], false), (49, .iconst 0, 1, 0, [], [], false), (50, .istore 4, 2, 0, [4], [], false), (52, .iconst 0, 1, 0, [], [], false), (53, .istore 5, 2, 0, [5], [], false), (55, .iload 5, 2, 0, [5], [], true), (57, .aload_n 1, 1, 0, [1], [], false), (58, .invokevirtual 44, 3, 0, [1], [], false), (61, .if_icmp .ge 44, 3, 0, [105], [], false), (64, .aload_n 1, 1, 0, [1], [], false), (65, .iload 5, 2, 0, [5], [], false), (67, .invokevirtual 49, 3, 0, [2], [], false), (70, .bipush 32, 2, 32, [], [], false), (72, .if_icmp .ne 27, 3, 0, [99], [], false), (75, .aload_n 0, 1, 0, [0], [], false), (76, .iload_n 2, 1, 0, [2], [], false), (77, .aload_n 1, 1, 0, [1], [], false), (78, .iload 4, 2, 0, [4], [], false), (80, .iload 5, 2, 0, [5], [], false), (82, .invokevirtual 53, 3, 0, [3], [], false), (85, .ifCond .eq 5, 3, 0, [90], [], false), (88, .iload_n 3, 1, 0, [3], [], false), (89, .ireturn, 1, 0, [], [], false), (90, .iinc 3 1, 3, 1, [], [], false), (93, .iload 5, 2, 0, [5], [], false), (95, .iconst 1, 1, 1, [], [], false), (96, .iadd, 1, 0, [], [], false), (97, .istore 4, 2, 0, [4, 1], [], false), (99, .iinc 5 1, 3, 1, [], [], false), (102, .goto (-47), 3, 0, [55], [], false), (105, .aload_n 0, 1, 0, [0], [], false), (106, .iload_n 2, 1, 0, [2], [], false), (107, .invokevirtual 25, 3, 0, [4], [], false), (110, .iconst (-1), 1, (-1), [], [], false), (111, .ireturn, 1, 0, [], [], false)]
def tp_readOneOf_y : MethodName := ⟨"SpanLayers$Tape", "readOneOf", "(Ljava/lang/String;)I"⟩
theorem tp_readOneOf_tb : sl_tbOK sl_R10 prog_12_method_12_code 6 (some .int) lk_tp [(32, 0), (44, 0), (49, 0), (53, 0), (25, 0)] tp_readOneOf_cd = true := by decide +kernel
theorem sg_length_w2 : Cond.instanceMethod sg_length_y ∈ sl_T0 := sl_in1 766 (by decide +kernel) rfl
theorem sg_length_w3 : Cond.selects sg_length_y.cls sg_length_y sg_length_y ∈ sl_T0 := sl_in1 767 (by decide +kernel) rfl
theorem sg_length_w4 : Cond.initialized sg_length_y.cls ∈ sl_T0 := sl_in1 100 (by decide +kernel) rfl
theorem sg_length_w5 : Cond.code sg_length_y prog_17_method_54_code 1 (some .int) ∈ sl_T0 := sl_in1 768 (by decide +kernel) rfl
theorem sg_length_w6 : sg_length_y.cls ≠ "java/lang/invoke/MethodHandle" ∧ sg_length_y.cls ≠ "java/lang/invoke/VarHandle" ∧ (parseMethodDescriptor sg_length_y.desc).map (fun d => d.parameters.length) = some 0 := by decide +kernel
theorem cs_tp_44 (g : sl_G) {hh : Nat} (h : 7 ≤ hh) : sl_CallS g sl_R10 44 0 90 hh 1 sg_length_pt := sl_callG (y := sg_length_y) sg_length_ho (sg_length_snd g) h (by decide) (sl_in1 765 (by decide +kernel) rfl) sg_length_w2 sg_length_w3 sg_length_w4 sg_length_w5 sg_length_w6 rfl
theorem tp_isSame_w2 : Cond.instanceMethod tp_isSame_y ∈ sl_T0 := sl_in1 815 (by decide +kernel) rfl
theorem tp_isSame_w3 : Cond.selects tp_isSame_y.cls tp_isSame_y tp_isSame_y ∈ sl_T0 := sl_in1 14 (by decide +kernel) rfl
theorem tp_isSame_w4 : Cond.initialized tp_isSame_y.cls ∈ sl_T0 := sl_in1 90 (by decide +kernel) rfl
theorem tp_isSame_w5 : Cond.code tp_isSame_y prog_12_method_13_code 6 (some .boolean) ∈ sl_T0 := sl_in1 816 (by decide +kernel) rfl
theorem tp_isSame_w6 : tp_isSame_y.cls ≠ "java/lang/invoke/MethodHandle" ∧ tp_isSame_y.cls ≠ "java/lang/invoke/VarHandle" ∧ (parseMethodDescriptor tp_isSame_y.desc).map (fun d => d.parameters.length) = some 4 := by decide +kernel
theorem cs_tp_53 (g : sl_G) {hh : Nat} (h : 8 ≤ hh) : sl_CallS g sl_R10 53 0 10 hh 5 tp_isSame_pt := sl_callV (y := tp_isSame_y) (T := sl_F10) (N := 4) (tp_isSame_snd g) h (by decide) (sl_in1 813 (by decide +kernel) rfl) tp_isSame_w2 tp_isSame_w3 tp_isSame_w4 tp_isSame_w5 tp_isSame_w6 rfl (by decide)
def tp_readOneOf_ct : List sl_Ct := [(1, 0, 10, tp_letter_pt), (1, 0, 90, sg_length_pt), (2, 0, 90, sg_charAt_pt), (5, 0, 10, tp_isSame_pt), (2, 0, 10, tp_fail_pt)]
theorem tp_readOneOf_hc (g : sl_G) : sl_HC g sl_R10 8 tp_readOneOf_ct [(32, 0), (44, 0), (49, 0), (53, 0), (25, 0)] := sl_HC_cons (cs_tp_32 g (by decide)) (sl_HC_cons (cs_tp_44 g (by decide)) (sl_HC_cons (cs_tp_49 g (by decide)) (sl_HC_cons (cs_tp_53 g (by decide)) (sl_HC_cons (cs_tp_25 g (by decide)) (sl_HC_nil g sl_R10 8)))))
set_option maxRecDepth 20000 in
set_option maxHeartbeats 2000000 in
theorem tp_readOneOf_snd (g : sl_G) : sl_Snd g tp_readOneOf_y prog_12_method_12_code 6 (some .int) 8 (tp_readOneOf_pt) := by
  intro As μ Q hw h
  unfold tp_readOneOf_pt at h
  split at h
  next c0 a0 c1 a1 =>
    split at h
    next e_ =>
      subst e_
      split at h
      next e_ =>
        subst e_
        split at h
        next e_ =>
          subst e_
          refine sl_mk2 g [true, true, false, false, false, false] (cst := [some (.inr (.inr (some (10, 43)))), some (.inr (.inr (some (90, a1))))]) (lv0 := [none, none, none, none, none, none]) (by decide) rfl hw rfl rfl rfl lk_tp_ok (tp_readOneOf_hc g) tp_readOneOf_tb rfl ?_
          intro X M
          have v55 := sl_extL M sl_VV0 55 (fun n lv st μ => match lv, st with | [_, _, some (.inl x2), some (.inl x3), some (.inl x4), some (.inl x5)], [] => tp_readOneOf_L55 a1 (fun r μ' => Q (some (.inl r)) μ') n x2 x3 x4 x5 μ | _, _ => False) (by
              intro lv st μ h
              split at h
              · exact h
              · exact h) (by
              intro n55 w55
              refine ⟨_, w55, ?_⟩
              intro lv st μ h
              split at h
              · exact h
              · exact h.elim)
          have v7 := sl_extL M v55 7 (fun n lv st μ => match lv, st with | [_, _, some (.inl x2), some (.inl x3), _, _], [] => tp_readOneOf_L7 a1 (fun r μ' => Q (some (.inl r)) μ') n x2 x3 μ | _, _ => False) (by
              intro lv st μ h
              split at h
              · exact h
              · exact h) (by
              intro n7 w7
              refine ⟨_, w7, ?_⟩
              intro lv st μ h
              split at h
              · exact h
              · exact h.elim)
          exact ⟨_, v7, h⟩
        next => exact h.elim
      next => exact h.elim
    next => exact h.elim
  next => exact h.elim
def cn_readTest_L25 (Q : Int32 → sl_M → Prop) : Nat → Int32 → Int32 → Int32 → Int32 → Int32 → sl_M → Prop
  | 0, _, _, _, _, _, _ => False
  | n + 1, x2, x3, x4, x5, x6, μ => (x6 < (30 : Int32) → vp_in x6 30 ∧ ((sl_bz (μ (4 + x6.toNatClampNeg) 1)) = (0 : Int32) → (cn_readTest_L25 Q n) x2 x3 x4 x5 (x6 + (1 : Int32)) μ) ∧ (¬ (sl_bz (μ (4 + x6.toNatClampNeg) 1)) = (0 : Int32) → sp_valueOf (4 + x6.toNatClampNeg) x2 μ (fun r2 m1 => cn_isSo r2 x3 x4 m1 (fun r4 m3 => (r4 = (0 : Int32) → (cn_readTest_L25 Q n) x2 x3 x4 x5 (x6 + (1 : Int32)) m3) ∧ (¬ r4 = (0 : Int32) → ∀ v5, v5 = (x5 ||| ((1 : Int32) <<< (x6 &&& 31))) → (cn_readTest_L25 Q n) x2 x3 x4 v5 (x6 + (1 : Int32)) m3))))) ∧ (¬ x6 < (30 : Int32) → Q x5 μ)
def cn_readTest (μ : sl_M) (Q : Int32 → sl_M → Prop) : Prop := tp_readOneOf 0 μ (fun r7 m6 => cn_readSign m6 (fun r9 m8 => tp_readSigned (3 : Int32) m8 (fun r11 m10 => ∃ n12, cn_readTest_L25 Q n12 r7 r9 r11 (0 : Int32) (0 : Int32) m10)))
def cn_readTest_pt : sl_PT := fun As μ Q => match As with
  | [.inr (.inr (some (c0, a0))), .inr (.inr (some (c1, a1)))] => if c0 = 10 then (if c1 = 5 then (if a0 = 43 then (if a1 = 1 then (cn_readTest μ (fun r μ' => Q (some (.inl r)) μ')) else False) else False) else False) else False
  | _ => False
def cn_readTest_cd : List sl_Ent := [(0, .aload_n 0, 1, 0, [0], [], false), (1, .ldc 41, 2, 0, [0], [], false), (3, .invokevirtual 43, 3, 0, [0], [], false), (6, .istore_n 2, 1, 0, [2], [], false), (7, .aload_n 0, 1, 0, [0], [], false), (8, .invokestatic 47, 3, 0, [1], [], false), (11, .istore_n 3, 1, 0, [3], [], false), (12, .aload_n 0, 1, 0, [0], [], false), (13, .iconst 3, 1, 3, [], [], false), (14, .invokevirtual 51, 3, 0, [2], [], false), (17, .istore 4, 2, 0, [4], [], false), (19, .iconst 0, 1, 0, [], [], false), (20, .istore 5, 2, 0, [5], [], false), (22, .iconst 0, 1, 0, [], [], false), (23, .istore 6, 2, 0, [6], [], false), (25, .iload 6, 2, 0, [6], [], true), (27, .bipush 30, 2, 30, [], [], false), (29, .if_icmp .ge 50, 3, 0, [79], [], false), (32, .aload_n 1, 1, 0, [1], [], false), (33, .getfield 55, 3, 0, [5, 0, 2, 22, 1], [], false), (36, .iload 6, 2, 0, [6], [], false), (38, .aaload, 1, 0, [], [], false), (39, .astore 7, 2, 0, [7], [], false), (41, .aload 7, 2, 0, [7], [], false), (43, .getfield 59, 3, 0, [9, 1, 1, 0, 0], [], false), (46, .ifCond .eq 27, 3, 0, [73], [], false), (49, .aload 7, 2, 0, [7], [], false), (51, .iload_n 2, 1, 0, [2], [], false), (52, .invokevirtual 65, 3, 0, [3], [], false), (55, .iload_n 3, 1, 0, [3], [], false), (56, .iload 4, 2, 0, [4], [], false), (58, .invokestatic 68, 3, 0, [4], [], false), (61, .ifCond .eq 12, 3, 0, [73], [], false), (64, .iload 5, 2, 0, [5], [], false), (66, .iconst 1, 1, 1, [], [], false), (67, .iload 6, 2, 0, [6], [], false), (69, .ishl, 1, 0, [], [], false), (70, .ior, 1, 0, [], [], false), (71, .istore 5, 2, 0, [5, 1], [], false), (73, .iinc 6 1, 3, 1, [], [], false), (76, .goto (-51), 3, 0, [25], [], false), (79, .iload 5, 2, 0, [5], [], false), (81, .ireturn, 1, 0, [], [], false)]
def cn_readTest_y : MethodName := ⟨"SpanLayers$Condition", "readTest", "(LSpanLayers$Tape;LSpanLayers$Index;)I"⟩
theorem cn_readTest_tb : sl_tbOK sl_R2 prog_4_method_5_code 8 (some .int) lk_cn [(43, 0), (47, 1), (51, 0), (65, 0), (68, 1)] cn_readTest_cd = true := by decide +kernel
theorem tp_readOneOf_w2 : Cond.instanceMethod tp_readOneOf_y ∈ sl_T0 := sl_in1 762 (by decide +kernel) rfl
theorem tp_readOneOf_w3 : Cond.selects tp_readOneOf_y.cls tp_readOneOf_y tp_readOneOf_y ∈ sl_T0 := sl_in1 763 (by decide +kernel) rfl
theorem tp_readOneOf_w4 : Cond.initialized tp_readOneOf_y.cls ∈ sl_T0 := sl_in1 90 (by decide +kernel) rfl
theorem tp_readOneOf_w5 : Cond.code tp_readOneOf_y prog_12_method_12_code 6 (some .int) ∈ sl_T0 := sl_in1 764 (by decide +kernel) rfl
theorem tp_readOneOf_w6 : tp_readOneOf_y.cls ≠ "java/lang/invoke/MethodHandle" ∧ tp_readOneOf_y.cls ≠ "java/lang/invoke/VarHandle" ∧ (parseMethodDescriptor tp_readOneOf_y.desc).map (fun d => d.parameters.length) = some 1 := by decide +kernel
theorem cs_cn_43 (g : sl_G) {hh : Nat} (h : 9 ≤ hh) : sl_CallS g sl_R2 43 0 10 hh 2 tp_readOneOf_pt := sl_callV (y := tp_readOneOf_y) (T := sl_F10) (N := 4) (tp_readOneOf_snd g) h (by decide) (sl_in1 761 (by decide +kernel) rfl) tp_readOneOf_w2 tp_readOneOf_w3 tp_readOneOf_w4 tp_readOneOf_w5 tp_readOneOf_w6 rfl (by decide)
theorem cn_readSign_w2 : Cond.static cn_readSign_y ∈ sl_T0 := sl_in1 818 (by decide +kernel) rfl
theorem cn_readSign_w4 : Cond.initialized cn_readSign_y.cls ∈ sl_T0 := sl_in1 91 (by decide +kernel) rfl
theorem cn_readSign_w5 : Cond.code cn_readSign_y prog_4_method_6_code 1 (some .int) ∈ sl_T0 := sl_in1 819 (by decide +kernel) rfl
theorem cn_readSign_w6 : cn_readSign_y.cls ≠ "java/lang/invoke/MethodHandle" ∧ cn_readSign_y.cls ≠ "java/lang/invoke/VarHandle" ∧ (parseMethodDescriptor cn_readSign_y.desc).map (fun d => d.parameters.length) = some 1 := by decide +kernel
theorem cs_cn_47 (g : sl_G) {hh : Nat} (h : 3 ≤ hh) : sl_CallS g sl_R2 47 1 0 hh 1 cn_readSign_pt := sl_callS (y := cn_readSign_y) (cn_readSign_snd g) h (by decide) (sl_in1 817 (by decide +kernel) rfl) cn_readSign_w2 cn_readSign_w4 cn_readSign_w5 cn_readSign_w6
theorem cs_cn_51 (g : sl_G) {hh : Nat} (h : 3 ≤ hh) : sl_CallS g sl_R2 51 0 10 hh 2 tp_readSigned_pt := sl_callV (y := tp_readSigned_y) (T := sl_F10) (N := 4) (tp_readSigned_snd g) h (by decide) (sl_in1 821 (by decide +kernel) rfl) tp_readSigned_w2 tp_readSigned_w3 tp_readSigned_w4 tp_readSigned_w5 tp_readSigned_w6 rfl (by decide)
theorem sp_valueOf_w2 : Cond.instanceMethod sp_valueOf_y ∈ sl_T0 := sl_in1 830 (by decide +kernel) rfl
theorem sp_valueOf_w3 : Cond.selects sp_valueOf_y.cls sp_valueOf_y sp_valueOf_y ∈ sl_T0 := sl_in1 831 (by decide +kernel) rfl
theorem sp_valueOf_w4 : Cond.initialized sp_valueOf_y.cls ∈ sl_T0 := sl_in1 87 (by decide +kernel) rfl
theorem sp_valueOf_w5 : Cond.code sp_valueOf_y prog_11_method_12_code 2 (some .int) ∈ sl_T0 := sl_in1 832 (by decide +kernel) rfl
theorem sp_valueOf_w6 : sp_valueOf_y.cls ≠ "java/lang/invoke/MethodHandle" ∧ sp_valueOf_y.cls ≠ "java/lang/invoke/VarHandle" ∧ (parseMethodDescriptor sp_valueOf_y.desc).map (fun d => d.parameters.length) = some 1 := by decide +kernel
theorem cs_cn_65 (g : sl_G) {hh : Nat} (h : 2 ≤ hh) : sl_CallS g sl_R2 65 0 9 hh 2 sp_valueOf_pt := sl_callV (y := sp_valueOf_y) (T := sl_F9) (N := 6) (sp_valueOf_snd g) h (by decide) (sl_in1 829 (by decide +kernel) rfl) sp_valueOf_w2 sp_valueOf_w3 sp_valueOf_w4 sp_valueOf_w5 sp_valueOf_w6 rfl (by decide)
theorem cn_isSo_w2 : Cond.static cn_isSo_y ∈ sl_T0 := sl_in1 834 (by decide +kernel) rfl
theorem cn_isSo_w4 : Cond.initialized cn_isSo_y.cls ∈ sl_T0 := sl_in1 91 (by decide +kernel) rfl
theorem cn_isSo_w5 : Cond.code cn_isSo_y prog_4_method_7_code 3 (some .boolean) ∈ sl_T0 := sl_in1 835 (by decide +kernel) rfl
theorem cn_isSo_w6 : cn_isSo_y.cls ≠ "java/lang/invoke/MethodHandle" ∧ cn_isSo_y.cls ≠ "java/lang/invoke/VarHandle" ∧ (parseMethodDescriptor cn_isSo_y.desc).map (fun d => d.parameters.length) = some 3 := by decide +kernel
theorem cs_cn_68 (g : sl_G) {hh : Nat} (h : 1 ≤ hh) : sl_CallS g sl_R2 68 1 0 hh 3 cn_isSo_pt := sl_callS (y := cn_isSo_y) (cn_isSo_snd g) h (by decide) (sl_in1 833 (by decide +kernel) rfl) cn_isSo_w2 cn_isSo_w4 cn_isSo_w5 cn_isSo_w6
def cn_readTest_ct : List sl_Ct := [(2, 0, 10, tp_readOneOf_pt), (1, 1, 0, cn_readSign_pt), (2, 0, 10, tp_readSigned_pt), (2, 0, 9, sp_valueOf_pt), (3, 1, 0, cn_isSo_pt)]
theorem cn_readTest_hc (g : sl_G) : sl_HC g sl_R2 9 cn_readTest_ct [(43, 0), (47, 1), (51, 0), (65, 0), (68, 1)] := sl_HC_cons (cs_cn_43 g (by decide)) (sl_HC_cons (cs_cn_47 g (by decide)) (sl_HC_cons (cs_cn_51 g (by decide)) (sl_HC_cons (cs_cn_65 g (by decide)) (sl_HC_cons (cs_cn_68 g (by decide)) (sl_HC_nil g sl_R2 9)))))
set_option maxRecDepth 20000 in
set_option maxHeartbeats 2000000 in
theorem cn_readTest_snd (g : sl_G) : sl_Snd g cn_readTest_y prog_4_method_5_code 8 (some .int) 9 (cn_readTest_pt) := by
  intro As μ Q hw h
  unfold cn_readTest_pt at h
  split at h
  next c0 a0 c1 a1 =>
    split at h
    next e_ =>
      subst e_
      split at h
      next e_ =>
        subst e_
        split at h
        next e_ =>
          subst e_
          split at h
          next e_ =>
            subst e_
            refine sl_mk2 g [true, true, false, false, false, false, false, false] (cst := [some (.inr (.inr (some (10, 43)))), some (.inr (.inr (some (5, 1))))]) (lv0 := [none, none, none, none, none, none, none, none]) (by decide) rfl hw rfl rfl rfl lk_cn_ok (cn_readTest_hc g) cn_readTest_tb rfl ?_
            intro X M
            have v25 := sl_extL M sl_VV0 25 (fun n lv st μ => match lv, st with | [_, _, some (.inl x2), some (.inl x3), some (.inl x4), some (.inl x5), some (.inl x6), _], [] => cn_readTest_L25 (fun r μ' => Q (some (.inl r)) μ') n x2 x3 x4 x5 x6 μ | _, _ => False) (by
                intro lv st μ h
                split at h
                · exact h
                · exact h) (by
                intro n25 w25
                refine ⟨_, w25, ?_⟩
                intro lv st μ h
                split at h
                · exact h
                · exact h.elim)
            exact ⟨_, v25, h⟩
          next => exact h.elim
        next => exact h.elim
      next => exact h.elim
    next => exact h.elim
  next => exact h.elim
def ch_readStep (a2 : Int32) (μ : sl_M) (Q : sl_M → Prop) : Prop := tp_readOneOf 1 μ (fun r2 m1 => vp_in a2 5 ∧ ∀ m3, m3 = sl_up m1 47 a2.toNatClampNeg r2 → vp_in a2 5 ∧ ((m3 47 a2.toNatClampNeg) = (0 : Int32) → tp_expect (32 : Int32) m3 (fun m4 => tp_readSigned (3 : Int32) m4 (fun r6 m5 => vp_in a2 5 ∧ ∀ m7, m7 = sl_up m5 48 a2.toNatClampNeg r6 → Q m7))) ∧ (¬ (m3 47 a2.toNatClampNeg) = (0 : Int32) → ((m3 47 a2.toNatClampNeg) = (1 : Int32) → tp_expect (32 : Int32) m3 (fun m8 => tp_readNumber (3 : Int32) m8 (fun r10 m9 => vp_in a2 5 ∧ ∀ m11, m11 = sl_up m9 48 a2.toNatClampNeg r10 → Q m11))) ∧ (¬ (m3 47 a2.toNatClampNeg) = (1 : Int32) → ((m3 47 a2.toNatClampNeg) = (2 : Int32) → tp_expect (32 : Int32) m3 (fun m12 => tp_readNumber (3 : Int32) m12 (fun r14 m13 => vp_in a2 5 ∧ ∀ m15, m15 = sl_up m13 48 a2.toNatClampNeg r14 → tp_expect (45 : Int32) m15 (fun m16 => vp_in a2 5 ∧ tp_readNotLess (m16 48 a2.toNatClampNeg) m16 (fun r18 m17 => vp_in a2 5 ∧ ∀ m19, m19 = sl_up m17 49 a2.toNatClampNeg r18 → Q m19))))) ∧ (¬ (m3 47 a2.toNatClampNeg) = (2 : Int32) → ((m3 47 a2.toNatClampNeg) = (3 : Int32) → Q m3) ∧ (¬ (m3 47 a2.toNatClampNeg) = (3 : Int32) → ((m3 47 a2.toNatClampNeg) = (4 : Int32) → tp_expect (32 : Int32) m3 (fun m20 => tp_readNumber (3 : Int32) m20 (fun r22 m21 => vp_in a2 5 ∧ ∀ m23, m23 = sl_up m21 48 a2.toNatClampNeg r22 → Q m23))) ∧ (¬ (m3 47 a2.toNatClampNeg) = (4 : Int32) → Q m3))))))
def ch_readStep_pt : sl_PT := fun As μ Q => match As with
  | [.inr (.inr (some (c0, a0))), .inr (.inr (some (c1, a1))), .inl a2] => if c0 = 0 then (if c1 = 10 then (if a0 = 46 then (if a1 = 43 then (ch_readStep a2 μ (fun μ' => Q none μ')) else False) else False) else False) else False
  | _ => False
def ch_readStep_cd : List sl_Ent := [(0, .aload_n 0, 1, 0, [0], [], false), (1, .getfield 9, 3, 0, [0, 0, 2, 20, 1], [], false), (4, .iload_n 2, 1, 0, [2], [], false), (5, .aload_n 1, 1, 0, [1], [], false), (6, .ldc 35, 2, 0, [1], [], false), (8, .invokevirtual 37, 3, 0, [0], [], false), (11, .iastore, 1, 0, [], [], false), (12, .aload_n 0, 1, 0, [0], [], false), (13, .getfield 9, 3, 0, [0, 0, 2, 20, 1], [], false), (16, .iload_n 2, 1, 0, [2], [], false), (17, .iaload, 1, 0, [], [], false), (18, .tableswitch 116 0 4 #[34, 54, 74, 116, 54], 34, 0, [134], [(0, 52), (1, 72), (2, 92), (3, 134), (4, 72)], false), (52, .aload_n 1, 1, 0, [1], [], false), (53, .bipush 32, 2, 32, [], [], false), (55, .invokevirtual 41, 3, 0, [1], [], false), (58, .aload_n 0, 1, 0, [0], [], false), (59, .getfield 15, 3, 0, [0, 1, 2, 20, 2], [], false), (62, .iload_n 2, 1, 0, [2], [], false), (63, .aload_n 1, 1, 0, [1], [], false), (64, .iconst 3, 1, 3, [], [], false), (65, .invokevirtual 45, 3, 0, [2], [], false), (68, .iastore, 1, 0, [], [], false), (69, .goto 65, 3, 0, [134], [], false), (72, .aload_n 1, 1, 0, [1], [], false), (73, .bipush 32, 2, 32, [], [], false), (75, .invokevirtual 41, 3, 0, [1], [], false), (78, .aload_n 0, 1, 0, [0], [], false), (79, .getfield 15, 3, 0, [0, 1, 2, 20, 2], [], false), (82, .iload_n 2, 1, 0, [2], [], false), (83, .aload_n 1, 1, 0, [1], [], false), (84, .iconst 3, 1, 3, [], [], false), (85, .invokevirtual 49, 3, 0, [3], [], false), (88, .iastore, 1, 0, [], [], false), (89, .goto 45, 3, 0, [134], [], false), (92, .aload_n 1, 1, 0, [1], [], false), (93, .bipush 32, 2, 32, [], [], false), (95, .invokevirtual 41, 3, 0, [1], [], false), (98, .aload_n 0, 1, 0, [0], [], false), (99, .getfield 15, 3, 0, [0, 1, 2, 20, 2], [], false), (102, .iload_n 2, 1, 0, [2], [], false), (103, .aload_n 1, 1, 0, [1], [], false), (104, .iconst 3, 1, 3, [], [], false), (105, .invokevirtual 49, 3, 0, [3], [], false), (108, .iastore, 1, 0, [], [], false), (109, .aload_n 1, 1, 0, [1], [], false), (110, .bipush 45, 2, 45, [], [], false), (112, .invokevirtual 41, 3, 0, [1], [], false), (115, .aload_n 0, 1, 0, [0], [], false), (116, .getfield 18, 3, 0, [0, 2, 2, 20, 3], [], false), (119, .iload_n 2, 1, 0, [2], [], false), (120, .aload_n 1, 1, 0, [1], [], false), (121, .aload_n 0, 1, 0, [0], [], false), (122, .getfield 15, 3, 0, [0, 1, 2, 20, 2], [], false), (125, .iload_n 2, 1, 0, [2], [], false), (126, .iaload, 1, 0, [], [], false), (127, .invokevirtual 52, 3, 0, [4], [], false), (130, .iastore, 1, 0, [], [], false), (131, .goto 3, 3, 0, [134], [], false), (134, .return_, 1, 0, [], [], false)]
def ch_readStep_y : MethodName := ⟨"SpanLayers$Change", "readStep", "(LSpanLayers$Tape;I)V"⟩
theorem ch_readStep_tb : sl_tbOK sl_R0 prog_2_method_3_code 3 none lk_ch [(37, 0), (41, 0), (45, 0), (49, 0), (52, 0)] ch_readStep_cd = true := by decide +kernel
theorem cs_ch_37 (g : sl_G) {hh : Nat} (h : 9 ≤ hh) : sl_CallS g sl_R0 37 0 10 hh 2 tp_readOneOf_pt := sl_callV (y := tp_readOneOf_y) (T := sl_F10) (N := 4) (tp_readOneOf_snd g) h (by decide) (sl_in1 868 (by decide +kernel) rfl) tp_readOneOf_w2 tp_readOneOf_w3 tp_readOneOf_w4 tp_readOneOf_w5 tp_readOneOf_w6 rfl (by decide)
theorem cs_ch_41 (g : sl_G) {hh : Nat} (h : 3 ≤ hh) : sl_CallS g sl_R0 41 0 10 hh 2 tp_expect_pt := sl_callV (y := tp_expect_y) (T := sl_F10) (N := 4) (tp_expect_snd g) h (by decide) (sl_in1 869 (by decide +kernel) rfl) tp_expect_w2 tp_expect_w3 tp_expect_w4 tp_expect_w5 tp_expect_w6 rfl (by decide)
theorem cs_ch_45 (g : sl_G) {hh : Nat} (h : 3 ≤ hh) : sl_CallS g sl_R0 45 0 10 hh 2 tp_readSigned_pt := sl_callV (y := tp_readSigned_y) (T := sl_F10) (N := 4) (tp_readSigned_snd g) h (by decide) (sl_in1 870 (by decide +kernel) rfl) tp_readSigned_w2 tp_readSigned_w3 tp_readSigned_w4 tp_readSigned_w5 tp_readSigned_w6 rfl (by decide)
theorem cs_ch_49 (g : sl_G) {hh : Nat} (h : 2 ≤ hh) : sl_CallS g sl_R0 49 0 10 hh 2 tp_readNumber_pt := sl_callV (y := tp_readNumber_y) (T := sl_F10) (N := 4) (tp_readNumber_snd g) h (by decide) (sl_in1 871 (by decide +kernel) rfl) tp_readNumber_w2 tp_readNumber_w3 tp_readNumber_w4 tp_readNumber_w5 tp_readNumber_w6 rfl (by decide)
theorem cs_ch_52 (g : sl_G) {hh : Nat} (h : 3 ≤ hh) : sl_CallS g sl_R0 52 0 10 hh 2 tp_readNotLess_pt := sl_callV (y := tp_readNotLess_y) (T := sl_F10) (N := 4) (tp_readNotLess_snd g) h (by decide) (sl_in1 872 (by decide +kernel) rfl) tp_readNotLess_w2 tp_readNotLess_w3 tp_readNotLess_w4 tp_readNotLess_w5 tp_readNotLess_w6 rfl (by decide)
def ch_readStep_ct : List sl_Ct := [(2, 0, 10, tp_readOneOf_pt), (2, 0, 10, tp_expect_pt), (2, 0, 10, tp_readSigned_pt), (2, 0, 10, tp_readNumber_pt), (2, 0, 10, tp_readNotLess_pt)]
theorem ch_readStep_hc (g : sl_G) : sl_HC g sl_R0 9 ch_readStep_ct [(37, 0), (41, 0), (45, 0), (49, 0), (52, 0)] := sl_HC_cons (cs_ch_37 g (by decide)) (sl_HC_cons (cs_ch_41 g (by decide)) (sl_HC_cons (cs_ch_45 g (by decide)) (sl_HC_cons (cs_ch_49 g (by decide)) (sl_HC_cons (cs_ch_52 g (by decide)) (sl_HC_nil g sl_R0 9)))))
set_option maxRecDepth 20000 in
set_option maxHeartbeats 2000000 in
theorem ch_readStep_snd (g : sl_G) : sl_Snd g ch_readStep_y prog_2_method_3_code 3 none 9 (ch_readStep_pt) := by
  intro As μ Q hw h
  unfold ch_readStep_pt at h
  split at h
  next c0 a0 c1 a1 a2 =>
    split at h
    next e_ =>
      subst e_
      split at h
      next e_ =>
        subst e_
        split at h
        next e_ =>
          subst e_
          split at h
          next e_ =>
            subst e_
            refine sl_mk2 g [true, true, true] (cst := [some (.inr (.inr (some (0, 46)))), some (.inr (.inr (some (10, 43)))), some (.inl a2)]) (lv0 := [none, none, none]) (by decide) rfl hw rfl rfl rfl lk_ch_ok (ch_readStep_hc g) ch_readStep_tb rfl ?_
            intro X M
            exact ⟨_, sl_VV0, h⟩
          next => exact h.elim
        next => exact h.elim
      next => exact h.elim
    next => exact h.elim
  next => exact h.elim
def ch_readFrom_L9 (Q : sl_M → Prop) : Nat → Int32 → Int32 → sl_M → Prop
  | 0, _, _, _ => False
  | n + 1, x2, x3, μ => (x3 < (5 : Int32) → (x2 = (0 : Int32) → Q μ) ∧ (¬ x2 = (0 : Int32) → ch_readStep x3 μ (fun m1 => ∀ m2, m2 = sl_up m1 46 3 ((m1 46 3) + (1 : Int32)) → ((m2 46 3) < (5 : Int32) → tp_skip (59 : Int32) m2 (fun r4 m3 => (r4 = (0 : Int32) → (ch_readFrom_L9 Q n) (0 : Int32) (x3 + (1 : Int32)) m3) ∧ (¬ r4 = (0 : Int32) → (ch_readFrom_L9 Q n) (1 : Int32) (x3 + (1 : Int32)) m3))) ∧ (¬ (m2 46 3) < (5 : Int32) → (ch_readFrom_L9 Q n) (0 : Int32) (x3 + (1 : Int32)) m2)))) ∧ (¬ x3 < (5 : Int32) → Q μ)
def ch_readFrom (μ : sl_M) (Q : sl_M → Prop) : Prop := ∀ m5, m5 = sl_up μ 46 3 (0 : Int32) → ∃ n6, ch_readFrom_L9 Q n6 (1 : Int32) (0 : Int32) m5
def ch_readFrom_pt : sl_PT := fun As μ Q => match As with
  | [.inr (.inr (some (c0, a0))), .inr (.inr (some (c1, a1)))] => if c0 = 0 then (if c1 = 10 then (if a0 = 46 then (if a1 = 43 then (ch_readFrom μ (fun μ' => Q none μ')) else False) else False) else False) else False
  | _ => False
def ch_readFrom_cd : List sl_Ent := [(0, .aload_n 0, 1, 0, [0], [], false), (1, .iconst 0, 1, 0, [], [], false), (2, .putfield 21, 3, 0, [0, 3, 0], [], false), (5, .iconst 1, 1, 1, [], [], false), (6, .istore_n 2, 1, 0, [2], [], false), (7, .iconst 0, 1, 0, [], [], false), (8, .istore_n 3, 1, 0, [3], [], false), (9, .iload_n 3, 1, 0, [3], [], true), (10, .iconst 5, 1, 5, [], [], false), (11, .if_icmp .ge 52, 3, 0, [63], [], false), (14, .iload_n 2, 1, 0, [2], [], false), (15, .ifCond .eq 48, 3, 0, [63], [], false), (18, .aload_n 0, 1, 0, [0], [], false), (19, .aload_n 1, 1, 0, [1], [], false), (20, .iload_n 3, 1, 0, [3], [], false), (21, .invokevirtual 25, 3, 0, [0], [], false), (24, .aload_n 0, 1, 0, [0], [], false), (25, .dup, 1, 0, [], [], false), (26, .getfield 21, 3, 0, [0, 3, 0, 0, 0], [], false), (29, .iconst 1, 1, 1, [], [], false), (30, .iadd, 1, 0, [], [], false), (31, .putfield 21, 3, 0, [0, 3, 0], [], false), (34, .aload_n 0, 1, 0, [0], [], false), (35, .getfield 21, 3, 0, [0, 3, 0, 0, 0], [], false), (38, .iconst 5, 1, 5, [], [], false), (39, .if_icmp .ge 16, 3, 0, [55], [], false), (42, .aload_n 1, 1, 0, [1], [], false), (43, .bipush 59, 2, 59, [], [], false), (45, .invokevirtual 29, 3, 0, [1], [], false), (48, .ifCond .eq 7, 3, 0, [55], [], false), (51, .iconst 1, 1, 1, [], [], false), (52, .goto 4, 3, 0, [56], [], false), (55, .iconst 0, 1, 0, [], [], false), (56, .istore_n 2, 1, 0, [2], [], false), (57, .iinc 3 1, 3, 1, [], [], false), (60, .goto (-51), 3, 0, [9], [], false), (63, .return_, 1, 0, [], [], false)]
def ch_readFrom_y : MethodName := ⟨"SpanLayers$Change", "readFrom", "(LSpanLayers$Tape;)V"⟩
theorem ch_readFrom_tb : sl_tbOK sl_R0 prog_2_method_2_code 4 none lk_ch [(25, 0), (29, 0)] ch_readFrom_cd = true := by decide +kernel
theorem ch_readStep_w2 : Cond.instanceMethod ch_readStep_y ∈ sl_T0 := sl_in1 865 (by decide +kernel) rfl
theorem ch_readStep_w3 : Cond.selects ch_readStep_y.cls ch_readStep_y ch_readStep_y ∈ sl_T0 := sl_in1 15 (by decide +kernel) rfl
theorem ch_readStep_w4 : Cond.initialized ch_readStep_y.cls ∈ sl_T0 := sl_in1 92 (by decide +kernel) rfl
theorem ch_readStep_w5 : Cond.code ch_readStep_y prog_2_method_3_code 3 none ∈ sl_T0 := sl_in1 866 (by decide +kernel) rfl
theorem ch_readStep_w6 : ch_readStep_y.cls ≠ "java/lang/invoke/MethodHandle" ∧ ch_readStep_y.cls ≠ "java/lang/invoke/VarHandle" ∧ (parseMethodDescriptor ch_readStep_y.desc).map (fun d => d.parameters.length) = some 2 := by decide +kernel
theorem cs_ch_25 (g : sl_G) {hh : Nat} (h : 10 ≤ hh) : sl_CallS g sl_R0 25 0 0 hh 3 ch_readStep_pt := sl_callV (y := ch_readStep_y) (T := sl_F0) (N := 4) (ch_readStep_snd g) h (by decide) (sl_in1 863 (by decide +kernel) rfl) ch_readStep_w2 ch_readStep_w3 ch_readStep_w4 ch_readStep_w5 ch_readStep_w6 rfl (by decide)
theorem cs_ch_29 (g : sl_G) {hh : Nat} (h : 2 ≤ hh) : sl_CallS g sl_R0 29 0 10 hh 2 tp_skip_pt := sl_callV (y := tp_skip_y) (T := sl_F10) (N := 4) (tp_skip_snd g) h (by decide) (sl_in1 876 (by decide +kernel) rfl) tp_skip_w2 tp_skip_w3 tp_skip_w4 tp_skip_w5 tp_skip_w6 rfl (by decide)
def ch_readFrom_ct : List sl_Ct := [(3, 0, 0, ch_readStep_pt), (2, 0, 10, tp_skip_pt)]
theorem ch_readFrom_hc (g : sl_G) : sl_HC g sl_R0 10 ch_readFrom_ct [(25, 0), (29, 0)] := sl_HC_cons (cs_ch_25 g (by decide)) (sl_HC_cons (cs_ch_29 g (by decide)) (sl_HC_nil g sl_R0 10))
set_option maxRecDepth 20000 in
set_option maxHeartbeats 2000000 in
theorem ch_readFrom_snd (g : sl_G) : sl_Snd g ch_readFrom_y prog_2_method_2_code 4 none 10 (ch_readFrom_pt) := by
  intro As μ Q hw h
  unfold ch_readFrom_pt at h
  split at h
  next c0 a0 c1 a1 =>
    split at h
    next e_ =>
      subst e_
      split at h
      next e_ =>
        subst e_
        split at h
        next e_ =>
          subst e_
          split at h
          next e_ =>
            subst e_
            refine sl_mk2 g [true, true, false, false] (cst := [some (.inr (.inr (some (0, 46)))), some (.inr (.inr (some (10, 43))))]) (lv0 := [none, none, none, none]) (by decide) rfl hw rfl rfl rfl lk_ch_ok (ch_readFrom_hc g) ch_readFrom_tb rfl ?_
            intro X M
            have v9 := sl_extL M sl_VV0 9 (fun n lv st μ => match lv, st with | [_, _, some (.inl x2), some (.inl x3)], [] => ch_readFrom_L9 (fun μ' => Q none μ') n x2 x3 μ | _, _ => False) (by
                intro lv st μ h
                split at h
                · exact h
                · exact h) (by
                intro n9 w9
                refine ⟨_, w9, ?_⟩
                intro lv st μ h
                split at h
                · exact h
                · exact h.elim)
            exact ⟨_, v9, h⟩
          next => exact h.elim
        next => exact h.elim
      next => exact h.elim
    next => exact h.elim
  next => exact h.elim
