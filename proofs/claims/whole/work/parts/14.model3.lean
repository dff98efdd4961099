def mo_readStep_B102 (Q : sl_M → Prop) : Int32 → sl_M → Prop
  | x1, μ => (x1 = (2 : Int32) → mo_wants (45 : Int32) μ (fun m12 => ((sl_bz (m12 104 22)) = (0 : Int32) → vp_in (m12 104 32) 5 ∧ mo_readNotLess (m12 129 (m12 104 32).toNatClampNeg) m12 (fun r14 m13 => vp_in (m12 104 32) 5 ∧ ∀ m15, m15 = sl_up m13 130 (m12 104 32).toNatClampNeg r14 → ∀ m16, m16 = sl_up m15 104 32 ((m15 104 32) + (1 : Int32)) → Q m16)) ∧ (¬ (sl_bz (m12 104 22)) = (0 : Int32) → vp_in (m12 104 32) 5 ∧ ∀ m17, m17 = sl_up m12 130 (m12 104 32).toNatClampNeg (0 : Int32) → ∀ m18, m18 = sl_up m17 104 32 ((m17 104 32) + (1 : Int32)) → Q m18))) ∧ (¬ x1 = (2 : Int32) → ∀ m19, m19 = sl_up μ 104 32 ((μ 104 32) + (1 : Int32)) → Q m19)
def mo_readStep_B18 (Q : sl_M → Prop) : Int32 → sl_M → Prop
  | x1, μ => ((sl_bz (μ 104 22)) = (0 : Int32) → mo_passWord μ (fun m1 => vp_in (m1 104 32) 5 ∧ ∀ m2, m2 = sl_up m1 128 (m1 104 32).toNatClampNeg x1 → vp_in (m2 104 32) 5 ∧ ∀ m3, m3 = sl_up m2 129 (m2 104 32).toNatClampNeg (0 : Int32) → vp_in (m3 104 32) 5 ∧ ∀ m4, m4 = sl_up m3 130 (m3 104 32).toNatClampNeg (0 : Int32) → (x1 = (3 : Int32) → mo_readStep_B102 Q x1 m4) ∧ (¬ x1 = (3 : Int32) → (x1 = (5 : Int32) → mo_readStep_B102 Q x1 m4) ∧ (¬ x1 = (5 : Int32) → mo_wants (32 : Int32) m4 (fun m5 => (x1 = (0 : Int32) → mo_readSigned (3 : Int32) m5 (fun r7 m6 => vp_in (m5 104 32) 5 ∧ ∀ m8, m8 = sl_up m6 129 (m5 104 32).toNatClampNeg r7 → mo_readStep_B102 Q x1 m8)) ∧ (¬ x1 = (0 : Int32) → mo_readFigures (3 : Int32) m5 (fun r10 m9 => vp_in (m5 104 32) 5 ∧ ∀ m11, m11 = sl_up m9 129 (m5 104 32).toNatClampNeg r10 → mo_readStep_B102 Q x1 m11))))))) ∧ (¬ (sl_bz (μ 104 22)) = (0 : Int32) → Q μ)
def mo_readStep (μ : sl_M) (Q : sl_M → Prop) : Prop := mo_stepWordHere μ (fun r21 m20 => (r21 < (0 : Int32) → sl_bz (1 : Int32) = (1 : Int32) ∧ ∀ m22, m22 = sl_up m20 104 22 (1 : Int32) → mo_readStep_B18 Q r21 m22) ∧ (¬ r21 < (0 : Int32) → sl_bz (0 : Int32) = (0 : Int32) ∧ ∀ m23, m23 = sl_up m20 104 22 (0 : Int32) → mo_readStep_B18 Q r21 m23))
def mo_readStep_pt : sl_PT := fun As μ Q => match As with
  | [.inr (.inr (some (c0, a0)))] => if c0 = 12 then (if a0 = 104 then (mo_readStep μ (fun μ' => Q none μ')) else False) else False
  | _ => False
def mo_readStep_cd : List sl_Ent := [(0, .aload_n 0, 1, 0, [0], [], false), (1, .invokevirtual 367, 3, 0, [0], [], false), (4, .istore_n 1, 1, 0, [1], [], false), (5, .aload_n 0, 1, 0, [0], [], false), (6, .iload_n 1, 1, 0, [1], [], false), (7, .ifCond .ge 7, 3, 0, [14], [], false), (10, .iconst 1, 1, 1, [], [], false), (11, .goto 4, 3, 0, [15], [], false), (14, .iconst 0, 1, 0, [], [], false), (15, .putfield 282, 3, 0, [12, 22, 1], [], false), (18, .aload_n 0, 1, 0, [0], [], true), (19, .getfield 282, 3, 0, [12, 22, 1, 0, 0], [], false), (22, .ifCond .eq 4, 3, 0, [26], [], false), (25, .return_, 1, 0, [], [], false), (26, .aload_n 0, 1, 0, [0], [], false), (27, .invokevirtual 320, 3, 0, [1], [], false), (30, .aload_n 0, 1, 0, [0], [], false), (31, .getfield 80, 3, 0, [12, 33, 2, 20, 24], [], false), (34, .aload_n 0, 1, 0, [0], [], false), (35, .getfield 370, 3, 0, [12, 32, 0, 0, 0], [], false), (38, .iload_n 1, 1, 0, [1], [], false), (39, .iastore, 1, 0, [], [], false), (40, .aload_n 0, 1, 0, [0], [], false), (41, .getfield 83, 3, 0, [12, 34, 2, 20, 25], [], false), (44, .aload_n 0, 1, 0, [0], [], false), (45, .getfield 370, 3, 0, [12, 32, 0, 0, 0], [], false), (48, .iconst 0, 1, 0, [], [], false), (49, .iastore, 1, 0, [], [], false), (50, .aload_n 0, 1, 0, [0], [], false), (51, .getfield 86, 3, 0, [12, 35, 2, 20, 26], [], false), (54, .aload_n 0, 1, 0, [0], [], false), (55, .getfield 370, 3, 0, [12, 32, 0, 0, 0], [], false), (58, .iconst 0, 1, 0, [], [], false), (59, .iastore, 1, 0, [], [], false), (60, .iload_n 1, 1, 0, [1], [], false), (61, .iconst 3, 1, 3, [], [], false), (62, .if_icmp .eq 40, 3, 0, [102], [], false), (65, .iload_n 1, 1, 0, [1], [], false), (66, .iconst 5, 1, 5, [], [], false), (67, .if_icmp .eq 35, 3, 0, [102], [], false), (70, .aload_n 0, 1, 0, [0], [], false), (71, .bipush 32, 2, 32, [], [], false), (73, .invokevirtual 373, 3, 0, [2], [], false), (76, .aload_n 0, 1, 0, [0], [], false), (77, .getfield 83, 3, 0, [12, 34, 2, 20, 25], [], false), (80, .aload_n 0, 1, 0, [0], [], false), (81, .getfield 370, 3, 0, [12, 32, 0, 0, 0], [], false), (84, .iload_n 1, 1, 0, [1], [], false), (85, .ifCond .ne 11, 3, 0, [96], [], false), (88, .aload_n 0, 1, 0, [0], [], false), (89, .iconst 3, 1, 3, [], [], false), (90, .invokevirtual 323, 3, 0, [3], [], false), (93, .goto 8, 3, 0, [101], [], false), (96, .aload_n 0, 1, 0, [0], [], false), (97, .iconst 3, 1, 3, [], [], false), (98, .invokevirtual 295, 3, 0, [4], [], false), (101, .iastore, 1, 0, [], [], false), (102, .iload_n 1, 1, 0, [1], [], true), (103, .iconst 2, 1, 2, [], [], false), (104, .if_icmp .ne 42, 3, 0, [146], [], false), (107, .aload_n 0, 1, 0, [0], [], false), (108, .bipush 45, 2, 45, [], [], false), (110, .invokevirtual 373, 3, 0, [2], [], false), (113, .aload_n 0, 1, 0, [0], [], false), (114, .getfield 86, 3, 0, [12, 35, 2, 20, 26], [], false), (117, .aload_n 0, 1, 0, [0], [], false), (118, .getfield 370, 3, 0, [12, 32, 0, 0, 0], [], false), (121, .aload_n 0, 1, 0, [0], [], false), (122, .getfield 282, 3, 0, [12, 22, 1, 0, 0], [], false), (125, .ifCond .eq 7, 3, 0, [132], [], false), (128, .iconst 0, 1, 0, [], [], false), (129, .goto 16, 3, 0, [145], [], false), (132, .aload_n 0, 1, 0, [0], [], false), (133, .aload_n 0, 1, 0, [0], [], false), (134, .getfield 83, 3, 0, [12, 34, 2, 20, 25], [], false), (137, .aload_n 0, 1, 0, [0], [], false), (138, .getfield 370, 3, 0, [12, 32, 0, 0, 0], [], false), (141, .iaload, 1, 0, [], [], false), (142, .invokevirtual 376, 3, 0, [5], [], false), (145, .iastore, 1, 0, [], [], false), (146, .aload_n 0, 1, 0, [0], [], false), (147, .dup, 1, 0, [], [], false), (148, .getfield 370, 3, 0, [12, 32, 0, 0, 0], [], false), (151, .iconst 1, 1, 1, [], [], false), (152, .iadd, 1, 0, [], [], false), (153, .putfield 370, 3, 0, [12, 32, 0], [], false), (156, .return_, 1, 0, [], [], false)]
def mo_readStep_y : MethodName := ⟨"SpanLayersModel", "readStep", "()V"⟩
theorem mo_readStep_tb : sl_tbOK sl_R12 prog_14_method_95_code 2 none lk_mo [(367, 0), (320, 0), (373, 0), (323, 0), (295, 0), (376, 0)] mo_readStep_cd = true := by decide +kernel
theorem mo_stepWordHere_w2 : Cond.instanceMethod mo_stepWordHere_y ∈ sl_T0 := sl_in1 1548 (by decide +kernel) rfl
theorem mo_stepWordHere_w3 : Cond.selects mo_stepWordHere_y.cls mo_stepWordHere_y mo_stepWordHere_y ∈ sl_T0 := sl_in1 74 (by decide +kernel) rfl
theorem mo_stepWordHere_w4 : Cond.initialized mo_stepWordHere_y.cls ∈ sl_T0 := sl_in1 97 (by decide +kernel) rfl
theorem mo_stepWordHere_w5 : Cond.code mo_stepWordHere_y prog_14_method_94_code 3 (some .int) ∈ sl_T0 := sl_in1 1549 (by decide +kernel) rfl
theorem mo_stepWordHere_w6 : mo_stepWordHere_y.cls ≠ "java/lang/invoke/MethodHandle" ∧ mo_stepWordHere_y.cls ≠ "java/lang/invoke/VarHandle" ∧ (parseMethodDescriptor mo_stepWordHere_y.desc).map (fun d => d.parameters.length) = some 0 := by decide +kernel
theorem cs_mo_367 (g : sl_G) {hh : Nat} (h : 3 ≤ hh) : sl_CallS g sl_R12 367 0 12 hh 1 mo_stepWordHere_pt := sl_callV (y := mo_stepWordHere_y) (T := sl_F12) (N := 50) (mo_stepWordHere_snd g) h (by decide) (sl_in1 1546 (by decide +kernel) rfl) mo_stepWordHere_w2 mo_stepWordHere_w3 mo_stepWordHere_w4 mo_stepWordHere_w5 mo_stepWordHere_w6 rfl (by decide)
theorem mo_wants_w2 : Cond.instanceMethod mo_wants_y ∈ sl_T0 := sl_in1 1552 (by decide +kernel) rfl
theorem mo_wants_w3 : Cond.selects mo_wants_y.cls mo_wants_y mo_wants_y ∈ sl_T0 := sl_in1 75 (by decide +kernel) rfl
theorem mo_wants_w4 : Cond.initialized mo_wants_y.cls ∈ sl_T0 := sl_in1 97 (by decide +kernel) rfl
theorem mo_wants_w5 : Cond.code mo_wants_y prog_14_method_72_code 2 none ∈ sl_T0 := sl_in1 1553 (by decide +kernel) rfl
theorem mo_wants_w6 : mo_wants_y.cls ≠ "java/lang/invoke/MethodHandle" ∧ mo_wants_y.cls ≠ "java/lang/invoke/VarHandle" ∧ (parseMethodDescriptor mo_wants_y.desc).map (fun d => d.parameters.length) = some 1 := by decide +kernel
theorem cs_mo_373 (g : sl_G) {hh : Nat} (h : 3 ≤ hh) : sl_CallS g sl_R12 373 0 12 hh 2 mo_wants_pt := sl_callV (y := mo_wants_y) (T := sl_F12) (N := 50) (mo_wants_snd g) h (by decide) (sl_in1 1550 (by decide +kernel) rfl) mo_wants_w2 mo_wants_w3 mo_wants_w4 mo_wants_w5 mo_wants_w6 rfl (by decide)
theorem mo_readNotLess_w2 : Cond.instanceMethod mo_readNotLess_y ∈ sl_T0 := sl_in1 1556 (by decide +kernel) rfl
theorem mo_readNotLess_w3 : Cond.selects mo_readNotLess_y.cls mo_readNotLess_y mo_readNotLess_y ∈ sl_T0 := sl_in1 76 (by decide +kernel) rfl
theorem mo_readNotLess_w4 : Cond.initialized mo_readNotLess_y.cls ∈ sl_T0 := sl_in1 97 (by decide +kernel) rfl
theorem mo_readNotLess_w5 : Cond.code mo_readNotLess_y prog_14_method_75_code 4 (some .int) ∈ sl_T0 := sl_in1 1557 (by decide +kernel) rfl
theorem mo_readNotLess_w6 : mo_readNotLess_y.cls ≠ "java/lang/invoke/MethodHandle" ∧ mo_readNotLess_y.cls ≠ "java/lang/invoke/VarHandle" ∧ (parseMethodDescriptor mo_readNotLess_y.desc).map (fun d => d.parameters.length) = some 1 := by decide +kernel
theorem cs_mo_376 (g : sl_G) {hh : Nat} (h : 3 ≤ hh) : sl_CallS g sl_R12 376 0 12 hh 2 mo_readNotLess_pt := sl_callV (y := mo_readNotLess_y) (T := sl_F12) (N := 50) (mo_readNotLess_snd g) h (by decide) (sl_in1 1554 (by decide +kernel) rfl) mo_readNotLess_w2 mo_readNotLess_w3 mo_readNotLess_w4 mo_readNotLess_w5 mo_readNotLess_w6 rfl (by decide)
def mo_readStep_ct : List sl_Ct := [(1, 0, 12, mo_stepWordHere_pt), (1, 0, 12, mo_passWord_pt), (2, 0, 12, mo_wants_pt), (2, 0, 12, mo_readSigned_pt), (2, 0, 12, mo_readFigures_pt), (2, 0, 12, mo_readNotLess_pt)]
theorem mo_readStep_hc (g : sl_G) : sl_HC g sl_R12 3 mo_readStep_ct [(367, 0), (320, 0), (373, 0), (323, 0), (295, 0), (376, 0)] := sl_HC_cons (cs_mo_367 g (by decide)) (sl_HC_cons (cs_mo_320 g (by decide)) (sl_HC_cons (cs_mo_373 g (by decide)) (sl_HC_cons (cs_mo_323 g (by decide)) (sl_HC_cons (cs_mo_295 g (by decide)) (sl_HC_cons (cs_mo_376 g (by decide)) (sl_HC_nil g sl_R12 3))))))
set_option maxRecDepth 20000 in
set_option maxHeartbeats 2000000 in
theorem mo_readStep_snd (g : sl_G) : sl_Snd g mo_readStep_y prog_14_method_95_code 2 none 3 (mo_readStep_pt) := by
  intro As μ Q hw h
  unfold mo_readStep_pt at h
  split at h
  next c0 a0 =>
    split at h
    next e_ =>
      subst e_
      split at h
      next e_ =>
        subst e_
        refine sl_mk2 g [true, false] (cst := [some (.inr (.inr (some (12, 104))))]) (lv0 := [none, none]) (by decide) rfl hw rfl rfl rfl lk_mo_ok (mo_readStep_hc g) mo_readStep_tb rfl ?_
        intro X M
        have v102 := sl_ext M sl_VV0 102 (fun lv st μ => match lv, st with | [_, some (.inl x1)], [] => mo_readStep_B102 (fun μ' => Q none μ') x1 μ | _, _ => False) (by
            intro lv st μ h
            split at h
            · exact h
            · exact h.elim)
        have v18 := sl_ext M v102 18 (fun lv st μ => match lv, st with | [_, some (.inl x1)], [] => mo_readStep_B18 (fun μ' => Q none μ') x1 μ | _, _ => False) (by
            intro lv st μ h
            split at h
            · exact h
            · exact h.elim)
        exact ⟨_, v18, h⟩
      next => exact h.elim
    next => exact h.elim
  next => exact h.elim
def mo_readChange_B50 (Q : Int32 → sl_M → Prop) : sl_M → Prop
  | μ => ((sl_bz (μ 104 22)) = (0 : Int32) → ((μ 104 21) < (μ 104 20) → sl_bz (1 : Int32) = (1 : Int32) ∧ ∀ m4, m4 = sl_up μ 104 22 (1 : Int32) → ∀ m5, m5 = sl_up m4 104 20 (0 : Int32) → ((sl_bz (m5 104 22)) = (0 : Int32) → Q (0 : Int32) m5) ∧ (¬ (sl_bz (m5 104 22)) = (0 : Int32) → Q ((-100 : Int32) - (m5 104 21)) m5)) ∧ (¬ (μ 104 21) < (μ 104 20) → sl_bz (0 : Int32) = (0 : Int32) ∧ ∀ m6, m6 = sl_up μ 104 22 (0 : Int32) → ∀ m7, m7 = sl_up m6 104 20 (0 : Int32) → ((sl_bz (m7 104 22)) = (0 : Int32) → Q (0 : Int32) m7) ∧ (¬ (sl_bz (m7 104 22)) = (0 : Int32) → Q ((-100 : Int32) - (m7 104 21)) m7))) ∧ (¬ (sl_bz (μ 104 22)) = (0 : Int32) → sl_bz (1 : Int32) = (1 : Int32) ∧ ∀ m8, m8 = sl_up μ 104 22 (1 : Int32) → ∀ m9, m9 = sl_up m8 104 20 (0 : Int32) → ((sl_bz (m9 104 22)) = (0 : Int32) → Q (0 : Int32) m9) ∧ (¬ (sl_bz (m9 104 22)) = (0 : Int32) → Q ((-100 : Int32) - (m9 104 21)) m9))
def mo_readChange_L19 (Q : Int32 → sl_M → Prop) : Nat → sl_M → Prop
  | 0, _ => False
  | n + 1, μ => ((sl_bz (μ 104 22)) = (0 : Int32) → ((μ 104 32) < (5 : Int32) → mo_goesOn (59 : Int32) μ (fun r2 m1 => (r2 = (0 : Int32) → mo_readChange_B50 Q m1) ∧ (¬ r2 = (0 : Int32) → mo_readStep m1 (fun m3 => (mo_readChange_L19 Q n) m3)))) ∧ (¬ (μ 104 32) < (5 : Int32) → mo_readChange_B50 Q μ)) ∧ (¬ (sl_bz (μ 104 22)) = (0 : Int32) → mo_readChange_B50 Q μ)
def mo_readChange (μ : sl_M) (Q : Int32 → sl_M → Prop) : Prop := ∀ m10, m10 = sl_up μ 104 21 (0 : Int32) → sl_bz (0 : Int32) = (0 : Int32) ∧ ∀ m11, m11 = sl_up m10 104 22 (0 : Int32) → ∀ m12, m12 = sl_up m11 104 32 (0 : Int32) → mo_readStep m12 (fun m13 => ∃ n14, mo_readChange_L19 Q n14 m13)
def mo_readChange_pt : sl_PT := fun As μ Q => match As with
  | [.inr (.inr (some (c0, a0)))] => if c0 = 12 then (if a0 = 104 then (mo_readChange μ (fun r μ' => Q (some (.inl r)) μ')) else False) else False
  | _ => False
def mo_readChange_cd : List sl_Ent := [(0, .aload_n 0, 1, 0, [0], [], false), (1, .iconst 0, 1, 0, [], [], false), (2, .putfield 279, 3, 0, [12, 21, 0], [], false), (5, .aload_n 0, 1, 0, [0], [], false), (6, .iconst 0, 1, 0, [], [], false), (7, .putfield 282, 3, 0, [12, 22, 1], [], false), (10, .aload_n 0, 1, 0, [0], [], false), (11, .iconst 0, 1, 0, [], [], false), (12, .putfield 370, 3, 0, [12, 32, 0], [], false), (15, .aload_n 0, 1, 0, [0], [], false), (16, .invokevirtual 379, 3, 0, [0], [], false), (19, .aload_n 0, 1, 0, [0], [], true), (20, .getfield 282, 3, 0, [12, 22, 1, 0, 0], [], false), (23, .ifCond .ne 27, 3, 0, [50], [], false), (26, .aload_n 0, 1, 0, [0], [], false), (27, .getfield 370, 3, 0, [12, 32, 0, 0, 0], [], false), (30, .iconst 5, 1, 5, [], [], false), (31, .if_icmp .ge 19, 3, 0, [50], [], false), (34, .aload_n 0, 1, 0, [0], [], false), (35, .bipush 59, 2, 59, [], [], false), (37, .invokevirtual 288, 3, 0, [1], [], false), (40, .ifCond .eq 10, 3, 0, [50], [], false), (43, .aload_n 0, 1, 0, [0], [], false), (44, .invokevirtual 379, 3, 0, [0], [], false), (47, .goto (-28), 3, 0, [19], [], false), (50, .aload_n 0, 1, 0, [0], [], true), (51, .aload_n 0, 1, 0, [0], [], false), (52, .getfield 282, 3, 0, [12, 22, 1, 0, 0], [], false), (55, .ifCond .ne 14, 3, 0, [69], [], false), (58, .aload_n 0, 1, 0, [0], [], false), (59, .getfield 279, 3, 0, [12, 21, 0, 0, 0], [], false), (62, .aload_n 0, 1, 0, [0], [], false), (63, .getfield 276, 3, 0, [12, 20, 0, 0, 0], [], false), (66, .if_icmp .ge 7, 3, 0, [73], [], false), (69, .iconst 1, 1, 1, [], [], false), (70, .goto 4, 3, 0, [74], [], false), (73, .iconst 0, 1, 0, [], [], false), (74, .putfield 282, 3, 0, [12, 22, 1], [], false), (77, .aload_n 0, 1, 0, [0], [], false), (78, .iconst 0, 1, 0, [], [], false), (79, .putfield 276, 3, 0, [12, 20, 0], [], false), (82, .aload_n 0, 1, 0, [0], [], false), (83, .getfield 282, 3, 0, [12, 22, 1, 0, 0], [], false), (86, .ifCond .eq 13, 3, 0, [99], [], false), (89, .bipush (-100), 2, (-100), [], [], false), (91, .aload_n 0, 1, 0, [0], [], false), (92, .getfield 279, 3, 0, [12, 21, 0, 0, 0], [], false), (95, .isub, 1, 0, [], [], false), (96, .goto 4, 3, 0, [100], [], false), (99, .iconst 0, 1, 0, [], [], false), (100, .ireturn, 1, 0, [], [], false)]
def mo_readChange_y : MethodName := ⟨"SpanLayersModel", "readChange", "()I"⟩
theorem mo_readChange_tb : sl_tbOK sl_R12 prog_14_method_96_code 1 (some .int) lk_mo [(379, 0), (288, 0)] mo_readChange_cd = true := by decide +kernel
theorem mo_readStep_w2 : Cond.instanceMethod mo_readStep_y ∈ sl_T0 := sl_in1 1544 (by decide +kernel) rfl
theorem mo_readStep_w3 : Cond.selects mo_readStep_y.cls mo_readStep_y mo_readStep_y ∈ sl_T0 := sl_in1 73 (by decide +kernel) rfl
theorem mo_readStep_w4 : Cond.initialized mo_readStep_y.cls ∈ sl_T0 := sl_in1 97 (by decide +kernel) rfl
theorem mo_readStep_w5 : Cond.code mo_readStep_y prog_14_method_95_code 2 none ∈ sl_T0 := sl_in1 1545 (by decide +kernel) rfl
theorem mo_readStep_w6 : mo_readStep_y.cls ≠ "java/lang/invoke/MethodHandle" ∧ mo_readStep_y.cls ≠ "java/lang/invoke/VarHandle" ∧ (parseMethodDescriptor mo_readStep_y.desc).map (fun d => d.parameters.length) = some 0 := by decide +kernel
theorem cs_mo_379 (g : sl_G) {hh : Nat} (h : 4 ≤ hh) : sl_CallS g sl_R12 379 0 12 hh 1 mo_readStep_pt := sl_callV (y := mo_readStep_y) (T := sl_F12) (N := 50) (mo_readStep_snd g) h (by decide) (sl_in1 1542 (by decide +kernel) rfl) mo_readStep_w2 mo_readStep_w3 mo_readStep_w4 mo_readStep_w5 mo_readStep_w6 rfl (by decide)
def mo_readChange_ct : List sl_Ct := [(1, 0, 12, mo_readStep_pt), (2, 0, 12, mo_goesOn_pt)]
theorem mo_readChange_hc (g : sl_G) : sl_HC g sl_R12 4 mo_readChange_ct [(379, 0), (288, 0)] := sl_HC_cons (cs_mo_379 g (by decide)) (sl_HC_cons (cs_mo_288 g (by decide)) (sl_HC_nil g sl_R12 4))
set_option maxRecDepth 20000 in
set_option maxHeartbeats 2000000 in
theorem mo_readChange_snd (g : sl_G) : sl_Snd g mo_readChange_y prog_14_method_96_code 1 (some .int) 4 (mo_readChange_pt) := by
  intro As μ Q hw h
  unfold mo_readChange_pt at h
  split at h
  next c0 a0 =>
    split at h
    next e_ =>
      subst e_
      split at h
      next e_ =>
        subst e_
        refine sl_mk2 g [true] (cst := [some (.inr (.inr (some (12, 104))))]) (lv0 := [none]) (by decide) rfl hw rfl rfl rfl lk_mo_ok (mo_readChange_hc g) mo_readChange_tb rfl ?_
        intro X M
        have v50 := sl_ext M sl_VV0 50 (fun lv st μ => match lv, st with | [_], [] => mo_readChange_B50 (fun r μ' => Q (some (.inl r)) μ') μ | _, _ => False) (by
            intro lv st μ h
            split at h
            · exact h
            · exact h.elim)
        have v19 := sl_extL M v50 19 (fun n lv st μ => match lv, st with | [_], [] => mo_readChange_L19 (fun r μ' => Q (some (.inl r)) μ') n μ | _, _ => False) (by
            intro lv st μ h
            split at h
            · exact h
            · exact h) (by
            intro n19 w19
            refine ⟨_, w19, ?_⟩
            intro lv st μ h
            split at h
            · exact h
            · exact h.elim)
        exact ⟨_, v19, h⟩
      next => exact h.elim
    next => exact h.elim
  next => exact h.elim
def mo_held (a0 : Int32) (a1 : Int32) (a2 : Int32) (μ : sl_M) (Q : Int32 → sl_M → Prop) : Prop := (a0 < a1 → Q a1 μ) ∧ (¬ a0 < a1 → (a0 ≤ a2 → Q a0 μ) ∧ (¬ a0 ≤ a2 → Q a2 μ))
def mo_held_pt : sl_PT := fun As μ Q => match As with
  | [.inl a0, .inl a1, .inl a2] => mo_held a0 a1 a2 μ (fun r μ' => Q (some (.inl r)) μ')
  | _ => False
def mo_held_cd : List sl_Ent := [(0, .iload_n 0, 1, 0, [0], [], false), (1, .iload_n 1, 1, 0, [1], [], false), (2, .if_icmp .ge 7, 3, 0, [9], [], false), (5, .iload_n 1, 1, 0, [1], [], false), (6, .goto 13, 3, 0, [19], [], false), (9, .iload_n 0, 1, 0, [0], [], false), (10, .iload_n 2, 1, 0, [2], [], false), (11, .if_icmp .le 7, 3, 0, [18], [], false), (14, .iload_n 2, 1, 0, [2], [], false), (15, .goto 4, 3, 0, [19], [], false), (18, .iload_n 0, 1, 0, [0], [], false), (19, .ireturn, 1, 0, [], [], false)]
def mo_held_y : MethodName := ⟨"SpanLayersModel", "held", "(III)I"⟩
theorem mo_held_tb : sl_tbOK sl_R12 prog_14_method_97_code 3 (some .int) lk_mo [] mo_held_cd = true := by decide +kernel
def mo_held_ct : List sl_Ct := []
theorem mo_held_hc (g : sl_G) : sl_HC g sl_R12 0 mo_held_ct [] := sl_HC_nil g sl_R12 0
set_option maxRecDepth 20000 in
set_option maxHeartbeats 2000000 in
theorem mo_held_snd (g : sl_G) : sl_Snd g mo_held_y prog_14_method_97_code 3 (some .int) 0 (mo_held_pt) := by
  intro As μ Q hw h
  unfold mo_held_pt at h
  split at h
  next a0 a1 a2 =>
    refine sl_mk2 g [true, true, true] (cst := [some (.inl a0), some (.inl a1), some (.inl a2)]) (lv0 := [none, none, none]) (by decide) rfl hw rfl rfl rfl lk_mo_ok (mo_held_hc g) mo_held_tb rfl ?_
    intro X M
    exact ⟨_, sl_VV0, h⟩
  next => exact h.elim
def mo_doesStep_B118 (a1 : Int32) (Q : sl_M → Prop) : sl_M → Prop
  | μ => vp_in a1 5 ∧ ((μ 104 37) ≤ (μ 130 a1.toNatClampNeg) → ∀ m1, m1 = sl_up μ 104 37 (μ 104 37) → Q m1) ∧ (¬ (μ 104 37) ≤ (μ 130 a1.toNatClampNeg) → vp_in a1 5 ∧ ∀ m2, m2 = sl_up μ 104 37 (μ 130 a1.toNatClampNeg) → Q m2)
def mo_doesStep (a1 : Int32) (μ : sl_M) (Q : sl_M → Prop) : Prop := vp_in a1 5 ∧ ∀ v3, v3 = (μ 129 a1.toNatClampNeg) → ∀ v4, v4 = (μ 104 36) → vp_in a1 5 ∧ ((μ 128 a1.toNatClampNeg) = (0 : Int32) → ∀ m5, m5 = sl_up μ 104 36 ((μ 104 36) + v3) → ∀ m6, m6 = sl_up m5 104 37 ((m5 104 37) + v3) → Q m6) ∧ (¬ (μ 128 a1.toNatClampNeg) = (0 : Int32) → ((μ 128 a1.toNatClampNeg) = (1 : Int32) → ∀ m7, m7 = sl_up μ 104 36 ((μ 104 36) - v3) → ∀ m8, m8 = sl_up m7 104 37 ((m7 104 37) + v3) → Q m8) ∧ (¬ (μ 128 a1.toNatClampNeg) = (1 : Int32) → ((μ 128 a1.toNatClampNeg) = (2 : Int32) → ((μ 104 36) < v3 → ∀ m9, m9 = sl_up μ 104 36 v3 → mo_doesStep_B118 a1 Q m9) ∧ (¬ (μ 104 36) < v3 → ∀ m10, m10 = sl_up μ 104 36 (μ 104 36) → mo_doesStep_B118 a1 Q m10)) ∧ (¬ (μ 128 a1.toNatClampNeg) = (2 : Int32) → ((μ 128 a1.toNatClampNeg) = (3 : Int32) → ∀ m11, m11 = sl_up μ 104 36 ((999 : Int32) - (μ 104 37)) → ∀ m12, m12 = sl_up m11 104 37 ((999 : Int32) - v4) → Q m12) ∧ (¬ (μ 128 a1.toNatClampNeg) = (3 : Int32) → ((μ 128 a1.toNatClampNeg) = (4 : Int32) → mo_held ((μ 104 38) * v3) (-99 : Int32) (99 : Int32) μ (fun r14 m13 => ∀ m15, m15 = sl_up m13 104 38 r14 → Q m15)) ∧ (¬ (μ 128 a1.toNatClampNeg) = (4 : Int32) → ((((μ 104 37) - (μ 104 36)) + (1 : Int32)) ≤ (99 : Int32) → ∀ m16, m16 = sl_up μ 104 38 (((μ 104 37) - (μ 104 36)) + (1 : Int32)) → Q m16) ∧ (¬ (((μ 104 37) - (μ 104 36)) + (1 : Int32)) ≤ (99 : Int32) → ∀ m17, m17 = sl_up μ 104 38 (99 : Int32) → Q m17))))))
def mo_doesStep_pt : sl_PT := fun As μ Q => match As with
  | [.inr (.inr (some (c0, a0))), .inl a1] => if c0 = 12 then (if a0 = 104 then (mo_doesStep a1 μ (fun μ' => Q none μ')) else False) else False
  | _ => False
def mo_doesStep_cd : List sl_Ent := [(0, .aload_n 0, 1, 0, [0], [], false), (1, .getfield 83, 3, 0, [12, 34, 2, 20, 25], [], false), (4, .iload_n 1, 1, 0, [1], [], false), (5, .iaload, 1, 0, [], [], false), (6, .istore_n 2, 1, 0, [2, 1], [], false), (7, .aload_n 0, 1, 0, [0], [], false), (8, .getfield 382, 3, 0, [12, 36, 0, 0, 0], [], false), (11, .istore_n 3, 1, 0, [3, 1], [], false), (12, .aload_n 0, 1, 0, [0], [], false), (13, .getfield 80, 3, 0, [12, 33, 2, 20, 24], [], false), (16, .iload_n 1, 1, 0, [1], [], false), (17, .iaload, 1, 0, [], [], false), (18, .tableswitch 177 0 4 #[34, 57, 80, 133, 157], 34, 0, [195], [(0, 52), (1, 75), (2, 98), (3, 151), (4, 175)], false), (52, .aload_n 0, 1, 0, [0], [], false), (53, .dup, 1, 0, [], [], false), (54, .getfield 382, 3, 0, [12, 36, 0, 0, 0], [], false), (57, .iload_n 2, 1, 0, [2], [], false), (58, .iadd, 1, 0, [], [], false), (59, .putfield 382, 3, 0, [12, 36, 0], [], false), (62, .aload_n 0, 1, 0, [0], [], false), (63, .dup, 1, 0, [], [], false), (64, .getfield 385, 3, 0, [12, 37, 0, 0, 0], [], false), (67, .iload_n 2, 1, 0, [2], [], false), (68, .iadd, 1, 0, [], [], false), (69, .putfield 385, 3, 0, [12, 37, 0], [], false), (72, .goto 159, 3, 0, [231], [], false), (75, .aload_n 0, 1, 0, [0], [], false), (76, .dup, 1, 0, [], [], false), (77, .getfield 382, 3, 0, [12, 36, 0, 0, 0], [], false), (80, .iload_n 2, 1, 0, [2], [], false), (81, .isub, 1, 0, [], [], false), (82, .putfield 382, 3, 0, [12, 36, 0], [], false), (85, .aload_n 0, 1, 0, [0], [], false), (86, .dup, 1, 0, [], [], false), (87, .getfield 385, 3, 0, [12, 37, 0, 0, 0], [], false), (90, .iload_n 2, 1, 0, [2], [], false), (91, .iadd, 1, 0, [], [], false), (92, .putfield 385, 3, 0, [12, 37, 0], [], false), (95, .goto 136, 3, 0, [231], [], false), (98, .aload_n 0, 1, 0, [0], [], false), (99, .aload_n 0, 1, 0, [0], [], false), (100, .getfield 382, 3, 0, [12, 36, 0, 0, 0], [], false), (103, .iload_n 2, 1, 0, [2], [], false), (104, .if_icmp .ge 7, 3, 0, [111], [], false), (107, .iload_n 2, 1, 0, [2], [], false), (108, .goto 7, 3, 0, [115], [], false), (111, .aload_n 0, 1, 0, [0], [], false), (112, .getfield 382, 3, 0, [12, 36, 0, 0, 0], [], false), (115, .putfield 382, 3, 0, [12, 36, 0], [], false), (118, .aload_n 0, 1, 0, [0], [], true), (119, .aload_n 0, 1, 0, [0], [], false), (120, .getfield 385, 3, 0, [12, 37, 0, 0, 0], [], false), (123, .aload_n 0, 1, 0, [0], [], false), (124, .getfield 86, 3, 0, [12, 35, 2, 20, 26], [], false), (127, .iload_n 1, 1, 0, [1], [], false), (128, .iaload, 1, 0, [], [], false), (129, .if_icmp .le 12, 3, 0, [141], [], false), (132, .aload_n 0, 1, 0, [0], [], false), (133, .getfield 86, 3, 0, [12, 35, 2, 20, 26], [], false), (136, .iload_n 1, 1, 0, [1], [], false), (137, .iaload, 1, 0, [], [], false), (138, .goto 7, 3, 0, [145], [], false), (141, .aload_n 0, 1, 0, [0], [], false), (142, .getfield 385, 3, 0, [12, 37, 0, 0, 0], [], false), (145, .putfield 385, 3, 0, [12, 37, 0], [], false), (148, .goto 83, 3, 0, [231], [], false), (151, .aload_n 0, 1, 0, [0], [], false), (152, .sipush 999, 3, 999, [], [], false), (155, .aload_n 0, 1, 0, [0], [], false), (156, .getfield 385, 3, 0, [12, 37, 0, 0, 0], [], false), (159, .isub, 1, 0, [], [], false), (160, .putfield 382, 3, 0, [12, 36, 0], [], false), (163, .aload_n 0, 1, 0, [0], [], false), (164, .sipush 999, 3, 999, [], [], false), (167, .iload_n 3, 1, 0, [3], [], false), (168, .isub, 1, 0, [], [], false), (169, .putfield 385, 3, 0, [12, 37, 0], [], false), (172, .goto 59, 3, 0, [231], [], false), (175, .aload_n 0, 1, 0, [0], [], false), (176, .aload_n 0, 1, 0, [0], [], false), (177, .getfield 388, 3, 0, [12, 38, 0, 0, 0], [], false), (180, .iload_n 2, 1, 0, [2], [], false), (181, .imul, 1, 0, [], [], false), (182, .bipush (-99), 2, (-99), [], [], false), (184, .bipush 99, 2, 99, [], [], false), (186, .invokestatic 391, 3, 0, [0], [], false), (189, .putfield 388, 3, 0, [12, 38, 0], [], false), (192, .goto 39, 3, 0, [231], [], false), (195, .aload_n 0, 1, 0, [0], [], false), (196, .aload_n 0, 1, 0, [0], [], false), (197, .getfield 385, 3, 0, [12, 37, 0, 0, 0], [], false), (200, .aload_n 0, 1, 0, [0], [], false), (201, .getfield 382, 3, 0, [12, 36, 0, 0, 0], [], false), (204, .isub, 1, 0, [], [], false), (205, .iconst 1, 1, 1, [], [], false), (206, .iadd, 1, 0, [], [], false), (207, .bipush 99, 2, 99, [], [], false), (209, .if_icmp .le 8, 3, 0, [217], [], false), (212, .bipush 99, 2, 99, [], [], false), (214, .goto 14, 3, 0, [228], [], false), (217, .aload_n 0, 1, 0, [0], [], false), (218, .getfield 385, 3, 0, [12, 37, 0, 0, 0], [], false), (221, .aload_n 0, 1, 0, [0], [], false), (222, .getfield 382, 3, 0, [12, 36, 0, 0, 0], [], false), (225, .isub, 1, 0, [], [], false), (226, .iconst 1, 1, 1, [], [], false), (227, .iadd, 1, 0, [], [], false), (228, .putfield 388, 3, 0, [12, 38, 0], [], false), (231, .return_, 1, 0, [], [], false)]
def mo_doesStep_y : MethodName := ⟨"SpanLayersModel", "doesStep", "(I)V"⟩
theorem mo_doesStep_tb : sl_tbOK sl_R12 prog_14_method_98_code 4 none lk_mo [(391, 1)] mo_doesStep_cd = true := by decide +kernel
theorem mo_held_w2 : Cond.static mo_held_y ∈ sl_T0 := sl_in1 1567 (by decide +kernel) rfl
theorem mo_held_w4 : Cond.initialized mo_held_y.cls ∈ sl_T0 := sl_in1 97 (by decide +kernel) rfl
theorem mo_held_w5 : Cond.code mo_held_y prog_14_method_97_code 3 (some .int) ∈ sl_T0 := sl_in1 1568 (by decide +kernel) rfl
theorem mo_held_w6 : mo_held_y.cls ≠ "java/lang/invoke/MethodHandle" ∧ mo_held_y.cls ≠ "java/lang/invoke/VarHandle" ∧ (parseMethodDescriptor mo_held_y.desc).map (fun d => d.parameters.length) = some 3 := by decide +kernel
theorem cs_mo_391 (g : sl_G) {hh : Nat} (h : 1 ≤ hh) : sl_CallS g sl_R12 391 1 0 hh 3 mo_held_pt := sl_callS (y := mo_held_y) (mo_held_snd g) h (by decide) (sl_in1 1566 (by decide +kernel) rfl) mo_held_w2 mo_held_w4 mo_held_w5 mo_held_w6
def mo_doesStep_ct : List sl_Ct := [(3, 1, 0, mo_held_pt)]
theorem mo_doesStep_hc (g : sl_G) : sl_HC g sl_R12 1 mo_doesStep_ct [(391, 1)] := sl_HC_cons (cs_mo_391 g (by decide)) (sl_HC_nil g sl_R12 1)
set_option maxRecDepth 20000 in
set_option maxHeartbeats 2000000 in
theorem mo_doesStep_snd (g : sl_G) : sl_Snd g mo_doesStep_y prog_14_method_98_code 4 none 1 (mo_doesStep_pt) := by
  intro As μ Q hw h
  unfold mo_doesStep_pt at h
  split at h
  next c0 a0 a1 =>
    split at h
    next e_ =>
      subst e_
      split at h
      next e_ =>
        subst e_
        refine sl_mk2 g [true, true, false, false] (cst := [some (.inr (.inr (some (12, 104)))), some (.inl a1)]) (lv0 := [none, none, none, none]) (by decide) rfl hw rfl rfl rfl lk_mo_ok (mo_doesStep_hc g) mo_doesStep_tb rfl ?_
        intro X M
        have v118 := sl_ext M sl_VV0 118 (fun lv st μ => match lv, st with | [_, _, _, _], [] => mo_doesStep_B118 a1 (fun μ' => Q none μ') μ | _, _ => False) (by
            intro lv st μ h
            split at h
            · exact h
            · exact h.elim)
        exact ⟨_, v118, h⟩
      next => exact h.elim
    next => exact h.elim
  next => exact h.elim
def mo_changes_B98 (a1 : Int32) (Q : sl_M → Prop) : sl_M → Prop
  | μ => mo_held (μ 104 38) (-99 : Int32) (99 : Int32) μ (fun r7 m6 => vp_in a1 30 ∧ ∀ m8, m8 = sl_up m6 107 a1.toNatClampNeg r7 → vp_in a1 30 ∧ vp_in a1 30 ∧ ((m8 105 a1.toNatClampNeg) ≤ (m8 106 a1.toNatClampNeg) → vp_in a1 30 ∧ ∀ m9, m9 = sl_up m8 108 a1.toNatClampNeg (1 : Int32) → Q m9) ∧ (¬ (m8 105 a1.toNatClampNeg) ≤ (m8 106 a1.toNatClampNeg) → vp_in a1 30 ∧ ∀ m10, m10 = sl_up m8 108 a1.toNatClampNeg (0 : Int32) → Q m10))
def mo_changes_B72 (a1 : Int32) (Q : sl_M → Prop) : sl_M → Prop
  | μ => ((μ 104 37) ≤ (999 : Int32) → vp_in a1 30 ∧ ∀ m4, m4 = sl_up μ 106 a1.toNatClampNeg (μ 104 37) → mo_changes_B98 a1 Q m4) ∧ (¬ (μ 104 37) ≤ (999 : Int32) → vp_in a1 30 ∧ ∀ m5, m5 = sl_up μ 106 a1.toNatClampNeg (999 : Int32) → mo_changes_B98 a1 Q m5)
def mo_changes_L32 (a1 : Int32) (Q : sl_M → Prop) : Nat → Int32 → sl_M → Prop
  | 0, _, _ => False
  | n + 1, x2, μ => (x2 < (μ 104 32) → mo_doesStep x2 μ (fun m1 => (mo_changes_L32 a1 Q n) (x2 + (1 : Int32)) m1)) ∧ (¬ x2 < (μ 104 32) → ((μ 104 36) < (0 : Int32) → vp_in a1 30 ∧ ∀ m2, m2 = sl_up μ 105 a1.toNatClampNeg (0 : Int32) → mo_changes_B72 a1 Q m2) ∧ (¬ (μ 104 36) < (0 : Int32) → vp_in a1 30 ∧ ∀ m3, m3 = sl_up μ 105 a1.toNatClampNeg (μ 104 36) → mo_changes_B72 a1 Q m3))
def mo_changes (a1 : Int32) (μ : sl_M) (Q : sl_M → Prop) : Prop := vp_in a1 30 ∧ ∀ m11, m11 = sl_up μ 104 36 (μ 105 a1.toNatClampNeg) → vp_in a1 30 ∧ ∀ m12, m12 = sl_up m11 104 37 (m11 106 a1.toNatClampNeg) → vp_in a1 30 ∧ ∀ m13, m13 = sl_up m12 104 38 (m12 107 a1.toNatClampNeg) → ∃ n14, mo_changes_L32 a1 Q n14 (0 : Int32) m13
def mo_changes_pt : sl_PT := fun As μ Q => match As with
  | [.inr (.inr (some (c0, a0))), .inl a1] => if c0 = 12 then (if a0 = 104 then (mo_changes a1 μ (fun μ' => Q none μ')) else False) else False
  | _ => False
def mo_changes_cd : List sl_Ent := [(0, .aload_n 0, 1, 0, [0], [], false), (1, .aload_n 0, 1, 0, [0], [], false), (2, .getfield 7, 3, 0, [12, 0, 2, 20, 1], [], false), (5, .iload_n 1, 1, 0, [1], [], false), (6, .iaload, 1, 0, [], [], false), (7, .putfield 382, 3, 0, [12, 36, 0], [], false), (10, .aload_n 0, 1, 0, [0], [], false), (11, .aload_n 0, 1, 0, [0], [], false), (12, .getfield 13, 3, 0, [12, 1, 2, 20, 2], [], false), (15, .iload_n 1, 1, 0, [1], [], false), (16, .iaload, 1, 0, [], [], false), (17, .putfield 385, 3, 0, [12, 37, 0], [], false), (20, .aload_n 0, 1, 0, [0], [], false), (21, .aload_n 0, 1, 0, [0], [], false), (22, .getfield 16, 3, 0, [12, 2, 2, 20, 3], [], false), (25, .iload_n 1, 1, 0, [1], [], false), (26, .iaload, 1, 0, [], [], false), (27, .putfield 388, 3, 0, [12, 38, 0], [], false), (30, .iconst 0, 1, 0, [], [], false), (31, .istore_n 2, 1, 0, [2], [], false), (32, .iload_n 2, 1, 0, [2], [], true), (33, .aload_n 0, 1, 0, [0], [], false), (34, .getfield 370, 3, 0, [12, 32, 0, 0, 0], [], false), (37, .if_icmp .ge 14, 3, 0, [51], [], false), (40, .aload_n 0, 1, 0, [0], [], false), (41, .iload_n 2, 1, 0, [2], [], false), (42, .invokevirtual 394, 3, 0, [0], [], false), (45, .iinc 2 1, 3, 1, [], [], false), (48, .goto (-16), 3, 0, [32], [], false), (51, .aload_n 0, 1, 0, [0], [], false), (52, .getfield 7, 3, 0, [12, 0, 2, 20, 1], [], false), (55, .iload_n 1, 1, 0, [1], [], false), (56, .aload_n 0, 1, 0, [0], [], false), (57, .getfield 382, 3, 0, [12, 36, 0, 0, 0], [], false), (60, .ifCond .ge 7, 3, 0, [67], [], false), (63, .iconst 0, 1, 0, [], [], false), (64, .goto 7, 3, 0, [71], [], false), (67, .aload_n 0, 1, 0, [0], [], false), (68, .getfield 382, 3, 0, [12, 36, 0, 0, 0], [], false), (71, .iastore, 1, 0, [], [], false), (72, .aload_n 0, 1, 0, [0], [], true), (73, .getfield 13, 3, 0, [12, 1, 2, 20, 2], [], false), (76, .iload_n 1, 1, 0, [1], [], false), (77, .aload_n 0, 1, 0, [0], [], false), (78, .getfield 385, 3, 0, [12, 37, 0, 0, 0], [], false), (81, .sipush 999, 3, 999, [], [], false), (84, .if_icmp .le 9, 3, 0, [93], [], false), (87, .sipush 999, 3, 999, [], [], false), (90, .goto 7, 3, 0, [97], [], false), (93, .aload_n 0, 1, 0, [0], [], false), (94, .getfield 385, 3, 0, [12, 37, 0, 0, 0], [], false), (97, .iastore, 1, 0, [], [], false), (98, .aload_n 0, 1, 0, [0], [], true), (99, .getfield 16, 3, 0, [12, 2, 2, 20, 3], [], false), (102, .iload_n 1, 1, 0, [1], [], false), (103, .aload_n 0, 1, 0, [0], [], false), (104, .getfield 388, 3, 0, [12, 38, 0, 0, 0], [], false), (107, .bipush (-99), 2, (-99), [], [], false), (109, .bipush 99, 2, 99, [], [], false), (111, .invokestatic 391, 3, 0, [1], [], false), (114, .iastore, 1, 0, [], [], false), (115, .aload_n 0, 1, 0, [0], [], false), (116, .getfield 19, 3, 0, [12, 3, 2, 20, 4], [], false), (119, .iload_n 1, 1, 0, [1], [], false), (120, .aload_n 0, 1, 0, [0], [], false), (121, .getfield 7, 3, 0, [12, 0, 2, 20, 1], [], false), (124, .iload_n 1, 1, 0, [1], [], false), (125, .iaload, 1, 0, [], [], false), (126, .aload_n 0, 1, 0, [0], [], false), (127, .getfield 13, 3, 0, [12, 1, 2, 20, 2], [], false), (130, .iload_n 1, 1, 0, [1], [], false), (131, .iaload, 1, 0, [], [], false), (132, .if_icmp .le 7, 3, 0, [139], [], false), (135, .iconst 0, 1, 0, [], [], false), (136, .goto 4, 3, 0, [140], [], false), (139, .iconst 1, 1, 1, [], [], false), (140, .iastore, 1, 0, [], [], false), (141, .return_, 1, 0, [], [], false)]
def mo_changes_y : MethodName := ⟨"SpanLayersModel", "changes", "(I)V"⟩
theorem mo_changes_tb : sl_tbOK sl_R12 prog_14_method_99_code 3 none lk_mo [(394, 0), (391, 1)] mo_changes_cd = true := by decide +kernel
theorem mo_doesStep_w2 : Cond.instanceMethod mo_doesStep_y ∈ sl_T0 := sl_in1 1564 (by decide +kernel) rfl
theorem mo_doesStep_w3 : Cond.selects mo_doesStep_y.cls mo_doesStep_y mo_doesStep_y ∈ sl_T0 := sl_in1 78 (by decide +kernel) rfl
theorem mo_doesStep_w4 : Cond.initialized mo_doesStep_y.cls ∈ sl_T0 := sl_in1 97 (by decide +kernel) rfl
theorem mo_doesStep_w5 : Cond.code mo_doesStep_y prog_14_method_98_code 4 none ∈ sl_T0 := sl_in1 1565 (by decide +kernel) rfl
theorem mo_doesStep_w6 : mo_doesStep_y.cls ≠ "java/lang/invoke/MethodHandle" ∧ mo_doesStep_y.cls ≠ "java/lang/invoke/VarHandle" ∧ (parseMethodDescriptor mo_doesStep_y.desc).map (fun d => d.parameters.length) = some 1 := by decide +kernel
theorem cs_mo_394 (g : sl_G) {hh : Nat} (h : 2 ≤ hh) : sl_CallS g sl_R12 394 0 12 hh 2 mo_doesStep_pt := sl_callV (y := mo_doesStep_y) (T := sl_F12) (N := 50) (mo_doesStep_snd g) h (by decide) (sl_in1 1562 (by decide +kernel) rfl) mo_doesStep_w2 mo_doesStep_w3 mo_doesStep_w4 mo_doesStep_w5 mo_doesStep_w6 rfl (by decide)
def mo_changes_ct : List sl_Ct := [(2, 0, 12, mo_doesStep_pt), (3, 1, 0, mo_held_pt)]
theorem mo_changes_hc (g : sl_G) : sl_HC g sl_R12 2 mo_changes_ct [(394, 0), (391, 1)] := sl_HC_cons (cs_mo_394 g (by decide)) (sl_HC_cons (cs_mo_391 g (by decide)) (sl_HC_nil g sl_R12 2))
set_option maxRecDepth 20000 in
set_option maxHeartbeats 2000000 in
theorem mo_changes_snd (g : sl_G) : sl_Snd g mo_changes_y prog_14_method_99_code 3 none 2 (mo_changes_pt) := by
  intro As μ Q hw h
  unfold mo_changes_pt at h
  split at h
  next c0 a0 a1 =>
    split at h
    next e_ =>
      subst e_
      split at h
      next e_ =>
        subst e_
        refine sl_mk2 g [true, true, false] (cst := [some (.inr (.inr (some (12, 104)))), some (.inl a1)]) (lv0 := [none, none, none]) (by decide) rfl hw rfl rfl rfl lk_mo_ok (mo_changes_hc g) mo_changes_tb rfl ?_
        intro X M
        have v98 := sl_ext M sl_VV0 98 (fun lv st μ => match lv, st with | [_, _, _], [] => mo_changes_B98 a1 (fun μ' => Q none μ') μ | _, _ => False) (by
            intro lv st μ h
            split at h
            · exact h
            · exact h.elim)
        have v72 := sl_ext M v98 72 (fun lv st μ => match lv, st with | [_, _, _], [] => mo_changes_B72 a1 (fun μ' => Q none μ') μ | _, _ => False) (by
            intro lv st μ h
            split at h
            · exact h
            · exact h.elim)
        have v32 := sl_extL M v72 32 (fun n lv st μ => match lv, st with | [_, _, some (.inl x2)], [] => mo_changes_L32 a1 (fun μ' => Q none μ') n x2 μ | _, _ => False) (by
            intro lv st μ h
            split at h
            · exact h
            · exact h) (by
            intro n32 w32
            refine ⟨_, w32, ?_⟩
            intro lv st μ h
            split at h
            · exact h
            · exact h.elim)
        exact ⟨_, v32, h⟩
      next => exact h.elim
    next => exact h.elim
  next => exact h.elim
def mo_change_L29 (a1 : Int32) (Q : Int32 → sl_M → Prop) : Nat → Int32 → Int32 → sl_M → Prop
  | 0, _, _, _ => False
  | n + 1, x3, x4, μ => (x4 < (30 : Int32) → vp_in x4 30 ∧ ((μ 108 x4.toNatClampNeg) = (1 : Int32) → (((a1 >>> (x4 &&& 31)) &&& (1 : Int32)) = (1 : Int32) → mo_changes x4 μ (fun m1 => (mo_change_L29 a1 Q n) (x3 + (1 : Int32)) (x4 + (1 : Int32)) m1)) ∧ (¬ ((a1 >>> (x4 &&& 31)) &&& (1 : Int32)) = (1 : Int32) → (mo_change_L29 a1 Q n) x3 (x4 + (1 : Int32)) μ)) ∧ (¬ (μ 108 x4.toNatClampNeg) = (1 : Int32) → (mo_change_L29 a1 Q n) x3 (x4 + (1 : Int32)) μ)) ∧ (¬ x4 < (30 : Int32) → Q x3 μ)
def mo_change (a1 : Int32) (μ : sl_M) (Q : Int32 → sl_M → Prop) : Prop := ∀ m2, m2 = sl_up μ 104 5 (0 : Int32) → (a1 < (-1 : Int32) → Q (-2 : Int32) m2) ∧ (¬ a1 < (-1 : Int32) → mo_readChange m2 (fun r4 m3 => (r4 < (0 : Int32) → Q r4 m3) ∧ (¬ r4 < (0 : Int32) → ∃ n5, mo_change_L29 a1 Q n5 (0 : Int32) (0 : Int32) m3)))
def mo_change_pt : sl_PT := fun As μ Q => match As with
  | [.inr (.inr (some (c0, a0))), .inl a1] => if c0 = 12 then (if a0 = 104 then (mo_change a1 μ (fun r μ' => Q (some (.inl r)) μ')) else False) else False
  | _ => False
def mo_change_cd : List sl_Ent := [(0, .aload_n 0, 1, 0, [0], [], false), (1, .iconst 0, 1, 0, [], [], false), (2, .putfield 113, 3, 0, [12, 5, 0], [], false), (5, .iload_n 1, 1, 0, [1], [], false), (6, .iconst (-1), 1, (-1), [], [], false), (7, .if_icmp .ge 6, 3, 0, [13], [], false), (10, .bipush (-2), 2, (-2), [], [], false), (12, .ireturn, 1, 0, [], [], false), (13, .aload_n 0, 1, 0, [0], [], false), (14, .invokevirtual 397, 3, 0, [0], [], false), (17, .istore_n 2, 1, 0, [2], [], false), (18, .iload_n 2, 1, 0, [2], [], false), (19, .ifCond .ge 5, 3, 0, [24], [], false), (22, .iload_n 2, 1, 0, [2], [], false), (23, .ireturn, 1, 0, [], [], false), (24, .iconst 0, 1, 0, [], [], false), (25, .istore_n 3, 1, 0, [3], [], false), (26, .iconst 0, 1, 0, [], [], false), (27, .istore 4, 2, 0, [4], [], false), (29, .iload 4, 2, 0, [4], [], true), (31, .bipush 30, 2, 30, [], [], false), (33, .if_icmp .ge 39, 3, 0, [72], [], false), (36, .aload_n 0, 1, 0, [0], [], false), (37, .getfield 19, 3, 0, [12, 3, 2, 20, 4], [], false), (40, .iload 4, 2, 0, [4], [], false), (42, .iaload, 1, 0, [], [], false), (43, .iconst 1, 1, 1, [], [], false), (44, .if_icmp .ne 22, 3, 0, [66], [], false), (47, .iload_n 1, 1, 0, [1], [], false), (48, .iload 4, 2, 0, [4], [], false), (50, .ishr, 1, 0, [], [], false), (51, .iconst 1, 1, 1, [], [], false), (52, .iand, 1, 0, [], [], false), (53, .iconst 1, 1, 1, [], [], false), (54, .if_icmp .ne 12, 3, 0, [66], [], false), (57, .aload_n 0, 1, 0, [0], [], false), (58, .iload 4, 2, 0, [4], [], false), (60, .invokevirtual 400, 3, 0, [1], [], false), (63, .iinc 3 1, 3, 1, [], [], false), (66, .iinc 4 1, 3, 1, [], [], false), (69, .goto (-40), 3, 0, [29], [], false), (72, .iload_n 3, 1, 0, [3], [], false), (73, .ireturn, 1, 0, [], [], false)]
def mo_change_y : MethodName := ⟨"SpanLayersModel", "change", "(I)I"⟩
theorem mo_change_tb : sl_tbOK sl_R12 prog_14_method_100_code 5 (some .int) lk_mo [(397, 0), (400, 0)] mo_change_cd = true := by decide +kernel
theorem mo_readChange_w2 : Cond.instanceMethod mo_readChange_y ∈ sl_T0 := sl_in1 1540 (by decide +kernel) rfl
theorem mo_readChange_w3 : Cond.selects mo_readChange_y.cls mo_readChange_y mo_readChange_y ∈ sl_T0 := sl_in1 72 (by decide +kernel) rfl
theorem mo_readChange_w4 : Cond.initialized mo_readChange_y.cls ∈ sl_T0 := sl_in1 97 (by decide +kernel) rfl
theorem mo_readChange_w5 : Cond.code mo_readChange_y prog_14_method_96_code 1 (some .int) ∈ sl_T0 := sl_in1 1541 (by decide +kernel) rfl
theorem mo_readChange_w6 : mo_readChange_y.cls ≠ "java/lang/invoke/MethodHandle" ∧ mo_readChange_y.cls ≠ "java/lang/invoke/VarHandle" ∧ (parseMethodDescriptor mo_readChange_y.desc).map (fun d => d.parameters.length) = some 0 := by decide +kernel
theorem cs_mo_397 (g : sl_G) {hh : Nat} (h : 5 ≤ hh) : sl_CallS g sl_R12 397 0 12 hh 1 mo_readChange_pt := sl_callV (y := mo_readChange_y) (T := sl_F12) (N := 50) (mo_readChange_snd g) h (by decide) (sl_in1 1538 (by decide +kernel) rfl) mo_readChange_w2 mo_readChange_w3 mo_readChange_w4 mo_readChange_w5 mo_readChange_w6 rfl (by decide)
theorem mo_changes_w2 : Cond.instanceMethod mo_changes_y ∈ sl_T0 := sl_in1 1560 (by decide +kernel) rfl
theorem mo_changes_w3 : Cond.selects mo_changes_y.cls mo_changes_y mo_changes_y ∈ sl_T0 := sl_in1 77 (by decide +kernel) rfl
theorem mo_changes_w4 : Cond.initialized mo_changes_y.cls ∈ sl_T0 := sl_in1 97 (by decide +kernel) rfl
theorem mo_changes_w5 : Cond.code mo_changes_y prog_14_method_99_code 3 none ∈ sl_T0 := sl_in1 1561 (by decide +kernel) rfl
theorem mo_changes_w6 : mo_changes_y.cls ≠ "java/lang/invoke/MethodHandle" ∧ mo_changes_y.cls ≠ "java/lang/invoke/VarHandle" ∧ (parseMethodDescriptor mo_changes_y.desc).map (fun d => d.parameters.length) = some 1 := by decide +kernel
theorem cs_mo_400 (g : sl_G) {hh : Nat} (h : 3 ≤ hh) : sl_CallS g sl_R12 400 0 12 hh 2 mo_changes_pt := sl_callV (y := mo_changes_y) (T := sl_F12) (N := 50) (mo_changes_snd g) h (by decide) (sl_in1 1558 (by decide +kernel) rfl) mo_changes_w2 mo_changes_w3 mo_changes_w4 mo_changes_w5 mo_changes_w6 rfl (by decide)
def mo_change_ct : List sl_Ct := [(1, 0, 12, mo_readChange_pt), (2, 0, 12, mo_changes_pt)]
theorem mo_change_hc (g : sl_G) : sl_HC g sl_R12 5 mo_change_ct [(397, 0), (400, 0)] := sl_HC_cons (cs_mo_397 g (by decide)) (sl_HC_cons (cs_mo_400 g (by decide)) (sl_HC_nil g sl_R12 5))
set_option maxRecDepth 20000 in
set_option maxHeartbeats 2000000 in
theorem mo_change_snd (g : sl_G) : sl_Snd g mo_change_y prog_14_method_100_code 5 (some .int) 5 (mo_change_pt) := by
  intro As μ Q hw h
  unfold mo_change_pt at h
  split at h
  next c0 a0 a1 =>
    split at h
    next e_ =>
      subst e_
      split at h
      next e_ =>
        subst e_
        refine sl_mk2 g [true, true, false, false, false] (cst := [some (.inr (.inr (some (12, 104)))), some (.inl a1)]) (lv0 := [none, none, none, none, none]) (by decide) rfl hw rfl rfl rfl lk_mo_ok (mo_change_hc g) mo_change_tb rfl ?_
        intro X M
        have v29 := sl_extL M sl_VV0 29 (fun n lv st μ => match lv, st with | [_, _, _, some (.inl x3), some (.inl x4)], [] => mo_change_L29 a1 (fun r μ' => Q (some (.inl r)) μ') n x3 x4 μ | _, _ => False) (by
            intro lv st μ h
            split at h
            · exact h
            · exact h) (by
            intro n29 w29
            refine ⟨_, w29, ?_⟩
            intro lv st μ h
            split at h
            · exact h
            · exact h.elim)
        exact ⟨_, v29, h⟩
      next => exact h.elim
    next => exact h.elim
  next => exact h.elim
def mo_readPart_B53 (Q : sl_M → Prop) : sl_M → Prop
  | μ => mo_goesOn (58 : Int32) μ (fun r2 m1 => (r2 = (0 : Int32) → vp_in (μ 104 39) 27 ∧ ∀ m3, m3 = sl_up m1 133 (μ 104 39).toNatClampNeg (1 : Int32) → ∀ m4, m4 = sl_up m3 104 39 ((m3 104 39) + (1 : Int32)) → Q m4) ∧ (¬ r2 = (0 : Int32) → mo_readSigned (2 : Int32) m1 (fun r6 m5 => vp_in (μ 104 39) 27 ∧ ∀ m7, m7 = sl_up m5 133 (μ 104 39).toNatClampNeg r6 → ∀ m8, m8 = sl_up m7 104 39 ((m7 104 39) + (1 : Int32)) → Q m8)))
def mo_readPart (μ : sl_M) (Q : sl_M → Prop) : Prop := mo_readFigures (3 : Int32) μ (fun r10 m9 => vp_in (μ 104 39) 27 ∧ ∀ m11, m11 = sl_up m9 131 (μ 104 39).toNatClampNeg r10 → mo_wants (45 : Int32) m11 (fun m12 => ((sl_bz (m12 104 22)) = (0 : Int32) → vp_in (m12 104 39) 27 ∧ mo_readNotLess (m12 131 (m12 104 39).toNatClampNeg) m12 (fun r14 m13 => vp_in (m12 104 39) 27 ∧ ∀ m15, m15 = sl_up m13 132 (m12 104 39).toNatClampNeg r14 → mo_readPart_B53 Q m15)) ∧ (¬ (sl_bz (m12 104 22)) = (0 : Int32) → vp_in (m12 104 39) 27 ∧ ∀ m16, m16 = sl_up m12 132 (m12 104 39).toNatClampNeg (0 : Int32) → mo_readPart_B53 Q m16)))
def mo_readPart_pt : sl_PT := fun As μ Q => match As with
  | [.inr (.inr (some (c0, a0)))] => if c0 = 12 then (if a0 = 104 then (mo_readPart μ (fun μ' => Q none μ')) else False) else False
  | _ => False
def mo_readPart_cd : List sl_Ent := [(0, .aload_n 0, 1, 0, [0], [], false), (1, .getfield 89, 3, 0, [12, 40, 2, 20, 27], [], false), (4, .aload_n 0, 1, 0, [0], [], false), (5, .getfield 403, 3, 0, [12, 39, 0, 0, 0], [], false), (8, .aload_n 0, 1, 0, [0], [], false), (9, .iconst 3, 1, 3, [], [], false), (10, .invokevirtual 295, 3, 0, [0], [], false), (13, .iastore, 1, 0, [], [], false), (14, .aload_n 0, 1, 0, [0], [], false), (15, .bipush 45, 2, 45, [], [], false), (17, .invokevirtual 373, 3, 0, [1], [], false), (20, .aload_n 0, 1, 0, [0], [], false), (21, .getfield 92, 3, 0, [12, 41, 2, 20, 28], [], false), (24, .aload_n 0, 1, 0, [0], [], false), (25, .getfield 403, 3, 0, [12, 39, 0, 0, 0], [], false), (28, .aload_n 0, 1, 0, [0], [], false), (29, .getfield 282, 3, 0, [12, 22, 1, 0, 0], [], false), (32, .ifCond .eq 7, 3, 0, [39], [], false), (35, .iconst 0, 1, 0, [], [], false), (36, .goto 16, 3, 0, [52], [], false), (39, .aload_n 0, 1, 0, [0], [], false), (40, .aload_n 0, 1, 0, [0], [], false), (41, .getfield 89, 3, 0, [12, 40, 2, 20, 27], [], false), (44, .aload_n 0, 1, 0, [0], [], false), (45, .getfield 403, 3, 0, [12, 39, 0, 0, 0], [], false), (48, .iaload, 1, 0, [], [], false), (49, .invokevirtual 376, 3, 0, [2], [], false), (52, .iastore, 1, 0, [], [], false), (53, .aload_n 0, 1, 0, [0], [], true), (54, .getfield 95, 3, 0, [12, 42, 2, 20, 29], [], false), (57, .aload_n 0, 1, 0, [0], [], false), (58, .getfield 403, 3, 0, [12, 39, 0, 0, 0], [], false), (61, .aload_n 0, 1, 0, [0], [], false), (62, .bipush 58, 2, 58, [], [], false), (64, .invokevirtual 288, 3, 0, [3], [], false), (67, .ifCond .eq 11, 3, 0, [78], [], false), (70, .aload_n 0, 1, 0, [0], [], false), (71, .iconst 2, 1, 2, [], [], false), (72, .invokevirtual 323, 3, 0, [4], [], false), (75, .goto 4, 3, 0, [79], [], false), (78, .iconst 1, 1, 1, [], [], false), (79, .iastore, 1, 0, [], [], false), (80, .aload_n 0, 1, 0, [0], [], false), (81, .dup, 1, 0, [], [], false), (82, .getfield 403, 3, 0, [12, 39, 0, 0, 0], [], false), (85, .iconst 1, 1, 1, [], [], false), (86, .iadd, 1, 0, [], [], false), (87, .putfield 403, 3, 0, [12, 39, 0], [], false), (90, .return_, 1, 0, [], [], false)]
def mo_readPart_y : MethodName := ⟨"SpanLayersModel", "readPart", "()V"⟩
theorem mo_readPart_tb : sl_tbOK sl_R12 prog_14_method_101_code 1 none lk_mo [(295, 0), (373, 0), (376, 0), (288, 0), (323, 0)] mo_readPart_cd = true := by decide +kernel
def mo_readPart_ct : List sl_Ct := [(2, 0, 12, mo_readFigures_pt), (2, 0, 12, mo_wants_pt), (2, 0, 12, mo_readNotLess_pt), (2, 0, 12, mo_goesOn_pt), (2, 0, 12, mo_readSigned_pt)]
theorem mo_readPart_hc (g : sl_G) : sl_HC g sl_R12 3 mo_readPart_ct [(295, 0), (373, 0), (376, 0), (288, 0), (323, 0)] := sl_HC_cons (cs_mo_295 g (by decide)) (sl_HC_cons (cs_mo_373 g (by decide)) (sl_HC_cons (cs_mo_376 g (by decide)) (sl_HC_cons (cs_mo_288 g (by decide)) (sl_HC_cons (cs_mo_323 g (by decide)) (sl_HC_nil g sl_R12 3)))))
set_option maxRecDepth 20000 in
set_option maxHeartbeats 2000000 in
theorem mo_readPart_snd (g : sl_G) : sl_Snd g mo_readPart_y prog_14_method_101_code 1 none 3 (mo_readPart_pt) := by
  intro As μ Q hw h
  unfold mo_readPart_pt at h
  split at h
  next c0 a0 =>
    split at h
    next e_ =>
      subst e_
      split at h
      next e_ =>
        subst e_
        refine sl_mk2 g [true] (cst := [some (.inr (.inr (some (12, 104))))]) (lv0 := [none]) (by decide) rfl hw rfl rfl rfl lk_mo_ok (mo_readPart_hc g) mo_readPart_tb rfl ?_
        intro X M
        have v53 := sl_ext M sl_VV0 53 (fun lv st μ => match lv, st with | [_], [] => mo_readPart_B53 (fun μ' => Q none μ') μ | _, _ => False) (by
            intro lv st μ h
            split at h
            · exact h
            · exact h.elim)
        exact ⟨_, v53, h⟩
      next => exact h.elim
    next => exact h.elim
  next => exact h.elim
def mo_load_L98 (Q : Int32 → sl_M → Prop) : Nat → Int32 → Int32 → sl_M → Prop
  | 0, _, _, _ => False
  | n + 1, x1, x2, μ => (x2 < (μ 104 39) → mo_leastOut μ (fun r10 m9 => (r10 < (0 : Int32) → (mo_load_L98 Q n) x1 (x2 + (1 : Int32)) m9) ∧ (¬ r10 < (0 : Int32) → vp_in x2 27 ∧ vp_in x2 27 ∧ vp_in x2 27 ∧ mo_comes r10 (m9 131 x2.toNatClampNeg) (m9 132 x2.toNatClampNeg) (m9 133 x2.toNatClampNeg) m9 (fun m11 => (mo_load_L98 Q n) (x1 + (1 : Int32)) (x2 + (1 : Int32)) m11)))) ∧ (¬ x2 < (μ 104 39) → Q x1 μ)
def mo_load_B74 (Q : Int32 → sl_M → Prop) : sl_M → Prop
  | μ => ∀ m7, m7 = sl_up μ 104 20 (0 : Int32) → ((sl_bz (m7 104 22)) = (0 : Int32) → ∃ n8, mo_load_L98 Q n8 (0 : Int32) (0 : Int32) m7) ∧ (¬ (sl_bz (m7 104 22)) = (0 : Int32) → Q ((-100 : Int32) - (m7 104 21)) m7)
def mo_load_B47 (Q : Int32 → sl_M → Prop) : sl_M → Prop
  | μ => ((sl_bz (μ 104 22)) = (0 : Int32) → ((μ 104 21) < (μ 104 20) → sl_bz (1 : Int32) = (1 : Int32) ∧ ∀ m4, m4 = sl_up μ 104 22 (1 : Int32) → mo_load_B74 Q m4) ∧ (¬ (μ 104 21) < (μ 104 20) → sl_bz (0 : Int32) = (0 : Int32) ∧ ∀ m5, m5 = sl_up μ 104 22 (0 : Int32) → mo_load_B74 Q m5)) ∧ (¬ (sl_bz (μ 104 22)) = (0 : Int32) → sl_bz (1 : Int32) = (1 : Int32) ∧ ∀ m6, m6 = sl_up μ 104 22 (1 : Int32) → mo_load_B74 Q m6)
def mo_load_L24 (Q : Int32 → sl_M → Prop) : Nat → sl_M → Prop
  | 0, _ => False
  | n + 1, μ => ((sl_bz (μ 104 22)) = (0 : Int32) → mo_goesOn (59 : Int32) μ (fun r2 m1 => (r2 = (0 : Int32) → mo_load_B47 Q m1) ∧ (¬ r2 = (0 : Int32) → mo_readPart m1 (fun m3 => (mo_load_L24 Q n) m3)))) ∧ (¬ (sl_bz (μ 104 22)) = (0 : Int32) → mo_load_B47 Q μ)
def mo_load (μ : sl_M) (Q : Int32 → sl_M → Prop) : Prop := ∀ m12, m12 = sl_up μ 104 5 (0 : Int32) → ∀ m13, m13 = sl_up m12 104 21 (0 : Int32) → sl_bz (0 : Int32) = (0 : Int32) ∧ ∀ m14, m14 = sl_up m13 104 22 (0 : Int32) → ∀ m15, m15 = sl_up m14 104 39 (0 : Int32) → mo_readPart m15 (fun m16 => ∃ n17, mo_load_L24 Q n17 m16)
def mo_load_pt : sl_PT := fun As μ Q => match As with
  | [.inr (.inr (some (c0, a0)))] => if c0 = 12 then (if a0 = 104 then (mo_load μ (fun r μ' => Q (some (.inl r)) μ')) else False) else False
  | _ => False
def mo_load_cd : List sl_Ent := [(0, .aload_n 0, 1, 0, [0], [], false), (1, .iconst 0, 1, 0, [], [], false), (2, .putfield 113, 3, 0, [12, 5, 0], [], false), (5, .aload_n 0, 1, 0, [0], [], false), (6, .iconst 0, 1, 0, [], [], false), (7, .putfield 279, 3, 0, [12, 21, 0], [], false), (10, .aload_n 0, 1, 0, [0], [], false), (11, .iconst 0, 1, 0, [], [], false), (12, .putfield 282, 3, 0, [12, 22, 1], [], false), (15, .aload_n 0, 1, 0, [0], [], false), (16, .iconst 0, 1, 0, [], [], false), (17, .putfield 403, 3, 0, [12, 39, 0], [], false), (20, .aload_n 0, 1, 0, [0], [], false), (21, .invokevirtual 406, 3, 0, [0], [], false), (24, .aload_n 0, 1, 0, [0], [], true), (25, .getfield 282, 3, 0, [12, 22, 1, 0, 0], [], false), (28, .ifCond .ne 19, 3, 0, [47], [], false), (31, .aload_n 0, 1, 0, [0], [], false), (32, .bipush 59, 2, 59, [], [], false), (34, .invokevirtual 288, 3, 0, [1], [], false), (37, .ifCond .eq 10, 3, 0, [47], [], false), (40, .aload_n 0, 1, 0, [0], [], false), (41, .invokevirtual 406, 3, 0, [0], [], false), (44, .goto (-20), 3, 0, [24], [], false), (47, .aload_n 0, 1, 0, [0], [], true), (48, .aload_n 0, 1, 0, [0], [], false), (49, .getfield 282, 3, 0, [12, 22, 1, 0, 0], [], false), (52, .ifCond .ne 14, 3, 0, [66], [], false), (55, .aload_n 0, 1, 0, [0], [], false), (56, .getfield 279, 3, 0, [12, 21, 0, 0, 0], [], false), (59, .aload_n 0, 1, 0, [0], [], false), (60, .getfield 276, 3, 0, [12, 20, 0, 0, 0], [], false), (63, .if_icmp .ge 7, 3, 0, [70], [], false), (66, .iconst 1, 1, 1, [], [], false), (67, .goto 4, 3, 0, [71], [], false), (70, .iconst 0, 1, 0, [], [], false), (71, .putfield 282, 3, 0, [12, 22, 1], [], false), (74, .aload_n 0, 1, 0, [0], [], true), (75, .iconst 0, 1, 0, [], [], false), (76, .putfield 276, 3, 0, [12, 20, 0], [], false), (79, .aload_n 0, 1, 0, [0], [], false), (80, .getfield 282, 3, 0, [12, 22, 1, 0, 0], [], false), (83, .ifCond .eq 11, 3, 0, [94], [], false), (86, .bipush (-100), 2, (-100), [], [], false), (88, .aload_n 0, 1, 0, [0], [], false), (89, .getfield 279, 3, 0, [12, 21, 0, 0, 0], [], false), (92, .isub, 1, 0, [], [], false), (93, .ireturn, 1, 0, [], [], false), (94, .iconst 0, 1, 0, [], [], false), (95, .istore_n 1, 1, 0, [1], [], false), (96, .iconst 0, 1, 0, [], [], false), (97, .istore_n 2, 1, 0, [2], [], false), (98, .iload_n 2, 1, 0, [2], [], true), (99, .aload_n 0, 1, 0, [0], [], false), (100, .getfield 403, 3, 0, [12, 39, 0, 0, 0], [], false), (103, .if_icmp .ge 44, 3, 0, [147], [], false), (106, .aload_n 0, 1, 0, [0], [], false), (107, .invokevirtual 173, 3, 0, [2], [], false), (110, .istore_n 3, 1, 0, [3], [], false), (111, .iload_n 3, 1, 0, [3], [], false), (112, .ifCond .lt 29, 3, 0, [141], [], false), (115, .aload_n 0, 1, 0, [0], [], false), (116, .iload_n 3, 1, 0, [3], [], false), (117, .aload_n 0, 1, 0, [0], [], false), (118, .getfield 89, 3, 0, [12, 40, 2, 20, 27], [], false), (121, .iload_n 2, 1, 0, [2], [], false), (122, .iaload, 1, 0, [], [], false), (123, .aload_n 0, 1, 0, [0], [], false), (124, .getfield 92, 3, 0, [12, 41, 2, 20, 28], [], false), (127, .iload_n 2, 1, 0, [2], [], false), (128, .iaload, 1, 0, [], [], false), (129, .aload_n 0, 1, 0, [0], [], false), (130, .getfield 95, 3, 0, [12, 42, 2, 20, 29], [], false), (133, .iload_n 2, 1, 0, [2], [], false), (134, .iaload, 1, 0, [], [], false), (135, .invokevirtual 177, 3, 0, [3], [], false), (138, .iinc 1 1, 3, 1, [], [], false), (141, .iinc 2 1, 3, 1, [], [], false), (144, .goto (-46), 3, 0, [98], [], false), (147, .iload_n 1, 1, 0, [1], [], false), (148, .ireturn, 1, 0, [], [], false)]
def mo_load_y : MethodName := ⟨"SpanLayersModel", "load", "()I"⟩
theorem mo_load_tb : sl_tbOK sl_R12 prog_14_method_102_code 4 (some .int) lk_mo [(406, 0), (288, 0), (173, 0), (177, 0)] mo_load_cd = true := by decide +kernel
theorem mo_readPart_w2 : Cond.instanceMethod mo_readPart_y ∈ sl_T0 := sl_in1 1575 (by decide +kernel) rfl
theorem mo_readPart_w3 : Cond.selects mo_readPart_y.cls mo_readPart_y mo_readPart_y ∈ sl_T0 := sl_in1 79 (by decide +kernel) rfl
theorem mo_readPart_w4 : Cond.initialized mo_readPart_y.cls ∈ sl_T0 := sl_in1 97 (by decide +kernel) rfl
theorem mo_readPart_w5 : Cond.code mo_readPart_y prog_14_method_101_code 1 none ∈ sl_T0 := sl_in1 1576 (by decide +kernel) rfl
theorem mo_readPart_w6 : mo_readPart_y.cls ≠ "java/lang/invoke/MethodHandle" ∧ mo_readPart_y.cls ≠ "java/lang/invoke/VarHandle" ∧ (parseMethodDescriptor mo_readPart_y.desc).map (fun d => d.parameters.length) = some 0 := by decide +kernel
theorem cs_mo_406 (g : sl_G) {hh : Nat} (h : 4 ≤ hh) : sl_CallS g sl_R12 406 0 12 hh 1 mo_readPart_pt := sl_callV (y := mo_readPart_y) (T := sl_F12) (N := 50) (mo_readPart_snd g) h (by decide) (sl_in1 1573 (by decide +kernel) rfl) mo_readPart_w2 mo_readPart_w3 mo_readPart_w4 mo_readPart_w5 mo_readPart_w6 rfl (by decide)
def mo_load_ct : List sl_Ct := [(1, 0, 12, mo_readPart_pt), (2, 0, 12, mo_goesOn_pt), (1, 0, 12, mo_leastOut_pt), (5, 0, 12, mo_comes_pt)]
theorem mo_load_hc (g : sl_G) : sl_HC g sl_R12 4 mo_load_ct [(406, 0), (288, 0), (173, 0), (177, 0)] := sl_HC_cons (cs_mo_406 g (by decide)) (sl_HC_cons (cs_mo_288 g (by decide)) (sl_HC_cons (cs_mo_173 g (by decide)) (sl_HC_cons (cs_mo_177 g (by decide)) (sl_HC_nil g sl_R12 4))))
set_option maxRecDepth 20000 in
set_option maxHeartbeats 2000000 in
theorem mo_load_snd (g : sl_G) : sl_Snd g mo_load_y prog_14_method_102_code 4 (some .int) 4 (mo_load_pt) := by
  intro As μ Q hw h
  unfold mo_load_pt at h
  split at h
  next c0 a0 =>
    split at h
    next e_ =>
      subst e_
      split at h
      next e_ =>
        subst e_
        refine sl_mk2 g [true, false, false, false] (cst := [some (.inr (.inr (some (12, 104))))]) (lv0 := [none, none, none, none]) (by decide) rfl hw rfl rfl rfl lk_mo_ok (mo_load_hc g) mo_load_tb rfl ?_
        intro X M
        have v98 := sl_extL M sl_VV0 98 (fun n lv st μ => match lv, st with | [_, some (.inl x1), some (.inl x2), _], [] => mo_load_L98 (fun r μ' => Q (some (.inl r)) μ') n x1 x2 μ | _, _ => False) (by
            intro lv st μ h
            split at h
            · exact h
            · exact h) (by
            intro n98 w98
            refine ⟨_, w98, ?_⟩
            intro lv st μ h
            split at h
            · exact h
            · exact h.elim)
        have v74 := sl_ext M v98 74 (fun lv st μ => match lv, st with | [_, _, _, _], [] => mo_load_B74 (fun r μ' => Q (some (.inl r)) μ') μ | _, _ => False) (by
            intro lv st μ h
            split at h
            · exact h
            · exact h.elim)
        have v47 := sl_ext M v74 47 (fun lv st μ => match lv, st with | [_, _, _, _], [] => mo_load_B47 (fun r μ' => Q (some (.inl r)) μ') μ | _, _ => False) (by
            intro lv st μ h
            split at h
            · exact h
            · exact h.elim)
        have v24 := sl_extL M v47 24 (fun n lv st μ => match lv, st with | [_, _, _, _], [] => mo_load_L24 (fun r μ' => Q (some (.inl r)) μ') n μ | _, _ => False) (by
            intro lv st μ h
            split at h
            · exact h
            · exact h) (by
            intro n24 w24
            refine ⟨_, w24, ?_⟩
            intro lv st μ h
            split at h
            · exact h
            · exact h.elim)
        exact ⟨_, v24, h⟩
      next => exact h.elim
    next => exact h.elim
  next => exact h.elim
def mo_writes (a1 : Int32) (μ : sl_M) (Q : sl_M → Prop) : Prop := vp_in (μ 104 44) 400 ∧ ∀ m1, m1 = sl_up μ 134 (μ 104 44).toNatClampNeg a1 → ∀ m2, m2 = sl_up m1 104 44 ((m1 104 44) + (1 : Int32)) → Q m2
def mo_writes_pt : sl_PT := fun As μ Q => match As with
  | [.inr (.inr (some (c0, a0))), .inl a1] => if c0 = 12 then (if a0 = 104 then (mo_writes a1 μ (fun μ' => Q none μ')) else False) else False
  | _ => False
def mo_writes_cd : List sl_Ent := [(0, .aload_n 0, 1, 0, [0], [], false), (1, .getfield 98, 3, 0, [12, 43, 2, 20, 30], [], false), (4, .aload_n 0, 1, 0, [0], [], false), (5, .getfield 409, 3, 0, [12, 44, 0, 0, 0], [], false), (8, .iload_n 1, 1, 0, [1], [], false), (9, .iastore, 1, 0, [], [], false), (10, .aload_n 0, 1, 0, [0], [], false), (11, .dup, 1, 0, [], [], false), (12, .getfield 409, 3, 0, [12, 44, 0, 0, 0], [], false), (15, .iconst 1, 1, 1, [], [], false), (16, .iadd, 1, 0, [], [], false), (17, .putfield 409, 3, 0, [12, 44, 0], [], false), (20, .return_, 1, 0, [], [], false)]
def mo_writes_y : MethodName := ⟨"SpanLayersModel", "writes", "(I)V"⟩
theorem mo_writes_tb : sl_tbOK sl_R12 prog_14_method_103_code 2 none lk_mo [] mo_writes_cd = true := by decide +kernel
def mo_writes_ct : List sl_Ct := []
theorem mo_writes_hc (g : sl_G) : sl_HC g sl_R12 0 mo_writes_ct [] := sl_HC_nil g sl_R12 0
set_option maxRecDepth 20000 in
set_option maxHeartbeats 2000000 in
theorem mo_writes_snd (g : sl_G) : sl_Snd g mo_writes_y prog_14_method_103_code 2 none 0 (mo_writes_pt) := by
  intro As μ Q hw h
  unfold mo_writes_pt at h
  split at h
  next c0 a0 a1 =>
    split at h
    next e_ =>
      subst e_
      split at h
      next e_ =>
        subst e_
        refine sl_mk2 g [true, true] (cst := [some (.inr (.inr (some (12, 104)))), some (.inl a1)]) (lv0 := [none, none]) (by decide) rfl hw rfl rfl rfl lk_mo_ok (mo_writes_hc g) mo_writes_tb rfl ?_
        intro X M
        exact ⟨_, sl_VV0, h⟩
      next => exact h.elim
    next => exact h.elim
  next => exact h.elim
def mo_writesNumber_B32 (a1 : Int32) (Q : sl_M → Prop) : Int32 → sl_M → Prop
  | x2, μ => (x2 ≤ (9 : Int32) → ¬ (10 : Int32) = 0 ∧ mo_writes ((48 : Int32) + (x2 - x2 / (10 : Int32) * (10 : Int32))) μ (fun m2 => Q m2)) ∧ (¬ x2 ≤ (9 : Int32) → ¬ (10 : Int32) = 0 ∧ ¬ (10 : Int32) = 0 ∧ mo_writes ((48 : Int32) + ((x2 / (10 : Int32)) - (x2 / (10 : Int32)) / (10 : Int32) * (10 : Int32))) μ (fun m3 => ¬ (10 : Int32) = 0 ∧ mo_writes ((48 : Int32) + (x2 - x2 / (10 : Int32) * (10 : Int32))) m3 (fun m4 => Q m4)))
def mo_writesNumber_B15 (a1 : Int32) (Q : sl_M → Prop) : Int32 → sl_M → Prop
  | x2, μ => (x2 ≤ (99 : Int32) → mo_writesNumber_B32 a1 Q x2 μ) ∧ (¬ x2 ≤ (99 : Int32) → ¬ (100 : Int32) = 0 ∧ mo_writes ((48 : Int32) + (x2 / (100 : Int32))) μ (fun m1 => mo_writesNumber_B32 a1 Q x2 m1))
def mo_writesNumber (a1 : Int32) (μ : sl_M) (Q : sl_M → Prop) : Prop := (a1 < (0 : Int32) → mo_writes (45 : Int32) μ (fun m5 => mo_writesNumber_B15 a1 Q (-a1) m5)) ∧ (¬ a1 < (0 : Int32) → mo_writesNumber_B15 a1 Q a1 μ)
def mo_writesNumber_pt : sl_PT := fun As μ Q => match As with
  | [.inr (.inr (some (c0, a0))), .inl a1] => if c0 = 12 then (if a0 = 104 then (mo_writesNumber a1 μ (fun μ' => Q none μ')) else False) else False
  | _ => False
def mo_writesNumber_cd : List sl_Ent := [(0, .iload_n 1, 1, 0, [1], [], false), (1, .istore_n 2, 1, 0, [2], [], false), (2, .iload_n 2, 1, 0, [2], [], false), (3, .ifCond .ge 12, 3, 0, [15], [], false), (6, .aload_n 0, 1, 0, [0], [], false), (7, .bipush 45, 2, 45, [], [], false), (9, .invokevirtual 412, 3, 0, [0], [], false), (12, .iload_n 2, 1, 0, [2], [], false), (13, .ineg, 1, 0, [], [], false), (14, .istore_n 2, 1, 0, [2], [], false), (15, .iload_n 2, 1, 0, [2], [], true), (16, .bipush 99, 2, 99, [], [], false), (18, .if_icmp .le 14, 3, 0, [32], [], false), (21, .aload_n 0, 1, 0, [0], [], false), (22, .bipush 48, 2, 48, [], [], false), (24, .iload_n 2, 1, 0, [2], [], false), (25, .bipush 100, 2, 100, [], [], false), (27, .idiv, 1, 0, [], [], false), (28, .iadd, 1, 0, [], [], false), (29, .invokevirtual 412, 3, 0, [0], [], false), (32, .iload_n 2, 1, 0, [2], [], true), (33, .bipush 9, 2, 9, [], [], false), (35, .if_icmp .le 17, 3, 0, [52], [], false), (38, .aload_n 0, 1, 0, [0], [], false), (39, .bipush 48, 2, 48, [], [], false), (41, .iload_n 2, 1, 0, [2], [], false), (42, .bipush 10, 2, 10, [], [], false), (44, .idiv, 1, 0, [], [], false), (45, .bipush 10, 2, 10, [], [], false), (47, .irem, 1, 0, [], [], false), (48, .iadd, 1, 0, [], [], false), (49, .invokevirtual 412, 3, 0, [0], [], false), (52, .aload_n 0, 1, 0, [0], [], false), (53, .bipush 48, 2, 48, [], [], false), (55, .iload_n 2, 1, 0, [2], [], false), (56, .bipush 10, 2, 10, [], [], false), (58, .irem, 1, 0, [], [], false), (59, .iadd, 1, 0, [], [], false), (60, .invokevirtual 412, 3, 0, [0], [], false), (63, .return_, 1, 0, [], [], false)]
def mo_writesNumber_y : MethodName := ⟨"SpanLayersModel", "writesNumber", "(I)V"⟩
theorem mo_writesNumber_tb : sl_tbOK sl_R12 prog_14_method_104_code 3 none lk_mo [(412, 0)] mo_writesNumber_cd = true := by decide +kernel
theorem mo_writes_w2 : Cond.instanceMethod mo_writes_y ∈ sl_T0 := sl_in1 1583 (by decide +kernel) rfl
theorem mo_writes_w3 : Cond.selects mo_writes_y.cls mo_writes_y mo_writes_y ∈ sl_T0 := sl_in1 80 (by decide +kernel) rfl
theorem mo_writes_w4 : Cond.initialized mo_writes_y.cls ∈ sl_T0 := sl_in1 97 (by decide +kernel) rfl
theorem mo_writes_w5 : Cond.code mo_writes_y prog_14_method_103_code 2 none ∈ sl_T0 := sl_in1 1584 (by decide +kernel) rfl
theorem mo_writes_w6 : mo_writes_y.cls ≠ "java/lang/invoke/MethodHandle" ∧ mo_writes_y.cls ≠ "java/lang/invoke/VarHandle" ∧ (parseMethodDescriptor mo_writes_y.desc).map (fun d => d.parameters.length) = some 1 := by decide +kernel
theorem cs_mo_412 (g : sl_G) {hh : Nat} (h : 1 ≤ hh) : sl_CallS g sl_R12 412 0 12 hh 2 mo_writes_pt := sl_callV (y := mo_writes_y) (T := sl_F12) (N := 50) (mo_writes_snd g) h (by decide) (sl_in1 1581 (by decide +kernel) rfl) mo_writes_w2 mo_writes_w3 mo_writes_w4 mo_writes_w5 mo_writes_w6 rfl (by decide)
def mo_writesNumber_ct : List sl_Ct := [(2, 0, 12, mo_writes_pt)]
theorem mo_writesNumber_hc (g : sl_G) : sl_HC g sl_R12 1 mo_writesNumber_ct [(412, 0)] := sl_HC_cons (cs_mo_412 g (by decide)) (sl_HC_nil g sl_R12 1)
set_option maxRecDepth 20000 in
set_option maxHeartbeats 2000000 in
theorem mo_writesNumber_snd (g : sl_G) : sl_Snd g mo_writesNumber_y prog_14_method_104_code 3 none 1 (mo_writesNumber_pt) := by
  intro As μ Q hw h
  unfold mo_writesNumber_pt at h
  split at h
  next c0 a0 a1 =>
    split at h
    next e_ =>
      subst e_
      split at h
      next e_ =>
        subst e_
        refine sl_mk2 g [true, true, false] (cst := [some (.inr (.inr (some (12, 104)))), some (.inl a1)]) (lv0 := [none, none, none]) (by decide) rfl hw rfl rfl rfl lk_mo_ok (mo_writesNumber_hc g) mo_writesNumber_tb rfl ?_
        intro X M
        have v32 := sl_ext M sl_VV0 32 (fun lv st μ => match lv, st with | [_, _, some (.inl x2)], [] => mo_writesNumber_B32 a1 (fun μ' => Q none μ') x2 μ | _, _ => False) (by
            intro lv st μ h
            split at h
            · exact h
            · exact h.elim)
        have v15 := sl_ext M v32 15 (fun lv st μ => match lv, st with | [_, _, some (.inl x2)], [] => mo_writesNumber_B15 a1 (fun μ' => Q none μ') x2 μ | _, _ => False) (by
            intro lv st μ h
            split at h
            · exact h
            · exact h.elim)
        exact ⟨_, v15, h⟩
      next => exact h.elim
    next => exact h.elim
  next => exact h.elim
def mo_spell_B56 (a1 : Int32) (Q : Int32 → sl_M → Prop) (k31 : Int32 → sl_M → Prop) : Int32 → Int32 → sl_M → Prop
  | x2, x3, μ => vp_in x3 30 ∧ mo_writesNumber (μ 105 x3.toNatClampNeg) μ (fun m5 => mo_writes (45 : Int32) m5 (fun m6 => vp_in x3 30 ∧ mo_writesNumber (m6 106 x3.toNatClampNeg) m6 (fun m7 => vp_in x3 30 ∧ ((m7 107 x3.toNatClampNeg) = (1 : Int32) → k31 (x2 + (1 : Int32)) m7) ∧ (¬ (m7 107 x3.toNatClampNeg) = (1 : Int32) → mo_writes (58 : Int32) m7 (fun m8 => vp_in x3 30 ∧ mo_writesNumber (m8 107 x3.toNatClampNeg) m8 (fun m9 => k31 (x2 + (1 : Int32)) m9))))))
def mo_spell_L31 (a1 : Int32) (Q : Int32 → sl_M → Prop) : Nat → Int32 → sl_M → Prop
  | 0, _, _ => False
  | n + 1, x2, μ => mo_manyIn μ (fun r2 m1 => (x2 < r2 → vp_in x2 30 ∧ ∀ v3, v3 = (m1 110 x2.toNatClampNeg) → (x2 ≤ (0 : Int32) → mo_spell_B56 a1 Q (mo_spell_L31 a1 Q n) x2 v3 m1) ∧ (¬ x2 ≤ (0 : Int32) → mo_writes (59 : Int32) m1 (fun m4 => mo_spell_B56 a1 Q (mo_spell_L31 a1 Q n) x2 v3 m4))) ∧ (¬ x2 < r2 → Q (m1 104 44) m1))
def mo_spell (a1 : Int32) (μ : sl_M) (Q : Int32 → sl_M → Prop) : Prop := ∀ m10, m10 = sl_up μ 104 5 (0 : Int32) → mo_in a1.toInt64 ((0 : Int32).toInt64) ((4 : Int32).toInt64) m10 (fun r12 m11 => (r12 = (0 : Int32) → Q (-1 : Int32) m11) ∧ (¬ r12 = (0 : Int32) → mo_layOrder a1 m11 (fun m13 => ∀ m14, m14 = sl_up m13 104 44 (0 : Int32) → ∃ n15, mo_spell_L31 a1 Q n15 (0 : Int32) m14)))
def mo_spell_pt : sl_PT := fun As μ Q => match As with
  | [.inr (.inr (some (c0, a0))), .inl a1] => if c0 = 12 then (if a0 = 104 then (mo_spell a1 μ (fun r μ' => Q (some (.inl r)) μ')) else False) else False
  | _ => False
def mo_spell_cd : List sl_Ent := [(0, .aload_n 0, 1, 0, [0], [], false), (1, .iconst 0, 1, 0, [], [], false), (2, .putfield 113, 3, 0, [12, 5, 0], [], false), (5, .iload_n 1, 1, 0, [1], [], false), (6, .i2l, 1, 0, [], [], false), (7, .lconst 0, 1, 0, [], [], false), (8, .ldc2_w 216, 3, 4, [], [], false), (11, .invokestatic 119, 3, 0, [0], [], false), (14, .ifCond .ne 5, 3, 0, [19], [], false), (17, .iconst (-1), 1, (-1), [], [], false), (18, .ireturn, 1, 0, [], [], false), (19, .aload_n 0, 1, 0, [0], [], false), (20, .iload_n 1, 1, 0, [1], [], false), (21, .invokevirtual 204, 3, 0, [1], [], false), (24, .aload_n 0, 1, 0, [0], [], false), (25, .iconst 0, 1, 0, [], [], false), (26, .putfield 409, 3, 0, [12, 44, 0], [], false), (29, .iconst 0, 1, 0, [], [], false), (30, .istore_n 2, 1, 0, [2], [], false), (31, .iload_n 2, 1, 0, [2], [], true), (32, .aload_n 0, 1, 0, [0], [], false), (33, .invokevirtual 184, 3, 0, [2], [], false), (36, .if_icmp .ge 78, 3, 0, [114], [], false), (39, .aload_n 0, 1, 0, [0], [], false), (40, .getfield 25, 3, 0, [12, 6, 2, 20, 6], [], false), (43, .iload_n 2, 1, 0, [2], [], false), (44, .iaload, 1, 0, [], [], false), (45, .istore_n 3, 1, 0, [3, 1], [], false), (46, .iload_n 2, 1, 0, [2], [], false), (47, .ifCond .le 9, 3, 0, [56], [], false), (50, .aload_n 0, 1, 0, [0], [], false), (51, .bipush 59, 2, 59, [], [], false), (53, .invokevirtual 412, 3, 0, [3], [], false), (56, .aload_n 0, 1, 0, [0], [], true), (57, .aload_n 0, 1, 0, [0], [], false), (58, .getfield 7, 3, 0, [12, 0, 2, 20, 1], [], false), (61, .iload_n 3, 1, 0, [3], [], false), (62, .iaload, 1, 0, [], [], false), (63, .invokevirtual 415, 3, 0, [4], [], false), (66, .aload_n 0, 1, 0, [0], [], false), (67, .bipush 45, 2, 45, [], [], false), (69, .invokevirtual 412, 3, 0, [3], [], false), (72, .aload_n 0, 1, 0, [0], [], false), (73, .aload_n 0, 1, 0, [0], [], false), (74, .getfield 13, 3, 0, [12, 1, 2, 20, 2], [], false), (77, .iload_n 3, 1, 0, [3], [], false), (78, .iaload, 1, 0, [], [], false), (79, .invokevirtual 415, 3, 0, [4], [], false), (82, .aload_n 0, 1, 0, [0], [], false), (83, .getfield 16, 3, 0, [12, 2, 2, 20, 3], [], false), (86, .iload_n 3, 1, 0, [3], [], false), (87, .iaload, 1, 0, [], [], false), (88, .iconst 1, 1, 1, [], [], false), (89, .if_icmp .eq 19, 3, 0, [108], [], false), (92, .aload_n 0, 1, 0, [0], [], false), (93, .bipush 58, 2, 58, [], [], false), (95, .invokevirtual 412, 3, 0, [3], [], false), (98, .aload_n 0, 1, 0, [0], [], false), (99, .aload_n 0, 1, 0, [0], [], false), (100, .getfield 16, 3, 0, [12, 2, 2, 20, 3], [], false), (103, .iload_n 3, 1, 0, [3], [], false), (104, .iaload, 1, 0, [], [], false), (105, .invokevirtual 415, 3, 0, [4], [], false), (108, .iinc 2 1, 3, 1, [], [], false), (111, .goto (-80), 3, 0, [31], [], false), (114, .aload_n 0, 1, 0, [0], [], false), (115, .getfield 409, 3, 0, [12, 44, 0, 0, 0], [], false), (118, .ireturn, 1, 0, [], [], false)]
def mo_spell_y : MethodName := ⟨"SpanLayersModel", "spell", "(I)I"⟩
theorem mo_spell_tb : sl_tbOK sl_R12 prog_14_method_105_code 4 (some .int) lk_mo [(119, 1), (204, 0), (184, 0), (412, 0), (415, 0)] mo_spell_cd = true := by decide +kernel
theorem mo_writesNumber_w2 : Cond.instanceMethod mo_writesNumber_y ∈ sl_T0 := sl_in1 1587 (by decide +kernel) rfl
theorem mo_writesNumber_w3 : Cond.selects mo_writesNumber_y.cls mo_writesNumber_y mo_writesNumber_y ∈ sl_T0 := sl_in1 81 (by decide +kernel) rfl
theorem mo_writesNumber_w4 : Cond.initialized mo_writesNumber_y.cls ∈ sl_T0 := sl_in1 97 (by decide +kernel) rfl
theorem mo_writesNumber_w5 : Cond.code mo_writesNumber_y prog_14_method_104_code 3 none ∈ sl_T0 := sl_in1 1588 (by decide +kernel) rfl
theorem mo_writesNumber_w6 : mo_writesNumber_y.cls ≠ "java/lang/invoke/MethodHandle" ∧ mo_writesNumber_y.cls ≠ "java/lang/invoke/VarHandle" ∧ (parseMethodDescriptor mo_writesNumber_y.desc).map (fun d => d.parameters.length) = some 1 := by decide +kernel
theorem cs_mo_415 (g : sl_G) {hh : Nat} (h : 2 ≤ hh) : sl_CallS g sl_R12 415 0 12 hh 2 mo_writesNumber_pt := sl_callV (y := mo_writesNumber_y) (T := sl_F12) (N := 50) (mo_writesNumber_snd g) h (by decide) (sl_in1 1585 (by decide +kernel) rfl) mo_writesNumber_w2 mo_writesNumber_w3 mo_writesNumber_w4 mo_writesNumber_w5 mo_writesNumber_w6 rfl (by decide)
def mo_spell_ct : List sl_Ct := [(3, 1, 0, mo_in_pt), (2, 0, 12, mo_layOrder_pt), (1, 0, 12, mo_manyIn_pt), (2, 0, 12, mo_writes_pt), (2, 0, 12, mo_writesNumber_pt)]
theorem mo_spell_hc (g : sl_G) : sl_HC g sl_R12 5 mo_spell_ct [(119, 1), (204, 0), (184, 0), (412, 0), (415, 0)] := sl_HC_cons (cs_mo_119 g (by decide)) (sl_HC_cons (cs_mo_204 g (by decide)) (sl_HC_cons (cs_mo_184 g (by decide)) (sl_HC_cons (cs_mo_412 g (by decide)) (sl_HC_cons (cs_mo_415 g (by decide)) (sl_HC_nil g sl_R12 5)))))
set_option maxRecDepth 20000 in
set_option maxHeartbeats 2000000 in
theorem mo_spell_snd (g : sl_G) : sl_Snd g mo_spell_y prog_14_method_105_code 4 (some .int) 5 (mo_spell_pt) := by
  intro As μ Q hw h
  unfold mo_spell_pt at h
  split at h
  next c0 a0 a1 =>
    split at h
    next e_ =>
      subst e_
      split at h
      next e_ =>
        subst e_
        refine sl_mk2 g [true, true, false, false] (cst := [some (.inr (.inr (some (12, 104)))), some (.inl a1)]) (lv0 := [none, none, none, none]) (by decide) rfl hw rfl rfl rfl lk_mo_ok (mo_spell_hc g) mo_spell_tb rfl ?_
        intro X M
        have v31 := sl_extL M sl_VV0 31 (fun n lv st μ => match lv, st with | [_, _, some (.inl x2), _], [] => mo_spell_L31 a1 (fun r μ' => Q (some (.inl r)) μ') n x2 μ | _, _ => False) (by
            intro lv st μ h
            split at h
            · exact h
            · exact h) (by
            intro n31 w31
            have v56 := sl_ext M w31 56 (fun lv st μ => match lv, st with | [_, _, some (.inl x2), some (.inl x3)], [] => mo_spell_B56 a1 (fun r μ' => Q (some (.inl r)) μ') (mo_spell_L31 a1 (fun r μ' => Q (some (.inl r)) μ') n31) x2 x3 μ | _, _ => False) (by
                intro lv st μ h
                split at h
                · exact h
                · exact h.elim)
            refine ⟨_, v56, ?_⟩
            intro lv st μ h
            split at h
            · exact h
            · exact h.elim)
        exact ⟨_, v31, h⟩
      next => exact h.elim
    next => exact h.elim
  next => exact h.elim
def mo_paper (a1 : Int32) (μ : sl_M) (Q : Int32 → sl_M → Prop) : Prop := ∀ m1, m1 = sl_up μ 104 5 (0 : Int32) → mo_in a1.toInt64 ((0 : Int32).toInt64) (((m1 104 44) - (1 : Int32)).toInt64) m1 (fun r3 m2 => (r3 = (0 : Int32) → Q (-1 : Int32) m2) ∧ (¬ r3 = (0 : Int32) → vp_in a1 400 ∧ Q (m2 134 a1.toNatClampNeg) m2))
def mo_paper_pt : sl_PT := fun As μ Q => match As with
  | [.inr (.inr (some (c0, a0))), .inl a1] => if c0 = 12 then (if a0 = 104 then (mo_paper a1 μ (fun r μ' => Q (some (.inl r)) μ')) else False) else False
  | _ => False
def mo_paper_cd : List sl_Ent := [(0, .aload_n 0, 1, 0, [0], [], false), (1, .iconst 0, 1, 0, [], [], false), (2, .putfield 113, 3, 0, [12, 5, 0], [], false), (5, .iload_n 1, 1, 0, [1], [], false), (6, .i2l, 1, 0, [], [], false), (7, .lconst 0, 1, 0, [], [], false), (8, .aload_n 0, 1, 0, [0], [], false), (9, .getfield 409, 3, 0, [12, 44, 0, 0, 0], [], false), (12, .iconst 1, 1, 1, [], [], false), (13, .isub, 1, 0, [], [], false), (14, .i2l, 1, 0, [], [], false), (15, .invokestatic 119, 3, 0, [0], [], false), (18, .ifCond .eq 12, 3, 0, [30], [], false), (21, .aload_n 0, 1, 0, [0], [], false), (22, .getfield 98, 3, 0, [12, 43, 2, 20, 30], [], false), (25, .iload_n 1, 1, 0, [1], [], false), (26, .iaload, 1, 0, [], [], false), (27, .goto 4, 3, 0, [31], [], false), (30, .iconst (-1), 1, (-1), [], [], false), (31, .ireturn, 1, 0, [], [], false)]
def mo_paper_y : MethodName := ⟨"SpanLayersModel", "paper", "(I)I"⟩
theorem mo_paper_tb : sl_tbOK sl_R12 prog_14_method_106_code 2 (some .int) lk_mo [(119, 1)] mo_paper_cd = true := by decide +kernel
def mo_paper_ct : List sl_Ct := [(3, 1, 0, mo_in_pt)]
theorem mo_paper_hc (g : sl_G) : sl_HC g sl_R12 1 mo_paper_ct [(119, 1)] := sl_HC_cons (cs_mo_119 g (by decide)) (sl_HC_nil g sl_R12 1)
set_option maxRecDepth 20000 in
set_option maxHeartbeats 2000000 in
theorem mo_paper_snd (g : sl_G) : sl_Snd g mo_paper_y prog_14_method_106_code 2 (some .int) 1 (mo_paper_pt) := by
  intro As μ Q hw h
  unfold mo_paper_pt at h
  split at h
  next c0 a0 a1 =>
    split at h
    next e_ =>
      subst e_
      split at h
      next e_ =>
        subst e_
        refine sl_mk2 g [true, true] (cst := [some (.inr (.inr (some (12, 104)))), some (.inl a1)]) (lv0 := [none, none]) (by decide) rfl hw rfl rfl rfl lk_mo_ok (mo_paper_hc g) mo_paper_tb rfl ?_
        intro X M
        exact ⟨_, sl_VV0, h⟩
      next => exact h.elim
    next => exact h.elim
  next => exact h.elim
def mo_sumOf_L4 (a1 : Int32) (Q : Int32 → sl_M → Prop) : Nat → Int32 → Int32 → sl_M → Prop
  | 0, _, _, _ => False
  | n + 1, x2, x3, μ => (x3 < (30 : Int32) → vp_in x3 30 ∧ ((μ 108 x3.toNatClampNeg) = (0 : Int32) → ∀ v1, v1 = (x2 + (0 : Int32)) → (mo_sumOf_L4 a1 Q n) v1 (x3 + (1 : Int32)) μ) ∧ (¬ (μ 108 x3.toNatClampNeg) = (0 : Int32) → (a1 = (0 : Int32) → mo_lengthOf x3 μ (fun r3 m2 => ∀ v4, v4 = (x2 + r3) → (mo_sumOf_L4 a1 Q n) v4 (x3 + (1 : Int32)) m2)) ∧ (¬ a1 = (0 : Int32) → vp_in x3 30 ∧ ∀ v5, v5 = (x2 + (μ 107 x3.toNatClampNeg)) → (mo_sumOf_L4 a1 Q n) v5 (x3 + (1 : Int32)) μ))) ∧ (¬ x3 < (30 : Int32) → Q x2 μ)
def mo_sumOf (a1 : Int32) (μ : sl_M) (Q : Int32 → sl_M → Prop) : Prop := ∃ n6, mo_sumOf_L4 a1 Q n6 (0 : Int32) (0 : Int32) μ
def mo_sumOf_pt : sl_PT := fun As μ Q => match As with
  | [.inr (.inr (some (c0, a0))), .inl a1] => if c0 = 12 then (if a0 = 104 then (mo_sumOf a1 μ (fun r μ' => Q (some (.inl r)) μ')) else False) else False
  | _ => False
def mo_sumOf_cd : List sl_Ent := [(0, .iconst 0, 1, 0, [], [], false), (1, .istore_n 2, 1, 0, [2], [], false), (2, .iconst 0, 1, 0, [], [], false), (3, .istore_n 3, 1, 0, [3], [], false), (4, .iload_n 3, 1, 0, [3], [], true), (5, .bipush 30, 2, 30, [], [], false), (7, .if_icmp .ge 43, 3, 0, [50], [], false), (10, .iload_n 2, 1, 0, [2], [], false), (11, .aload_n 0, 1, 0, [0], [], false), (12, .getfield 19, 3, 0, [12, 3, 2, 20, 4], [], false), (15, .iload_n 3, 1, 0, [3], [], false), (16, .iaload, 1, 0, [], [], false), (17, .ifCond .ne 7, 3, 0, [24], [], false), (20, .iconst 0, 1, 0, [], [], false), (21, .goto 21, 3, 0, [42], [], false), (24, .iload_n 1, 1, 0, [1], [], false), (25, .ifCond .eq 12, 3, 0, [37], [], false), (28, .aload_n 0, 1, 0, [0], [], false), (29, .getfield 16, 3, 0, [12, 2, 2, 20, 3], [], false), (32, .iload_n 3, 1, 0, [3], [], false), (33, .iaload, 1, 0, [], [], false), (34, .goto 8, 3, 0, [42], [], false), (37, .aload_n 0, 1, 0, [0], [], false), (38, .iload_n 3, 1, 0, [3], [], false), (39, .invokevirtual 127, 3, 0, [0], [], false), (42, .iadd, 1, 0, [], [], false), (43, .istore_n 2, 1, 0, [2, 1], [], false), (44, .iinc 3 1, 3, 1, [], [], false), (47, .goto (-43), 3, 0, [4], [], false), (50, .iload_n 2, 1, 0, [2], [], false), (51, .ireturn, 1, 0, [], [], false)]
def mo_sumOf_y : MethodName := ⟨"SpanLayersModel", "sumOf", "(Z)I"⟩
theorem mo_sumOf_tb : sl_tbOK sl_R12 prog_14_method_107_code 4 (some .int) lk_mo [(127, 0)] mo_sumOf_cd = true := by decide +kernel
def mo_sumOf_ct : List sl_Ct := [(2, 0, 12, mo_lengthOf_pt)]
theorem mo_sumOf_hc (g : sl_G) : sl_HC g sl_R12 1 mo_sumOf_ct [(127, 0)] := sl_HC_cons (cs_mo_127 g (by decide)) (sl_HC_nil g sl_R12 1)
set_option maxRecDepth 20000 in
set_option maxHeartbeats 2000000 in
theorem mo_sumOf_snd (g : sl_G) : sl_Snd g mo_sumOf_y prog_14_method_107_code 4 (some .int) 1 (mo_sumOf_pt) := by
  intro As μ Q hw h
  unfold mo_sumOf_pt at h
  split at h
  next c0 a0 a1 =>
    split at h
    next e_ =>
      subst e_
      split at h
      next e_ =>
        subst e_
        refine sl_mk2 g [true, true, false, false] (cst := [some (.inr (.inr (some (12, 104)))), some (.inl a1)]) (lv0 := [none, none, none, none]) (by decide) rfl hw rfl rfl rfl lk_mo_ok (mo_sumOf_hc g) mo_sumOf_tb rfl ?_
        intro X M
        have v4 := sl_extL M sl_VV0 4 (fun n lv st μ => match lv, st with | [_, _, some (.inl x2), some (.inl x3)], [] => mo_sumOf_L4 a1 (fun r μ' => Q (some (.inl r)) μ') n x2 x3 μ | _, _ => False) (by
            intro lv st μ h
            split at h
            · exact h
            · exact h) (by
            intro n4 w4
            refine ⟨_, w4, ?_⟩
            intro lv st μ h
            split at h
            · exact h
            · exact h.elim)
        exact ⟨_, v4, h⟩
      next => exact h.elim
    next => exact h.elim
  next => exact h.elim
def mo_layerMany_L8 (Q : Int32 → sl_M → Prop) : Nat → Int32 → Int32 → sl_M → Prop
  | 0, _, _, _ => False
  | n + 1, x1, x2, μ => (x2 < (30 : Int32) → vp_in x2 30 ∧ ((μ 108 x2.toNatClampNeg) = (1 : Int32) → vp_in x2 30 ∧ ((μ 109 x2.toNatClampNeg) ≤ x1 → (mo_layerMany_L8 Q n) x1 (x2 + (1 : Int32)) μ) ∧ (¬ (μ 109 x2.toNatClampNeg) ≤ x1 → vp_in x2 30 ∧ (mo_layerMany_L8 Q n) (μ 109 x2.toNatClampNeg) (x2 + (1 : Int32)) μ)) ∧ (¬ (μ 108 x2.toNatClampNeg) = (1 : Int32) → (mo_layerMany_L8 Q n) x1 (x2 + (1 : Int32)) μ)) ∧ (¬ x2 < (30 : Int32) → Q (x1 + (1 : Int32)) μ)
def mo_layerMany (μ : sl_M) (Q : Int32 → sl_M → Prop) : Prop := mo_layLayers μ (fun m1 => ∃ n2, mo_layerMany_L8 Q n2 (-1 : Int32) (0 : Int32) m1)
def mo_layerMany_pt : sl_PT := fun As μ Q => match As with
  | [.inr (.inr (some (c0, a0)))] => if c0 = 12 then (if a0 = 104 then (mo_layerMany μ (fun r μ' => Q (some (.inl r)) μ')) else False) else False
  | _ => False
def mo_layerMany_cd : List sl_Ent := [(0, .aload_n 0, 1, 0, [0], [], false), (1, .invokevirtual 158, 3, 0, [0], [], false), (4, .iconst (-1), 1, (-1), [], [], false), (5, .istore_n 1, 1, 0, [1], [], false), (6, .iconst 0, 1, 0, [], [], false), (7, .istore_n 2, 1, 0, [2], [], false), (8, .iload_n 2, 1, 0, [2], [], true), (9, .bipush 30, 2, 30, [], [], false), (11, .if_icmp .ge 40, 3, 0, [51], [], false), (14, .aload_n 0, 1, 0, [0], [], false), (15, .getfield 19, 3, 0, [12, 3, 2, 20, 4], [], false), (18, .iload_n 2, 1, 0, [2], [], false), (19, .iaload, 1, 0, [], [], false), (20, .iconst 1, 1, 1, [], [], false), (21, .if_icmp .ne 22, 3, 0, [43], [], false), (24, .aload_n 0, 1, 0, [0], [], false), (25, .getfield 22, 3, 0, [12, 4, 2, 20, 5], [], false), (28, .iload_n 2, 1, 0, [2], [], false), (29, .iaload, 1, 0, [], [], false), (30, .iload_n 1, 1, 0, [1], [], false), (31, .if_icmp .le 12, 3, 0, [43], [], false), (34, .aload_n 0, 1, 0, [0], [], false), (35, .getfield 22, 3, 0, [12, 4, 2, 20, 5], [], false), (38, .iload_n 2, 1, 0, [2], [], false), (39, .iaload, 1, 0, [], [], false), (40, .goto 4, 3, 0, [44], [], false), (43, .iload_n 1, 1, 0, [1], [], false), (44, .istore_n 1, 1, 0, [1], [], false), (45, .iinc 2 1, 3, 1, [], [], false), (48, .goto (-40), 3, 0, [8], [], false), (51, .iload_n 1, 1, 0, [1], [], false), (52, .iconst 1, 1, 1, [], [], false), (53, .iadd, 1, 0, [], [], false), (54, .ireturn, 1, 0, [], [], false)]
def mo_layerMany_y : MethodName := ⟨"SpanLayersModel", "layerMany", "()I"⟩
theorem mo_layerMany_tb : sl_tbOK sl_R12 prog_14_method_108_code 3 (some .int) lk_mo [(158, 0)] mo_layerMany_cd = true := by decide +kernel
def mo_layerMany_ct : List sl_Ct := [(1, 0, 12, mo_layLayers_pt)]
theorem mo_layerMany_hc (g : sl_G) : sl_HC g sl_R12 3 mo_layerMany_ct [(158, 0)] := sl_HC_cons (cs_mo_158 g (by decide)) (sl_HC_nil g sl_R12 3)
set_option maxRecDepth 20000 in
set_option maxHeartbeats 2000000 in
theorem mo_layerMany_snd (g : sl_G) : sl_Snd g mo_layerMany_y prog_14_method_108_code 3 (some .int) 3 (mo_layerMany_pt) := by
  intro As μ Q hw h
  unfold mo_layerMany_pt at h
  split at h
  next c0 a0 =>
    split at h
    next e_ =>
      subst e_
      split at h
      next e_ =>
        subst e_
        refine sl_mk2 g [true, false, false] (cst := [some (.inr (.inr (some (12, 104))))]) (lv0 := [none, none, none]) (by decide) rfl hw rfl rfl rfl lk_mo_ok (mo_layerMany_hc g) mo_layerMany_tb rfl ?_
        intro X M
        have v8 := sl_extL M sl_VV0 8 (fun n lv st μ => match lv, st with | [_, some (.inl x1), some (.inl x2)], [] => mo_layerMany_L8 (fun r μ' => Q (some (.inl r)) μ') n x1 x2 μ | _, _ => False) (by
            intro lv st μ h
            split at h
            · exact h
            · exact h) (by
            intro n8 w8
            refine ⟨_, w8, ?_⟩
            intro lv st μ h
            split at h
            · exact h
            · exact h.elim)
        exact ⟨_, v8, h⟩
      next => exact h.elim
    next => exact h.elim
  next => exact h.elim
def mo_told (a1 : Int32) (μ : sl_M) (Q : Int32 → sl_M → Prop) : Prop := ∀ m1, m1 = sl_up μ 104 5 (0 : Int32) → (a1 = (0 : Int32) → mo_manyIn m1 (fun r3 m2 => Q r3 m2)) ∧ (¬ a1 = (0 : Int32) → (a1 = (1 : Int32) → mo_opens m1 (fun r5 m4 => Q r5 m4)) ∧ (¬ a1 = (1 : Int32) → (a1 = (2 : Int32) → mo_layerMany m1 (fun r7 m6 => Q r7 m6)) ∧ (¬ a1 = (2 : Int32) → (a1 = (3 : Int32) → (a1 = (3 : Int32) → mo_sumOf (1 : Int32) m1 (fun r9 m8 => Q r9 m8)) ∧ (¬ a1 = (3 : Int32) → mo_sumOf (0 : Int32) m1 (fun r11 m10 => Q r11 m10))) ∧ (¬ a1 = (3 : Int32) → (a1 = (4 : Int32) → (a1 = (3 : Int32) → mo_sumOf (1 : Int32) m1 (fun r13 m12 => Q r13 m12)) ∧ (¬ a1 = (3 : Int32) → mo_sumOf (0 : Int32) m1 (fun r15 m14 => Q r15 m14))) ∧ (¬ a1 = (4 : Int32) → (a1 = (5 : Int32) → Q (m1 104 20) m1) ∧ (¬ a1 = (5 : Int32) → (a1 = (6 : Int32) → Q (m1 104 44) m1) ∧ (¬ a1 = (6 : Int32) → (a1 = (7 : Int32) → mo_layDepths m1 (fun m16 => mo_deepestOf (0 : Int32) m16 (fun r18 m17 => vp_in r18 1000 ∧ Q (m17 115 r18.toNatClampNeg) m17))) ∧ (¬ a1 = (7 : Int32) → (a1 = (8 : Int32) → mo_groupOf (-1 : Int32) m1 (fun r20 m19 => Q r20 m19)) ∧ (¬ a1 = (8 : Int32) → Q (-1 : Int32) m1)))))))))
def mo_told_pt : sl_PT := fun As μ Q => match As with
  | [.inr (.inr (some (c0, a0))), .inl a1] => if c0 = 12 then (if a0 = 104 then (mo_told a1 μ (fun r μ' => Q (some (.inl r)) μ')) else False) else False
  | _ => False
def mo_told_cd : List sl_Ent := [(0, .aload_n 0, 1, 0, [0], [], false), (1, .iconst 0, 1, 0, [], [], false), (2, .putfield 113, 3, 0, [12, 5, 0], [], false), (5, .iload_n 1, 1, 0, [1], [], false), (6, .tableswitch 111 0 8 #[50, 55, 60, 65, 65, 80, 85, 90, 105], 50, 0, [117], [(0, 56), (1, 61), (2, 66), (3, 71), (4, 71), (5, 86), (6, 91), (7, 96), (8, 111)], false), (56, .aload_n 0, 1, 0, [0], [], false), (57, .invokevirtual 184, 3, 0, [0], [], false), (60, .ireturn, 1, 0, [], [], false), (61, .aload_n 0, 1, 0, [0], [], false), (62, .invokevirtual 220, 3, 0, [1], [], false), (65, .ireturn, 1, 0, [], [], false), (66, .aload_n 0, 1, 0, [0], [], false), (67, .invokevirtual 418, 3, 0, [2], [], false), (70, .ireturn, 1, 0, [], [], false), (71, .aload_n 0, 1, 0, [0], [], false), (72, .iload_n 1, 1, 0, [1], [], false), (73, .iconst 3, 1, 3, [], [], false), (74, .if_icmp .ne 7, 3, 0, [81], [], false), (77, .iconst 1, 1, 1, [], [], false), (78, .goto 4, 3, 0, [82], [], false), (81, .iconst 0, 1, 0, [], [], false), (82, .invokevirtual 421, 3, 0, [3], [], false), (85, .ireturn, 1, 0, [], [], false), (86, .aload_n 0, 1, 0, [0], [], false), (87, .getfield 276, 3, 0, [12, 20, 0, 0, 0], [], false), (90, .ireturn, 1, 0, [], [], false), (91, .aload_n 0, 1, 0, [0], [], false), (92, .getfield 409, 3, 0, [12, 44, 0, 0, 0], [], false), (95, .ireturn, 1, 0, [], [], false), (96, .aload_n 0, 1, 0, [0], [], false), (97, .invokevirtual 226, 3, 0, [4], [], false), (100, .aload_n 0, 1, 0, [0], [], false), (101, .getfield 40, 3, 0, [12, 11, 2, 20, 11], [], false), (104, .aload_n 0, 1, 0, [0], [], false), (105, .iconst 0, 1, 0, [], [], false), (106, .invokevirtual 256, 3, 0, [5], [], false), (109, .iaload, 1, 0, [], [], false), (110, .ireturn, 1, 0, [], [], false), (111, .aload_n 0, 1, 0, [0], [], false), (112, .iconst (-1), 1, (-1), [], [], false), (113, .invokevirtual 268, 3, 0, [6], [], false), (116, .ireturn, 1, 0, [], [], false), (117, .iconst (-1), 1, (-1), [], [], false), (118, .ireturn, 1, 0, [], [], false)]
def mo_told_y : MethodName := ⟨"SpanLayersModel", "told", "(I)I"⟩
theorem mo_told_tb : sl_tbOK sl_R12 prog_14_method_109_code 2 (some .int) lk_mo [(184, 0), (220, 0), (418, 0), (421, 0), (226, 0), (256, 0), (268, 0)] mo_told_cd = true := by decide +kernel
theorem mo_layerMany_w2 : Cond.instanceMethod mo_layerMany_y ∈ sl_T0 := sl_in1 1599 (by decide +kernel) rfl
theorem mo_layerMany_w3 : Cond.selects mo_layerMany_y.cls mo_layerMany_y mo_layerMany_y ∈ sl_T0 := sl_in1 82 (by decide +kernel) rfl
theorem mo_layerMany_w4 : Cond.initialized mo_layerMany_y.cls ∈ sl_T0 := sl_in1 97 (by decide +kernel) rfl
theorem mo_layerMany_w5 : Cond.code mo_layerMany_y prog_14_method_108_code 3 (some .int) ∈ sl_T0 := sl_in1 1600 (by decide +kernel) rfl
theorem mo_layerMany_w6 : mo_layerMany_y.cls ≠ "java/lang/invoke/MethodHandle" ∧ mo_layerMany_y.cls ≠ "java/lang/invoke/VarHandle" ∧ (parseMethodDescriptor mo_layerMany_y.desc).map (fun d => d.parameters.length) = some 0 := by decide +kernel
theorem cs_mo_418 (g : sl_G) {hh : Nat} (h : 4 ≤ hh) : sl_CallS g sl_R12 418 0 12 hh 1 mo_layerMany_pt := sl_callV (y := mo_layerMany_y) (T := sl_F12) (N := 50) (mo_layerMany_snd g) h (by decide) (sl_in1 1597 (by decide +kernel) rfl) mo_layerMany_w2 mo_layerMany_w3 mo_layerMany_w4 mo_layerMany_w5 mo_layerMany_w6 rfl (by decide)
theorem mo_sumOf_w2 : Cond.instanceMethod mo_sumOf_y ∈ sl_T0 := sl_in1 1603 (by decide +kernel) rfl
theorem mo_sumOf_w3 : Cond.selects mo_sumOf_y.cls mo_sumOf_y mo_sumOf_y ∈ sl_T0 := sl_in1 83 (by decide +kernel) rfl
theorem mo_sumOf_w4 : Cond.initialized mo_sumOf_y.cls ∈ sl_T0 := sl_in1 97 (by decide +kernel) rfl
theorem mo_sumOf_w5 : Cond.code mo_sumOf_y prog_14_method_107_code 4 (some .int) ∈ sl_T0 := sl_in1 1604 (by decide +kernel) rfl
theorem mo_sumOf_w6 : mo_sumOf_y.cls ≠ "java/lang/invoke/MethodHandle" ∧ mo_sumOf_y.cls ≠ "java/lang/invoke/VarHandle" ∧ (parseMethodDescriptor mo_sumOf_y.desc).map (fun d => d.parameters.length) = some 1 := by decide +kernel
theorem cs_mo_421 (g : sl_G) {hh : Nat} (h : 2 ≤ hh) : sl_CallS g sl_R12 421 0 12 hh 2 mo_sumOf_pt := sl_callV (y := mo_sumOf_y) (T := sl_F12) (N := 50) (mo_sumOf_snd g) h (by decide) (sl_in1 1601 (by decide +kernel) rfl) mo_sumOf_w2 mo_sumOf_w3 mo_sumOf_w4 mo_sumOf_w5 mo_sumOf_w6 rfl (by decide)
def mo_told_ct : List sl_Ct := [(1, 0, 12, mo_manyIn_pt), (1, 0, 12, mo_opens_pt), (1, 0, 12, mo_layerMany_pt), (2, 0, 12, mo_sumOf_pt), (1, 0, 12, mo_layDepths_pt), (2, 0, 12, mo_deepestOf_pt), (2, 0, 12, mo_groupOf_pt)]
theorem mo_told_hc (g : sl_G) : sl_HC g sl_R12 4 mo_told_ct [(184, 0), (220, 0), (418, 0), (421, 0), (226, 0), (256, 0), (268, 0)] := sl_HC_cons (cs_mo_184 g (by decide)) (sl_HC_cons (cs_mo_220 g (by decide)) (sl_HC_cons (cs_mo_418 g (by decide)) (sl_HC_cons (cs_mo_421 g (by decide)) (sl_HC_cons (cs_mo_226 g (by decide)) (sl_HC_cons (cs_mo_256 g (by decide)) (sl_HC_cons (cs_mo_268 g (by decide)) (sl_HC_nil g sl_R12 4)))))))
set_option maxRecDepth 20000 in
set_option maxHeartbeats 2000000 in
theorem mo_told_snd (g : sl_G) : sl_Snd g mo_told_y prog_14_method_109_code 2 (some .int) 4 (mo_told_pt) := by
  intro As μ Q hw h
  unfold mo_told_pt at h
  split at h
  next c0 a0 a1 =>
    split at h
    next e_ =>
      subst e_
      split at h
      next e_ =>
        subst e_
        refine sl_mk2 g [true, true] (cst := [some (.inr (.inr (some (12, 104)))), some (.inl a1)]) (lv0 := [none, none]) (by decide) rfl hw rfl rfl rfl lk_mo_ok (mo_told_hc g) mo_told_tb rfl ?_
        intro X M
        exact ⟨_, sl_VV0, h⟩
      next => exact h.elim
    next => exact h.elim
  next => exact h.elim
def mo_isList (a0 : Int32) (μ : sl_M) (Q : Int32 → sl_M → Prop) : Prop := mo_in a0.toInt64 ((0 : Int32).toInt64) ((3 : Int32).toInt64) μ (fun r2 m1 => sl_bz r2 = r2 ∧ Q r2 m1)
def mo_isList_pt : sl_PT := fun As μ Q => match As with
  | [.inl a0] => mo_isList a0 μ (fun r μ' => Q (some (.inl r)) μ')
  | _ => False
def mo_isList_cd : List sl_Ent := [(0, .iload_n 0, 1, 0, [0], [], false), (1, .i2l, 1, 0, [], [], false), (2, .lconst 0, 1, 0, [], [], false), (3, .ldc2_w 211, 3, 3, [], [], false), (6, .invokestatic 119, 3, 0, [0], [], false), (9, .ireturn, 1, 0, [1], [], false)]
def mo_isList_y : MethodName := ⟨"SpanLayersModel", "isList", "(I)Z"⟩
theorem mo_isList_tb : sl_tbOK sl_R12 prog_14_method_110_code 1 (some .boolean) lk_mo [(119, 1)] mo_isList_cd = true := by decide +kernel
def mo_isList_ct : List sl_Ct := [(3, 1, 0, mo_in_pt)]
theorem mo_isList_hc (g : sl_G) : sl_HC g sl_R12 1 mo_isList_ct [(119, 1)] := sl_HC_cons (cs_mo_119 g (by decide)) (sl_HC_nil g sl_R12 1)
set_option maxRecDepth 20000 in
set_option maxHeartbeats 2000000 in
theorem mo_isList_snd (g : sl_G) : sl_Snd g mo_isList_y prog_14_method_110_code 1 (some .boolean) 1 (mo_isList_pt) := by
  intro As μ Q hw h
  unfold mo_isList_pt at h
  split at h
  next a0 =>
    refine sl_mk2 g [true] (cst := [some (.inl a0)]) (lv0 := [none]) (by decide) rfl hw rfl rfl rfl lk_mo_ok (mo_isList_hc g) mo_isList_tb rfl ?_
    intro X M
    exact ⟨_, sl_VV0, h⟩
  next => exact h.elim
def mo_list_L52 (a1 : Int32) (a2 : Int32) (Q : Int32 → sl_M → Prop) : Nat → Int32 → sl_M → Prop
  | 0, _, _ => False
  | n + 1, x3, μ => (x3 < (40 : Int32) → vp_in (((40 : Int32) * a1) + x3) 160 ∧ ∀ m1, m1 = sl_up μ 137 (((40 : Int32) * a1) + x3).toNatClampNeg (0 : Int32) → (mo_list_L52 a1 a2 Q n) (x3 + (1 : Int32)) m1) ∧ (¬ x3 < (40 : Int32) → Q (1 : Int32) μ)
def mo_list (a1 : Int32) (a2 : Int32) (μ : sl_M) (Q : Int32 → sl_M → Prop) : Prop := ∀ m2, m2 = sl_up μ 104 5 (0 : Int32) → mo_isList a1 m2 (fun r4 m3 => (r4 = (0 : Int32) → Q (-1 : Int32) m3) ∧ (¬ r4 = (0 : Int32) → (a2 ≤ (40 : Int32) → (a2 < (0 : Int32) → (a2 < (0 : Int32) → Q (-14 : Int32) m3) ∧ (¬ a2 < (0 : Int32) → Q (-2 : Int32) m3)) ∧ (¬ a2 < (0 : Int32) → vp_in a1 4 ∧ sl_bz (1 : Int32) = (1 : Int32) ∧ ∀ m5, m5 = sl_up m3 135 a1.toNatClampNeg (1 : Int32) → vp_in a1 4 ∧ ∀ m6, m6 = sl_up m5 136 a1.toNatClampNeg a2 → ∃ n7, mo_list_L52 a1 a2 Q n7 (0 : Int32) m6)) ∧ (¬ a2 ≤ (40 : Int32) → (a2 < (0 : Int32) → Q (-14 : Int32) m3) ∧ (¬ a2 < (0 : Int32) → Q (-2 : Int32) m3))))
def mo_list_pt : sl_PT := fun As μ Q => match As with
  | [.inr (.inr (some (c0, a0))), .inl a1, .inl a2] => if c0 = 12 then (if a0 = 104 then (mo_list a1 a2 μ (fun r μ' => Q (some (.inl r)) μ')) else False) else False
  | _ => False
def mo_list_cd : List sl_Ent := [(0, .aload_n 0, 1, 0, [0], [], false), (1, .iconst 0, 1, 0, [], [], false), (2, .putfield 113, 3, 0, [12, 5, 0], [], false), (5, .iload_n 1, 1, 0, [1], [], false), (6, .invokestatic 425, 3, 0, [0], [], false), (9, .ifCond .ne 5, 3, 0, [14], [], false), (12, .iconst (-1), 1, (-1), [], [], false), (13, .ireturn, 1, 0, [], [], false), (14, .iload_n 2, 1, 0, [2], [], false), (15, .bipush 40, 2, 40, [], [], false), (17, .if_icmp .gt 7, 3, 0, [24], [], false), (20, .iload_n 2, 1, 0, [2], [], false), (21, .ifCond .ge 15, 3, 0, [36], [], false), (24, .iload_n 2, 1, 0, [2], [], false), (25, .ifCond .ge 8, 3, 0, [33], [], false), (28, .bipush (-14), 2, (-14), [], [], false), (30, .goto 5, 3, 0, [35], [], false), (33, .bipush (-2), 2, (-2), [], [], false), (35, .ireturn, 1, 0, [], [], false), (36, .aload_n 0, 1, 0, [0], [], false), (37, .getfield 101, 3, 0, [12, 45, 2, 21, 31], [], false), (40, .iload_n 1, 1, 0, [1], [], false), (41, .iconst 1, 1, 1, [], [], false), (42, .bastore, 1, 0, [], [], false), (43, .aload_n 0, 1, 0, [0], [], false), (44, .getfield 104, 3, 0, [12, 46, 2, 20, 32], [], false), (47, .iload_n 1, 1, 0, [1], [], false), (48, .iload_n 2, 1, 0, [2], [], false), (49, .iastore, 1, 0, [], [], false), (50, .iconst 0, 1, 0, [], [], false), (51, .istore_n 3, 1, 0, [3], [], false), (52, .iload_n 3, 1, 0, [3], [], true), (53, .bipush 40, 2, 40, [], [], false), (55, .if_icmp .ge 21, 3, 0, [76], [], false), (58, .aload_n 0, 1, 0, [0], [], false), (59, .getfield 107, 3, 0, [12, 47, 2, 20, 33], [], false), (62, .bipush 40, 2, 40, [], [], false), (64, .iload_n 1, 1, 0, [1], [], false), (65, .imul, 1, 0, [], [], false), (66, .iload_n 3, 1, 0, [3], [], false), (67, .iadd, 1, 0, [], [], false), (68, .iconst 0, 1, 0, [], [], false), (69, .iastore, 1, 0, [], [], false), (70, .iinc 3 1, 3, 1, [], [], false), (73, .goto (-21), 3, 0, [52], [], false), (76, .iconst 1, 1, 1, [], [], false), (77, .ireturn, 1, 0, [], [], false)]
def mo_list_y : MethodName := ⟨"SpanLayersModel", "list", "(II)I"⟩
theorem mo_list_tb : sl_tbOK sl_R12 prog_14_method_111_code 4 (some .int) lk_mo [(425, 1)] mo_list_cd = true := by decide +kernel
theorem mo_isList_w2 : Cond.static mo_isList_y ∈ sl_T0 := sl_in1 1610 (by decide +kernel) rfl
theorem mo_isList_w4 : Cond.initialized mo_isList_y.cls ∈ sl_T0 := sl_in1 97 (by decide +kernel) rfl
theorem mo_isList_w5 : Cond.code mo_isList_y prog_14_method_110_code 1 (some .boolean) ∈ sl_T0 := sl_in1 1611 (by decide +kernel) rfl
theorem mo_isList_w6 : mo_isList_y.cls ≠ "java/lang/invoke/MethodHandle" ∧ mo_isList_y.cls ≠ "java/lang/invoke/VarHandle" ∧ (parseMethodDescriptor mo_isList_y.desc).map (fun d => d.parameters.length) = some 1 := by decide +kernel
theorem cs_mo_425 (g : sl_G) {hh : Nat} (h : 2 ≤ hh) : sl_CallS g sl_R12 425 1 0 hh 1 mo_isList_pt := sl_callS (y := mo_isList_y) (mo_isList_snd g) h (by decide) (sl_in1 1609 (by decide +kernel) rfl) mo_isList_w2 mo_isList_w4 mo_isList_w5 mo_isList_w6
def mo_list_ct : List sl_Ct := [(1, 1, 0, mo_isList_pt)]
theorem mo_list_hc (g : sl_G) : sl_HC g sl_R12 2 mo_list_ct [(425, 1)] := sl_HC_cons (cs_mo_425 g (by decide)) (sl_HC_nil g sl_R12 2)
set_option maxRecDepth 20000 in
set_option maxHeartbeats 2000000 in
theorem mo_list_snd (g : sl_G) : sl_Snd g mo_list_y prog_14_method_111_code 4 (some .int) 2 (mo_list_pt) := by
  intro As μ Q hw h
  unfold mo_list_pt at h
  split at h
  next c0 a0 a1 a2 =>
    split at h
    next e_ =>
      subst e_
      split at h
      next e_ =>
        subst e_
        refine sl_mk2 g [true, true, true, false] (cst := [some (.inr (.inr (some (12, 104)))), some (.inl a1), some (.inl a2)]) (lv0 := [none, none, none, none]) (by decide) rfl hw rfl rfl rfl lk_mo_ok (mo_list_hc g) mo_list_tb rfl ?_
        intro X M
        have v52 := sl_extL M sl_VV0 52 (fun n lv st μ => match lv, st with | [_, _, _, some (.inl x3)], [] => mo_list_L52 a1 a2 (fun r μ' => Q (some (.inl r)) μ') n x3 μ | _, _ => False) (by
            intro lv st μ h
            split at h
            · exact h
            · exact h) (by
            intro n52 w52
            refine ⟨_, w52, ?_⟩
            intro lv st μ h
            split at h
            · exact h
            · exact h.elim)
        exact ⟨_, v52, h⟩
      next => exact h.elim
    next => exact h.elim
  next => exact h.elim
def mo_set (a1 : Int32) (a2 : Int32) (a3 : Int32) (μ : sl_M) (Q : Int32 → sl_M → Prop) : Prop := ∀ m1, m1 = sl_up μ 104 5 (0 : Int32) → mo_isList a1 m1 (fun r3 m2 => (r3 = (0 : Int32) → mo_isList a1 m2 (fun r5 m4 => (r5 = (0 : Int32) → Q (-1 : Int32) m4) ∧ (¬ r5 = (0 : Int32) → Q (-11 : Int32) m4))) ∧ (¬ r3 = (0 : Int32) → vp_in a1 4 ∧ ((sl_bz (m2 135 a1.toNatClampNeg)) = (0 : Int32) → mo_isList a1 m2 (fun r7 m6 => (r7 = (0 : Int32) → Q (-1 : Int32) m6) ∧ (¬ r7 = (0 : Int32) → Q (-11 : Int32) m6))) ∧ (¬ (sl_bz (m2 135 a1.toNatClampNeg)) = (0 : Int32) → vp_in a1 4 ∧ mo_in a2.toInt64 ((0 : Int32).toInt64) (((m2 136 a1.toNatClampNeg) - (1 : Int32)).toInt64) m2 (fun r9 m8 => (r9 = (0 : Int32) → Q (-13 : Int32) m8) ∧ (¬ r9 = (0 : Int32) → vp_in (((40 : Int32) * a1) + a2) 160 ∧ ∀ m10, m10 = sl_up m8 137 (((40 : Int32) * a1) + a2).toNatClampNeg a3 → Q (1 : Int32) m10)))))
def mo_set_pt : sl_PT := fun As μ Q => match As with
  | [.inr (.inr (some (c0, a0))), .inl a1, .inl a2, .inl a3] => if c0 = 12 then (if a0 = 104 then (mo_set a1 a2 a3 μ (fun r μ' => Q (some (.inl r)) μ')) else False) else False
  | _ => False
def mo_set_cd : List sl_Ent := [(0, .aload_n 0, 1, 0, [0], [], false), (1, .iconst 0, 1, 0, [], [], false), (2, .putfield 113, 3, 0, [12, 5, 0], [], false), (5, .iload_n 1, 1, 0, [1], [], false), (6, .invokestatic 425, 3, 0, [0], [], false), (9, .ifCond .eq 12, 3, 0, [21], [], false), (12, .aload_n 0, 1, 0, [0], [], false), (13, .getfield 101, 3, 0, [12, 45, 2, 21, 31], [], false), (16, .iload_n 1, 1, 0, [1], [], false), (17, .baload, 1, 0, [], [], false), (18, .ifCond .ne 17, 3, 0, [35], [], false), (21, .iload_n 1, 1, 0, [1], [], false), (22, .invokestatic 425, 3, 0, [0], [], false), (25, .ifCond .eq 8, 3, 0, [33], [], false), (28, .bipush (-11), 2, (-11), [], [], false), (30, .goto 4, 3, 0, [34], [], false), (33, .iconst (-1), 1, (-1), [], [], false), (34, .ireturn, 1, 0, [], [], false), (35, .iload_n 2, 1, 0, [2], [], false), (36, .i2l, 1, 0, [], [], false), (37, .lconst 0, 1, 0, [], [], false), (38, .aload_n 0, 1, 0, [0], [], false), (39, .getfield 104, 3, 0, [12, 46, 2, 20, 32], [], false), (42, .iload_n 1, 1, 0, [1], [], false), (43, .iaload, 1, 0, [], [], false), (44, .iconst 1, 1, 1, [], [], false), (45, .isub, 1, 0, [], [], false), (46, .i2l, 1, 0, [], [], false), (47, .invokestatic 119, 3, 0, [1], [], false), (50, .ifCond .ne 6, 3, 0, [56], [], false), (53, .bipush (-13), 2, (-13), [], [], false), (55, .ireturn, 1, 0, [], [], false), (56, .aload_n 0, 1, 0, [0], [], false), (57, .getfield 107, 3, 0, [12, 47, 2, 20, 33], [], false), (60, .bipush 40, 2, 40, [], [], false), (62, .iload_n 1, 1, 0, [1], [], false), (63, .imul, 1, 0, [], [], false), (64, .iload_n 2, 1, 0, [2], [], false), (65, .iadd, 1, 0, [], [], false), (66, .iload_n 3, 1, 0, [3], [], false), (67, .iastore, 1, 0, [], [], false), (68, .iconst 1, 1, 1, [], [], false), (69, .ireturn, 1, 0, [], [], false)]
def mo_set_y : MethodName := ⟨"SpanLayersModel", "set", "(III)I"⟩
theorem mo_set_tb : sl_tbOK sl_R12 prog_14_method_112_code 4 (some .int) lk_mo [(425, 1), (119, 1)] mo_set_cd = true := by decide +kernel
def mo_set_ct : List sl_Ct := [(1, 1, 0, mo_isList_pt), (3, 1, 0, mo_in_pt)]
theorem mo_set_hc (g : sl_G) : sl_HC g sl_R12 2 mo_set_ct [(425, 1), (119, 1)] := sl_HC_cons (cs_mo_425 g (by decide)) (sl_HC_cons (cs_mo_119 g (by decide)) (sl_HC_nil g sl_R12 2))
set_option maxRecDepth 20000 in
set_option maxHeartbeats 2000000 in
theorem mo_set_snd (g : sl_G) : sl_Snd g mo_set_y prog_14_method_112_code 4 (some .int) 2 (mo_set_pt) := by
  intro As μ Q hw h
  unfold mo_set_pt at h
  split at h
  next c0 a0 a1 a2 a3 =>
    split at h
    next e_ =>
      subst e_
      split at h
      next e_ =>
        subst e_
        refine sl_mk2 g [true, true, true, true] (cst := [some (.inr (.inr (some (12, 104)))), some (.inl a1), some (.inl a2), some (.inl a3)]) (lv0 := [none, none, none, none]) (by decide) rfl hw rfl rfl rfl lk_mo_ok (mo_set_hc g) mo_set_tb rfl ?_
        intro X M
        exact ⟨_, sl_VV0, h⟩
      next => exact h.elim
    next => exact h.elim
  next => exact h.elim
def mo_get (a1 : Int32) (a2 : Int32) (μ : sl_M) (Q : Int32 → sl_M → Prop) : Prop := ∀ m1, m1 = sl_up μ 104 5 (0 : Int32) → mo_isList a1 m1 (fun r3 m2 => (r3 = (0 : Int32) → Q (-2000000000 : Int32) m2) ∧ (¬ r3 = (0 : Int32) → vp_in a1 4 ∧ ((sl_bz (m2 135 a1.toNatClampNeg)) = (0 : Int32) → Q (-2000000000 : Int32) m2) ∧ (¬ (sl_bz (m2 135 a1.toNatClampNeg)) = (0 : Int32) → vp_in a1 4 ∧ mo_in a2.toInt64 ((0 : Int32).toInt64) (((m2 136 a1.toNatClampNeg) - (1 : Int32)).toInt64) m2 (fun r5 m4 => (r5 = (0 : Int32) → Q (-2000000000 : Int32) m4) ∧ (¬ r5 = (0 : Int32) → vp_in (((40 : Int32) * a1) + a2) 160 ∧ Q (m4 137 (((40 : Int32) * a1) + a2).toNatClampNeg) m4)))))
def mo_get_pt : sl_PT := fun As μ Q => match As with
  | [.inr (.inr (some (c0, a0))), .inl a1, .inl a2] => if c0 = 12 then (if a0 = 104 then (mo_get a1 a2 μ (fun r μ' => Q (some (.inl r)) μ')) else False) else False
  | _ => False
def mo_get_cd : List sl_Ent := [(0, .aload_n 0, 1, 0, [0], [], false), (1, .iconst 0, 1, 0, [], [], false), (2, .putfield 113, 3, 0, [12, 5, 0], [], false), (5, .iload_n 1, 1, 0, [1], [], false), (6, .invokestatic 425, 3, 0, [0], [], false), (9, .ifCond .eq 44, 3, 0, [53], [], false), (12, .aload_n 0, 1, 0, [0], [], false), (13, .getfield 101, 3, 0, [12, 45, 2, 21, 31], [], false), (16, .iload_n 1, 1, 0, [1], [], false), (17, .baload, 1, 0, [], [], false), (18, .ifCond .eq 35, 3, 0, [53], [], false), (21, .iload_n 2, 1, 0, [2], [], false), (22, .i2l, 1, 0, [], [], false), (23, .lconst 0, 1, 0, [], [], false), (24, .aload_n 0, 1, 0, [0], [], false), (25, .getfield 104, 3, 0, [12, 46, 2, 20, 32], [], false), (28, .iload_n 1, 1, 0, [1], [], false), (29, .iaload, 1, 0, [], [], false), (30, .iconst 1, 1, 1, [], [], false), (31, .isub, 1, 0, [], [], false), (32, .i2l, 1, 0, [], [], false), (33, .invokestatic 119, 3, 0, [1], [], false), (36, .ifCond .eq 17, 3, 0, [53], [], false), (39, .aload_n 0, 1, 0, [0], [], false), (40, .getfield 107, 3, 0, [12, 47, 2, 20, 33], [], false), (43, .bipush 40, 2, 40, [], [], false), (45, .iload_n 1, 1, 0, [1], [], false), (46, .imul, 1, 0, [], [], false), (47, .iload_n 2, 1, 0, [2], [], false), (48, .iadd, 1, 0, [], [], false), (49, .iaload, 1, 0, [], [], false), (50, .goto 6, 3, 0, [56], [], false), (53, .ldc_w 428, 3, (-2000000000), [], [], false), (56, .ireturn, 1, 0, [], [], false)]
def mo_get_y : MethodName := ⟨"SpanLayersModel", "get", "(II)I"⟩
theorem mo_get_tb : sl_tbOK sl_R12 prog_14_method_113_code 3 (some .int) lk_mo [(425, 1), (119, 1)] mo_get_cd = true := by decide +kernel
def mo_get_ct : List sl_Ct := [(1, 1, 0, mo_isList_pt), (3, 1, 0, mo_in_pt)]
theorem mo_get_hc (g : sl_G) : sl_HC g sl_R12 2 mo_get_ct [(425, 1), (119, 1)] := sl_HC_cons (cs_mo_425 g (by decide)) (sl_HC_cons (cs_mo_119 g (by decide)) (sl_HC_nil g sl_R12 2))
set_option maxRecDepth 20000 in
set_option maxHeartbeats 2000000 in
theorem mo_get_snd (g : sl_G) : sl_Snd g mo_get_y prog_14_method_113_code 3 (some .int) 2 (mo_get_pt) := by
  intro As μ Q hw h
  unfold mo_get_pt at h
  split at h
  next c0 a0 a1 a2 =>
    split at h
    next e_ =>
      subst e_
      split at h
      next e_ =>
        subst e_
        refine sl_mk2 g [true, true, true] (cst := [some (.inr (.inr (some (12, 104)))), some (.inl a1), some (.inl a2)]) (lv0 := [none, none, none]) (by decide) rfl hw rfl rfl rfl lk_mo_ok (mo_get_hc g) mo_get_tb rfl ?_
        intro X M
        exact ⟨_, sl_VV0, h⟩
      next => exact h.elim
    next => exact h.elim
  next => exact h.elim
def mo_lay_L52 (a1 : Int32) (a2 : Int32) (a3 : Int32) (Q : Int32 → sl_M → Prop) : Nat → Int32 → Int32 → sl_M → Prop
  | 0, _, _, _ => False
  | n + 1, x4, x5, μ => (x5 < x4 → (a2 < (0 : Int32) → Q (-13 : Int32) μ) ∧ (¬ a2 < (0 : Int32) → vp_in a1 4 ∧ ((lg_cmp (a2.toInt64 + x5.toInt64) (μ 136 a1.toNatClampNeg).toInt64) < (0 : Int32) → vp_in x5 30 ∧ vp_in ((((40 : Int32) * a1) + a2) + x5) 160 ∧ ∀ m1, m1 = sl_up μ 137 ((((40 : Int32) * a1) + a2) + x5).toNatClampNeg (μ 110 x5.toNatClampNeg) → (mo_lay_L52 a1 a2 a3 Q n) x4 (x5 + (1 : Int32)) m1) ∧ (¬ (lg_cmp (a2.toInt64 + x5.toInt64) (μ 136 a1.toNatClampNeg).toInt64) < (0 : Int32) → Q (-13 : Int32) μ))) ∧ (¬ x5 < x4 → Q x4 μ)
def mo_lay (a1 : Int32) (a2 : Int32) (a3 : Int32) (μ : sl_M) (Q : Int32 → sl_M → Prop) : Prop := ∀ m2, m2 = sl_up μ 104 5 (0 : Int32) → mo_isList a1 m2 (fun r4 m3 => (r4 = (0 : Int32) → Q (-1 : Int32) m3) ∧ (¬ r4 = (0 : Int32) → mo_in a3.toInt64 ((0 : Int32).toInt64) ((4 : Int32).toInt64) m3 (fun r6 m5 => (r6 = (0 : Int32) → Q (-1 : Int32) m5) ∧ (¬ r6 = (0 : Int32) → vp_in a1 4 ∧ ((sl_bz (m5 135 a1.toNatClampNeg)) = (0 : Int32) → Q (-11 : Int32) m5) ∧ (¬ (sl_bz (m5 135 a1.toNatClampNeg)) = (0 : Int32) → mo_layOrder a3 m5 (fun m7 => mo_manyIn m7 (fun r9 m8 => ∃ n10, mo_lay_L52 a1 a2 a3 Q n10 r9 (0 : Int32) m8)))))))
def mo_lay_pt : sl_PT := fun As μ Q => match As with
  | [.inr (.inr (some (c0, a0))), .inl a1, .inl a2, .inl a3] => if c0 = 12 then (if a0 = 104 then (mo_lay a1 a2 a3 μ (fun r μ' => Q (some (.inl r)) μ')) else False) else False
  | _ => False
def mo_lay_cd : List sl_Ent := [(0, .aload_n 0, 1, 0, [0], [], false), (1, .iconst 0, 1, 0, [], [], false), (2, .putfield 113, 3, 0, [12, 5, 0], [], false), (5, .iload_n 1, 1, 0, [1], [], false), (6, .invokestatic 425, 3, 0, [0], [], false), (9, .ifCond .eq 15, 3, 0, [24], [], false), (12, .iload_n 3, 1, 0, [3], [], false), (13, .i2l, 1, 0, [], [], false), (14, .lconst 0, 1, 0, [], [], false), (15, .ldc2_w 216, 3, 4, [], [], false), (18, .invokestatic 119, 3, 0, [1], [], false), (21, .ifCond .ne 5, 3, 0, [26], [], false), (24, .iconst (-1), 1, (-1), [], [], false), (25, .ireturn, 1, 0, [], [], false), (26, .aload_n 0, 1, 0, [0], [], false), (27, .getfield 101, 3, 0, [12, 45, 2, 21, 31], [], false), (30, .iload_n 1, 1, 0, [1], [], false), (31, .baload, 1, 0, [], [], false), (32, .ifCond .ne 6, 3, 0, [38], [], false), (35, .bipush (-11), 2, (-11), [], [], false), (37, .ireturn, 1, 0, [], [], false), (38, .aload_n 0, 1, 0, [0], [], false), (39, .iload_n 3, 1, 0, [3], [], false), (40, .invokevirtual 204, 3, 0, [2], [], false), (43, .aload_n 0, 1, 0, [0], [], false), (44, .invokevirtual 184, 3, 0, [3], [], false), (47, .istore 4, 2, 0, [4], [], false), (49, .iconst 0, 1, 0, [], [], false), (50, .istore 5, 2, 0, [5], [], false), (52, .iload 5, 2, 0, [5], [], true), (54, .iload 4, 2, 0, [4], [], false), (56, .if_icmp .ge 54, 3, 0, [110], [], false), (59, .iload_n 2, 1, 0, [2], [], false), (60, .ifCond .lt 20, 3, 0, [80], [], false), (63, .iload_n 2, 1, 0, [2], [], false), (64, .i2l, 1, 0, [], [], false), (65, .iload 5, 2, 0, [5], [], false), (67, .i2l, 1, 0, [], [], false), (68, .ladd, 1, 0, [], [], false), (69, .aload_n 0, 1, 0, [0], [], false), (70, .getfield 104, 3, 0, [12, 46, 2, 20, 32], [], false), (73, .iload_n 1, 1, 0, [1], [], false), (74, .iaload, 1, 0, [], [], false), (75, .i2l, 1, 0, [], [], false), (76, .lcmp, 1, 0, [], [], false), (77, .ifCond .lt 6, 3, 0, [83], [], false), (80, .bipush (-13), 2, (-13), [], [], false), (82, .ireturn, 1, 0, [], [], false), (83, .aload_n 0, 1, 0, [0], [], false), (84, .getfield 107, 3, 0, [12, 47, 2, 20, 33], [], false), (87, .bipush 40, 2, 40, [], [], false), (89, .iload_n 1, 1, 0, [1], [], false), (90, .imul, 1, 0, [], [], false), (91, .iload_n 2, 1, 0, [2], [], false), (92, .iadd, 1, 0, [], [], false), (93, .iload 5, 2, 0, [5], [], false), (95, .iadd, 1, 0, [], [], false), (96, .aload_n 0, 1, 0, [0], [], false), (97, .getfield 25, 3, 0, [12, 6, 2, 20, 6], [], false), (100, .iload 5, 2, 0, [5], [], false), (102, .iaload, 1, 0, [], [], false), (103, .iastore, 1, 0, [], [], false), (104, .iinc 5 1, 3, 1, [], [], false), (107, .goto (-55), 3, 0, [52], [], false), (110, .iload 4, 2, 0, [4], [], false), (112, .ireturn, 1, 0, [], [], false)]
def mo_lay_y : MethodName := ⟨"SpanLayersModel", "lay", "(III)I"⟩
theorem mo_lay_tb : sl_tbOK sl_R12 prog_14_method_114_code 6 (some .int) lk_mo [(425, 1), (119, 1), (204, 0), (184, 0)] mo_lay_cd = true := by decide +kernel
def mo_lay_ct : List sl_Ct := [(1, 1, 0, mo_isList_pt), (3, 1, 0, mo_in_pt), (2, 0, 12, mo_layOrder_pt), (1, 0, 12, mo_manyIn_pt)]
theorem mo_lay_hc (g : sl_G) : sl_HC g sl_R12 5 mo_lay_ct [(425, 1), (119, 1), (204, 0), (184, 0)] := sl_HC_cons (cs_mo_425 g (by decide)) (sl_HC_cons (cs_mo_119 g (by decide)) (sl_HC_cons (cs_mo_204 g (by decide)) (sl_HC_cons (cs_mo_184 g (by decide)) (sl_HC_nil g sl_R12 5))))
set_option maxRecDepth 20000 in
set_option maxHeartbeats 2000000 in
theorem mo_lay_snd (g : sl_G) : sl_Snd g mo_lay_y prog_14_method_114_code 6 (some .int) 5 (mo_lay_pt) := by
  intro As μ Q hw h
  unfold mo_lay_pt at h
  split at h
  next c0 a0 a1 a2 a3 =>
    split at h
    next e_ =>
      subst e_
      split at h
      next e_ =>
        subst e_
        refine sl_mk2 g [true, true, true, true, false, false] (cst := [some (.inr (.inr (some (12, 104)))), some (.inl a1), some (.inl a2), some (.inl a3)]) (lv0 := [none, none, none, none, none, none]) (by decide) rfl hw rfl rfl rfl lk_mo_ok (mo_lay_hc g) mo_lay_tb rfl ?_
        intro X M
        have v52 := sl_extL M sl_VV0 52 (fun n lv st μ => match lv, st with | [_, _, _, _, some (.inl x4), some (.inl x5)], [] => mo_lay_L52 a1 a2 a3 (fun r μ' => Q (some (.inl r)) μ') n x4 x5 μ | _, _ => False) (by
            intro lv st μ h
            split at h
            · exact h
            · exact h) (by
            intro n52 w52
            refine ⟨_, w52, ?_⟩
            intro lv st μ h
            split at h
            · exact h
            · exact h.elim)
        exact ⟨_, v52, h⟩
      next => exact h.elim
    next => exact h.elim
  next => exact h.elim
def mo_judge_L46 (a1 : Int32) (a2 : Int32) (a3 : Int32) (Q : Int32 → sl_M → Prop) : Nat → Int32 → sl_M → Prop
  | 0, _, _ => False
  | n + 1, x4, μ => mo_manyIn μ (fun r2 m1 => (x4 < r2 → (a2 < (0 : Int32) → Q ((100 : Int32) + x4) m1) ∧ (¬ a2 < (0 : Int32) → vp_in a1 4 ∧ ((lg_cmp (a2.toInt64 + x4.toInt64) (m1 136 a1.toNatClampNeg).toInt64) < (0 : Int32) → vp_in ((((40 : Int32) * a1) + a2) + x4) 160 ∧ vp_in x4 30 ∧ ((m1 137 ((((40 : Int32) * a1) + a2) + x4).toNatClampNeg) = (m1 110 x4.toNatClampNeg) → (mo_judge_L46 a1 a2 a3 Q n) (x4 + (1 : Int32)) m1) ∧ (¬ (m1 137 ((((40 : Int32) * a1) + a2) + x4).toNatClampNeg) = (m1 110 x4.toNatClampNeg) → Q x4 m1)) ∧ (¬ (lg_cmp (a2.toInt64 + x4.toInt64) (m1 136 a1.toNatClampNeg).toInt64) < (0 : Int32) → Q ((100 : Int32) + x4) m1))) ∧ (¬ x4 < r2 → Q (-5 : Int32) m1))
def mo_judge (a1 : Int32) (a2 : Int32) (a3 : Int32) (μ : sl_M) (Q : Int32 → sl_M → Prop) : Prop := ∀ m3, m3 = sl_up μ 104 5 (0 : Int32) → mo_isList a1 m3 (fun r5 m4 => (r5 = (0 : Int32) → Q (-1 : Int32) m4) ∧ (¬ r5 = (0 : Int32) → mo_in a3.toInt64 ((0 : Int32).toInt64) ((4 : Int32).toInt64) m4 (fun r7 m6 => (r7 = (0 : Int32) → Q (-1 : Int32) m6) ∧ (¬ r7 = (0 : Int32) → vp_in a1 4 ∧ ((sl_bz (m6 135 a1.toNatClampNeg)) = (0 : Int32) → Q (-11 : Int32) m6) ∧ (¬ (sl_bz (m6 135 a1.toNatClampNeg)) = (0 : Int32) → mo_layOrder a3 m6 (fun m8 => ∃ n9, mo_judge_L46 a1 a2 a3 Q n9 (0 : Int32) m8))))))
def mo_judge_pt : sl_PT := fun As μ Q => match As with
  | [.inr (.inr (some (c0, a0))), .inl a1, .inl a2, .inl a3] => if c0 = 12 then (if a0 = 104 then (mo_judge a1 a2 a3 μ (fun r μ' => Q (some (.inl r)) μ')) else False) else False
  | _ => False
def mo_judge_cd : List sl_Ent := [(0, .aload_n 0, 1, 0, [0], [], false), (1, .iconst 0, 1, 0, [], [], false), (2, .putfield 113, 3, 0, [12, 5, 0], [], false), (5, .iload_n 1, 1, 0, [1], [], false), (6, .invokestatic 425, 3, 0, [0], [], false), (9, .ifCond .eq 15, 3, 0, [24], [], false), (12, .iload_n 3, 1, 0, [3], [], false), (13, .i2l, 1, 0, [], [], false), (14, .lconst 0, 1, 0, [], [], false), (15, .ldc2_w 216, 3, 4, [], [], false), (18, .invokestatic 119, 3, 0, [1], [], false), (21, .ifCond .ne 5, 3, 0, [26], [], false), (24, .iconst (-1), 1, (-1), [], [], false), (25, .ireturn, 1, 0, [], [], false), (26, .aload_n 0, 1, 0, [0], [], false), (27, .getfield 101, 3, 0, [12, 45, 2, 21, 31], [], false), (30, .iload_n 1, 1, 0, [1], [], false), (31, .baload, 1, 0, [], [], false), (32, .ifCond .ne 6, 3, 0, [38], [], false), (35, .bipush (-11), 2, (-11), [], [], false), (37, .ireturn, 1, 0, [], [], false), (38, .aload_n 0, 1, 0, [0], [], false), (39, .iload_n 3, 1, 0, [3], [], false), (40, .invokevirtual 204, 3, 0, [2], [], false), (43, .iconst 0, 1, 0, [], [], false), (44, .istore 4, 2, 0, [4], [], false), (46, .iload 4, 2, 0, [4], [], true), (48, .aload_n 0, 1, 0, [0], [], false), (49, .invokevirtual 184, 3, 0, [3], [], false), (52, .if_icmp .ge 63, 3, 0, [115], [], false), (55, .iload_n 2, 1, 0, [2], [], false), (56, .ifCond .lt 20, 3, 0, [76], [], false), (59, .iload_n 2, 1, 0, [2], [], false), (60, .i2l, 1, 0, [], [], false), (61, .iload 4, 2, 0, [4], [], false), (63, .i2l, 1, 0, [], [], false), (64, .ladd, 1, 0, [], [], false), (65, .aload_n 0, 1, 0, [0], [], false), (66, .getfield 104, 3, 0, [12, 46, 2, 20, 32], [], false), (69, .iload_n 1, 1, 0, [1], [], false), (70, .iaload, 1, 0, [], [], false), (71, .i2l, 1, 0, [], [], false), (72, .lcmp, 1, 0, [], [], false), (73, .ifCond .lt 9, 3, 0, [82], [], false), (76, .bipush 100, 2, 100, [], [], false), (78, .iload 4, 2, 0, [4], [], false), (80, .iadd, 1, 0, [], [], false), (81, .ireturn, 1, 0, [], [], false), (82, .aload_n 0, 1, 0, [0], [], false), (83, .getfield 107, 3, 0, [12, 47, 2, 20, 33], [], false), (86, .bipush 40, 2, 40, [], [], false), (88, .iload_n 1, 1, 0, [1], [], false), (89, .imul, 1, 0, [], [], false), (90, .iload_n 2, 1, 0, [2], [], false), (91, .iadd, 1, 0, [], [], false), (92, .iload 4, 2, 0, [4], [], false), (94, .iadd, 1, 0, [], [], false), (95, .iaload, 1, 0, [], [], false), (96, .aload_n 0, 1, 0, [0], [], false), (97, .getfield 25, 3, 0, [12, 6, 2, 20, 6], [], false), (100, .iload 4, 2, 0, [4], [], false), (102, .iaload, 1, 0, [], [], false), (103, .if_icmp .eq 6, 3, 0, [109], [], false), (106, .iload 4, 2, 0, [4], [], false), (108, .ireturn, 1, 0, [], [], false), (109, .iinc 4 1, 3, 1, [], [], false), (112, .goto (-66), 3, 0, [46], [], false), (115, .bipush (-5), 2, (-5), [], [], false), (117, .ireturn, 1, 0, [], [], false)]
def mo_judge_y : MethodName := ⟨"SpanLayersModel", "judge", "(III)I"⟩
theorem mo_judge_tb : sl_tbOK sl_R12 prog_14_method_115_code 5 (some .int) lk_mo [(425, 1), (119, 1), (204, 0), (184, 0)] mo_judge_cd = true := by decide +kernel
def mo_judge_ct : List sl_Ct := [(1, 1, 0, mo_isList_pt), (3, 1, 0, mo_in_pt), (2, 0, 12, mo_layOrder_pt), (1, 0, 12, mo_manyIn_pt)]
theorem mo_judge_hc (g : sl_G) : sl_HC g sl_R12 5 mo_judge_ct [(425, 1), (119, 1), (204, 0), (184, 0)] := sl_HC_cons (cs_mo_425 g (by decide)) (sl_HC_cons (cs_mo_119 g (by decide)) (sl_HC_cons (cs_mo_204 g (by decide)) (sl_HC_cons (cs_mo_184 g (by decide)) (sl_HC_nil g sl_R12 5))))
set_option maxRecDepth 20000 in
set_option maxHeartbeats 2000000 in
theorem mo_judge_snd (g : sl_G) : sl_Snd g mo_judge_y prog_14_method_115_code 5 (some .int) 5 (mo_judge_pt) := by
  intro As μ Q hw h
  unfold mo_judge_pt at h
  split at h
  next c0 a0 a1 a2 a3 =>
    split at h
    next e_ =>
      subst e_
      split at h
      next e_ =>
        subst e_
        refine sl_mk2 g [true, true, true, true, false] (cst := [some (.inr (.inr (some (12, 104)))), some (.inl a1), some (.inl a2), some (.inl a3)]) (lv0 := [none, none, none, none, none]) (by decide) rfl hw rfl rfl rfl lk_mo_ok (mo_judge_hc g) mo_judge_tb rfl ?_
        intro X M
        have v46 := sl_extL M sl_VV0 46 (fun n lv st μ => match lv, st with | [_, _, _, _, some (.inl x4)], [] => mo_judge_L46 a1 a2 a3 (fun r μ' => Q (some (.inl r)) μ') n x4 μ | _, _ => False) (by
            intro lv st μ h
            split at h
            · exact h
            · exact h) (by
            intro n46 w46
            refine ⟨_, w46, ?_⟩
            intro lv st μ h
            split at h
            · exact h
            · exact h.elim)
        exact ⟨_, v46, h⟩
      next => exact h.elim
    next => exact h.elim
  next => exact h.elim
def mo_image_L12 (Q : Int32 → sl_M → Prop) : Nat → Int32 → sl_M → Prop
  | 0, _, _ => False
  | n + 1, x1, μ => (x1 < (30 : Int32) → vp_in x1 30 ∧ vp_in x1 120 ∧ ∀ m1, m1 = sl_up μ 138 x1.toNatClampNeg (μ 105 x1.toNatClampNeg) → vp_in x1 30 ∧ vp_in ((30 : Int32) + x1) 120 ∧ ∀ m2, m2 = sl_up m1 138 ((30 : Int32) + x1).toNatClampNeg (m1 106 x1.toNatClampNeg) → vp_in x1 30 ∧ vp_in ((60 : Int32) + x1) 120 ∧ ∀ m3, m3 = sl_up m2 138 ((60 : Int32) + x1).toNatClampNeg (m2 107 x1.toNatClampNeg) → vp_in x1 30 ∧ vp_in ((90 : Int32) + x1) 120 ∧ ∀ m4, m4 = sl_up m3 138 ((90 : Int32) + x1).toNatClampNeg (m3 108 x1.toNatClampNeg) → (mo_image_L12 Q n) (x1 + (1 : Int32)) m4) ∧ (¬ x1 < (30 : Int32) → mo_manyIn μ (fun r6 m5 => Q r6 m5))
def mo_image (μ : sl_M) (Q : Int32 → sl_M → Prop) : Prop := ∀ m7, m7 = sl_up μ 104 5 (0 : Int32) → sl_bz (1 : Int32) = (1 : Int32) ∧ ∀ m8, m8 = sl_up m7 104 48 (1 : Int32) → ∃ n9, mo_image_L12 Q n9 (0 : Int32) m8
def mo_image_pt : sl_PT := fun As μ Q => match As with
  | [.inr (.inr (some (c0, a0)))] => if c0 = 12 then (if a0 = 104 then (mo_image μ (fun r μ' => Q (some (.inl r)) μ')) else False) else False
  | _ => False
def mo_image_cd : List sl_Ent := [(0, .aload_n 0, 1, 0, [0], [], false), (1, .iconst 0, 1, 0, [], [], false), (2, .putfield 113, 3, 0, [12, 5, 0], [], false), (5, .aload_n 0, 1, 0, [0], [], false), (6, .iconst 1, 1, 1, [], [], false), (7, .putfield 429, 3, 0, [12, 48, 1], [], false), (10, .iconst 0, 1, 0, [], [], false), (11, .istore_n 1, 1, 0, [1], [], false), (12, .iload_n 1, 1, 0, [1], [], true), (13, .bipush 30, 2, 30, [], [], false), (15, .if_icmp .ge 66, 3, 0, [81], [], false), (18, .aload_n 0, 1, 0, [0], [], false), (19, .getfield 110, 3, 0, [12, 49, 2, 20, 34], [], false), (22, .iload_n 1, 1, 0, [1], [], false), (23, .aload_n 0, 1, 0, [0], [], false), (24, .getfield 7, 3, 0, [12, 0, 2, 20, 1], [], false), (27, .iload_n 1, 1, 0, [1], [], false), (28, .iaload, 1, 0, [], [], false), (29, .iastore, 1, 0, [], [], false), (30, .aload_n 0, 1, 0, [0], [], false), (31, .getfield 110, 3, 0, [12, 49, 2, 20, 34], [], false), (34, .bipush 30, 2, 30, [], [], false), (36, .iload_n 1, 1, 0, [1], [], false), (37, .iadd, 1, 0, [], [], false), (38, .aload_n 0, 1, 0, [0], [], false), (39, .getfield 13, 3, 0, [12, 1, 2, 20, 2], [], false), (42, .iload_n 1, 1, 0, [1], [], false), (43, .iaload, 1, 0, [], [], false), (44, .iastore, 1, 0, [], [], false), (45, .aload_n 0, 1, 0, [0], [], false), (46, .getfield 110, 3, 0, [12, 49, 2, 20, 34], [], false), (49, .bipush 60, 2, 60, [], [], false), (51, .iload_n 1, 1, 0, [1], [], false), (52, .iadd, 1, 0, [], [], false), (53, .aload_n 0, 1, 0, [0], [], false), (54, .getfield 16, 3, 0, [12, 2, 2, 20, 3], [], false), (57, .iload_n 1, 1, 0, [1], [], false), (58, .iaload, 1, 0, [], [], false), (59, .iastore, 1, 0, [], [], false), (60, .aload_n 0, 1, 0, [0], [], false), (61, .getfield 110, 3, 0, [12, 49, 2, 20, 34], [], false), (64, .bipush 90, 2, 90, [], [], false), (66, .iload_n 1, 1, 0, [1], [], false), (67, .iadd, 1, 0, [], [], false), (68, .aload_n 0, 1, 0, [0], [], false), (69, .getfield 19, 3, 0, [12, 3, 2, 20, 4], [], false), (72, .iload_n 1, 1, 0, [1], [], false), (73, .iaload, 1, 0, [], [], false), (74, .iastore, 1, 0, [], [], false), (75, .iinc 1 1, 3, 1, [], [], false), (78, .goto (-66), 3, 0, [12], [], false), (81, .aload_n 0, 1, 0, [0], [], false), (82, .invokevirtual 184, 3, 0, [0], [], false), (85, .ireturn, 1, 0, [], [], false)]
def mo_image_y : MethodName := ⟨"SpanLayersModel", "image", "()I"⟩
theorem mo_image_tb : sl_tbOK sl_R12 prog_14_method_116_code 2 (some .int) lk_mo [(184, 0)] mo_image_cd = true := by decide +kernel
def mo_image_ct : List sl_Ct := [(1, 0, 12, mo_manyIn_pt)]
theorem mo_image_hc (g : sl_G) : sl_HC g sl_R12 1 mo_image_ct [(184, 0)] := sl_HC_cons (cs_mo_184 g (by decide)) (sl_HC_nil g sl_R12 1)
set_option maxRecDepth 20000 in
set_option maxHeartbeats 2000000 in
theorem mo_image_snd (g : sl_G) : sl_Snd g mo_image_y prog_14_method_116_code 2 (some .int) 1 (mo_image_pt) := by
  intro As μ Q hw h
  unfold mo_image_pt at h
  split at h
  next c0 a0 =>
    split at h
    next e_ =>
      subst e_
      split at h
      next e_ =>
        subst e_
        refine sl_mk2 g [true, false] (cst := [some (.inr (.inr (some (12, 104))))]) (lv0 := [none, none]) (by decide) rfl hw rfl rfl rfl lk_mo_ok (mo_image_hc g) mo_image_tb rfl ?_
        intro X M
        have v12 := sl_extL M sl_VV0 12 (fun n lv st μ => match lv, st with | [_, some (.inl x1)], [] => mo_image_L12 (fun r μ' => Q (some (.inl r)) μ') n x1 μ | _, _ => False) (by
            intro lv st μ h
            split at h
            · exact h
            · exact h) (by
            intro n12 w12
            refine ⟨_, w12, ?_⟩
            intro lv st μ h
            split at h
            · exact h
            · exact h.elim)
        exact ⟨_, v12, h⟩
      next => exact h.elim
    next => exact h.elim
  next => exact h.elim
def mo_undo_L88 (Q : Int32 → sl_M → Prop) : Nat → Int32 → sl_M → Prop
  | 0, _, _ => False
  | n + 1, x1, μ => (x1 < (3 : Int32) → vp_in x1 3 ∧ ∀ m6, m6 = sl_up μ 111 x1.toNatClampNeg (-1 : Int32) → (mo_undo_L88 Q n) (x1 + (1 : Int32)) m6) ∧ (¬ x1 < (3 : Int32) → mo_manyIn μ (fun r8 m7 => Q r8 m7))
def mo_undo_L17 (Q : Int32 → sl_M → Prop) : Nat → Int32 → sl_M → Prop
  | 0, _, _ => False
  | n + 1, x1, μ => (x1 < (30 : Int32) → vp_in x1 120 ∧ vp_in x1 30 ∧ ∀ m1, m1 = sl_up μ 105 x1.toNatClampNeg (μ 138 x1.toNatClampNeg) → vp_in ((30 : Int32) + x1) 120 ∧ vp_in x1 30 ∧ ∀ m2, m2 = sl_up m1 106 x1.toNatClampNeg (m1 138 ((30 : Int32) + x1).toNatClampNeg) → vp_in ((60 : Int32) + x1) 120 ∧ vp_in x1 30 ∧ ∀ m3, m3 = sl_up m2 107 x1.toNatClampNeg (m2 138 ((60 : Int32) + x1).toNatClampNeg) → vp_in ((90 : Int32) + x1) 120 ∧ vp_in x1 30 ∧ ∀ m4, m4 = sl_up m3 108 x1.toNatClampNeg (m3 138 ((90 : Int32) + x1).toNatClampNeg) → (mo_undo_L17 Q n) (x1 + (1 : Int32)) m4) ∧ (¬ x1 < (30 : Int32) → ∃ n5, mo_undo_L88 Q n5 (0 : Int32) μ)
def mo_undo (μ : sl_M) (Q : Int32 → sl_M → Prop) : Prop := ∀ m9, m9 = sl_up μ 104 5 (0 : Int32) → ((sl_bz (m9 104 48)) = (0 : Int32) → Q (-3 : Int32) m9) ∧ (¬ (sl_bz (m9 104 48)) = (0 : Int32) → ∃ n10, mo_undo_L17 Q n10 (0 : Int32) m9)
def mo_undo_pt : sl_PT := fun As μ Q => match As with
  | [.inr (.inr (some (c0, a0)))] => if c0 = 12 then (if a0 = 104 then (mo_undo μ (fun r μ' => Q (some (.inl r)) μ')) else False) else False
  | _ => False
def mo_undo_cd : List sl_Ent := [(0, .aload_n 0, 1, 0, [0], [], false), (1, .iconst 0, 1, 0, [], [], false), (2, .putfield 113, 3, 0, [12, 5, 0], [], false), (5, .aload_n 0, 1, 0, [0], [], false), (6, .getfield 429, 3, 0, [12, 48, 1, 0, 0], [], false), (9, .ifCond .ne 6, 3, 0, [15], [], false), (12, .bipush (-3), 2, (-3), [], [], false), (14, .ireturn, 1, 0, [], [], false), (15, .iconst 0, 1, 0, [], [], false), (16, .istore_n 1, 1, 0, [1], [], false), (17, .iload_n 1, 1, 0, [1], [], true), (18, .bipush 30, 2, 30, [], [], false), (20, .if_icmp .ge 66, 3, 0, [86], [], false), (23, .aload_n 0, 1, 0, [0], [], false), (24, .getfield 7, 3, 0, [12, 0, 2, 20, 1], [], false), (27, .iload_n 1, 1, 0, [1], [], false), (28, .aload_n 0, 1, 0, [0], [], false), (29, .getfield 110, 3, 0, [12, 49, 2, 20, 34], [], false), (32, .iload_n 1, 1, 0, [1], [], false), (33, .iaload, 1, 0, [], [], false), (34, .iastore, 1, 0, [], [], false), (35, .aload_n 0, 1, 0, [0], [], false), (36, .getfield 13, 3, 0, [12, 1, 2, 20, 2], [], false), (39, .iload_n 1, 1, 0, [1], [], false), (40, .aload_n 0, 1, 0, [0], [], false), (41, .getfield 110, 3, 0, [12, 49, 2, 20, 34], [], false), (44, .bipush 30, 2, 30, [], [], false), (46, .iload_n 1, 1, 0, [1], [], false), (47, .iadd, 1, 0, [], [], false), (48, .iaload, 1, 0, [], [], false), (49, .iastore, 1, 0, [], [], false), (50, .aload_n 0, 1, 0, [0], [], false), (51, .getfield 16, 3, 0, [12, 2, 2, 20, 3], [], false), (54, .iload_n 1, 1, 0, [1], [], false), (55, .aload_n 0, 1, 0, [0], [], false), (56, .getfield 110, 3, 0, [12, 49, 2, 20, 34], [], false), (59, .bipush 60, 2, 60, [], [], false), (61, .iload_n 1, 1, 0, [1], [], false), (62, .iadd, 1, 0, [], [], false), (63, .iaload, 1, 0, [], [], false), (64, .iastore, 1, 0, [], [], false), (65, .aload_n 0, 1, 0, [0], [], false), (66, .getfield 19, 3, 0, [12, 3, 2, 20, 4], [], false), (69, .iload_n 1, 1, 0, [1], [], false), (70, .aload_n 0, 1, 0, [0], [], false), (71, .getfield 110, 3, 0, [12, 49, 2, 20, 34], [], false), (74, .bipush 90, 2, 90, [], [], false), (76, .iload_n 1, 1, 0, [1], [], false), (77, .iadd, 1, 0, [], [], false), (78, .iaload, 1, 0, [], [], false), (79, .iastore, 1, 0, [], [], false), (80, .iinc 1 1, 3, 1, [], [], false), (83, .goto (-66), 3, 0, [17], [], false), (86, .iconst 0, 1, 0, [], [], false), (87, .istore_n 1, 1, 0, [1], [], false), (88, .iload_n 1, 1, 0, [1], [], true), (89, .iconst 3, 1, 3, [], [], false), (90, .if_icmp .ge 16, 3, 0, [106], [], false), (93, .aload_n 0, 1, 0, [0], [], false), (94, .getfield 28, 3, 0, [12, 7, 2, 20, 7], [], false), (97, .iload_n 1, 1, 0, [1], [], false), (98, .iconst (-1), 1, (-1), [], [], false), (99, .iastore, 1, 0, [], [], false), (100, .iinc 1 1, 3, 1, [], [], false), (103, .goto (-15), 3, 0, [88], [], false), (106, .aload_n 0, 1, 0, [0], [], false), (107, .invokevirtual 184, 3, 0, [0], [], false), (110, .ireturn, 1, 0, [], [], false)]
def mo_undo_y : MethodName := ⟨"SpanLayersModel", "undo", "()I"⟩
theorem mo_undo_tb : sl_tbOK sl_R12 prog_14_method_117_code 2 (some .int) lk_mo [(184, 0)] mo_undo_cd = true := by decide +kernel
def mo_undo_ct : List sl_Ct := [(1, 0, 12, mo_manyIn_pt)]
theorem mo_undo_hc (g : sl_G) : sl_HC g sl_R12 1 mo_undo_ct [(184, 0)] := sl_HC_cons (cs_mo_184 g (by decide)) (sl_HC_nil g sl_R12 1)
set_option maxRecDepth 20000 in
set_option maxHeartbeats 2000000 in
theorem mo_undo_snd (g : sl_G) : sl_Snd g mo_undo_y prog_14_method_117_code 2 (some .int) 1 (mo_undo_pt) := by
  intro As μ Q hw h
  unfold mo_undo_pt at h
  split at h
  next c0 a0 =>
    split at h
    next e_ =>
      subst e_
      split at h
      next e_ =>
        subst e_
        refine sl_mk2 g [true, false] (cst := [some (.inr (.inr (some (12, 104))))]) (lv0 := [none, none]) (by decide) rfl hw rfl rfl rfl lk_mo_ok (mo_undo_hc g) mo_undo_tb rfl ?_
        intro X M
        have v88 := sl_extL M sl_VV0 88 (fun n lv st μ => match lv, st with | [_, some (.inl x1)], [] => mo_undo_L88 (fun r μ' => Q (some (.inl r)) μ') n x1 μ | _, _ => False) (by
            intro lv st μ h
            split at h
            · exact h
            · exact h) (by
            intro n88 w88
            refine ⟨_, w88, ?_⟩
            intro lv st μ h
            split at h
            · exact h
            · exact h.elim)
        have v17 := sl_extL M v88 17 (fun n lv st μ => match lv, st with | [_, some (.inl x1)], [] => mo_undo_L17 (fun r μ' => Q (some (.inl r)) μ') n x1 μ | _, _ => False) (by
            intro lv st μ h
            split at h
            · exact h
            · exact h) (by
            intro n17 w17
            refine ⟨_, w17, ?_⟩
            intro lv st μ h
            split at h
            · exact h
            · exact h.elim)
        exact ⟨_, v17, h⟩
      next => exact h.elim
    next => exact h.elim
  next => exact h.elim
