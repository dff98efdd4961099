def it_bitCount_B48 (Q : Int32 → sl_M → Prop) : Int32 → sl_M → Prop
  | x0, μ => Q (x0 &&& (63 : Int32)) μ
def it_bitCount_B41 (Q : Int32 → sl_M → Prop) : Int32 → sl_M → Prop
  | x0, μ => it_bitCount_B48 Q (x0 + (x0.toUInt32 >>> ((16 : Int32).toUInt32 &&& Int32.toUInt32 31)).toInt32) μ
def it_bitCount_B34 (Q : Int32 → sl_M → Prop) : Int32 → sl_M → Prop
  | x0, μ => it_bitCount_B41 Q (x0 + (x0.toUInt32 >>> ((8 : Int32).toUInt32 &&& Int32.toUInt32 31)).toInt32) μ
def it_bitCount_B24 (Q : Int32 → sl_M → Prop) : Int32 → sl_M → Prop
  | x0, μ => it_bitCount_B34 Q ((x0 + (x0.toUInt32 >>> ((4 : Int32).toUInt32 &&& Int32.toUInt32 31)).toInt32) &&& (252645135 : Int32)) μ
def it_bitCount_B10 (Q : Int32 → sl_M → Prop) : Int32 → sl_M → Prop
  | x0, μ => it_bitCount_B24 Q ((x0 &&& (858993459 : Int32)) + ((x0.toUInt32 >>> ((2 : Int32).toUInt32 &&& Int32.toUInt32 31)).toInt32 &&& (858993459 : Int32))) μ
def it_bitCount (a0 : Int32) (μ : sl_M) (Q : Int32 → sl_M → Prop) : Prop := it_bitCount_B10 Q (a0 - ((a0.toUInt32 >>> ((1 : Int32).toUInt32 &&& Int32.toUInt32 31)).toInt32 &&& (1431655765 : Int32))) μ
def it_bitCount_pt : sl_PT := fun As μ Q => match As with
  | [.inl a0] => it_bitCount a0 μ (fun r μ' => Q (some (.inl r)) μ')
  | _ => False
def it_bitCount_cd : List sl_Ent := [(0, .iload_n 0, 1, 0, [0], [], false), (1, .iload_n 0, 1, 0, [0], [], false), (2, .iconst 1, 1, 1, [], [], false), (3, .iushr, 1, 0, [], [], false), (4, .ldc_w 265, 3, 1431655765, [], [], false), (7, .iand, 1, 0, [], [], false), (8, .isub, 1, 0, [], [], false), (9, .istore_n 0, 1, 0, [0], [], false), (10, .iload_n 0, 1, 0, [0], [], true), (11, .ldc_w 266, 3, 858993459, [], [], false), (14, .iand, 1, 0, [], [], false), (15, .iload_n 0, 1, 0, [0], [], false), (16, .iconst 2, 1, 2, [], [], false), (17, .iushr, 1, 0, [], [], false), (18, .ldc_w 266, 3, 858993459, [], [], false), (21, .iand, 1, 0, [], [], false), (22, .iadd, 1, 0, [], [], false), (23, .istore_n 0, 1, 0, [0], [], false), (24, .iload_n 0, 1, 0, [0], [], true), (25, .iload_n 0, 1, 0, [0], [], false), (26, .iconst 4, 1, 4, [], [], false), (27, .iushr, 1, 0, [], [], false), (28, .iadd, 1, 0, [], [], false), (29, .ldc_w 267, 3, 252645135, [], [], false), (32, .iand, 1, 0, [], [], false), (33, .istore_n 0, 1, 0, [0], [], false), (34, .iload_n 0, 1, 0, [0], [], true), (35, .iload_n 0, 1, 0, [0], [], false), (36, .bipush 8, 2, 8, [], [], false), (38, .iushr, 1, 0, [], [], false), (39, .iadd, 1, 0, [], [], false), (40, .istore_n 0, 1, 0, [0], [], false), (41, .iload_n 0, 1, 0, [0], [], true), (42, .iload_n 0, 1, 0, [0], [], false), (43, .bipush 16, 2, 16, [], [], false), (45, .iushr, 1, 0, [], [], false), (46, .iadd, 1, 0, [], [], false), (47, .istore_n 0, 1, 0, [0], [], false), (48, .iload_n 0, 1, 0, [0], [], true), (49, .bipush 63, 2, 63, [], [], false), (51, .iand, 1, 0, [], [], false), (52, .ireturn, 1, 0, [], [], false)]
def it_bitCount_y : MethodName := ⟨"java/lang/Integer", "bitCount", "(I)I"⟩
theorem it_bitCount_tb : sl_tbOK "java/lang/Integer" prog_15_method_49_code 1 (some .int) lk_it [] it_bitCount_cd = true := by decide +kernel
def it_bitCount_ct : List sl_Ct := []
theorem it_bitCount_hc (g : sl_G) : sl_HC g "java/lang/Integer" 0 it_bitCount_ct [] := sl_HC_nil g "java/lang/Integer" 0
set_option maxRecDepth 20000 in
set_option maxHeartbeats 2000000 in
theorem it_bitCount_snd (g : sl_G) : sl_Snd g it_bitCount_y prog_15_method_49_code 1 (some .int) 0 (it_bitCount_pt) := by
  intro As μ Q hw h
  unfold it_bitCount_pt at h
  split at h
  next a0 =>
    refine sl_mk2 g [false] (cst := [none]) (lv0 := [some (.inl a0)]) (by decide) rfl hw rfl rfl rfl lk_it_ok (it_bitCount_hc g) it_bitCount_tb rfl ?_
    intro X M
    have v48 := sl_ext M sl_VV0 48 (fun lv st μ => match lv, st with | [some (.inl x0)], [] => it_bitCount_B48 (fun r μ' => Q (some (.inl r)) μ') x0 μ | _, _ => False) (by
        intro lv st μ h
        split at h
        · exact h
        · exact h.elim)
    have v41 := sl_ext M v48 41 (fun lv st μ => match lv, st with | [some (.inl x0)], [] => it_bitCount_B41 (fun r μ' => Q (some (.inl r)) μ') x0 μ | _, _ => False) (by
        intro lv st μ h
        split at h
        · exact h
        · exact h.elim)
    have v34 := sl_ext M v41 34 (fun lv st μ => match lv, st with | [some (.inl x0)], [] => it_bitCount_B34 (fun r μ' => Q (some (.inl r)) μ') x0 μ | _, _ => False) (by
        intro lv st μ h
        split at h
        · exact h
        · exact h.elim)
    have v24 := sl_ext M v34 24 (fun lv st μ => match lv, st with | [some (.inl x0)], [] => it_bitCount_B24 (fun r μ' => Q (some (.inl r)) μ') x0 μ | _, _ => False) (by
        intro lv st μ h
        split at h
        · exact h
        · exact h.elim)
    have v10 := sl_ext M v24 10 (fun lv st μ => match lv, st with | [some (.inl x0)], [] => it_bitCount_B10 (fun r μ' => Q (some (.inl r)) μ') x0 μ | _, _ => False) (by
        intro lv st μ h
        split at h
        · exact h
        · exact h.elim)
    exact ⟨_, v10, h⟩
  next => exact h.elim
