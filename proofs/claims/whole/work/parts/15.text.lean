/-! String.length and charAt at the two texts -/
theorem sl_lk0 (own : String) : sl_LkOK own ([], [], []) := ⟨fun _ h => absurd h List.not_mem_nil, fun _ h => absurd h List.not_mem_nil, fun _ h => absurd h List.not_mem_nil⟩
theorem sl_mk0 (g : sl_G) {y : MethodName} {cc : ByteArray} {nL hh : Nat} {rt : Option FieldType} {As : List sl_V} {μ : sl_M} {Q : sl_Qt} (hy : plainName y.cls = true) (hw : ∀ v ∈ As, sl_wk v) (hln : (sl_slots As).length ≤ nL)
    (body : ∀ (p : Program) (e : Env) (R : Room) (s : State) (m : MethodId) (args : Array Value) (below : List Frame) (meth : Method) (c : Code) (H : Heap) (locs : List Loc) (ls : Array Slot), sl_Fx g (p, e, R, s, m, args, below, meth, c, 0, 0, MQ below (sl_Qc g Q) args s 0 0 (sl_A g)) y.cls cc nL hh → meth.sig.returnType = rt → meth.locks = false → sl_Wd g μ H → va_S (sl_A g) s.heap H locs → ls.size = nL → (∀ (i : Nat) (v : sl_V), sl_nth (sl_slots As) i = some v → ls[i]? = some (.val (sl_tv g v))) → W p g.1 e R s m args below meth c H locs 0 0 (MQ below (sl_Qc g Q) args s 0 0 (sl_A g)) (F0 m 0 ls [])) : sl_Met g y cc nL rt hh As μ Q := by
  unfold sl_Met
  refine Met.ofW (cc := cc) (maxL := nL) (ret := rt) hy rfl ?_
  intro p e s m args below meth c s₁ B hml hv
  obtain ⟨rfl, hWd, hK⟩ := hv
  have hts := atoms_spec (ws := Cond.code y cc nL rt :: sl_T0) B.pre
  have hown : s.vm.findClass y.cls = some m.cls := findClass_of_methodNamed B.named
  have hl := lv_entry (As.map (sl_tv g)) (n := nL) (by rw [sl_slots_len]; exact hln)
  rw [lg_entry_eq]
  generalize (lg_sl (As.map (sl_tv g)) ++ List.replicate (nL - (lg_sl (As.map (sl_tv g))).length) Slot.unset).toArray = ls at hl ⊢
  refine body p e (sl_rm hh) s m (As.map (sl_tv g)).toArray below meth c s.heap [] ls ⟨B.exec, B.bytes, hml, hown, fun w hw => hts w (List.mem_cons_of_mem _ hw), hK, Nat.le_refl _, Nat.le_refl _, Nat.le_refl _, Nat.le_refl _⟩ B.returns B.notSynchronized hWd va_S.rf hl.1 (fun i v h => ?_)
  have := sl_slots_args (g := g) As 0 i v h
  rw [Nat.zero_add] at this
  exact hl.2.2 _ this
def sg_coder_y : MethodName := ⟨"java/lang/String", "coder", "()B"⟩
def sg_isLatin1_y : MethodName := ⟨"java/lang/String", "isLatin1", "()Z"⟩
def sg_length_y : MethodName := ⟨"java/lang/String", "length", "()I"⟩
def sg_charAt_y : MethodName := ⟨"java/lang/String", "charAt", "(I)C"⟩
def sg_checkIndex_y : MethodName := ⟨"java/lang/String", "checkIndex", "(II)V"⟩
def sg_pre_y : MethodName := ⟨"jdk/internal/util/Preconditions", "checkIndex", "(IILjava/util/function/BiFunction;)I"⟩
def sg_lat_y : MethodName := ⟨"java/lang/StringLatin1", "charAt", "([BI)C"⟩
def sg_coder_pt : sl_PT := fun As μ Q => ∃ o, o < 2 ∧ As = [.inr (.inr (some (90, o)))] ∧ Q (some (.inl 0)) μ
def sg_isLatin1_pt : sl_PT := fun As μ Q => ∃ o, o < 2 ∧ As = [.inr (.inr (some (90, o)))] ∧ Q (some (.inl 1)) μ
def sg_pre_pt : sl_PT := fun As μ Q => ∃ (i n : Int32) (r : Option (Nat × Nat)), As = [.inl i, .inl n, .inr (.inr r)] ∧ (∀ q, r = some q → q.1 = 93) ∧ ¬ i < 0 ∧ i < n ∧ Q (some (.inl i)) μ
def sg_checkIndex_pt : sl_PT := fun As μ Q => ∃ (i n : Int32), As = [.inl i, .inl n] ∧ ¬ i < 0 ∧ i < n ∧ Q none μ
def sg_chr (o : Nat) (i : Int32) : Int32 := (sl_sb.getD o []).getD i.toNatClampNeg 0
def sg_lat_pt : sl_PT := fun As μ Q => ∃ (o : Nat) (i : Int32), o < 2 ∧ As = [.inr (.inr (some (92, o))), .inl i] ∧ vp_in i (sl_sl.getD o 0) ∧ Q (some (.inl (sg_chr o i))) μ
def sg_length (a0 : Nat) (μ : sl_M) (Q : Int32 → sl_M → Prop) : Prop := a0 < 2 ∧ Q (nI (sl_sl.getD a0 0)) μ
def sg_length_pt : sl_PT := fun As μ Q => match As with
  | [.inr (.inr (some (c0, a0)))] => if c0 = 90 then sg_length a0 μ (fun r μ' => Q (some (.inl r)) μ') else False
  | _ => False
def sg_charAt (a0 : Nat) (a1 : Int32) (μ : sl_M) (Q : Int32 → sl_M → Prop) : Prop := a0 < 2 ∧ vp_in a1 (sl_sl.getD a0 0) ∧ Q (sg_chr a0 a1) μ
def sg_charAt_pt : sl_PT := fun As μ Q => match As with
  | [.inr (.inr (some (c0, a0))), .inl a1] => if c0 = 90 then sg_charAt a0 a1 μ (fun r μ' => Q (some (.inl r)) μ') else False
  | _ => False
theorem sg_w_coder5 : Cond.code sg_coder_y prog_17_method_152_code 1 (some .byte) ∈ sl_T0 := sl_in1 772 (by decide +kernel) rfl
theorem sg_w_isLatin15 : Cond.code sg_isLatin1_y prog_17_method_154_code 1 (some .boolean) ∈ sl_T0 := sl_in1 782 (by decide +kernel) rfl
theorem sg_fl38 : Cond.fieldLink "java/lang/String" 38 "java/lang/String" "COMPACT_STRINGS" "Z" ∈ sl_T0 := sl_in1 773 (by decide +kernel) rfl
theorem sg_fl15 : Cond.fieldLink "java/lang/String" 15 "java/lang/String" "coder" "B" ∈ sl_T0 := sl_in1 1638 (by decide +kernel) rfl
theorem sg_fl9 : Cond.fieldLink "java/lang/String" 9 "java/lang/String" "value" "[B" ∈ sl_T0 := sl_in1 1637 (by decide +kernel) rfl
theorem sg_fl1053 : Cond.fieldLink "java/lang/String" 1053 "jdk/internal/util/Preconditions" "SIOOBE_FORMATTER" "Ljava/util/function/BiFunction;" ∈ sl_T0 := sl_in1 789 (by decide +kernel) rfl
theorem sg_iS : Cond.initialized "java/lang/String" ∈ sl_T0 := sl_in1 100 (by decide +kernel) rfl
theorem sg_iL : Cond.initialized "java/lang/StringLatin1" ∈ sl_T0 := sl_in1 101 (by decide +kernel) rfl
theorem sg_iP : Cond.initialized "jdk/internal/util/Preconditions" ∈ sl_T0 := sl_in1 102 (by decide +kernel) rfl
theorem sg_tv90 (g : sl_G) (o : Nat) : sl_tv g (.inr (.inr (some (90, o)))) = .ref (sl_gs g 90 o) := rfl
theorem sg_tv92 (g : sl_G) (o : Nat) : sl_tv g (.inr (.inr (some (92, o)))) = .ref (sl_gs g 92 o) := rfl
theorem sg_coder_snd (g : sl_G) : sl_Snd g sg_coder_y prog_17_method_152_code 1 (some .byte) 0 sg_coder_pt := by
  intro As μ Q hw h
  obtain ⟨o, ho, rfl, h⟩ := h
  refine sl_mk0 g (by decide) hw (Nat.le_of_ble_eq_true rfl) ?_
  intro p e R s m args below meth c H locs ls F hr hlk hW hS hsz hl
  obtain ⟨hx, hb, hml, hown, hts, hK, hrm⟩ := id F
  have hl0 : ls[0]? = some (.val (.ref (sl_gs g 90 o))) := hl 0 _ rfl
  refine va_gets hx hb hK.2.2.2.1 hS hown (hts _ sg_fl38) (fun _ h9 => h9) (show decode prog_17_method_152_code 0 = .ok (.getstatic 38, 3) by decide +kernel) ?_
  refine lv_if_eq (tgt := 13) hx hb (show decode prog_17_method_152_code 3 = .ok (.ifCond .eq 10, 3) by decide +kernel) (by decide) (fun z => absurd z (by decide)) (fun _ => ?_)
  refine lv_aload_n hx hb (show decode prog_17_method_152_code 6 = .ok (.aload_n 0, 1) by decide +kernel) rfl hl0 ?_
  refine vk_getf hx hb (hK.2.1.1 o ho).2.1 hS hown (hts _ sg_fl15) (fun _ h9 => h9) (show decode prog_17_method_152_code 7 = .ok (.getfield 15, 3) by decide +kernel) ?_
  refine lv_goto (tgt := 14) hx hb (show decode prog_17_method_152_code 10 = .ok (.goto 4, 3) by decide +kernel) (by decide) ?_
  exact W.zret (v := 0) hx hb hr rfl (fun t ht hWm => ⟨⟨some (.inl 0), μ, rfl, fun w hw => by cases hw; trivial, h, by rw [ht]; exact hW⟩, hS.F ht⟩) hS.2.2 (show decode prog_17_method_152_code 14 = .ok (.ireturn, 1) by decide +kernel) hlk
theorem sg_isLatin1_snd (g : sl_G) : sl_Snd g sg_isLatin1_y prog_17_method_154_code 1 (some .boolean) 0 sg_isLatin1_pt := by
  intro As μ Q hw h
  obtain ⟨o, ho, rfl, h⟩ := h
  refine sl_mk0 g (by decide) hw (Nat.le_of_ble_eq_true rfl) ?_
  intro p e R s m args below meth c H locs ls F hr hlk hW hS hsz hl
  obtain ⟨hx, hb, hml, hown, hts, hK, hrm⟩ := id F
  have hl0 : ls[0]? = some (.val (.ref (sl_gs g 90 o))) := hl 0 _ rfl
  refine va_gets hx hb hK.2.2.2.1 hS hown (hts _ sg_fl38) (fun _ h9 => h9) (show decode prog_17_method_154_code 0 = .ok (.getstatic 38, 3) by decide +kernel) ?_
  refine lv_if_eq (tgt := 17) hx hb (show decode prog_17_method_154_code 3 = .ok (.ifCond .eq 14, 3) by decide +kernel) (by decide) (fun z => absurd z (by decide)) (fun _ => ?_)
  refine lv_aload_n hx hb (show decode prog_17_method_154_code 6 = .ok (.aload_n 0, 1) by decide +kernel) rfl hl0 ?_
  refine vk_getf hx hb (hK.2.1.1 o ho).2.1 hS hown (hts _ sg_fl15) (fun _ h9 => h9) (show decode prog_17_method_154_code 7 = .ok (.getfield 15, 3) by decide +kernel) ?_
  refine lv_if_ne (tgt := 17) hx hb (show decode prog_17_method_154_code 10 = .ok (.ifCond .ne 7, 3) by decide +kernel) (by decide) (fun z => absurd rfl z) (fun _ => ?_)
  refine lv_iconst (v := 1) hx hb (show decode prog_17_method_154_code 13 = .ok (.iconst 1, 1) by decide +kernel) (by decide) ?_
  refine lv_goto (tgt := 18) hx hb (show decode prog_17_method_154_code 14 = .ok (.goto 4, 3) by decide +kernel) (by decide) ?_
  exact W.zret (v := 1) hx hb hr rfl (fun t ht hWm => ⟨⟨some (.inl 1), μ, rfl, fun w hw => by cases hw; trivial, h, by rw [ht]; exact hW⟩, hS.F ht⟩) hS.2.2 (show decode prog_17_method_154_code 18 = .ok (.ireturn, 1) by decide +kernel) hlk
theorem sg_pre_snd (g : sl_G) : sl_Snd g sg_pre_y prog_20_method_11_code 3 (some .int) 0 sg_pre_pt := by
  intro As μ Q hw h
  obtain ⟨i, n, r, rfl, hr93, h0, hn, h⟩ := h
  refine sl_mk0 g (by decide) hw (Nat.le_of_ble_eq_true rfl) ?_
  intro p e R s m args below meth c H locs ls F hr hlk hW hS hsz hl
  obtain ⟨hx, hb, hml, hown, hts, hK, hrm⟩ := id F
  have hl0 : ls[0]? = some (.val (.int i)) := hl 0 (.inl i) rfl
  have hl1 : ls[1]? = some (.val (.int n)) := hl 1 (.inl n) rfl
  refine lv_iload_n hx hb (show decode prog_20_method_11_code 0 = .ok (.iload_n 0, 1) by decide +kernel) rfl hl0 ?_
  refine lv_if_lt (tgt := 9) hx hb (show decode prog_20_method_11_code 1 = .ok (.ifCond .lt 8, 3) by decide +kernel) (by decide) (fun z => absurd z h0) (fun _ => ?_)
  refine lv_iload_n hx hb (show decode prog_20_method_11_code 4 = .ok (.iload_n 0, 1) by decide +kernel) rfl hl0 ?_
  refine lv_iload_n hx hb (show decode prog_20_method_11_code 5 = .ok (.iload_n 1, 1) by decide +kernel) rfl hl1 ?_
  refine lv_icmp_lt (tgt := 16) hx hb (show decode prog_20_method_11_code 6 = .ok (.if_icmp .lt 10, 3) by decide +kernel) (by decide) (fun _ => ?_) (fun z => absurd hn z)
  refine lv_iload_n hx hb (show decode prog_20_method_11_code 16 = .ok (.iload_n 0, 1) by decide +kernel) rfl hl0 ?_
  exact W.iret (v := i) hx hb hr (fun t ht hWm => ⟨⟨some (.inl i), μ, rfl, fun w hw => by cases hw; trivial, h, by rw [ht]; exact hW⟩, hS.F ht⟩) hS.2.2 (show decode prog_20_method_11_code 17 = .ok (.ireturn, 1) by decide +kernel) hlk
theorem sg_cs_pre (g : sl_G) {hh : Nat} (h : 1 ≤ hh) : sl_CallS g "java/lang/String" 1059 1 0 hh 3 sg_pre_pt := sl_callS (y := sg_pre_y) (sg_pre_snd g) h (by decide) (sl_in1 791 (by decide +kernel) rfl) (sl_in1 792 (by decide +kernel) rfl) sg_iP (sl_in1 793 (by decide +kernel) rfl) (by decide +kernel)
theorem sg_checkIndex_snd (g : sl_G) : sl_Snd g sg_checkIndex_y prog_17_method_155_code 2 none 1 sg_checkIndex_pt := by
  intro As μ Q hw h
  obtain ⟨i, n, rfl, h0, hn, h⟩ := h
  refine sl_mk0 g (by decide) hw (Nat.le_of_ble_eq_true rfl) ?_
  intro p e R s m args below meth c H locs ls F hr hlk hW hS hsz hl
  obtain ⟨hx, hb, hml, hown, hts, hK, hrm⟩ := id F
  have hl0 : ls[0]? = some (.val (.int i)) := hl 0 (.inl i) rfl
  have hl1 : ls[1]? = some (.val (.int n)) := hl 1 (.inl n) rfl
  refine lv_iload_n hx hb (show decode prog_17_method_155_code 0 = .ok (.iload_n 0, 1) by decide +kernel) rfl hl0 ?_
  refine lv_iload_n hx hb (show decode prog_17_method_155_code 1 = .ok (.iload_n 1, 1) by decide +kernel) rfl hl1 ?_
  have key : ∀ (r : Option (Nat × Nat)), (∀ q, r = some q → q.1 = 93) → W p g.1 e R s m args below meth c H locs 0 0 (MQ below (sl_Qc g Q) args s 0 0 (sl_A g)) (F0 m 5 ls [sl_tv g (.inr (.inr r)), .int n, .int i]) := by
    intro r h93
    refine sg_cs_pre g (hh := 1) (Nat.le_refl 1) p e R s m args below meth c 0 0 _ prog_17_method_155_code 2 F 5 (show decode prog_17_method_155_code 5 = .ok (.invokestatic 1059, 3) by decide +kernel) μ H locs ls [.inl i, .inl n, .inr (.inr r)] [] (fun r' μ' => Q none μ' ∧ ∃ z, r' = some (.inl z)) rfl (fun v hv => ?_) rfl hW hS hsz (by decide) ⟨i, n, r, rfl, h93, h0, hn, h, i, rfl⟩ (fun r' μ' H1 locs1 hq hwk hW1 hS1 => ?_)
    · simp only [List.mem_cons, List.not_mem_nil, or_false] at hv
      rcases hv with rfl | rfl | rfl
      · trivial
      · trivial
      · cases r with
        | none => trivial
        | some q => exact fun z => absurd z (by rw [h93 q rfl]; decide)
    · obtain ⟨hq, z, rfl⟩ := hq
      refine lv_pop hx hb (show decode prog_17_method_155_code 8 = .ok (.pop, 1) by decide +kernel) rfl ?_
      exact W.vret hx hb hr (fun t ht hWm => ⟨⟨none, μ', rfl, (fun w hw => by cases hw), hq, by rw [ht]; exact hW1⟩, hS1.F ht⟩) hS1.2.2 (show decode prog_17_method_155_code 9 = .ok (.return_, 1) by decide +kernel) hlk
  rcases hK.2.2.2.2.1 with hz | ⟨t, hz⟩
  · exact va_gets hx hb hz hS hown (hts _ sg_fl1053) (fun _ h9 => h9) (show decode prog_17_method_155_code 2 = .ok (.getstatic 1053, 3) by decide +kernel) (key none (fun q h => by cases h))
  · exact va_gets hx hb hz hS hown (hts _ sg_fl1053) (fun _ h9 => h9) (show decode prog_17_method_155_code 2 = .ok (.getstatic 1053, 3) by decide +kernel) (key (some (93, t)) (fun q h => by cases h; rfl))
theorem sg_cs_ci (g : sl_G) {hh : Nat} (h : 2 ≤ hh) : sl_CallS g "java/lang/StringLatin1" 9 1 0 hh 2 sg_checkIndex_pt := sl_callS (y := sg_checkIndex_y) (sg_checkIndex_snd g) h (by decide) (sl_in1 786 (by decide +kernel) rfl) (sl_in1 787 (by decide +kernel) rfl) sg_iS (sl_in1 788 (by decide +kernel) rfl) (by decide +kernel)
theorem sg_bytes : ∀ o, o < 2 → (sl_sl.getD o 0 < 2 ^ 31 ∧ ∀ j, j < sl_sl.getD o 0 → ((((sl_sb.getD o []).getD j 0) &&& 255).toUInt32 % 65536).toInt32 = (sl_sb.getD o []).getD j 0 ∧ narrow .char (.int ((sl_sb.getD o []).getD j 0)) = .int ((sl_sb.getD o []).getD j 0)) := by decide +kernel
theorem sg_lat_snd (g : sl_G) : sl_Snd g sg_lat_y prog_18_method_2_code 2 (some .char) 2 sg_lat_pt := by
  intro As μ Q hw h
  obtain ⟨o, i, ho, rfl, hin, h⟩ := h
  refine sl_mk0 g (by decide) hw (Nat.le_of_ble_eq_true rfl) ?_
  intro p e R s m args below meth c H locs ls F hr hlk hW hS hsz hl
  obtain ⟨hx, hb, hml, hown, hts, hK, hrm⟩ := id F
  have hl0 : ls[0]? = some (.val (.ref (sl_gs g 92 o))) := hl 0 _ rfl
  have hl1 : ls[1]? = some (.val (.int i)) := hl 1 (.inl i) rfl
  obtain ⟨hb1, hb2⟩ := sg_bytes o ho
  obtain ⟨j, hj, rfl⟩ := vp_in_of hin hb1
  refine lv_iload_n hx hb (show decode prog_18_method_2_code 0 = .ok (.iload_n 1, 1) by decide +kernel) rfl hl1 ?_
  refine lv_aload_n hx hb (show decode prog_18_method_2_code 1 = .ok (.aload_n 0, 1) by decide +kernel) rfl hl0 ?_
  refine va_tlen hx hb (hK.2.1.1 o ho).2.2.2 hS rfl (show decode prog_18_method_2_code 2 = .ok (.arraylength, 1) by decide +kernel) ?_
  refine sg_cs_ci g (hh := 2) (Nat.le_refl 2) p e R s m args below meth c 0 0 _ prog_18_method_2_code 2 F 3 (show decode prog_18_method_2_code 3 = .ok (.invokestatic 9, 3) by decide +kernel) μ H locs ls [.inl (nI j), .inl (nI (sl_sl.getD o 0))] [] (fun r' μ' => Q (some (.inl (sg_chr o (nI j)))) μ' ∧ r' = none) rfl (fun v hv => ?_) rfl hW hS hsz (by decide) ⟨nI j, nI (sl_sl.getD o 0), rfl, nI_pos (by omega), nI_lt hj (by omega), h, rfl⟩ (fun r' μ' H1 locs1 hq hwk hW1 hS1 => ?_)
  · simp only [List.mem_cons, List.not_mem_nil, or_false] at hv
    rcases hv with rfl | rfl <;> trivial
  · obtain ⟨hq, rfl⟩ := hq
    refine lv_aload_n hx hb (show decode prog_18_method_2_code 6 = .ok (.aload_n 0, 1) by decide +kernel) rfl hl0 ?_
    refine lv_iload_n hx hb (show decode prog_18_method_2_code 7 = .ok (.iload_n 1, 1) by decide +kernel) rfl hl1 ?_
    refine va_tb hx hb (hK.2.1.1 o ho).2.2.2 hS1 hin rfl (show decode prog_18_method_2_code 8 = .ok (.baload, 1) by decide +kernel) ?_
    refine lv_sipush (v := 255) hx hb (show decode prog_18_method_2_code 9 = .ok (.sipush 255, 3) by decide +kernel) (by decide) ?_
    refine lv_iand hx hb (show decode prog_18_method_2_code 12 = .ok (.iand, 1) by decide +kernel) ?_
    have hch : sg_chr o (nI j) = (sl_sb.getD o []).getD j 0 := by
      unfold sg_chr
      rw [nI_clamp (by omega)]
    refine lv_i2c (v := sg_chr o (nI j)) hx hb (show decode prog_18_method_2_code 13 = .ok (.i2c, 1) by decide +kernel) (by rw [hch, nI_clamp (by omega)]; exact (hb2 j hj).1) ?_
    exact W.zret (v := sg_chr o (nI j)) hx hb hr (by rw [hch]; exact (hb2 j hj).2) (fun t ht hWm => ⟨⟨some (.inl (sg_chr o (nI j))), μ', rfl, fun w hw => by cases hw; trivial, hq, by rw [ht]; exact hW1⟩, hS1.F ht⟩) hS1.2.2 (show decode prog_18_method_2_code 14 = .ok (.ireturn, 1) by decide +kernel) hlk
theorem sg_cs_lat (g : sl_G) {hh : Nat} (h : 3 ≤ hh) : sl_CallS g "java/lang/String" 495 1 0 hh 2 sg_lat_pt := sl_callS (y := sg_lat_y) (sg_lat_snd g) h (by decide) (sl_in1 783 (by decide +kernel) rfl) (sl_in1 784 (by decide +kernel) rfl) sg_iL (sl_in1 785 (by decide +kernel) rfl) (by decide +kernel)
/-- a call at one of the two texts -/
theorem sl_callG {g : sl_G} {own : String} {idx h h' n maxL : Nat} {y : MethodName} {bytes : ByteArray} {ret : Option FieldType} {pt : sl_PT} (ho : ∀ (o : Nat) (As : List sl_V) (μ : sl_M) (Q : sl_Qt), pt (.inr (.inr (some (90, o))) :: As) μ Q → o < 2) (hs : sl_Snd g y bytes maxL ret h' pt) (hh : h' + 1 ≤ h) (hm : maxL ≤ 40)
    (w1 : Cond.methodLink own idx y ∈ sl_T0) (w2 : Cond.instanceMethod y ∈ sl_T0) (w3 : Cond.selects y.cls y y ∈ sl_T0) (w4 : Cond.initialized y.cls ∈ sl_T0) (w5 : Cond.code y bytes maxL ret ∈ sl_T0)
    (hd : y.cls ≠ "java/lang/invoke/MethodHandle" ∧ y.cls ≠ "java/lang/invoke/VarHandle" ∧ (parseMethodDescriptor y.desc).map (fun d => d.parameters.length) = some n) (hcl : y.cls = "java/lang/String") : sl_CallS g own idx 0 90 h (n + 1) pt := by
  intro p e R s m args below meth c cells slots Qp cc nL F pc hdec μ H locs ls As rest Q' hn hw hrc hWd hS hsz hcat hpt kk
  obtain ⟨hx, hb, hml, hown, hts, hK, hf, hl, hc, hsl⟩ := F
  match As, hn, hw, hrc, hpt with
  | .inr (.inr (some q)) :: As', hn, hw, hrc, hpt =>
    obtain ⟨c0, o⟩ := q
    have hc0 : c0 = 90 := by simpa [sl_recv] using hrc
    subst hc0
    have ho := ho _ _ _ _ hpt
    have hcw : CallW R s args own y.cls idx y bytes maxL ret (Cond.code y bytes maxL ret :: sl_T0) (sl_rm h') 0 0 n := by
      refine ⟨callB_of n hts (sl_goodIn w5) rfl rfl rfl (hts _ w4) (hts _ w1) hd ⟨?_, ?_⟩, hts _ w2, hts _ w3⟩
      · show h' + 1 ≤ R.frames
        omega
      · show 8 + (maxL + 11) + 64 * h' ≤ R.locals
        omega
    have hstk : ((.inr (.inr (some (90, o))) :: As').map (sl_tv g)).reverse ++ rest = (As'.map (sl_tv g)).reverse ++ .ref (sl_gs g 90 o) :: rest := by
      rw [List.map_cons, List.reverse_cons, sg_tv90, List.append_assoc]
      rfl
    rw [hstk]
    refine sl_goes (va_runV (As := As'.map (sl_tv g)) (rest := rest) (C := y.cls) ⟨hx, hb, hml, hown, hts⟩ (hs _ μ Q' hw hpt) hcw ⟨sl_blind, by rw [hcl]; exact vk_recv hK.2.1 ho hS, fun U hU hWm => ⟨by rw [List.map_cons, sg_tv90], by rw [hU]; exact hWd, sl_K.go (U := U) (locs := locs) hK (by rw [hU]; exact hS) hWm⟩⟩ rfl (by rw [List.length_map]; exact Nat.succ.inj hn) hsz rfl (lv_room hcat) hdec ⟨hc, hsl⟩) hS kk
  | [], hn, hw, hrc, hpt => cases hrc
  | .inl _ :: _, hn, hw, hrc, hpt => cases hrc
  | .inr (.inl _) :: _, hn, hw, hrc, hpt => cases hrc
  | .inr (.inr none) :: _, hn, hw, hrc, hpt => cases hrc
theorem sg_cs_coder (g : sl_G) {hh : Nat} (h : 1 ≤ hh) : sl_CallS g "java/lang/String" 335 0 90 hh 1 sg_coder_pt := sl_callG (y := sg_coder_y) (fun o As μ Q h => by obtain ⟨o', h1, h2, -⟩ := h; cases h2; exact h1) (sg_coder_snd g) h (by decide) (sl_in1 769 (by decide +kernel) rfl) (sl_in1 770 (by decide +kernel) rfl) (sl_in1 771 (by decide +kernel) rfl) sg_iS sg_w_coder5 (by decide +kernel) rfl
theorem sg_cs_lat1 (g : sl_G) {hh : Nat} (h : 1 ≤ hh) : sl_CallS g "java/lang/String" 492 0 90 hh 1 sg_isLatin1_pt := sl_callG (y := sg_isLatin1_y) (fun o As μ Q h => by obtain ⟨o', h1, h2, -⟩ := h; cases h2; exact h1) (sg_isLatin1_snd g) h (by decide) (sl_in1 779 (by decide +kernel) rfl) (sl_in1 780 (by decide +kernel) rfl) (sl_in1 781 (by decide +kernel) rfl) sg_iS sg_w_isLatin15 (by decide +kernel) rfl
theorem sg_wk90 {g : sl_G} {o : Nat} : ∀ v ∈ ([.inr (.inr (some (90, o)))] : List sl_V), sl_wk v := fun v hv => by
  rw [List.mem_singleton.mp hv]
  exact fun z => absurd z (Nat.lt_irrefl 90)
theorem sg_length_snd (g : sl_G) : sl_Snd g sg_length_y prog_17_method_54_code 1 (some .int) 6 sg_length_pt := by
  intro As μ Q hw h
  unfold sg_length_pt at h
  split at h
  next c0 o =>
    split at h
    next e_ =>
      subst e_
      obtain ⟨ho, h⟩ := h
      refine sl_mk0 g (by decide) hw (Nat.le_of_ble_eq_true rfl) ?_
      intro p e R s m args below meth c H locs ls F hr hlk hW hS hsz hl
      obtain ⟨hx, hb, hml, hown, hts, hK, hrm⟩ := id F
      have hl0 : ls[0]? = some (.val (.ref (sl_gs g 90 o))) := hl 0 _ rfl
      refine lv_aload_n hx hb (show decode prog_17_method_54_code 0 = .ok (.aload_n 0, 1) by decide +kernel) rfl hl0 ?_
      refine vk_getf hx hb (hK.2.1.1 o ho).2.2.1 hS hown (hts _ sg_fl9) (fun _ h9 => h9) (show decode prog_17_method_54_code 1 = .ok (.getfield 9, 3) by decide +kernel) ?_
      refine va_tlen hx hb (hK.2.1.1 o ho).2.2.2 hS rfl (show decode prog_17_method_54_code 4 = .ok (.arraylength, 1) by decide +kernel) ?_
      refine lv_aload_n hx hb (show decode prog_17_method_54_code 5 = .ok (.aload_n 0, 1) by decide +kernel) rfl hl0 ?_
      refine sg_cs_coder g (hh := 6) (by decide) p e R s m args below meth c 0 0 _ prog_17_method_54_code 1 F 6 (show decode prog_17_method_54_code 6 = .ok (.invokevirtual 335, 3) by decide +kernel) μ H locs ls [.inr (.inr (some (90, o)))] [.int (Int32.ofNat (sl_sl.getD o 0))] (fun r' μ' => r' = some (.inl 0) ∧ Q (some (.inl (nI (sl_sl.getD o 0)))) μ') rfl (sg_wk90 (g := g)) rfl hW hS hsz (Nat.le_of_ble_eq_true rfl) ⟨o, ho, rfl, rfl, h⟩ (fun r' μ' H1 locs1 hq hwk hW1 hS1 => ?_)
      obtain ⟨rfl, hq⟩ := hq
      refine lv_ishr hx hb (show decode prog_17_method_54_code 9 = .ok (.ishr, 1) by decide +kernel) ?_
      have e9 : Int32.ofNat (sl_sl.getD o 0) >>> ((0 : Int32) &&& 31) = nI (sl_sl.getD o 0) := sc_shr0 (sg_bytes o ho).1
      rw [e9]
      exact W.iret (v := nI (sl_sl.getD o 0)) hx hb hr (fun t ht hWm => ⟨⟨some (.inl (nI (sl_sl.getD o 0))), μ', rfl, fun w hw => by cases hw; trivial, hq, by rw [ht]; exact hW1⟩, hS1.F ht⟩) hS1.2.2 (show decode prog_17_method_54_code 10 = .ok (.ireturn, 1) by decide +kernel) hlk
    next => exact h.elim
  next => exact h.elim
theorem sg_charAt_snd (g : sl_G) : sl_Snd g sg_charAt_y prog_17_method_56_code 2 (some .char) 6 sg_charAt_pt := by
  intro As μ Q hw h
  unfold sg_charAt_pt at h
  split at h
  next c0 o i =>
    split at h
    next e_ =>
      subst e_
      obtain ⟨ho, hin, h⟩ := h
      refine sl_mk0 g (by decide) hw (Nat.le_of_ble_eq_true rfl) ?_
      intro p e R s m args below meth c H locs ls F hr hlk hW hS hsz hl
      obtain ⟨hx, hb, hml, hown, hts, hK, hrm⟩ := id F
      have hl0 : ls[0]? = some (.val (.ref (sl_gs g 90 o))) := hl 0 _ rfl
      have hl1 : ls[1]? = some (.val (.int i)) := hl 1 (.inl i) rfl
      refine lv_aload_n hx hb (show decode prog_17_method_56_code 0 = .ok (.aload_n 0, 1) by decide +kernel) rfl hl0 ?_
      refine sg_cs_lat1 g (hh := 6) (by decide) p e R s m args below meth c 0 0 _ prog_17_method_56_code 2 F 1 (show decode prog_17_method_56_code 1 = .ok (.invokevirtual 492, 3) by decide +kernel) μ H locs ls [.inr (.inr (some (90, o)))] [] (fun r' μ' => r' = some (.inl 1) ∧ Q (some (.inl (sg_chr o i))) μ') rfl (sg_wk90 (g := g)) rfl hW hS hsz (by decide) ⟨o, ho, rfl, rfl, h⟩ (fun r' μ' H1 locs1 hq hwk hW1 hS1 => ?_)
      obtain ⟨rfl, hq⟩ := hq
      refine lv_if_eq (tgt := 16) hx hb (show decode prog_17_method_56_code 4 = .ok (.ifCond .eq 12, 3) by decide +kernel) (by decide) (fun z => absurd z (by decide)) (fun _ => ?_)
      refine lv_aload_n hx hb (show decode prog_17_method_56_code 7 = .ok (.aload_n 0, 1) by decide +kernel) rfl hl0 ?_
      refine vk_getf hx hb (hK.2.1.1 o ho).2.2.1 hS1 hown (hts _ sg_fl9) (fun _ h9 => h9) (show decode prog_17_method_56_code 8 = .ok (.getfield 9, 3) by decide +kernel) ?_
      refine lv_iload_n hx hb (show decode prog_17_method_56_code 11 = .ok (.iload_n 1, 1) by decide +kernel) rfl hl1 ?_
      obtain ⟨hb1, hb2⟩ := sg_bytes o ho
      refine sg_cs_lat g (hh := 6) (by decide) p e R s m args below meth c 0 0 _ prog_17_method_56_code 2 F 12 (show decode prog_17_method_56_code 12 = .ok (.invokestatic 495, 3) by decide +kernel) μ' H1 locs1 ls [.inr (.inr (some (92, o))), .inl i] [] (fun r' μ2 => r' = some (.inl (sg_chr o i)) ∧ Q (some (.inl (sg_chr o i))) μ2) rfl (fun v hv => ?_) rfl hW1 hS1 hsz (by decide) ⟨o, i, ho, rfl, hin, rfl, hq⟩ (fun r' μ2 H2 locs2 hq hwk hW2 hS2 => ?_)
      · simp only [List.mem_cons, List.not_mem_nil, or_false] at hv
        rcases hv with rfl | rfl
        · exact fun z => absurd z (show ¬ 92 < 90 by omega)
        · trivial
      · obtain ⟨rfl, hq⟩ := hq
        obtain ⟨j, hj, rfl⟩ := vp_in_of hin hb1
        have hch : sg_chr o (nI j) = (sl_sb.getD o []).getD j 0 := by
          unfold sg_chr
          rw [nI_clamp (by omega)]
        exact W.zret (v := sg_chr o (nI j)) hx hb hr (by rw [hch]; exact (hb2 j hj).2) (fun t ht hWm => ⟨⟨some (.inl (sg_chr o (nI j))), μ2, rfl, fun w hw => by cases hw; trivial, hq, by rw [ht]; exact hW2⟩, hS2.F ht⟩) hS2.2.2 (show decode prog_17_method_56_code 15 = .ok (.ireturn, 1) by decide +kernel) hlk
    next => exact h.elim
  next => exact h.elim
theorem sg_length_ho (o : Nat) (As : List sl_V) (μ : sl_M) (Q : sl_Qt) (h : sg_length_pt (.inr (.inr (some (90, o))) :: As) μ Q) : o < 2 := by
  cases As with
  | nil => exact (show sg_length o μ (fun r μ' => Q (some (.inl r)) μ') from h).1
  | cons a As => exact False.elim h
theorem sg_charAt_ho (o : Nat) (As : List sl_V) (μ : sl_M) (Q : sl_Qt) (h : sg_charAt_pt (.inr (.inr (some (90, o))) :: As) μ Q) : o < 2 := by
  match As, h with
  | [], h => exact False.elim h
  | [.inl i], h => exact (show sg_charAt o i μ (fun r μ' => Q (some (.inl r)) μ') from h).1
  | .inr _ :: _, h => exact False.elim h
  | .inl _ :: _ :: _, h => exact False.elim h
