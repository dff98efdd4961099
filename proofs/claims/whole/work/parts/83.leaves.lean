/-! the constructors: leaves -/
theorem gw_fin {g : sl_G} {e : Nat → va_E} {N : Nat} {H : Heap} {t : State} (hG : sl_Gw g e N H) (ht : t.heap = H) : sl_Gw g e N t.heap := by
  rw [ht]
  exact hG
set_option maxRecDepth 100000 in
set_option maxHeartbeats 4000000 in
theorem ct_9 (g : sl_G) {e : Nat → va_E} {N o0 : Nat} (ho : o0 < N) (x : Int32) (he : e o0 = .inr (9, [.int 0, .int 0, .int 0, .int 0, .int 0, .int 0])) : gw_Met g ⟨"SpanLayers$Span", "<init>", "(I)V"⟩ prog_11_method_1_code 2 2 [.ref (sl_b g + o0), .int x] e N (ce e N o0 (.inr (9, [.int x, .int 0, .int 0, .int 0, .int 0, .int 0])) []) (N + 0) 0 0 := by
  refine gw_mk (by decide) rfl (Nat.le_of_ble_eq_true rfl) ?_
  intro p e0 s m args below meth c ls F hr hlk hin hl hG hS
  have hl : lv_has ls 2 [(0, .ref (sl_b g + o0)), (1, .int x)] := hl
  obtain ⟨hx, hb, hml, hown, hts, hK, -⟩ := id F
  replace hG := ce_0 he hG
  refine lv_aload_n hx hb (show decode prog_11_method_1_code 0 = .ok (.aload_n 0, 1) by decide +kernel) rfl (lv_at hl 0 rfl) ?_
  refine W.objInit hx hb hown (hts _ (sl_in1 124 (by decide +kernel) rfl)) (hts _ (sl_in1 110 (by decide +kernel) rfl)) (hts _ (sl_in1 111 (by decide +kernel) rfl)) rfl (by rw [hml]; exact hl.1) rfl (show decode prog_11_method_1_code 1 = .ok (.invokespecial 3, 3) by decide +kernel) (Nat.le_of_ble_eq_true rfl) (Nat.le_of_ble_eq_true rfl) ?_
  refine W.eq (g2 := F0 m 4 ls []) rfl ?_
  refine lv_aload_n hx hb (show decode prog_11_method_1_code 4 = .ok (.aload_n 0, 1) by decide +kernel) rfl (lv_at hl 0 rfl) ?_
  refine lv_iload_n hx hb (show decode prog_11_method_1_code 5 = .ok (.iload_n 1, 1) by decide +kernel) rfl (lv_at hl 1 rfl) ?_
  refine cw_put (v := .int x) (k := 0) (ci := 9) (ty := .int) F ho sl_i9 sl_t9 sl_ty9 sl_nm9 rfl (by decide) (sl_in1 125 (by decide +kernel) rfl) rfl (by decide +kernel) rfl rfl (show decode prog_11_method_1_code 6 = .ok (.putfield 9, 3) by decide +kernel) (Nat.le_of_ble_eq_true rfl) hG hS (fun H locs hG hS => ?_)
  exact W.vret hx hb hr (fun t ht hW => ⟨⟨(), rfl, trivial, gw_fin hG ht⟩, hS.F ht⟩) hS.2.2 (show decode prog_11_method_1_code 9 = .ok (.return_, 1) by decide +kernel)
set_option maxRecDepth 100000 in
set_option maxHeartbeats 4000000 in
theorem ct_3 (g : sl_G) {e : Nat → va_E} {N o0 : Nat} (ho : o0 < N) (he : e o0 = .inr (3, [.null, .null, .null, .int 0])) : gw_Met g ⟨"SpanLayers$Coverage", "<init>", "()V"⟩ prog_5_method_1_code 1 2 [.ref (sl_b g + o0)] e N (ce e N o0 (.inr (3, [.ref (sl_b g + (N + 0)), .ref (sl_b g + (N + 1)), .ref (sl_b g + (N + 2)), .int 0])) [.inl (sl_ca g 0, 30, .inl (fun _ => 0)), .inl (sl_ca g 0, 30, .inl (fun _ => 0)), .inl (sl_ca g 0, 30, .inl (fun _ => 0))]) (N + 3) 3 90 := by
  refine gw_mk (by decide) rfl (Nat.le_of_ble_eq_true rfl) ?_
  intro p e0 s m args below meth c ls F hr hlk hin hl hG hS
  have hl : lv_has ls 1 [(0, .ref (sl_b g + o0))] := hl
  obtain ⟨hx, hb, hml, hown, hts, hK, -⟩ := id F
  replace hG := ce_0 he hG
  refine lv_aload_n hx hb (show decode prog_5_method_1_code 0 = .ok (.aload_n 0, 1) by decide +kernel) rfl (lv_at hl 0 rfl) ?_
  refine W.objInit hx hb hown (hts _ (sl_in1 186 (by decide +kernel) rfl)) (hts _ (sl_in1 110 (by decide +kernel) rfl)) (hts _ (sl_in1 111 (by decide +kernel) rfl)) rfl (by rw [hml]; exact hl.1) rfl (show decode prog_5_method_1_code 1 = .ok (.invokespecial 3, 3) by decide +kernel) (Nat.le_of_ble_eq_true rfl) (Nat.le_of_ble_eq_true rfl) ?_
  refine W.eq (g2 := F0 m 4 ls []) rfl ?_
  refine lv_aload_n hx hb (show decode prog_5_method_1_code 4 = .ok (.aload_n 0, 1) by decide +kernel) rfl (lv_at hl 0 rfl) ?_
  refine lv_bipush (v := 30) hx hb (show decode prog_5_method_1_code 5 = .ok (.bipush 30, 2) by decide +kernel) (by decide) ?_
  refine cw_newa (t0 := 0) (atype := .int) (n := 30) F ho (j := 0) rfl (sl_in1 204 (by decide +kernel) rfl) rfl (fun _ _ h9 => h9) rfl (by decide) rfl (by decide) (show decode prog_5_method_1_code 7 = .ok (.newarray .int, 2) by decide +kernel) (Nat.le_of_ble_eq_true rfl) (Nat.le_of_ble_eq_true rfl) hG hS (fun H hG hS => ?_)
  refine cw_putF (v := .ref (sl_b g + (N + 0))) (k := 0) (ci := 3) (ty := .array .int) F hin ho sl_i3 sl_t3 sl_ty3 sl_nm3 rfl (by decide) (sl_in1 187 (by decide +kernel) rfl) rfl rfl (by decide +kernel) rfl rfl (show decode prog_5_method_1_code 9 = .ok (.putfield 9, 3) by decide +kernel) (Nat.le_of_ble_eq_true rfl) hG hS (fun H locs hG hS => ?_)
  refine lv_aload_n hx hb (show decode prog_5_method_1_code 12 = .ok (.aload_n 0, 1) by decide +kernel) rfl (lv_at hl 0 rfl) ?_
  refine lv_bipush (v := 30) hx hb (show decode prog_5_method_1_code 13 = .ok (.bipush 30, 2) by decide +kernel) (by decide) ?_
  refine cw_newa (t0 := 0) (atype := .int) (n := 30) F ho (j := 1) rfl (sl_in1 204 (by decide +kernel) rfl) rfl (fun _ _ h9 => h9) rfl (by decide) rfl (by decide) (show decode prog_5_method_1_code 15 = .ok (.newarray .int, 2) by decide +kernel) (Nat.le_of_ble_eq_true rfl) (Nat.le_of_ble_eq_true rfl) hG hS (fun H hG hS => ?_)
  refine cw_putF (v := .ref (sl_b g + (N + 1))) (k := 1) (ci := 3) (ty := .array .int) F hin ho sl_i3 sl_t3 sl_ty3 sl_nm3 rfl (by decide) (sl_in1 189 (by decide +kernel) rfl) rfl rfl (by decide +kernel) rfl rfl (show decode prog_5_method_1_code 17 = .ok (.putfield 15, 3) by decide +kernel) (Nat.le_of_ble_eq_true rfl) hG hS (fun H locs hG hS => ?_)
  refine lv_aload_n hx hb (show decode prog_5_method_1_code 20 = .ok (.aload_n 0, 1) by decide +kernel) rfl (lv_at hl 0 rfl) ?_
  refine lv_bipush (v := 30) hx hb (show decode prog_5_method_1_code 21 = .ok (.bipush 30, 2) by decide +kernel) (by decide) ?_
  refine cw_newa (t0 := 0) (atype := .int) (n := 30) F ho (j := 2) rfl (sl_in1 204 (by decide +kernel) rfl) rfl (fun _ _ h9 => h9) rfl (by decide) rfl (by decide) (show decode prog_5_method_1_code 23 = .ok (.newarray .int, 2) by decide +kernel) (Nat.le_of_ble_eq_true rfl) (Nat.le_of_ble_eq_true rfl) hG hS (fun H hG hS => ?_)
  refine cw_putF (v := .ref (sl_b g + (N + 2))) (k := 2) (ci := 3) (ty := .array .int) F hin ho sl_i3 sl_t3 sl_ty3 sl_nm3 rfl (by decide) (sl_in1 191 (by decide +kernel) rfl) rfl rfl (by decide +kernel) rfl rfl (show decode prog_5_method_1_code 25 = .ok (.putfield 18, 3) by decide +kernel) (Nat.le_of_ble_eq_true rfl) hG hS (fun H locs hG hS => ?_)
  exact W.vret hx hb hr (fun t ht hW => ⟨⟨(), rfl, trivial, gw_fin hG ht⟩, hS.F ht⟩) hS.2.2 (show decode prog_5_method_1_code 28 = .ok (.return_, 1) by decide +kernel)
set_option maxRecDepth 100000 in
set_option maxHeartbeats 4000000 in
theorem ct_1 (g : sl_G) {e : Nat → va_E} {N o0 : Nat} (ho : o0 < N) (he : e o0 = .inr (1, [.null, .null, .int 0, .null])) : gw_Met g ⟨"SpanLayers$Choice", "<init>", "()V"⟩ prog_3_method_1_code 1 2 [.ref (sl_b g + o0)] e N (ce e N o0 (.inr (1, [.ref (sl_b g + (N + 0)), .ref (sl_b g + (N + 1)), .int 0, .ref (sl_b g + (N + 2))])) [.inl (sl_ca g 0, 30, .inl (fun _ => 0)), .inl (sl_ca g 0, 30, .inl (fun _ => 0)), .inl (sl_ca g 0, 31, .inl (fun _ => 0))]) (N + 3) 3 91 := by
  refine gw_mk (by decide) rfl (Nat.le_of_ble_eq_true rfl) ?_
  intro p e0 s m args below meth c ls F hr hlk hin hl hG hS
  have hl : lv_has ls 1 [(0, .ref (sl_b g + o0))] := hl
  obtain ⟨hx, hb, hml, hown, hts, hK, -⟩ := id F
  replace hG := ce_0 he hG
  refine lv_aload_n hx hb (show decode prog_3_method_1_code 0 = .ok (.aload_n 0, 1) by decide +kernel) rfl (lv_at hl 0 rfl) ?_
  refine W.objInit hx hb hown (hts _ (sl_in1 210 (by decide +kernel) rfl)) (hts _ (sl_in1 110 (by decide +kernel) rfl)) (hts _ (sl_in1 111 (by decide +kernel) rfl)) rfl (by rw [hml]; exact hl.1) rfl (show decode prog_3_method_1_code 1 = .ok (.invokespecial 3, 3) by decide +kernel) (Nat.le_of_ble_eq_true rfl) (Nat.le_of_ble_eq_true rfl) ?_
  refine W.eq (g2 := F0 m 4 ls []) rfl ?_
  refine lv_aload_n hx hb (show decode prog_3_method_1_code 4 = .ok (.aload_n 0, 1) by decide +kernel) rfl (lv_at hl 0 rfl) ?_
  refine lv_bipush (v := 30) hx hb (show decode prog_3_method_1_code 5 = .ok (.bipush 30, 2) by decide +kernel) (by decide) ?_
  refine cw_newa (t0 := 0) (atype := .int) (n := 30) F ho (j := 0) rfl (sl_in1 204 (by decide +kernel) rfl) rfl (fun _ _ h9 => h9) rfl (by decide) rfl (by decide) (show decode prog_3_method_1_code 7 = .ok (.newarray .int, 2) by decide +kernel) (Nat.le_of_ble_eq_true rfl) (Nat.le_of_ble_eq_true rfl) hG hS (fun H hG hS => ?_)
  refine cw_putF (v := .ref (sl_b g + (N + 0))) (k := 0) (ci := 1) (ty := .array .int) F hin ho sl_i1 sl_t1 sl_ty1 sl_nm1 rfl (by decide) (sl_in1 211 (by decide +kernel) rfl) rfl rfl (by decide +kernel) rfl rfl (show decode prog_3_method_1_code 9 = .ok (.putfield 9, 3) by decide +kernel) (Nat.le_of_ble_eq_true rfl) hG hS (fun H locs hG hS => ?_)
  refine lv_aload_n hx hb (show decode prog_3_method_1_code 12 = .ok (.aload_n 0, 1) by decide +kernel) rfl (lv_at hl 0 rfl) ?_
  refine lv_bipush (v := 30) hx hb (show decode prog_3_method_1_code 13 = .ok (.bipush 30, 2) by decide +kernel) (by decide) ?_
  refine cw_newa (t0 := 0) (atype := .int) (n := 30) F ho (j := 1) rfl (sl_in1 204 (by decide +kernel) rfl) rfl (fun _ _ h9 => h9) rfl (by decide) rfl (by decide) (show decode prog_3_method_1_code 15 = .ok (.newarray .int, 2) by decide +kernel) (Nat.le_of_ble_eq_true rfl) (Nat.le_of_ble_eq_true rfl) hG hS (fun H hG hS => ?_)
  refine cw_putF (v := .ref (sl_b g + (N + 1))) (k := 1) (ci := 1) (ty := .array .int) F hin ho sl_i1 sl_t1 sl_ty1 sl_nm1 rfl (by decide) (sl_in1 213 (by decide +kernel) rfl) rfl rfl (by decide +kernel) rfl rfl (show decode prog_3_method_1_code 17 = .ok (.putfield 15, 3) by decide +kernel) (Nat.le_of_ble_eq_true rfl) hG hS (fun H locs hG hS => ?_)
  refine lv_aload_n hx hb (show decode prog_3_method_1_code 20 = .ok (.aload_n 0, 1) by decide +kernel) rfl (lv_at hl 0 rfl) ?_
  refine lv_bipush (v := 31) hx hb (show decode prog_3_method_1_code 21 = .ok (.bipush 31, 2) by decide +kernel) (by decide) ?_
  refine cw_newa (t0 := 0) (atype := .int) (n := 31) F ho (j := 2) rfl (sl_in1 204 (by decide +kernel) rfl) rfl (fun _ _ h9 => h9) rfl (by decide) rfl (by decide) (show decode prog_3_method_1_code 23 = .ok (.newarray .int, 2) by decide +kernel) (Nat.le_of_ble_eq_true rfl) (Nat.le_of_ble_eq_true rfl) hG hS (fun H hG hS => ?_)
  refine cw_putF (v := .ref (sl_b g + (N + 2))) (k := 3) (ci := 1) (ty := .array .int) F hin ho sl_i1 sl_t1 sl_ty1 sl_nm1 rfl (by decide) (sl_in1 217 (by decide +kernel) rfl) rfl rfl (by decide +kernel) rfl rfl (show decode prog_3_method_1_code 25 = .ok (.putfield 18, 3) by decide +kernel) (Nat.le_of_ble_eq_true rfl) hG hS (fun H locs hG hS => ?_)
  exact W.vret hx hb hr (fun t ht hW => ⟨⟨(), rfl, trivial, gw_fin hG ht⟩, hS.F ht⟩) hS.2.2 (show decode prog_3_method_1_code 28 = .ok (.return_, 1) by decide +kernel)
set_option maxRecDepth 100000 in
set_option maxHeartbeats 4000000 in
theorem ct_10 (g : sl_G) {e : Nat → va_E} {N o0 : Nat} (ho : o0 < N) (he : e o0 = .inr (10, [.null, .int 0, .int 0, .int 0])) : gw_Met g ⟨"SpanLayers$Tape", "<init>", "()V"⟩ prog_12_method_1_code 1 2 [.ref (sl_b g + o0)] e N (ce e N o0 (.inr (10, [.ref (sl_b g + (N + 0)), .int 0, .int 0, .int (-1)])) [.inl (sl_ca g 0, 80, .inl (fun _ => 0))]) (N + 1) 1 80 := by
  refine gw_mk (by decide) rfl (Nat.le_of_ble_eq_true rfl) ?_
  intro p e0 s m args below meth c ls F hr hlk hin hl hG hS
  have hl : lv_has ls 1 [(0, .ref (sl_b g + o0))] := hl
  obtain ⟨hx, hb, hml, hown, hts, hK, -⟩ := id F
  replace hG := ce_0 he hG
  refine lv_aload_n hx hb (show decode prog_12_method_1_code 0 = .ok (.aload_n 0, 1) by decide +kernel) rfl (lv_at hl 0 rfl) ?_
  refine W.objInit hx hb hown (hts _ (sl_in1 234 (by decide +kernel) rfl)) (hts _ (sl_in1 110 (by decide +kernel) rfl)) (hts _ (sl_in1 111 (by decide +kernel) rfl)) rfl (by rw [hml]; exact hl.1) rfl (show decode prog_12_method_1_code 1 = .ok (.invokespecial 3, 3) by decide +kernel) (Nat.le_of_ble_eq_true rfl) (Nat.le_of_ble_eq_true rfl) ?_
  refine W.eq (g2 := F0 m 4 ls []) rfl ?_
  refine lv_aload_n hx hb (show decode prog_12_method_1_code 4 = .ok (.aload_n 0, 1) by decide +kernel) rfl (lv_at hl 0 rfl) ?_
  refine lv_bipush (v := 80) hx hb (show decode prog_12_method_1_code 5 = .ok (.bipush 80, 2) by decide +kernel) (by decide) ?_
  refine cw_newa (t0 := 0) (atype := .int) (n := 80) F ho (j := 0) rfl (sl_in1 204 (by decide +kernel) rfl) rfl (fun _ _ h9 => h9) rfl (by decide) rfl (by decide) (show decode prog_12_method_1_code 7 = .ok (.newarray .int, 2) by decide +kernel) (Nat.le_of_ble_eq_true rfl) (Nat.le_of_ble_eq_true rfl) hG hS (fun H hG hS => ?_)
  refine cw_putF (v := .ref (sl_b g + (N + 0))) (k := 0) (ci := 10) (ty := .array .int) F hin ho sl_i10 sl_t10 sl_ty10 sl_nm10 rfl (by decide) (sl_in1 235 (by decide +kernel) rfl) rfl rfl (by decide +kernel) rfl rfl (show decode prog_12_method_1_code 9 = .ok (.putfield 9, 3) by decide +kernel) (Nat.le_of_ble_eq_true rfl) hG hS (fun H locs hG hS => ?_)
  refine lv_aload_n hx hb (show decode prog_12_method_1_code 12 = .ok (.aload_n 0, 1) by decide +kernel) rfl (lv_at hl 0 rfl) ?_
  refine lv_iconst (v := (-1)) hx hb (show decode prog_12_method_1_code 13 = .ok (.iconst (-1), 1) by decide +kernel) (by decide) ?_
  refine cw_put (v := .int (-1)) (k := 3) (ci := 10) (ty := .int) F ho sl_i10 sl_t10 sl_ty10 sl_nm10 rfl (by decide) (sl_in1 241 (by decide +kernel) rfl) rfl (by decide +kernel) rfl rfl (show decode prog_12_method_1_code 14 = .ok (.putfield 15, 3) by decide +kernel) (Nat.le_of_ble_eq_true rfl) hG hS (fun H locs hG hS => ?_)
  exact W.vret hx hb hr (fun t ht hW => ⟨⟨(), rfl, trivial, gw_fin hG ht⟩, hS.F ht⟩) hS.2.2 (show decode prog_12_method_1_code 17 = .ok (.return_, 1) by decide +kernel)
set_option maxRecDepth 100000 in
set_option maxHeartbeats 4000000 in
theorem ct_2 (g : sl_G) {e : Nat → va_E} {N o0 : Nat} (ho : o0 < N) (he : e o0 = .inr (2, [])) : gw_Met g ⟨"SpanLayers$Condition", "<init>", "()V"⟩ prog_4_method_1_code 1 2 [.ref (sl_b g + o0)] e N (ce e N o0 (.inr (2, [])) []) (N + 0) 0 0 := by
  refine gw_mk (by decide) rfl (Nat.le_of_ble_eq_true rfl) ?_
  intro p e0 s m args below meth c ls F hr hlk hin hl hG hS
  have hl : lv_has ls 1 [(0, .ref (sl_b g + o0))] := hl
  obtain ⟨hx, hb, hml, hown, hts, hK, -⟩ := id F
  replace hG := ce_0 he hG
  refine lv_aload_n hx hb (show decode prog_4_method_1_code 0 = .ok (.aload_n 0, 1) by decide +kernel) rfl (lv_at hl 0 rfl) ?_
  refine W.objInit hx hb hown (hts _ (sl_in1 256 (by decide +kernel) rfl)) (hts _ (sl_in1 110 (by decide +kernel) rfl)) (hts _ (sl_in1 111 (by decide +kernel) rfl)) rfl (by rw [hml]; exact hl.1) rfl (show decode prog_4_method_1_code 1 = .ok (.invokespecial 3, 3) by decide +kernel) (Nat.le_of_ble_eq_true rfl) (Nat.le_of_ble_eq_true rfl) ?_
  refine W.eq (g2 := F0 m 4 ls []) rfl ?_
  exact W.vret hx hb hr (fun t ht hW => ⟨⟨(), rfl, trivial, gw_fin hG ht⟩, hS.F ht⟩) hS.2.2 (show decode prog_4_method_1_code 4 = .ok (.return_, 1) by decide +kernel)
set_option maxRecDepth 100000 in
set_option maxHeartbeats 4000000 in
theorem ct_0 (g : sl_G) {e : Nat → va_E} {N o0 : Nat} (ho : o0 < N) (he : e o0 = .inr (0, [.null, .null, .null, .int 0])) : gw_Met g ⟨"SpanLayers$Change", "<init>", "()V"⟩ prog_2_method_1_code 1 2 [.ref (sl_b g + o0)] e N (ce e N o0 (.inr (0, [.ref (sl_b g + (N + 0)), .ref (sl_b g + (N + 1)), .ref (sl_b g + (N + 2)), .int 0])) [.inl (sl_ca g 0, 5, .inl (fun _ => 0)), .inl (sl_ca g 0, 5, .inl (fun _ => 0)), .inl (sl_ca g 0, 5, .inl (fun _ => 0))]) (N + 3) 3 15 := by
  refine gw_mk (by decide) rfl (Nat.le_of_ble_eq_true rfl) ?_
  intro p e0 s m args below meth c ls F hr hlk hin hl hG hS
  have hl : lv_has ls 1 [(0, .ref (sl_b g + o0))] := hl
  obtain ⟨hx, hb, hml, hown, hts, hK, -⟩ := id F
  replace hG := ce_0 he hG
  refine lv_aload_n hx hb (show decode prog_2_method_1_code 0 = .ok (.aload_n 0, 1) by decide +kernel) rfl (lv_at hl 0 rfl) ?_
  refine W.objInit hx hb hown (hts _ (sl_in1 263 (by decide +kernel) rfl)) (hts _ (sl_in1 110 (by decide +kernel) rfl)) (hts _ (sl_in1 111 (by decide +kernel) rfl)) rfl (by rw [hml]; exact hl.1) rfl (show decode prog_2_method_1_code 1 = .ok (.invokespecial 3, 3) by decide +kernel) (Nat.le_of_ble_eq_true rfl) (Nat.le_of_ble_eq_true rfl) ?_
  refine W.eq (g2 := F0 m 4 ls []) rfl ?_
  refine lv_aload_n hx hb (show decode prog_2_method_1_code 4 = .ok (.aload_n 0, 1) by decide +kernel) rfl (lv_at hl 0 rfl) ?_
  refine lv_iconst (v := 5) hx hb (show decode prog_2_method_1_code 5 = .ok (.iconst 5, 1) by decide +kernel) (by decide) ?_
  refine cw_newa (t0 := 0) (atype := .int) (n := 5) F ho (j := 0) rfl (sl_in1 204 (by decide +kernel) rfl) rfl (fun _ _ h9 => h9) rfl (by decide) rfl (by decide) (show decode prog_2_method_1_code 6 = .ok (.newarray .int, 2) by decide +kernel) (Nat.le_of_ble_eq_true rfl) (Nat.le_of_ble_eq_true rfl) hG hS (fun H hG hS => ?_)
  refine cw_putF (v := .ref (sl_b g + (N + 0))) (k := 0) (ci := 0) (ty := .array .int) F hin ho sl_i0 sl_t0 sl_ty0 sl_nm0 rfl (by decide) (sl_in1 264 (by decide +kernel) rfl) rfl rfl (by decide +kernel) rfl rfl (show decode prog_2_method_1_code 8 = .ok (.putfield 9, 3) by decide +kernel) (Nat.le_of_ble_eq_true rfl) hG hS (fun H locs hG hS => ?_)
  refine lv_aload_n hx hb (show decode prog_2_method_1_code 11 = .ok (.aload_n 0, 1) by decide +kernel) rfl (lv_at hl 0 rfl) ?_
  refine lv_iconst (v := 5) hx hb (show decode prog_2_method_1_code 12 = .ok (.iconst 5, 1) by decide +kernel) (by decide) ?_
  refine cw_newa (t0 := 0) (atype := .int) (n := 5) F ho (j := 1) rfl (sl_in1 204 (by decide +kernel) rfl) rfl (fun _ _ h9 => h9) rfl (by decide) rfl (by decide) (show decode prog_2_method_1_code 13 = .ok (.newarray .int, 2) by decide +kernel) (Nat.le_of_ble_eq_true rfl) (Nat.le_of_ble_eq_true rfl) hG hS (fun H hG hS => ?_)
  refine cw_putF (v := .ref (sl_b g + (N + 1))) (k := 1) (ci := 0) (ty := .array .int) F hin ho sl_i0 sl_t0 sl_ty0 sl_nm0 rfl (by decide) (sl_in1 265 (by decide +kernel) rfl) rfl rfl (by decide +kernel) rfl rfl (show decode prog_2_method_1_code 15 = .ok (.putfield 15, 3) by decide +kernel) (Nat.le_of_ble_eq_true rfl) hG hS (fun H locs hG hS => ?_)
  refine lv_aload_n hx hb (show decode prog_2_method_1_code 18 = .ok (.aload_n 0, 1) by decide +kernel) rfl (lv_at hl 0 rfl) ?_
  refine lv_iconst (v := 5) hx hb (show decode prog_2_method_1_code 19 = .ok (.iconst 5, 1) by decide +kernel) (by decide) ?_
  refine cw_newa (t0 := 0) (atype := .int) (n := 5) F ho (j := 2) rfl (sl_in1 204 (by decide +kernel) rfl) rfl (fun _ _ h9 => h9) rfl (by decide) rfl (by decide) (show decode prog_2_method_1_code 20 = .ok (.newarray .int, 2) by decide +kernel) (Nat.le_of_ble_eq_true rfl) (Nat.le_of_ble_eq_true rfl) hG hS (fun H hG hS => ?_)
  refine cw_putF (v := .ref (sl_b g + (N + 2))) (k := 2) (ci := 0) (ty := .array .int) F hin ho sl_i0 sl_t0 sl_ty0 sl_nm0 rfl (by decide) (sl_in1 266 (by decide +kernel) rfl) rfl rfl (by decide +kernel) rfl rfl (show decode prog_2_method_1_code 22 = .ok (.putfield 18, 3) by decide +kernel) (Nat.le_of_ble_eq_true rfl) hG hS (fun H locs hG hS => ?_)
  exact W.vret hx hb hr (fun t ht hW => ⟨⟨(), rfl, trivial, gw_fin hG ht⟩, hS.F ht⟩) hS.2.2 (show decode prog_2_method_1_code 25 = .ok (.return_, 1) by decide +kernel)
set_option maxRecDepth 100000 in
set_option maxHeartbeats 4000000 in
theorem ct_7 (g : sl_G) {e : Nat → va_E} {N o0 : Nat} (ho : o0 < N) (he : e o0 = .inr (7, [.null, .null, .null, .int 0])) : gw_Met g ⟨"SpanLayers$Parts", "<init>", "()V"⟩ prog_9_method_1_code 1 2 [.ref (sl_b g + o0)] e N (ce e N o0 (.inr (7, [.ref (sl_b g + (N + 0)), .ref (sl_b g + (N + 1)), .ref (sl_b g + (N + 2)), .int 0])) [.inl (sl_ca g 0, 20, .inl (fun _ => 0)), .inl (sl_ca g 0, 20, .inl (fun _ => 0)), .inl (sl_ca g 0, 20, .inl (fun _ => 0))]) (N + 3) 3 60 := by
  refine gw_mk (by decide) rfl (Nat.le_of_ble_eq_true rfl) ?_
  intro p e0 s m args below meth c ls F hr hlk hin hl hG hS
  have hl : lv_has ls 1 [(0, .ref (sl_b g + o0))] := hl
  obtain ⟨hx, hb, hml, hown, hts, hK, -⟩ := id F
  replace hG := ce_0 he hG
  refine lv_aload_n hx hb (show decode prog_9_method_1_code 0 = .ok (.aload_n 0, 1) by decide +kernel) rfl (lv_at hl 0 rfl) ?_
  refine W.objInit hx hb hown (hts _ (sl_in1 282 (by decide +kernel) rfl)) (hts _ (sl_in1 110 (by decide +kernel) rfl)) (hts _ (sl_in1 111 (by decide +kernel) rfl)) rfl (by rw [hml]; exact hl.1) rfl (show decode prog_9_method_1_code 1 = .ok (.invokespecial 3, 3) by decide +kernel) (Nat.le_of_ble_eq_true rfl) (Nat.le_of_ble_eq_true rfl) ?_
  refine W.eq (g2 := F0 m 4 ls []) rfl ?_
  refine lv_aload_n hx hb (show decode prog_9_method_1_code 4 = .ok (.aload_n 0, 1) by decide +kernel) rfl (lv_at hl 0 rfl) ?_
  refine lv_bipush (v := 20) hx hb (show decode prog_9_method_1_code 5 = .ok (.bipush 20, 2) by decide +kernel) (by decide) ?_
  refine cw_newa (t0 := 0) (atype := .int) (n := 20) F ho (j := 0) rfl (sl_in1 204 (by decide +kernel) rfl) rfl (fun _ _ h9 => h9) rfl (by decide) rfl (by decide) (show decode prog_9_method_1_code 7 = .ok (.newarray .int, 2) by decide +kernel) (Nat.le_of_ble_eq_true rfl) (Nat.le_of_ble_eq_true rfl) hG hS (fun H hG hS => ?_)
  refine cw_putF (v := .ref (sl_b g + (N + 0))) (k := 0) (ci := 7) (ty := .array .int) F hin ho sl_i7 sl_t7 sl_ty7 sl_nm7 rfl (by decide) (sl_in1 283 (by decide +kernel) rfl) rfl rfl (by decide +kernel) rfl rfl (show decode prog_9_method_1_code 9 = .ok (.putfield 9, 3) by decide +kernel) (Nat.le_of_ble_eq_true rfl) hG hS (fun H locs hG hS => ?_)
  refine lv_aload_n hx hb (show decode prog_9_method_1_code 12 = .ok (.aload_n 0, 1) by decide +kernel) rfl (lv_at hl 0 rfl) ?_
  refine lv_bipush (v := 20) hx hb (show decode prog_9_method_1_code 13 = .ok (.bipush 20, 2) by decide +kernel) (by decide) ?_
  refine cw_newa (t0 := 0) (atype := .int) (n := 20) F ho (j := 1) rfl (sl_in1 204 (by decide +kernel) rfl) rfl (fun _ _ h9 => h9) rfl (by decide) rfl (by decide) (show decode prog_9_method_1_code 15 = .ok (.newarray .int, 2) by decide +kernel) (Nat.le_of_ble_eq_true rfl) (Nat.le_of_ble_eq_true rfl) hG hS (fun H hG hS => ?_)
  refine cw_putF (v := .ref (sl_b g + (N + 1))) (k := 1) (ci := 7) (ty := .array .int) F hin ho sl_i7 sl_t7 sl_ty7 sl_nm7 rfl (by decide) (sl_in1 284 (by decide +kernel) rfl) rfl rfl (by decide +kernel) rfl rfl (show decode prog_9_method_1_code 17 = .ok (.putfield 15, 3) by decide +kernel) (Nat.le_of_ble_eq_true rfl) hG hS (fun H locs hG hS => ?_)
  refine lv_aload_n hx hb (show decode prog_9_method_1_code 20 = .ok (.aload_n 0, 1) by decide +kernel) rfl (lv_at hl 0 rfl) ?_
  refine lv_bipush (v := 20) hx hb (show decode prog_9_method_1_code 21 = .ok (.bipush 20, 2) by decide +kernel) (by decide) ?_
  refine cw_newa (t0 := 0) (atype := .int) (n := 20) F ho (j := 2) rfl (sl_in1 204 (by decide +kernel) rfl) rfl (fun _ _ h9 => h9) rfl (by decide) rfl (by decide) (show decode prog_9_method_1_code 23 = .ok (.newarray .int, 2) by decide +kernel) (Nat.le_of_ble_eq_true rfl) (Nat.le_of_ble_eq_true rfl) hG hS (fun H hG hS => ?_)
  refine cw_putF (v := .ref (sl_b g + (N + 2))) (k := 2) (ci := 7) (ty := .array .int) F hin ho sl_i7 sl_t7 sl_ty7 sl_nm7 rfl (by decide) (sl_in1 285 (by decide +kernel) rfl) rfl rfl (by decide +kernel) rfl rfl (show decode prog_9_method_1_code 25 = .ok (.putfield 18, 3) by decide +kernel) (Nat.le_of_ble_eq_true rfl) hG hS (fun H locs hG hS => ?_)
  exact W.vret hx hb hr (fun t ht hW => ⟨⟨(), rfl, trivial, gw_fin hG ht⟩, hS.F ht⟩) hS.2.2 (show decode prog_9_method_1_code 28 = .ok (.return_, 1) by decide +kernel)
set_option maxRecDepth 100000 in
set_option maxHeartbeats 4000000 in
theorem ct_6 (g : sl_G) {e : Nat → va_E} {N o0 : Nat} (ho : o0 < N) (he : e o0 = .inr (6, [.null, .int 0])) : gw_Met g ⟨"SpanLayers$Paper", "<init>", "()V"⟩ prog_8_method_1_code 1 2 [.ref (sl_b g + o0)] e N (ce e N o0 (.inr (6, [.ref (sl_b g + (N + 0)), .int 0])) [.inl (sl_ca g 0, 360, .inl (fun _ => 0))]) (N + 1) 1 360 := by
  refine gw_mk (by decide) rfl (Nat.le_of_ble_eq_true rfl) ?_
  intro p e0 s m args below meth c ls F hr hlk hin hl hG hS
  have hl : lv_has ls 1 [(0, .ref (sl_b g + o0))] := hl
  obtain ⟨hx, hb, hml, hown, hts, hK, -⟩ := id F
  replace hG := ce_0 he hG
  refine lv_aload_n hx hb (show decode prog_8_method_1_code 0 = .ok (.aload_n 0, 1) by decide +kernel) rfl (lv_at hl 0 rfl) ?_
  refine W.objInit hx hb hown (hts _ (sl_in1 301 (by decide +kernel) rfl)) (hts _ (sl_in1 110 (by decide +kernel) rfl)) (hts _ (sl_in1 111 (by decide +kernel) rfl)) rfl (by rw [hml]; exact hl.1) rfl (show decode prog_8_method_1_code 1 = .ok (.invokespecial 3, 3) by decide +kernel) (Nat.le_of_ble_eq_true rfl) (Nat.le_of_ble_eq_true rfl) ?_
  refine W.eq (g2 := F0 m 4 ls []) rfl ?_
  refine lv_aload_n hx hb (show decode prog_8_method_1_code 4 = .ok (.aload_n 0, 1) by decide +kernel) rfl (lv_at hl 0 rfl) ?_
  refine lv_sipush (v := 360) hx hb (show decode prog_8_method_1_code 5 = .ok (.sipush 360, 3) by decide +kernel) (by decide) ?_
  refine cw_newa (t0 := 0) (atype := .int) (n := 360) F ho (j := 0) rfl (sl_in1 204 (by decide +kernel) rfl) rfl (fun _ _ h9 => h9) rfl (by decide) rfl (by decide) (show decode prog_8_method_1_code 8 = .ok (.newarray .int, 2) by decide +kernel) (Nat.le_of_ble_eq_true rfl) (Nat.le_of_ble_eq_true rfl) hG hS (fun H hG hS => ?_)
  refine cw_putF (v := .ref (sl_b g + (N + 0))) (k := 0) (ci := 6) (ty := .array .int) F hin ho sl_i6 sl_t6 sl_ty6 sl_nm6 rfl (by decide) (sl_in1 302 (by decide +kernel) rfl) rfl rfl (by decide +kernel) rfl rfl (show decode prog_8_method_1_code 10 = .ok (.putfield 9, 3) by decide +kernel) (Nat.le_of_ble_eq_true rfl) hG hS (fun H locs hG hS => ?_)
  exact W.vret hx hb hr (fun t ht hW => ⟨⟨(), rfl, trivial, gw_fin hG ht⟩, hS.F ht⟩) hS.2.2 (show decode prog_8_method_1_code 13 = .ok (.return_, 1) by decide +kernel)
set_option maxRecDepth 100000 in
set_option maxHeartbeats 4000000 in
theorem ct_8 (g : sl_G) {e : Nat → va_E} {N o0 : Nat} (ho : o0 < N) (he : e o0 = .inr (8, [.null, .int 0, .int 0])) : gw_Met g ⟨"SpanLayers$Row", "<init>", "()V"⟩ prog_10_method_1_code 1 2 [.ref (sl_b g + o0)] e N (ce e N o0 (.inr (8, [.ref (sl_b g + (N + 0)), .int 0, .int 0])) [.inl (sl_ca g 0, 40, .inl (fun _ => 0))]) (N + 1) 1 40 := by
  refine gw_mk (by decide) rfl (Nat.le_of_ble_eq_true rfl) ?_
  intro p e0 s m args below meth c ls F hr hlk hin hl hG hS
  have hl : lv_has ls 1 [(0, .ref (sl_b g + o0))] := hl
  obtain ⟨hx, hb, hml, hown, hts, hK, -⟩ := id F
  replace hG := ce_0 he hG
  refine lv_aload_n hx hb (show decode prog_10_method_1_code 0 = .ok (.aload_n 0, 1) by decide +kernel) rfl (lv_at hl 0 rfl) ?_
  refine W.objInit hx hb hown (hts _ (sl_in1 343 (by decide +kernel) rfl)) (hts _ (sl_in1 110 (by decide +kernel) rfl)) (hts _ (sl_in1 111 (by decide +kernel) rfl)) rfl (by rw [hml]; exact hl.1) rfl (show decode prog_10_method_1_code 1 = .ok (.invokespecial 3, 3) by decide +kernel) (Nat.le_of_ble_eq_true rfl) (Nat.le_of_ble_eq_true rfl) ?_
  refine W.eq (g2 := F0 m 4 ls []) rfl ?_
  refine lv_aload_n hx hb (show decode prog_10_method_1_code 4 = .ok (.aload_n 0, 1) by decide +kernel) rfl (lv_at hl 0 rfl) ?_
  refine lv_bipush (v := 40) hx hb (show decode prog_10_method_1_code 5 = .ok (.bipush 40, 2) by decide +kernel) (by decide) ?_
  refine cw_newa (t0 := 0) (atype := .int) (n := 40) F ho (j := 0) rfl (sl_in1 204 (by decide +kernel) rfl) rfl (fun _ _ h9 => h9) rfl (by decide) rfl (by decide) (show decode prog_10_method_1_code 7 = .ok (.newarray .int, 2) by decide +kernel) (Nat.le_of_ble_eq_true rfl) (Nat.le_of_ble_eq_true rfl) hG hS (fun H hG hS => ?_)
  refine cw_putF (v := .ref (sl_b g + (N + 0))) (k := 0) (ci := 8) (ty := .array .int) F hin ho sl_i8 sl_t8 sl_ty8 sl_nm8 rfl (by decide) (sl_in1 344 (by decide +kernel) rfl) rfl rfl (by decide +kernel) rfl rfl (show decode prog_10_method_1_code 9 = .ok (.putfield 9, 3) by decide +kernel) (Nat.le_of_ble_eq_true rfl) hG hS (fun H locs hG hS => ?_)
  exact W.vret hx hb hr (fun t ht hW => ⟨⟨(), rfl, trivial, gw_fin hG ht⟩, hS.F ht⟩) hS.2.2 (show decode prog_10_method_1_code 12 = .ok (.return_, 1) by decide +kernel)
