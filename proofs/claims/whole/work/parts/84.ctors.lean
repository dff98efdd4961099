/-! the constructors: a cursor; rows for stores into what is new -/
section GW4
variable {p : Program} {g : sl_G} {e0 : Env} {R : Room} {s : State} {m : MethodId} {args : Array Value} {below : List Frame} {meth : Method} {c : Code} {H : Heap} {locs : List Loc} {cells slots : Nat} {Q : State → Prop}
variable {cc : ByteArray} {pc nL : Nat} {ls : Array Slot} {rest : List Value} {e : Nat → va_E} {N o0 j : Nat} {own : String} {E : va_E} {L : List va_E}
theorem ce_at (ho : o0 < N) {i : Nat} {X : va_E} (h : L[i]? = some X) : ce e N o0 E L (N + i) = X := by
  unfold ce
  rw [if_neg (by omega), if_neg (by omega), show N + i - N = i by omega]
  simp [List.getD, h]
theorem cw_iast (F : gx g p s m args c own cc nL) (ho : o0 < N) (hL : L.length = j) {n i k : Nat} {f : Nat → Int32} {x : Int32} (hk : L[k]? = some (.inl (sl_ca g 0, n, .inl f))) (hi : i < n) (hn : n < 100000) (hdg : decode cc pc = .ok (.iastore, 1)) (hG : sl_Gw g (ce e N o0 E L) (N + j) H) (hS : va_S (sl_A g) s.heap H locs)
    (kk : ∀ (H1 : Heap) (locs1 : List Loc), sl_Gw g (ce e N o0 E (L.set k (.inl (sl_ca g 0, n, .inl (upd f i x))))) (N + j) H1 → va_S (sl_A g) s.heap H1 locs1 → W p g.1 e0 R s m args below meth c H1 locs1 cells slots Q (F0 m (pc + 1) ls rest)) : W p g.1 e0 R s m args below meth c H locs cells slots Q (F0 m pc ls (.int x :: .int (nI i) :: .ref (sl_b g + (N + k)) :: rest)) := by
  have hkl : k < L.length := (List.getElem?_eq_some_iff.mp hk).1
  exact gw_iast F hi hn hdg (by omega) (ce_at ho hk) hG hS (fun H1 l1 hG1 hS1 => kk H1 l1 (by rw [ce_upd ho hkl] at hG1; exact hG1) hS1)
theorem cw_new (F : gx g p s m args c own cc nL) (ho : o0 < N) (hL : L.length = j) {C : String} {T : u_T} {NF ci index : Nat} (hin : ∀ w ∈ u_ws C T NF, w ∈ sl_T0) (ty : Nat → FieldType) (hty : ∀ k, k < NF → parseFieldDescriptor (T k).2.2.1 = some (ty k)) (hcl : Cond.classLink own index C ∈ sl_T0) (hinst : Cond.instantiable C NF ∈ sl_T0) (hini : Cond.initialized C ∈ sl_T0) (hc : sl_cl[ci]? = some (C, T, NF)) {fs : List Value} (hfs : ∀ j, j < NF → defaultValue (ty j) = vp_V fs j) (hdg : decode cc pc = .ok (.new index, 3)) (hcells : cells + 1 ≤ R.cells) (hslots : slots + NF ≤ R.slots) (hG : sl_Gw g (ce e N o0 E L) (N + j) H) (hS : va_S (sl_A g) s.heap H locs)
    (kk : ∀ H1, sl_Gw g (ce e N o0 E (L ++ [.inr (ci, fs)])) (N + (j + 1)) H1 → va_S (sl_A g) s.heap H1 locs → W p g.1 e0 R s m args below meth c H1 locs (cells + 1) (slots + NF) Q (F0 m (pc + 3) ls (.ref (sl_b g + (N + j)) :: rest))) : W p g.1 e0 R s m args below meth c H locs cells slots Q (F0 m pc ls rest) :=
  gw_new F hin ty hty hcl hinst hini hc hfs hdg hcells hslots hG hS (fun H1 hG1 hS1 => kk H1 (by rw [ce_new ho hL] at hG1; exact hG1) hS1)
/-- behind a constructor that filled the cell N + k and made nothing -/
theorem ce_in (ho : o0 < N) (hL : L.length = j) {k : Nat} (hk : k < j) {X : va_E} (h : sl_Gw g (ce (ce e N o0 E L) (N + j) (N + k) X []) (N + j + 0) H) : sl_Gw g (ce e N o0 E (L.set k X)) (N + j) H := by
  refine h.cong (fun o h1 => ?_)
  rw [← ce_upd ho (by omega)]
  show (if o = N + k then X else _) = (if o = N + k then X else _)
  by_cases h2 : o = N + k
  · rw [if_pos h2, if_pos h2]
  · rw [if_neg h2, if_neg h2, if_pos (show o < N + j from h1)]
end GW4
theorem df9 : ∀ j, j < 6 → defaultValue (sl_t9 j) = vp_V [.int 0, .int 0, .int 0, .int 0, .int 0, .int 0] j := by
  intro j hj
  rcases (show j = 0 ∨ j = 1 ∨ j = 2 ∨ j = 3 ∨ j = 4 ∨ j = 5 by omega) with rfl | rfl | rfl | rfl | rfl | rfl <;> rfl
set_option maxRecDepth 100000 in
set_option maxHeartbeats 4000000 in
theorem ct_4 (g : sl_G) {e : Nat → va_E} {N o0 : Nat} (ho : o0 < N) (he : e o0 = .inr (4, [.int 0, .int 0, .int 0, .null])) : gw_Met g ⟨"SpanLayers$Cursor", "<init>", "()V"⟩ prog_6_method_1_code 1 3 [.ref (sl_b g + o0)] e N (ce e N o0 (.inr (4, [.int 0, .int 0, .int 0, .ref (sl_b g + (N + 0))])) [.inr (9, [.int 0, .int 0, .int 0, .int 0, .int 0, .int 0])]) (N + 1) 1 6 := by
  refine gw_mk (by decide) rfl (Nat.le_of_ble_eq_true rfl) ?_
  intro p e0 s m args below meth c ls F hr hlk hin hl hG hS
  have hl : lv_has ls 1 [(0, .ref (sl_b g + o0))] := hl
  obtain ⟨hx, hb, hml, hown, hts, hK, -⟩ := id F
  replace hG := ce_0 he hG
  refine lv_aload_n hx hb (show decode prog_6_method_1_code 0 = .ok (.aload_n 0, 1) by decide +kernel) rfl (lv_at hl 0 rfl) ?_
  refine W.objInit hx hb hown (hts _ (sl_in1 317 (by decide +kernel) rfl)) (hts _ (sl_in1 110 (by decide +kernel) rfl)) (hts _ (sl_in1 111 (by decide +kernel) rfl)) rfl (by rw [hml]; exact hl.1) rfl (show decode prog_6_method_1_code 1 = .ok (.invokespecial 1, 3) by decide +kernel) (Nat.le_of_ble_eq_true rfl) (Nat.le_of_ble_eq_true rfl) ?_
  refine W.eq (g2 := F0 m 4 ls []) rfl ?_
  refine lv_aload_n hx hb (show decode prog_6_method_1_code 4 = .ok (.aload_n 0, 1) by decide +kernel) rfl (lv_at hl 0 rfl) ?_
  refine cw_new (ci := 9) (fs := [.int 0, .int 0, .int 0, .int 0, .int 0, .int 0]) F ho (j := 0) rfl sl_i9 sl_t9 sl_ty9 (sl_in1 318 (by decide +kernel) rfl) (sl_in1 120 (by decide +kernel) rfl) (sl_in1 87 (by decide +kernel) rfl) rfl df9 (show decode prog_6_method_1_code 5 = .ok (.new 7, 3) by decide +kernel) (Nat.le_of_ble_eq_true rfl) (Nat.le_of_ble_eq_true rfl) hG hS (fun H hG hS => ?_)
  refine lv_dup hx hb (show decode prog_6_method_1_code 8 = .ok (.dup, 1) by decide +kernel) rfl ?_
  refine lv_iconst (v := 0) hx hb (show decode prog_6_method_1_code 9 = .ok (.iconst 0, 1) by decide +kernel) (by decide) ?_
  refine gw_callI (As := [.int 0]) (rest := [.ref (sl_b g + (N + 0)), .ref (sl_b g + o0)]) F (ct_9 g (N := N + (0 + 1)) (o0 := N + 0) (by omega) 0 (ce_at ho rfl)) (sl_in1 319 (by decide +kernel) rfl) (sl_in1 122 (by decide +kernel) rfl) (sl_in1 87 (by decide +kernel) rfl) (sl_in1 123 (by decide +kernel) rfl) (by decide +kernel) rfl rfl (by decide) (Nat.le_of_ble_eq_true rfl) (Nat.le_of_ble_eq_true rfl) (show decode prog_6_method_1_code 10 = .ok (.invokespecial 9, 3) by decide +kernel) hl.1 (Nat.le_of_ble_eq_true rfl) (Nat.le_of_ble_eq_true rfl) (Nat.le_of_ble_eq_true rfl) (Nat.le_of_ble_eq_true rfl) (Nat.le_of_ble_eq_true rfl) hG hS (fun H locs hG hS => ?_)
  replace hG := ce_in ho (j := 0 + 1) rfl (k := 0) (by omega) hG
  refine cw_putF (v := .ref (sl_b g + (N + 0))) (k := 3) (ci := 4) (ty := .object "SpanLayers$Span") F hin ho sl_i4 sl_t4 sl_ty4 sl_nm4 rfl (by decide) (sl_in1 327 (by decide +kernel) rfl) rfl rfl (by decide +kernel) rfl rfl (show decode prog_6_method_1_code 13 = .ok (.putfield 12, 3) by decide +kernel) (Nat.le_of_ble_eq_true rfl) hG hS (fun H locs hG hS => ?_)
  exact W.vret hx hb hr (fun t ht hW => ⟨⟨(), rfl, trivial, gw_fin hG ht⟩, hS.F ht⟩) hS.2.2 (show decode prog_6_method_1_code 16 = .ok (.return_, 1) by decide +kernel)
