/-! the constructors: an index of 30 spans -/
def ixf (g : sl_G) (N k : Nat) : Nat → Option Nat := fun i => if i < k then some (sl_b g + (N + 2 + i)) else none
def spE (j : Nat) : va_E := .inr (9, [.int (nI j), .int 0, .int 0, .int 0, .int 0, .int 0])
def ixe (g : sl_G) (e : Nat → va_E) (N o0 k : Nat) : Nat → va_E := fun o => if o = o0 then .inr (5, [.ref (sl_b g + (N + 0)), .ref (sl_b g + (N + 1))]) else if o < N then e o else if o = N + 0 then .inl (sl_ca g 2, 30, sl_rf (ixf g N k)) else if o = N + 1 then .inl (sl_ca g 2, 30, sl_rf (ixf g N k)) else spE (o - (N + 2))
section IXC
variable {g : sl_G} {e : Nat → va_E} {N o0 k : Nat}
theorem ixe_0 : ixe g e N o0 k o0 = .inr (5, [.ref (sl_b g + (N + 0)), .ref (sl_b g + (N + 1))]) := if_pos rfl
theorem ixe_N (ho : o0 < N) : ixe g e N o0 k (N + 0) = .inl (sl_ca g 2, 30, sl_rf (ixf g N k)) := by
  unfold ixe
  rw [if_neg (by omega), if_neg (by omega), if_pos rfl]
theorem ixe_1 (ho : o0 < N) : ixe g e N o0 k (N + 1) = .inl (sl_ca g 2, 30, sl_rf (ixf g N k)) := by
  unfold ixe
  rw [if_neg (by omega), if_neg (by omega), if_neg (by omega), if_pos rfl]
theorem ixf_up : va_up (ixf g N k) k (some (sl_b g + (N + 2 + k))) = ixf g N (k + 1) := by
  funext i
  unfold va_up ixf
  by_cases h : i = k
  · subst h
    rw [if_pos rfl, if_pos (by omega)]
  · rw [if_neg h]
    by_cases h2 : i < k
    · rw [if_pos h2, if_pos (by omega)]
    · rw [if_neg h2, if_neg (by omega)]
theorem ixe_up (ho : o0 < N) {o : Nat} (h : o < N + 2 + k + 1) : fu (fu (fu (ixe g e N o0 k) (N + 2 + k) (spE k)) (N + 0) (.inl (sl_ca g 2, 30, sl_rf (ixf g N (k + 1))))) (N + 1) (.inl (sl_ca g 2, 30, sl_rf (ixf g N (k + 1)))) o = ixe g e N o0 (k + 1) o := by
  by_cases h1 : o = N + 1
  · rw [h1, fu_s, ixe_1 ho]
  · rw [fu_o h1]
    by_cases h2 : o = N + 0
    · rw [h2, fu_s, ixe_N ho]
    · rw [fu_o h2]
      by_cases h3 : o = N + 2 + k
      · rw [h3, fu_s]
        unfold ixe
        rw [if_neg (by omega), if_neg (by omega), if_neg (by omega), if_neg (by omega), show N + 2 + k - (N + 2) = k by omega]
      · rw [fu_o h3]
        unfold ixe
        by_cases h4 : o = o0
        · rw [if_pos h4, if_pos h4]
        · rw [if_neg h4, if_neg h4]
          by_cases h5 : o < N
          · rw [if_pos h5, if_pos h5]
          · rw [if_neg h5, if_neg h5, if_neg h2, if_neg h2, if_neg h1, if_neg h1]
end IXC
section IXD
variable {p : Program} {g : sl_G} {e0 : Env} {s : State} {m : MethodId} {args : Array Value} {below : List Frame} {meth : Method} {c : Code} {Q : State → Prop} {e : Nat → va_E} {N o0 : Nat}
set_option maxRecDepth 100000 in
set_option maxHeartbeats 4000000 in
theorem ix_loop (F : gx g p s m args c "SpanLayers$Index" prog_7_method_1_code 2) (ho : o0 < N) (kk : ∀ (H : Heap) (locs : List Loc) (ls : Array Slot), sl_Gw g (ixe g e N o0 30) (N + 32) H → va_S (sl_A g) s.heap H locs → W p g.1 e0 (gw_rm 3 32 240) s m args below meth c H locs 32 240 Q (F0 m 62 ls [])) : ∀ (r k : Nat), k + r = 30 → ∀ (H : Heap) (locs : List Loc) (ls : Array Slot), lv_has ls 2 [(1, .int (nI k)), (0, .ref (sl_b g + o0))] → sl_Gw g (ixe g e N o0 k) (N + 2 + k) H → va_S (sl_A g) s.heap H locs → W p g.1 e0 (gw_rm 3 32 240) s m args below meth c H locs (2 + k) (60 + 6 * k) Q (F0 m 24 ls []) := by
  obtain ⟨hx, hb, hml, hown, hts, hK, -⟩ := id F
  intro r
  induction r with
  | zero =>
    intro k hk H locs ls hl hG hS
    obtain rfl : k = 30 := by omega
    refine lv_iload_n hx hb (show decode prog_7_method_1_code 24 = .ok (.iload_n 1, 1) by decide +kernel) rfl (lv_at hl 0 rfl) ?_
    refine lv_bipush (v := 30) hx hb (show decode prog_7_method_1_code 25 = .ok (.bipush 30, 2) by decide +kernel) (by decide) ?_
    refine lv_icmp_ge (tgt := 62) hx hb (show decode prog_7_method_1_code 27 = .ok (.if_icmp .ge 35, 3) by decide +kernel) (by decide) (fun _ => kk H locs ls hG hS) (fun z => absurd (by decide) z)
  | succ r ih =>
    intro k hk H locs ls hl hG hS
    have hk30 : k < 30 := by omega
    refine lv_iload_n hx hb (show decode prog_7_method_1_code 24 = .ok (.iload_n 1, 1) by decide +kernel) rfl (lv_at hl 0 rfl) ?_
    refine lv_bipush (v := 30) hx hb (show decode prog_7_method_1_code 25 = .ok (.bipush 30, 2) by decide +kernel) (by decide) ?_
    refine lv_icmp_ge (tgt := 62) hx hb (show decode prog_7_method_1_code 27 = .ok (.if_icmp .ge 35, 3) by decide +kernel) (by decide) (fun z => absurd z (by rw [show (30 : Int32) = nI 30 from rfl, nI_leI (by omega) (by omega)]; omega)) (fun _ => ?_)
    refine lv_aload_n hx hb (show decode prog_7_method_1_code 30 = .ok (.aload_n 0, 1) by decide +kernel) rfl (lv_at hl 1 rfl) ?_
    refine gw_get (ci := 5) (k := 0) (v := .ref (sl_b g + (N + 0))) F sl_i5 rfl (by decide) (sl_in1 166 (by decide +kernel) rfl) (show decode prog_7_method_1_code 31 = .ok (.getfield 11, 3) by decide +kernel) (by omega) ixe_0 rfl hG ?_
    refine lv_iload_n hx hb (show decode prog_7_method_1_code 34 = .ok (.iload_n 1, 1) by decide +kernel) rfl (lv_at hl 0 rfl) ?_
    refine gw_new (ci := 9) (fs := [.int 0, .int 0, .int 0, .int 0, .int 0, .int 0]) F sl_i9 sl_t9 sl_ty9 (sl_in1 118 (by decide +kernel) rfl) (sl_in1 120 (by decide +kernel) rfl) (sl_in1 87 (by decide +kernel) rfl) rfl df9 (show decode prog_7_method_1_code 35 = .ok (.new 9, 3) by decide +kernel) (by show 2 + k + 1 ≤ 32; omega) (by show 60 + 6 * k + 6 ≤ 240; omega) hG hS (fun H hG hS => ?_)
    refine lv_dup hx hb (show decode prog_7_method_1_code 38 = .ok (.dup, 1) by decide +kernel) rfl ?_
    refine lv_iload_n hx hb (show decode prog_7_method_1_code 39 = .ok (.iload_n 1, 1) by decide +kernel) rfl (lv_at hl 0 rfl) ?_
    refine gw_callI (n := 1) (As := [.int (nI k)]) (rest := [.ref (sl_b g + (N + 2 + k)), .int (nI k), .ref (sl_b g + (N + 0))]) F (ct_9 g (N := N + 2 + k + 1) (o0 := N + 2 + k) (by omega) (nI k) fu_s) (sl_in1 121 (by decide +kernel) rfl) (sl_in1 122 (by decide +kernel) rfl) (sl_in1 87 (by decide +kernel) rfl) (sl_in1 123 (by decide +kernel) rfl) (by decide +kernel) rfl rfl (by decide) (Nat.le_of_ble_eq_true rfl) (Nat.le_of_ble_eq_true rfl) (show decode prog_7_method_1_code 40 = .ok (.invokespecial 20, 3) by decide +kernel) hl.1 (Nat.le_of_ble_eq_true rfl) (by show 2 + k + 1 + 0 ≤ 32; omega) (by show 60 + 6 * k + 6 + 0 ≤ 240; omega) (Nat.zero_le _) (Nat.zero_le _) hG hS (fun H locs hG hS => ?_)
    have hG : sl_Gw g (fu (ixe g e N o0 k) (N + 2 + k) (spE k)) (N + 2 + k + 1) H := hG.cong (fun o h => by
      show (if o = N + 2 + k then spE k else _) = (if o = N + 2 + k then spE k else _)
      by_cases h2 : o = N + 2 + k
      · rw [if_pos h2, if_pos h2]
      · rw [if_neg h2, if_neg h2, if_pos (show o < N + 2 + k + 1 from h), fu_o h2])
    refine gw_aast (o := N + 0) (t0 := 2) (qk := N + 2 + k) (ci := 9) (i := k) (n := 30) (f := ixf g N k) F rfl rfl hk30 (by decide) (show decode prog_7_method_1_code 43 = .ok (.aastore, 1) by decide +kernel) (by omega) (by rw [fu_o (by omega)]; exact ixe_N ho) (by omega) fu_s hG hS (fun H locs hG hS => ?_)
    rw [ixf_up] at hG
    refine lv_aload_n hx hb (show decode prog_7_method_1_code 44 = .ok (.aload_n 0, 1) by decide +kernel) rfl (lv_at hl 1 rfl) ?_
    refine gw_get (ci := 5) (k := 1) (v := .ref (sl_b g + (N + 1))) F sl_i5 rfl (by decide) (sl_in1 171 (by decide +kernel) rfl) (show decode prog_7_method_1_code 45 = .ok (.getfield 17, 3) by decide +kernel) (by omega) (by rw [fu_o (by omega), fu_o (by omega)]; exact ixe_0) rfl hG ?_
    refine lv_iload_n hx hb (show decode prog_7_method_1_code 48 = .ok (.iload_n 1, 1) by decide +kernel) rfl (lv_at hl 0 rfl) ?_
    refine lv_aload_n hx hb (show decode prog_7_method_1_code 49 = .ok (.aload_n 0, 1) by decide +kernel) rfl (lv_at hl 1 rfl) ?_
    refine gw_get (ci := 5) (k := 0) (v := .ref (sl_b g + (N + 0))) F sl_i5 rfl (by decide) (sl_in1 166 (by decide +kernel) rfl) (show decode prog_7_method_1_code 50 = .ok (.getfield 11, 3) by decide +kernel) (by omega) (by rw [fu_o (by omega), fu_o (by omega)]; exact ixe_0) rfl hG ?_
    refine lv_iload_n hx hb (show decode prog_7_method_1_code 53 = .ok (.iload_n 1, 1) by decide +kernel) rfl (lv_at hl 0 rfl) ?_
    refine gw_aald (o := N + 0) (t0 := 2) (i := k) (n := 30) (a := sl_b g + (N + 2 + k)) (f := ixf g N (k + 1)) F rfl hk30 (by decide) (if_pos (by omega)) (show decode prog_7_method_1_code 54 = .ok (.aaload, 1) by decide +kernel) (by omega) fu_s hG ?_
    refine gw_aast (o := N + 1) (t0 := 2) (qk := N + 2 + k) (ci := 9) (i := k) (n := 30) (f := ixf g N k) F rfl rfl hk30 (by decide) (show decode prog_7_method_1_code 55 = .ok (.aastore, 1) by decide +kernel) (by omega) (by rw [fu_o (by omega), fu_o (by omega)]; exact ixe_1 ho) (by omega) (by rw [fu_o (by omega)]; exact fu_s) hG hS (fun H locs hG hS => ?_)
    rw [ixf_up] at hG
    have hG := hG.cong (fun o h => ixe_up ho h)
    refine lv_iinc (k := 0) (v := nI (k + 1)) hx hb (show decode prog_7_method_1_code 56 = .ok (.iinc 1 1, 3) by decide +kernel) hl rfl (pl_inc k) (by decide) rfl (fun ls hl => ?_)
    refine lv_goto (tgt := 24) hx hb (show decode prog_7_method_1_code 59 = .ok (.goto (-35), 3) by decide +kernel) (by decide) ?_
    have q := ih (k + 1) (by omega) H locs ls hl hG hS
    exact q
end IXD
set_option maxRecDepth 100000 in
set_option maxHeartbeats 4000000 in
theorem ct_5 (g : sl_G) {e : Nat → va_E} {N o0 : Nat} (ho : o0 < N) (he : e o0 = .inr (5, [.null, .null])) : gw_Met g ⟨"SpanLayers$Index", "<init>", "()V"⟩ prog_7_method_1_code 2 3 [.ref (sl_b g + o0)] e N (ixe g e N o0 30) (N + 32) 32 240 := by
  refine gw_mk (by decide) rfl (Nat.le_of_ble_eq_true rfl) ?_
  intro p e0 s m args below meth c ls F hr hlk hin hl hG hS
  have hl : lv_has ls 2 [(0, .ref (sl_b g + o0))] := hl
  obtain ⟨hx, hb, hml, hown, hts, hK, -⟩ := id F
  replace hG := ce_0 he hG
  refine lv_aload_n hx hb (show decode prog_7_method_1_code 0 = .ok (.aload_n 0, 1) by decide +kernel) rfl (lv_at hl 0 rfl) ?_
  refine W.objInit hx hb hown (hts _ (sl_in1 117 (by decide +kernel) rfl)) (hts _ (sl_in1 110 (by decide +kernel) rfl)) (hts _ (sl_in1 111 (by decide +kernel) rfl)) rfl (by rw [hml]; exact hl.1) rfl (show decode prog_7_method_1_code 1 = .ok (.invokespecial 3, 3) by decide +kernel) (Nat.le_of_ble_eq_true rfl) (Nat.le_of_ble_eq_true rfl) ?_
  refine W.eq (g2 := F0 m 4 ls []) rfl ?_
  refine lv_aload_n hx hb (show decode prog_7_method_1_code 4 = .ok (.aload_n 0, 1) by decide +kernel) rfl (lv_at hl 0 rfl) ?_
  refine lv_bipush (v := 30) hx hb (show decode prog_7_method_1_code 5 = .ok (.bipush 30, 2) by decide +kernel) (by decide) ?_
  refine cw_newq (C := sl_R9) (t0 := 2) (n := 30) F ho (j := 0) rfl (sl_in1 118 (by decide +kernel) rfl) hK.2.2.2 rfl rfl (by decide) (show decode prog_7_method_1_code 7 = .ok (.anewarray 9, 3) by decide +kernel) (Nat.le_of_ble_eq_true rfl) (Nat.le_of_ble_eq_true rfl) hG hS (fun H hG hS => ?_)
  refine cw_putF (v := .ref (sl_b g + (N + 0))) (k := 0) (ci := 5) (ty := .array (.object "SpanLayers$Span")) F hin ho sl_i5 sl_t5 sl_ty5 sl_nm5 rfl (by decide) (sl_in1 166 (by decide +kernel) rfl) rfl rfl (by decide +kernel) rfl rfl (show decode prog_7_method_1_code 10 = .ok (.putfield 11, 3) by decide +kernel) (Nat.le_of_ble_eq_true rfl) hG hS (fun H locs hG hS => ?_)
  refine lv_aload_n hx hb (show decode prog_7_method_1_code 13 = .ok (.aload_n 0, 1) by decide +kernel) rfl (lv_at hl 0 rfl) ?_
  refine lv_bipush (v := 30) hx hb (show decode prog_7_method_1_code 14 = .ok (.bipush 30, 2) by decide +kernel) (by decide) ?_
  refine cw_newq (C := sl_R9) (t0 := 2) (n := 30) F ho (j := 1) rfl (sl_in1 118 (by decide +kernel) rfl) hK.2.2.2 rfl rfl (by decide) (show decode prog_7_method_1_code 16 = .ok (.anewarray 9, 3) by decide +kernel) (Nat.le_of_ble_eq_true rfl) (Nat.le_of_ble_eq_true rfl) hG hS (fun H hG hS => ?_)
  refine cw_putF (v := .ref (sl_b g + (N + 1))) (k := 1) (ci := 5) (ty := .array (.object "SpanLayers$Span")) F hin ho sl_i5 sl_t5 sl_ty5 sl_nm5 rfl (by decide) (sl_in1 171 (by decide +kernel) rfl) rfl rfl (by decide +kernel) rfl rfl (show decode prog_7_method_1_code 19 = .ok (.putfield 17, 3) by decide +kernel) (Nat.le_of_ble_eq_true rfl) hG hS (fun H locs hG hS => ?_)
  refine lv_iconst (v := 0) hx hb (show decode prog_7_method_1_code 22 = .ok (.iconst 0, 1) by decide +kernel) (by decide) ?_
  refine lv_istore_n hx hb (show decode prog_7_method_1_code 23 = .ok (.istore_n 1, 1) by decide +kernel) rfl hl (by decide) rfl (fun ls hl => ?_)
  have hG : sl_Gw g (ixe g e N o0 0) (N + 2 + 0) H := hG.cong (fun o h => by
    unfold ce ixe
    by_cases h1 : o = o0
    · rw [if_pos h1, if_pos h1]
      rfl
    · rw [if_neg h1, if_neg h1]
      by_cases h2 : o < N
      · rw [if_pos h2, if_pos h2]
      · rw [if_neg h2, if_neg h2]
        rcases (show o = N + 0 ∨ o = N + 1 by omega) with h3 | h3
        · rw [if_pos h3, h3, show N + 0 - N = 0 by omega]
          rfl
        · rw [if_neg (by omega), if_pos h3, h3, show N + 1 - N = 1 by omega]
          rfl)
  refine ix_loop F ho (fun H locs ls hG hS => ?_) 30 0 rfl H _ ls hl hG hS
  exact W.vret hx hb hr (fun t ht hW => ⟨⟨(), rfl, trivial, gw_fin hG ht⟩, hS.F ht⟩) hS.2.2 (show decode prog_7_method_1_code 62 = .ok (.return_, 1) by decide +kernel)
