/-! the memory at the start; the constructor of the class -/
def mu0 : sl_M := fun o => if 4 ≤ o ∧ o < 34 then (fun k => if k = 0 then nI (o - 4) else 0) else if o = 3 then (fun k => nI (4 + k)) else if 60 ≤ o ∧ o < 90 then (fun k => if k = 0 then nI (o - 60) else 0) else if o = 59 then (fun k => nI (60 + k)) else if o = 43 then (fun k => if k = 3 then -1 else 0) else if o = 111 then (fun k => if k < 3 then -1 else 0) else fun _ => 0
def sxe (g : sl_G) (fs : List Value) (f42 f56 : Nat → Option Nat) : Nat → va_E := fun o => if o = 0 then .inr (11, fs) else if o = 42 then .inl (sl_ca g 3, 3, sl_rf f42) else if o = 56 then .inl (sl_ca g 4, 4, sl_rf f56) else sl_E g mu0 o
section SX0
variable {g : sl_G} {fs : List Value} {f42 f56 : Nat → Option Nat} {H : Heap}
theorem sx_0 : sxe g fs f42 f56 0 = .inr (11, fs) := rfl
theorem sx_42 : sxe g fs f42 f56 42 = .inl (sl_ca g 3, 3, sl_rf f42) := rfl
theorem sx_56 : sxe g fs f42 f56 56 = .inl (sl_ca g 4, 4, sl_rf f56) := rfl
theorem sx_o {o : Nat} (h0 : o ≠ 0) (h1 : o ≠ 42) (h2 : o ≠ 56) : sxe g fs f42 f56 o = sl_E g mu0 o := by
  unfold sxe
  rw [if_neg h0, if_neg h1, if_neg h2]
theorem sx_pt0 {fs' : List Value} : fu (sxe g fs f42 f56) 0 (.inr (11, fs')) = sxe g fs' f42 f56 := by
  funext o
  unfold fu sxe
  by_cases h : o = 0
  · rw [if_pos h, if_pos h]
  · rw [if_neg h, if_neg h, if_neg h]
theorem sx_put42 {f : Nat → Option Nat} : fu (sxe g fs f42 f56) 42 (.inl (sl_ca g 3, 3, sl_rf f)) = sxe g fs f f56 := by
  funext o
  unfold fu sxe
  by_cases h : o = 42
  · rw [if_pos h, if_neg (by omega), if_pos h]
  · rw [if_neg h, if_neg h, if_neg h]
theorem sx_put56 {f : Nat → Option Nat} : fu (sxe g fs f42 f56) 56 (.inl (sl_ca g 4, 4, sl_rf f)) = sxe g fs f42 f := by
  funext o
  unfold fu sxe
  by_cases h : o = 56
  · rw [if_pos h, if_neg (by omega), if_neg (by omega), if_pos h]
  · rw [if_neg h, if_neg h, if_neg h]
/-- behind a constructor of one of the parts -/
theorem sx_in {n0 n1 : Nat} {z X : va_E} {L : List va_E} (hn : 0 < n0 ∧ n0 ≠ 42 ∧ n0 ≠ 56) (hX : X = sl_E g mu0 n0) (h1 : n1 = n0 + 1 + L.length) (hL : ∀ i, i < L.length → (n0 + 1 + i ≠ 42 ∧ n0 + 1 + i ≠ 56) ∧ L.getD i (.inl (0, 0, .inl (fun _ => 0))) = sl_E g mu0 (n0 + 1 + i)) (h : sl_Gw g (ce (fu (sxe g fs f42 f56) n0 z) (n0 + 1) n0 X L) n1 H) : sl_Gw g (sxe g fs f42 f56) n1 H := by
  refine h.cong (fun o ho => ?_)
  unfold ce
  by_cases h2 : o = n0
  · rw [if_pos h2, h2, hX, sx_o (by omega) hn.2.1 hn.2.2]
  · rw [if_neg h2]
    by_cases h3 : o < n0 + 1
    · rw [if_pos h3, fu_o h2]
    · rw [if_neg h3]
      obtain ⟨i, rfl⟩ : ∃ i, o = n0 + 1 + i := ⟨o - (n0 + 1), by omega⟩
      have q := hL i (by omega)
      rw [show n0 + 1 + i - (n0 + 1) = i by omega, q.2, sx_o (by omega) q.1.1 q.1.2]
theorem sl_E_9 {μ : sl_M} {o : Nat} (h : sl_kd o = 9) : sl_E g μ o = .inr (9, [.int (μ o 0), .int (sl_bz (μ o 1)), .int (μ o 2), .int (μ o 3), .int (μ o 4), .int (μ o 5)]) := by
  unfold sl_E
  rw [h]
  rfl
theorem kd60 : ∀ j, j < 30 → sl_kd (60 + j) = 9 := by decide
theorem sp_4 {j : Nat} (hj : j < 30) : spE j = sl_E g mu0 (4 + j) := by
  have e : mu0 (4 + j) = fun k => if k = 0 then nI j else 0 := by
    unfold mu0
    rw [if_pos (by omega), show 4 + j - 4 = j by omega]
  rw [sl_E_9 (kd9 j hj), e]
  rfl
theorem sp_60 {j : Nat} (hj : j < 30) : spE j = sl_E g mu0 (60 + j) := by
  have e : mu0 (60 + j) = fun k => if k = 0 then nI j else 0 := by
    unfold mu0
    rw [if_neg (by omega), if_neg (by omega), if_pos (by omega), show 60 + j - 60 = j by omega]
  rw [sl_E_9 (kd60 j hj), e]
  rfl
theorem sx_ix {z : va_E} (h : sl_Gw g (ixe g (fu (sxe g fs f42 f56) 1 z) (1 + 1) 1 30) (1 + 1 + 32) H) : sl_Gw g (sxe g fs f42 f56) 34 H := by
  refine h.cq (fun o ho => ?_)
  have ho : o < 34 := ho
  unfold ixe
  by_cases h2 : o = 1
  · subst h2
    exact Or.inl rfl
  · rw [if_neg h2]
    by_cases h3 : o < 1 + 1
    · rw [if_pos h3, fu_o h2]
      exact Or.inl rfl
    · rw [if_neg h3]
      by_cases h4 : o = 1 + 1 + 0
      · subst h4
        exact Or.inr ⟨sl_ca g 2, 30, _, _, rfl, rfl, fun i hi => if_pos hi⟩
      · rw [if_neg h4]
        by_cases h5 : o = 1 + 1 + 1
        · subst h5
          refine Or.inr ⟨sl_ca g 2, 30, _, _, rfl, rfl, fun i hi => ?_⟩
          show (if i < 30 then some (sl_b g + (1 + 1 + 2 + i)) else none) = some (sl_b g + (nI (4 + i)).toNatClampNeg)
          rw [if_pos hi, cl4 hi]
        · rw [if_neg h5]
          obtain ⟨j, rfl⟩ : ∃ j, o = 4 + j := ⟨o - 4, by omega⟩
          rw [show 4 + j - (1 + 1 + 2) = j by omega, sp_4 (g := g) (by omega), sx_o (by omega) (by omega) (by omega)]
          exact Or.inl rfl
theorem sx_kx {z : va_E} (h : sl_Gw g (ixe g (fu (sxe g fs f42 f56) 57 z) (57 + 1) 57 30) (57 + 1 + 32) H) : sl_Gw g (sxe g fs f42 f56) 90 H := by
  refine h.cq (fun o ho => ?_)
  have ho : o < 90 := ho
  unfold ixe
  by_cases h2 : o = 57
  · subst h2
    exact Or.inl rfl
  · rw [if_neg h2]
    by_cases h3 : o < 57 + 1
    · rw [if_pos h3, fu_o h2]
      exact Or.inl rfl
    · rw [if_neg h3]
      by_cases h4 : o = 57 + 1 + 0
      · subst h4
        exact Or.inr ⟨sl_ca g 2, 30, _, _, rfl, rfl, fun i hi => if_pos hi⟩
      · rw [if_neg h4]
        by_cases h5 : o = 57 + 1 + 1
        · subst h5
          refine Or.inr ⟨sl_ca g 2, 30, _, _, rfl, rfl, fun i hi => ?_⟩
          show (if i < 30 then some (sl_b g + (57 + 1 + 2 + i)) else none) = some (sl_b g + (nI (60 + i)).toNatClampNeg)
          rw [if_pos hi, nI_clamp (by omega)]
        · rw [if_neg h5]
          obtain ⟨j, rfl⟩ : ∃ j, o = 60 + j := ⟨o - 60, by omega⟩
          rw [show 60 + j - (57 + 1 + 2) = j by omega, sp_60 (g := g) (by omega), sx_o (by omega) (by omega) (by omega)]
          exact Or.inl rfl
end SX0
set_option maxRecDepth 100000 in
set_option maxHeartbeats 4000000 in
theorem sx_c0 {p : Program} {g : sl_G} {e0 : Env} {s : State} {m : MethodId} {args : Array Value} {below : List Frame} {meth : Method} {c : Code} {H : Heap} {locs : List Loc} {Q : State → Prop} {ls : Array Slot} (F : gx g p s m args c "SpanLayers" prog_1_method_1_code 2) (hin : meth.name = "<init>") (hl : lv_has ls 2 [(0, .ref (sl_b g + 0))]) (hG : sl_Gw g (sxe g [.null, .null, .null, .null, .null, .null, .null, .null, .null, .null, .null, .int 0] (fun _ => none) (fun _ => none)) 1 H) (hS : va_S (sl_A g) s.heap H locs) (kk : ∀ (H : Heap) (locs : List Loc), sl_Gw g (sxe g [.ref (sl_b g + 1), .null, .null, .null, .null, .null, .null, .null, .null, .null, .null, .int 0] (fun _ => none) (fun _ => none)) 34 H → va_S (sl_A g) s.heap H locs → W p g.1 e0 (gw_rm 4 103 1411) s m args below meth c H locs 33 242 Q (F0 m 15 ls [])) : W p g.1 e0 (gw_rm 4 103 1411) s m args below meth c H locs 0 0 Q (F0 m 4 ls []) := by
  obtain ⟨hx, hb, hml, hown, hts, hK, -⟩ := id F
  refine lv_aload_n hx hb (show decode prog_1_method_1_code 4 = .ok (.aload_n 0, 1) by decide +kernel) rfl (lv_at hl 0 rfl) ?_
  refine gw_new (N := 1) (ci := 5) (fs := [.null, .null]) F sl_i5 sl_t5 sl_ty5 (sl_in1 112 (by decide +kernel) rfl) (sl_in1 113 (by decide +kernel) rfl) (sl_in1 86 (by decide +kernel) rfl) rfl (fun j hj => by rcases (show j = 0 ∨ j = 1 by omega) with rfl | rfl <;> rfl) (show decode prog_1_method_1_code 5 = .ok (.new 7, 3) by decide +kernel) (Nat.le_of_ble_eq_true rfl) (Nat.le_of_ble_eq_true rfl) hG hS (fun H hG hS => ?_)
  refine lv_dup hx hb (show decode prog_1_method_1_code 8 = .ok (.dup, 1) by decide +kernel) rfl ?_
  refine gw_callI (n := 0) (o := 1) (As := []) (rest := [.ref (sl_b g + 1), .ref (sl_b g + 0)]) F (ct_5 g (N := 1 + 1) (o0 := 1) (by decide) fu_s) (sl_in1 114 (by decide +kernel) rfl) (sl_in1 115 (by decide +kernel) rfl) (sl_in1 86 (by decide +kernel) rfl) (sl_in1 116 (by decide +kernel) rfl) (by decide +kernel) rfl rfl (by decide) (Nat.le_of_ble_eq_true rfl) (Nat.le_of_ble_eq_true rfl) (show decode prog_1_method_1_code 9 = .ok (.invokespecial 9, 3) by decide +kernel) hl.1 (Nat.le_of_ble_eq_true rfl) (Nat.le_of_ble_eq_true rfl) (Nat.le_of_ble_eq_true rfl) (Nat.le_of_ble_eq_true rfl) (Nat.le_of_ble_eq_true rfl) hG hS (fun H locs hG hS => ?_)
  replace hG := sx_ix hG
  refine gw_putF (o := 0) (v := .ref (sl_b g + 1)) (k := 0) (ci := 11) (ty := .object "SpanLayers$Index") F hin sl_i11 sl_t11 sl_ty11 sl_nm11 rfl (by decide) (sl_in1 356 (by decide +kernel) rfl) rfl rfl (by decide +kernel) rfl rfl (show decode prog_1_method_1_code 12 = .ok (.putfield 10, 3) by decide +kernel) (by decide) sx_0 (Nat.le_of_ble_eq_true rfl) hG hS (fun H locs hG hS => ?_)
  rw [sx_pt0] at hG
  exact kk _ _ hG hS
set_option maxRecDepth 100000 in
set_option maxHeartbeats 4000000 in
theorem sx_c1 {p : Program} {g : sl_G} {e0 : Env} {s : State} {m : MethodId} {args : Array Value} {below : List Frame} {meth : Method} {c : Code} {H : Heap} {locs : List Loc} {Q : State → Prop} {ls : Array Slot} (F : gx g p s m args c "SpanLayers" prog_1_method_1_code 2) (hin : meth.name = "<init>") (hl : lv_has ls 2 [(0, .ref (sl_b g + 0))]) (hG : sl_Gw g (sxe g [.ref (sl_b g + 1), .null, .null, .null, .null, .null, .null, .null, .null, .null, .null, .int 0] (fun _ => none) (fun _ => none)) 34 H) (hS : va_S (sl_A g) s.heap H locs) (kk : ∀ (H : Heap) (locs : List Loc), sl_Gw g (sxe g [.ref (sl_b g + 1), .ref (sl_b g + 34), .null, .null, .null, .null, .null, .null, .null, .null, .null, .int 0] (fun _ => none) (fun _ => none)) 38 H → va_S (sl_A g) s.heap H locs → W p g.1 e0 (gw_rm 4 103 1411) s m args below meth c H locs 37 336 Q (F0 m 26 ls [])) : W p g.1 e0 (gw_rm 4 103 1411) s m args below meth c H locs 33 242 Q (F0 m 15 ls []) := by
  obtain ⟨hx, hb, hml, hown, hts, hK, -⟩ := id F
  refine lv_aload_n hx hb (show decode prog_1_method_1_code 15 = .ok (.aload_n 0, 1) by decide +kernel) rfl (lv_at hl 0 rfl) ?_
  refine gw_new (N := 34) (ci := 3) (fs := [.null, .null, .null, .int 0]) F sl_i3 sl_t3 sl_ty3 (sl_in1 181 (by decide +kernel) rfl) (sl_in1 182 (by decide +kernel) rfl) (sl_in1 88 (by decide +kernel) rfl) rfl (fun j hj => by rcases (show j = 0 ∨ j = 1 ∨ j = 2 ∨ j = 3 by omega) with rfl | rfl | rfl | rfl <;> rfl) (show decode prog_1_method_1_code 16 = .ok (.new 16, 3) by decide +kernel) (Nat.le_of_ble_eq_true rfl) (Nat.le_of_ble_eq_true rfl) hG hS (fun H hG hS => ?_)
  refine lv_dup hx hb (show decode prog_1_method_1_code 19 = .ok (.dup, 1) by decide +kernel) rfl ?_
  refine gw_callN (n := 0) (host := "SpanLayers") (o := 34) (As := []) (rest := [.ref (sl_b g + 34), .ref (sl_b g + 0)]) F (ct_3 g (N := 34 + 1) (o0 := 34) (by decide) fu_s) (List.mem_of_getElem? (i := 0) rfl) (sl_in1 184 (by decide +kernel) rfl) (sl_in1 88 (by decide +kernel) rfl) (sl_in1 185 (by decide +kernel) rfl) (by decide +kernel) rfl rfl (by decide) (Nat.le_of_ble_eq_true rfl) (Nat.le_of_ble_eq_true rfl) (show decode prog_1_method_1_code 20 = .ok (.invokespecial 18, 3) by decide +kernel) hl.1 (Nat.le_of_ble_eq_true rfl) (Nat.le_of_ble_eq_true rfl) (Nat.le_of_ble_eq_true rfl) (Nat.le_of_ble_eq_true rfl) (Nat.le_of_ble_eq_true rfl) hG hS (fun H locs hG hS => ?_)
  replace hG := sx_in (n0 := 34) (n1 := 38) (by decide) rfl rfl (fun i hi => by rcases (show i = 0 ∨ i = 1 ∨ i = 2 from (by have hi' : i < 3 := hi; omega)) with rfl | rfl | rfl <;> exact ⟨⟨by decide, by decide⟩, rfl⟩) hG
  refine gw_putF (o := 0) (v := .ref (sl_b g + 34)) (k := 1) (ci := 11) (ty := .object "SpanLayers$Coverage") F hin sl_i11 sl_t11 sl_ty11 sl_nm11 rfl (by decide) (sl_in1 357 (by decide +kernel) rfl) rfl rfl (by decide +kernel) rfl rfl (show decode prog_1_method_1_code 23 = .ok (.putfield 19, 3) by decide +kernel) (by decide) sx_0 (Nat.le_of_ble_eq_true rfl) hG hS (fun H locs hG hS => ?_)
  rw [sx_pt0] at hG
  exact kk _ _ hG hS
set_option maxRecDepth 100000 in
set_option maxHeartbeats 4000000 in
theorem sx_c2 {p : Program} {g : sl_G} {e0 : Env} {s : State} {m : MethodId} {args : Array Value} {below : List Frame} {meth : Method} {c : Code} {H : Heap} {locs : List Loc} {Q : State → Prop} {ls : Array Slot} (F : gx g p s m args c "SpanLayers" prog_1_method_1_code 2) (hin : meth.name = "<init>") (hl : lv_has ls 2 [(0, .ref (sl_b g + 0))]) (hG : sl_Gw g (sxe g [.ref (sl_b g + 1), .ref (sl_b g + 34), .null, .null, .null, .null, .null, .null, .null, .null, .null, .int 0] (fun _ => none) (fun _ => none)) 38 H) (hS : va_S (sl_A g) s.heap H locs) (kk : ∀ (H : Heap) (locs : List Loc), sl_Gw g (sxe g [.ref (sl_b g + 1), .ref (sl_b g + 34), .ref (sl_b g + 38), .null, .null, .null, .null, .null, .null, .null, .null, .int 0] (fun _ => none) (fun _ => none)) 42 H → va_S (sl_A g) s.heap H locs → W p g.1 e0 (gw_rm 4 103 1411) s m args below meth c H locs 41 431 Q (F0 m 37 ls [])) : W p g.1 e0 (gw_rm 4 103 1411) s m args below meth c H locs 37 336 Q (F0 m 26 ls []) := by
  obtain ⟨hx, hb, hml, hown, hts, hK, -⟩ := id F
  refine lv_aload_n hx hb (show decode prog_1_method_1_code 26 = .ok (.aload_n 0, 1) by decide +kernel) rfl (lv_at hl 0 rfl) ?_
  refine gw_new (N := 38) (ci := 1) (fs := [.null, .null, .int 0, .null]) F sl_i1 sl_t1 sl_ty1 (sl_in1 205 (by decide +kernel) rfl) (sl_in1 206 (by decide +kernel) rfl) (sl_in1 89 (by decide +kernel) rfl) rfl (fun j hj => by rcases (show j = 0 ∨ j = 1 ∨ j = 2 ∨ j = 3 by omega) with rfl | rfl | rfl | rfl <;> rfl) (show decode prog_1_method_1_code 27 = .ok (.new 23, 3) by decide +kernel) (Nat.le_of_ble_eq_true rfl) (Nat.le_of_ble_eq_true rfl) hG hS (fun H hG hS => ?_)
  refine lv_dup hx hb (show decode prog_1_method_1_code 30 = .ok (.dup, 1) by decide +kernel) rfl ?_
  refine gw_callN (n := 0) (host := "SpanLayers") (o := 38) (As := []) (rest := [.ref (sl_b g + 38), .ref (sl_b g + 0)]) F (ct_1 g (N := 38 + 1) (o0 := 38) (by decide) fu_s) (List.mem_of_getElem? (i := 1) rfl) (sl_in1 208 (by decide +kernel) rfl) (sl_in1 89 (by decide +kernel) rfl) (sl_in1 209 (by decide +kernel) rfl) (by decide +kernel) rfl rfl (by decide) (Nat.le_of_ble_eq_true rfl) (Nat.le_of_ble_eq_true rfl) (show decode prog_1_method_1_code 31 = .ok (.invokespecial 25, 3) by decide +kernel) hl.1 (Nat.le_of_ble_eq_true rfl) (Nat.le_of_ble_eq_true rfl) (Nat.le_of_ble_eq_true rfl) (Nat.le_of_ble_eq_true rfl) (Nat.le_of_ble_eq_true rfl) hG hS (fun H locs hG hS => ?_)
  replace hG := sx_in (n0 := 38) (n1 := 42) (by decide) rfl rfl (fun i hi => by rcases (show i = 0 ∨ i = 1 ∨ i = 2 from (by have hi' : i < 3 := hi; omega)) with rfl | rfl | rfl <;> exact ⟨⟨by decide, by decide⟩, rfl⟩) hG
  refine gw_putF (o := 0) (v := .ref (sl_b g + 38)) (k := 2) (ci := 11) (ty := .object "SpanLayers$Choice") F hin sl_i11 sl_t11 sl_ty11 sl_nm11 rfl (by decide) (sl_in1 358 (by decide +kernel) rfl) rfl rfl (by decide +kernel) rfl rfl (show decode prog_1_method_1_code 34 = .ok (.putfield 26, 3) by decide +kernel) (by decide) sx_0 (Nat.le_of_ble_eq_true rfl) hG hS (fun H locs hG hS => ?_)
  rw [sx_pt0] at hG
  exact kk _ _ hG hS
set_option maxRecDepth 100000 in
set_option maxHeartbeats 4000000 in
theorem sx_c3 {p : Program} {g : sl_G} {e0 : Env} {s : State} {m : MethodId} {args : Array Value} {below : List Frame} {meth : Method} {c : Code} {H : Heap} {locs : List Loc} {Q : State → Prop} {ls : Array Slot} (F : gx g p s m args c "SpanLayers" prog_1_method_1_code 2) (hin : meth.name = "<init>") (hl : lv_has ls 2 [(0, .ref (sl_b g + 0))]) (hG : sl_Gw g (sxe g [.ref (sl_b g + 1), .ref (sl_b g + 34), .ref (sl_b g + 38), .null, .null, .null, .null, .null, .null, .null, .null, .int 0] (fun _ => none) (fun _ => none)) 42 H) (hS : va_S (sl_A g) s.heap H locs) (kk : ∀ (H : Heap) (locs : List Loc), sl_Gw g (sxe g [.ref (sl_b g + 1), .ref (sl_b g + 34), .ref (sl_b g + 38), .ref (sl_b g + 42), .null, .null, .null, .null, .null, .null, .null, .int 0] (fun _ => none) (fun _ => none)) 43 H → va_S (sl_A g) s.heap H locs → W p g.1 e0 (gw_rm 4 103 1411) s m args below meth c H locs 42 434 Q (F0 m 45 ls [])) : W p g.1 e0 (gw_rm 4 103 1411) s m args below meth c H locs 41 431 Q (F0 m 37 ls []) := by
  obtain ⟨hx, hb, hml, hown, hts, hK, -⟩ := id F
  refine lv_aload_n hx hb (show decode prog_1_method_1_code 37 = .ok (.aload_n 0, 1) by decide +kernel) rfl (lv_at hl 0 rfl) ?_
  refine lv_iconst (v := 3) hx hb (show decode prog_1_method_1_code 38 = .ok (.iconst 3, 1) by decide +kernel) (by decide) ?_
  refine gw_newq (N := 42) (C := sl_R4) (t0 := 3) (n := 3) F (sl_in1 227 (by decide +kernel) rfl) hK.2.1 rfl rfl (by decide) (show decode prog_1_method_1_code 39 = .ok (.anewarray 30, 3) by decide +kernel) (Nat.le_of_ble_eq_true rfl) (Nat.le_of_ble_eq_true rfl) hG hS (fun H hG hS => ?_)
  rw [sx_put42] at hG
  refine gw_putF (o := 0) (v := .ref (sl_b g + 42)) (k := 3) (ci := 11) (ty := .array (.object "SpanLayers$Cursor")) F hin sl_i11 sl_t11 sl_ty11 sl_nm11 rfl (by decide) (sl_in1 359 (by decide +kernel) rfl) rfl rfl (by decide +kernel) rfl rfl (show decode prog_1_method_1_code 42 = .ok (.putfield 32, 3) by decide +kernel) (by decide) sx_0 (Nat.le_of_ble_eq_true rfl) hG hS (fun H locs hG hS => ?_)
  rw [sx_pt0] at hG
  exact kk _ _ hG hS
set_option maxRecDepth 100000 in
set_option maxHeartbeats 4000000 in
theorem sx_c4 {p : Program} {g : sl_G} {e0 : Env} {s : State} {m : MethodId} {args : Array Value} {below : List Frame} {meth : Method} {c : Code} {H : Heap} {locs : List Loc} {Q : State → Prop} {ls : Array Slot} (F : gx g p s m args c "SpanLayers" prog_1_method_1_code 2) (hin : meth.name = "<init>") (hl : lv_has ls 2 [(0, .ref (sl_b g + 0))]) (hG : sl_Gw g (sxe g [.ref (sl_b g + 1), .ref (sl_b g + 34), .ref (sl_b g + 38), .ref (sl_b g + 42), .null, .null, .null, .null, .null, .null, .null, .int 0] (fun _ => none) (fun _ => none)) 43 H) (hS : va_S (sl_A g) s.heap H locs) (kk : ∀ (H : Heap) (locs : List Loc), sl_Gw g (sxe g [.ref (sl_b g + 1), .ref (sl_b g + 34), .ref (sl_b g + 38), .ref (sl_b g + 42), .ref (sl_b g + 43), .null, .null, .null, .null, .null, .null, .int 0] (fun _ => none) (fun _ => none)) 45 H → va_S (sl_A g) s.heap H locs → W p g.1 e0 (gw_rm 4 103 1411) s m args below meth c H locs 44 518 Q (F0 m 56 ls [])) : W p g.1 e0 (gw_rm 4 103 1411) s m args below meth c H locs 42 434 Q (F0 m 45 ls []) := by
  obtain ⟨hx, hb, hml, hown, hts, hK, -⟩ := id F
  refine lv_aload_n hx hb (show decode prog_1_method_1_code 45 = .ok (.aload_n 0, 1) by decide +kernel) rfl (lv_at hl 0 rfl) ?_
  refine gw_new (N := 43) (ci := 10) (fs := [.null, .int 0, .int 0, .int 0]) F sl_i10 sl_t10 sl_ty10 (sl_in1 229 (by decide +kernel) rfl) (sl_in1 230 (by decide +kernel) rfl) (sl_in1 90 (by decide +kernel) rfl) rfl (fun j hj => by rcases (show j = 0 ∨ j = 1 ∨ j = 2 ∨ j = 3 by omega) with rfl | rfl | rfl | rfl <;> rfl) (show decode prog_1_method_1_code 46 = .ok (.new 36, 3) by decide +kernel) (Nat.le_of_ble_eq_true rfl) (Nat.le_of_ble_eq_true rfl) hG hS (fun H hG hS => ?_)
  refine lv_dup hx hb (show decode prog_1_method_1_code 49 = .ok (.dup, 1) by decide +kernel) rfl ?_
  refine gw_callN (n := 0) (host := "SpanLayers") (o := 43) (As := []) (rest := [.ref (sl_b g + 43), .ref (sl_b g + 0)]) F (ct_10 g (N := 43 + 1) (o0 := 43) (by decide) fu_s) (List.mem_of_getElem? (i := 2) rfl) (sl_in1 232 (by decide +kernel) rfl) (sl_in1 90 (by decide +kernel) rfl) (sl_in1 233 (by decide +kernel) rfl) (by decide +kernel) rfl rfl (by decide) (Nat.le_of_ble_eq_true rfl) (Nat.le_of_ble_eq_true rfl) (show decode prog_1_method_1_code 50 = .ok (.invokespecial 38, 3) by decide +kernel) hl.1 (Nat.le_of_ble_eq_true rfl) (Nat.le_of_ble_eq_true rfl) (Nat.le_of_ble_eq_true rfl) (Nat.le_of_ble_eq_true rfl) (Nat.le_of_ble_eq_true rfl) hG hS (fun H locs hG hS => ?_)
  replace hG := sx_in (n0 := 43) (n1 := 45) (by decide) rfl rfl (fun i hi => by rcases (show i = 0 from (by have hi' : i < 1 := hi; omega)) with rfl <;> exact ⟨⟨by decide, by decide⟩, rfl⟩) hG
  refine gw_putF (o := 0) (v := .ref (sl_b g + 43)) (k := 4) (ci := 11) (ty := .object "SpanLayers$Tape") F hin sl_i11 sl_t11 sl_ty11 sl_nm11 rfl (by decide) (sl_in1 360 (by decide +kernel) rfl) rfl rfl (by decide +kernel) rfl rfl (show decode prog_1_method_1_code 53 = .ok (.putfield 39, 3) by decide +kernel) (by decide) sx_0 (Nat.le_of_ble_eq_true rfl) hG hS (fun H locs hG hS => ?_)
  rw [sx_pt0] at hG
  exact kk _ _ hG hS
set_option maxRecDepth 100000 in
set_option maxHeartbeats 4000000 in
theorem sx_c5 {p : Program} {g : sl_G} {e0 : Env} {s : State} {m : MethodId} {args : Array Value} {below : List Frame} {meth : Method} {c : Code} {H : Heap} {locs : List Loc} {Q : State → Prop} {ls : Array Slot} (F : gx g p s m args c "SpanLayers" prog_1_method_1_code 2) (hin : meth.name = "<init>") (hl : lv_has ls 2 [(0, .ref (sl_b g + 0))]) (hG : sl_Gw g (sxe g [.ref (sl_b g + 1), .ref (sl_b g + 34), .ref (sl_b g + 38), .ref (sl_b g + 42), .ref (sl_b g + 43), .null, .null, .null, .null, .null, .null, .int 0] (fun _ => none) (fun _ => none)) 45 H) (hS : va_S (sl_A g) s.heap H locs) (kk : ∀ (H : Heap) (locs : List Loc), sl_Gw g (sxe g [.ref (sl_b g + 1), .ref (sl_b g + 34), .ref (sl_b g + 38), .ref (sl_b g + 42), .ref (sl_b g + 43), .ref (sl_b g + 45), .null, .null, .null, .null, .null, .int 0] (fun _ => none) (fun _ => none)) 46 H → va_S (sl_A g) s.heap H locs → W p g.1 e0 (gw_rm 4 103 1411) s m args below meth c H locs 45 518 Q (F0 m 67 ls [])) : W p g.1 e0 (gw_rm 4 103 1411) s m args below meth c H locs 44 518 Q (F0 m 56 ls []) := by
  obtain ⟨hx, hb, hml, hown, hts, hK, -⟩ := id F
  refine lv_aload_n hx hb (show decode prog_1_method_1_code 56 = .ok (.aload_n 0, 1) by decide +kernel) rfl (lv_at hl 0 rfl) ?_
  refine gw_new (N := 45) (ci := 2) (fs := []) F sl_i2 sl_t2 sl_ty2 (sl_in1 251 (by decide +kernel) rfl) (sl_in1 252 (by decide +kernel) rfl) (sl_in1 91 (by decide +kernel) rfl) rfl (fun j hj => absurd hj (Nat.not_lt_zero _)) (show decode prog_1_method_1_code 57 = .ok (.new 43, 3) by decide +kernel) (Nat.le_of_ble_eq_true rfl) (Nat.le_of_ble_eq_true rfl) hG hS (fun H hG hS => ?_)
  refine lv_dup hx hb (show decode prog_1_method_1_code 60 = .ok (.dup, 1) by decide +kernel) rfl ?_
  refine gw_callN (n := 0) (host := "SpanLayers") (o := 45) (As := []) (rest := [.ref (sl_b g + 45), .ref (sl_b g + 0)]) F (ct_2 g (N := 45 + 1) (o0 := 45) (by decide) fu_s) (List.mem_of_getElem? (i := 3) rfl) (sl_in1 254 (by decide +kernel) rfl) (sl_in1 91 (by decide +kernel) rfl) (sl_in1 255 (by decide +kernel) rfl) (by decide +kernel) rfl rfl (by decide) (Nat.le_of_ble_eq_true rfl) (Nat.le_of_ble_eq_true rfl) (show decode prog_1_method_1_code 61 = .ok (.invokespecial 45, 3) by decide +kernel) hl.1 (Nat.le_of_ble_eq_true rfl) (Nat.le_of_ble_eq_true rfl) (Nat.le_of_ble_eq_true rfl) (Nat.le_of_ble_eq_true rfl) (Nat.le_of_ble_eq_true rfl) hG hS (fun H locs hG hS => ?_)
  replace hG := sx_in (n0 := 45) (n1 := 46) (by decide) rfl rfl (fun i hi => absurd hi (Nat.not_lt_zero _)) hG
  refine gw_putF (o := 0) (v := .ref (sl_b g + 45)) (k := 5) (ci := 11) (ty := .object "SpanLayers$Condition") F hin sl_i11 sl_t11 sl_ty11 sl_nm11 rfl (by decide) (sl_in1 361 (by decide +kernel) rfl) rfl rfl (by decide +kernel) rfl rfl (show decode prog_1_method_1_code 64 = .ok (.putfield 46, 3) by decide +kernel) (by decide) sx_0 (Nat.le_of_ble_eq_true rfl) hG hS (fun H locs hG hS => ?_)
  rw [sx_pt0] at hG
  exact kk _ _ hG hS
set_option maxRecDepth 100000 in
set_option maxHeartbeats 4000000 in
theorem sx_c6 {p : Program} {g : sl_G} {e0 : Env} {s : State} {m : MethodId} {args : Array Value} {below : List Frame} {meth : Method} {c : Code} {H : Heap} {locs : List Loc} {Q : State → Prop} {ls : Array Slot} (F : gx g p s m args c "SpanLayers" prog_1_method_1_code 2) (hin : meth.name = "<init>") (hl : lv_has ls 2 [(0, .ref (sl_b g + 0))]) (hG : sl_Gw g (sxe g [.ref (sl_b g + 1), .ref (sl_b g + 34), .ref (sl_b g + 38), .ref (sl_b g + 42), .ref (sl_b g + 43), .ref (sl_b g + 45), .null, .null, .null, .null, .null, .int 0] (fun _ => none) (fun _ => none)) 46 H) (hS : va_S (sl_A g) s.heap H locs) (kk : ∀ (H : Heap) (locs : List Loc), sl_Gw g (sxe g [.ref (sl_b g + 1), .ref (sl_b g + 34), .ref (sl_b g + 38), .ref (sl_b g + 42), .ref (sl_b g + 43), .ref (sl_b g + 45), .ref (sl_b g + 46), .null, .null, .null, .null, .int 0] (fun _ => none) (fun _ => none)) 50 H → va_S (sl_A g) s.heap H locs → W p g.1 e0 (gw_rm 4 103 1411) s m args below meth c H locs 49 537 Q (F0 m 78 ls [])) : W p g.1 e0 (gw_rm 4 103 1411) s m args below meth c H locs 45 518 Q (F0 m 67 ls []) := by
  obtain ⟨hx, hb, hml, hown, hts, hK, -⟩ := id F
  refine lv_aload_n hx hb (show decode prog_1_method_1_code 67 = .ok (.aload_n 0, 1) by decide +kernel) rfl (lv_at hl 0 rfl) ?_
  refine gw_new (N := 46) (ci := 0) (fs := [.null, .null, .null, .int 0]) F sl_i0 sl_t0 sl_ty0 (sl_in1 258 (by decide +kernel) rfl) (sl_in1 259 (by decide +kernel) rfl) (sl_in1 92 (by decide +kernel) rfl) rfl (fun j hj => by rcases (show j = 0 ∨ j = 1 ∨ j = 2 ∨ j = 3 by omega) with rfl | rfl | rfl | rfl <;> rfl) (show decode prog_1_method_1_code 68 = .ok (.new 50, 3) by decide +kernel) (Nat.le_of_ble_eq_true rfl) (Nat.le_of_ble_eq_true rfl) hG hS (fun H hG hS => ?_)
  refine lv_dup hx hb (show decode prog_1_method_1_code 71 = .ok (.dup, 1) by decide +kernel) rfl ?_
  refine gw_callN (n := 0) (host := "SpanLayers") (o := 46) (As := []) (rest := [.ref (sl_b g + 46), .ref (sl_b g + 0)]) F (ct_0 g (N := 46 + 1) (o0 := 46) (by decide) fu_s) (List.mem_of_getElem? (i := 4) rfl) (sl_in1 261 (by decide +kernel) rfl) (sl_in1 92 (by decide +kernel) rfl) (sl_in1 262 (by decide +kernel) rfl) (by decide +kernel) rfl rfl (by decide) (Nat.le_of_ble_eq_true rfl) (Nat.le_of_ble_eq_true rfl) (show decode prog_1_method_1_code 72 = .ok (.invokespecial 52, 3) by decide +kernel) hl.1 (Nat.le_of_ble_eq_true rfl) (Nat.le_of_ble_eq_true rfl) (Nat.le_of_ble_eq_true rfl) (Nat.le_of_ble_eq_true rfl) (Nat.le_of_ble_eq_true rfl) hG hS (fun H locs hG hS => ?_)
  replace hG := sx_in (n0 := 46) (n1 := 50) (by decide) rfl rfl (fun i hi => by rcases (show i = 0 ∨ i = 1 ∨ i = 2 from (by have hi' : i < 3 := hi; omega)) with rfl | rfl | rfl <;> exact ⟨⟨by decide, by decide⟩, rfl⟩) hG
  refine gw_putF (o := 0) (v := .ref (sl_b g + 46)) (k := 6) (ci := 11) (ty := .object "SpanLayers$Change") F hin sl_i11 sl_t11 sl_ty11 sl_nm11 rfl (by decide) (sl_in1 362 (by decide +kernel) rfl) rfl rfl (by decide +kernel) rfl rfl (show decode prog_1_method_1_code 75 = .ok (.putfield 53, 3) by decide +kernel) (by decide) sx_0 (Nat.le_of_ble_eq_true rfl) hG hS (fun H locs hG hS => ?_)
  rw [sx_pt0] at hG
  exact kk _ _ hG hS
set_option maxRecDepth 100000 in
set_option maxHeartbeats 4000000 in
theorem sx_c7 {p : Program} {g : sl_G} {e0 : Env} {s : State} {m : MethodId} {args : Array Value} {below : List Frame} {meth : Method} {c : Code} {H : Heap} {locs : List Loc} {Q : State → Prop} {ls : Array Slot} (F : gx g p s m args c "SpanLayers" prog_1_method_1_code 2) (hin : meth.name = "<init>") (hl : lv_has ls 2 [(0, .ref (sl_b g + 0))]) (hG : sl_Gw g (sxe g [.ref (sl_b g + 1), .ref (sl_b g + 34), .ref (sl_b g + 38), .ref (sl_b g + 42), .ref (sl_b g + 43), .ref (sl_b g + 45), .ref (sl_b g + 46), .null, .null, .null, .null, .int 0] (fun _ => none) (fun _ => none)) 50 H) (hS : va_S (sl_A g) s.heap H locs) (kk : ∀ (H : Heap) (locs : List Loc), sl_Gw g (sxe g [.ref (sl_b g + 1), .ref (sl_b g + 34), .ref (sl_b g + 38), .ref (sl_b g + 42), .ref (sl_b g + 43), .ref (sl_b g + 45), .ref (sl_b g + 46), .ref (sl_b g + 50), .null, .null, .null, .int 0] (fun _ => none) (fun _ => none)) 54 H → va_S (sl_A g) s.heap H locs → W p g.1 e0 (gw_rm 4 103 1411) s m args below meth c H locs 53 601 Q (F0 m 89 ls [])) : W p g.1 e0 (gw_rm 4 103 1411) s m args below meth c H locs 49 537 Q (F0 m 78 ls []) := by
  obtain ⟨hx, hb, hml, hown, hts, hK, -⟩ := id F
  refine lv_aload_n hx hb (show decode prog_1_method_1_code 78 = .ok (.aload_n 0, 1) by decide +kernel) rfl (lv_at hl 0 rfl) ?_
  refine gw_new (N := 50) (ci := 7) (fs := [.null, .null, .null, .int 0]) F sl_i7 sl_t7 sl_ty7 (sl_in1 277 (by decide +kernel) rfl) (sl_in1 278 (by decide +kernel) rfl) (sl_in1 93 (by decide +kernel) rfl) rfl (fun j hj => by rcases (show j = 0 ∨ j = 1 ∨ j = 2 ∨ j = 3 by omega) with rfl | rfl | rfl | rfl <;> rfl) (show decode prog_1_method_1_code 79 = .ok (.new 57, 3) by decide +kernel) (Nat.le_of_ble_eq_true rfl) (Nat.le_of_ble_eq_true rfl) hG hS (fun H hG hS => ?_)
  refine lv_dup hx hb (show decode prog_1_method_1_code 82 = .ok (.dup, 1) by decide +kernel) rfl ?_
  refine gw_callN (n := 0) (host := "SpanLayers") (o := 50) (As := []) (rest := [.ref (sl_b g + 50), .ref (sl_b g + 0)]) F (ct_7 g (N := 50 + 1) (o0 := 50) (by decide) fu_s) (List.mem_of_getElem? (i := 5) rfl) (sl_in1 280 (by decide +kernel) rfl) (sl_in1 93 (by decide +kernel) rfl) (sl_in1 281 (by decide +kernel) rfl) (by decide +kernel) rfl rfl (by decide) (Nat.le_of_ble_eq_true rfl) (Nat.le_of_ble_eq_true rfl) (show decode prog_1_method_1_code 83 = .ok (.invokespecial 59, 3) by decide +kernel) hl.1 (Nat.le_of_ble_eq_true rfl) (Nat.le_of_ble_eq_true rfl) (Nat.le_of_ble_eq_true rfl) (Nat.le_of_ble_eq_true rfl) (Nat.le_of_ble_eq_true rfl) hG hS (fun H locs hG hS => ?_)
  replace hG := sx_in (n0 := 50) (n1 := 54) (by decide) rfl rfl (fun i hi => by rcases (show i = 0 ∨ i = 1 ∨ i = 2 from (by have hi' : i < 3 := hi; omega)) with rfl | rfl | rfl <;> exact ⟨⟨by decide, by decide⟩, rfl⟩) hG
  refine gw_putF (o := 0) (v := .ref (sl_b g + 50)) (k := 7) (ci := 11) (ty := .object "SpanLayers$Parts") F hin sl_i11 sl_t11 sl_ty11 sl_nm11 rfl (by decide) (sl_in1 363 (by decide +kernel) rfl) rfl rfl (by decide +kernel) rfl rfl (show decode prog_1_method_1_code 86 = .ok (.putfield 60, 3) by decide +kernel) (by decide) sx_0 (Nat.le_of_ble_eq_true rfl) hG hS (fun H locs hG hS => ?_)
  rw [sx_pt0] at hG
  exact kk _ _ hG hS
set_option maxRecDepth 100000 in
set_option maxHeartbeats 4000000 in
theorem sx_c8 {p : Program} {g : sl_G} {e0 : Env} {s : State} {m : MethodId} {args : Array Value} {below : List Frame} {meth : Method} {c : Code} {H : Heap} {locs : List Loc} {Q : State → Prop} {ls : Array Slot} (F : gx g p s m args c "SpanLayers" prog_1_method_1_code 2) (hin : meth.name = "<init>") (hl : lv_has ls 2 [(0, .ref (sl_b g + 0))]) (hG : sl_Gw g (sxe g [.ref (sl_b g + 1), .ref (sl_b g + 34), .ref (sl_b g + 38), .ref (sl_b g + 42), .ref (sl_b g + 43), .ref (sl_b g + 45), .ref (sl_b g + 46), .ref (sl_b g + 50), .null, .null, .null, .int 0] (fun _ => none) (fun _ => none)) 54 H) (hS : va_S (sl_A g) s.heap H locs) (kk : ∀ (H : Heap) (locs : List Loc), sl_Gw g (sxe g [.ref (sl_b g + 1), .ref (sl_b g + 34), .ref (sl_b g + 38), .ref (sl_b g + 42), .ref (sl_b g + 43), .ref (sl_b g + 45), .ref (sl_b g + 46), .ref (sl_b g + 50), .ref (sl_b g + 54), .null, .null, .int 0] (fun _ => none) (fun _ => none)) 56 H → va_S (sl_A g) s.heap H locs → W p g.1 e0 (gw_rm 4 103 1411) s m args below meth c H locs 55 963 Q (F0 m 100 ls [])) : W p g.1 e0 (gw_rm 4 103 1411) s m args below meth c H locs 53 601 Q (F0 m 89 ls []) := by
  obtain ⟨hx, hb, hml, hown, hts, hK, -⟩ := id F
  refine lv_aload_n hx hb (show decode prog_1_method_1_code 89 = .ok (.aload_n 0, 1) by decide +kernel) rfl (lv_at hl 0 rfl) ?_
  refine gw_new (N := 54) (ci := 6) (fs := [.null, .int 0]) F sl_i6 sl_t6 sl_ty6 (sl_in1 296 (by decide +kernel) rfl) (sl_in1 297 (by decide +kernel) rfl) (sl_in1 94 (by decide +kernel) rfl) rfl (fun j hj => by rcases (show j = 0 ∨ j = 1 by omega) with rfl | rfl <;> rfl) (show decode prog_1_method_1_code 90 = .ok (.new 64, 3) by decide +kernel) (Nat.le_of_ble_eq_true rfl) (Nat.le_of_ble_eq_true rfl) hG hS (fun H hG hS => ?_)
  refine lv_dup hx hb (show decode prog_1_method_1_code 93 = .ok (.dup, 1) by decide +kernel) rfl ?_
  refine gw_callN (n := 0) (host := "SpanLayers") (o := 54) (As := []) (rest := [.ref (sl_b g + 54), .ref (sl_b g + 0)]) F (ct_6 g (N := 54 + 1) (o0 := 54) (by decide) fu_s) (List.mem_of_getElem? (i := 6) rfl) (sl_in1 299 (by decide +kernel) rfl) (sl_in1 94 (by decide +kernel) rfl) (sl_in1 300 (by decide +kernel) rfl) (by decide +kernel) rfl rfl (by decide) (Nat.le_of_ble_eq_true rfl) (Nat.le_of_ble_eq_true rfl) (show decode prog_1_method_1_code 94 = .ok (.invokespecial 66, 3) by decide +kernel) hl.1 (Nat.le_of_ble_eq_true rfl) (Nat.le_of_ble_eq_true rfl) (Nat.le_of_ble_eq_true rfl) (Nat.le_of_ble_eq_true rfl) (Nat.le_of_ble_eq_true rfl) hG hS (fun H locs hG hS => ?_)
  replace hG := sx_in (n0 := 54) (n1 := 56) (by decide) rfl rfl (fun i hi => by rcases (show i = 0 from (by have hi' : i < 1 := hi; omega)) with rfl <;> exact ⟨⟨by decide, by decide⟩, rfl⟩) hG
  refine gw_putF (o := 0) (v := .ref (sl_b g + 54)) (k := 8) (ci := 11) (ty := .object "SpanLayers$Paper") F hin sl_i11 sl_t11 sl_ty11 sl_nm11 rfl (by decide) (sl_in1 364 (by decide +kernel) rfl) rfl rfl (by decide +kernel) rfl rfl (show decode prog_1_method_1_code 97 = .ok (.putfield 67, 3) by decide +kernel) (by decide) sx_0 (Nat.le_of_ble_eq_true rfl) hG hS (fun H locs hG hS => ?_)
  rw [sx_pt0] at hG
  exact kk _ _ hG hS
set_option maxRecDepth 100000 in
set_option maxHeartbeats 4000000 in
theorem sx_c9 {p : Program} {g : sl_G} {e0 : Env} {s : State} {m : MethodId} {args : Array Value} {below : List Frame} {meth : Method} {c : Code} {H : Heap} {locs : List Loc} {Q : State → Prop} {ls : Array Slot} (F : gx g p s m args c "SpanLayers" prog_1_method_1_code 2) (hin : meth.name = "<init>") (hl : lv_has ls 2 [(0, .ref (sl_b g + 0))]) (hG : sl_Gw g (sxe g [.ref (sl_b g + 1), .ref (sl_b g + 34), .ref (sl_b g + 38), .ref (sl_b g + 42), .ref (sl_b g + 43), .ref (sl_b g + 45), .ref (sl_b g + 46), .ref (sl_b g + 50), .ref (sl_b g + 54), .null, .null, .int 0] (fun _ => none) (fun _ => none)) 56 H) (hS : va_S (sl_A g) s.heap H locs) (kk : ∀ (H : Heap) (locs : List Loc), sl_Gw g (sxe g [.ref (sl_b g + 1), .ref (sl_b g + 34), .ref (sl_b g + 38), .ref (sl_b g + 42), .ref (sl_b g + 43), .ref (sl_b g + 45), .ref (sl_b g + 46), .ref (sl_b g + 50), .ref (sl_b g + 54), .ref (sl_b g + 56), .null, .int 0] (fun _ => none) (fun _ => none)) 57 H → va_S (sl_A g) s.heap H locs → W p g.1 e0 (gw_rm 4 103 1411) s m args below meth c H locs 56 967 Q (F0 m 108 ls [])) : W p g.1 e0 (gw_rm 4 103 1411) s m args below meth c H locs 55 963 Q (F0 m 100 ls []) := by
  obtain ⟨hx, hb, hml, hown, hts, hK, -⟩ := id F
  refine lv_aload_n hx hb (show decode prog_1_method_1_code 100 = .ok (.aload_n 0, 1) by decide +kernel) rfl (lv_at hl 0 rfl) ?_
  refine lv_iconst (v := 4) hx hb (show decode prog_1_method_1_code 101 = .ok (.iconst 4, 1) by decide +kernel) (by decide) ?_
  refine gw_newq (N := 56) (C := sl_R8) (t0 := 4) (n := 4) F (sl_in1 311 (by decide +kernel) rfl) hK.2.2.1 rfl rfl (by decide) (show decode prog_1_method_1_code 102 = .ok (.anewarray 71, 3) by decide +kernel) (Nat.le_of_ble_eq_true rfl) (Nat.le_of_ble_eq_true rfl) hG hS (fun H hG hS => ?_)
  rw [sx_put56] at hG
  refine gw_putF (o := 0) (v := .ref (sl_b g + 56)) (k := 9) (ci := 11) (ty := .array (.object "SpanLayers$Row")) F hin sl_i11 sl_t11 sl_ty11 sl_nm11 rfl (by decide) (sl_in1 365 (by decide +kernel) rfl) rfl rfl (by decide +kernel) rfl rfl (show decode prog_1_method_1_code 105 = .ok (.putfield 73, 3) by decide +kernel) (by decide) sx_0 (Nat.le_of_ble_eq_true rfl) hG hS (fun H locs hG hS => ?_)
  rw [sx_pt0] at hG
  exact kk _ _ hG hS
set_option maxRecDepth 100000 in
set_option maxHeartbeats 4000000 in
theorem sx_c10 {p : Program} {g : sl_G} {e0 : Env} {s : State} {m : MethodId} {args : Array Value} {below : List Frame} {meth : Method} {c : Code} {H : Heap} {locs : List Loc} {Q : State → Prop} {ls : Array Slot} (F : gx g p s m args c "SpanLayers" prog_1_method_1_code 2) (hin : meth.name = "<init>") (hl : lv_has ls 2 [(0, .ref (sl_b g + 0))]) (hG : sl_Gw g (sxe g [.ref (sl_b g + 1), .ref (sl_b g + 34), .ref (sl_b g + 38), .ref (sl_b g + 42), .ref (sl_b g + 43), .ref (sl_b g + 45), .ref (sl_b g + 46), .ref (sl_b g + 50), .ref (sl_b g + 54), .ref (sl_b g + 56), .null, .int 0] (fun _ => none) (fun _ => none)) 57 H) (hS : va_S (sl_A g) s.heap H locs) (kk : ∀ (H : Heap) (locs : List Loc), sl_Gw g (sxe g [.ref (sl_b g + 1), .ref (sl_b g + 34), .ref (sl_b g + 38), .ref (sl_b g + 42), .ref (sl_b g + 43), .ref (sl_b g + 45), .ref (sl_b g + 46), .ref (sl_b g + 50), .ref (sl_b g + 54), .ref (sl_b g + 56), .ref (sl_b g + 57), .int 0] (fun _ => none) (fun _ => none)) 90 H → va_S (sl_A g) s.heap H locs → W p g.1 e0 (gw_rm 4 103 1411) s m args below meth c H locs 89 1209 Q (F0 m 119 ls [])) : W p g.1 e0 (gw_rm 4 103 1411) s m args below meth c H locs 56 967 Q (F0 m 108 ls []) := by
  obtain ⟨hx, hb, hml, hown, hts, hK, -⟩ := id F
  refine lv_aload_n hx hb (show decode prog_1_method_1_code 108 = .ok (.aload_n 0, 1) by decide +kernel) rfl (lv_at hl 0 rfl) ?_
  refine gw_new (N := 57) (ci := 5) (fs := [.null, .null]) F sl_i5 sl_t5 sl_ty5 (sl_in1 112 (by decide +kernel) rfl) (sl_in1 113 (by decide +kernel) rfl) (sl_in1 86 (by decide +kernel) rfl) rfl (fun j hj => by rcases (show j = 0 ∨ j = 1 by omega) with rfl | rfl <;> rfl) (show decode prog_1_method_1_code 109 = .ok (.new 7, 3) by decide +kernel) (Nat.le_of_ble_eq_true rfl) (Nat.le_of_ble_eq_true rfl) hG hS (fun H hG hS => ?_)
  refine lv_dup hx hb (show decode prog_1_method_1_code 112 = .ok (.dup, 1) by decide +kernel) rfl ?_
  refine gw_callI (n := 0) (o := 57) (As := []) (rest := [.ref (sl_b g + 57), .ref (sl_b g + 0)]) F (ct_5 g (N := 57 + 1) (o0 := 57) (by decide) fu_s) (sl_in1 114 (by decide +kernel) rfl) (sl_in1 115 (by decide +kernel) rfl) (sl_in1 86 (by decide +kernel) rfl) (sl_in1 116 (by decide +kernel) rfl) (by decide +kernel) rfl rfl (by decide) (Nat.le_of_ble_eq_true rfl) (Nat.le_of_ble_eq_true rfl) (show decode prog_1_method_1_code 113 = .ok (.invokespecial 9, 3) by decide +kernel) hl.1 (Nat.le_of_ble_eq_true rfl) (Nat.le_of_ble_eq_true rfl) (Nat.le_of_ble_eq_true rfl) (Nat.le_of_ble_eq_true rfl) (Nat.le_of_ble_eq_true rfl) hG hS (fun H locs hG hS => ?_)
  replace hG := sx_kx hG
  refine gw_putF (o := 0) (v := .ref (sl_b g + 57)) (k := 10) (ci := 11) (ty := .object "SpanLayers$Index") F hin sl_i11 sl_t11 sl_ty11 sl_nm11 rfl (by decide) (sl_in1 366 (by decide +kernel) rfl) rfl rfl (by decide +kernel) rfl rfl (show decode prog_1_method_1_code 116 = .ok (.putfield 77, 3) by decide +kernel) (by decide) sx_0 (Nat.le_of_ble_eq_true rfl) hG hS (fun H locs hG hS => ?_)
  rw [sx_pt0] at hG
  exact kk _ _ hG hS
set_option maxRecDepth 100000 in
set_option maxHeartbeats 4000000 in
theorem sx_b0 {p : Program} {g : sl_G} {e0 : Env} {s : State} {m : MethodId} {args : Array Value} {below : List Frame} {meth : Method} {c : Code} {H : Heap} {locs : List Loc} {Q : State → Prop} {ls : Array Slot} (F : gx g p s m args c "SpanLayers" prog_1_method_1_code 2) (hin : meth.name = "<init>") (hl : lv_has ls 2 [(0, .ref (sl_b g + 0))]) (hG : sl_Gw g (sxe g [.ref (sl_b g + 1), .ref (sl_b g + 34), .ref (sl_b g + 38), .ref (sl_b g + 42), .ref (sl_b g + 43), .ref (sl_b g + 45), .ref (sl_b g + 46), .ref (sl_b g + 50), .ref (sl_b g + 54), .ref (sl_b g + 56), .ref (sl_b g + 57), .int 0] (fun _ => none) (fun _ => none)) 90 H) (hS : va_S (sl_A g) s.heap H locs) (kk : ∀ (H : Heap) (locs : List Loc) (ls : Array Slot), sl_Gw g (sxe g [.ref (sl_b g + 1), .ref (sl_b g + 34), .ref (sl_b g + 38), .ref (sl_b g + 42), .ref (sl_b g + 43), .ref (sl_b g + 45), .ref (sl_b g + 46), .ref (sl_b g + 50), .ref (sl_b g + 54), .ref (sl_b g + 56), .ref (sl_b g + 57), .int 0] (fun _ => none) (fun _ => none)) 90 H → va_S (sl_A g) s.heap H locs → lv_has ls 2 [(1, .int 0), (0, .ref (sl_b g + 0))] → W p g.1 e0 (gw_rm 4 103 1411) s m args below meth c H locs 89 1209 Q (F0 m 121 ls [])) : W p g.1 e0 (gw_rm 4 103 1411) s m args below meth c H locs 89 1209 Q (F0 m 119 ls []) := by
  obtain ⟨hx, hb, hml, hown, hts, hK, -⟩ := id F
  refine lv_iconst (v := 0) hx hb (show decode prog_1_method_1_code 119 = .ok (.iconst 0, 1) by decide +kernel) (by decide) ?_
  refine lv_istore_n hx hb (show decode prog_1_method_1_code 120 = .ok (.istore_n 1, 1) by decide +kernel) rfl hl (by decide) rfl (fun ls hl => ?_)
  exact kk _ _ _ hG hS hl
set_option maxRecDepth 100000 in
set_option maxHeartbeats 4000000 in
theorem sx_i0 {p : Program} {g : sl_G} {e0 : Env} {s : State} {m : MethodId} {args : Array Value} {below : List Frame} {meth : Method} {c : Code} {H : Heap} {locs : List Loc} {Q : State → Prop} {ls : Array Slot} (F : gx g p s m args c "SpanLayers" prog_1_method_1_code 2) (hin : meth.name = "<init>") (hl : lv_has ls 2 [(1, .int 0), (0, .ref (sl_b g + 0))]) (hG : sl_Gw g (sxe g [.ref (sl_b g + 1), .ref (sl_b g + 34), .ref (sl_b g + 38), .ref (sl_b g + 42), .ref (sl_b g + 43), .ref (sl_b g + 45), .ref (sl_b g + 46), .ref (sl_b g + 50), .ref (sl_b g + 54), .ref (sl_b g + 56), .ref (sl_b g + 57), .int 0] (fun _ => none) (fun _ => none)) 90 H) (hS : va_S (sl_A g) s.heap H locs) (kk : ∀ (H : Heap) (locs : List Loc) (ls : Array Slot), sl_Gw g (sxe g [.ref (sl_b g + 1), .ref (sl_b g + 34), .ref (sl_b g + 38), .ref (sl_b g + 42), .ref (sl_b g + 43), .ref (sl_b g + 45), .ref (sl_b g + 46), .ref (sl_b g + 50), .ref (sl_b g + 54), .ref (sl_b g + 56), .ref (sl_b g + 57), .int 0] (va_up (fun _ => none) 0 (some (sl_b g + 90))) (fun _ => none)) 92 H → va_S (sl_A g) s.heap H locs → lv_has ls 2 [(1, .int 1), (0, .ref (sl_b g + 0))] → W p g.1 e0 (gw_rm 4 103 1411) s m args below meth c H locs 91 1219 Q (F0 m 121 ls [])) : W p g.1 e0 (gw_rm 4 103 1411) s m args below meth c H locs 89 1209 Q (F0 m 121 ls []) := by
  obtain ⟨hx, hb, hml, hown, hts, hK, -⟩ := id F
  refine lv_iload_n hx hb (show decode prog_1_method_1_code 121 = .ok (.iload_n 1, 1) by decide +kernel) rfl (lv_at hl 0 rfl) ?_
  refine lv_iconst (v := 3) hx hb (show decode prog_1_method_1_code 122 = .ok (.iconst 3, 1) by decide +kernel) (by decide) ?_
  refine lv_icmp_ge (tgt := 145) hx hb (show decode prog_1_method_1_code 123 = .ok (.if_icmp .ge 22, 3) by decide +kernel) (by decide) (fun z => absurd z (by decide)) (fun _ => ?_)
  refine lv_aload_n hx hb (show decode prog_1_method_1_code 126 = .ok (.aload_n 0, 1) by decide +kernel) rfl (lv_at hl 1 rfl) ?_
  refine gw_get (o := 0) (ci := 11) (k := 3) (v := .ref (sl_b g + 42)) F sl_i11 rfl (by decide) (sl_in1 359 (by decide +kernel) rfl) (show decode prog_1_method_1_code 127 = .ok (.getfield 32, 3) by decide +kernel) (by decide) sx_0 rfl hG ?_
  refine lv_iload_n hx hb (show decode prog_1_method_1_code 130 = .ok (.iload_n 1, 1) by decide +kernel) rfl (lv_at hl 0 rfl) ?_
  refine gw_new (N := 90) (ci := 4) (fs := [.int 0, .int 0, .int 0, .null]) F sl_i4 sl_t4 sl_ty4 (sl_in1 227 (by decide +kernel) rfl) (sl_in1 313 (by decide +kernel) rfl) (sl_in1 95 (by decide +kernel) rfl) rfl (fun j hj => by rcases (show j = 0 ∨ j = 1 ∨ j = 2 ∨ j = 3 by omega) with rfl | rfl | rfl | rfl <;> rfl) (show decode prog_1_method_1_code 131 = .ok (.new 30, 3) by decide +kernel) (Nat.le_of_ble_eq_true rfl) (Nat.le_of_ble_eq_true rfl) hG hS (fun H hG hS => ?_)
  refine lv_dup hx hb (show decode prog_1_method_1_code 134 = .ok (.dup, 1) by decide +kernel) rfl ?_
  refine gw_callN (n := 0) (host := "SpanLayers") (o := 90) (As := []) (rest := [.ref (sl_b g + 90), .int 0, .ref (sl_b g + 42)]) F (ct_4 g (N := 90 + 1) (o0 := 90) (by decide) fu_s) (List.mem_of_getElem? (i := 7) rfl) (sl_in1 315 (by decide +kernel) rfl) (sl_in1 95 (by decide +kernel) rfl) (sl_in1 316 (by decide +kernel) rfl) (by decide +kernel) rfl rfl (by decide) (Nat.le_of_ble_eq_true rfl) (Nat.le_of_ble_eq_true rfl) (show decode prog_1_method_1_code 135 = .ok (.invokespecial 80, 3) by decide +kernel) hl.1 (Nat.le_of_ble_eq_true rfl) (Nat.le_of_ble_eq_true rfl) (Nat.le_of_ble_eq_true rfl) (Nat.le_of_ble_eq_true rfl) (Nat.le_of_ble_eq_true rfl) hG hS (fun H locs hG hS => ?_)
  replace hG := sx_in (n0 := 90) (n1 := 92) (by decide) rfl rfl (fun i hi => by rcases (show i = 0 from (by have hi' : i < 1 := hi; omega)) with rfl <;> exact ⟨⟨by decide, by decide⟩, rfl⟩) hG
  refine gw_aast (o := 42) (t0 := 3) (qk := 90) (ci := 4) (i := 0) (n := 3) F rfl rfl (by decide) (by decide) (show decode prog_1_method_1_code 138 = .ok (.aastore, 1) by decide +kernel) (by decide) sx_42 (by decide) (sx_o (by decide) (by decide) (by decide)) hG hS (fun H locs hG hS => ?_)
  rw [sx_put42] at hG
  refine lv_iinc (k := 0) (v := 1) hx hb (show decode prog_1_method_1_code 139 = .ok (.iinc 1 1, 3) by decide +kernel) hl rfl (by decide) (by decide) rfl (fun ls hl => ?_)
  refine lv_goto (tgt := 121) hx hb (show decode prog_1_method_1_code 142 = .ok (.goto (-21), 3) by decide +kernel) (by decide) ?_
  exact kk _ _ _ hG hS hl
set_option maxRecDepth 100000 in
set_option maxHeartbeats 4000000 in
theorem sx_i1 {p : Program} {g : sl_G} {e0 : Env} {s : State} {m : MethodId} {args : Array Value} {below : List Frame} {meth : Method} {c : Code} {H : Heap} {locs : List Loc} {Q : State → Prop} {ls : Array Slot} (F : gx g p s m args c "SpanLayers" prog_1_method_1_code 2) (hin : meth.name = "<init>") (hl : lv_has ls 2 [(1, .int 1), (0, .ref (sl_b g + 0))]) (hG : sl_Gw g (sxe g [.ref (sl_b g + 1), .ref (sl_b g + 34), .ref (sl_b g + 38), .ref (sl_b g + 42), .ref (sl_b g + 43), .ref (sl_b g + 45), .ref (sl_b g + 46), .ref (sl_b g + 50), .ref (sl_b g + 54), .ref (sl_b g + 56), .ref (sl_b g + 57), .int 0] (va_up (fun _ => none) 0 (some (sl_b g + 90))) (fun _ => none)) 92 H) (hS : va_S (sl_A g) s.heap H locs) (kk : ∀ (H : Heap) (locs : List Loc) (ls : Array Slot), sl_Gw g (sxe g [.ref (sl_b g + 1), .ref (sl_b g + 34), .ref (sl_b g + 38), .ref (sl_b g + 42), .ref (sl_b g + 43), .ref (sl_b g + 45), .ref (sl_b g + 46), .ref (sl_b g + 50), .ref (sl_b g + 54), .ref (sl_b g + 56), .ref (sl_b g + 57), .int 0] (va_up (va_up (fun _ => none) 0 (some (sl_b g + 90))) 1 (some (sl_b g + 92))) (fun _ => none)) 94 H → va_S (sl_A g) s.heap H locs → lv_has ls 2 [(1, .int 2), (0, .ref (sl_b g + 0))] → W p g.1 e0 (gw_rm 4 103 1411) s m args below meth c H locs 93 1229 Q (F0 m 121 ls [])) : W p g.1 e0 (gw_rm 4 103 1411) s m args below meth c H locs 91 1219 Q (F0 m 121 ls []) := by
  obtain ⟨hx, hb, hml, hown, hts, hK, -⟩ := id F
  refine lv_iload_n hx hb (show decode prog_1_method_1_code 121 = .ok (.iload_n 1, 1) by decide +kernel) rfl (lv_at hl 0 rfl) ?_
  refine lv_iconst (v := 3) hx hb (show decode prog_1_method_1_code 122 = .ok (.iconst 3, 1) by decide +kernel) (by decide) ?_
  refine lv_icmp_ge (tgt := 145) hx hb (show decode prog_1_method_1_code 123 = .ok (.if_icmp .ge 22, 3) by decide +kernel) (by decide) (fun z => absurd z (by decide)) (fun _ => ?_)
  refine lv_aload_n hx hb (show decode prog_1_method_1_code 126 = .ok (.aload_n 0, 1) by decide +kernel) rfl (lv_at hl 1 rfl) ?_
  refine gw_get (o := 0) (ci := 11) (k := 3) (v := .ref (sl_b g + 42)) F sl_i11 rfl (by decide) (sl_in1 359 (by decide +kernel) rfl) (show decode prog_1_method_1_code 127 = .ok (.getfield 32, 3) by decide +kernel) (by decide) sx_0 rfl hG ?_
  refine lv_iload_n hx hb (show decode prog_1_method_1_code 130 = .ok (.iload_n 1, 1) by decide +kernel) rfl (lv_at hl 0 rfl) ?_
  refine gw_new (N := 92) (ci := 4) (fs := [.int 0, .int 0, .int 0, .null]) F sl_i4 sl_t4 sl_ty4 (sl_in1 227 (by decide +kernel) rfl) (sl_in1 313 (by decide +kernel) rfl) (sl_in1 95 (by decide +kernel) rfl) rfl (fun j hj => by rcases (show j = 0 ∨ j = 1 ∨ j = 2 ∨ j = 3 by omega) with rfl | rfl | rfl | rfl <;> rfl) (show decode prog_1_method_1_code 131 = .ok (.new 30, 3) by decide +kernel) (Nat.le_of_ble_eq_true rfl) (Nat.le_of_ble_eq_true rfl) hG hS (fun H hG hS => ?_)
  refine lv_dup hx hb (show decode prog_1_method_1_code 134 = .ok (.dup, 1) by decide +kernel) rfl ?_
  refine gw_callN (n := 0) (host := "SpanLayers") (o := 92) (As := []) (rest := [.ref (sl_b g + 92), .int 1, .ref (sl_b g + 42)]) F (ct_4 g (N := 92 + 1) (o0 := 92) (by decide) fu_s) (List.mem_of_getElem? (i := 7) rfl) (sl_in1 315 (by decide +kernel) rfl) (sl_in1 95 (by decide +kernel) rfl) (sl_in1 316 (by decide +kernel) rfl) (by decide +kernel) rfl rfl (by decide) (Nat.le_of_ble_eq_true rfl) (Nat.le_of_ble_eq_true rfl) (show decode prog_1_method_1_code 135 = .ok (.invokespecial 80, 3) by decide +kernel) hl.1 (Nat.le_of_ble_eq_true rfl) (Nat.le_of_ble_eq_true rfl) (Nat.le_of_ble_eq_true rfl) (Nat.le_of_ble_eq_true rfl) (Nat.le_of_ble_eq_true rfl) hG hS (fun H locs hG hS => ?_)
  replace hG := sx_in (n0 := 92) (n1 := 94) (by decide) rfl rfl (fun i hi => by rcases (show i = 0 from (by have hi' : i < 1 := hi; omega)) with rfl <;> exact ⟨⟨by decide, by decide⟩, rfl⟩) hG
  refine gw_aast (o := 42) (t0 := 3) (qk := 92) (ci := 4) (i := 1) (n := 3) F rfl rfl (by decide) (by decide) (show decode prog_1_method_1_code 138 = .ok (.aastore, 1) by decide +kernel) (by decide) sx_42 (by decide) (sx_o (by decide) (by decide) (by decide)) hG hS (fun H locs hG hS => ?_)
  rw [sx_put42] at hG
  refine lv_iinc (k := 0) (v := 2) hx hb (show decode prog_1_method_1_code 139 = .ok (.iinc 1 1, 3) by decide +kernel) hl rfl (by decide) (by decide) rfl (fun ls hl => ?_)
  refine lv_goto (tgt := 121) hx hb (show decode prog_1_method_1_code 142 = .ok (.goto (-21), 3) by decide +kernel) (by decide) ?_
  exact kk _ _ _ hG hS hl
set_option maxRecDepth 100000 in
set_option maxHeartbeats 4000000 in
theorem sx_i2 {p : Program} {g : sl_G} {e0 : Env} {s : State} {m : MethodId} {args : Array Value} {below : List Frame} {meth : Method} {c : Code} {H : Heap} {locs : List Loc} {Q : State → Prop} {ls : Array Slot} (F : gx g p s m args c "SpanLayers" prog_1_method_1_code 2) (hin : meth.name = "<init>") (hl : lv_has ls 2 [(1, .int 2), (0, .ref (sl_b g + 0))]) (hG : sl_Gw g (sxe g [.ref (sl_b g + 1), .ref (sl_b g + 34), .ref (sl_b g + 38), .ref (sl_b g + 42), .ref (sl_b g + 43), .ref (sl_b g + 45), .ref (sl_b g + 46), .ref (sl_b g + 50), .ref (sl_b g + 54), .ref (sl_b g + 56), .ref (sl_b g + 57), .int 0] (va_up (va_up (fun _ => none) 0 (some (sl_b g + 90))) 1 (some (sl_b g + 92))) (fun _ => none)) 94 H) (hS : va_S (sl_A g) s.heap H locs) (kk : ∀ (H : Heap) (locs : List Loc) (ls : Array Slot), sl_Gw g (sxe g [.ref (sl_b g + 1), .ref (sl_b g + 34), .ref (sl_b g + 38), .ref (sl_b g + 42), .ref (sl_b g + 43), .ref (sl_b g + 45), .ref (sl_b g + 46), .ref (sl_b g + 50), .ref (sl_b g + 54), .ref (sl_b g + 56), .ref (sl_b g + 57), .int 0] (va_up (va_up (va_up (fun _ => none) 0 (some (sl_b g + 90))) 1 (some (sl_b g + 92))) 2 (some (sl_b g + 94))) (fun _ => none)) 96 H → va_S (sl_A g) s.heap H locs → lv_has ls 2 [(1, .int 3), (0, .ref (sl_b g + 0))] → W p g.1 e0 (gw_rm 4 103 1411) s m args below meth c H locs 95 1239 Q (F0 m 121 ls [])) : W p g.1 e0 (gw_rm 4 103 1411) s m args below meth c H locs 93 1229 Q (F0 m 121 ls []) := by
  obtain ⟨hx, hb, hml, hown, hts, hK, -⟩ := id F
  refine lv_iload_n hx hb (show decode prog_1_method_1_code 121 = .ok (.iload_n 1, 1) by decide +kernel) rfl (lv_at hl 0 rfl) ?_
  refine lv_iconst (v := 3) hx hb (show decode prog_1_method_1_code 122 = .ok (.iconst 3, 1) by decide +kernel) (by decide) ?_
  refine lv_icmp_ge (tgt := 145) hx hb (show decode prog_1_method_1_code 123 = .ok (.if_icmp .ge 22, 3) by decide +kernel) (by decide) (fun z => absurd z (by decide)) (fun _ => ?_)
  refine lv_aload_n hx hb (show decode prog_1_method_1_code 126 = .ok (.aload_n 0, 1) by decide +kernel) rfl (lv_at hl 1 rfl) ?_
  refine gw_get (o := 0) (ci := 11) (k := 3) (v := .ref (sl_b g + 42)) F sl_i11 rfl (by decide) (sl_in1 359 (by decide +kernel) rfl) (show decode prog_1_method_1_code 127 = .ok (.getfield 32, 3) by decide +kernel) (by decide) sx_0 rfl hG ?_
  refine lv_iload_n hx hb (show decode prog_1_method_1_code 130 = .ok (.iload_n 1, 1) by decide +kernel) rfl (lv_at hl 0 rfl) ?_
  refine gw_new (N := 94) (ci := 4) (fs := [.int 0, .int 0, .int 0, .null]) F sl_i4 sl_t4 sl_ty4 (sl_in1 227 (by decide +kernel) rfl) (sl_in1 313 (by decide +kernel) rfl) (sl_in1 95 (by decide +kernel) rfl) rfl (fun j hj => by rcases (show j = 0 ∨ j = 1 ∨ j = 2 ∨ j = 3 by omega) with rfl | rfl | rfl | rfl <;> rfl) (show decode prog_1_method_1_code 131 = .ok (.new 30, 3) by decide +kernel) (Nat.le_of_ble_eq_true rfl) (Nat.le_of_ble_eq_true rfl) hG hS (fun H hG hS => ?_)
  refine lv_dup hx hb (show decode prog_1_method_1_code 134 = .ok (.dup, 1) by decide +kernel) rfl ?_
  refine gw_callN (n := 0) (host := "SpanLayers") (o := 94) (As := []) (rest := [.ref (sl_b g + 94), .int 2, .ref (sl_b g + 42)]) F (ct_4 g (N := 94 + 1) (o0 := 94) (by decide) fu_s) (List.mem_of_getElem? (i := 7) rfl) (sl_in1 315 (by decide +kernel) rfl) (sl_in1 95 (by decide +kernel) rfl) (sl_in1 316 (by decide +kernel) rfl) (by decide +kernel) rfl rfl (by decide) (Nat.le_of_ble_eq_true rfl) (Nat.le_of_ble_eq_true rfl) (show decode prog_1_method_1_code 135 = .ok (.invokespecial 80, 3) by decide +kernel) hl.1 (Nat.le_of_ble_eq_true rfl) (Nat.le_of_ble_eq_true rfl) (Nat.le_of_ble_eq_true rfl) (Nat.le_of_ble_eq_true rfl) (Nat.le_of_ble_eq_true rfl) hG hS (fun H locs hG hS => ?_)
  replace hG := sx_in (n0 := 94) (n1 := 96) (by decide) rfl rfl (fun i hi => by rcases (show i = 0 from (by have hi' : i < 1 := hi; omega)) with rfl <;> exact ⟨⟨by decide, by decide⟩, rfl⟩) hG
  refine gw_aast (o := 42) (t0 := 3) (qk := 94) (ci := 4) (i := 2) (n := 3) F rfl rfl (by decide) (by decide) (show decode prog_1_method_1_code 138 = .ok (.aastore, 1) by decide +kernel) (by decide) sx_42 (by decide) (sx_o (by decide) (by decide) (by decide)) hG hS (fun H locs hG hS => ?_)
  rw [sx_put42] at hG
  refine lv_iinc (k := 0) (v := 3) hx hb (show decode prog_1_method_1_code 139 = .ok (.iinc 1 1, 3) by decide +kernel) hl rfl (by decide) (by decide) rfl (fun ls hl => ?_)
  refine lv_goto (tgt := 121) hx hb (show decode prog_1_method_1_code 142 = .ok (.goto (-21), 3) by decide +kernel) (by decide) ?_
  exact kk _ _ _ hG hS hl
set_option maxRecDepth 100000 in
set_option maxHeartbeats 4000000 in
theorem sx_e0 {p : Program} {g : sl_G} {e0 : Env} {s : State} {m : MethodId} {args : Array Value} {below : List Frame} {meth : Method} {c : Code} {H : Heap} {locs : List Loc} {Q : State → Prop} {ls : Array Slot} (F : gx g p s m args c "SpanLayers" prog_1_method_1_code 2) (hin : meth.name = "<init>") (hl : lv_has ls 2 [(1, .int 3), (0, .ref (sl_b g + 0))]) (hG : sl_Gw g (sxe g [.ref (sl_b g + 1), .ref (sl_b g + 34), .ref (sl_b g + 38), .ref (sl_b g + 42), .ref (sl_b g + 43), .ref (sl_b g + 45), .ref (sl_b g + 46), .ref (sl_b g + 50), .ref (sl_b g + 54), .ref (sl_b g + 56), .ref (sl_b g + 57), .int 0] (va_up (va_up (va_up (fun _ => none) 0 (some (sl_b g + 90))) 1 (some (sl_b g + 92))) 2 (some (sl_b g + 94))) (fun _ => none)) 96 H) (hS : va_S (sl_A g) s.heap H locs) (kk : ∀ (H : Heap) (locs : List Loc), sl_Gw g (sxe g [.ref (sl_b g + 1), .ref (sl_b g + 34), .ref (sl_b g + 38), .ref (sl_b g + 42), .ref (sl_b g + 43), .ref (sl_b g + 45), .ref (sl_b g + 46), .ref (sl_b g + 50), .ref (sl_b g + 54), .ref (sl_b g + 56), .ref (sl_b g + 57), .int 0] (va_up (va_up (va_up (fun _ => none) 0 (some (sl_b g + 90))) 1 (some (sl_b g + 92))) 2 (some (sl_b g + 94))) (fun _ => none)) 96 H → va_S (sl_A g) s.heap H locs → W p g.1 e0 (gw_rm 4 103 1411) s m args below meth c H locs 95 1239 Q (F0 m 145 ls [])) : W p g.1 e0 (gw_rm 4 103 1411) s m args below meth c H locs 95 1239 Q (F0 m 121 ls []) := by
  obtain ⟨hx, hb, hml, hown, hts, hK, -⟩ := id F
  refine lv_iload_n hx hb (show decode prog_1_method_1_code 121 = .ok (.iload_n 1, 1) by decide +kernel) rfl (lv_at hl 0 rfl) ?_
  refine lv_iconst (v := 3) hx hb (show decode prog_1_method_1_code 122 = .ok (.iconst 3, 1) by decide +kernel) (by decide) ?_
  refine lv_icmp_ge (tgt := 145) hx hb (show decode prog_1_method_1_code 123 = .ok (.if_icmp .ge 22, 3) by decide +kernel) (by decide) (fun _ => ?_) (fun z => absurd (by decide) z)
  exact kk _ _ hG hS
set_option maxRecDepth 100000 in
set_option maxHeartbeats 4000000 in
theorem sx_b1 {p : Program} {g : sl_G} {e0 : Env} {s : State} {m : MethodId} {args : Array Value} {below : List Frame} {meth : Method} {c : Code} {H : Heap} {locs : List Loc} {Q : State → Prop} {ls : Array Slot} (F : gx g p s m args c "SpanLayers" prog_1_method_1_code 2) (hin : meth.name = "<init>") (hl : lv_has ls 2 [(1, .int 3), (0, .ref (sl_b g + 0))]) (hG : sl_Gw g (sxe g [.ref (sl_b g + 1), .ref (sl_b g + 34), .ref (sl_b g + 38), .ref (sl_b g + 42), .ref (sl_b g + 43), .ref (sl_b g + 45), .ref (sl_b g + 46), .ref (sl_b g + 50), .ref (sl_b g + 54), .ref (sl_b g + 56), .ref (sl_b g + 57), .int 0] (va_up (va_up (va_up (fun _ => none) 0 (some (sl_b g + 90))) 1 (some (sl_b g + 92))) 2 (some (sl_b g + 94))) (fun _ => none)) 96 H) (hS : va_S (sl_A g) s.heap H locs) (kk : ∀ (H : Heap) (locs : List Loc) (ls : Array Slot), sl_Gw g (sxe g [.ref (sl_b g + 1), .ref (sl_b g + 34), .ref (sl_b g + 38), .ref (sl_b g + 42), .ref (sl_b g + 43), .ref (sl_b g + 45), .ref (sl_b g + 46), .ref (sl_b g + 50), .ref (sl_b g + 54), .ref (sl_b g + 56), .ref (sl_b g + 57), .int 0] (va_up (va_up (va_up (fun _ => none) 0 (some (sl_b g + 90))) 1 (some (sl_b g + 92))) 2 (some (sl_b g + 94))) (fun _ => none)) 96 H → va_S (sl_A g) s.heap H locs → lv_has ls 2 [(1, .int 0), (0, .ref (sl_b g + 0))] → W p g.1 e0 (gw_rm 4 103 1411) s m args below meth c H locs 95 1239 Q (F0 m 147 ls [])) : W p g.1 e0 (gw_rm 4 103 1411) s m args below meth c H locs 95 1239 Q (F0 m 145 ls []) := by
  obtain ⟨hx, hb, hml, hown, hts, hK, -⟩ := id F
  refine lv_iconst (v := 0) hx hb (show decode prog_1_method_1_code 145 = .ok (.iconst 0, 1) by decide +kernel) (by decide) ?_
  refine lv_istore_n hx hb (show decode prog_1_method_1_code 146 = .ok (.istore_n 1, 1) by decide +kernel) rfl hl (by decide) rfl (fun ls hl => ?_)
  exact kk _ _ _ hG hS hl
set_option maxRecDepth 100000 in
set_option maxHeartbeats 4000000 in
theorem sx_j0 {p : Program} {g : sl_G} {e0 : Env} {s : State} {m : MethodId} {args : Array Value} {below : List Frame} {meth : Method} {c : Code} {H : Heap} {locs : List Loc} {Q : State → Prop} {ls : Array Slot} (F : gx g p s m args c "SpanLayers" prog_1_method_1_code 2) (hin : meth.name = "<init>") (hl : lv_has ls 2 [(1, .int 0), (0, .ref (sl_b g + 0))]) (hG : sl_Gw g (sxe g [.ref (sl_b g + 1), .ref (sl_b g + 34), .ref (sl_b g + 38), .ref (sl_b g + 42), .ref (sl_b g + 43), .ref (sl_b g + 45), .ref (sl_b g + 46), .ref (sl_b g + 50), .ref (sl_b g + 54), .ref (sl_b g + 56), .ref (sl_b g + 57), .int 0] (va_up (va_up (va_up (fun _ => none) 0 (some (sl_b g + 90))) 1 (some (sl_b g + 92))) 2 (some (sl_b g + 94))) (fun _ => none)) 96 H) (hS : va_S (sl_A g) s.heap H locs) (kk : ∀ (H : Heap) (locs : List Loc) (ls : Array Slot), sl_Gw g (sxe g [.ref (sl_b g + 1), .ref (sl_b g + 34), .ref (sl_b g + 38), .ref (sl_b g + 42), .ref (sl_b g + 43), .ref (sl_b g + 45), .ref (sl_b g + 46), .ref (sl_b g + 50), .ref (sl_b g + 54), .ref (sl_b g + 56), .ref (sl_b g + 57), .int 0] (va_up (va_up (va_up (fun _ => none) 0 (some (sl_b g + 90))) 1 (some (sl_b g + 92))) 2 (some (sl_b g + 94))) (va_up (fun _ => none) 0 (some (sl_b g + 96)))) 98 H → va_S (sl_A g) s.heap H locs → lv_has ls 2 [(1, .int 1), (0, .ref (sl_b g + 0))] → W p g.1 e0 (gw_rm 4 103 1411) s m args below meth c H locs 97 1282 Q (F0 m 147 ls [])) : W p g.1 e0 (gw_rm 4 103 1411) s m args below meth c H locs 95 1239 Q (F0 m 147 ls []) := by
  obtain ⟨hx, hb, hml, hown, hts, hK, -⟩ := id F
  refine lv_iload_n hx hb (show decode prog_1_method_1_code 147 = .ok (.iload_n 1, 1) by decide +kernel) rfl (lv_at hl 0 rfl) ?_
  refine lv_iconst (v := 4) hx hb (show decode prog_1_method_1_code 148 = .ok (.iconst 4, 1) by decide +kernel) (by decide) ?_
  refine lv_icmp_ge (tgt := 171) hx hb (show decode prog_1_method_1_code 149 = .ok (.if_icmp .ge 22, 3) by decide +kernel) (by decide) (fun z => absurd z (by decide)) (fun _ => ?_)
  refine lv_aload_n hx hb (show decode prog_1_method_1_code 152 = .ok (.aload_n 0, 1) by decide +kernel) rfl (lv_at hl 1 rfl) ?_
  refine gw_get (o := 0) (ci := 11) (k := 9) (v := .ref (sl_b g + 56)) F sl_i11 rfl (by decide) (sl_in1 365 (by decide +kernel) rfl) (show decode prog_1_method_1_code 153 = .ok (.getfield 73, 3) by decide +kernel) (by decide) sx_0 rfl hG ?_
  refine lv_iload_n hx hb (show decode prog_1_method_1_code 156 = .ok (.iload_n 1, 1) by decide +kernel) rfl (lv_at hl 0 rfl) ?_
  refine gw_new (N := 96) (ci := 8) (fs := [.null, .int 0, .int 0]) F sl_i8 sl_t8 sl_ty8 (sl_in1 311 (by decide +kernel) rfl) (sl_in1 339 (by decide +kernel) rfl) (sl_in1 96 (by decide +kernel) rfl) rfl (fun j hj => by rcases (show j = 0 ∨ j = 1 ∨ j = 2 by omega) with rfl | rfl | rfl <;> rfl) (show decode prog_1_method_1_code 157 = .ok (.new 71, 3) by decide +kernel) (Nat.le_of_ble_eq_true rfl) (Nat.le_of_ble_eq_true rfl) hG hS (fun H hG hS => ?_)
  refine lv_dup hx hb (show decode prog_1_method_1_code 160 = .ok (.dup, 1) by decide +kernel) rfl ?_
  refine gw_callN (n := 0) (host := "SpanLayers") (o := 96) (As := []) (rest := [.ref (sl_b g + 96), .int 0, .ref (sl_b g + 56)]) F (ct_8 g (N := 96 + 1) (o0 := 96) (by decide) fu_s) (List.mem_of_getElem? (i := 8) rfl) (sl_in1 341 (by decide +kernel) rfl) (sl_in1 96 (by decide +kernel) rfl) (sl_in1 342 (by decide +kernel) rfl) (by decide +kernel) rfl rfl (by decide) (Nat.le_of_ble_eq_true rfl) (Nat.le_of_ble_eq_true rfl) (show decode prog_1_method_1_code 161 = .ok (.invokespecial 81, 3) by decide +kernel) hl.1 (Nat.le_of_ble_eq_true rfl) (Nat.le_of_ble_eq_true rfl) (Nat.le_of_ble_eq_true rfl) (Nat.le_of_ble_eq_true rfl) (Nat.le_of_ble_eq_true rfl) hG hS (fun H locs hG hS => ?_)
  replace hG := sx_in (n0 := 96) (n1 := 98) (by decide) rfl rfl (fun i hi => by rcases (show i = 0 from (by have hi' : i < 1 := hi; omega)) with rfl <;> exact ⟨⟨by decide, by decide⟩, rfl⟩) hG
  refine gw_aast (o := 56) (t0 := 4) (qk := 96) (ci := 8) (i := 0) (n := 4) F rfl rfl (by decide) (by decide) (show decode prog_1_method_1_code 164 = .ok (.aastore, 1) by decide +kernel) (by decide) sx_56 (by decide) (sx_o (by decide) (by decide) (by decide)) hG hS (fun H locs hG hS => ?_)
  rw [sx_put56] at hG
  refine lv_iinc (k := 0) (v := 1) hx hb (show decode prog_1_method_1_code 165 = .ok (.iinc 1 1, 3) by decide +kernel) hl rfl (by decide) (by decide) rfl (fun ls hl => ?_)
  refine lv_goto (tgt := 147) hx hb (show decode prog_1_method_1_code 168 = .ok (.goto (-21), 3) by decide +kernel) (by decide) ?_
  exact kk _ _ _ hG hS hl
set_option maxRecDepth 100000 in
set_option maxHeartbeats 4000000 in
theorem sx_j1 {p : Program} {g : sl_G} {e0 : Env} {s : State} {m : MethodId} {args : Array Value} {below : List Frame} {meth : Method} {c : Code} {H : Heap} {locs : List Loc} {Q : State → Prop} {ls : Array Slot} (F : gx g p s m args c "SpanLayers" prog_1_method_1_code 2) (hin : meth.name = "<init>") (hl : lv_has ls 2 [(1, .int 1), (0, .ref (sl_b g + 0))]) (hG : sl_Gw g (sxe g [.ref (sl_b g + 1), .ref (sl_b g + 34), .ref (sl_b g + 38), .ref (sl_b g + 42), .ref (sl_b g + 43), .ref (sl_b g + 45), .ref (sl_b g + 46), .ref (sl_b g + 50), .ref (sl_b g + 54), .ref (sl_b g + 56), .ref (sl_b g + 57), .int 0] (va_up (va_up (va_up (fun _ => none) 0 (some (sl_b g + 90))) 1 (some (sl_b g + 92))) 2 (some (sl_b g + 94))) (va_up (fun _ => none) 0 (some (sl_b g + 96)))) 98 H) (hS : va_S (sl_A g) s.heap H locs) (kk : ∀ (H : Heap) (locs : List Loc) (ls : Array Slot), sl_Gw g (sxe g [.ref (sl_b g + 1), .ref (sl_b g + 34), .ref (sl_b g + 38), .ref (sl_b g + 42), .ref (sl_b g + 43), .ref (sl_b g + 45), .ref (sl_b g + 46), .ref (sl_b g + 50), .ref (sl_b g + 54), .ref (sl_b g + 56), .ref (sl_b g + 57), .int 0] (va_up (va_up (va_up (fun _ => none) 0 (some (sl_b g + 90))) 1 (some (sl_b g + 92))) 2 (some (sl_b g + 94))) (va_up (va_up (fun _ => none) 0 (some (sl_b g + 96))) 1 (some (sl_b g + 98)))) 100 H → va_S (sl_A g) s.heap H locs → lv_has ls 2 [(1, .int 2), (0, .ref (sl_b g + 0))] → W p g.1 e0 (gw_rm 4 103 1411) s m args below meth c H locs 99 1325 Q (F0 m 147 ls [])) : W p g.1 e0 (gw_rm 4 103 1411) s m args below meth c H locs 97 1282 Q (F0 m 147 ls []) := by
  obtain ⟨hx, hb, hml, hown, hts, hK, -⟩ := id F
  refine lv_iload_n hx hb (show decode prog_1_method_1_code 147 = .ok (.iload_n 1, 1) by decide +kernel) rfl (lv_at hl 0 rfl) ?_
  refine lv_iconst (v := 4) hx hb (show decode prog_1_method_1_code 148 = .ok (.iconst 4, 1) by decide +kernel) (by decide) ?_
  refine lv_icmp_ge (tgt := 171) hx hb (show decode prog_1_method_1_code 149 = .ok (.if_icmp .ge 22, 3) by decide +kernel) (by decide) (fun z => absurd z (by decide)) (fun _ => ?_)
  refine lv_aload_n hx hb (show decode prog_1_method_1_code 152 = .ok (.aload_n 0, 1) by decide +kernel) rfl (lv_at hl 1 rfl) ?_
  refine gw_get (o := 0) (ci := 11) (k := 9) (v := .ref (sl_b g + 56)) F sl_i11 rfl (by decide) (sl_in1 365 (by decide +kernel) rfl) (show decode prog_1_method_1_code 153 = .ok (.getfield 73, 3) by decide +kernel) (by decide) sx_0 rfl hG ?_
  refine lv_iload_n hx hb (show decode prog_1_method_1_code 156 = .ok (.iload_n 1, 1) by decide +kernel) rfl (lv_at hl 0 rfl) ?_
  refine gw_new (N := 98) (ci := 8) (fs := [.null, .int 0, .int 0]) F sl_i8 sl_t8 sl_ty8 (sl_in1 311 (by decide +kernel) rfl) (sl_in1 339 (by decide +kernel) rfl) (sl_in1 96 (by decide +kernel) rfl) rfl (fun j hj => by rcases (show j = 0 ∨ j = 1 ∨ j = 2 by omega) with rfl | rfl | rfl <;> rfl) (show decode prog_1_method_1_code 157 = .ok (.new 71, 3) by decide +kernel) (Nat.le_of_ble_eq_true rfl) (Nat.le_of_ble_eq_true rfl) hG hS (fun H hG hS => ?_)
  refine lv_dup hx hb (show decode prog_1_method_1_code 160 = .ok (.dup, 1) by decide +kernel) rfl ?_
  refine gw_callN (n := 0) (host := "SpanLayers") (o := 98) (As := []) (rest := [.ref (sl_b g + 98), .int 1, .ref (sl_b g + 56)]) F (ct_8 g (N := 98 + 1) (o0 := 98) (by decide) fu_s) (List.mem_of_getElem? (i := 8) rfl) (sl_in1 341 (by decide +kernel) rfl) (sl_in1 96 (by decide +kernel) rfl) (sl_in1 342 (by decide +kernel) rfl) (by decide +kernel) rfl rfl (by decide) (Nat.le_of_ble_eq_true rfl) (Nat.le_of_ble_eq_true rfl) (show decode prog_1_method_1_code 161 = .ok (.invokespecial 81, 3) by decide +kernel) hl.1 (Nat.le_of_ble_eq_true rfl) (Nat.le_of_ble_eq_true rfl) (Nat.le_of_ble_eq_true rfl) (Nat.le_of_ble_eq_true rfl) (Nat.le_of_ble_eq_true rfl) hG hS (fun H locs hG hS => ?_)
  replace hG := sx_in (n0 := 98) (n1 := 100) (by decide) rfl rfl (fun i hi => by rcases (show i = 0 from (by have hi' : i < 1 := hi; omega)) with rfl <;> exact ⟨⟨by decide, by decide⟩, rfl⟩) hG
  refine gw_aast (o := 56) (t0 := 4) (qk := 98) (ci := 8) (i := 1) (n := 4) F rfl rfl (by decide) (by decide) (show decode prog_1_method_1_code 164 = .ok (.aastore, 1) by decide +kernel) (by decide) sx_56 (by decide) (sx_o (by decide) (by decide) (by decide)) hG hS (fun H locs hG hS => ?_)
  rw [sx_put56] at hG
  refine lv_iinc (k := 0) (v := 2) hx hb (show decode prog_1_method_1_code 165 = .ok (.iinc 1 1, 3) by decide +kernel) hl rfl (by decide) (by decide) rfl (fun ls hl => ?_)
  refine lv_goto (tgt := 147) hx hb (show decode prog_1_method_1_code 168 = .ok (.goto (-21), 3) by decide +kernel) (by decide) ?_
  exact kk _ _ _ hG hS hl
set_option maxRecDepth 100000 in
set_option maxHeartbeats 4000000 in
theorem sx_j2 {p : Program} {g : sl_G} {e0 : Env} {s : State} {m : MethodId} {args : Array Value} {below : List Frame} {meth : Method} {c : Code} {H : Heap} {locs : List Loc} {Q : State → Prop} {ls : Array Slot} (F : gx g p s m args c "SpanLayers" prog_1_method_1_code 2) (hin : meth.name = "<init>") (hl : lv_has ls 2 [(1, .int 2), (0, .ref (sl_b g + 0))]) (hG : sl_Gw g (sxe g [.ref (sl_b g + 1), .ref (sl_b g + 34), .ref (sl_b g + 38), .ref (sl_b g + 42), .ref (sl_b g + 43), .ref (sl_b g + 45), .ref (sl_b g + 46), .ref (sl_b g + 50), .ref (sl_b g + 54), .ref (sl_b g + 56), .ref (sl_b g + 57), .int 0] (va_up (va_up (va_up (fun _ => none) 0 (some (sl_b g + 90))) 1 (some (sl_b g + 92))) 2 (some (sl_b g + 94))) (va_up (va_up (fun _ => none) 0 (some (sl_b g + 96))) 1 (some (sl_b g + 98)))) 100 H) (hS : va_S (sl_A g) s.heap H locs) (kk : ∀ (H : Heap) (locs : List Loc) (ls : Array Slot), sl_Gw g (sxe g [.ref (sl_b g + 1), .ref (sl_b g + 34), .ref (sl_b g + 38), .ref (sl_b g + 42), .ref (sl_b g + 43), .ref (sl_b g + 45), .ref (sl_b g + 46), .ref (sl_b g + 50), .ref (sl_b g + 54), .ref (sl_b g + 56), .ref (sl_b g + 57), .int 0] (va_up (va_up (va_up (fun _ => none) 0 (some (sl_b g + 90))) 1 (some (sl_b g + 92))) 2 (some (sl_b g + 94))) (va_up (va_up (va_up (fun _ => none) 0 (some (sl_b g + 96))) 1 (some (sl_b g + 98))) 2 (some (sl_b g + 100)))) 102 H → va_S (sl_A g) s.heap H locs → lv_has ls 2 [(1, .int 3), (0, .ref (sl_b g + 0))] → W p g.1 e0 (gw_rm 4 103 1411) s m args below meth c H locs 101 1368 Q (F0 m 147 ls [])) : W p g.1 e0 (gw_rm 4 103 1411) s m args below meth c H locs 99 1325 Q (F0 m 147 ls []) := by
  obtain ⟨hx, hb, hml, hown, hts, hK, -⟩ := id F
  refine lv_iload_n hx hb (show decode prog_1_method_1_code 147 = .ok (.iload_n 1, 1) by decide +kernel) rfl (lv_at hl 0 rfl) ?_
  refine lv_iconst (v := 4) hx hb (show decode prog_1_method_1_code 148 = .ok (.iconst 4, 1) by decide +kernel) (by decide) ?_
  refine lv_icmp_ge (tgt := 171) hx hb (show decode prog_1_method_1_code 149 = .ok (.if_icmp .ge 22, 3) by decide +kernel) (by decide) (fun z => absurd z (by decide)) (fun _ => ?_)
  refine lv_aload_n hx hb (show decode prog_1_method_1_code 152 = .ok (.aload_n 0, 1) by decide +kernel) rfl (lv_at hl 1 rfl) ?_
  refine gw_get (o := 0) (ci := 11) (k := 9) (v := .ref (sl_b g + 56)) F sl_i11 rfl (by decide) (sl_in1 365 (by decide +kernel) rfl) (show decode prog_1_method_1_code 153 = .ok (.getfield 73, 3) by decide +kernel) (by decide) sx_0 rfl hG ?_
  refine lv_iload_n hx hb (show decode prog_1_method_1_code 156 = .ok (.iload_n 1, 1) by decide +kernel) rfl (lv_at hl 0 rfl) ?_
  refine gw_new (N := 100) (ci := 8) (fs := [.null, .int 0, .int 0]) F sl_i8 sl_t8 sl_ty8 (sl_in1 311 (by decide +kernel) rfl) (sl_in1 339 (by decide +kernel) rfl) (sl_in1 96 (by decide +kernel) rfl) rfl (fun j hj => by rcases (show j = 0 ∨ j = 1 ∨ j = 2 by omega) with rfl | rfl | rfl <;> rfl) (show decode prog_1_method_1_code 157 = .ok (.new 71, 3) by decide +kernel) (Nat.le_of_ble_eq_true rfl) (Nat.le_of_ble_eq_true rfl) hG hS (fun H hG hS => ?_)
  refine lv_dup hx hb (show decode prog_1_method_1_code 160 = .ok (.dup, 1) by decide +kernel) rfl ?_
  refine gw_callN (n := 0) (host := "SpanLayers") (o := 100) (As := []) (rest := [.ref (sl_b g + 100), .int 2, .ref (sl_b g + 56)]) F (ct_8 g (N := 100 + 1) (o0 := 100) (by decide) fu_s) (List.mem_of_getElem? (i := 8) rfl) (sl_in1 341 (by decide +kernel) rfl) (sl_in1 96 (by decide +kernel) rfl) (sl_in1 342 (by decide +kernel) rfl) (by decide +kernel) rfl rfl (by decide) (Nat.le_of_ble_eq_true rfl) (Nat.le_of_ble_eq_true rfl) (show decode prog_1_method_1_code 161 = .ok (.invokespecial 81, 3) by decide +kernel) hl.1 (Nat.le_of_ble_eq_true rfl) (Nat.le_of_ble_eq_true rfl) (Nat.le_of_ble_eq_true rfl) (Nat.le_of_ble_eq_true rfl) (Nat.le_of_ble_eq_true rfl) hG hS (fun H locs hG hS => ?_)
  replace hG := sx_in (n0 := 100) (n1 := 102) (by decide) rfl rfl (fun i hi => by rcases (show i = 0 from (by have hi' : i < 1 := hi; omega)) with rfl <;> exact ⟨⟨by decide, by decide⟩, rfl⟩) hG
  refine gw_aast (o := 56) (t0 := 4) (qk := 100) (ci := 8) (i := 2) (n := 4) F rfl rfl (by decide) (by decide) (show decode prog_1_method_1_code 164 = .ok (.aastore, 1) by decide +kernel) (by decide) sx_56 (by decide) (sx_o (by decide) (by decide) (by decide)) hG hS (fun H locs hG hS => ?_)
  rw [sx_put56] at hG
  refine lv_iinc (k := 0) (v := 3) hx hb (show decode prog_1_method_1_code 165 = .ok (.iinc 1 1, 3) by decide +kernel) hl rfl (by decide) (by decide) rfl (fun ls hl => ?_)
  refine lv_goto (tgt := 147) hx hb (show decode prog_1_method_1_code 168 = .ok (.goto (-21), 3) by decide +kernel) (by decide) ?_
  exact kk _ _ _ hG hS hl
set_option maxRecDepth 100000 in
set_option maxHeartbeats 4000000 in
theorem sx_j3 {p : Program} {g : sl_G} {e0 : Env} {s : State} {m : MethodId} {args : Array Value} {below : List Frame} {meth : Method} {c : Code} {H : Heap} {locs : List Loc} {Q : State → Prop} {ls : Array Slot} (F : gx g p s m args c "SpanLayers" prog_1_method_1_code 2) (hin : meth.name = "<init>") (hl : lv_has ls 2 [(1, .int 3), (0, .ref (sl_b g + 0))]) (hG : sl_Gw g (sxe g [.ref (sl_b g + 1), .ref (sl_b g + 34), .ref (sl_b g + 38), .ref (sl_b g + 42), .ref (sl_b g + 43), .ref (sl_b g + 45), .ref (sl_b g + 46), .ref (sl_b g + 50), .ref (sl_b g + 54), .ref (sl_b g + 56), .ref (sl_b g + 57), .int 0] (va_up (va_up (va_up (fun _ => none) 0 (some (sl_b g + 90))) 1 (some (sl_b g + 92))) 2 (some (sl_b g + 94))) (va_up (va_up (va_up (fun _ => none) 0 (some (sl_b g + 96))) 1 (some (sl_b g + 98))) 2 (some (sl_b g + 100)))) 102 H) (hS : va_S (sl_A g) s.heap H locs) (kk : ∀ (H : Heap) (locs : List Loc) (ls : Array Slot), sl_Gw g (sxe g [.ref (sl_b g + 1), .ref (sl_b g + 34), .ref (sl_b g + 38), .ref (sl_b g + 42), .ref (sl_b g + 43), .ref (sl_b g + 45), .ref (sl_b g + 46), .ref (sl_b g + 50), .ref (sl_b g + 54), .ref (sl_b g + 56), .ref (sl_b g + 57), .int 0] (va_up (va_up (va_up (fun _ => none) 0 (some (sl_b g + 90))) 1 (some (sl_b g + 92))) 2 (some (sl_b g + 94))) (va_up (va_up (va_up (va_up (fun _ => none) 0 (some (sl_b g + 96))) 1 (some (sl_b g + 98))) 2 (some (sl_b g + 100))) 3 (some (sl_b g + 102)))) 104 H → va_S (sl_A g) s.heap H locs → lv_has ls 2 [(1, .int 4), (0, .ref (sl_b g + 0))] → W p g.1 e0 (gw_rm 4 103 1411) s m args below meth c H locs 103 1411 Q (F0 m 147 ls [])) : W p g.1 e0 (gw_rm 4 103 1411) s m args below meth c H locs 101 1368 Q (F0 m 147 ls []) := by
  obtain ⟨hx, hb, hml, hown, hts, hK, -⟩ := id F
  refine lv_iload_n hx hb (show decode prog_1_method_1_code 147 = .ok (.iload_n 1, 1) by decide +kernel) rfl (lv_at hl 0 rfl) ?_
  refine lv_iconst (v := 4) hx hb (show decode prog_1_method_1_code 148 = .ok (.iconst 4, 1) by decide +kernel) (by decide) ?_
  refine lv_icmp_ge (tgt := 171) hx hb (show decode prog_1_method_1_code 149 = .ok (.if_icmp .ge 22, 3) by decide +kernel) (by decide) (fun z => absurd z (by decide)) (fun _ => ?_)
  refine lv_aload_n hx hb (show decode prog_1_method_1_code 152 = .ok (.aload_n 0, 1) by decide +kernel) rfl (lv_at hl 1 rfl) ?_
  refine gw_get (o := 0) (ci := 11) (k := 9) (v := .ref (sl_b g + 56)) F sl_i11 rfl (by decide) (sl_in1 365 (by decide +kernel) rfl) (show decode prog_1_method_1_code 153 = .ok (.getfield 73, 3) by decide +kernel) (by decide) sx_0 rfl hG ?_
  refine lv_iload_n hx hb (show decode prog_1_method_1_code 156 = .ok (.iload_n 1, 1) by decide +kernel) rfl (lv_at hl 0 rfl) ?_
  refine gw_new (N := 102) (ci := 8) (fs := [.null, .int 0, .int 0]) F sl_i8 sl_t8 sl_ty8 (sl_in1 311 (by decide +kernel) rfl) (sl_in1 339 (by decide +kernel) rfl) (sl_in1 96 (by decide +kernel) rfl) rfl (fun j hj => by rcases (show j = 0 ∨ j = 1 ∨ j = 2 by omega) with rfl | rfl | rfl <;> rfl) (show decode prog_1_method_1_code 157 = .ok (.new 71, 3) by decide +kernel) (Nat.le_of_ble_eq_true rfl) (Nat.le_of_ble_eq_true rfl) hG hS (fun H hG hS => ?_)
  refine lv_dup hx hb (show decode prog_1_method_1_code 160 = .ok (.dup, 1) by decide +kernel) rfl ?_
  refine gw_callN (n := 0) (host := "SpanLayers") (o := 102) (As := []) (rest := [.ref (sl_b g + 102), .int 3, .ref (sl_b g + 56)]) F (ct_8 g (N := 102 + 1) (o0 := 102) (by decide) fu_s) (List.mem_of_getElem? (i := 8) rfl) (sl_in1 341 (by decide +kernel) rfl) (sl_in1 96 (by decide +kernel) rfl) (sl_in1 342 (by decide +kernel) rfl) (by decide +kernel) rfl rfl (by decide) (Nat.le_of_ble_eq_true rfl) (Nat.le_of_ble_eq_true rfl) (show decode prog_1_method_1_code 161 = .ok (.invokespecial 81, 3) by decide +kernel) hl.1 (Nat.le_of_ble_eq_true rfl) (Nat.le_of_ble_eq_true rfl) (Nat.le_of_ble_eq_true rfl) (Nat.le_of_ble_eq_true rfl) (Nat.le_of_ble_eq_true rfl) hG hS (fun H locs hG hS => ?_)
  replace hG := sx_in (n0 := 102) (n1 := 104) (by decide) rfl rfl (fun i hi => by rcases (show i = 0 from (by have hi' : i < 1 := hi; omega)) with rfl <;> exact ⟨⟨by decide, by decide⟩, rfl⟩) hG
  refine gw_aast (o := 56) (t0 := 4) (qk := 102) (ci := 8) (i := 3) (n := 4) F rfl rfl (by decide) (by decide) (show decode prog_1_method_1_code 164 = .ok (.aastore, 1) by decide +kernel) (by decide) sx_56 (by decide) (sx_o (by decide) (by decide) (by decide)) hG hS (fun H locs hG hS => ?_)
  rw [sx_put56] at hG
  refine lv_iinc (k := 0) (v := 4) hx hb (show decode prog_1_method_1_code 165 = .ok (.iinc 1 1, 3) by decide +kernel) hl rfl (by decide) (by decide) rfl (fun ls hl => ?_)
  refine lv_goto (tgt := 147) hx hb (show decode prog_1_method_1_code 168 = .ok (.goto (-21), 3) by decide +kernel) (by decide) ?_
  exact kk _ _ _ hG hS hl
set_option maxRecDepth 100000 in
set_option maxHeartbeats 4000000 in
theorem sx_e1 {p : Program} {g : sl_G} {e0 : Env} {s : State} {m : MethodId} {args : Array Value} {below : List Frame} {meth : Method} {c : Code} {H : Heap} {locs : List Loc} {Q : State → Prop} {ls : Array Slot} (F : gx g p s m args c "SpanLayers" prog_1_method_1_code 2) (hin : meth.name = "<init>") (hl : lv_has ls 2 [(1, .int 4), (0, .ref (sl_b g + 0))]) (hG : sl_Gw g (sxe g [.ref (sl_b g + 1), .ref (sl_b g + 34), .ref (sl_b g + 38), .ref (sl_b g + 42), .ref (sl_b g + 43), .ref (sl_b g + 45), .ref (sl_b g + 46), .ref (sl_b g + 50), .ref (sl_b g + 54), .ref (sl_b g + 56), .ref (sl_b g + 57), .int 0] (va_up (va_up (va_up (fun _ => none) 0 (some (sl_b g + 90))) 1 (some (sl_b g + 92))) 2 (some (sl_b g + 94))) (va_up (va_up (va_up (va_up (fun _ => none) 0 (some (sl_b g + 96))) 1 (some (sl_b g + 98))) 2 (some (sl_b g + 100))) 3 (some (sl_b g + 102)))) 104 H) (hS : va_S (sl_A g) s.heap H locs) (kk : ∀ (H : Heap) (locs : List Loc), sl_Gw g (sxe g [.ref (sl_b g + 1), .ref (sl_b g + 34), .ref (sl_b g + 38), .ref (sl_b g + 42), .ref (sl_b g + 43), .ref (sl_b g + 45), .ref (sl_b g + 46), .ref (sl_b g + 50), .ref (sl_b g + 54), .ref (sl_b g + 56), .ref (sl_b g + 57), .int 0] (va_up (va_up (va_up (fun _ => none) 0 (some (sl_b g + 90))) 1 (some (sl_b g + 92))) 2 (some (sl_b g + 94))) (va_up (va_up (va_up (va_up (fun _ => none) 0 (some (sl_b g + 96))) 1 (some (sl_b g + 98))) 2 (some (sl_b g + 100))) 3 (some (sl_b g + 102)))) 104 H → va_S (sl_A g) s.heap H locs → W p g.1 e0 (gw_rm 4 103 1411) s m args below meth c H locs 103 1411 Q (F0 m 171 ls [])) : W p g.1 e0 (gw_rm 4 103 1411) s m args below meth c H locs 103 1411 Q (F0 m 147 ls []) := by
  obtain ⟨hx, hb, hml, hown, hts, hK, -⟩ := id F
  refine lv_iload_n hx hb (show decode prog_1_method_1_code 147 = .ok (.iload_n 1, 1) by decide +kernel) rfl (lv_at hl 0 rfl) ?_
  refine lv_iconst (v := 4) hx hb (show decode prog_1_method_1_code 148 = .ok (.iconst 4, 1) by decide +kernel) (by decide) ?_
  refine lv_icmp_ge (tgt := 171) hx hb (show decode prog_1_method_1_code 149 = .ok (.if_icmp .ge 22, 3) by decide +kernel) (by decide) (fun _ => ?_) (fun z => absurd (by decide) z)
  exact kk _ _ hG hS
set_option maxRecDepth 100000 in
set_option maxHeartbeats 4000000 in
theorem ct_11 (g : sl_G) {e : Nat → va_E} (he : e 0 = .inr (11, [.null, .null, .null, .null, .null, .null, .null, .null, .null, .null, .null, .int 0])) : gw_Met g ⟨"SpanLayers", "<init>", "()V"⟩ prog_1_method_1_code 2 4 [.ref (sl_b g + 0)] e 1 (sl_E g mu0) 104 103 1411 := by
  refine gw_mk (by decide) rfl (Nat.le_of_ble_eq_true rfl) ?_
  intro p e0 s m args below meth c ls F hr hlk hin hl hG hS
  have hl : lv_has ls 2 [(0, .ref (sl_b g + 0))] := hl
  obtain ⟨hx, hb, hml, hown, hts, hK, -⟩ := id F
  replace hG : sl_Gw g (sxe g [.null, .null, .null, .null, .null, .null, .null, .null, .null, .null, .null, .int 0] (fun _ => none) (fun _ => none)) 1 s.heap := hG.cong (fun o ho => by
    obtain rfl : o = 0 := by omega
    exact he)
  refine lv_aload_n hx hb (show decode prog_1_method_1_code 0 = .ok (.aload_n 0, 1) by decide +kernel) rfl (lv_at hl 0 rfl) ?_
  refine W.objInit hx hb hown (hts _ (sl_in1 109 (by decide +kernel) rfl)) (hts _ (sl_in1 110 (by decide +kernel) rfl)) (hts _ (sl_in1 111 (by decide +kernel) rfl)) rfl (by rw [hml]; exact hl.1) rfl (show decode prog_1_method_1_code 1 = .ok (.invokespecial 1, 3) by decide +kernel) (Nat.le_of_ble_eq_true rfl) (Nat.le_of_ble_eq_true rfl) ?_
  refine W.eq (g2 := F0 m 4 ls []) rfl ?_
  refine sx_c0 F hin hl hG hS (fun H locs hG hS => ?_)
  refine sx_c1 F hin hl hG hS (fun H locs hG hS => ?_)
  refine sx_c2 F hin hl hG hS (fun H locs hG hS => ?_)
  refine sx_c3 F hin hl hG hS (fun H locs hG hS => ?_)
  refine sx_c4 F hin hl hG hS (fun H locs hG hS => ?_)
  refine sx_c5 F hin hl hG hS (fun H locs hG hS => ?_)
  refine sx_c6 F hin hl hG hS (fun H locs hG hS => ?_)
  refine sx_c7 F hin hl hG hS (fun H locs hG hS => ?_)
  refine sx_c8 F hin hl hG hS (fun H locs hG hS => ?_)
  refine sx_c9 F hin hl hG hS (fun H locs hG hS => ?_)
  refine sx_c10 F hin hl hG hS (fun H locs hG hS => ?_)
  refine sx_b0 F hin hl hG hS (fun H locs ls hG hS hl => ?_)
  refine sx_i0 F hin hl hG hS (fun H locs ls hG hS hl => ?_)
  refine sx_i1 F hin hl hG hS (fun H locs ls hG hS hl => ?_)
  refine sx_i2 F hin hl hG hS (fun H locs ls hG hS hl => ?_)
  refine sx_e0 F hin hl hG hS (fun H locs hG hS => ?_)
  refine sx_b1 F hin hl hG hS (fun H locs ls hG hS hl => ?_)
  refine sx_j0 F hin hl hG hS (fun H locs ls hG hS hl => ?_)
  refine sx_j1 F hin hl hG hS (fun H locs ls hG hS hl => ?_)
  refine sx_j2 F hin hl hG hS (fun H locs ls hG hS hl => ?_)
  refine sx_j3 F hin hl hG hS (fun H locs ls hG hS hl => ?_)
  refine sx_e1 F hin hl hG hS (fun H locs hG hS => ?_)
  have hG : sl_Gw g (sl_E g mu0) 104 H := hG.cq (fun o ho => by
    by_cases h0 : o = 0
    · subst h0
      exact Or.inl rfl
    · by_cases h1 : o = 42
      · subst h1
        refine Or.inr ⟨sl_ca g 3, 3, _, _, rfl, rfl, fun i hi => ?_⟩
        rcases (show i = 0 ∨ i = 1 ∨ i = 2 by omega) with rfl | rfl | rfl <;> rfl
      · by_cases h2 : o = 56
        · subst h2
          refine Or.inr ⟨sl_ca g 4, 4, _, _, rfl, rfl, fun i hi => ?_⟩
          rcases (show i = 0 ∨ i = 1 ∨ i = 2 ∨ i = 3 by omega) with rfl | rfl | rfl | rfl <;> rfl
        · rw [sx_o h0 h1 h2]
          exact Or.inl rfl)
  exact W.vret hx hb hr (fun t ht hW => ⟨⟨(), rfl, trivial, gw_fin hG ht⟩, hS.F ht⟩) hS.2.2 (show decode prog_1_method_1_code 171 = .ok (.return_, 1) by decide +kernel)
