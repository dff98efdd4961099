/-! the law: its loop, its start, its end -/
theorem ls_63 (x : Int32) : ∃ k : Nat, k < 64 ∧ x &&& 63 = nI k := by
  refine ⟨(x &&& 63).toBitVec.toNat, ?_, ?_⟩
  · have : (x &&& 63).toBitVec = x.toBitVec &&& 63#32 := rfl
    rw [this, BitVec.toNat_and]
    exact Nat.lt_of_le_of_lt Nat.and_le_right (by decide)
  · apply Int32.toBitVec_inj.mp
    show _ = BitVec.ofNat 32 _
    simp
theorem ls_end {i L : Nat} (hi : i ≤ L) (hL : L ≤ 2560) (h : ¬ nI L - 5 < nI i) : i + 5 ≤ L := by
  rcases Nat.lt_or_ge L 5 with q | q
  · exfalso
    apply h
    refine Int32.lt_of_lt_of_le ?_ (nI_pos' (n := i) (by omega))
    rcases (show L = 0 ∨ L = 1 ∨ L = 2 ∨ L = 3 ∨ L = 4 by omega) with rfl | rfl | rfl | rfl | rfl <;> decide
  · rcases Nat.lt_or_ge (L - 5) i with q1 | q1
    · exfalso
      apply h
      rw [show (5 : Int32) = nI 5 from rfl, nI_mns q]
      exact nI_lt q1 (by omega)
    · omega
set_option maxRecDepth 100000 in
theorem d_sw : decode code 32 = .ok (.tableswitch 1320 0 41 #[184, 227, 280, 303, 336, 369, 392, 435, 468, 491, 524, 557, 580, 613, 636, 659, 682, 705, 738, 771, 804, 827, 850, 873, 886, 919, 942, 955, 968, 981, 994, 1017, 1030, 1053, 1076, 1099, 1132, 1175, 1208, 1251, 1294, 1307], 184) := by decide +kernel
set_option maxRecDepth 100000 in
set_option maxHeartbeats 4000000 in
theorem ls_disp {p : Program} {g : sl_G} {e : Env} {s : State} {m : MethodId} {below : List Frame} {meth : Method} {c : Code} {b L i : Nat} {xs : Nat → Int32} {μ : sl_M} {H : Heap} {locs : List Loc} {ls : Array Slot} (D : lwD g p e s m below meth c b L xs) (hV : Inv μ) (hW : sl_Wd g μ H) (hS : va_S (sl_A g) s.heap H locs) (hl : lv_has ls 4 [(3, .int (nI i)), (2, .ref (sl_b g + 104)), (1, .ref (sl_b g + 0)), (0, .ref b)]) (hi : i + 5 ≤ L) {k : Nat} (hk : k < 64) (kk : ∀ (μ : sl_M) (H : Heap) (locs : List Loc), Inv μ → sl_Wd g μ H → va_S (sl_A g) s.heap H locs → W p g.1 e room_1 s m #[Value.ref b] below meth c H locs 600000 7302249 (lw_Z below #[Value.ref b] s) (F0 m 1352 ls [])) : W p g.1 e room_1 s m #[Value.ref b] below meth c H locs 600000 7302249 (lw_Z below #[Value.ref b] s) (F0 m 32 ls [.int (nI k)]) := by
  obtain ⟨hx, hb, -⟩ := id D.1
  match k, hk with
  | 0, _ => exact lv_tableIn (off := 184) (tgt := 216) hx hb d_sw (by decide) (by decide) (by decide) (by decide) (lc_add D hV hW hS hl hi kk)
  | 1, _ => exact lv_tableIn (off := 227) (tgt := 259) hx hb d_sw (by decide) (by decide) (by decide) (by decide) (lc_put D hV hW hS hl hi kk)
  | 2, _ => exact lv_tableIn (off := 280) (tgt := 312) hx hb d_sw (by decide) (by decide) (by decide) (by decide) (lc_drop D hV hW hS hl hi kk)
  | 3, _ => exact lv_tableIn (off := 303) (tgt := 335) hx hb d_sw (by decide) (by decide) (by decide) (by decide) (lc_of D hV hW hS hl hi kk)
  | 4, _ => exact lv_tableIn (off := 336) (tgt := 368) hx hb d_sw (by decide) (by decide) (by decide) (by decide) (lc_how D hV hW hS hl hi kk)
  | 5, _ => exact lv_tableIn (off := 369) (tgt := 401) hx hb d_sw (by decide) (by decide) (by decide) (by decide) (lc_stab D hV hW hS hl hi kk)
  | 6, _ => exact lv_tableIn (off := 392) (tgt := 424) hx hb d_sw (by decide) (by decide) (by decide) (by decide) (lc_stabbed D hV hW hS hl hi kk)
  | 7, _ => exact lv_tableIn (off := 435) (tgt := 467) hx hb d_sw (by decide) (by decide) (by decide) (by decide) (lc_meet D hV hW hS hl hi kk)
  | 8, _ => exact lv_tableIn (off := 468) (tgt := 500) hx hb d_sw (by decide) (by decide) (by decide) (by decide) (lc_pairs D hV hW hS hl hi kk)
  | 9, _ => exact lv_tableIn (off := 491) (tgt := 523) hx hb d_sw (by decide) (by decide) (by decide) (by decide) (lc_nth D hV hW hS hl hi kk)
  | 10, _ => exact lv_tableIn (off := 524) (tgt := 556) hx hb d_sw (by decide) (by decide) (by decide) (by decide) (lc_place D hV hW hS hl hi kk)
  | 11, _ => exact lv_tableIn (off := 557) (tgt := 589) hx hb d_sw (by decide) (by decide) (by decide) (by decide) (lc_layer D hV hW hS hl hi kk)
  | 12, _ => exact lv_tableIn (off := 580) (tgt := 612) hx hb d_sw (by decide) (by decide) (by decide) (by decide) (lc_open D hV hW hS hl hi kk)
  | 13, _ => exact lv_tableIn (off := 613) (tgt := 645) hx hb d_sw (by decide) (by decide) (by decide) (by decide) (lc_shut D hV hW hS hl hi kk)
  | 14, _ => exact lv_tableIn (off := 636) (tgt := 668) hx hb d_sw (by decide) (by decide) (by decide) (by decide) (lc_next D hV hW hS hl hi kk)
  | 15, _ => exact lv_tableIn (off := 659) (tgt := 691) hx hb d_sw (by decide) (by decide) (by decide) (by decide) (lc_remove D hV hW hS hl hi kk)
  | 16, _ => exact lv_tableIn (off := 682) (tgt := 714) hx hb d_sw (by decide) (by decide) (by decide) (by decide) (lc_covered D hV hW hS hl hi kk)
  | 17, _ => exact lv_tableIn (off := 705) (tgt := 737) hx hb d_sw (by decide) (by decide) (by decide) (by decide) (lc_piece D hV hW hS hl hi kk)
  | 18, _ => exact lv_tableIn (off := 738) (tgt := 770) hx hb d_sw (by decide) (by decide) (by decide) (by decide) (lc_hole D hV hW hS hl hi kk)
  | 19, _ => exact lv_tableIn (off := 771) (tgt := 803) hx hb d_sw (by decide) (by decide) (by decide) (by decide) (lc_depth D hV hW hS hl hi kk)
  | 20, _ => exact lv_tableIn (off := 804) (tgt := 836) hx hb d_sw (by decide) (by decide) (by decide) (by decide) (lc_deepest D hV hW hS hl hi kk)
  | 21, _ => exact lv_tableIn (off := 827) (tgt := 859) hx hb d_sw (by decide) (by decide) (by decide) (by decide) (lc_points D hV hW hS hl hi kk)
  | 22, _ => exact lv_tableIn (off := 850) (tgt := 882) hx hb d_sw (by decide) (by decide) (by decide) (by decide) (lc_apart D hV hW hS hl hi kk)
  | 23, _ => exact lv_tableIn (off := 873) (tgt := 905) hx hb d_sw (by decide) (by decide) (by decide) (by decide) (lc_heaviest D hV hW hS hl hi kk)
  | 24, _ => exact lv_tableIn (off := 886) (tgt := 918) hx hb d_sw (by decide) (by decide) (by decide) (by decide) (lc_group D hV hW hS hl hi kk)
  | 25, _ => exact lv_tableIn (off := 919) (tgt := 951) hx hb d_sw (by decide) (by decide) (by decide) (by decide) (lc_feed D hV hW hS hl hi kk)
  | 26, _ => exact lv_tableIn (off := 942) (tgt := 974) hx hb d_sw (by decide) (by decide) (by decide) (by decide) (lc_clear D hV hW hS hl hi kk)
  | 27, _ => exact lv_tableIn (off := 955) (tgt := 987) hx hb d_sw (by decide) (by decide) (by decide) (by decide) (lc_pick D hV hW hS hl hi kk)
  | 28, _ => exact lv_tableIn (off := 968) (tgt := 1000) hx hb d_sw (by decide) (by decide) (by decide) (by decide) (lc_many D hV hW hS hl hi kk)
  | 29, _ => exact lv_tableIn (off := 981) (tgt := 1013) hx hb d_sw (by decide) (by decide) (by decide) (by decide) (lc_cull D hV hW hS hl hi kk)
  | 30, _ => exact lv_tableIn (off := 994) (tgt := 1026) hx hb d_sw (by decide) (by decide) (by decide) (by decide) (lc_change D hV hW hS hl hi kk)
  | 31, _ => exact lv_tableIn (off := 1017) (tgt := 1049) hx hb d_sw (by decide) (by decide) (by decide) (by decide) (lc_load D hV hW hS hl hi kk)
  | 32, _ => exact lv_tableIn (off := 1030) (tgt := 1062) hx hb d_sw (by decide) (by decide) (by decide) (by decide) (lc_spell D hV hW hS hl hi kk)
  | 33, _ => exact lv_tableIn (off := 1053) (tgt := 1085) hx hb d_sw (by decide) (by decide) (by decide) (by decide) (lc_paper D hV hW hS hl hi kk)
  | 34, _ => exact lv_tableIn (off := 1076) (tgt := 1108) hx hb d_sw (by decide) (by decide) (by decide) (by decide) (lc_told D hV hW hS hl hi kk)
  | 35, _ => exact lv_tableIn (off := 1099) (tgt := 1131) hx hb d_sw (by decide) (by decide) (by decide) (by decide) (lc_list D hV hW hS hl hi kk)
  | 36, _ => exact lv_tableIn (off := 1132) (tgt := 1164) hx hb d_sw (by decide) (by decide) (by decide) (by decide) (lc_set D hV hW hS hl hi kk)
  | 37, _ => exact lv_tableIn (off := 1175) (tgt := 1207) hx hb d_sw (by decide) (by decide) (by decide) (by decide) (lc_get D hV hW hS hl hi kk)
  | 38, _ => exact lv_tableIn (off := 1208) (tgt := 1240) hx hb d_sw (by decide) (by decide) (by decide) (by decide) (lc_lay D hV hW hS hl hi kk)
  | 39, _ => exact lv_tableIn (off := 1251) (tgt := 1283) hx hb d_sw (by decide) (by decide) (by decide) (by decide) (lc_judge D hV hW hS hl hi kk)
  | 40, _ => exact lv_tableIn (off := 1294) (tgt := 1326) hx hb d_sw (by decide) (by decide) (by decide) (by decide) (lc_image D hV hW hS hl hi kk)
  | 41, _ => exact lv_tableIn (off := 1307) (tgt := 1339) hx hb d_sw (by decide) (by decide) (by decide) (by decide) (lc_undo D hV hW hS hl hi kk)
  | k + 42, hk => exact lv_tableOut (tgt := 1352) hx hb d_sw (Or.inr (by rw [nI_toInt (by omega)]; omega)) (by decide) (kk μ H locs hV hW hS)
set_option maxRecDepth 100000 in
theorem ls_loop {p : Program} {g : sl_G} {e : Env} {s : State} {m : MethodId} {below : List Frame} {meth : Method} {c : Code} {b L : Nat} {xs : Nat → Int32} (D : lwD g p e s m below meth c b L xs) (hbs : sl_b g = s.heap.size) (hr : meth.sig.returnType = ret) (hlocks : meth.locks = false) : ∀ (n i : Nat), i ≤ L → L + 1 ≤ i + n → ∀ (μ : sl_M) (H : Heap) (locs : List Loc) (ls : Array Slot), Inv μ → sl_Wd g μ H → va_S (sl_A g) s.heap H locs → lv_has ls 4 [(3, .int (nI i)), (2, .ref (sl_b g + 104)), (1, .ref (sl_b g + 0)), (0, .ref b)] → W p g.1 e room_1 s m #[Value.ref b] below meth c H locs 600000 7302249 (lw_Z below #[Value.ref b] s) (F0 m 18 ls []) := by
  obtain ⟨F, hX, hbl, hbA, hL⟩ := id D
  obtain ⟨hx, hb, -⟩ := id F
  intro n
  induction n with
  | zero =>
    intro i h1 h2
    exact absurd h2 (by omega)
  | succ n ih =>
    intro i hi hin μ H locs ls hV hW hS hl
    refine lv_iload_n hx hb (show decode code 18 = .ok (.iload_n 3, 1) by decide +kernel) rfl (lv_at hl 0 rfl) ?_
    refine lv_aload_n hx hb (show decode code 19 = .ok (.aload_n 0, 1) by decide +kernel) rfl (lv_at hl 3 rfl) ?_
    refine va_slen hx hb hX hbl hbA hS (show decode code 20 = .ok (.arraylength, 1) by decide +kernel) ?_
    refine lv_iconst (v := 5) hx hb (show decode code 21 = .ok (.iconst 5, 1) by decide +kernel) (by decide) ?_
    refine lv_isub hx hb (show decode code 22 = .ok (.isub, 1) by decide +kernel) ?_
    refine lv_icmp_gt (tgt := 1358) hx hb (show decode code 23 = .ok (.if_icmp .gt 1335, 3) by decide +kernel) (by decide) (fun _ => ?_) (fun h5 => ?_)
    · refine lv_iconst (v := 1) hx hb (show decode code 1358 = .ok (.iconst 1, 1) by decide +kernel) (by decide) ?_
      refine va_forget (fun q hq => by rw [← hbs]; exact hS.2.2 q hq) ?_
      exact lw_ret hx hb hr hlocks (show decode code 1359 = .ok (.ireturn, 1) by decide +kernel)
    · have hi5 : i + 5 ≤ L := ls_end hi hL h5
      refine lv_aload_n hx hb (show decode code 26 = .ok (.aload_n 0, 1) by decide +kernel) rfl (lv_at hl 3 rfl) ?_
      refine lv_iload_n hx hb (show decode code 27 = .ok (.iload_n 3, 1) by decide +kernel) rfl (lv_at hl 0 rfl) ?_
      refine va_sld hx hb hX hbl hbA hS (vp_in_nI (by omega) (by omega)) (show decode code 28 = .ok (.iaload, 1) by decide +kernel) ?_
      refine lv_bipush (v := 63) hx hb (show decode code 29 = .ok (.bipush 63, 2) by decide +kernel) (by decide) ?_
      refine lv_iand hx hb (show decode code 31 = .ok (.iand, 1) by decide +kernel) ?_
      obtain ⟨k, hk, ek⟩ := ls_63 (xs (nI i).toNatClampNeg)
      rw [ek]
      refine ls_disp D hV hW hS hl hi5 hk (fun μ H locs hV hW hS => ?_)
      refine lv_iinc (k := 0) (v := nI (i + 5)) hx hb (show decode code 1352 = .ok (.iinc 3 5, 3) by decide +kernel) hl rfl (nI_add i 5) (by decide) rfl (fun ls hl => ?_)
      refine lv_goto (tgt := 18) hx hb (show decode code 1355 = .ok (.goto (-1337), 3) by decide +kernel) (by decide) ?_
      exact ih (i + 5) hi5 (by omega) μ H locs ls hV hW hS hl
set_option maxRecDepth 100000 in
theorem ls_ar (g : sl_G) : ∀ j, j < 34 → ([.inl (sl_ca g 0, 30, .inl (fun _ => 0)), .inl (sl_ca g 0, 30, .inl (fun _ => 0)), .inl (sl_ca g 0, 30, .inl (fun _ => 0)), .inl (sl_ca g 0, 30, .inl (fun _ => 0)), .inl (sl_ca g 0, 30, .inl (fun _ => 0)), .inl (sl_ca g 0, 30, .inl (fun _ => 0)), .inl (sl_ca g 0, 3, .inl (upd (upd (upd (fun _ => 0) 0 (-1)) 1 (-1)) 2 (-1))), .inl (sl_ca g 0, 3, .inl (fun _ => 0)), .inl (sl_ca g 0, 3, .inl (fun _ => 0)), .inl (sl_ca g 0, 3, .inl (fun _ => 0)), .inl (sl_ca g 0, 1000, .inl (fun _ => 0)), .inl (sl_ca g 0, 1000, .inl (fun _ => 0)), .inl (sl_ca g 0, 31, .inl (fun _ => 0)), .inl (sl_ca g 0, 31, .inl (fun _ => 0)), .inl (sl_ca g 0, 30, .inl (fun _ => 0)), .inl (sl_ca g 0, 1001, .inl (fun _ => 0)), .inl (sl_ca g 0, 80, .inl (fun _ => 0)), .inl (sl_ca g 0, 90, .inl (fun _ => 0)), .inl (sl_ca g 0, 90, .inl (fun _ => 0)), .inl (sl_ca g 0, 90, .inl (fun _ => 0)), .inl (sl_ca g 0, 90, .inl (fun _ => 0)), .inl (sl_ca g 0, 90, .inl (fun _ => 0)), .inl (sl_ca g 1, 90, .inl (fun _ => 0)), .inl (sl_ca g 0, 5, .inl (fun _ => 0)), .inl (sl_ca g 0, 5, .inl (fun _ => 0)), .inl (sl_ca g 0, 5, .inl (fun _ => 0)), .inl (sl_ca g 0, 27, .inl (fun _ => 0)), .inl (sl_ca g 0, 27, .inl (fun _ => 0)), .inl (sl_ca g 0, 27, .inl (fun _ => 0)), .inl (sl_ca g 0, 400, .inl (fun _ => 0)), .inl (sl_ca g 1, 4, .inl (fun _ => 0)), .inl (sl_ca g 0, 4, .inl (fun _ => 0)), .inl (sl_ca g 0, 160, .inl (fun _ => 0)), .inl (sl_ca g 0, 120, .inl (fun _ => 0))] : List va_E).getD j (.inl (0, 0, .inl (fun _ => 0))) = sl_E g mu0 (105 + j) := by
  intro j hj
  match j, hj with
  | 0, _ => rfl
  | 1, _ => rfl
  | 2, _ => rfl
  | 3, _ => rfl
  | 4, _ => rfl
  | 5, _ => rfl
  | 6, _ =>
    have e : upd (upd (upd (fun _ => 0) 0 (-1)) 1 (-1)) 2 (-1) = mu0 111 := by
      funext k
      match k with
      | 0 => rfl
      | 1 => rfl
      | 2 => rfl
      | k + 3 => rfl
    exact congrArg (fun f : Nat → Int32 => (Sum.inl (sl_ca g 0, 3, .inl f) : va_E)) e
  | 7, _ => rfl
  | 8, _ => rfl
  | 9, _ => rfl
  | 10, _ => rfl
  | 11, _ => rfl
  | 12, _ => rfl
  | 13, _ => rfl
  | 14, _ => rfl
  | 15, _ => rfl
  | 16, _ => rfl
  | 17, _ => rfl
  | 18, _ => rfl
  | 19, _ => rfl
  | 20, _ => rfl
  | 21, _ => rfl
  | 22, _ => rfl
  | 23, _ => rfl
  | 24, _ => rfl
  | 25, _ => rfl
  | 26, _ => rfl
  | 27, _ => rfl
  | 28, _ => rfl
  | 29, _ => rfl
  | 30, _ => rfl
  | 31, _ => rfl
  | 32, _ => rfl
  | 33, _ => rfl
  | j + 34, hj => exact absurd hj (by omega)
set_option maxRecDepth 100000 in
theorem ls_wd {g : sl_G} {H : Heap} (h : sl_Gw g (ce (fu (sl_E g mu0) 104 (.inr (12, [.null, .null, .null, .null, .null, .int 0, .null, .null, .null, .null, .null, .null, .null, .int 0, .null, .null, .int 0, .null, .null, .null, .int 0, .int 0, .int 0, .int 0, .null, .null, .null, .null, .int 0, .null, .int 0, .null, .int 0, .null, .null, .null, .int 0, .int 0, .int 0, .int 0, .null, .null, .null, .null, .int 0, .null, .null, .null, .int 0, .null]))) 105 104 (.inr (12, [.ref (sl_b g + (105 + 0)), .ref (sl_b g + (105 + 1)), .ref (sl_b g + (105 + 2)), .ref (sl_b g + (105 + 3)), .ref (sl_b g + (105 + 4)), .int 0, .ref (sl_b g + (105 + 5)), .ref (sl_b g + (105 + 6)), .ref (sl_b g + (105 + 7)), .ref (sl_b g + (105 + 8)), .ref (sl_b g + (105 + 9)), .ref (sl_b g + (105 + 10)), .ref (sl_b g + (105 + 11)), .int 0, .ref (sl_b g + (105 + 12)), .ref (sl_b g + (105 + 13)), .int 0, .ref (sl_b g + (105 + 14)), .ref (sl_b g + (105 + 15)), .ref (sl_b g + (105 + 16)), .int 0, .int 0, .int 0, .int 0, .ref (sl_b g + (105 + 17)), .ref (sl_b g + (105 + 18)), .ref (sl_b g + (105 + 19)), .ref (sl_b g + (105 + 20)), .int 0, .ref (sl_b g + (105 + 21)), .int 0, .ref (sl_b g + (105 + 22)), .int 0, .ref (sl_b g + (105 + 23)), .ref (sl_b g + (105 + 24)), .ref (sl_b g + (105 + 25)), .int 0, .int 0, .int 0, .int 0, .ref (sl_b g + (105 + 26)), .ref (sl_b g + (105 + 27)), .ref (sl_b g + (105 + 28)), .ref (sl_b g + (105 + 29)), .int 0, .ref (sl_b g + (105 + 30)), .ref (sl_b g + (105 + 31)), .ref (sl_b g + (105 + 32)), .int 0, .ref (sl_b g + (105 + 33))])) [.inl (sl_ca g 0, 30, .inl (fun _ => 0)), .inl (sl_ca g 0, 30, .inl (fun _ => 0)), .inl (sl_ca g 0, 30, .inl (fun _ => 0)), .inl (sl_ca g 0, 30, .inl (fun _ => 0)), .inl (sl_ca g 0, 30, .inl (fun _ => 0)), .inl (sl_ca g 0, 30, .inl (fun _ => 0)), .inl (sl_ca g 0, 3, .inl (upd (upd (upd (fun _ => 0) 0 (-1)) 1 (-1)) 2 (-1))), .inl (sl_ca g 0, 3, .inl (fun _ => 0)), .inl (sl_ca g 0, 3, .inl (fun _ => 0)), .inl (sl_ca g 0, 3, .inl (fun _ => 0)), .inl (sl_ca g 0, 1000, .inl (fun _ => 0)), .inl (sl_ca g 0, 1000, .inl (fun _ => 0)), .inl (sl_ca g 0, 31, .inl (fun _ => 0)), .inl (sl_ca g 0, 31, .inl (fun _ => 0)), .inl (sl_ca g 0, 30, .inl (fun _ => 0)), .inl (sl_ca g 0, 1001, .inl (fun _ => 0)), .inl (sl_ca g 0, 80, .inl (fun _ => 0)), .inl (sl_ca g 0, 90, .inl (fun _ => 0)), .inl (sl_ca g 0, 90, .inl (fun _ => 0)), .inl (sl_ca g 0, 90, .inl (fun _ => 0)), .inl (sl_ca g 0, 90, .inl (fun _ => 0)), .inl (sl_ca g 0, 90, .inl (fun _ => 0)), .inl (sl_ca g 1, 90, .inl (fun _ => 0)), .inl (sl_ca g 0, 5, .inl (fun _ => 0)), .inl (sl_ca g 0, 5, .inl (fun _ => 0)), .inl (sl_ca g 0, 5, .inl (fun _ => 0)), .inl (sl_ca g 0, 27, .inl (fun _ => 0)), .inl (sl_ca g 0, 27, .inl (fun _ => 0)), .inl (sl_ca g 0, 27, .inl (fun _ => 0)), .inl (sl_ca g 0, 400, .inl (fun _ => 0)), .inl (sl_ca g 1, 4, .inl (fun _ => 0)), .inl (sl_ca g 0, 4, .inl (fun _ => 0)), .inl (sl_ca g 0, 160, .inl (fun _ => 0)), .inl (sl_ca g 0, 120, .inl (fun _ => 0))]) (105 + 34) H) : sl_Wd g mu0 H := by
  have h2 : sl_Gw g (sl_E g mu0) 139 H := h.cong (fun q hq => by
    by_cases h1 : q = 104
    · subst h1
      rfl
    · rcases Nat.lt_or_ge q 105 with h2 | h2
      · unfold ce
        rw [if_neg h1, if_pos h2, fu_o h1]
      · obtain ⟨j, rfl⟩ : ∃ j, q = 105 + j := ⟨q - 105, by omega⟩
        unfold ce
        rw [if_neg h1, if_neg (by omega), show 105 + j - 105 = j by omega]
        exact ls_ar g j (by omega))
  exact h2.1
set_option maxRecDepth 100000 in
set_option maxHeartbeats 4000000 in
theorem ls_df12 : ∀ j, j < 50 → defaultValue (sl_t12 j) = vp_V [.null, .null, .null, .null, .null, .int 0, .null, .null, .null, .null, .null, .null, .null, .int 0, .null, .null, .int 0, .null, .null, .null, .int 0, .int 0, .int 0, .int 0, .null, .null, .null, .null, .int 0, .null, .int 0, .null, .int 0, .null, .null, .null, .int 0, .int 0, .int 0, .int 0, .null, .null, .null, .null, .int 0, .null, .null, .null, .int 0, .null] j := by
  intro j hj
  match j, hj with
  | 0, _ => rfl
  | 1, _ => rfl
  | 2, _ => rfl
  | 3, _ => rfl
  | 4, _ => rfl
  | 5, _ => rfl
  | 6, _ => rfl
  | 7, _ => rfl
  | 8, _ => rfl
  | 9, _ => rfl
  | 10, _ => rfl
  | 11, _ => rfl
  | 12, _ => rfl
  | 13, _ => rfl
  | 14, _ => rfl
  | 15, _ => rfl
  | 16, _ => rfl
  | 17, _ => rfl
  | 18, _ => rfl
  | 19, _ => rfl
  | 20, _ => rfl
  | 21, _ => rfl
  | 22, _ => rfl
  | 23, _ => rfl
  | 24, _ => rfl
  | 25, _ => rfl
  | 26, _ => rfl
  | 27, _ => rfl
  | 28, _ => rfl
  | 29, _ => rfl
  | 30, _ => rfl
  | 31, _ => rfl
  | 32, _ => rfl
  | 33, _ => rfl
  | 34, _ => rfl
  | 35, _ => rfl
  | 36, _ => rfl
  | 37, _ => rfl
  | 38, _ => rfl
  | 39, _ => rfl
  | 40, _ => rfl
  | 41, _ => rfl
  | 42, _ => rfl
  | 43, _ => rfl
  | 44, _ => rfl
  | 45, _ => rfl
  | 46, _ => rfl
  | 47, _ => rfl
  | 48, _ => rfl
  | 49, _ => rfl
  | j + 50, hj => exact absurd hj (by omega)
set_option maxRecDepth 100000 in
set_option maxHeartbeats 4000000 in
theorem whole_start {p : Program} {e : Env} {s : State} {m : MethodId} {below : List Frame} {meth : Method} {c : Code} (l : Launch) (hflags : l.flags = flags0) {b L : Nat} {xs : Nat → Int32} (hL : L ≤ 2560) (C0 : lw_At p s m meth c b L xs) : W p l e room_1 s m #[Value.ref b] below meth c s.heap [] 0 0 (lw_Z below #[Value.ref b] s) (entryFrame m ([Value.ref b] : List Value).toArray 4) := by
  obtain ⟨hx, hb, hr, hml, hown, hts, hX, hbl, hlocks, hgv⟩ := id C0
  obtain ⟨g, hg1, hbs, hK⟩ := ls_world l hts hgv
  subst hg1
  have ht0 : ∀ w ∈ sl_T0, w.before #[Value.ref b] s = true := fun w hw => hts w (sl_T0_tbl hw)
  have F : gx g p s m #[Value.ref b] c R_law code 4 := ⟨hx, hb, hml, hown, ht0, hK, Nat.le_of_eq hbs⟩
  have hl := lv_entry ([.ref b]) (n := 4) (Nat.le_of_ble_eq_true rfl)
  rw [lg_entry_eq]
  generalize (lg_sl ([.ref b]) ++ List.replicate (4 - (lg_sl ([.ref b])).length) Slot.unset).toArray = ls at hl ⊢
  have hl : lv_has ls 4 [(0, .ref b)] := hl
  have hG : sl_Gw g (fun _ => .inr (0, [])) 0 s.heap := ⟨fun k q h => by simp [sl_gw] at h, hbs.symm⟩
  have hS : va_S (sl_A g) s.heap s.heap [] := va_S.rf
  refine gw_new (N := 0) (ci := 11) (fs := [.null, .null, .null, .null, .null, .null, .null, .null, .null, .null, .null, .int 0]) F sl_i11 sl_t11 sl_ty11 (sl_in1 104 (by decide +kernel) rfl) (sl_in1 105 (by decide +kernel) rfl) (sl_in1 85 (by decide +kernel) rfl) rfl (fun j hj => by rcases (show j = 0 ∨ j = 1 ∨ j = 2 ∨ j = 3 ∨ j = 4 ∨ j = 5 ∨ j = 6 ∨ j = 7 ∨ j = 8 ∨ j = 9 ∨ j = 10 ∨ j = 11 by omega) with rfl | rfl | rfl | rfl | rfl | rfl | rfl | rfl | rfl | rfl | rfl | rfl <;> rfl) (show decode code 0 = .ok (.new 7, 3) by decide +kernel) (Nat.le_of_ble_eq_true rfl) (Nat.le_of_ble_eq_true rfl) hG hS (fun H hG hS => ?_)
  refine lv_dup hx hb (show decode code 3 = .ok (.dup, 1) by decide +kernel) rfl ?_
  refine gw_callI (n := 0) (o := 0) (As := []) (rest := [.ref (sl_b g + 0)]) F (ct_11 g fu_s) (sl_in1 106 (by decide +kernel) rfl) (sl_in1 107 (by decide +kernel) rfl) (sl_in1 85 (by decide +kernel) rfl) (sl_in1 108 (by decide +kernel) rfl) (by decide +kernel) rfl rfl (by decide) (Nat.le_of_ble_eq_true rfl) (Nat.le_of_ble_eq_true rfl) (show decode code 4 = .ok (.invokespecial 9, 3) by decide +kernel) hl.1 (Nat.le_of_ble_eq_true rfl) (Nat.le_of_ble_eq_true rfl) (Nat.le_of_ble_eq_true rfl) (Nat.le_of_ble_eq_true rfl) (Nat.le_of_ble_eq_true rfl) hG hS (fun H locs hG hS => ?_)
  refine lv_astore_n (lv' := [(1, .ref (sl_b g + 0)), (0, .ref b)]) hx hb (show decode code 7 = .ok (.astore_n 1, 1) by decide +kernel) rfl hl (by decide) rfl (fun ls hl => ?_)
  refine gw_new (N := 104) (ci := 12) (fs := [.null, .null, .null, .null, .null, .int 0, .null, .null, .null, .null, .null, .null, .null, .int 0, .null, .null, .int 0, .null, .null, .null, .int 0, .int 0, .int 0, .int 0, .null, .null, .null, .null, .int 0, .null, .int 0, .null, .int 0, .null, .null, .null, .int 0, .int 0, .int 0, .int 0, .null, .null, .null, .null, .int 0, .null, .null, .null, .int 0, .null]) F sl_i12 sl_t12 sl_ty12 (sl_in1 1011 (by decide +kernel) rfl) (sl_in1 1012 (by decide +kernel) rfl) (sl_in1 97 (by decide +kernel) rfl) rfl ls_df12 (show decode code 8 = .ok (.new 10, 3) by decide +kernel) (Nat.le_of_ble_eq_true rfl) (Nat.le_of_ble_eq_true rfl) hG hS (fun H hG hS => ?_)
  refine lv_dup hx hb (show decode code 11 = .ok (.dup, 1) by decide +kernel) rfl ?_
  refine gw_callI (n := 0) (o := 104) (As := []) (rest := [.ref (sl_b g + 104)]) F (ct_12 g (N := 105) (o0 := 104) (by decide) fu_s) (sl_in1 1013 (by decide +kernel) rfl) (sl_in1 1014 (by decide +kernel) rfl) (sl_in1 97 (by decide +kernel) rfl) (sl_in1 1015 (by decide +kernel) rfl) (by decide +kernel) rfl rfl (by decide) (Nat.le_of_ble_eq_true rfl) (Nat.le_of_ble_eq_true rfl) (show decode code 12 = .ok (.invokespecial 12, 3) by decide +kernel) hl.1 (Nat.le_of_ble_eq_true rfl) (Nat.le_of_ble_eq_true rfl) (Nat.le_of_ble_eq_true rfl) (Nat.le_of_ble_eq_true rfl) (Nat.le_of_ble_eq_true rfl) hG hS (fun H locs hG hS => ?_)
  refine lv_astore_n (lv' := [(2, .ref (sl_b g + 104)), (1, .ref (sl_b g + 0)), (0, .ref b)]) hx hb (show decode code 15 = .ok (.astore_n 2, 1) by decide +kernel) rfl hl (by decide) rfl (fun ls hl => ?_)
  refine lv_iconst (v := 0) hx hb (show decode code 16 = .ok (.iconst 0, 1) by decide +kernel) (by decide) ?_
  refine lv_istore_n (lv' := [(3, .int 0), (2, .ref (sl_b g + 104)), (1, .ref (sl_b g + 0)), (0, .ref b)]) hx hb (show decode code 17 = .ok (.istore_n 3, 1) by decide +kernel) rfl hl (by decide) rfl (fun ls hl => ?_)
  refine W.widen (k := 600000) (n := 7302249) (Nat.le_of_ble_eq_true rfl) (Nat.le_of_ble_eq_true rfl) ?_
  have D : lwD g p e s m below meth c b L xs := ⟨⟨hx, hb, hml, hown, ht0, hK.1, by decide, by decide, by decide, by decide⟩, hX, hbl, fun h => absurd (show sl_b g ≤ b from h) (by rw [hbs]; omega), hL⟩
  exact ls_loop D hbs hr hlocks (L + 1) 0 (Nat.zero_le L) (by omega) mu0 H locs ls mu0_inv (ls_wd hG) hS hl
set_option maxHeartbeats 4000000 in
theorem lw_walk (l : Launch) (hflags : l.flags = flags0) (b : Addr) (xs : List Int32) : MetFree l x (headSpec (Jvm.Cond.code x code maxLocals ret :: tables_1) room_1) (lw_P b xs) (fun _ _ _ _ _ => True) lw_Q := by
  refine MetFree.of_bodyS (code := code) (maxLocals := maxLocals) (ret := ret) (by decide) ?_ ?_
  · intro args s m h hn
    obtain ⟨meth, c, h1, h2, h3, h4, h5, h6, -, -⟩ := Cond.code_spec hn (atoms_spec (ws := Jvm.Cond.code x code maxLocals ret :: tables_1) h _ List.mem_cons_self)
    exact ⟨meth, c, h1, h2, h3, h4, h5, h6⟩
  · intro p e s m args below meth c s₁ B hml0 hP _
    obtain ⟨rfl, hx, hbd, hgv⟩ := hP
    obtain ⟨scr, harrAt, hlist, hof, hsmall⟩ := hx
    obtain ⟨hcb, hkn, -, -⟩ := State.arrayAt?_spec harrAt
    have hown : s.vm.findClass R_law = some m.cls := findClass_of_methodNamed B.named
    have hts0 : ∀ c ∈ (Jvm.Cond.code x code maxLocals ret :: tables_1), c.before #[Value.ref b] s = true := atoms_spec (ws := Jvm.Cond.code x code maxLocals ret :: tables_1) B.pre
    have hts : ∀ w ∈ lw_tbl, w.before #[Value.ref b] s = true := k2_hts_sels lw_privs (fun w hw => hts0 w (List.mem_cons_of_mem _ hw)) lw_privs_ok
    have hml : c.maxLocals = 4 := B.maxLocals_eq (hts0 _ List.mem_cons_self)
    have X₀ : Stand p l e room_1 s m #[Value.ref b] below meth c s₁ [] 0 0 := Stand.of_body B
    have hh0 : s₁.heap = s.heap := by rw [B.state]; rfl
    have hsz : scr.slots.size = xs.length := by rw [← Array.length_toList, hlist, List.length_map]
    have hval : ∀ j : Nat, j < xs.length → scr.slots[j]? = some (.int (xs.getD j 0)) := fun j hj => by
      rw [← Array.getElem?_toList, hlist]
      simp [hj]
    have hbl : b < s.heap.size := (Array.getElem?_eq_some_iff.mp hcb).1
    have hX : va_X b xs.length (fun j => xs.getD j 0) s s.heap := ⟨scr, hcb, hof, hkn, hsz, hval⟩
    have K : W p l e room_1 s m #[Value.ref b] below meth c s₁.heap [] 0 0 (lw_Z below #[Value.ref b] s) (entryFrame m ([Value.ref b] : List Value).toArray 4) := by
      rw [hh0]
      exact whole_start l hflags hbd ⟨B.exec, B.bytes, B.returns, hml, hown, hts, hX, hbl, B.notSynchronized, hgv⟩
    obtain ⟨t, a1, o, b1, b2, b3⟩ := K s₁ rfl X₀
    exact ⟨t, o, a1, b1, b2, b3⟩
theorem lw_pre_spec {args : Array Value} {s : State} (h : (Jvm.Cond.and given_1 narrow_1).before args s = true) (hr : rest_1_c.before args s = true) : ∃ (b : Addr) (xs : List Int32), lw_P b xs args s := by
  have hs := flat_of_before _ h
  have hq := flat_of_before _ hr
  have hc : (Cond.count 1).before args s = true := hs _ (by decide +kernel)
  have harr : (Cond.arrayOf (.arg 0) .int).before args s = true := hs _ (by decide +kernel)
  have hle : (Cond.le (.length (.arg 0)) (.int 2560)).before args s = true := hs _ (by decide +kernel)
  have hlen : (Cond.isInt (.length (.arg 0))).before args s = true := hq _ (by decide +kernel)
  have hall : (Cond.all (.arg 0) (.isInt (.elem (.arg 0) (.index 0)))).before args s = true := hq _ (by decide +kernel)
  obtain ⟨b, xs, hb, hx⟩ := State.ints_of_pre rfl harr hlen hall
  have hsm : xs.length < 2 ^ 31 := hx.choose_spec.2.2.2
  have hev : (Term.length (.arg 0)).eval args s none [] s = some (.int xs.length.toInt32) := hx.length_eval hb
  have hv := Cond.le_ints hev (show (Term.int 2560).eval args s none [] s = some (.int 2560) from rfl)
  have hd : xs.length.toInt32 ≤ 2560 := by
    simpa [Cond.before, Cond.holds, hv] using hle
  have hN : xs.length ≤ 2560 := (Int32.ofNat_le_ofNat hsm (by decide)).mp (show Int32.ofNat xs.length ≤ Int32.ofNat 2560 from hd)
  exact ⟨b, xs, Cond.one_arg hc (show args[0]? = some (.ref b) from hb), hx, hN, h⟩
theorem lw_comes (l : Launch) (hflags : l.flags = flags0) : Comes l x (Jvm.Cond.code x code maxLocals ret :: tables_1) room_1 (fun tb e args s => Calls_1 tb e args s ∧ rest_1 tb e args s ∧ Pre_1 tb e args s)
    (fun _ _ args s o t => lw_Q args s o t) := by
  intro p e ha hc hk s m args below hf hfit hheap happ hpre
  obtain ⟨b, xs, hP⟩ := lw_pre_spec hpre.2.2 hpre.2.1
  obtain ⟨k, o, h1, h2, h3, hQ⟩ := lw_walk l hflags b xs p e ha hc hk s m args below hf ((Spec.applies_iff_loose hf).mp happ).1 hP trivial
  exact ⟨k, o, h1, h2, h3, hQ⟩
theorem lw_frame {s t : State} {o : Outcome} {args : Array Value} (h : Framed s o t [] 600000 7302249) :
    Framed s o t (fieldLocs frame_1_writes args s ++ arrayLocs frame_1_arrays args s ++ staticLocs frame_1_statics s) 600000 7302249 := h
theorem lw_limb (L : Cond) (hL : ∀ (args : Array Value) (s t : State), L.after args s (.returned (some (.int 1))) t = true) :
    ArmFor flags0 classFile x code maxLocals ret World_1 tables_1 room_1 Calls_1 rest_1 Pre_1
      (fun tb e a s o t => postC L tb e a s o t ∧ Framed s o t (fieldLocs frame_1_writes a s ++ arrayLocs frame_1_arrays a s ++ staticLocs frame_1_statics s) 600000 7302249) := by
  intro l hflags _ _ p e ha hc hk s m args below hf hfit hheap happ hpre
  obtain ⟨k, o, h1, h2, h3, rfl, hF⟩ := lw_comes l hflags p e ha hc hk s m args below hf hfit hheap happ hpre
  exact ⟨k, _, h1, h2, h3, hL args s _, lw_frame hF⟩
theorem i_vc : Claimed_1_1 ∧ Claimed_1_2 := ⟨lw_limb limb_1_1 (fun args s t => by simp [limb_1_1, Cond.after, Cond.holds, Cond.value]), lw_limb limb_1_2 (fun args s t => Cond.after_iff.mpr (by
  first | (rw [show limb_1_2 = Cond.eq .result (.int 1) from rfl, Cond.eq_ints (x := 1) (y := 1) rfl rfl]; simp; done) | (simp [limb_1_2, Cond.value, Term.eval]; done)))⟩
