/-! what is known of the classes, the arrays, the texts at the law's start -/
theorem ls_cls {args : Array Value} {s : State} (hts : ∀ w ∈ sl_T0, w.before args s = true) : ∀ q ∈ sl_cl, ∃ (cC : ClassId) (iS : Nat → Nat), u_Kn s q.1 q.2.1 q.2.2 cC iS := by
  refine List.forall_mem_cons.mpr ⟨u_known (n := 4) hts sl_i0 (hts _ (sl_in1 259 (by decide +kernel) rfl)), ?_⟩
  refine List.forall_mem_cons.mpr ⟨u_known (n := 4) hts sl_i1 (hts _ (sl_in1 206 (by decide +kernel) rfl)), ?_⟩
  refine List.forall_mem_cons.mpr ⟨u_known (n := 0) hts sl_i2 (hts _ (sl_in1 252 (by decide +kernel) rfl)), ?_⟩
  refine List.forall_mem_cons.mpr ⟨u_known (n := 4) hts sl_i3 (hts _ (sl_in1 182 (by decide +kernel) rfl)), ?_⟩
  refine List.forall_mem_cons.mpr ⟨u_known (n := 4) hts sl_i4 (hts _ (sl_in1 313 (by decide +kernel) rfl)), ?_⟩
  refine List.forall_mem_cons.mpr ⟨u_known (n := 2) hts sl_i5 (hts _ (sl_in1 113 (by decide +kernel) rfl)), ?_⟩
  refine List.forall_mem_cons.mpr ⟨u_known (n := 2) hts sl_i6 (hts _ (sl_in1 297 (by decide +kernel) rfl)), ?_⟩
  refine List.forall_mem_cons.mpr ⟨u_known (n := 4) hts sl_i7 (hts _ (sl_in1 278 (by decide +kernel) rfl)), ?_⟩
  refine List.forall_mem_cons.mpr ⟨u_known (n := 3) hts sl_i8 (hts _ (sl_in1 339 (by decide +kernel) rfl)), ?_⟩
  refine List.forall_mem_cons.mpr ⟨u_known (n := 6) hts sl_i9 (hts _ (sl_in1 120 (by decide +kernel) rfl)), ?_⟩
  refine List.forall_mem_cons.mpr ⟨u_known (n := 4) hts sl_i10 (hts _ (sl_in1 230 (by decide +kernel) rfl)), ?_⟩
  refine List.forall_mem_cons.mpr ⟨u_known (n := 12) hts sl_i11 (hts _ (sl_in1 105 (by decide +kernel) rfl)), ?_⟩
  refine List.forall_mem_cons.mpr ⟨u_known (n := 50) hts sl_i12 (hts _ (sl_in1 1012 (by decide +kernel) rfl)), ?_⟩
  exact fun _ h => absurd h List.not_mem_nil
theorem ls_prim {args : Array Value} {s : State} {t : FieldType} (h : (Cond.arrayClass t).before args s = true) : ∃ cA : ClassId, ArrOfT s cA t ∧ s.vm.findClass ("[" ++ t.toString) = some cA := by
  obtain ⟨c, k, comp, h1, h2, h3⟩ := Cond.arrayClass_spec h
  exact ⟨c, fun N z => ⟨(fun k h => by cases h), k, h2, comp, h3⟩, h1⟩
theorem ls_over {s : State} {C : String} (h : va_AO C s) : ∃ cA : ClassId, ArrOfT s cA (.object C) ∧ va_RA s cA (.object C) := by
  obtain ⟨comp, c, k, h1, h2, h3, h4, h5⟩ := Cond.arrayOver_spec h
  exact ⟨c, fun N z => ⟨(fun k h => by cases h), k, h3, comp, h4⟩, k, comp, h3, h4, h1, h5⟩
def ls_tm (i : Nat) : Term := .string (sl_own i) (sl_six i)
set_option maxRecDepth 100000 in
theorem ls_m1 : ∀ i, i < 2 → Cond.exactly (ls_tm i) "java/lang/String" ∈ flatC (given_1.and narrow_1) := by decide +kernel
set_option maxRecDepth 100000 in
theorem ls_m2 : ∀ i, i < 2 → Cond.eq (.field (ls_tm i) "java/lang/String" "coder" "B") (.int 0) ∈ flatC (given_1.and narrow_1) := by decide +kernel
set_option maxRecDepth 100000 in
theorem ls_m3 : ∀ i, i < 2 → Cond.arrayOf (.field (ls_tm i) "java/lang/String" "value" "[B") .byte ∈ flatC (given_1.and narrow_1) := by decide +kernel
set_option maxRecDepth 100000 in
theorem ls_m4 : ∀ i, i < 2 → Cond.eq (.length (.field (ls_tm i) "java/lang/String" "value" "[B")) (.int (Int32.ofNat (sl_sl.getD i 0))) ∈ flatC (given_1.and narrow_1) := by decide +kernel
set_option maxRecDepth 100000 in
theorem ls_m5 : ∀ i, i < 2 → ∀ j, j < sl_sl.getD i 0 → Cond.eq (.elem (.field (ls_tm i) "java/lang/String" "value" "[B") (.int (Int32.ofNat j))) (.int ((sl_sb.getD i []).getD j 0)) ∈ flatC (given_1.and narrow_1) := by decide +kernel
set_option maxRecDepth 100000 in
theorem ls_m6 : Cond.not (Cond.eq (ls_tm 0) (ls_tm 1)) ∈ flatC (given_1.and narrow_1) := by decide +kernel
set_option maxRecDepth 100000 in
theorem ls_m7 : Cond.eq (.static "java/lang/String" "COMPACT_STRINGS" "Z") (.int 1) ∈ flatC (given_1.and narrow_1) := by decide +kernel
set_option maxRecDepth 100000 in
theorem ls_m8 : Cond.isRef (.static "jdk/internal/util/Preconditions" "SIOOBE_FORMATTER" "Ljava/util/function/BiFunction;") ∈ flatC (given_1.and narrow_1) := by decide +kernel
set_option maxRecDepth 100000 in
theorem ls_m9 : ∀ i, i < 2 → Cond.stringRef (sl_own i) (sl_six i) (sl_stx i) ∈ lw_tbl := fun i hi => by
  rcases (show i = 0 ∨ i = 1 by omega) with rfl | rfl
  · exact List.mem_of_getElem? (i := 760) (by decide +kernel)
  · exact List.mem_of_getElem? (i := 867) (by decide +kernel)
set_option maxRecDepth 100000 in
theorem ls_world {args : Array Value} {s : State} (l : Launch) (hts : ∀ w ∈ lw_tbl, w.before args s = true) (hgv : (Jvm.Cond.and given_1 narrow_1).before args s = true) : ∃ g : sl_G, g.1 = l ∧ sl_b g = s.heap.size ∧ KK g s := by
  have hs := flat_of_before _ hgv
  have ht0 : ∀ w ∈ sl_T0, w.before args s = true := fun w hw => hts w (sl_T0_tbl hw)
  have hA : ∀ a : Nat, a < s.heap.size → ¬ (fun q : Nat => s.heap.size ≤ q) a := fun a h => Nat.not_le.mpr h
  obtain ⟨adK, adV, hV, hE⟩ := vk_Sof (N := 2) (tm := ls_tm) (len := sl_sl) (byt := sl_sb) (A := fun q : Nat => s.heap.size ≤ q) (by decide) (fun i hi => hs _ (ls_m1 i hi)) (fun i hi => hs _ (ls_m2 i hi)) (fun i hi => hs _ (ls_m3 i hi)) (fun i hi => hs _ (ls_m4 i hi)) (fun i hi j hj => hs _ (ls_m5 i hi j hj)) (fun i j hi hj hne => by
    rcases (show (i = 0 ∧ j = 1) ∨ (i = 1 ∧ j = 0) by omega) with ⟨rfl, rfl⟩ | ⟨rfl, rfl⟩
    · exact Or.inl (hs _ ls_m6)
    · exact Or.inr (hs _ ls_m6)) hA
  have hc : ∀ k : Nat, ∃ q : ClassId × (Nat → Nat), ∀ r : vw_C, sl_cl[k]? = some r → u_Kn s r.1 r.2.1 r.2.2 q.1 q.2 := by
    intro k
    cases hk : sl_cl[k]? with
    | none =>
      obtain ⟨cC, iS, -⟩ := ls_cls ht0 _ List.mem_cons_self
      exact ⟨(cC, iS), fun r hr => by cases hr⟩
    | some r =>
      obtain ⟨cC, iS, h⟩ := ls_cls ht0 _ (List.mem_of_getElem? hk)
      exact ⟨(cC, iS), fun r hr => by cases hr; exact h⟩
  obtain ⟨cf, hcf⟩ := Classical.axiomOfChoice hc
  obtain ⟨a0, h0, h0'⟩ := ls_prim (t := .int) (ht0 _ (sl_in1 204 (by decide +kernel) rfl))
  obtain ⟨a1, h1, h1'⟩ := ls_prim (t := .boolean) (ht0 _ (sl_in1 1168 (by decide +kernel) rfl))
  have o9 : va_AO sl_R9 s := va_AO.of (hts _ (List.mem_of_getElem? (i := 119) (by decide +kernel)))
  have o4 : va_AO sl_R4 s := va_AO.of (hts _ (List.mem_of_getElem? (i := 228) (by decide +kernel)))
  have o8 : va_AO sl_R8 s := va_AO.of (hts _ (List.mem_of_getElem? (i := 312) (by decide +kernel)))
  obtain ⟨a2, h2, h2'⟩ := ls_over o9
  obtain ⟨a3, h3, h3'⟩ := ls_over o4
  obtain ⟨a4, h4, h4'⟩ := ls_over o8
  refine ⟨(l, fun k => (cf k).1, fun k => (cf k).2, fun k => match k with
    | 0 => a0
    | 1 => a1
    | 2 => a2
    | 3 => a3
    | _ => a4, s.heap.size, fun c => if c = 90 then adK else adV), rfl, rfl, ⟨⟨fun c q hq => hcf c q hq, fun k q hk => ?_⟩, hV, fun o ho => vk_R.of (hts _ (ls_m9 o ho)) (hE o ho), ?_, ?_, fun q hq => va_Nw.of rfl (hts _ (sl_nest_tbl q hq))⟩, o4, o8, o9⟩
  · match k, hk with
    | 0, hk => cases hk; exact ⟨h0, h0'⟩
    | 1, hk => cases hk; exact ⟨h1, h1'⟩
    | 2, hk => cases hk; exact ⟨h2, h2'⟩
    | 3, hk => cases hk; exact ⟨h3, h3'⟩
    | 4, hk => cases hk; exact ⟨h4, h4'⟩
    | k + 5, hk => simp [sl_tys] at hk
  · exact va_Zof (hts _ (List.mem_of_getElem? (i := 774) (by decide +kernel))) (hts _ (List.mem_of_getElem? (i := 100) (by decide +kernel))) (va_eqt (hs _ ls_m7)) hA
  · exact va_Zqof (hts _ (List.mem_of_getElem? (i := 790) (by decide +kernel))) (hts _ (List.mem_of_getElem? (i := 102) (by decide +kernel))) (hs _ ls_m8) hA
