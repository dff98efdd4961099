/-! THE GROWING WORLD: cells 0 .. N-1 at base + k, what each holds; rows for constructors -/
def sl_gw (g : sl_G) (e : Nat → va_E) (N : Nat) : va_W := (List.range N).map (fun o => (sl_b g + o, e o))
def sl_Gw (g : sl_G) (e : Nat → va_E) (N : Nat) (H : Heap) : Prop := va_P (sl_gD g) sl_cl (sl_gw g e N) H ∧ H.size = sl_b g + N
theorem gw_at (g : sl_G) (e : Nat → va_E) {N o : Nat} (h : o < N) : (sl_gw g e N)[o]? = some (sl_b g + o, e o) := by
  unfold sl_gw
  rw [List.getElem?_map, List.getElem?_range h]
  rfl
theorem gw_len (g : sl_G) (e : Nat → va_E) (N : Nat) : (sl_gw g e N).length = N := by
  unfold sl_gw
  rw [List.length_map, List.length_range]
theorem gw_inv {g : sl_G} {e : Nat → va_E} {N o : Nat} {q : Nat × va_E} (h : (sl_gw g e N)[o]? = some q) : o < N ∧ q = (sl_b g + o, e o) := by
  have h1 : o < (sl_gw g e N).length := (List.getElem?_eq_some_iff.mp h).1
  rw [gw_len] at h1
  rw [gw_at g e h1] at h
  exact ⟨h1, (Option.some.inj h).symm⟩
theorem gw_D (g : sl_G) (e : Nat → va_E) (N : Nat) : va_D (sl_A g) (sl_gw g e N) := by
  refine ⟨fun i j p q hi hj hpq => ?_, fun k q hk => ?_⟩
  · obtain ⟨-, rfl⟩ := gw_inv hi
    obtain ⟨-, rfl⟩ := gw_inv hj
    exact Nat.add_left_cancel hpq
  · obtain ⟨-, rfl⟩ := gw_inv hk
    exact Nat.le_add_right _ _
theorem gw_push (g : sl_G) (e : Nat → va_E) (N : Nat) (E : va_E) : sl_gw g e N ++ [(sl_b g + N, E)] = sl_gw g (fu e N E) (N + 1) := by
  unfold sl_gw
  rw [List.range_succ, List.map_append]
  congr 1
  · refine List.map_congr_left (fun o ho => ?_)
    have := List.mem_range.mp ho
    rw [fu_o (by omega)]
  · show [(sl_b g + N, E)] = [(sl_b g + N, fu e N E N)]
    rw [fu_s]
theorem gw_set (g : sl_G) (e : Nat → va_E) {N o : Nat} (E : va_E) : (sl_gw g e N).set o (sl_b g + o, E) = sl_gw g (fu e o E) N := by
  apply List.ext_getElem?
  intro i
  rw [List.getElem?_set]
  by_cases hi : o = i
  · subst hi
    rw [if_pos rfl, gw_len]
    by_cases h : o < N
    · rw [if_pos h, gw_at g _ h, fu_s]
    · rw [if_neg h, List.getElem?_eq_none (by rw [gw_len]; omega)]
  · rw [if_neg hi]
    rcases Nat.lt_or_ge i N with q | q
    · rw [gw_at g e q, gw_at g _ q, fu_o (fun h => hi h.symm)]
    · rw [List.getElem?_eq_none (by rw [gw_len]; exact q), List.getElem?_eq_none (by rw [gw_len]; exact q)]
theorem sl_Gw.cong {g : sl_G} {e e' : Nat → va_E} {N : Nat} {H : Heap} (h : sl_Gw g e N H) (he : ∀ o, o < N → e o = e' o) : sl_Gw g e' N H := by
  have : sl_gw g e N = sl_gw g e' N := List.map_congr_left (fun o ho => by rw [he o (List.mem_range.mp ho)])
  unfold sl_Gw
  rw [← this]
  exact h
def KK (g : sl_G) (U : State) : Prop := sl_K g U ∧ va_AO sl_R4 U ∧ va_AO sl_R8 U ∧ va_AO sl_R9 U
theorem KK.go {g : sl_G} {s U : State} {locs : List Loc} (h : KK g s) (hS : va_S (sl_A g) s.heap U.heap locs) (hW : s.WarmedH U.vm) : KK g U := ⟨h.1.go hS hW, h.2.1.moved hW.alike, h.2.2.1.moved hW.alike, h.2.2.2.moved hW.alike⟩
def gx (g : sl_G) (p : Program) (s : State) (m : MethodId) (args : Array Value) (c : Code) (own : String) (cc : ByteArray) (nL : Nat) : Prop := p.tables.exec = Jvm.exec ∧ c.code = cc ∧ c.maxLocals = nL ∧ s.vm.findClass own = some m.cls ∧ (∀ w ∈ sl_T0, w.before args s = true) ∧ KK g s ∧ sl_b g ≤ s.heap.size
section GW
variable {p : Program} {g : sl_G} {e0 : Env} {R : Room} {s : State} {m : MethodId} {args : Array Value} {below : List Frame} {meth : Method} {c : Code} {H : Heap} {locs : List Loc} {cells slots : Nat} {Q : State → Prop}
variable {cc : ByteArray} {pc nL : Nat} {ls : Array Slot} {rest : List Value} {e : Nat → va_E} {N : Nat} {own : String}
theorem gx.A (F : gx g p s m args c own cc nL) : ∀ q, s.heap.size ≤ q → sl_A g q := fun q h => Nat.le_trans F.2.2.2.2.2.2 h
/-- a cell is pushed -/
theorem gw_pushed (hG : sl_Gw g e N H) {H1 : Heap} {E : va_E} (z1 : H1.size = H.size + 1) (o1 : ∀ q, q < H.size → H1[q]? = H[q]?) (hE : va_at (sl_gD g) sl_cl (sl_b g + N, E) H1) : sl_Gw g (fu e N E) (N + 1) H1 := by
  refine ⟨?_, by rw [z1, hG.2, Nat.add_assoc]⟩
  rw [← gw_push]
  have hk : ∀ (k : Nat) (x : Nat × va_E), (sl_gw g e N)[k]? = some x → H1[x.1]? = H[x.1]? := fun k x hx => o1 x.1 ((hG.1 k x hx).lt)
  refine (hG.1.kept hk).app (fun k x hx => ?_)
  have hz : k < 1 := (List.getElem?_eq_some_iff.mp hx).1
  rw [show k = 0 by omega] at hx
  cases hx
  exact hE
theorem gw_new (F : gx g p s m args c own cc nL) {C : String} {T : u_T} {NF ci index : Nat} (hin : ∀ w ∈ u_ws C T NF, w ∈ sl_T0) (ty : Nat → FieldType) (hty : ∀ k, k < NF → parseFieldDescriptor (T k).2.2.1 = some (ty k)) (hcl : Cond.classLink own index C ∈ sl_T0) (hinst : Cond.instantiable C NF ∈ sl_T0) (hini : Cond.initialized C ∈ sl_T0) (hc : sl_cl[ci]? = some (C, T, NF)) {fs : List Value} (hfs : ∀ j, j < NF → defaultValue (ty j) = vp_V fs j) (hdg : decode cc pc = .ok (.new index, 3)) (hcells : cells + 1 ≤ R.cells) (hslots : slots + NF ≤ R.slots) (hG : sl_Gw g e N H) (hS : va_S (sl_A g) s.heap H locs)
    (kk : ∀ H1, sl_Gw g (fu e N (.inr (ci, fs))) (N + 1) H1 → va_S (sl_A g) s.heap H1 locs → W p g.1 e0 R s m args below meth c H1 locs (cells + 1) (slots + NF) Q (F0 m (pc + 3) ls (.ref (sl_b g + N) :: rest))) : W p g.1 e0 R s m args below meth c H locs cells slots Q (F0 m pc ls rest) := by
  obtain ⟨hx, hb, hml, hown, hts, hK, -⟩ := id F
  have hKn := hK.1.1.1 ci _ hc
  refine W.newcK hx hb hown (hts _ hcl) (hts _ hinst) (hts _ hini) rfl hdg hcells hslots hKn.2.1 rfl fun H1 kC hkC e1 z1 o1 => ?_
  rw [hG.2]
  refine kk H1 (gw_pushed hG z1 o1 ⟨_, hc, ?_⟩) ⟨Nat.le_trans hS.1 (by omega), fun x h1 h2 => (o1 x (Nat.lt_of_lt_of_le h1 hS.1)).trans (hS.2.1 x h1 h2), hS.2.2⟩
  rw [hG.2] at e1
  exact (u_born ty hts hin hKn hkC e1 hty).to hfs
/-- an array of ints (t0 0) or booleans (t0 1) -/
theorem gw_newa (F : gx g p s m args c own cc nL) {atype : ArrayType} {t0 : Nat} (harr : Cond.arrayClass (newarray.typeOf atype) ∈ sl_T0) (ht : (sl_tys g)[t0]? = some (sl_ca g t0, newarray.typeOf atype)) (hra : ∀ (U : State) (cA : ClassId), va_RA U cA (newarray.typeOf atype) → U.vm.findClass ("[" ++ (newarray.typeOf atype).toString) = some cA) (hdv : defaultValue (newarray.typeOf atype) = .int 0) (hcb : componentBytes (newarray.typeOf atype) ≤ 4) {x : Int32} {n : Nat} (hn : x = nI n) (hn2 : n ≤ 100000) (hdg : decode cc pc = .ok (.newarray atype, 2)) (hcells : cells + 1 ≤ R.cells) (hslots : slots + n ≤ R.slots) (hG : sl_Gw g e N H) (hS : va_S (sl_A g) s.heap H locs)
    (kk : ∀ H1, sl_Gw g (fu e N (.inl (sl_ca g t0, n, .inl (fun _ => 0)))) (N + 1) H1 → va_S (sl_A g) s.heap H1 locs → W p g.1 e0 R s m args below meth c H1 locs (cells + 1) (slots + n) Q (F0 m (pc + 2) ls (.ref (sl_b g + N) :: rest))) : W p g.1 e0 R s m args below meth c H locs cells slots Q (F0 m pc ls (.int x :: rest)) := by
  obtain ⟨hx, hb, hml, hown, hts, hK, -⟩ := id F
  subst hn
  refine va_newaK hx hb (hts _ harr) rfl hdg rfl (nI_pos (by omega)) (nI_clamp (by omega)) (Nat.le_trans (Nat.mul_le_mul hn2 hcb) (by omega)) hcells hslots rfl fun H1 cA e1 z1 o1 hAr hNm => ?_
  have hca : cA = sl_ca g t0 := by
    have q := hra _ _ (hK.1.1.2 t0 _ ht).2
    exact Option.some.inj (hNm.symm.trans q)
  subst hca
  rw [hG.2]
  refine kk H1 (gw_pushed hG z1 o1 ?_) ⟨Nat.le_trans hS.1 (by omega), fun x h1 h2 => (o1 x (Nat.lt_of_lt_of_le h1 hS.1)).trans (hS.2.1 x h1 h2), hS.2.2⟩
  rw [hG.2, hdv] at e1
  exact e1
theorem gw_newq (F : gx g p s m args c own cc nL) {C : String} {t0 index : Nat} (hcl : Cond.classLink own index C ∈ sl_T0) (hao : va_AO C s) (ht : (sl_tys g)[t0]? = some (sl_ca g t0, .object C)) {x : Int32} {n : Nat} (hn : x = nI n) (hn2 : n ≤ 100000) (hdg : decode cc pc = .ok (.anewarray index, 3)) (hcells : cells + 1 ≤ R.cells) (hslots : slots + n ≤ R.slots) (hG : sl_Gw g e N H) (hS : va_S (sl_A g) s.heap H locs)
    (kk : ∀ H1, sl_Gw g (fu e N (.inl (sl_ca g t0, n, sl_rf (fun _ => none)))) (N + 1) H1 → va_S (sl_A g) s.heap H1 locs → W p g.1 e0 R s m args below meth c H1 locs (cells + 1) (slots + n) Q (F0 m (pc + 3) ls (.ref (sl_b g + N) :: rest))) : W p g.1 e0 R s m args below meth c H locs cells slots Q (F0 m pc ls (.int x :: rest)) := by
  obtain ⟨hx, hb, hml, hown, hts, hK, -⟩ := id F
  subst hn
  refine W.anew hx hb hown (hts _ hcl) (va_AO.use hao) rfl hdg rfl (nI_pos (by omega)) (by rw [nI_clamp (by omega)]; omega) hcells (by rw [nI_clamp (by omega)]; exact hslots) fun cA kA comp f1 f2 f3 f4 => ?_
  rw [nI_clamp (by omega)]
  generalize hH1 : H.push ({ cls := cA, slots := Array.replicate n .null, vm := .none } : Cell) = H1
  have z1 : H1.size = H.size + 1 := by rw [← hH1, Array.size_push]
  have e1 : H1[H.size]? = some (arrV cA n (fun _ => .null)) := by rw [← hH1, Array.getElem?_push_size, ← arrV_new]
  have o1 : ∀ q : Nat, q < H.size → H1[q]? = H[q]? := fun q hq => by rw [← hH1, Array.getElem?_push, if_neg (Nat.ne_of_lt hq)]
  have hca : cA = sl_ca g t0 := by
    obtain ⟨kA', comp', r1, r2, r3, r4⟩ := (hK.1.1.2 t0 _ ht).2
    exact Option.some.inj (f1.symm.trans r4)
  subst hca
  rw [hG.2]
  refine kk H1 (gw_pushed hG z1 o1 ?_) ⟨Nat.le_trans hS.1 (by omega), fun x h1 h2 => (o1 x (Nat.lt_of_lt_of_le h1 hS.1)).trans (hS.2.1 x h1 h2), hS.2.2⟩
  rw [hG.2] at e1
  exact e1
end GW
