/-! constructors: one cell that is filled, new ones behind -/
def ce (e : Nat → va_E) (N o0 : Nat) (E : va_E) (L : List va_E) : Nat → va_E := fun o => if o = o0 then E else if o < N then e o else L.getD (o - N) (.inl (0, 0, .inl (fun _ => 0)))
theorem ce_new {e : Nat → va_E} {N o0 j : Nat} {E X : va_E} {L : List va_E} (ho : o0 < N) (hL : L.length = j) : fu (ce e N o0 E L) (N + j) X = ce e N o0 E (L ++ [X]) := by
  subst hL
  funext o
  by_cases h : o = N + L.length
  · subst h
    rw [fu_s]
    unfold ce
    rw [if_neg (by omega), if_neg (by omega), show N + L.length - N = L.length by omega]
    simp
  · rw [fu_o h]
    unfold ce
    by_cases h1 : o = o0
    · rw [if_pos h1, if_pos h1]
    · rw [if_neg h1, if_neg h1]
      by_cases h2 : o < N
      · rw [if_pos h2, if_pos h2]
      · rw [if_neg h2, if_neg h2]
        by_cases h3 : o - N < L.length
        · simp [List.getD, List.getElem?_append_left h3]
        · simp [List.getD, List.getElem?_eq_none (show L.length ≤ o - N by omega), List.getElem?_eq_none (show (L ++ [X]).length ≤ o - N by simp; omega)]
theorem ce_put {e : Nat → va_E} {N o0 : Nat} {E E' : va_E} {L : List va_E} : fu (ce e N o0 E L) o0 E' = ce e N o0 E' L := by
  funext o
  by_cases h : o = o0
  · subst h
    rw [fu_s]
    exact (if_pos rfl).symm
  · rw [fu_o h]
    unfold ce
    rw [if_neg h, if_neg h]
theorem ce_upd {e : Nat → va_E} {N o0 j : Nat} {E X : va_E} {L : List va_E} (ho : o0 < N) (hj : j < L.length) : fu (ce e N o0 E L) (N + j) X = ce e N o0 E (L.set j X) := by
  funext o
  by_cases h : o = N + j
  · subst h
    rw [fu_s]
    unfold ce
    rw [if_neg (by omega), if_neg (by omega), show N + j - N = j by omega]
    simp [List.getD, hj]
  · rw [fu_o h]
    unfold ce
    by_cases h1 : o = o0
    · rw [if_pos h1, if_pos h1]
    · rw [if_neg h1, if_neg h1]
      by_cases h2 : o < N
      · rw [if_pos h2, if_pos h2]
      · rw [if_neg h2, if_neg h2]
        have : j ≠ o - N := by omega
        simp [List.getD, List.getElem?_set, this]
theorem ce_0 {g : sl_G} {e : Nat → va_E} {N o0 : Nat} {E : va_E} {H : Heap} (he : e o0 = E) (h : sl_Gw g e N H) : sl_Gw g (ce e N o0 E []) (N + 0) H := h.cong (fun o ho => by
  unfold ce
  by_cases h1 : o = o0
  · rw [if_pos h1, h1, he]
  · rw [if_neg h1, if_pos ho])
/-- the same cells, whatever stands beyond the ends of their arrays -/
def cq (E E' : va_E) : Prop := E = E' ∨ ∃ cA n f f', E = .inl (cA, n, sl_rf f) ∧ E' = .inl (cA, n, sl_rf f') ∧ ∀ i, i < n → f i = f' i
theorem arrV_c {cA : ClassId} {n : Nat} {f f' : Nat → Value} (h : ∀ i, i < n → f i = f' i) : arrV cA n f = arrV cA n f' := by
  unfold arrV
  congr 1
  congr 1
  funext j
  exact h j.val j.isLt
theorem sl_Gw.cq {g : sl_G} {e e' : Nat → va_E} {N : Nat} {H : Heap} (h : sl_Gw g e N H) (he : ∀ o, o < N → cq (e o) (e' o)) : sl_Gw g e' N H := by
  refine ⟨fun k q hq => ?_, h.2⟩
  obtain ⟨hk, rfl⟩ := gw_inv hq
  have h1 := h.1 k _ (gw_at g e hk)
  rcases he k hk with q | ⟨cA, n, f, f', q1, q2, q3⟩
  · rw [← q]
    exact h1
  · rw [q1] at h1
    rw [q2]
    have h2 : H[sl_b g + k]? = some (arrV cA n (fun j => va_rf (f j))) := h1
    show H[sl_b g + k]? = some (arrV cA n (fun j => va_rf (f' j)))
    rw [h2, arrV_c (fun i hi => by rw [q3 i hi])]
section GW3
variable {p : Program} {g : sl_G} {e0 : Env} {R : Room} {s : State} {m : MethodId} {args : Array Value} {below : List Frame} {meth : Method} {c : Code} {H : Heap} {locs : List Loc} {cells slots : Nat} {Q : State → Prop}
variable {cc : ByteArray} {pc nL : Nat} {ls : Array Slot} {rest : List Value} {e : Nat → va_E} {N o0 j : Nat} {own : String} {E : va_E} {L : List va_E}
theorem cw_newa (F : gx g p s m args c own cc nL) (ho : o0 < N) (hL : L.length = j) {atype : ArrayType} {t0 : Nat} (harr : Cond.arrayClass (newarray.typeOf atype) ∈ sl_T0) (ht : (sl_tys g)[t0]? = some (sl_ca g t0, newarray.typeOf atype)) (hra : ∀ (U : State) (cA : ClassId), va_RA U cA (newarray.typeOf atype) → U.vm.findClass ("[" ++ (newarray.typeOf atype).toString) = some cA) (hdv : defaultValue (newarray.typeOf atype) = .int 0) (hcb : componentBytes (newarray.typeOf atype) ≤ 4) {x : Int32} {n : Nat} (hn : x = nI n) (hn2 : n ≤ 100000) (hdg : decode cc pc = .ok (.newarray atype, 2)) (hcells : cells + 1 ≤ R.cells) (hslots : slots + n ≤ R.slots) (hG : sl_Gw g (ce e N o0 E L) (N + j) H) (hS : va_S (sl_A g) s.heap H locs)
    (kk : ∀ H1, sl_Gw g (ce e N o0 E (L ++ [.inl (sl_ca g t0, n, .inl (fun _ => 0))])) (N + (j + 1)) H1 → va_S (sl_A g) s.heap H1 locs → W p g.1 e0 R s m args below meth c H1 locs (cells + 1) (slots + n) Q (F0 m (pc + 2) ls (.ref (sl_b g + (N + j)) :: rest))) : W p g.1 e0 R s m args below meth c H locs cells slots Q (F0 m pc ls (.int x :: rest)) :=
  gw_newa F harr ht hra hdv hcb hn hn2 hdg hcells hslots hG hS (fun H1 hG1 hS1 => kk H1 (by rw [ce_new ho hL] at hG1; exact hG1) hS1)
theorem cw_newq (F : gx g p s m args c own cc nL) (ho : o0 < N) (hL : L.length = j) {C : String} {t0 index : Nat} (hcl : Cond.classLink own index C ∈ sl_T0) (hao : va_AO C s) (ht : (sl_tys g)[t0]? = some (sl_ca g t0, .object C)) {x : Int32} {n : Nat} (hn : x = nI n) (hn2 : n ≤ 100000) (hdg : decode cc pc = .ok (.anewarray index, 3)) (hcells : cells + 1 ≤ R.cells) (hslots : slots + n ≤ R.slots) (hG : sl_Gw g (ce e N o0 E L) (N + j) H) (hS : va_S (sl_A g) s.heap H locs)
    (kk : ∀ H1, sl_Gw g (ce e N o0 E (L ++ [.inl (sl_ca g t0, n, sl_rf (fun _ => none))])) (N + (j + 1)) H1 → va_S (sl_A g) s.heap H1 locs → W p g.1 e0 R s m args below meth c H1 locs (cells + 1) (slots + n) Q (F0 m (pc + 3) ls (.ref (sl_b g + (N + j)) :: rest))) : W p g.1 e0 R s m args below meth c H locs cells slots Q (F0 m pc ls (.int x :: rest)) :=
  gw_newq F hcl hao ht hn hn2 hdg hcells hslots hG hS (fun H1 hG1 hS1 => kk H1 (by rw [ce_new ho hL] at hG1; exact hG1) hS1)
theorem cw_putF (F : gx g p s m args c own cc nL) (hinit : meth.name = "<init>") (ho : o0 < N) {C : String} {T : u_T} {NF ci index k : Nat} (hin : ∀ w ∈ u_ws C T NF, w ∈ sl_T0) (ty0 : Nat → FieldType) (hty : ∀ k, k < NF → parseFieldDescriptor (T k).2.2.1 = some (ty0 k)) (hnm : ∀ a, a < NF → ∀ b, b < NF → a ≠ b → (T a).2.1 ≠ (T b).2.1) (hc : sl_cl[ci]? = some (C, T, NF)) (hk : k < NF) (hlink : Cond.fieldLink own index (T k).1 (T k).2.1 (T k).2.2.1 ∈ sl_T0) (hfin : (T k).2.2.2 = true) (hdecl : (T k).1 = own) {ty : FieldType} {v : Value} (hd : parseFieldDescriptor (T k).2.2.1 = some ty) (hn : narrow ty v = v) (hfit : fits ty v = true) (hdg : decode cc pc = .ok (.putfield index, 3)) {fs : List Value} (hl : k < fs.length) (hG : sl_Gw g (ce e N o0 (.inr (ci, fs)) L) (N + j) H) (hS : va_S (sl_A g) s.heap H locs)
    (kk : ∀ (H1 : Heap) (locs1 : List Loc), sl_Gw g (ce e N o0 (.inr (ci, fs.set k v)) L) (N + j) H1 → va_S (sl_A g) s.heap H1 locs1 → W p g.1 e0 R s m args below meth c H1 locs1 cells slots Q (F0 m (pc + 3) ls rest)) : W p g.1 e0 R s m args below meth c H locs cells slots Q (F0 m pc ls (v :: .ref (sl_b g + o0) :: rest)) :=
  gw_putF F hinit hin ty0 hty hnm hc hk hlink hfin hdecl hd hn hfit hdg (by omega) (if_pos rfl) hl hG hS (fun H1 l1 hG1 hS1 => kk H1 l1 (by rw [ce_put] at hG1; exact hG1) hS1)
theorem cw_put (F : gx g p s m args c own cc nL) (ho : o0 < N) {C : String} {T : u_T} {NF ci index k : Nat} (hin : ∀ w ∈ u_ws C T NF, w ∈ sl_T0) (ty0 : Nat → FieldType) (hty : ∀ k, k < NF → parseFieldDescriptor (T k).2.2.1 = some (ty0 k)) (hnm : ∀ a, a < NF → ∀ b, b < NF → a ≠ b → (T a).2.1 ≠ (T b).2.1) (hc : sl_cl[ci]? = some (C, T, NF)) (hk : k < NF) (hlink : Cond.fieldLink own index (T k).1 (T k).2.1 (T k).2.2.1 ∈ sl_T0) (hfin : (T k).2.2.2 = false) {ty : FieldType} {v : Value} (hd : parseFieldDescriptor (T k).2.2.1 = some ty) (hn : narrow ty v = v) (hfit : fits ty v = true) (hdg : decode cc pc = .ok (.putfield index, 3)) {fs : List Value} (hl : k < fs.length) (hG : sl_Gw g (ce e N o0 (.inr (ci, fs)) L) (N + j) H) (hS : va_S (sl_A g) s.heap H locs)
    (kk : ∀ (H1 : Heap) (locs1 : List Loc), sl_Gw g (ce e N o0 (.inr (ci, fs.set k v)) L) (N + j) H1 → va_S (sl_A g) s.heap H1 locs1 → W p g.1 e0 R s m args below meth c H1 locs1 cells slots Q (F0 m (pc + 3) ls rest)) : W p g.1 e0 R s m args below meth c H locs cells slots Q (F0 m pc ls (v :: .ref (sl_b g + o0) :: rest)) :=
  gw_put F hin ty0 hty hnm hc hk hlink hfin hd hn hfit hdg (by omega) (if_pos rfl) hl hG hS (fun H1 l1 hG1 hS1 => kk H1 l1 (by rw [ce_put] at hG1; exact hG1) hS1)
theorem gw_mk {y : MethodName} {h N' mc ms : Nat} {As : List Value} {e' : Nat → va_E} (hy : plainName y.cls = true) (hi : y.name = "<init>") (hlen : (lg_sl As).length ≤ nL)
    (body : ∀ (p : Program) (e0 : Env) (s : State) (m : MethodId) (args : Array Value) (below : List Frame) (meth : Method) (c : Code) (ls : Array Slot), gx g p s m args c y.cls cc nL → meth.sig.returnType = none → meth.locks = false → meth.name = "<init>" → lv_has ls nL (lv_args 0 As) → sl_Gw g e N s.heap → va_S (sl_A g) s.heap s.heap [] → W p g.1 e0 (gw_rm h mc ms) s m args below meth c s.heap [] 0 0 (MQ below (va_Qv (fun _ : Unit => True) (fun _ t => sl_Gw g e' N' t.heap) (sl_A g)) args s mc ms (sl_A g)) (F0 m 0 ls [])) : gw_Met g y cc nL h As e N e' N' mc ms := by
  unfold gw_Met
  refine Met.ofW (cc := cc) (maxL := nL) (ret := none) hy rfl ?_
  intro p e0 s m args below meth c s₁ B hml hv
  obtain ⟨rfl, hGw, hK⟩ := hv
  have hts := atoms_spec (ws := Cond.code y cc nL none :: sl_T0) B.pre
  have hown : s.vm.findClass y.cls = some m.cls := findClass_of_methodNamed B.named
  have hin : meth.name = "<init>" := (name_of_methodNamed B.named B.method).1.trans hi
  have hl := lv_entry As (n := nL) hlen
  rw [lg_entry_eq]
  generalize (lg_sl As ++ List.replicate (nL - (lg_sl As).length) Slot.unset).toArray = ls at hl ⊢
  exact body p e0 s m As.toArray below meth c ls ⟨B.exec, B.bytes, hml, hown, fun w hw => hts w (List.mem_cons_of_mem _ hw), hK, by rw [hGw.2]; exact Nat.le_add_right _ _⟩ B.returns B.notSynchronized hin hl hGw va_S.rf
theorem gw_aald (F : gx g p s m args c own cc nL) {o t0 n i a : Nat} {C : String} {f : Nat → Option Nat} (ht : (sl_tys g)[t0]? = some (sl_ca g t0, .object C)) (hi : i < n) (hn : n < 100000) (hf : f i = some a) (hdg : decode cc pc = .ok (.aaload, 1)) (ho : o < N) (he : e o = .inl (sl_ca g t0, n, sl_rf f)) (hG : sl_Gw g e N H)
    (kk : W p g.1 e0 R s m args below meth c H locs cells slots Q (F0 m (pc + 1) ls (.ref a :: rest))) : W p g.1 e0 R s m args below meth c H locs cells slots Q (F0 m pc ls (.int (nI i) :: .ref (sl_b g + o) :: rest)) := by
  obtain ⟨hx, hb, hml, hown, hts, hK, -⟩ := id F
  have hget := gw_at g e ho
  rw [he] at hget
  refine va_aldq hx hb hK.1.1 hG.1 o t0 hget ht (vp_in_nI hi (by omega)) hdg ?_
  rw [nI_clamp (by omega), hf]
  exact kk
end GW3
