/-! each instruction's step -/
def sl_wkL (lv : sl_L) : Prop := ∀ (i : Nat) (v : sl_V), sl_nth lv i = some v → sl_wk v
def sl_wkS (st : List sl_V) : Prop := ∀ v ∈ st, sl_wk v
theorem sl_wkS.cons {v : sl_V} {st : List sl_V} (h : sl_wk v) (hs : sl_wkS st) : sl_wkS (v :: st) := fun w hw => by
  rcases List.mem_cons.mp hw with rfl | hw
  · exact h
  · exact hs w hw
theorem sl_wkS.tl {v : sl_V} {st : List sl_V} (hs : sl_wkS (v :: st)) : sl_wkS st := fun w hw => hs w (List.mem_cons_of_mem _ hw)
theorem sl_wkS.hd {v : sl_V} {st : List sl_V} (hs : sl_wkS (v :: st)) : sl_wk v := hs v List.mem_cons_self
theorem sl_wkL.set {lv : sl_L} {i : Nat} {v : Option sl_V} (h : sl_wkL lv) (hv : ∀ w, v = some w → sl_wk w) : sl_wkL (sl_set lv i v) := by
  intro j w hj
  by_cases e : j = i
  · subst e
    exact hv w (sl_nth_set_self hj)
  · rw [sl_nth_set e] at hj
    exact h j w hj
theorem sl_wkL.sto {lv : sl_L} {i : Nat} {v : Option sl_V} (h : sl_wkL lv) (hv : ∀ w, v = some w → sl_wk w) : sl_wkL (sl_sto lv i v) := by
  refine sl_wkL.set (lv := sl_kl lv i) (fun j w hj => ?_) hv
  rw [sl_nth_kl] at hj
  split at hj
  · exact h j w (sl_kill_some hj).1
  · exact h j w hj
theorem sl_get_wk {cst lv : sl_L} {i : Nat} {v : sl_V} (hc : sl_wkL cst) (hl : sl_wkL lv) (h : sl_get cst lv i = some v) : sl_wk v := by
  unfold sl_get at h
  cases e : sl_nth cst i with
  | none => rw [e] at h; exact hl i v h
  | some w =>
    rw [e] at h
    obtain rfl := Option.some.inj h
    exact hc i w e
theorem sl_ldi_inv {cst lv : sl_L} {i : Nat} {K : sl_V → Prop} (h : sl_ldi cst lv i K) : ∃ r, sl_get cst lv i = some (.inl r) ∧ K (.inl r) := by
  unfold sl_ldi at h
  split at h
  next r e => exact ⟨r, e, h⟩
  next => exact h.elim
theorem sl_ldj_inv {cst lv : sl_L} {i : Nat} {K : sl_V → Prop} (h : sl_ldj cst lv i K) : ∃ r, sl_get cst lv i = some (.inr (.inl r)) ∧ K (.inr (.inl r)) := by
  unfold sl_ldj at h
  split at h
  next r e => exact ⟨r, e, h⟩
  next => exact h.elim
theorem sl_ldr_inv {cst lv : sl_L} {i : Nat} {K : sl_V → Prop} (h : sl_ldr cst lv i K) : ∃ r, sl_get cst lv i = some (.inr (.inr r)) ∧ K (.inr (.inr r)) := by
  unfold sl_ldr at h
  split at h
  next r e => exact ⟨r, e, h⟩
  next => exact h.elim
theorem sl_sti_inv {cst lv : sl_L} {i : Nat} {nm : List Nat} {st : List sl_V} {K : sl_L → List sl_V → Prop} (h : sl_sti cst lv i nm st K) : ∃ v st', st = .inl v :: st' ∧ sl_wr cst i = true ∧ K (sl_sto lv i (some (.inl v))) st' := by
  unfold sl_sti at h
  split at h
  next v st' =>
    split at h
    next hw =>
      refine ⟨v, st', rfl, hw, ?_⟩
      split at h
      · exact h
      · exact h v rfl
    next => exact h.elim
  next => exact h.elim
theorem sl_str_inv {cst lv : sl_L} {i : Nat} {st : List sl_V} {K : sl_L → List sl_V → Prop} (h : sl_str cst lv i st K) : ∃ v st', st = .inr (.inr v) :: st' ∧ sl_wr cst i = true ∧ K (sl_sto lv i (some (.inr (.inr v)))) st' := by
  unfold sl_str at h
  split at h
  next v st' =>
    split at h
    next hw => exact ⟨v, st', rfl, hw, h⟩
    next => exact h.elim
  next => exact h.elim
theorem sl_stj_inv {cst lv : sl_L} {i : Nat} {st : List sl_V} {K : sl_L → List sl_V → Prop} (h : sl_stj cst lv i st K) : ∃ v st', st = .inr (.inl v) :: st' ∧ sl_wr cst i = true ∧ sl_nth cst (i + 1) = none ∧ K (sl_set (sl_sto lv i (some (.inr (.inl v)))) (i + 1) none) st' := by
  unfold sl_stj at h
  split at h
  next v st' =>
    split at h
    next hw =>
      split at h
      next hw2 => exact ⟨v, st', rfl, hw, Option.isNone_iff_eq_none.mp hw2, h⟩
      next => exact h.elim
    next => exact h.elim
  next => exact h.elim
theorem sl_bin_inv {f : Int32 → Int32 → Int32} {st : List sl_V} {K : List sl_V → Prop} (h : sl_bin f st K) : ∃ x y st', st = .inl y :: .inl x :: st' ∧ K (.inl (f x y) :: st') := by
  unfold sl_bin at h
  split at h
  next y x st' => exact ⟨x, y, st', rfl, h⟩
  next => exact h.elim
theorem sl_bij_inv {f : Int64 → Int64 → Int64} {st : List sl_V} {K : List sl_V → Prop} (h : sl_bij f st K) : ∃ x y st', st = .inr (.inl y) :: .inr (.inl x) :: st' ∧ K (.inr (.inl (f x y)) :: st') := by
  unfold sl_bij at h
  split at h
  next y x st' => exact ⟨x, y, st', rfl, h⟩
  next => exact h.elim
theorem sl_call_inv {ct : List sl_Ct} {j : Nat} {st : List sl_V} {μ : sl_M} {K : List sl_V → sl_M → Prop} (h : sl_call ct j st μ K) : ∃ q as st', ct[j]? = some q ∧ sl_pop q.1 [] st = some (as, st') ∧ sl_cat st' ≤ 8 ∧ sl_recv q.2.1 q.2.2.1 as = true ∧ q.2.2.2 as μ (fun r μ' => K (r.toList ++ st') μ') := by
  unfold sl_call at h
  split at h
  next q e =>
    split at h
    next w e2 =>
      split at h
      next h8 =>
        split at h
        next hr => exact ⟨q, w.1, w.2, e, e2, h8, hr, h⟩
        next => exact h.elim
      next => exact h.elim
    next => exact h.elim
  next => exact h.elim
theorem sl_bz_fit {v : Int32} (h : sl_bz v = v) : v = 0 ∨ v = 1 := by
  unfold sl_bz at h
  split at h
  · exact Or.inl h.symm
  · exact Or.inr h.symm
theorem sl_bz_nar {v : Int32} (h : sl_bz v = v) : narrow .boolean (.int v) = .int v ∧ fits .boolean (.int v) = true ∧ vp_nar .boolean v = v := by
  rcases sl_bz_fit h with rfl | rfl
  · exact ⟨rfl, rfl, rfl⟩
  · exact ⟨rfl, rfl, rfl⟩
theorem sl_refT : (List.range sl_N).all (fun o => (List.range (sl_nf (sl_kd o))).all (fun k => decide ((sl_fi (sl_kd o) k).1 < 2) || decide (sl_kd (o + (sl_fi (sl_kd o) k).2.2) = (sl_fi (sl_kd o) k).2.1))) = true := by decide +kernel
theorem sl_ref_kd {o c k ty rc off : Nat} (hc : sl_kd o = c) (hc20 : c < 20) (hk : k < sl_nf c) (hf : sl_fi c k = (ty, rc, off)) (ht : ¬ ty < 2) : sl_kd (o + off) = rc := by
  have ho : o < sl_N := sl_kd_lt (by rw [hc]; omega)
  have h1 := List.all_eq_true.mp (List.all_eq_true.mp sl_refT o (List.mem_range.mpr ho)) k (List.mem_range.mpr (by rw [hc]; exact hk))
  rw [hc, hf] at h1
  simp only [Bool.or_eq_true, decide_eq_true_eq] at h1
  rcases h1 with h1 | h1
  · exact absurd h1 ht
  · exact h1
theorem sl_arT : (List.range sl_N).all (fun o => (List.range (sl_len o)).all (fun i => (decide (sl_kd o ≠ 22) || decide (sl_kd (o + 2 + i) = 9)) && ((decide (sl_kd o ≠ 24) || decide (sl_kd (o + 48 + 2 * i) = 4)) && (decide (sl_kd o ≠ 25) || decide (sl_kd (o + 40 + 2 * i) = 8))))) = true := by decide +kernel
theorem sl_ar_kd {o i : Nat} (hi : i < sl_len o) (ho : o < sl_N) : (sl_kd o = 22 → sl_kd (o + 2 + i) = 9) ∧ (sl_kd o = 24 → sl_kd (o + 48 + 2 * i) = 4) ∧ (sl_kd o = 25 → sl_kd (o + 40 + 2 * i) = 8) := by
  have h1 := List.all_eq_true.mp (List.all_eq_true.mp sl_arT o (List.mem_range.mpr ho)) i (List.mem_range.mpr hi)
  simp only [Bool.and_eq_true, Bool.or_eq_true, decide_eq_true_eq] at h1
  obtain ⟨h1, h2, h3⟩ := h1
  exact ⟨fun q => h1.elim (fun z => absurd q z) id, fun q => h2.elim (fun z => absurd q z) id, fun q => h3.elim (fun z => absurd q z) id⟩
theorem sl_E_obj (g : sl_G) (μ : sl_M) {o c : Nat} (hkd : sl_kd o = c) (hc : c < 20) : sl_E g μ o = .inr (c, (List.range (sl_nf c)).map (sl_fv g μ c o)) := by
  unfold sl_E
  rw [hkd]
  split <;> first | omega | rfl
theorem sl_in_lt {i : Int32} {n : Nat} (h : vp_in i n) : i.toNatClampNeg < n := Nat.not_le.mp fun q => h (Or.inr q)
theorem sl_flds_set {g : sl_G} {μ : sl_M} {c o k : Nat} {v : Int32} (hv : sl_fv g (sl_up μ o k v) c o k = .int v) : ((List.range (sl_nf c)).map (sl_fv g μ c o)).set k (.int v) = (List.range (sl_nf c)).map (sl_fv g (sl_up μ o k v) c o) := by
  apply List.ext_getElem?
  intro j
  rw [List.getElem?_set]
  by_cases hj : k = j
  · subst hj
    rw [if_pos rfl]
    by_cases hl : k < sl_nf c
    · rw [if_pos (by simpa using hl), List.getElem?_map, List.getElem?_range hl]
      show _ = some (sl_fv g (sl_up μ o k v) c o k)
      rw [hv]
    · rw [if_neg (by simpa using hl), List.getElem?_eq_none (by simpa using Nat.le_of_not_lt hl)]
  · rw [if_neg hj, List.getElem?_map, List.getElem?_map]
    by_cases hl : j < sl_nf c
    · rw [List.getElem?_range hl]
      have e : sl_up μ o k v o j = μ o j := by
        unfold sl_up
        rw [if_neg (fun q => hj q.2.symm)]
      show some (sl_fv g μ c o j) = some (sl_fv g (sl_up μ o k v) c o j)
      unfold sl_fv
      rw [e]
    · rw [List.getElem?_eq_none (by simpa using Nat.le_of_not_lt hl)]
      rfl
theorem sl_fv_0 {g : sl_G} {μ : sl_M} {c o k : Nat} (h : (sl_fi c k).1 = 0) : sl_fv g μ c o k = .int (μ o k) := by
  unfold sl_fv
  generalize sl_fi c k = q at h ⊢
  obtain ⟨a, b, d⟩ := q
  simp only at h
  subst h
  rfl
theorem sl_fv_1 {g : sl_G} {μ : sl_M} {c o k : Nat} (h : (sl_fi c k).1 = 1) : sl_fv g μ c o k = .int (sl_bz (μ o k)) := by
  unfold sl_fv
  generalize sl_fi c k = q at h ⊢
  obtain ⟨a, b, d⟩ := q
  simp only at h
  subst h
  rfl
theorem sl_tv_ref {g : sl_G} {c o : Nat} (h : c < 90) : sl_tv g (.inr (.inr (some (c, o)))) = .ref (sl_b g + o) := by
  show Value.ref (sl_ad g c o) = _
  unfold sl_ad
  rw [if_pos h]
section STEP
variable {g : sl_G} {X : sl_X} {own : String} {cc : ByteArray} {nL hh : Nat} {rt : Option FieldType} {Q : sl_Qt} {lk : sl_Lk} {cx : List (Nat × Nat)} {ct : List sl_Ct} {cst : sl_L} {pc : Nat} {lv : sl_L} {st : List sl_V} {μ : sl_M}
theorem sl_s_getf (F : sl_Fx g X own cc nL hh) (HL : sl_LkOK own lk) (ws : sl_wkS st) {i : Nat} {d : List Nat} (hdec : decode cc pc = .ok (.getfield i, 3)) (hok : (match d with
      | [c, k, ty, rc, off] => lk.1.contains (i, c, k) && (decide (sl_fi c k = (ty, rc, off)) && (decide (c < 20) && (decide (k < sl_nf c) && decide (rc < 90))))
      | _ => false) = true) {K : List sl_V → Prop} (h : sl_getf d st μ K) (hK : ∀ st', sl_wkS st' → K st' → sl_Vw g X nL cst (pc + 3) lv st' μ) : sl_Vw g X nL cst pc lv st μ := by
  unfold sl_getf at h
  split at h
  next c k ty rc off q st' =>
    obtain ⟨c0, o⟩ := q
    split at h
    next hc0 =>
      simp only at hc0
      subst hc0
      simp only [Bool.and_eq_true, decide_eq_true_eq] at hok
      obtain ⟨hm, hfi, hc20, hknf, hrc⟩ := hok
      obtain ⟨C, T, N, t0, q1, q2, q3, q4, q5, q6, q7⟩ := HL.1 _ (List.contains_iff_mem.mp hm)
      simp only at q1 q2 q3 q4 q5 q6 q7
      have hkd : sl_kd o = c0 := ws.hd (show c0 < 90 by omega)
      have ho : o < sl_N := sl_kd_lt (by rw [hkd]; omega)
      have hget := sl_wl_get g μ ho
      rw [sl_E_obj g μ hkd hc20] at hget
      obtain ⟨p, e, R, s, m, args, below, meth, c, cells, slots, Qp⟩ := X
      intro H locs ls hW hS hl
      obtain ⟨hx, hb, hml, hown, hts, hK0, hrm⟩ := id F
      have key : ∀ (v : sl_V), sl_wk v → sl_fv g μ c0 o k = sl_tv g v → K (v :: st') → W p g.1 e R s m args below meth c H locs cells slots Qp (F0 m pc ls ((Sum.inr (Sum.inr (some (c0, o))) :: st').map (sl_tv g))) := by
        intro v hv he hk
        rw [List.map_cons, sl_tv_ref (show c0 < 90 by omega)]
        exact va_get (C := C) (T := T) (N := N) (v := sl_tv g v) hx hb hts q5 hown hK0.1 hW o hget q1 k q2 (hts _ q4) (fun x hx => by rw [q3] at hx; exact hx) (by rw [List.getElem?_map, List.getElem?_range hknf]; show some (sl_fv g μ c0 o k) = _; rw [he]) hdec (hK _ (ws.tl.cons hv) hk H locs ls hW hS hl)
      split at h
      next => exact key (.inl _) trivial (by unfold sl_fv; rw [hfi]; rfl) h
      next => exact key (.inl _) trivial (by unfold sl_fv; rw [hfi]; rfl) h
      next h0 h1 =>
        have hty : ¬ ty < 2 := by
          intro hlt
          have : ty = 0 ∨ ty = 1 := by omega
          rcases this with e | e
          · exact h0 e
          · exact h1 e
        refine key (.inr (.inr (some (rc, o + off)))) (fun _ => sl_ref_kd hkd hc20 hknf hfi hty) ?_ h
        rw [sl_tv_ref hrc]
        unfold sl_fv
        rw [hfi]
        split
        next e => exact absurd (congrArg Prod.fst e) h0
        next e => exact absurd (congrArg Prod.fst e) h1
        next => 
          rename_i e
          cases e
          rfl
    next => exact h.elim
  next => exact h.elim
theorem sl_s_putf (F : sl_Fx g X own cc nL hh) (HL : sl_LkOK own lk) (ws : sl_wkS st) {i : Nat} {d : List Nat} (hdec : decode cc pc = .ok (.putfield i, 3)) (hok : (match d with
      | [c, k, ty] => lk.1.contains (i, c, k) && (decide ((sl_fi c k).1 = ty) && (sl_pfOK c k ty && (decide (c < 20) && decide (k < sl_nf c))))
      | _ => false) = true) {K : List sl_V → sl_M → Prop} (h : sl_putf d st μ K) (hK : ∀ st' μ', sl_wkS st' → K st' μ' → sl_Vw g X nL cst (pc + 3) lv st' μ') : sl_Vw g X nL cst pc lv st μ := by
  unfold sl_putf at h
  split at h
  next c k ty v q st' =>
    obtain ⟨c0, o⟩ := q
    split at h
    next hc0 =>
      simp only at hc0
      subst hc0
      simp only [Bool.and_eq_true, decide_eq_true_eq] at hok
      obtain ⟨hm, hfi, hpf, hc20, hknf⟩ := hok
      obtain ⟨C, T, N, t0, q1, q2, q3, q4, q5, q6, q7⟩ := HL.1 _ (List.contains_iff_mem.mp hm)
      simp only at q1 q2 q3 q4 q5 q6 q7
      have hkd : sl_kd o = c0 := ws.tl.hd (show c0 < 90 by omega)
      have ho : o < sl_N := sl_kd_lt (by rw [hkd]; omega)
      have hget := sl_wl_get g μ ho
      rw [sl_E_obj g μ hkd hc20] at hget
      obtain ⟨p, e, R, s, m, args, below, meth, c, cells, slots, Qp⟩ := X
      intro H locs ls hW hS hl
      obtain ⟨hx, hb, hml, hown, hts, hK0, hrm⟩ := id F
      unfold sl_pfOK at hpf
      rw [q1] at hpf
      simp only [Bool.and_eq_true, beq_iff_eq] at hpf
      obtain ⟨hfin, hty⟩ := hpf
      have key : ∀ (ft : FieldType), parseFieldDescriptor (T k).2.2.1 = some ft → narrow ft (.int v) = .int v → fits ft (.int v) = true → sl_fv g (sl_up μ o k v) c0 o k = .int v → K st' (sl_up μ o k v) → W p g.1 e R s m args below meth c H locs cells slots Qp (F0 m pc ls ((Sum.inl v :: Sum.inr (Sum.inr (some (c0, o))) :: st').map (sl_tv g))) := by
        intro ft h1 h2 h3 h4 hk
        rw [List.map_cons, List.map_cons, sl_tv_ref (show c0 < 90 by omega)]
        refine va_put (C := C) (T := T) (N := N) (v := .int v) hx hb hts q5 t0 q6 q7 hown hK0.1 hW (sl_wl_D g μ) hS o hget q1 k q2 (hts _ q4) (fun x hx => by rw [q3] at hx; exact hx) hfin h1 h2 h3 (by simpa using hknf) hdec (fun H1 locs1 hP1 hD1 hS1 => ?_)
        refine hK _ _ ws.tl.tl hk H1 locs1 ls ?_ hS1 hl
        unfold sl_Wd
        rw [← sl_wl_set (g := g) (μ := μ) (μ' := sl_up μ o k v) ho (e := .inr (c0, ((List.range (sl_nf c0)).map (sl_fv g μ c0 o)).set k (.int v))) (by rw [sl_E_obj g _ hkd hc20, sl_flds_set h4]) (fun o' h => sl_up_row h)]
        exact hP1
      have hup : sl_up μ o k v o k = v := by
        unfold sl_up
        rw [if_pos ⟨rfl, rfl⟩]
      split at h
      next =>
        rw [show (0 : Nat) = 0 from rfl] at hty
        have hd : (T k).2.2.1 = "I" := by simpa using hty
        refine key .int (by rw [hd]; decide +kernel) rfl rfl ?_ (h _ rfl)
        rw [sl_fv_0 hfi, hup]
      next h0 =>
        have hd : ty = 1 ∧ (T k).2.2.1 = "Z" := by
          split at hty
          next => exact absurd rfl h0
          next => exact ⟨rfl, by simpa using hty⟩
          next => cases hty
        obtain ⟨rfl, hd⟩ := hd
        obtain ⟨hbz, h⟩ := h
        obtain ⟨n1, n2, n3⟩ := sl_bz_nar hbz
        refine key .boolean (by rw [hd]; decide +kernel) n1 n2 ?_ (h _ rfl)
        rw [sl_fv_1 hfi, hup, hbz]
    next => exact h.elim
  next => exact h.elim
theorem sl_s_ald (F : sl_Fx g X own cc nL hh) (ws : sl_wkS st) (hdec : decode cc pc = .ok (.iaload, 1)) {K : List sl_V → Prop} (h : sl_ald st μ K) (hK : ∀ st', sl_wkS st' → K st' → sl_Vw g X nL cst (pc + 1) lv st' μ) : sl_Vw g X nL cst pc lv st μ := by
  unfold sl_ald at h
  split at h
  next i q st' =>
    obtain ⟨c0, o⟩ := q
    split at h
    next hc0 =>
      simp only at hc0
      subst hc0
      obtain ⟨hin, h⟩ := h
      have hkd : sl_kd o = 20 := ws.tl.hd (show 20 < 90 by omega)
      have ho : o < sl_N := sl_kd_lt (by rw [hkd]; omega)
      have hget := sl_wl_get g μ ho
      rw [show sl_E g μ o = .inl (sl_ca g 0, sl_len o, .inl (μ o)) by unfold sl_E; rw [hkd]; rfl] at hget
      obtain ⟨p, e, R, s, m, args, below, meth, c, cells, slots, Qp⟩ := X
      intro H locs ls hW hS hl
      obtain ⟨hx, hb, hml, hown, hts, hK0, hrm⟩ := id F
      rw [List.map_cons, List.map_cons, sl_tv_ref (show 20 < 90 by omega)]
      exact va_iald hx hb hK0.1 hW o 0 hget rfl hin hdec (hK (.inl (μ o i.toNatClampNeg) :: st') (sl_wkS.cons trivial ws.tl.tl) h H locs ls hW hS hl)
    next => exact h.elim
  next => exact h.elim
theorem sl_s_ast (F : sl_Fx g X own cc nL hh) (ws : sl_wkS st) (hdec : decode cc pc = .ok (.iastore, 1)) {K : List sl_V → sl_M → Prop} (h : sl_ast st μ K) (hK : ∀ st' μ', sl_wkS st' → K st' μ' → sl_Vw g X nL cst (pc + 1) lv st' μ') : sl_Vw g X nL cst pc lv st μ := by
  unfold sl_ast at h
  split at h
  next v i q st' =>
    obtain ⟨c0, o⟩ := q
    split at h
    next hc0 =>
      simp only at hc0
      subst hc0
      obtain ⟨hin, h⟩ := h
      have hkd : sl_kd o = 20 := ws.tl.tl.hd (show 20 < 90 by omega)
      have ho : o < sl_N := sl_kd_lt (by rw [hkd]; omega)
      have hget := sl_wl_get g μ ho
      rw [show sl_E g μ o = .inl (sl_ca g 0, sl_len o, .inl (μ o)) by unfold sl_E; rw [hkd]; rfl] at hget
      obtain ⟨p, e, R, s, m, args, below, meth, c, cells, slots, Qp⟩ := X
      intro H locs ls hW hS hl
      obtain ⟨hx, hb, hml, hown, hts, hK0, hrm⟩ := id F
      rw [List.map_cons, List.map_cons, List.map_cons, sl_tv_ref (show 20 < 90 by omega)]
      refine va_iast hx hb hK0.1 hW (sl_wl_D g μ) hS o 0 hget rfl hin hdec (fun H1 locs1 hP1 hD1 hS1 => ?_)
      refine hK _ _ ws.tl.tl.tl (h _ rfl) H1 locs1 ls ?_ hS1 hl
      unfold sl_Wd
      rw [← sl_wl_set (g := g) (μ := μ) (μ' := sl_up μ o i.toNatClampNeg v) ho (e := .inl (sl_ca g 0, sl_len o, .inl (upd (μ o) i.toNatClampNeg v))) (by unfold sl_E; rw [hkd]; simp only [sl_up_at]) (fun o' h => sl_up_row h)]
      exact hP1
    next => exact h.elim
  next => exact h.elim
theorem sl_s_zld (F : sl_Fx g X own cc nL hh) (ws : sl_wkS st) (hdec : decode cc pc = .ok (.baload, 1)) {K : List sl_V → Prop} (h : sl_zld st μ K) (hK : ∀ st', sl_wkS st' → K st' → sl_Vw g X nL cst (pc + 1) lv st' μ) : sl_Vw g X nL cst pc lv st μ := by
  unfold sl_zld at h
  split at h
  next i q st' =>
    obtain ⟨c0, o⟩ := q
    split at h
    next hc0 =>
      simp only at hc0
      subst hc0
      obtain ⟨hin, h⟩ := h
      have hkd : sl_kd o = 21 := ws.tl.hd (show 21 < 90 by omega)
      have ho : o < sl_N := sl_kd_lt (by rw [hkd]; omega)
      have hget := sl_wl_get g μ ho
      rw [show sl_E g μ o = .inl (sl_ca g 1, sl_len o, .inl (fun i => sl_bz (μ o i))) by unfold sl_E; rw [hkd]; rfl] at hget
      obtain ⟨p, e, R, s, m, args, below, meth, c, cells, slots, Qp⟩ := X
      intro H locs ls hW hS hl
      obtain ⟨hx, hb, hml, hown, hts, hK0, hrm⟩ := id F
      rw [List.map_cons, List.map_cons, sl_tv_ref (show 21 < 90 by omega)]
      exact va_zald hx hb hK0.1 hW o 1 hget rfl hin hdec (hK (.inl (sl_bz (μ o i.toNatClampNeg)) :: st') (sl_wkS.cons trivial ws.tl.tl) h H locs ls hW hS hl)
    next => exact h.elim
  next => exact h.elim
theorem sl_s_zst (F : sl_Fx g X own cc nL hh) (ws : sl_wkS st) (hdec : decode cc pc = .ok (.bastore, 1)) {K : List sl_V → sl_M → Prop} (h : sl_zst st μ K) (hK : ∀ st' μ', sl_wkS st' → K st' μ' → sl_Vw g X nL cst (pc + 1) lv st' μ') : sl_Vw g X nL cst pc lv st μ := by
  unfold sl_zst at h
  split at h
  next v i q st' =>
    obtain ⟨c0, o⟩ := q
    split at h
    next hc0 =>
      simp only at hc0
      subst hc0
      obtain ⟨hin, hbz, h⟩ := h
      have hkd : sl_kd o = 21 := ws.tl.tl.hd (show 21 < 90 by omega)
      have ho : o < sl_N := sl_kd_lt (by rw [hkd]; omega)
      have hget := sl_wl_get g μ ho
      rw [show sl_E g μ o = .inl (sl_ca g 1, sl_len o, .inl (fun i => sl_bz (μ o i))) by unfold sl_E; rw [hkd]; rfl] at hget
      obtain ⟨p, e, R, s, m, args, below, meth, c, cells, slots, Qp⟩ := X
      intro H locs ls hW hS hl
      obtain ⟨hx, hb, hml, hown, hts, hK0, hrm⟩ := id F
      rw [List.map_cons, List.map_cons, List.map_cons, sl_tv_ref (show 21 < 90 by omega)]
      refine va_zast hx hb hK0.1 hW (sl_wl_D g μ) hS o 1 hget rfl hin hdec (fun H1 locs1 hP1 hD1 hS1 => ?_)
      refine hK _ _ ws.tl.tl.tl (h _ rfl) H1 locs1 ls ?_ hS1 hl
      unfold sl_Wd
      have hf : (fun j => sl_bz (sl_up μ o i.toNatClampNeg v o j)) = upd (fun j => sl_bz (μ o j)) i.toNatClampNeg (vp_nar .boolean v) := by
        funext j
        rw [sl_up_at]
        unfold upd
        split
        · rw [(sl_bz_nar hbz).2.2, hbz]
        · rfl
      rw [← sl_wl_set (g := g) (μ := μ) (μ' := sl_up μ o i.toNatClampNeg v) ho (e := .inl (sl_ca g 1, sl_len o, .inl (upd (fun j => sl_bz (μ o j)) i.toNatClampNeg (vp_nar .boolean v)))) (by unfold sl_E; rw [hkd]; simp only [hf]) (fun o' h => sl_up_row h)]
      exact hP1
    next => exact h.elim
  next => exact h.elim
theorem sl_s_rld (F : sl_Fx g X own cc nL hh) (ws : sl_wkS st) (hdec : decode cc pc = .ok (.aaload, 1)) {K : List sl_V → Prop} (h : sl_rld st μ K) (hK : ∀ st', sl_wkS st' → K st' → sl_Vw g X nL cst (pc + 1) lv st' μ) : sl_Vw g X nL cst pc lv st μ := by
  unfold sl_rld at h
  split at h
  next i q st' =>
    obtain ⟨c0, o⟩ := q
    have key : ∀ (t0 c1 t : Nat) (C : String) (f : Nat → Option Nat), c0 < 90 → c0 ≠ 99 → c1 < 90 → vp_in i (sl_len o) → (sl_kd o = c0 → sl_E g μ o = .inl (sl_ca g t0, sl_len o, sl_rf f)) → (sl_tys g)[t0]? = some (sl_ca g t0, .object C) → f i.toNatClampNeg = some (sl_b g + t) → (sl_kd o = c0 → o < sl_N → sl_kd t = c1) → K (.inr (.inr (some (c1, t))) :: st') → sl_Vw g X nL cst pc lv (.inl i :: .inr (.inr (some (c0, o))) :: st') μ := by
      intro t0 c1 t C f hc0 hc9 hc1 hin hE hty hf hkt hk
      have hkd : sl_kd o = c0 := ws.tl.hd hc0
      have ho : o < sl_N := sl_kd_lt (by rw [hkd]; exact hc9)
      have hget := sl_wl_get g μ ho
      rw [hE hkd] at hget
      obtain ⟨p, e, R, s, m, args, below, meth, c, cells, slots, Qp⟩ := X
      intro H locs ls hW hS hl
      obtain ⟨hx, hb, hml, hown, hts, hK0, hrm⟩ := id F
      rw [List.map_cons, List.map_cons, sl_tv_ref hc0]
      refine va_aldq (C := C) hx hb hK0.1 hW o t0 hget hty hin hdec ?_
      rw [hf]
      have := hK (.inr (.inr (some (c1, t))) :: st') (sl_wkS.cons (fun _ => hkt hkd ho) ws.tl.tl) hk H locs ls hW hS hl
      rw [List.map_cons, sl_tv_ref hc1] at this
      exact this
    simp only at h
    split at h
    next => exact key 2 9 (o + 2 + i.toNatClampNeg) sl_R9 (fun i => some (sl_b g + (o + 2 + i))) (by omega) (by omega) (by omega) h.1 (fun hkd => by unfold sl_E; rw [hkd]; rfl) rfl rfl (fun hkd ho => (sl_ar_kd (sl_in_lt h.1) ho).1 hkd) h.2
    next => exact key 2 9 _ sl_R9 (fun i => some (sl_b g + (μ o i).toNatClampNeg)) (by omega) (by omega) (by omega) h.1 (fun hkd => by unfold sl_E; rw [hkd]; rfl) rfl rfl (fun _ _ => h.2.1) h.2.2
    next => exact key 3 4 (o + 48 + 2 * i.toNatClampNeg) sl_R4 (fun i => some (sl_b g + (o + 48 + 2 * i))) (by omega) (by omega) (by omega) h.1 (fun hkd => by unfold sl_E; rw [hkd]; rfl) rfl rfl (fun hkd ho => (sl_ar_kd (sl_in_lt h.1) ho).2.1 hkd) h.2
    next => exact key 4 8 (o + 40 + 2 * i.toNatClampNeg) sl_R8 (fun i => some (sl_b g + (o + 40 + 2 * i))) (by omega) (by omega) (by omega) h.1 (fun hkd => by unfold sl_E; rw [hkd]; rfl) rfl rfl (fun hkd ho => (sl_ar_kd (sl_in_lt h.1) ho).2.2 hkd) h.2
    next => exact h.elim
  next => exact h.elim
theorem sl_s_rst (F : sl_Fx g X own cc nL hh) (ws : sl_wkS st) (hdec : decode cc pc = .ok (.aastore, 1)) {K : List sl_V → sl_M → Prop} (h : sl_rst st μ K) (hK : ∀ st' μ', sl_wkS st' → K st' μ' → sl_Vw g X nL cst (pc + 1) lv st' μ') : sl_Vw g X nL cst pc lv st μ := by
  unfold sl_rst at h
  split at h
  next w i q st' =>
    obtain ⟨c0, o⟩ := q
    obtain ⟨c1, t⟩ := w
    split at h
    next hc0 =>
      split at h
      next hc1 =>
        simp only at hc0 hc1
        subst hc0
        subst hc1
        obtain ⟨hin, h⟩ := h
        have hkd : sl_kd o = 23 := ws.tl.tl.hd (show 23 < 90 by omega)
        have ho : o < sl_N := sl_kd_lt (by rw [hkd]; omega)
        have hkt : sl_kd t = 9 := ws.hd (show 9 < 90 by omega)
        have ht : t < sl_N := sl_kd_lt (by rw [hkt]; omega)
        have hget := sl_wl_get g μ ho
        rw [show sl_E g μ o = .inl (sl_ca g 2, sl_len o, sl_rf (fun i => some (sl_b g + (μ o i).toNatClampNeg))) by unfold sl_E; rw [hkd]; rfl] at hget
        have hgt := sl_wl_get g μ ht
        rw [sl_E_obj g μ hkt (by omega)] at hgt
        obtain ⟨p, e, R, s, m, args, below, meth, c, cells, slots, Qp⟩ := X
        intro H locs ls hW hS hl
        obtain ⟨hx, hb, hml, hown, hts, hK0, hrm⟩ := id F
        rw [List.map_cons, List.map_cons, List.map_cons, sl_tv_ref (show 23 < 90 by omega), sl_tv_ref (show 9 < 90 by omega)]
        refine va_astq (r := (sl_R9, sl_F9, 6)) hx hb hK0.1 hW (sl_wl_D g μ) hS o 2 t 9 hget rfl hgt rfl hin hdec (fun H1 locs1 hP1 hD1 hS1 => ?_)
        refine hK _ _ ws.tl.tl.tl (h _ rfl) H1 locs1 ls ?_ hS1 hl
        unfold sl_Wd
        have hnt : (nI t).toNatClampNeg = t := nI_clamp (Nat.lt_trans ht (by decide))
        have hf : (fun j => some (sl_b g + (sl_up μ o i.toNatClampNeg (nI t) o j).toNatClampNeg)) = va_up (fun j => some (sl_b g + (μ o j).toNatClampNeg)) i.toNatClampNeg (some (sl_b g + t)) := by
          funext j
          rw [sl_up_at]
          unfold upd va_up
          split
          · rw [hnt]
          · rfl
        rw [← sl_wl_set (g := g) (μ := μ) (μ' := sl_up μ o i.toNatClampNeg (nI t)) ho (e := .inl (sl_ca g 2, sl_len o, sl_rf (va_up (fun j => some (sl_b g + (μ o j).toNatClampNeg)) i.toNatClampNeg (some (sl_b g + t))))) (by unfold sl_E; rw [hkd]; simp only [hf]) (fun o' h => sl_up_row h)]
        exact hP1
      next => exact h.elim
    next => exact h.elim
  next => exact h.elim
end STEP
