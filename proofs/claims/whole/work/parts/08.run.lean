/-! a step of any instruction, runs, cuts, methods -/
theorem sl_wkS.ci {x : Int32} {st : List sl_V} (hs : sl_wkS st) : sl_wkS (.inl x :: st) := sl_wkS.cons (v := .inl x) trivial hs
theorem sl_wkS.cj {x : Int64} {st : List sl_V} (hs : sl_wkS st) : sl_wkS (.inr (.inl x) :: st) := sl_wkS.cons (v := .inr (.inl x)) trivial hs
section RUN
variable {g : sl_G} {X : sl_X} {own : String} {cc : ByteArray} {nL hh : Nat} {rt : Option FieldType} {Q : sl_Qt} {lk : sl_Lk} {cx : List (Nat × Nat)} {ct : List sl_Ct} {cst : sl_L} {pc : Nat} {lv : sl_L} {st : List sl_V} {μ : sl_M}
theorem sl_s_call (F : sl_Fx g X own cc nL hh) (HC : sl_HC g own hh ct cx) (ws : sl_wkS st) {kind idx j : Nat} (hdec : decode cc pc = .ok (sl_ins kind idx, 3)) (hj : cx[j]? = some (idx, kind)) {K : List sl_V → sl_M → Prop} (h : sl_call ct j st μ K) (hK : ∀ st' μ', sl_wkS st' → K st' μ' → sl_Vw g X nL cst (pc + 3) lv st' μ') : sl_Vw g X nL cst pc lv st μ := by
  obtain ⟨q, as, st', h1, h2, h3, h4, h5⟩ := sl_call_inv h
  obtain ⟨idx', e1, e2⟩ := HC j q h1
  have e3 : (idx', q.2.1) = (idx, kind) := Option.some.inj (e1.symm.trans hj)
  cases e3
  obtain ⟨p1, p2, p3, p4⟩ := sl_pop_spec _ _ _ _ _ h2
  simp only [List.reverse_nil, List.nil_append] at p1
  obtain ⟨p, e, R, s, m, args, below, meth, c, cells, slots, Qp⟩ := X
  intro H locs ls hW hS hl
  subst p1
  rw [List.map_append, List.map_reverse]
  refine e2 p e R s m args below meth c cells slots Qp cc nL F pc hdec μ H locs ls as (st'.map (sl_tv g)) _ (by rw [p2]; simp) (fun v hv => ws v ((p3 v hv).elim (fun z => absurd z List.not_mem_nil) id)) h4 hW hS hl.1 (by rw [sl_cat_map]; exact h3) h5 ?_
  intro r μ' H1 locs1 hq hw hW1 hS1
  have := hK (r.toList ++ st') μ' (fun v hv => by
    rcases List.mem_append.mp hv with z | z
    · exact hw v (by cases r with | none => cases z | some w => simp at z; rw [z])
    · exact ws v (List.mem_append_right _ z)) hq H1 locs1 ls hW1 hS1 hl
  rw [List.map_append] at this
  have e4 : (Option.map (sl_tv g) r).toList = List.map (sl_tv g) r.toList := by cases r <;> rfl
  rw [e4]
  exact this
theorem sl_s_ifc (F : sl_Fx g X own cc nL hh) {c : ClassFile.Cond} {off : Int} {t : Nat} (hdec : decode cc pc = .ok (.ifCond c off, 3)) (ht : (pc : Int) + off = (t : Int)) {v : Int32} {A B : Prop} (hA : A → sl_Vw g X nL cst t lv st μ) (hB : B → sl_Vw g X nL cst (pc + 3) lv st μ) (h : sl_ifc c v 0 A B) : sl_Vw g X nL cst pc lv (.inl v :: st) μ := by
  obtain ⟨p, e, R, s, m, args, below, meth, c0, cells, slots, Qp⟩ := X
  intro H locs ls hW hS hl
  obtain ⟨hx, hb, hml, hown, hts, hK0, hrm⟩ := id F
  cases c with
  | eq => exact lv_if_eq hx hb hdec ht (fun z => hA (h.1 z) H locs ls hW hS hl) (fun z => hB (h.2 z) H locs ls hW hS hl)
  | ne => exact lv_if_ne hx hb hdec ht (fun z => hA (h.2 z) H locs ls hW hS hl) (fun z => hB (h.1 z) H locs ls hW hS hl)
  | lt => exact lv_if_lt hx hb hdec ht (fun z => hA (h.1 z) H locs ls hW hS hl) (fun z => hB (h.2 z) H locs ls hW hS hl)
  | ge => exact lv_if_ge hx hb hdec ht (fun z => hA (h.2 (Int32.not_lt.mpr z)) H locs ls hW hS hl) (fun z => hB (h.1 (Int32.not_le.mp z)) H locs ls hW hS hl)
  | gt => exact lv_if_gt hx hb hdec ht (fun z => hA (h.2 (Int32.not_le.mpr z)) H locs ls hW hS hl) (fun z => hB (h.1 (Int32.not_lt.mp z)) H locs ls hW hS hl)
  | le => exact lv_if_le hx hb hdec ht (fun z => hA (h.1 z) H locs ls hW hS hl) (fun z => hB (h.2 z) H locs ls hW hS hl)
theorem sl_s_icm (F : sl_Fx g X own cc nL hh) {c : ClassFile.Cond} {off : Int} {t : Nat} (hdec : decode cc pc = .ok (.if_icmp c off, 3)) (ht : (pc : Int) + off = (t : Int)) {v w : Int32} {A B : Prop} (hA : A → sl_Vw g X nL cst t lv st μ) (hB : B → sl_Vw g X nL cst (pc + 3) lv st μ) (h : sl_ifc c v w A B) : sl_Vw g X nL cst pc lv (.inl w :: .inl v :: st) μ := by
  obtain ⟨p, e, R, s, m, args, below, meth, c0, cells, slots, Qp⟩ := X
  intro H locs ls hW hS hl
  obtain ⟨hx, hb, hml, hown, hts, hK0, hrm⟩ := id F
  cases c with
  | eq => exact lv_icmp_eq hx hb hdec ht (fun z => hA (h.1 z) H locs ls hW hS hl) (fun z => hB (h.2 z) H locs ls hW hS hl)
  | ne => exact lv_icmp_ne hx hb hdec ht (fun z => hA (h.2 z) H locs ls hW hS hl) (fun z => hB (h.1 z) H locs ls hW hS hl)
  | lt => exact lv_icmp_lt hx hb hdec ht (fun z => hA (h.1 z) H locs ls hW hS hl) (fun z => hB (h.2 z) H locs ls hW hS hl)
  | ge => exact lv_icmp_ge hx hb hdec ht (fun z => hA (h.2 (Int32.not_lt.mpr z)) H locs ls hW hS hl) (fun z => hB (h.1 (Int32.not_le.mp z)) H locs ls hW hS hl)
  | gt => exact lv_icmp_gt hx hb hdec ht (fun z => hA (h.2 (Int32.not_le.mpr z)) H locs ls hW hS hl) (fun z => hB (h.1 (Int32.not_lt.mp z)) H locs ls hW hS hl)
  | le => exact lv_icmp_le hx hb hdec ht (fun z => hA (h.1 z) H locs ls hW hS hl) (fun z => hB (h.2 z) H locs ls hW hS hl)
set_option maxHeartbeats 4000000 in
theorem sl_step_ok (F : sl_Fx g X own cc nL hh) (Rt : sl_Rt g X rt Q) (HL : sl_LkOK own lk) (HC : sl_HC g own hh ct cx) (wc : sl_wkL cst) {ins : Instr} {len : Nat} {x : Int32} {d : List Nat} {sw : List (Int32 × Nat)} {fl : Bool}
    (hdec : decode cc pc = .ok (ins, len)) (hok : sl_okE own nL rt lk cx (pc, ins, len, x, d, sw, fl) = true) {K : sl_It} {J : Nat → sl_It}
    (hK : ∀ lv st μ, sl_wkL lv → sl_wkS st → K lv st μ → sl_Vw g X nL cst (pc + len) lv st μ) (hJ : ∀ t lv st μ, sl_wkL lv → sl_wkS st → J t lv st μ → sl_Vw g X nL cst t lv st μ)
    (wl : sl_wkL lv) (ws : sl_wkS st) (h : sl_step Q ct cst ins x d sw K J lv st μ) : sl_Vw g X nL cst pc lv st μ := by
  cases ins with
  | iconst n =>
    simp only [sl_okE, Bool.and_eq_true, decide_eq_true_eq] at hok
    obtain ⟨e1, rfl⟩ := hok
    have hk := hK lv (.inl x :: st) μ wl (ws.cons trivial) h
    obtain ⟨p, e, R, s, m, args, below, meth, c, cells, slots, Qp⟩ := X
    intro H locs ls hW hS hl
    obtain ⟨hx, hb, hml, hown, hts, hK0, hrm⟩ := id F
    exact lv_iconst hx hb hdec e1 (hk H locs ls hW hS hl)
  | bipush n =>
    simp only [sl_okE, Bool.and_eq_true, decide_eq_true_eq] at hok
    obtain ⟨e1, rfl⟩ := hok
    have hk := hK lv (.inl x :: st) μ wl (ws.cons trivial) h
    obtain ⟨p, e, R, s, m, args, below, meth, c, cells, slots, Qp⟩ := X
    intro H locs ls hW hS hl
    obtain ⟨hx, hb, hml, hown, hts, hK0, hrm⟩ := id F
    exact lv_bipush hx hb hdec e1 (hk H locs ls hW hS hl)
  | sipush n =>
    simp only [sl_okE, Bool.and_eq_true, decide_eq_true_eq] at hok
    obtain ⟨e1, rfl⟩ := hok
    have hk := hK lv (.inl x :: st) μ wl (ws.cons trivial) h
    obtain ⟨p, e, R, s, m, args, below, meth, c, cells, slots, Qp⟩ := X
    intro H locs ls hW hS hl
    obtain ⟨hx, hb, hml, hown, hts, hK0, hrm⟩ := id F
    exact lv_sipush hx hb hdec e1 (hk H locs ls hW hS hl)
  | ldc i =>
    simp only [sl_okE, Bool.and_eq_true, decide_eq_true_eq] at hok
    obtain ⟨rfl, hok⟩ := hok
    cases d with
    | nil =>
      have hk := hK lv (.inl x :: st) μ wl (ws.cons trivial) h
      obtain ⟨p, e, R, s, m, args, below, meth, c, cells, slots, Qp⟩ := X
      intro H locs ls hW hS hl
      obtain ⟨hx, hb, hml, hown, hts, hK0, hrm⟩ := id F
      exact lv_ldc hx hb hown (hts _ (HL.2.1 _ (List.contains_iff_mem.mp hok))) hdec (hk H locs ls hW hS hl)
    | cons o dd =>
      simp only [Bool.and_eq_true, decide_eq_true_eq] at hok
      obtain ⟨ho, rfl, rfl⟩ := hok
      have hk := hK lv (.inr (.inr (some (90, o))) :: st) μ wl (ws.cons (fun q => absurd q (Nat.lt_irrefl 90))) h
      obtain ⟨p, e, R, s, m, args, below, meth, c, cells, slots, Qp⟩ := X
      intro H locs ls hW hS hl
      obtain ⟨hx, hb, hml, hown, hts, hK0, hrm⟩ := id F
      exact va_ldcS hx hb hown (hK0.2.2.1 o ho) hdec (hk H locs ls hW hS hl)
  | ldc_w i =>
    simp only [sl_okE, Bool.and_eq_true, decide_eq_true_eq] at hok
    obtain ⟨rfl, hok⟩ := hok
    have hk := hK lv (.inl x :: st) μ wl (ws.cons trivial) h
    obtain ⟨p, e, R, s, m, args, below, meth, c, cells, slots, Qp⟩ := X
    intro H locs ls hW hS hl
    obtain ⟨hx, hb, hml, hown, hts, hK0, hrm⟩ := id F
    exact lv_ldcw hx hb hown (hts _ (HL.2.1 _ (List.contains_iff_mem.mp hok))) hdec (hk H locs ls hW hS hl)
  | lconst n =>
    simp only [sl_okE, Bool.and_eq_true, decide_eq_true_eq] at hok
    obtain ⟨e1, rfl⟩ := hok
    have hk := hK lv (.inr (.inl x.toInt64) :: st) μ wl (ws.cons trivial) h
    obtain ⟨p, e, R, s, m, args, below, meth, c, cells, slots, Qp⟩ := X
    intro H locs ls hW hS hl
    obtain ⟨hx, hb, hml, hown, hts, hK0, hrm⟩ := id F
    exact lv_lconst hx hb hdec e1 (hk H locs ls hW hS hl)
  | ldc2_w i =>
    simp only [sl_okE, Bool.and_eq_true, decide_eq_true_eq] at hok
    obtain ⟨rfl, hok⟩ := hok
    have hk := hK lv (.inr (.inl x.toInt64) :: st) μ wl (ws.cons trivial) h
    obtain ⟨p, e, R, s, m, args, below, meth, c, cells, slots, Qp⟩ := X
    intro H locs ls hW hS hl
    obtain ⟨hx, hb, hml, hown, hts, hK0, hrm⟩ := id F
    exact lv_ldc2 hx hb hown (hts _ (HL.2.2 _ (List.contains_iff_mem.mp hok))) hdec (hk H locs ls hW hS hl)
  | aconst_null =>
    simp only [sl_okE, decide_eq_true_eq] at hok
    subst hok
    have hk := hK lv (.inr (.inr none) :: st) μ wl (ws.cons trivial) h
    obtain ⟨p, e, R, s, m, args, below, meth, c, cells, slots, Qp⟩ := X
    intro H locs ls hW hS hl
    obtain ⟨hx, hb, hml, hown, hts, hK0, hrm⟩ := id F
    exact lv_null hx hb hdec (hk H locs ls hW hS hl)
  | iload i =>
    simp only [sl_okE, decide_eq_true_eq] at hok
    subst hok
    simp only [sl_step] at h
    obtain ⟨r, e1, h⟩ := sl_ldi_inv h
    have hk := hK lv _ μ wl (ws.cons (sl_get_wk wc wl e1)) h
    obtain ⟨p, e, R, s, m, args, below, meth, c, cells, slots, Qp⟩ := X
    intro H locs ls hW hS hl
    obtain ⟨hx, hb, hml, hown, hts, hK0, hrm⟩ := id F
    exact lv_iload hx hb hdec (hl.2.2 _ _ e1) (hk H locs ls hW hS hl)
  | iload_n i =>
    simp only [sl_okE, Bool.and_eq_true, decide_eq_true_eq] at hok
    obtain ⟨rfl, e2⟩ := hok
    simp only [sl_step] at h
    obtain ⟨r, e1, h⟩ := sl_ldi_inv h
    have hk := hK lv _ μ wl (ws.cons (sl_get_wk wc wl e1)) h
    obtain ⟨p, e, R, s, m, args, below, meth, c, cells, slots, Qp⟩ := X
    intro H locs ls hW hS hl
    obtain ⟨hx, hb, hml, hown, hts, hK0, hrm⟩ := id F
    exact lv_iload_n hx hb hdec e2 (hl.2.2 _ _ e1) (hk H locs ls hW hS hl)
  | lload i =>
    simp only [sl_okE, decide_eq_true_eq] at hok
    subst hok
    simp only [sl_step] at h
    obtain ⟨r, e1, h⟩ := sl_ldj_inv h
    have hk := hK lv _ μ wl (ws.cons (sl_get_wk wc wl e1)) h
    obtain ⟨p, e, R, s, m, args, below, meth, c, cells, slots, Qp⟩ := X
    intro H locs ls hW hS hl
    obtain ⟨hx, hb, hml, hown, hts, hK0, hrm⟩ := id F
    exact lv_lload hx hb hdec (hl.2.2 _ _ e1) (hk H locs ls hW hS hl)
  | lload_n i =>
    simp only [sl_okE, Bool.and_eq_true, decide_eq_true_eq] at hok
    obtain ⟨rfl, e2⟩ := hok
    simp only [sl_step] at h
    obtain ⟨r, e1, h⟩ := sl_ldj_inv h
    have hk := hK lv _ μ wl (ws.cons (sl_get_wk wc wl e1)) h
    obtain ⟨p, e, R, s, m, args, below, meth, c, cells, slots, Qp⟩ := X
    intro H locs ls hW hS hl
    obtain ⟨hx, hb, hml, hown, hts, hK0, hrm⟩ := id F
    exact lv_lload_n hx hb hdec e2 (hl.2.2 _ _ e1) (hk H locs ls hW hS hl)
  | aload i =>
    simp only [sl_okE, decide_eq_true_eq] at hok
    subst hok
    simp only [sl_step] at h
    obtain ⟨r, e1, h⟩ := sl_ldr_inv h
    have hk := hK lv _ μ wl (ws.cons (sl_get_wk wc wl e1)) h
    obtain ⟨p, e, R, s, m, args, below, meth, c, cells, slots, Qp⟩ := X
    intro H locs ls hW hS hl
    obtain ⟨hx, hb, hml, hown, hts, hK0, hrm⟩ := id F
    cases r with
    | none => exact lv_aloadN hx hb hdec (hl.2.2 _ _ e1) (hk H locs ls hW hS hl)
    | some q => exact lv_aload hx hb hdec (hl.2.2 _ _ e1) (hk H locs ls hW hS hl)
  | aload_n i =>
    simp only [sl_okE, Bool.and_eq_true, decide_eq_true_eq] at hok
    obtain ⟨rfl, e2⟩ := hok
    simp only [sl_step] at h
    obtain ⟨r, e1, h⟩ := sl_ldr_inv h
    have hk := hK lv _ μ wl (ws.cons (sl_get_wk wc wl e1)) h
    obtain ⟨p, e, R, s, m, args, below, meth, c, cells, slots, Qp⟩ := X
    intro H locs ls hW hS hl
    obtain ⟨hx, hb, hml, hown, hts, hK0, hrm⟩ := id F
    cases r with
    | none => exact lv_aload_nN hx hb hdec e2 (hl.2.2 _ _ e1) (hk H locs ls hW hS hl)
    | some q => exact lv_aload_n hx hb hdec e2 (hl.2.2 _ _ e1) (hk H locs ls hW hS hl)
  | istore i =>
    simp only [sl_okE, Bool.and_eq_true, decide_eq_true_eq] at hok
    obtain ⟨rfl, hn⟩ := hok
    simp only [sl_step] at h
    obtain ⟨v, st', rfl, hw, h⟩ := sl_sti_inv h
    have hk := hK _ st' μ (wl.sto (fun w hw => by cases hw; trivial)) ws.tl h
    obtain ⟨p, e, R, s, m, args, below, meth, c, cells, slots, Qp⟩ := X
    intro H locs ls hW hS hl
    obtain ⟨hx, hb, hml, hown, hts, hK0, hrm⟩ := id F
    exact lv_istore hx hb hdec hl.has hn rfl (fun ls' h' => hk H locs ls' hW hS (hl.store (v := .inl v) hw h'))
  | istore_n i =>
    simp only [sl_okE, Bool.and_eq_true, decide_eq_true_eq] at hok
    obtain ⟨rfl, e2, hn⟩ := hok
    simp only [sl_step] at h
    obtain ⟨v, st', rfl, hw, h⟩ := sl_sti_inv h
    have hk := hK _ st' μ (wl.sto (fun w hw => by cases hw; trivial)) ws.tl h
    obtain ⟨p, e, R, s, m, args, below, meth, c, cells, slots, Qp⟩ := X
    intro H locs ls hW hS hl
    obtain ⟨hx, hb, hml, hown, hts, hK0, hrm⟩ := id F
    exact lv_istore_n hx hb hdec e2 hl.has hn rfl (fun ls' h' => hk H locs ls' hW hS (hl.store (v := .inl v) hw h'))
  | lstore i =>
    simp only [sl_okE, Bool.and_eq_true, decide_eq_true_eq] at hok
    obtain ⟨rfl, hn⟩ := hok
    simp only [sl_step] at h
    obtain ⟨v, st', rfl, hw, hw2, h⟩ := sl_stj_inv h
    have hk := hK _ st' μ ((wl.sto (fun w hw => by cases hw; trivial)).set (fun w hw => by cases hw)) ws.tl h
    obtain ⟨p, e, R, s, m, args, below, meth, c, cells, slots, Qp⟩ := X
    intro H locs ls hW hS hl
    obtain ⟨hx, hb, hml, hown, hts, hK0, hrm⟩ := id F
    exact lv_lstore hx hb hdec hl.has hn rfl (fun ls' h' => hk H locs ls' hW hS (hl.store2 (v := .inr (.inl v)) hw hw2 h'))
  | lstore_n i =>
    simp only [sl_okE, Bool.and_eq_true, decide_eq_true_eq] at hok
    obtain ⟨rfl, e2, hn⟩ := hok
    simp only [sl_step] at h
    obtain ⟨v, st', rfl, hw, hw2, h⟩ := sl_stj_inv h
    have hk := hK _ st' μ ((wl.sto (fun w hw => by cases hw; trivial)).set (fun w hw => by cases hw)) ws.tl h
    obtain ⟨p, e, R, s, m, args, below, meth, c, cells, slots, Qp⟩ := X
    intro H locs ls hW hS hl
    obtain ⟨hx, hb, hml, hown, hts, hK0, hrm⟩ := id F
    exact lv_lstore_n hx hb hdec e2 hl.has hn rfl (fun ls' h' => hk H locs ls' hW hS (hl.store2 (v := .inr (.inl v)) hw hw2 h'))
  | astore i =>
    simp only [sl_okE, Bool.and_eq_true, decide_eq_true_eq] at hok
    obtain ⟨rfl, hn⟩ := hok
    simp only [sl_step] at h
    obtain ⟨v, st', rfl, hw, h⟩ := sl_str_inv h
    have hk := hK _ st' μ (wl.sto (fun w hw => by cases hw; exact ws.hd)) ws.tl h
    obtain ⟨p, e, R, s, m, args, below, meth, c, cells, slots, Qp⟩ := X
    intro H locs ls hW hS hl
    obtain ⟨hx, hb, hml, hown, hts, hK0, hrm⟩ := id F
    cases v with
    | none => exact lv_astoreN hx hb hdec hl.has hn rfl (fun ls' h' => hk H locs ls' hW hS (hl.store (v := .inr (.inr none)) hw h'))
    | some q => exact lv_astore hx hb hdec hl.has hn rfl (fun ls' h' => hk H locs ls' hW hS (hl.store (v := .inr (.inr (some q))) hw h'))
  | astore_n i =>
    simp only [sl_okE, Bool.and_eq_true, decide_eq_true_eq] at hok
    obtain ⟨rfl, e2, hn⟩ := hok
    simp only [sl_step] at h
    obtain ⟨v, st', rfl, hw, h⟩ := sl_str_inv h
    have hk := hK _ st' μ (wl.sto (fun w hw => by cases hw; exact ws.hd)) ws.tl h
    obtain ⟨p, e, R, s, m, args, below, meth, c, cells, slots, Qp⟩ := X
    intro H locs ls hW hS hl
    obtain ⟨hx, hb, hml, hown, hts, hK0, hrm⟩ := id F
    cases v with
    | none => exact lv_astore_nN hx hb hdec e2 hl.has hn rfl (fun ls' h' => hk H locs ls' hW hS (hl.store (v := .inr (.inr none)) hw h'))
    | some q => exact lv_astore_n hx hb hdec e2 hl.has hn rfl (fun ls' h' => hk H locs ls' hW hS (hl.store (v := .inr (.inr (some q))) hw h'))
  | iinc i n =>
    simp only [sl_okE, Bool.and_eq_true, decide_eq_true_eq] at hok
    obtain ⟨rfl, e2, hn⟩ := hok
    simp only [sl_step] at h
    obtain ⟨r, e1, h⟩ := sl_ldi_inv h
    obtain ⟨a0, b0, s0, e0, h⟩ := sl_bin_inv h
    cases e0
    obtain ⟨v, st', e3, hw, h⟩ := sl_sti_inv h
    cases e3
    have hk := hK _ st μ (wl.sto (fun w hw => by cases hw; trivial)) ws h
    obtain ⟨p, e, R, s, m, args, below, meth, c, cells, slots, Qp⟩ := X
    intro H locs ls hW hS hl
    obtain ⟨hx, hb, hml, hown, hts, hK0, hrm⟩ := id F
    obtain ⟨k, hk2⟩ := List.getElem?_of_mem (sl_prs_mem (g := g) hn e1)
    exact lv_iinc hx hb hdec hl.has hk2 (by rw [e2]) hn rfl (fun ls' h' => hk H locs ls' hW hS (hl.store (v := .inl (r + x)) hw h'))
  | iadd =>
    simp only [sl_okE, decide_eq_true_eq] at hok
    subst hok
    simp only [sl_step] at h
    obtain ⟨a, b, st', rfl, h⟩ := sl_bin_inv h
    have hk := hK lv _ μ wl ws.tl.tl.ci h
    obtain ⟨p, e, R, s, m, args, below, meth, c, cells, slots, Qp⟩ := X
    intro H locs ls hW hS hl
    obtain ⟨hx, hb, hml, hown, hts, hK0, hrm⟩ := id F
    exact lv_iadd hx hb hdec (hk H locs ls hW hS hl)
  | isub =>
    simp only [sl_okE, decide_eq_true_eq] at hok
    subst hok
    simp only [sl_step] at h
    obtain ⟨a, b, st', rfl, h⟩ := sl_bin_inv h
    have hk := hK lv _ μ wl ws.tl.tl.ci h
    obtain ⟨p, e, R, s, m, args, below, meth, c, cells, slots, Qp⟩ := X
    intro H locs ls hW hS hl
    obtain ⟨hx, hb, hml, hown, hts, hK0, hrm⟩ := id F
    exact lv_isub hx hb hdec (hk H locs ls hW hS hl)
  | imul =>
    simp only [sl_okE, decide_eq_true_eq] at hok
    subst hok
    simp only [sl_step] at h
    obtain ⟨a, b, st', rfl, h⟩ := sl_bin_inv h
    have hk := hK lv _ μ wl ws.tl.tl.ci h
    obtain ⟨p, e, R, s, m, args, below, meth, c, cells, slots, Qp⟩ := X
    intro H locs ls hW hS hl
    obtain ⟨hx, hb, hml, hown, hts, hK0, hrm⟩ := id F
    exact lv_imul hx hb hdec (hk H locs ls hW hS hl)
  | iand =>
    simp only [sl_okE, decide_eq_true_eq] at hok
    subst hok
    simp only [sl_step] at h
    obtain ⟨a, b, st', rfl, h⟩ := sl_bin_inv h
    have hk := hK lv _ μ wl ws.tl.tl.ci h
    obtain ⟨p, e, R, s, m, args, below, meth, c, cells, slots, Qp⟩ := X
    intro H locs ls hW hS hl
    obtain ⟨hx, hb, hml, hown, hts, hK0, hrm⟩ := id F
    exact lv_iand hx hb hdec (hk H locs ls hW hS hl)
  | ior =>
    simp only [sl_okE, decide_eq_true_eq] at hok
    subst hok
    simp only [sl_step] at h
    obtain ⟨a, b, st', rfl, h⟩ := sl_bin_inv h
    have hk := hK lv _ μ wl ws.tl.tl.ci h
    obtain ⟨p, e, R, s, m, args, below, meth, c, cells, slots, Qp⟩ := X
    intro H locs ls hW hS hl
    obtain ⟨hx, hb, hml, hown, hts, hK0, hrm⟩ := id F
    exact lv_ior hx hb hdec (hk H locs ls hW hS hl)
  | ixor =>
    simp only [sl_okE, decide_eq_true_eq] at hok
    subst hok
    simp only [sl_step] at h
    obtain ⟨a, b, st', rfl, h⟩ := sl_bin_inv h
    have hk := hK lv _ μ wl ws.tl.tl.ci h
    obtain ⟨p, e, R, s, m, args, below, meth, c, cells, slots, Qp⟩ := X
    intro H locs ls hW hS hl
    obtain ⟨hx, hb, hml, hown, hts, hK0, hrm⟩ := id F
    exact lv_ixor hx hb hdec (hk H locs ls hW hS hl)
  | ishl =>
    simp only [sl_okE, decide_eq_true_eq] at hok
    subst hok
    simp only [sl_step] at h
    obtain ⟨a, b, st', rfl, h⟩ := sl_bin_inv h
    have hk := hK lv _ μ wl ws.tl.tl.ci h
    obtain ⟨p, e, R, s, m, args, below, meth, c, cells, slots, Qp⟩ := X
    intro H locs ls hW hS hl
    obtain ⟨hx, hb, hml, hown, hts, hK0, hrm⟩ := id F
    exact lv_ishl hx hb hdec (hk H locs ls hW hS hl)
  | ishr =>
    simp only [sl_okE, decide_eq_true_eq] at hok
    subst hok
    simp only [sl_step] at h
    obtain ⟨a, b, st', rfl, h⟩ := sl_bin_inv h
    have hk := hK lv _ μ wl ws.tl.tl.ci h
    obtain ⟨p, e, R, s, m, args, below, meth, c, cells, slots, Qp⟩ := X
    intro H locs ls hW hS hl
    obtain ⟨hx, hb, hml, hown, hts, hK0, hrm⟩ := id F
    exact lv_ishr hx hb hdec (hk H locs ls hW hS hl)
  | iushr =>
    simp only [sl_okE, decide_eq_true_eq] at hok
    subst hok
    simp only [sl_step] at h
    obtain ⟨a, b, st', rfl, h⟩ := sl_bin_inv h
    have hk := hK lv _ μ wl ws.tl.tl.ci h
    obtain ⟨p, e, R, s, m, args, below, meth, c, cells, slots, Qp⟩ := X
    intro H locs ls hW hS hl
    obtain ⟨hx, hb, hml, hown, hts, hK0, hrm⟩ := id F
    exact lv_iushr hx hb hdec rfl (hk H locs ls hW hS hl)
  | idiv =>
    simp only [sl_okE, decide_eq_true_eq] at hok
    subst hok
    simp only [sl_step] at h
    split at h
    next b a st' =>
      have hk := hK lv _ μ wl ws.tl.tl.ci h.2
      obtain ⟨p, e, R, s, m, args, below, meth, c, cells, slots, Qp⟩ := X
      intro H locs ls hW hS hl
      obtain ⟨hx, hb, hml, hown, hts, hK0, hrm⟩ := id F
      exact lv_idiv hx hb hdec h.1 (hk H locs ls hW hS hl)
    next => exact h.elim
  | irem =>
    simp only [sl_okE, decide_eq_true_eq] at hok
    subst hok
    simp only [sl_step] at h
    split at h
    next b a st' =>
      have hk := hK lv _ μ wl ws.tl.tl.ci h.2
      obtain ⟨p, e, R, s, m, args, below, meth, c, cells, slots, Qp⟩ := X
      intro H locs ls hW hS hl
      obtain ⟨hx, hb, hml, hown, hts, hK0, hrm⟩ := id F
      exact lv_irem hx hb hdec h.1 (hk H locs ls hW hS hl)
    next => exact h.elim
  | ineg =>
    simp only [sl_okE, decide_eq_true_eq] at hok
    subst hok
    simp only [sl_step] at h
    split at h
    next a st' =>
      have hk := hK lv _ μ wl ws.tl.ci h
      obtain ⟨p, e, R, s, m, args, below, meth, c, cells, slots, Qp⟩ := X
      intro H locs ls hW hS hl
      obtain ⟨hx, hb, hml, hown, hts, hK0, hrm⟩ := id F
      exact lv_ineg hx hb hdec (hk H locs ls hW hS hl)
    next => exact h.elim
  | ladd =>
    simp only [sl_okE, decide_eq_true_eq] at hok
    subst hok
    simp only [sl_step] at h
    obtain ⟨a, b, st', rfl, h⟩ := sl_bij_inv h
    have hk := hK lv _ μ wl ws.tl.tl.cj h
    obtain ⟨p, e, R, s, m, args, below, meth, c, cells, slots, Qp⟩ := X
    intro H locs ls hW hS hl
    obtain ⟨hx, hb, hml, hown, hts, hK0, hrm⟩ := id F
    exact lv_ladd hx hb hdec (hk H locs ls hW hS hl)
  | lsub =>
    simp only [sl_okE, decide_eq_true_eq] at hok
    subst hok
    simp only [sl_step] at h
    obtain ⟨a, b, st', rfl, h⟩ := sl_bij_inv h
    have hk := hK lv _ μ wl ws.tl.tl.cj h
    obtain ⟨p, e, R, s, m, args, below, meth, c, cells, slots, Qp⟩ := X
    intro H locs ls hW hS hl
    obtain ⟨hx, hb, hml, hown, hts, hK0, hrm⟩ := id F
    exact lv_lsub hx hb hdec (hk H locs ls hW hS hl)
  | lmul =>
    simp only [sl_okE, decide_eq_true_eq] at hok
    subst hok
    simp only [sl_step] at h
    obtain ⟨a, b, st', rfl, h⟩ := sl_bij_inv h
    have hk := hK lv _ μ wl ws.tl.tl.cj h
    obtain ⟨p, e, R, s, m, args, below, meth, c, cells, slots, Qp⟩ := X
    intro H locs ls hW hS hl
    obtain ⟨hx, hb, hml, hown, hts, hK0, hrm⟩ := id F
    exact lv_lmul hx hb hdec (hk H locs ls hW hS hl)
  | i2l =>
    simp only [sl_okE, decide_eq_true_eq] at hok
    subst hok
    simp only [sl_step] at h
    split at h
    next a st' =>
      have hk := hK lv _ μ wl ws.tl.cj h
      obtain ⟨p, e, R, s, m, args, below, meth, c, cells, slots, Qp⟩ := X
      intro H locs ls hW hS hl
      obtain ⟨hx, hb, hml, hown, hts, hK0, hrm⟩ := id F
      exact lv_i2l hx hb hdec rfl (hk H locs ls hW hS hl)
    next => exact h.elim
  | lcmp =>
    simp only [sl_okE, decide_eq_true_eq] at hok
    subst hok
    simp only [sl_step] at h
    split at h
    next b a st' =>
      have hk := hK lv _ μ wl ws.tl.tl.ci h
      obtain ⟨p, e, R, s, m, args, below, meth, c, cells, slots, Qp⟩ := X
      intro H locs ls hW hS hl
      obtain ⟨hx, hb, hml, hown, hts, hK0, hrm⟩ := id F
      exact W.lcmp hx hb hdec (hk H locs ls hW hS hl)
    next => exact h.elim
  | dup =>
    simp only [sl_okE, decide_eq_true_eq] at hok
    subst hok
    simp only [sl_step] at h
    split at h
    next v st' =>
      have hk := hK lv _ μ wl ws.ci h
      obtain ⟨p, e, R, s, m, args, below, meth, c, cells, slots, Qp⟩ := X
      intro H locs ls hW hS hl
      obtain ⟨hx, hb, hml, hown, hts, hK0, hrm⟩ := id F
      exact lv_dup hx hb hdec rfl (hk H locs ls hW hS hl)
    next v st' =>
      have hk := hK lv _ μ wl (sl_wkS.cons ws.hd ws) h
      obtain ⟨p, e, R, s, m, args, below, meth, c, cells, slots, Qp⟩ := X
      intro H locs ls hW hS hl
      obtain ⟨hx, hb, hml, hown, hts, hK0, hrm⟩ := id F
      exact lv_dup hx hb hdec (by cases v <;> rfl) (hk H locs ls hW hS hl)
    next => exact h.elim
  | dup2 =>
    simp only [sl_okE, decide_eq_true_eq] at hok
    subst hok
    simp only [sl_step] at h
    split at h
    next v w st' =>
      have hk := hK lv _ μ wl (sl_wkS.cons ws.tl.hd ws).ci h
      obtain ⟨p, e, R, s, m, args, below, meth, c, cells, slots, Qp⟩ := X
      intro H locs ls hW hS hl
      obtain ⟨hx, hb, hml, hown, hts, hK0, hrm⟩ := id F
      exact lv_dup2_11 hx hb hdec rfl (by cases w <;> rfl) (hk H locs ls hW hS hl)
    next => exact h.elim
  | pop =>
    simp only [sl_okE, decide_eq_true_eq] at hok
    subst hok
    simp only [sl_step] at h
    split at h
    next v st' =>
      have hk := hK lv _ μ wl ws.tl h
      obtain ⟨p, e, R, s, m, args, below, meth, c, cells, slots, Qp⟩ := X
      intro H locs ls hW hS hl
      obtain ⟨hx, hb, hml, hown, hts, hK0, hrm⟩ := id F
      exact lv_pop hx hb hdec rfl (hk H locs ls hW hS hl)
    next => exact h.elim
  | ifCond c off =>
    simp only [sl_okE, Bool.and_eq_true, decide_eq_true_eq] at hok
    obtain ⟨rfl, e1⟩ := hok
    simp only [sl_step] at h
    split at h
    next v st' => exact sl_s_ifc F hdec e1 (fun z => hJ _ _ _ _ wl ws.tl z) (fun z => hK _ _ _ wl ws.tl z) h
    next => exact h.elim
  | if_icmp c off =>
    simp only [sl_okE, Bool.and_eq_true, decide_eq_true_eq] at hok
    obtain ⟨rfl, e1⟩ := hok
    simp only [sl_step] at h
    split at h
    next w v st' => exact sl_s_icm F hdec e1 (fun z => hJ _ _ _ _ wl ws.tl.tl z) (fun z => hK _ _ _ wl ws.tl.tl z) h
    next => exact h.elim
  | ifnull off =>
    simp only [sl_okE, Bool.and_eq_true, decide_eq_true_eq] at hok
    obtain ⟨rfl, e1⟩ := hok
    simp only [sl_step, sl_nul] at h
    split at h
    next st' =>
      have hj := hJ _ _ _ _ wl ws.tl h
      obtain ⟨p, e, R, s, m, args, below, meth, c, cells, slots, Qp⟩ := X
      intro H locs ls hW hS hl
      obtain ⟨hx, hb, hml, hown, hts, hK0, hrm⟩ := id F
      exact lv_ifnullN hx hb hdec e1 (hj H locs ls hW hS hl)
    next q st' =>
      have hk := hK _ _ _ wl ws.tl h
      obtain ⟨p, e, R, s, m, args, below, meth, c, cells, slots, Qp⟩ := X
      intro H locs ls hW hS hl
      obtain ⟨hx, hb, hml, hown, hts, hK0, hrm⟩ := id F
      exact lv_ifnull hx hb hdec (hk H locs ls hW hS hl)
    next => exact h.elim
  | ifnonnull off =>
    simp only [sl_okE, Bool.and_eq_true, decide_eq_true_eq] at hok
    obtain ⟨rfl, e1⟩ := hok
    simp only [sl_step, sl_nul] at h
    split at h
    next st' =>
      have hk := hK _ _ _ wl ws.tl h
      obtain ⟨p, e, R, s, m, args, below, meth, c, cells, slots, Qp⟩ := X
      intro H locs ls hW hS hl
      obtain ⟨hx, hb, hml, hown, hts, hK0, hrm⟩ := id F
      exact lv_ifnonnullN hx hb hdec (hk H locs ls hW hS hl)
    next q st' =>
      have hj := hJ _ _ _ _ wl ws.tl h
      obtain ⟨p, e, R, s, m, args, below, meth, c, cells, slots, Qp⟩ := X
      intro H locs ls hW hS hl
      obtain ⟨hx, hb, hml, hown, hts, hK0, hrm⟩ := id F
      exact lv_ifnonnull hx hb hdec e1 (hj H locs ls hW hS hl)
    next => exact h.elim
  | goto off =>
    simp only [sl_okE, Bool.and_eq_true, decide_eq_true_eq] at hok
    obtain ⟨rfl, e1⟩ := hok
    have hj := hJ _ _ _ _ wl ws h
    obtain ⟨p, e, R, s, m, args, below, meth, c, cells, slots, Qp⟩ := X
    intro H locs ls hW hS hl
    obtain ⟨hx, hb, hml, hown, hts, hK0, hrm⟩ := id F
    exact lv_goto hx hb hdec e1 (hj H locs ls hW hS hl)
  | tableswitch dflt lo hi offs =>
    simp only [sl_okE, Bool.and_eq_true, decide_eq_true_eq] at hok
    obtain ⟨e1, e2, e3⟩ := hok
    simp only [sl_step] at h
    split at h
    next v st' =>
      obtain ⟨p, e, R, s, m, args, below, meth, c, cells, slots, Qp⟩ := X
      intro H locs ls hW hS hl
      obtain ⟨hx, hb, hml, hown, hts, hK0, hrm⟩ := id F
      rcases sl_ts_spec _ _ _ e3 h with ⟨i, o, t, g1, g2, g3, g4⟩ | ⟨g1, g2⟩
      · have hi2 : i < offs.toList.length := (List.getElem?_eq_some_iff.mp g1).1
        refine lv_tableIn hx hb hdec (by omega) (by omega) (off := o) ?_ g3 (hJ _ _ _ _ wl ws.tl g4 H locs ls hW hS hl)
        rw [show (v.toInt - lo).toNat = i by omega, ← Array.getElem?_toList]
        exact g1
      · exact lv_tableOut hx hb hdec (by omega) e1 (hJ _ _ _ _ wl ws.tl g2 H locs ls hW hS hl)
    next => exact h.elim
  | lookupswitch dflt ps =>
    simp only [sl_okE, Bool.and_eq_true, decide_eq_true_eq] at hok
    obtain ⟨e1, e2, e3⟩ := hok
    simp only [sl_step] at h
    split at h
    next v st' =>
      obtain ⟨o, t, g1, g2, g3⟩ := sl_ls_spec (J := fun t => J t lv st' μ) e1 id _ _ e3 h
      have hj := hJ _ _ _ _ wl ws.tl g3
      obtain ⟨p, e, R, s, m, args, below, meth, c, cells, slots, Qp⟩ := X
      intro H locs ls hW hS hl
      obtain ⟨hx, hb, hml, hown, hts, hK0, hrm⟩ := id F
      exact lv_lookup hx hb hdec e2 g1 g2 (hj H locs ls hW hS hl)
    next => exact h.elim
  | ireturn =>
    simp only [sl_okE, Bool.and_eq_true, decide_eq_true_eq] at hok
    obtain ⟨rfl, e1⟩ := hok
    obtain ⟨p, e, R, s, m, args, below, meth, c, cells, slots, Qp⟩ := X
    intro H locs ls hW hS hl
    obtain ⟨hx, hb, hml, hown, hts, hK0, hrm⟩ := id F
    obtain ⟨hr, hlocks, rfl⟩ := id Rt
    simp only [sl_step] at h
    split at h
    next v =>
      have e1 : rt = some .int := by simpa using e1
      subst e1
      exact W.iret hx hb hr (fun t ht hWm => ⟨⟨some (.inl v), μ, rfl, fun w hw => by cases hw; trivial, h, by rw [ht]; exact hW⟩, hS.F ht⟩) hS.2.2 hdec hlocks
    next d0 dd v =>
      have e1 : rt = some .boolean := by simpa using e1
      subst e1
      exact W.zret hx hb hr (sl_bz_nar h.1).1 (fun t ht hWm => ⟨⟨some (.inl v), μ, rfl, fun w hw => by cases hw; trivial, h.2, by rw [ht]; exact hW⟩, hS.F ht⟩) hS.2.2 hdec hlocks
    next => exact h.elim
  | lreturn =>
    simp only [sl_okE, Bool.and_eq_true, decide_eq_true_eq] at hok
    obtain ⟨rfl, rfl⟩ := hok
    obtain ⟨p, e, R, s, m, args, below, meth, c, cells, slots, Qp⟩ := X
    intro H locs ls hW hS hl
    obtain ⟨hx, hb, hml, hown, hts, hK0, hrm⟩ := id F
    obtain ⟨hr, hlocks, rfl⟩ := id Rt
    simp only [sl_step] at h
    split at h
    next v => exact W.lret hx hb hr (fun t ht hWm => ⟨⟨some (.inr (.inl v)), μ, rfl, fun w hw => by cases hw; trivial, h, by rw [ht]; exact hW⟩, hS.F ht⟩) hS.2.2 hdec hlocks
    next => exact h.elim
  | areturn =>
    simp only [sl_okE, Bool.and_eq_true, decide_eq_true_eq] at hok
    obtain ⟨rfl, e1⟩ := hok
    obtain ⟨p, e, R, s, m, args, below, meth, c, cells, slots, Qp⟩ := X
    intro H locs ls hW hS hl
    obtain ⟨hx, hb, hml, hown, hts, hK0, hrm⟩ := id F
    obtain ⟨hr, hlocks, rfl⟩ := id Rt
    simp only [sl_step] at h
    split at h
    next v =>
      split at e1
      next n => exact W.aret (v := sl_tv g (.inr (.inr v))) hx hb hr (Or.inl ⟨n, rfl⟩) (by cases v with | none => exact Or.inl rfl | some q => exact Or.inr ⟨_, rfl⟩) (fun t ht hWm => ⟨⟨some (.inr (.inr v)), μ, rfl, fun w hw => by cases hw; exact ws.hd, h, by rw [ht]; exact hW⟩, hS.F ht⟩) hS.2.2 hdec hlocks
      next => cases e1
    next => exact h.elim
  | return_ =>
    simp only [sl_okE, Bool.and_eq_true, decide_eq_true_eq] at hok
    obtain ⟨rfl, rfl⟩ := hok
    obtain ⟨p, e, R, s, m, args, below, meth, c, cells, slots, Qp⟩ := X
    intro H locs ls hW hS hl
    obtain ⟨hx, hb, hml, hown, hts, hK0, hrm⟩ := id F
    obtain ⟨hr, hlocks, rfl⟩ := id Rt
    simp only [sl_step] at h
    split at h
    next => exact W.vret hx hb hr (fun t ht hWm => ⟨⟨none, μ, rfl, (fun w hw => by cases hw), h, by rw [ht]; exact hW⟩, hS.F ht⟩) hS.2.2 hdec hlocks
    next => exact h.elim
  | getfield i =>
    simp only [sl_okE, Bool.and_eq_true] at hok
    obtain ⟨e1, e2⟩ := hok
    obtain rfl := of_decide_eq_true e1
    simp only [sl_step] at h
    exact sl_s_getf F HL ws hdec e2 h (fun st' w' k' => hK _ _ _ wl w' k')
  | putfield i =>
    simp only [sl_okE, Bool.and_eq_true] at hok
    obtain ⟨e1, e2⟩ := hok
    obtain rfl := of_decide_eq_true e1
    simp only [sl_step] at h
    exact sl_s_putf F HL ws hdec e2 h (fun st' μ' w' k' => hK _ _ _ wl w' k')
  | iaload =>
    simp only [sl_okE, decide_eq_true_eq] at hok
    subst hok
    simp only [sl_step] at h
    exact sl_s_ald F ws hdec h (fun st' w' k' => hK _ _ _ wl w' k')
  | iastore =>
    simp only [sl_okE, decide_eq_true_eq] at hok
    subst hok
    simp only [sl_step] at h
    exact sl_s_ast F ws hdec h (fun st' μ' w' k' => hK _ _ _ wl w' k')
  | baload =>
    simp only [sl_okE, decide_eq_true_eq] at hok
    subst hok
    simp only [sl_step] at h
    exact sl_s_zld F ws hdec h (fun st' w' k' => hK _ _ _ wl w' k')
  | bastore =>
    simp only [sl_okE, decide_eq_true_eq] at hok
    subst hok
    simp only [sl_step] at h
    exact sl_s_zst F ws hdec h (fun st' μ' w' k' => hK _ _ _ wl w' k')
  | aaload =>
    simp only [sl_okE, decide_eq_true_eq] at hok
    subst hok
    simp only [sl_step] at h
    exact sl_s_rld F ws hdec h (fun st' w' k' => hK _ _ _ wl w' k')
  | aastore =>
    simp only [sl_okE, decide_eq_true_eq] at hok
    subst hok
    simp only [sl_step] at h
    exact sl_s_rst F ws hdec h (fun st' μ' w' k' => hK _ _ _ wl w' k')
  | invokevirtual i =>
    simp only [sl_okE, Bool.and_eq_true, decide_eq_true_eq] at hok
    obtain ⟨rfl, e1⟩ := hok
    simp only [sl_step] at h
    exact sl_s_call F HC ws (kind := 0) (idx := i) hdec e1 h (fun st' μ' w' k' => hK _ _ _ wl w' k')
  | invokestatic i =>
    simp only [sl_okE, Bool.and_eq_true, decide_eq_true_eq] at hok
    obtain ⟨rfl, e1⟩ := hok
    simp only [sl_step] at h
    exact sl_s_call F HC ws (kind := 1) (idx := i) hdec e1 h (fun st' μ' w' k' => hK _ _ _ wl w' k')
  | _ => exact False.elim h
/-! runs of a method's code -/
def sl_pcs : List sl_Ent → Nat
  | [] => 0
  | e :: _ => e.1
/-- the code's table: each instruction decodes and is checked, the next stands behind it -/
def sl_tbOK (own : String) (cc : ByteArray) (nL : Nat) (rt : Option FieldType) (lk : sl_Lk) (cx : List (Nat × Nat)) : List sl_Ent → Bool
  | [] => true
  | e :: es => decide (decode cc e.1 = .ok (e.2.1, e.2.2.1)) && (sl_okE own nL rt lk cx e && ((match es with
    | [] => true
    | f :: _ => decide (f.1 = e.1 + e.2.2.1)) && sl_tbOK own cc nL rt lk cx es))
/-- what a method's walk stands on -/
def sl_MC (g : sl_G) (X : sl_X) (own : String) (cc : ByteArray) (nL hh : Nat) (rt : Option FieldType) (Q : sl_Qt) (lk : sl_Lk) (cx : List (Nat × Nat)) (ct : List sl_Ct) (cst : sl_L) (cd : List sl_Ent) : Prop :=
  sl_Fx g X own cc nL hh ∧ sl_Rt g X rt Q ∧ sl_LkOK own lk ∧ sl_HC g own hh ct cx ∧ sl_wkL cst ∧ sl_tbOK own cc nL rt lk cx cd = true
def sl_VV (g : sl_G) (X : sl_X) (nL : Nat) (cst : sl_L) (cuts : List (Nat × sl_It)) : Prop := ∀ (pc : Nat) (I : sl_It), sl_look pc cuts = some I → ∀ (lv : sl_L) (st : List sl_V) (μ : sl_M), sl_wkL lv → sl_wkS st → I lv st μ → sl_Vw g X nL cst pc lv st μ
theorem sl_tbOK_find {own : String} {cc : ByteArray} {nL : Nat} {rt : Option FieldType} {lk : sl_Lk} {cx : List (Nat × Nat)} {t : Nat} {cd : List sl_Ent} (h : sl_tbOK own cc nL rt lk cx cd = true) : sl_tbOK own cc nL rt lk cx (sl_find t cd) = true := by
  induction cd with
  | nil => rfl
  | cons e es ih =>
    unfold sl_find
    split
    · exact h
    · simp only [sl_tbOK, Bool.and_eq_true] at h
      exact ih h.2.2.2
theorem sl_find_pc {t : Nat} {cd : List sl_Ent} {e : sl_Ent} {es : List sl_Ent} (h : sl_find t cd = e :: es) : e.1 = t := by
  induction cd with
  | nil => cases h
  | cons f fs ih =>
    unfold sl_find at h
    split at h
    next he =>
      have := (List.cons.inj h).1
      rw [← this]
      exact he
    next => exact ih h
theorem sl_run {cd : List sl_Ent} {cuts : List (Nat × sl_It)} (M : sl_MC g X own cc nL hh rt Q lk cx ct cst cd) (vv : sl_VV g X nL cst cuts) : ∀ (n : Nat) (chk : Bool) (es : List sl_Ent), sl_tbOK own cc nL rt lk cx es = true → ∀ (lv : sl_L) (st : List sl_V) (μ : sl_M), sl_wkL lv → sl_wkS st → sl_wp cd ct cst Q cuts n chk es lv st μ → sl_Vw g X nL cst (sl_pcs es) lv st μ := by
  intro n
  induction n with
  | zero =>
    intro chk es hes lv st μ wl ws h
    exact False.elim h
  | succ n ih =>
    intro chk es hes lv st μ wl ws h
    cases es with
    | nil => exact False.elim h
    | cons e es =>
      obtain ⟨F, Rt, HL, HC, wc, htb⟩ := M
      unfold sl_wp at h
      split at h
      next I hI =>
        split at hI
        · exact vv _ _ hI lv st μ wl ws h
        · cases hI
      next =>
        obtain ⟨pc, ins, len, x, d, sw, fl⟩ := e
        simp only [sl_tbOK, Bool.and_eq_true, decide_eq_true_eq] at hes
        obtain ⟨h1, h2, h3, h4⟩ := hes
        refine sl_step_ok F Rt HL HC wc h1 h2 (fun lv st μ wl ws k => ?_) (fun t lv st μ wl ws k => ?_) wl ws h
        · have := ih true es h4 lv st μ wl ws k
          cases es with
          | nil =>
            cases n with
            | zero => exact False.elim k
            | succ n => exact False.elim k
          | cons f fs =>
            have h5 : f.1 = pc + len := by simpa using h3
            show sl_Vw g X nL cst (pc + len) lv st μ
            rw [← h5]
            exact this
        · have := ih true (sl_find t cd) (sl_tbOK_find htb) lv st μ wl ws k
          cases hf : sl_find t cd with
          | nil =>
            rw [hf] at k
            cases n with
            | zero => exact False.elim k
            | succ n => exact False.elim k
          | cons f fs =>
            rw [hf] at this
            have h5 : f.1 = t := sl_find_pc hf
            rw [← h5]
            exact this
theorem sl_VV0 : sl_VV g X nL cst [] := fun pc I h => by cases h
theorem sl_runF {cd : List sl_Ent} {cuts : List (Nat × sl_It)} (M : sl_MC g X own cc nL hh rt Q lk cx ct cst cd) (vv : sl_VV g X nL cst cuts) {n : Nat} {chk : Bool} {t : Nat} {lv : sl_L} {st : List sl_V} {μ : sl_M} (wl : sl_wkL lv) (ws : sl_wkS st) (h : sl_wp cd ct cst Q cuts n chk (sl_find t cd) lv st μ) : sl_Vw g X nL cst t lv st μ := by
  have h1 := sl_run M vv n chk (sl_find t cd) (sl_tbOK_find M.2.2.2.2.2) lv st μ wl ws h
  cases hf : sl_find t cd with
  | nil =>
    rw [hf] at h
    cases n with
    | zero => exact False.elim h
    | succ n => exact False.elim h
  | cons f fs =>
    rw [hf] at h1
    have h5 : f.1 = t := sl_find_pc hf
    rw [← h5]
    exact h1
theorem sl_ext {cd : List sl_Ent} {cuts : List (Nat × sl_It)} (M : sl_MC g X own cc nL hh rt Q lk cx ct cst cd) (vv : sl_VV g X nL cst cuts) (t : Nat) (I : sl_It) (h : ∀ lv st μ, I lv st μ → sl_wp cd ct cst Q cuts 1000 false (sl_find t cd) lv st μ) : sl_VV g X nL cst ((t, I) :: cuts) := by
  intro pc I' hl lv st μ wl ws hI
  unfold sl_look at hl
  split at hl
  next he =>
    cases hl
    simp only at he
    rw [← he]
    exact sl_runF M vv wl ws (h lv st μ hI)
  next => exact vv pc I' hl lv st μ wl ws hI
theorem sl_extL {cd : List sl_Ent} {cuts : List (Nat × sl_It)} (M : sl_MC g X own cc nL hh rt Q lk cx ct cst cd) (vv : sl_VV g X nL cst cuts) (t : Nat) (F : Nat → sl_It) (h0 : ∀ lv st μ, ¬ F 0 lv st μ)
    (h : ∀ n, sl_VV g X nL cst ((t, F n) :: cuts) → ∃ cuts', sl_VV g X nL cst cuts' ∧ ∀ lv st μ, F (n + 1) lv st μ → sl_wp cd ct cst Q cuts' 1000 false (sl_find t cd) lv st μ) : sl_VV g X nL cst ((t, fun lv st μ => ∃ n, F n lv st μ) :: cuts) := by
  have key : ∀ n, sl_VV g X nL cst ((t, F n) :: cuts) := by
    intro n
    induction n with
    | zero =>
      intro pc I' hl lv st μ wl ws hI
      unfold sl_look at hl
      split at hl
      next he =>
        cases hl
        exact absurd hI (h0 lv st μ)
      next => exact vv pc I' hl lv st μ wl ws hI
    | succ n ih =>
      obtain ⟨cuts', vv', hw⟩ := h n ih
      intro pc I' hl lv st μ wl ws hI
      unfold sl_look at hl
      split at hl
      next he =>
        cases hl
        simp only at he
        rw [← he]
        exact sl_runF M vv' wl ws (hw lv st μ hI)
      next => exact vv pc I' hl lv st μ wl ws hI
  intro pc I' hl lv st μ wl ws hI
  unfold sl_look at hl
  split at hl
  next he =>
    cases hl
    obtain ⟨n, hI⟩ := hI
    refine key n pc (F n) ?_ lv st μ wl ws hI
    unfold sl_look
    rw [if_pos he]
  next => exact vv pc I' hl lv st μ wl ws hI
end RUN
/-! a method's contract out of its walk -/
def sl_slots : List sl_V → sl_L
  | [] => []
  | v :: l => match v with
    | .inr (.inl _) => some v :: none :: sl_slots l
    | _ => some v :: sl_slots l
/-- constant places (1) and the others, out of the arguments' slots -/
def sl_mc : List Bool → sl_L → sl_L
  | true :: m, a :: l => a :: sl_mc m l
  | false :: m, _ :: l => none :: sl_mc m l
  | _, _ => []
def sl_ml : List Bool → sl_L → sl_L
  | true :: m, _ :: l => none :: sl_ml m l
  | false :: m, a :: l => a :: sl_ml m l
  | false :: m, [] => none :: sl_ml m []
  | true :: m, [] => none :: sl_ml m []
  | [], _ => []
theorem sl_m_get : ∀ (m : List Bool) (l : sl_L) (i : Nat) (v : sl_V), sl_get (sl_mc m l) (sl_ml m l) i = some v → sl_nth l i = some v := by
  intro m
  induction m with
  | nil =>
    intro l i v h
    cases l <;> cases h
  | cons b m ih =>
    intro l i v h
    cases l with
    | nil =>
      cases b <;> cases i with
      | zero => cases h
      | succ i =>
        have h2 : sl_nth (sl_ml m []) i = some v := h
        refine ih [] i v ?_
        unfold sl_get
        have : sl_nth (sl_mc m []) i = none := by cases m with
          | nil => rfl
          | cons b m => cases b <;> rfl
        rw [this]
        exact h2
    | cons a l =>
      cases b <;> cases i with
      | zero =>
        first
        | exact h
        | (unfold sl_get at h
           cases a with
           | none => cases h
           | some w => exact h)
      | succ i => exact ih l i v h
theorem sl_slots_args {g : sl_G} : ∀ (As : List sl_V) (i j : Nat) (v : sl_V), sl_nth (sl_slots As) j = some v → (i + j, sl_tv g v) ∈ lv_args i (As.map (sl_tv g)) := by
  intro As
  induction As with
  | nil =>
    intro i j v h
    cases h
  | cons a As ih =>
    intro i j v h
    have hcat : (sl_tv g a).category = 2 ↔ sl_isJ (some a) = true := sl_tv_cat
    match a with
    | .inr (.inl x) =>
      show (i + j, sl_tv g v) ∈ (i, Value.long x) :: lv_args (i + 2) (As.map (sl_tv g))
      match j, h with
      | 0, h => cases h; exact List.mem_cons_self
      | 1, h => cases h
      | j + 2, h =>
        have := ih (i + 2) j v h
        rw [show i + 2 + j = i + (j + 2) by omega] at this
        exact List.mem_cons_of_mem _ this
    | .inl x =>
      show (i + j, sl_tv g v) ∈ (i, Value.int x) :: lv_args (i + 1) (As.map (sl_tv g))
      match j, h with
      | 0, h => cases h; exact List.mem_cons_self
      | j + 1, h =>
        have := ih (i + 1) j v h
        rw [show i + 1 + j = i + (j + 1) by omega] at this
        exact List.mem_cons_of_mem _ this
    | .inr (.inr none) =>
      show (i + j, sl_tv g v) ∈ (i, Value.null) :: lv_args (i + 1) (As.map (sl_tv g))
      match j, h with
      | 0, h => cases h; exact List.mem_cons_self
      | j + 1, h =>
        have := ih (i + 1) j v h
        rw [show i + 1 + j = i + (j + 1) by omega] at this
        exact List.mem_cons_of_mem _ this
    | .inr (.inr (some q)) =>
      show (i + j, sl_tv g v) ∈ (i, Value.ref (sl_ad g q.1 q.2)) :: lv_args (i + 1) (As.map (sl_tv g))
      match j, h with
      | 0, h => cases h; exact List.mem_cons_self
      | j + 1, h =>
        have := ih (i + 1) j v h
        rw [show i + 1 + j = i + (j + 1) by omega] at this
        exact List.mem_cons_of_mem _ this
theorem sl_slots_wk : ∀ (As : List sl_V), (∀ v ∈ As, sl_wk v) → sl_wkL (sl_slots As) := by
  intro As
  induction As with
  | nil => intro _ i v h; cases h
  | cons a As ih =>
    intro hw i v h
    have ih := ih (fun v hv => hw v (List.mem_cons_of_mem _ hv))
    match a, i, h with
    | .inr (.inl x), 0, h => cases h; trivial
    | .inr (.inl x), 1, h => cases h
    | .inr (.inl x), i + 2, h => exact ih i v h
    | .inl x, 0, h => cases h; trivial
    | .inl x, i + 1, h => exact ih i v h
    | .inr (.inr none), 0, h => cases h; trivial
    | .inr (.inr none), i + 1, h => exact ih i v h
    | .inr (.inr (some q)), 0, h => cases h; exact hw _ List.mem_cons_self
    | .inr (.inr (some q)), i + 1, h => exact ih i v h
theorem sl_slots_len {g : sl_G} : ∀ (As : List sl_V), (lg_sl (As.map (sl_tv g))).length = (sl_slots As).length := by
  intro As
  induction As with
  | nil => rfl
  | cons a As ih =>
    match a with
    | .inr (.inl x) => 
      show (Slot.val (.long x) :: Slot.second :: lg_sl (As.map (sl_tv g))).length = _
      simp [sl_slots, ih]
    | .inl x =>
      show (Slot.val (.int x) :: lg_sl (As.map (sl_tv g))).length = _
      simp [sl_slots, ih]
    | .inr (.inr none) =>
      show (Slot.val .null :: lg_sl (As.map (sl_tv g))).length = _
      simp [sl_slots, ih]
    | .inr (.inr (some q)) =>
      show (Slot.val (.ref _) :: lg_sl (As.map (sl_tv g))).length = _
      simp [sl_slots, ih]
theorem sl_mk (g : sl_G) {y : MethodName} {own : String} {cc : ByteArray} {nL hh : Nat} {rt : Option FieldType} {lk : sl_Lk} {cx : List (Nat × Nat)} {ct : List sl_Ct} {cd : List sl_Ent} (msk : List Bool) {As : List sl_V} {μ : sl_M} {Q : sl_Qt} (hy : plainName y.cls = true) (hyc : y.cls = own) (hw : ∀ v ∈ As, sl_wk v) (hln : (sl_slots As).length ≤ nL) (HL : sl_LkOK own lk) (HC : sl_HC g own hh ct cx) (htb : sl_tbOK own cc nL rt lk cx cd = true)
    (body : ∀ X : sl_X, sl_MC g X own cc nL hh rt Q lk cx ct (sl_mc msk (sl_slots As)) cd → sl_Vw g X nL (sl_mc msk (sl_slots As)) 0 (sl_ml msk (sl_slots As)) [] μ) : sl_Met g y cc nL rt hh As μ Q := by
  unfold sl_Met
  refine Met.ofW (cc := cc) (maxL := nL) (ret := rt) hy rfl ?_
  intro p e s m args below meth c s₁ B hml hv
  obtain ⟨rfl, hWd, hK⟩ := hv
  have hts := atoms_spec (ws := Cond.code y cc nL rt :: sl_T0) B.pre
  have hown : s.vm.findClass own = some m.cls := hyc ▸ findClass_of_methodNamed B.named
  have hl := lv_entry (As.map (sl_tv g)) (n := nL) (by rw [sl_slots_len]; exact hln)
  rw [lg_entry_eq]
  generalize (lg_sl (As.map (sl_tv g)) ++ List.replicate (nL - (lg_sl (As.map (sl_tv g))).length) Slot.unset).toArray = ls at hl ⊢
  have wk0 := sl_slots_wk As hw
  have hlh : sl_lh g ls nL (sl_mc msk (sl_slots As)) (sl_ml msk (sl_slots As)) := by
    refine ⟨hl.1, hl.2.1, fun i v h => ?_⟩
    have := sl_slots_args (g := g) As 0 i v (sl_m_get _ _ _ _ h)
    rw [Nat.zero_add] at this
    exact hl.2.2 _ this
  have wc : sl_wkL (sl_mc msk (sl_slots As)) := fun i v h => by
    refine wk0 i v (sl_m_get msk _ i v ?_)
    unfold sl_get
    rw [h]
  exact body (p, e, sl_rm hh, s, m, (As.map (sl_tv g)).toArray, below, meth, c, 0, 0, MQ below (sl_Qc g Q) (As.map (sl_tv g)).toArray s 0 0 (sl_A g)) ⟨⟨B.exec, B.bytes, hml, hown, fun w hw => hts w (List.mem_cons_of_mem _ hw), hK, Nat.le_refl _, Nat.le_refl _, Nat.le_refl _, Nat.le_refl _⟩, ⟨B.returns, B.notSynchronized, rfl⟩, HL, HC, wc, htb⟩ s.heap [] ls hWd va_S.rf hlh
