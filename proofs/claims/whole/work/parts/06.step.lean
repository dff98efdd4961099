/-! the tables' check of an instruction, and its step -/
def sl_tsOK (pc : Nat) : Int → List Int → List (Int32 × Nat) → Bool
  | _, [], [] => true
  | lo, o :: os, q :: r => decide (q.1.toInt = lo) && (decide ((pc : Int) + o = (q.2 : Int)) && sl_tsOK pc (lo + 1) os r)
  | _, _, _ => false
def sl_lsOK (pc : Nat) : List (Int × Int) → List (Int32 × Nat) → Bool
  | [], [] => true
  | a :: os, q :: r => decide (q.1.toInt = a.1) && (decide ((pc : Int) + a.2 = (q.2 : Int)) && sl_lsOK pc os r)
  | _, _ => false
/-- the links of a class: fields (index, class, place), ints and longs (index, value) -/
abbrev sl_Lk : Type := List (Nat × Nat × Nat) × List (Nat × Int32) × List (Nat × Int32)
def sl_LkOK (own : String) (lk : sl_Lk) : Prop := (∀ q ∈ lk.1, ∃ (C : String) (T : u_T) (N : Nat) (t0 : Nat → FieldType), sl_cl[q.2.1]? = some (C, T, N) ∧ q.2.2 < N ∧ (T q.2.2).1 = C ∧ Cond.fieldLink own q.1 C (T q.2.2).2.1 (T q.2.2).2.2.1 ∈ sl_T0 ∧ (∀ w ∈ u_ws C T N, w ∈ sl_T0) ∧ (∀ k, k < N → parseFieldDescriptor (T k).2.2.1 = some (t0 k)) ∧ (∀ a, a < N → ∀ b, b < N → a ≠ b → (T a).2.1 ≠ (T b).2.1)) ∧ (∀ q ∈ lk.2.1, Cond.constant own q.1 q.2 ∈ sl_T0) ∧ ∀ q ∈ lk.2.2, Cond.constantLong own q.1 q.2.toInt64 ∈ sl_T0
/-- a field that may be written: its kind agrees with its descriptor, it isn't final -/
def sl_pfOK (c k ty : Nat) : Bool := match sl_cl[c]? with
  | some q => (q.2.1 k).2.2.2 == false && (match ty with
    | 0 => (q.2.1 k).2.2.1 == "I"
    | 1 => (q.2.1 k).2.2.1 == "Z"
    | _ => false)
  | none => false
def sl_okE (own : String) (nL : Nat) (rt : Option FieldType) (lk : sl_Lk) (cx : List (Nat × Nat)) (e : sl_Ent) : Bool := match e with
  | (pc, ins, len, x, d, sw, _) => match ins with
    | .iconst n => decide (Int32.ofInt n = x) && decide (len = 1)
    | .bipush n => decide ((Int8.ofInt n).toInt32 = x) && decide (len = 2)
    | .sipush n => decide ((Int16.ofInt n).toInt32 = x) && decide (len = 3)
    | .ldc i => decide (len = 2) && (match d with
      | [] => lk.2.1.contains (i, x)
      | o :: _ => decide (o < 2) && (decide (own = sl_own o) && decide (i = sl_six o)))
    | .ldc_w i => decide (len = 3) && lk.2.1.contains (i, x)
    | .lconst n => decide (Int64.ofNat (n : Nat) = x.toInt64) && decide (len = 1)
    | .ldc2_w i => decide (len = 3) && lk.2.2.contains (i, x)
    | .iload _ => decide (len = 2)
    | .lload _ => decide (len = 2)
    | .aload _ => decide (len = 2)
    | .iload_n k => decide (len = 1) && decide ((k : Nat) = d.headD 0)
    | .lload_n k => decide (len = 1) && decide ((k : Nat) = d.headD 0)
    | .aload_n k => decide (len = 1) && decide ((k : Nat) = d.headD 0)
    | .istore i => decide (len = 2) && decide (i < nL)
    | .lstore i => decide (len = 2) && decide (i + 1 < nL)
    | .astore i => decide (len = 2) && decide (i < nL)
    | .istore_n k => decide (len = 1) && (decide ((k : Nat) = d.headD 0) && decide (d.headD 0 < nL))
    | .lstore_n k => decide (len = 1) && (decide ((k : Nat) = d.headD 0) && decide (d.headD 0 + 1 < nL))
    | .astore_n k => decide (len = 1) && (decide ((k : Nat) = d.headD 0) && decide (d.headD 0 < nL))
    | .iinc i n => decide (len = 3) && (decide (Int32.ofInt n = x) && decide (i < nL))
    | .ifCond _ off => decide (len = 3) && decide ((pc : Int) + off = ((d.headD 0 : Nat) : Int))
    | .if_icmp _ off => decide (len = 3) && decide ((pc : Int) + off = ((d.headD 0 : Nat) : Int))
    | .ifnull off => decide (len = 3) && decide ((pc : Int) + off = ((d.headD 0 : Nat) : Int))
    | .ifnonnull off => decide (len = 3) && decide ((pc : Int) + off = ((d.headD 0 : Nat) : Int))
    | .goto off => decide (len = 3) && decide ((pc : Int) + off = ((d.headD 0 : Nat) : Int))
    | .tableswitch dflt lo hi offs => decide ((pc : Int) + dflt = ((d.headD 0 : Nat) : Int)) && (decide (hi + 1 = lo + (offs.toList.length : Int)) && sl_tsOK pc lo offs.toList sw)
    | .lookupswitch dflt ps => decide ((pc : Int) + dflt = ((d.headD 0 : Nat) : Int)) && ((ps.toList.zip (ps.toList.drop 1)).all (fun (a, next) => a.1 < next.1) && sl_lsOK pc ps.toList sw)
    | .ireturn => decide (len = 1) && (match d with
      | [] => decide (rt = some .int)
      | _ => decide (rt = some .boolean))
    | .lreturn => decide (len = 1) && decide (rt = some .long)
    | .areturn => decide (len = 1) && (match rt with
      | some (.object _) => true
      | _ => false)
    | .return_ => decide (len = 1) && decide (rt = none)
    | .getfield i => decide (len = 3) && (match d with
      | [c, k, ty, rc, off] => lk.1.contains (i, c, k) && (decide (sl_fi c k = (ty, rc, off)) && (decide (c < 20) && (decide (k < sl_nf c) && decide (rc < 90))))
      | _ => false)
    | .putfield i => decide (len = 3) && (match d with
      | [c, k, ty] => lk.1.contains (i, c, k) && (decide ((sl_fi c k).1 = ty) && (sl_pfOK c k ty && (decide (c < 20) && decide (k < sl_nf c))))
      | _ => false)
    | .invokevirtual i => decide (len = 3) && decide (cx[d.headD 0]? = some (i, 0))
    | .invokestatic i => decide (len = 3) && decide (cx[d.headD 0]? = some (i, 1))
    | _ => decide (len = 1)
def sl_HC (g : sl_G) (own : String) (h : Nat) (ct : List sl_Ct) (cx : List (Nat × Nat)) : Prop := ∀ (j : Nat) (q : sl_Ct), ct[j]? = some q → ∃ idx : Nat, cx[j]? = some (idx, q.2.1) ∧ sl_CallS g own idx q.2.1 q.2.2.1 h q.1 q.2.2.2
theorem sl_HC_nil (g : sl_G) (own : String) (h : Nat) : sl_HC g own h [] [] := fun j q hq => by simp at hq
theorem sl_HC_cons {g : sl_G} {own : String} {h : Nat} {ct : List sl_Ct} {cx : List (Nat × Nat)} {idx kind ci n : Nat} {pt : sl_PT} (h1 : sl_CallS g own idx kind ci h n pt) (h2 : sl_HC g own h ct cx) : sl_HC g own h ((n, kind, ci, pt) :: ct) ((idx, kind) :: cx) := by
  intro j q hq
  cases j with
  | zero =>
    simp at hq
    subst hq
    exact ⟨idx, rfl, h1⟩
  | succ j =>
    obtain ⟨i, a, b⟩ := h2 j q (by simpa using hq)
    exact ⟨i, by simpa using a, b⟩
theorem sl_pop_spec : ∀ (n : Nat) (acc st as st' : List sl_V), sl_pop n acc st = some (as, st') → acc.reverse ++ st = as.reverse ++ st' ∧ as.length = acc.length + n ∧ (∀ v ∈ as, v ∈ acc ∨ v ∈ st) ∧ ∀ v ∈ st', v ∈ st := by
  intro n
  induction n with
  | zero =>
    intro acc st as st' h
    cases h
    exact ⟨rfl, rfl, fun v h => Or.inl h, fun v h => h⟩
  | succ n ih =>
    intro acc st as st' h
    cases st with
    | nil => cases h
    | cons v st =>
      obtain ⟨h1, h2, h3, h4⟩ := ih (v :: acc) st as st' h
      refine ⟨by rw [← h1]; simp, by rw [h2]; simp; omega, fun w hw => ?_, fun w hw => List.mem_cons_of_mem _ (h4 w hw)⟩
      rcases h3 w hw with h | h
      · rcases List.mem_cons.mp h with rfl | h
        · exact Or.inr List.mem_cons_self
        · exact Or.inl h
      · exact Or.inr (List.mem_cons_of_mem _ h)
theorem sl_cat_map (g : sl_G) (st : List sl_V) : (List.map (fun v => v.category) (st.map (sl_tv g))).sum = sl_cat st := by
  induction st with
  | nil => rfl
  | cons v st ih =>
    have hv : (sl_tv g v).category = sl_ctg v := by
      match v with
      | .inl x => rfl
      | .inr (.inl x) => rfl
      | .inr (.inr none) => rfl
      | .inr (.inr (some q)) => rfl
    simp only [List.map_cons, List.sum_cons, sl_cat]
    rw [ih, hv]
theorem sl_ts_spec {pc : Nat} {v : Int32} {D : Prop} {J : Nat → Prop} : ∀ (os : List Int) (sw : List (Int32 × Nat)) (lo : Int), sl_tsOK pc lo os sw = true → sl_sw v D J sw → (∃ (i : Nat) (o : Int) (t : Nat), os[i]? = some o ∧ v.toInt = lo + (i : Int) ∧ (pc : Int) + o = (t : Int) ∧ J t) ∨ ((v.toInt < lo ∨ lo + (os.length : Int) ≤ v.toInt) ∧ D) := by
  intro os
  induction os with
  | nil =>
    intro sw lo h1 h2
    cases sw with
    | nil => exact Or.inr ⟨by simp; omega, h2⟩
    | cons q r => cases h1
  | cons o os ih =>
    intro sw lo h1 h2
    cases sw with
    | nil => cases h1
    | cons q r =>
      simp only [sl_tsOK, Bool.and_eq_true, decide_eq_true_eq] at h1
      obtain ⟨e1, e2, e3⟩ := h1
      by_cases hv : v = q.1
      · exact Or.inl ⟨0, o, q.2, rfl, by rw [hv, e1]; simp, e2, h2.1 hv⟩
      · have hne : ¬ v.toInt = lo := fun h => hv (Int32.toInt_inj.mp (h.trans e1.symm))
        rcases ih r (lo + 1) e3 (h2.2 hv) with ⟨i, o', t, g1, g2, g3, g4⟩ | ⟨g1, g2⟩
        · exact Or.inl ⟨i + 1, o', t, by simpa using g1, by rw [g2]; push_cast; omega, g3, g4⟩
        · refine Or.inr ⟨?_, g2⟩
          simp only [List.length_cons]
          push_cast
          rcases g1 with g1 | g1
          · left; omega
          · right; omega
theorem sl_ls_spec {pc : Nat} {v : Int32} {D : Prop} {J : Nat → Prop} {dflt : Int} {t0 : Nat} (h0 : (pc : Int) + dflt = (t0 : Int)) (hD : D → J t0) : ∀ (os : List (Int × Int)) (sw : List (Int32 × Nat)), sl_lsOK pc os sw = true → sl_sw v D J sw → ∃ (o : Int) (t : Nat), Op.lookupswitch.offset os dflt v.toInt = o ∧ (pc : Int) + o = (t : Int) ∧ J t := by
  intro os
  induction os with
  | nil =>
    intro sw h1 h2
    cases sw with
    | nil => exact ⟨dflt, t0, rfl, h0, hD h2⟩
    | cons q r => cases h1
  | cons o os ih =>
    intro sw h1 h2
    cases sw with
    | nil => cases h1
    | cons q r =>
      obtain ⟨a, o⟩ := o
      simp only [sl_lsOK, Bool.and_eq_true, decide_eq_true_eq] at h1
      obtain ⟨e1, e2, e3⟩ := h1
      by_cases hv : v = q.1
      · refine ⟨o, q.2, ?_, e2, h2.1 hv⟩
        rw [Op.lookupswitch.offset_cons, if_pos (by rw [hv, e1])]
      · obtain ⟨o', t, g1, g2, g3⟩ := ih r e3 (h2.2 hv)
        exact ⟨o', t, by rw [lv_osw hv e1]; exact g1, g2, g3⟩
