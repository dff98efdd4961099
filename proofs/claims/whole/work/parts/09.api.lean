/-! what the printed methods use -/
abbrev sl_ET : Type := Int32 → sl_M → (Int32 → sl_M → Prop) → Prop
theorem sl_mk2 (g : sl_G) {y : MethodName} {own : String} {cc : ByteArray} {nL hh : Nat} {rt : Option FieldType} {lk : sl_Lk} {cx : List (Nat × Nat)} {ct : List sl_Ct} {cd : List sl_Ent} (msk : List Bool) {As : List sl_V} {μ : sl_M} {Q : sl_Qt} {cst lv0 : sl_L} (hy : plainName y.cls = true) (hyc : y.cls = own) (hw : ∀ v ∈ As, sl_wk v) (hln : Nat.ble (sl_slots As).length nL = true) (e1 : sl_mc msk (sl_slots As) = cst) (e2 : sl_ml msk (sl_slots As) = lv0) (HL : sl_LkOK own lk) (HC : sl_HC g own hh ct cx) (htb : sl_tbOK own cc nL rt lk cx cd = true) (hpc : sl_pcs cd = 0)
    (body : ∀ X : sl_X, sl_MC g X own cc nL hh rt Q lk cx ct cst cd → ∃ cuts, sl_VV g X nL cst cuts ∧ sl_wp cd ct cst Q cuts 1000 true cd lv0 [] μ) : sl_Met g y cc nL rt hh As μ Q := by
  subst e1
  subst e2
  refine sl_mk g msk hy hyc hw (Nat.le_of_ble_eq_true hln) HL HC htb (fun X M => ?_)
  obtain ⟨cuts, vv, h⟩ := body X M
  have wl : sl_wkL (sl_ml msk (sl_slots As)) := fun i v h => by
    refine sl_slots_wk As hw i v ?_
    cases hc : sl_nth (sl_mc msk (sl_slots As)) i with
    | none =>
      refine sl_m_get msk _ i v ?_
      unfold sl_get
      rw [hc]
      exact h
    | some w =>
      exfalso
      have : ∀ (m : List Bool) (l : sl_L) (i : Nat) (v w : sl_V), sl_nth (sl_ml m l) i = some v → sl_nth (sl_mc m l) i = some w → False := by
        intro m
        induction m with
        | nil => intro l i v w h1 h2; cases l <;> cases h2
        | cons b m ih =>
          intro l i v w h1 h2
          cases l with
          | nil => cases b <;> cases h2
          | cons a l =>
            cases b <;> cases i with
            | zero => first | (cases h2; done) | (cases h1; done)
            | succ i => exact ih l i v w h1 h2
      exact this _ _ _ _ _ h hc
  have := sl_run M vv 1000 true cd htb _ [] μ wl (fun v hv => by cases hv) h
  rw [hpc] at this
  exact this
/-! Math.max, min, abs: rows of the kit -/
def ma_max (a0 : Int32) (a1 : Int32) (μ : sl_M) (Q : Int32 → sl_M → Prop) : Prop := (a0 < a1 → Q a1 μ) ∧ (¬ a0 < a1 → Q a0 μ)
def ma_max_pt : sl_PT := fun As μ Q => match As with
  | [.inl a0, .inl a1] => ma_max a0 a1 μ (fun r μ' => Q (some (.inl r)) μ')
  | _ => False
def ma_min (a0 : Int32) (a1 : Int32) (μ : sl_M) (Q : Int32 → sl_M → Prop) : Prop := (a1 < a0 → Q a1 μ) ∧ (¬ a1 < a0 → Q a0 μ)
def ma_min_pt : sl_PT := fun As μ Q => match As with
  | [.inl a0, .inl a1] => ma_min a0 a1 μ (fun r μ' => Q (some (.inl r)) μ')
  | _ => False
def ma_abs (a0 : Int32) (μ : sl_M) (Q : Int32 → sl_M → Prop) : Prop := (0 ≤ a0 → Q a0 μ) ∧ (¬ 0 ≤ a0 → Q (0 - a0) μ)
def ma_abs_pt : sl_PT := fun As μ Q => match As with
  | [.inl a0] => ma_abs a0 μ (fun r μ' => Q (some (.inl r)) μ')
  | _ => False
theorem sl_callMax {g : sl_G} {own : String} {idx h : Nat} (hh : 1 ≤ h) (w1 : Cond.methodLink own idx Lib.Math.max.name ∈ sl_T0) (w2 : Cond.static Lib.Math.max.name ∈ sl_T0) (w4 : Cond.initialized "java/lang/Math" ∈ sl_T0) (w5 : Cond.code Lib.Math.max.name Lib.Math.max.code 2 (some .int) ∈ sl_T0) : sl_CallS g own idx 1 0 h 2 ma_max_pt := by
  intro p e R s m args below meth c cells slots Qp cc nL F pc hdec μ H locs ls As rest Q' hn hw hrc hWd hS hsz hcat hpt kk
  obtain ⟨hx, hb, hml, hown, hts, hK, hf, hl, hc, hsl⟩ := F
  unfold ma_max_pt at hpt
  split at hpt
  next a0 a1 =>
    refine va_mmax (rest := rest) hx hb (hml.trans hsz.symm) hown (hts _ w1) (hts _ w2) (hts _ w4) (hts _ w5) (by omega) (by omega) hc hsl hdec ?_
    split
    next hlt => exact kk (some (.inl a1)) μ H locs (hpt.1 hlt) (fun v hv => by cases hv; trivial) hWd hS
    next hlt => exact kk (some (.inl a0)) μ H locs (hpt.2 hlt) (fun v hv => by cases hv; trivial) hWd hS
  next => exact hpt.elim
theorem sl_callMin {g : sl_G} {own : String} {idx h : Nat} (hh : 1 ≤ h) (w1 : Cond.methodLink own idx Lib.Math.min.name ∈ sl_T0) (w2 : Cond.static Lib.Math.min.name ∈ sl_T0) (w4 : Cond.initialized "java/lang/Math" ∈ sl_T0) (w5 : Cond.code Lib.Math.min.name Lib.Math.min.code 2 (some .int) ∈ sl_T0) : sl_CallS g own idx 1 0 h 2 ma_min_pt := by
  intro p e R s m args below meth c cells slots Qp cc nL F pc hdec μ H locs ls As rest Q' hn hw hrc hWd hS hsz hcat hpt kk
  obtain ⟨hx, hb, hml, hown, hts, hK, hf, hl, hc, hsl⟩ := F
  unfold ma_min_pt at hpt
  split at hpt
  next a0 a1 =>
    refine va_mmin (rest := rest) hx hb (hml.trans hsz.symm) hown (hts _ w1) (hts _ w2) (hts _ w4) (hts _ w5) (by omega) (by omega) hc hsl hdec ?_
    split
    next hlt => exact kk (some (.inl a1)) μ H locs (hpt.1 hlt) (fun v hv => by cases hv; trivial) hWd hS
    next hlt => exact kk (some (.inl a0)) μ H locs (hpt.2 hlt) (fun v hv => by cases hv; trivial) hWd hS
  next => exact hpt.elim
theorem sl_callAbs {g : sl_G} {own : String} {idx h : Nat} (hh : 1 ≤ h) (w1 : Cond.methodLink own idx Lib.Math.abs.name ∈ sl_T0) (w2 : Cond.static Lib.Math.abs.name ∈ sl_T0) (w4 : Cond.initialized "java/lang/Math" ∈ sl_T0) (w5 : Cond.code Lib.Math.abs.name Lib.Math.abs.code 1 (some .int) ∈ sl_T0) : sl_CallS g own idx 1 0 h 1 ma_abs_pt := by
  intro p e R s m args below meth c cells slots Qp cc nL F pc hdec μ H locs ls As rest Q' hn hw hrc hWd hS hsz hcat hpt kk
  obtain ⟨hx, hb, hml, hown, hts, hK, hf, hl, hc, hsl⟩ := F
  unfold ma_abs_pt at hpt
  split at hpt
  next a0 =>
    refine va_mabs (rest := rest) hx hb (hml.trans hsz.symm) hown (hts _ w1) (hts _ w2) (hts _ w4) (hts _ w5) (by omega) (by omega) hc hsl hdec ?_
    split
    next hlt => exact kk (some (.inl a0)) μ H locs (hpt.1 hlt) (fun v hv => by cases hv; trivial) hWd hS
    next hlt => exact kk (some (.inl (0 - a0))) μ H locs (hpt.2 hlt) (fun v hv => by cases hv; trivial) hWd hS
  next => exact hpt.elim
