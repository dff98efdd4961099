/-! what the printed methods use -/
abbrev sl_ET : Type := Int32 → sl_M → (Int32 → sl_M → Prop) → Prop
theorem sl_mk2 (g : sl_G) {y : MethodName} {own : String} {cc : ByteArray} {nL hh : Nat} {rt : Option FieldType} {lk : sl_Lk} {cx : List (Nat × Nat)} {ct : List sl_Ct} {cd : List sl_Ent} (msk : List Bool) {As : List sl_V} {μ : sl_M} {Q : sl_Qt} {cst lv0 : sl_L} (hy : plainName y.cls = true) (hyc : y.cls = own) (hw : ∀ v ∈ As, sl_wk v) (hln : Nat.ble (sl_slots As).length nL = true) (e1 : sl_mc msk (sl_slots As) = cst) (e2 : sl_ml msk (sl_slots As) = lv0) (HL : sl_LkOK own lk) (HC : sl_HC g own hh ct cx) (htb : sl_tbOK own cc nL rt lk cx cd = true) (hpc : sl_pcs cd = 0)
    (body : ∀ X : sl_X, sl_MC g X own cc nL hh rt Q lk cx ct cst cd → ∃ cuts, sl_VV g X nL cst cuts ∧ sl_wp cd ct cst Q cuts 1000 true cd lv0 [] μ) : sl_Met g y cc nL rt hh As μ Q := by
  subst e1
  subst e2
  refine sl_mk g msk hy hyc hw (Nat.le_of_ble_eq_true hln) HL HC htb (fun X M => ?_)
  obtain ⟨cuts, vv, h⟩ := body X M
  have wl : sl_wkL (sl_ml msk (sl_slots As)) := fun i v h => by
    refine sl_slots_wk As hw i v ?_
    cases hc : sl_nth (sl_mc msk (sl_slots As)) i with
    | none =>
      refine sl_m_get msk _ i v ?_
      unfold sl_get
      rw [hc]
      exact h
    | some w =>
      exfalso
      have : ∀ (m : List Bool) (l : sl_L) (i : Nat) (v w : sl_V), sl_nth (sl_ml m l) i = some v → sl_nth (sl_mc m l) i = some w → False := by
        intro m
        induction m with
        | nil => intro l i v w h1 h2; cases l <;> cases h2
        | cons b m ih =>
          intro l i v w h1 h2
          cases l with
          | nil => cases b <;> cases h2
          | cons a l =>
            cases b <;> cases i with
            | zero => first | (cases h2; done) | (cases h1; done)
            | succ i => exact ih l i v w h1 h2
      exact this _ _ _ _ _ h hc
  have := sl_run M vv 1000 true cd htb _ [] μ wl (fun v hv => by cases hv) h
  rw [hpc] at this
  exact this
