/-! THE SMALL MACHINE: values (int, long, reference by class and number, null), memory by cells and places, the world of all cells -/
abbrev sl_V : Type := Int32 ⊕ (Int64 ⊕ Option (Nat × Nat))
abbrev sl_M : Type := Nat → Nat → Int32
abbrev sl_L : Type := List (Option sl_V)
abbrev sl_Qt : Type := Option sl_V → sl_M → Prop
abbrev sl_PT : Type := List sl_V → sl_M → sl_Qt → Prop
abbrev sl_It : Type := sl_L → List sl_V → sl_M → Prop
abbrev sl_Ent : Type := Nat × Instr × Nat × Int32 × List Nat × List (Int32 × Nat) × Bool
abbrev sl_Ct : Type := Nat × Nat × Nat × sl_PT
/-- launch, class ids, slots of fields, classes of arrays, first address of the world, addresses of what lies outside it (90: texts, 92: their bytes) -/
abbrev sl_G : Type := Launch × (Nat → ClassId) × (Nat → Nat → Nat) × (Nat → ClassId) × Nat × (Nat → Nat → Nat)
def sl_kd (o : Nat) : Nat := sl_kinds.getD o 99
def sl_len (o : Nat) : Nat := sl_lens.getD o 0
def sl_fi (c k : Nat) : Nat × Nat × Nat := (sl_ft.getD c []).getD k (9, 0, 0)
def sl_nf (c : Nat) : Nat := (sl_ft.getD c []).length
def sl_bz (x : Int32) : Int32 := if x = 0 then 0 else 1
def sl_up (μ : sl_M) (o k : Nat) (v : Int32) : sl_M := fun o' k' => if o' = o ∧ k' = k then v else μ o' k'
def sl_gD (g : sl_G) : va_G := (g.2.1, g.2.2.1)
def sl_ca (g : sl_G) : Nat → ClassId := g.2.2.2.1
def sl_b (g : sl_G) : Nat := g.2.2.2.2.1
def sl_gs (g : sl_G) : Nat → Nat → Nat := g.2.2.2.2.2
def sl_A (g : sl_G) : Nat → Prop := fun q => sl_b g ≤ q
def sl_ad (g : sl_G) (c o : Nat) : Nat := if c < 90 then sl_b g + o else if c < 93 then sl_gs g c o else o
def sl_tv (g : sl_G) : sl_V → Value
  | .inl x => .int x
  | .inr (.inl x) => .long x
  | .inr (.inr none) => .null
  | .inr (.inr (some q)) => .ref (sl_ad g q.1 q.2)
def sl_wk : sl_V → Prop
  | .inr (.inr (some q)) => q.1 < 90 → sl_kd q.2 = q.1
  | _ => True
def sl_rf (f : Nat → Option Nat) : (Nat → Int32) ⊕ (Nat → Int64) ⊕ (Nat → UInt32) ⊕ (Nat → UInt64) ⊕ (Nat → Option Nat) := .inr (.inr (.inr (.inr f)))
def sl_fv (g : sl_G) (μ : sl_M) (c o k : Nat) : Value := match sl_fi c k with
  | (0, _, _) => .int (μ o k)
  | (1, _, _) => .int (sl_bz (μ o k))
  | (_, _, off) => .ref (sl_b g + (o + off))
def sl_E (g : sl_G) (μ : sl_M) (o : Nat) : va_E := match sl_kd o with
  | 20 => .inl (sl_ca g 0, sl_len o, .inl (μ o))
  | 21 => .inl (sl_ca g 1, sl_len o, .inl (fun i => sl_bz (μ o i)))
  | 22 => .inl (sl_ca g 2, sl_len o, sl_rf (fun i => some (sl_b g + (o + 2 + i))))
  | 23 => .inl (sl_ca g 2, sl_len o, sl_rf (fun i => some (sl_b g + (μ o i).toNatClampNeg)))
  | 24 => .inl (sl_ca g 3, sl_len o, sl_rf (fun i => some (sl_b g + (o + 48 + 2 * i))))
  | 25 => .inl (sl_ca g 4, sl_len o, sl_rf (fun i => some (sl_b g + (o + 40 + 2 * i))))
  | c => .inr (c, (List.range (sl_nf c)).map (sl_fv g μ c o))
def sl_wl (g : sl_G) (μ : sl_M) : va_W := (List.range sl_N).map (fun o => (sl_b g + o, sl_E g μ o))
def sl_Wd (g : sl_G) (μ : sl_M) (H : Heap) : Prop := va_P (sl_gD g) sl_cl (sl_wl g μ) H
def sl_tys (g : sl_G) : List (ClassId × FieldType) := [(sl_ca g 0, .int), (sl_ca g 1, .boolean), (sl_ca g 2, .object sl_R9), (sl_ca g 3, .object sl_R4), (sl_ca g 4, .object sl_R8)]
theorem sl_kd_lt {o : Nat} (h : sl_kd o ≠ 99) : o < sl_N := by
  rcases Nat.lt_or_ge o sl_N with q | q
  · exact q
  · refine absurd ?_ h
    unfold sl_kd
    rw [List.getD_eq_getElem?_getD, List.getElem?_eq_none (show sl_kinds.length ≤ o from Nat.le_trans (show sl_kinds.length ≤ sl_N by decide +kernel) q)]
    rfl
theorem sl_wl_get (g : sl_G) (μ : sl_M) {o : Nat} (h : o < sl_N) : (sl_wl g μ)[o]? = some (sl_b g + o, sl_E g μ o) := by
  unfold sl_wl
  rw [List.getElem?_map, List.getElem?_range h]
  rfl
theorem sl_wl_len (g : sl_G) (μ : sl_M) : (sl_wl g μ).length = sl_N := by
  unfold sl_wl
  rw [List.length_map, List.length_range]
theorem sl_wl_inv {g : sl_G} {μ : sl_M} {o : Nat} {q : Nat × va_E} (h : (sl_wl g μ)[o]? = some q) : o < sl_N ∧ q = (sl_b g + o, sl_E g μ o) := by
  have h1 : o < (sl_wl g μ).length := (List.getElem?_eq_some_iff.mp h).1
  rw [sl_wl_len] at h1
  rw [sl_wl_get g μ h1] at h
  exact ⟨h1, (Option.some.inj h).symm⟩
theorem sl_wl_D (g : sl_G) (μ : sl_M) : va_D (sl_A g) (sl_wl g μ) := by
  refine ⟨fun i j p q hi hj hpq => ?_, fun k q hk => ?_⟩
  · obtain ⟨-, rfl⟩ := sl_wl_inv hi
    obtain ⟨-, rfl⟩ := sl_wl_inv hj
    exact Nat.add_left_cancel hpq
  · obtain ⟨-, rfl⟩ := sl_wl_inv hk
    exact Nat.le_add_right _ _
theorem sl_E_congr {g : sl_G} {μ μ' : sl_M} {o : Nat} (h : μ' o = μ o) : sl_E g μ' o = sl_E g μ o := by
  unfold sl_E sl_fv
  rw [h]
theorem sl_wl_set {g : sl_G} {μ μ' : sl_M} {o : Nat} {e : va_E} (ho : o < sl_N) (he : sl_E g μ' o = e) (hr : ∀ o', o' ≠ o → μ' o' = μ o') : (sl_wl g μ).set o (sl_b g + o, e) = sl_wl g μ' := by
  apply List.ext_getElem?
  intro i
  rw [List.getElem?_set]
  by_cases hi : o = i
  · subst hi
    rw [if_pos rfl, if_pos (by rw [sl_wl_len]; exact ho), sl_wl_get g μ' ho, he]
  · rw [if_neg hi]
    rcases Nat.lt_or_ge i sl_N with q | q
    · rw [sl_wl_get g μ q, sl_wl_get g μ' q, sl_E_congr (hr i (fun h => hi h.symm))]
    · rw [List.getElem?_eq_none (by rw [sl_wl_len]; exact q), List.getElem?_eq_none (by rw [sl_wl_len]; exact q)]
theorem sl_up_row {μ : sl_M} {o k : Nat} {v : Int32} {o' : Nat} (h : o' ≠ o) : sl_up μ o k v o' = μ o' := by
  funext k'
  unfold sl_up
  rw [if_neg (fun q => h q.1)]
theorem sl_up_at {μ : sl_M} {o k : Nat} {v : Int32} : sl_up μ o k v o = upd (μ o) k v := by
  funext k'
  unfold sl_up upd
  by_cases h : k' = k
  · rw [if_pos ⟨rfl, h⟩, if_pos h]
  · rw [if_neg (fun q => h q.2), if_neg h]
/-! locals -/
def sl_nth : sl_L → Nat → Option sl_V
  | [], _ => none
  | a :: _, 0 => a
  | _ :: l, n + 1 => sl_nth l n
def sl_get (cst lv : sl_L) (i : Nat) : Option sl_V := match sl_nth cst i with
  | some v => some v
  | none => sl_nth lv i
def sl_set : sl_L → Nat → Option sl_V → sl_L
  | [], _, _ => []
  | _ :: l, 0, v => v :: l
  | a :: l, n + 1, v => a :: sl_set l n v
def sl_isJ : Option sl_V → Bool
  | some (.inr (.inl _)) => true
  | _ => false
/-- what is left of a long whose second half is written -/
def sl_kill : Option sl_V → Option sl_V
  | some (.inr (.inl _)) => none
  | v => v
def sl_kl : sl_L → Nat → sl_L
  | [], _ => []
  | a :: l, 0 => a :: l
  | a :: l, 1 => sl_kill a :: l
  | a :: l, n + 2 => a :: sl_kl l (n + 1)
def sl_sto (lv : sl_L) (i : Nat) (v : Option sl_V) : sl_L := sl_set (sl_kl lv i) i v
/-- whether a place may be written: it is no constant one, no constant long begins just ahead of it -/
def sl_wr (cst : sl_L) (i : Nat) : Bool := (sl_nth cst i).isNone && (match i with
  | 0 => true
  | j + 1 => !(sl_isJ (sl_nth cst j)))
def sl_lh (g : sl_G) (ls : Array Slot) (nL : Nat) (cst lv : sl_L) : Prop := ls.size = nL ∧ lv_wf ls ∧ ∀ (i : Nat) (v : sl_V), sl_get cst lv i = some v → ls[i]? = some (.val (sl_tv g v))
def sl_prs (g : sl_G) (cst lv : sl_L) (nL : Nat) : List (Nat × Value) := (List.range nL).filterMap (fun i => (sl_get cst lv i).map (fun v => (i, sl_tv g v)))
theorem sl_nth_set {l : sl_L} {i : Nat} {v : Option sl_V} {j : Nat} (h : j ≠ i) : sl_nth (sl_set l i v) j = sl_nth l j := by
  induction l generalizing i j with
  | nil => rfl
  | cons a l ih =>
    cases i with
    | zero =>
      cases j with
      | zero => exact absurd rfl h
      | succ j => rfl
    | succ i =>
      cases j with
      | zero => rfl
      | succ j => exact ih (fun q => h (by rw [q]))
theorem sl_nth_set_self {l : sl_L} {i : Nat} {v : Option sl_V} {w : sl_V} (h : sl_nth (sl_set l i v) i = some w) : v = some w := by
  induction l generalizing i with
  | nil => cases h
  | cons a l ih =>
    cases i with
    | zero => exact h
    | succ i => exact ih h
theorem sl_nth_kl : ∀ (l : sl_L) (i j : Nat), sl_nth (sl_kl l i) j = if j + 1 = i then sl_kill (sl_nth l j) else sl_nth l j := by
  intro l
  induction l with
  | nil =>
    intro i j
    show none = if j + 1 = i then sl_kill none else none
    split <;> rfl
  | cons a l ih =>
    intro i j
    match i with
    | 0 => rw [if_neg (by omega)]; rfl
    | 1 =>
      match j with
      | 0 => rfl
      | j + 1 => rw [if_neg (by omega)]; rfl
    | n + 2 =>
      match j with
      | 0 => rw [if_neg (by omega)]; rfl
      | j + 1 =>
        show sl_nth (sl_kl l (n + 1)) j = _
        rw [ih (n + 1) j]
        by_cases e : j + 1 = n + 1
        · rw [if_pos e, if_pos (by omega)]; rfl
        · rw [if_neg e, if_neg (by omega)]; rfl
theorem sl_kill_some {v : Option sl_V} {w : sl_V} (h : sl_kill v = some w) : v = some w ∧ sl_isJ (some w) = false := by
  match v, h with
  | some (.inl x), h => cases h; exact ⟨rfl, rfl⟩
  | some (.inr (.inr x)), h => cases h; exact ⟨rfl, rfl⟩
theorem sl_sto_get {cst lv : sl_L} {i j : Nat} {v : Option sl_V} {w : sl_V} (hw : sl_wr cst i = true) (hji : j ≠ i) (h : sl_get cst (sl_sto lv i v) j = some w) : sl_get cst lv j = some w ∧ (j + 1 = i → sl_isJ (some w) = false) := by
  unfold sl_wr at hw
  rw [Bool.and_eq_true] at hw
  unfold sl_get at h ⊢
  cases hc : sl_nth cst j with
  | some u =>
    rw [hc] at h
    simp only at h ⊢
    refine ⟨h, fun e => ?_⟩
    subst e
    have h2 := hw.2
    simp only [hc] at h2
    rw [← h]
    simpa using h2
  | none =>
    rw [hc] at h
    simp only at h ⊢
    unfold sl_sto at h
    rw [sl_nth_set hji, sl_nth_kl] at h
    by_cases e : j + 1 = i
    · rw [if_pos e] at h
      obtain ⟨h1, h2⟩ := sl_kill_some h
      exact ⟨h1, fun _ => h2⟩
    · rw [if_neg e] at h
      exact ⟨h, fun q => absurd q e⟩
theorem sl_sto_self {cst lv : sl_L} {i : Nat} {v : Option sl_V} {w : sl_V} (hw : sl_wr cst i = true) (h : sl_get cst (sl_sto lv i v) i = some w) : v = some w := by
  unfold sl_wr at hw
  rw [Bool.and_eq_true] at hw
  have hc : sl_nth cst i = none := Option.isNone_iff_eq_none.mp hw.1
  unfold sl_get at h
  rw [hc] at h
  exact sl_nth_set_self h
theorem sl_lh.has {g : sl_G} {ls : Array Slot} {nL : Nat} {cst lv : sl_L} (h : sl_lh g ls nL cst lv) : lv_has ls nL (sl_prs g cst lv nL) := by
  refine ⟨h.1, h.2.1, fun q hq => ?_⟩
  obtain ⟨i, -, hi⟩ := List.mem_filterMap.mp hq
  cases hg : sl_get cst lv i with
  | none => rw [hg] at hi; cases hi
  | some v =>
    rw [hg] at hi
    cases hi
    exact h.2.2 i v hg
theorem sl_prs_mem {g : sl_G} {cst lv : sl_L} {nL i : Nat} {v : sl_V} (hi : i < nL) (h : sl_get cst lv i = some v) : (i, sl_tv g v) ∈ sl_prs g cst lv nL :=
  List.mem_filterMap.mpr ⟨i, List.mem_range.mpr hi, by rw [h]; rfl⟩
theorem sl_tv_cat {g : sl_G} {v : sl_V} : (sl_tv g v).category = 2 ↔ sl_isJ (some v) = true := by
  match v with
  | .inl x => exact ⟨(fun h => by cases h), (fun h => by cases h)⟩
  | .inr (.inl x) => exact ⟨fun _ => rfl, fun _ => rfl⟩
  | .inr (.inr none) => exact ⟨(fun h => by cases h), (fun h => by cases h)⟩
  | .inr (.inr (some q)) => exact ⟨(fun h => by cases h), (fun h => by cases h)⟩
theorem sl_lh.store {g : sl_G} {ls ls' : Array Slot} {nL : Nat} {cst lv : sl_L} {i : Nat} {v : sl_V} (h : sl_lh g ls nL cst lv) (hw : sl_wr cst i = true)
    (h' : lv_has ls' nL ((i, sl_tv g v) :: (sl_prs g cst lv nL).filter (fun q => !(q.1 == i) && !(q.1 + 1 == i && q.2.category == 2)))) : sl_lh g ls' nL cst (sl_sto lv i (some v)) := by
  refine ⟨h'.1, h'.2.1, fun j w hj => ?_⟩
  by_cases hji : j = i
  · subst hji
    have hv := sl_sto_self hw hj
    cases hv
    exact h'.2.2 _ List.mem_cons_self
  · obtain ⟨hj2, hj3⟩ := sl_sto_get hw hji hj
    have hlt : j < nL := by
      have := h.2.2 j w hj2
      rw [← h.1]
      exact (Array.getElem?_eq_some_iff.mp this).1
    refine h'.2.2 (j, sl_tv g w) (List.mem_cons_of_mem _ (List.mem_filter.mpr ⟨sl_prs_mem hlt hj2, ?_⟩))
    have n1 : (j == i) = false := by simp [hji]
    have n2 : (j + 1 == i && (sl_tv g w).category == 2) = false := by
      by_cases e : j + 1 = i
      · have h4 : ¬ (sl_tv g w).category = 2 := fun q => by rw [sl_tv_cat.mp q] at hj3; exact absurd (hj3 e) (by decide)
        simp [h4]
      · simp [e]
    simp [n1, n2]
theorem sl_lh.store2 {g : sl_G} {ls ls' : Array Slot} {nL : Nat} {cst lv : sl_L} {i : Nat} {v : sl_V} (h : sl_lh g ls nL cst lv) (hw : sl_wr cst i = true) (hw2 : sl_nth cst (i + 1) = none)
    (h' : lv_has ls' nL ((i, sl_tv g v) :: (sl_prs g cst lv nL).filter (fun q => !(q.1 == i) && (!(q.1 == i + 1) && !(q.1 + 1 == i && q.2.category == 2))))) : sl_lh g ls' nL cst (sl_set (sl_sto lv i (some v)) (i + 1) none) := by
  refine ⟨h'.1, h'.2.1, fun j w hj => ?_⟩
  by_cases hj1 : j = i + 1
  · subst hj1
    unfold sl_get at hj
    rw [hw2] at hj
    have hv := sl_nth_set_self hj
    cases hv
  have hj : sl_get cst (sl_sto lv i (some v)) j = some w := by
    unfold sl_get at hj ⊢
    rw [sl_nth_set hj1] at hj
    exact hj
  by_cases hji : j = i
  · subst hji
    have hv := sl_sto_self hw hj
    cases hv
    exact h'.2.2 _ List.mem_cons_self
  · obtain ⟨hj2, hj3⟩ := sl_sto_get hw hji hj
    have hlt : j < nL := by
      have := h.2.2 j w hj2
      rw [← h.1]
      exact (Array.getElem?_eq_some_iff.mp this).1
    refine h'.2.2 (j, sl_tv g w) (List.mem_cons_of_mem _ (List.mem_filter.mpr ⟨sl_prs_mem hlt hj2, ?_⟩))
    have n1 : (j == i) = false := by simp [hji]
    have n3 : (j == i + 1) = false := by simp [hj1]
    have n2 : (j + 1 == i && (sl_tv g w).category == 2) = false := by
      by_cases e : j + 1 = i
      · have h4 : ¬ (sl_tv g w).category = 2 := fun q => by rw [sl_tv_cat.mp q] at hj3; exact absurd (hj3 e) (by decide)
        simp [h4]
      · simp [e]
    simp [n1, n2, n3]
