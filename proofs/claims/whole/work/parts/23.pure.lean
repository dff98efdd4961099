/-! PURE LAND: ints as whole numbers, truth as 0 and 1, memory -/
def pl_b (c : Prop) [Decidable c] : Int32 := if c then 1 else 0
theorem pl_b0 {c : Prop} [Decidable c] : pl_b c = 0 ↔ ¬ c := by
  unfold pl_b
  split <;> simp_all
theorem pl_b1 {c : Prop} [Decidable c] : pl_b c = 1 ↔ c := by
  unfold pl_b
  split <;> simp_all
theorem pl_bz {c : Prop} [Decidable c] : sl_bz (pl_b c) = pl_b c := by
  unfold pl_b sl_bz
  split <;> simp_all
theorem pl_bz0 : sl_bz 0 = 0 := rfl
theorem pl_bz1 : sl_bz 1 = 1 := rfl
theorem pl_bt {c : Prop} [Decidable c] (h : c) : pl_b c = 1 := if_pos h
theorem pl_bf {c : Prop} [Decidable c] (h : ¬ c) : pl_b c = 0 := if_neg h
theorem pl_bcong {c d : Prop} [Decidable c] [Decidable d] (h : c ↔ d) : pl_b c = pl_b d := by
  unfold pl_b
  simp [h]
def i3 (z : Int) : Int32 := Int32.ofInt z
def i3B (z : Int) : Prop := -2147483648 ≤ z ∧ z < 2147483648
theorem i3_toInt {z : Int} (h : i3B z) : (i3 z).toInt = z := fb_ofI h.1 h.2
theorem i3_of (x : Int32) : x = i3 x.toInt := (fb_asI x).symm
theorem i3_add (a b : Int) : i3 a + i3 b = i3 (a + b) := (Int32.ofInt_add a b).symm
theorem i3_sub (a b : Int) : i3 a - i3 b = i3 (a - b) := (Int32.ofInt_sub a b).symm
theorem i3_mul (a b : Int) : i3 a * i3 b = i3 (a * b) := (Int32.ofInt_mul a b).symm
theorem i3_neg (a : Int) : -(i3 a) = i3 (-a) := (Int32.ofInt_neg a).symm
theorem i3_n (n : Nat) : nI n = i3 (n : Int) := (Int32.ofInt_eq_ofNat (n := n)).symm
theorem i3_lt {a b : Int} (ha : i3B a) (hb : i3B b) : i3 a < i3 b ↔ a < b := by
  rw [fa_lt, i3_toInt ha, i3_toInt hb]
theorem i3_le {a b : Int} (ha : i3B a) (hb : i3B b) : i3 a ≤ i3 b ↔ a ≤ b := by
  rw [fa_le, i3_toInt ha, i3_toInt hb]
theorem i3_eq {a b : Int} (ha : i3B a) (hb : i3B b) : i3 a = i3 b ↔ a = b := by
  rw [fa_eq, i3_toInt ha, i3_toInt hb]
theorem i3_0 : (0 : Int32) = i3 0 := rfl
theorem i3_1 : (1 : Int32) = i3 1 := rfl
theorem i3_30 : (30 : Int32) = i3 30 := rfl
theorem i3_999 : (999 : Int32) = i3 999 := rfl
theorem i3_1000 : (1000 : Int32) = i3 1000 := rfl
theorem i3_99 : (99 : Int32) = i3 99 := rfl
theorem i3_m99 : (-99 : Int32) = i3 (-99) := rfl
theorem i3_m1 : (-1 : Int32) = i3 (-1) := rfl
theorem i3_clamp {k : Nat} (h : k < 2147483648) : (i3 (k : Int)).toNatClampNeg = k := by
  rw [← i3_n]
  exact nI_clamp h
theorem pl_cmp_lt (x y : Int32) : lg_cmp x.toInt64 y.toInt64 < 0 ↔ x < y := by
  unfold lg_cmp
  have h1 := fa_wide_lt x y
  have h2 := fa_wide_lt y x
  have h3 := fa_three x y
  by_cases a : y.toInt64 < x.toInt64
  · have a2 := h2.mp a
    have := (fa_of_lt a2).2.2.1
    simp [a, this]
  · by_cases b : x.toInt64 = y.toInt64
    · have b2 := (fa_wide_eq x y).mp b
      subst b2
      simp
    · have : x < y := by
        rcases h3 with h | h | h
        · exact h
        · exact absurd (by rw [h]) b
        · exact absurd (h2.mpr h) a
      simp [a, b, this]
theorem pl_cmp_le (x y : Int32) : lg_cmp x.toInt64 y.toInt64 ≤ 0 ↔ x ≤ y := by
  unfold lg_cmp
  have h2 := fa_wide_lt y x
  by_cases a : y.toInt64 < x.toInt64
  · have a2 := h2.mp a
    have := (fa_of_lt a2).2.1
    simp [a, this]
  · have a2 : x ≤ y := fa_of_nlt (fun z => a (h2.mpr z))
    by_cases b : x.toInt64 = y.toInt64
    · simp [b, a2]
    · simp [a, b, a2]
theorem pl_in0 {n k : Nat} (h : k < n) (hn : n < 2 ^ 31) : vp_in (nI k) n := vp_in_nI h hn
theorem pl_up {μ : sl_M} {o k : Nat} {v : Int32} {o' k' : Nat} : sl_up μ o k v o' k' = if o' = o ∧ k' = k then v else μ o' k' := rfl
theorem pl_up_s {μ : sl_M} {o k : Nat} {v : Int32} : sl_up μ o k v o k = v := if_pos ⟨rfl, rfl⟩
theorem pl_up_o {μ : sl_M} {o k : Nat} {v : Int32} {o' k' : Nat} (h : o' ≠ o) : sl_up μ o k v o' k' = μ o' k' := if_neg (fun q => h q.1)
theorem pl_up_k {μ : sl_M} {o k : Nat} {v : Int32} {o' k' : Nat} (h : k' ≠ k) : sl_up μ o k v o' k' = μ o' k' := if_neg (fun q => h q.2)
/-- both ways of a condition -/
theorem pl_br {c A B : Prop} (f : c → A) (g : ¬ c → B) : (c → A) ∧ (¬ c → B) := ⟨f, g⟩
theorem pl_bb {c A B : Prop} [Decidable c] (f : ¬ c → A) (g : c → B) : (pl_b c = 0 → A) ∧ (¬ pl_b c = 0 → B) := ⟨fun h => f (pl_b0.mp h), fun h => g (Classical.byContradiction fun q => h (pl_b0.mpr q))⟩
/-! small methods of both, without loops -/
theorem sx_isBelow_i {a b : Int32} {μ : sl_M} {Q : Int32 → sl_M → Prop} : sx_isBelow a b μ Q ↔ Q (pl_b (0 ≤ a ∧ a < b)) μ := by
  unfold sx_isBelow pl_b
  by_cases h1 : a < 0
  · have : ¬ (0 ≤ a) := (fa_of_lt h1).2.1
    simp [h1, this, pl_bz0]
  · have : 0 ≤ a := fa_of_nlt h1
    by_cases h2 : a < b <;> simp [h1, h2, this, pl_bz0, pl_bz1]
theorem sx_isPlace_i {a : Int32} {μ : sl_M} {Q : Int32 → sl_M → Prop} : sx_isPlace a μ Q ↔ Q (pl_b (0 ≤ a ∧ a < 1000)) μ := by
  unfold sx_isPlace
  simp only [sx_isBelow_i, pl_bz, true_and]
theorem sx_isRun_i {a b : Int32} {μ : sl_M} {Q : Int32 → sl_M → Prop} : sx_isRun a b μ Q ↔ Q (pl_b ((0 ≤ a ∧ a < 1000) ∧ (0 ≤ b ∧ b < 1000) ∧ a ≤ b)) μ := by
  unfold sx_isRun
  simp only [sx_isPlace_i, pl_b0]
  by_cases h1 : (0 ≤ a ∧ a < 1000)
  · by_cases h2 : (0 ≤ b ∧ b < 1000)
    · by_cases h3 : a ≤ b <;> simp [h1, h2, h3, pl_b, pl_bz0, pl_bz1]
    · simp [h1, h2, pl_b, pl_bz0]
  · simp [h1, pl_b, pl_bz0]
theorem sx_isSpan_i {a b w : Int32} {μ : sl_M} {Q : Int32 → sl_M → Prop} : sx_isSpan a b w μ Q ↔ Q (pl_b (((0 ≤ a ∧ a < 1000) ∧ (0 ≤ b ∧ b < 1000) ∧ a ≤ b) ∧ -99 ≤ w ∧ w ≤ 99)) μ := by
  unfold sx_isSpan
  simp only [sx_isRun_i, pl_b0]
  by_cases h1 : ((0 ≤ a ∧ a < 1000) ∧ (0 ≤ b ∧ b < 1000) ∧ a ≤ b)
  · by_cases h2 : w < -99
    · have : ¬ -99 ≤ w := (fa_of_lt h2).2.1
      simp [h1, h2, this, pl_b, pl_bz0]
    · have : -99 ≤ w := fa_of_nlt h2
      by_cases h3 : w ≤ 99 <;> simp [h1, h2, h3, this, pl_b, pl_bz0, pl_bz1]
  · simp [h1, pl_b, pl_bz0]
theorem mo_in_i {x y z : Int32} {μ : sl_M} {Q : Int32 → sl_M → Prop} : mo_in x.toInt64 y.toInt64 z.toInt64 μ Q ↔ Q (pl_b (y ≤ x ∧ x ≤ z)) μ := by
  unfold mo_in
  simp only [pl_cmp_lt, pl_cmp_le]
  by_cases h1 : x < y
  · have : ¬ y ≤ x := (fa_of_lt h1).2.1
    simp [h1, this, pl_b, pl_bz0]
  · have : y ≤ x := fa_of_nlt h1
    by_cases h2 : x ≤ z <;> simp [h1, h2, this, pl_b, pl_bz0, pl_bz1]
theorem mo_isSpan_i {x : Int32} {μ : sl_M} {Q : Int32 → sl_M → Prop} : mo_isSpan x μ Q ↔ Q (pl_b (0 ≤ x ∧ x ≤ 29)) μ := by
  unfold mo_isSpan
  simp only [mo_in_i, pl_bz, true_and]
theorem mo_isBad_i {a b w : Int32} {μ : sl_M} {Q : Int32 → sl_M → Prop} : mo_isBad a b w μ Q ↔ Q (pl_b (¬ ((0 ≤ a ∧ a ≤ 999) ∧ (a ≤ b ∧ b ≤ 999) ∧ (-99 ≤ w ∧ w ≤ 99)))) μ := by
  unfold mo_isBad
  simp only [mo_in_i, pl_b0]
  by_cases h1 : (0 ≤ a ∧ a ≤ 999)
  · by_cases h2 : (a ≤ b ∧ b ≤ 999)
    · by_cases h3 : (-99 ≤ w ∧ w ≤ 99)
      · simp [h1, h2, h3, pl_b, pl_bz0, pl_bz1]
      · simp [h1, h2, h3, pl_b, pl_bz0, pl_bz1]
    · simp [h1, h2, pl_b, pl_bz1]
  · simp [h1, pl_b, pl_bz1]
