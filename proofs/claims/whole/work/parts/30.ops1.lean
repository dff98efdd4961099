/-! rows of bits; the first calls -/
theorem b_1 : ∀ i, i < 32 → bt 1 i = decide (i = 0) := by decide +kernel
theorem b_one {n i : Nat} (hn : n < 32) (hi : i < 32) : bt ((1 : Int32) <<< (nI n &&& 31)) i = decide (i = n) := by
  rw [b_shl n hn 1 hi, b_1 (i - n) (by omega)]
  by_cases h : i = n
  · subst h
    simp
  · by_cases h2 : n ≤ i
    · have : ¬ (i - n = 0) := by omega
      simp [h, this]
    · simp [h, h2]
def bs (p : Nat → Bool) : Nat → Int32
  | 0 => 0
  | n + 1 => bs p n ||| (if p n then (1 : Int32) <<< (nI n &&& 31) else 0)
theorem b_bs (p : Nat → Bool) {i : Nat} (hi : i < 32) : ∀ n, n ≤ 32 → bt (bs p n) i = (decide (i < n) && p i)
  | 0, _ => by
    show bt 0 i = _
    rw [b_0]
    simp
  | n + 1, h => by
    show bt (bs p n ||| _) i = _
    rw [b_or, b_bs p hi n (by omega)]
    cases hp : p n with
    | false =>
      rw [if_neg (by decide), b_0]
      by_cases e : i = n
      · subst e
        simp [hp]
      · have : (i < n + 1) ↔ (i < n) := by omega
        simp [this]
    | true =>
      rw [if_pos rfl, b_one (by omega) hi]
      by_cases e : i = n
      · subst e
        simp [hp]
      · have : (i < n + 1) ↔ (i < n) := by omega
        simp [this, e]
theorem bs_no {p : Nat → Bool} {n : Nat} (h : p n = false) : bs p (n + 1) = bs p n := by
  show bs p n ||| _ = _
  rw [h, if_neg (by decide)]
  exact b_ext (fun i _ => by rw [b_or, b_0, Bool.or_false])
theorem bs_yes {p : Nat → Bool} {n : Nat} (h : p n = true) : bs p (n + 1) = bs p n ||| (1 : Int32) <<< (nI n &&& 31) := by
  show bs p n ||| _ = _
  rw [h, if_pos rfl]
theorem bs_cong {p q : Nat → Bool} : ∀ {n : Nat}, (∀ k, k < n → p k = q k) → bs p n = bs q n
  | 0, _ => rfl
  | n + 1, h => by
    show bs p n ||| _ = bs q n ||| _
    rw [bs_cong (n := n) (fun k hk => h k (by omega)), h n (by omega)]
theorem b_test {x : Int32} {j : Nat} (hj : j < 32) : (x >>> (nI j &&& 31)) &&& 1 = if bt x j then 1 else 0 := by
  refine b_ext (fun i hi => ?_)
  rw [b_and, b_1 i hi]
  by_cases e : i = 0
  · subst e
    rw [b_sshr j hj x (by omega), if_pos (by omega)]
    cases bt x (j + 0) with
    | false => simp [b_0]
    | true => simp [b_1 0 (by omega)]
  · cases hb : bt x j with
    | false => simp [e, b_0]
    | true => simp [e, b_1 i hi]
theorem b_test0 {x : Int32} {j : Nat} (hj : j < 32) : (x >>> (nI j &&& 31)) &&& 1 = 0 ↔ bt x j = false := by
  rw [b_test hj]
  cases bt x j <;> decide
theorem b_test1 {x : Int32} {j : Nat} (hj : j < 32) : (x >>> (nI j &&& 31)) &&& 1 = 1 ↔ bt x j = true := by
  rw [b_test hj]
  cases bt x j <;> decide
/-- a number below another -/
theorem pl_of {x y : Int32} {N : Nat} (e : y = nI N) (hN : N < 2 ^ 31) (h : 0 ≤ x ∧ x < y) : ∃ k, k < N ∧ x = nI k := by
  obtain ⟨j, hj, rfl⟩ := nI_of (x := x) (fun z => by rw [fa_lt] at z; rw [fa_le] at h; omega)
  rw [e, nI_ltI hj hN] at h
  exact ⟨j, h.2, rfl⟩
theorem pl_30 {x : Int32} (h : 0 ≤ x ∧ x < 30) : ∃ k, k < 30 ∧ x = nI k := pl_of (y := 30) rfl (by decide) h
theorem pl_29 {x : Int32} : (0 ≤ x ∧ x ≤ 29) ↔ (0 ≤ x ∧ x < 30) := by
  rw [fa_le, fa_le, fa_lt, show (29 : Int32).toInt = 29 from rfl, show (30 : Int32).toInt = 30 from rfl]
  omega
theorem pl_k30 {k : Nat} (h : k < 30) : (0 : Int32) ≤ nI k ∧ nI k < 30 := ⟨nI_pos' (by omega), pl_lt h⟩
theorem pl_int (x : Int32) : ∃ z : Int, i3B z ∧ x = i3 z := ⟨x.toInt, ⟨Int32.le_toInt x, Int32.toInt_lt x⟩, i3_of x⟩
abbrev vS (l h w : Int) : Prop := 0 ≤ l ∧ l ≤ h ∧ h ≤ 999 ∧ -99 ≤ w ∧ w ≤ 99
theorem vS_c {l h w : Int} (bl : i3B l) (bh : i3B h) (bw : i3B w) : (((0 ≤ i3 l ∧ i3 l < 1000) ∧ (0 ≤ i3 h ∧ i3 h < 1000) ∧ i3 l ≤ i3 h) ∧ -99 ≤ i3 w ∧ i3 w ≤ 99) ↔ vS l h w := by
  have b0 : i3B 0 := pl_B (by omega) (by omega)
  have b1 : i3B 1000 := pl_B (by omega) (by omega)
  have b2 : i3B (-99) := pl_B (by omega) (by omega)
  have b3 : i3B 99 := pl_B (by omega) (by omega)
  rw [i3_0, i3_1000, i3_m99, i3_99, i3_le b0 bl, i3_lt bl b1, i3_le b0 bh, i3_lt bh b1, i3_le bl bh, i3_le b2 bw, i3_le bw b3]
  omega
theorem vS_m {l h w : Int} (bl : i3B l) (bh : i3B h) (bw : i3B w) : ((0 ≤ i3 l ∧ i3 l ≤ 999) ∧ (i3 l ≤ i3 h ∧ i3 h ≤ 999) ∧ (-99 ≤ i3 w ∧ i3 w ≤ 99)) ↔ vS l h w := by
  have b0 : i3B 0 := pl_B (by omega) (by omega)
  have b1 : i3B 999 := pl_B (by omega) (by omega)
  have b2 : i3B (-99) := pl_B (by omega) (by omega)
  have b3 : i3B 99 := pl_B (by omega) (by omega)
  rw [i3_0, i3_999, i3_m99, i3_99, i3_le b0 bl, i3_le bl b1, i3_le bh b1, i3_le bl bh, i3_le b2 bw, i3_le bw b3]
  omega
def CPre (s : SS) (μ : sl_M) : Prop := sOK s ∧ CR 4 μ s ∧ LyB μ ∧ SoR μ
theorem CInv.pre {s : SS} {μ : sl_M} (h : CInv s μ) : CPre s μ := ⟨h.1, h.2.1, h.2.2.2.1, h.2.2.2.2⟩
section O1
variable {μ : sl_M} {s : SS} {Q : Int32 → sl_M → Prop} {P : sl_M → Prop}
theorem ix_relayer_c (h : CPre s μ) (hQ : ∀ μ', Fr fC μ μ' → CInv s μ' → P μ') : ix_relayer μ P := by
  obtain ⟨h1, h2, h3, h4⟩ := h
  refine ix_relayer_s h2 h1 h3 h4 (fun m hf so hl hb => hQ m (hf.mono (fun o k z => by omega)) ⟨h1, h2.fr hf (fun k j hk hj z => by omega), hl, hb, so⟩)
theorem ix_bringIn_c (h : CPre s μ) {k : Nat} (hk : k < 30) {l g w : Int} (hv : vS l g w) (hQ : ∀ μ', Fr fC μ μ' → CPre (fu s k (true, l, g, w)) μ' → P μ') : ix_bringIn (nI k) (i3 l) (i3 g) (i3 w) μ P := by
  obtain ⟨h1, h2, h3, h4⟩ := h
  unfold ix_bringIn
  rw [sx_isBelow_i]
  refine pl_bb (fun z => absurd (pl_k30 hk) z) (fun _ => ⟨pl_in hk, rfl, ?_⟩)
  rintro m3 rfl
  refine ⟨pl_in hk, ?_⟩
  rintro m4 rfl
  refine ⟨pl_in hk, ?_⟩
  rintro m5 rfl
  refine ⟨pl_in hk, ?_⟩
  rintro m6 rfl
  rw [pl_cl hk]
  refine hQ _ ((((Fr.rfl'.up (by omega)).up (by omega)).up (by omega)).up (by omega)) ⟨fun j hj ij => ?_, fun j hj => ?_, fun j hj => ?_, fun j hj => ?_⟩
  · by_cases e : j = k
    · subst e
      simp only [sL, sH, sW, fu_s]
      exact hv
    · have e2 : fu s k (true, l, g, w) j = s j := fu_o e
      have ij' : sI s j := by
        have := ij
        unfold sI at this
        rw [e2] at this
        exact this
      simp only [sL, sH, sW, e2]
      exact h1 j hj ij'
  · by_cases e : j = k
    · subst e
      simp only [sI, sL, sH, sW, fu_s, pl_up]
      simp [(h2 j hj).1, pl_b]
    · have e2 : fu s k (true, l, g, w) j = s j := fu_o e
      simp only [sI, sL, sH, sW, e2, pl_up]
      simp [e]
      exact h2 j hj
  · have : ∀ m : sl_M, m = sl_up (sl_up (sl_up (sl_up μ (4 + k) 1 1) (4 + k) 2 (i3 l)) (4 + k) 3 (i3 g)) (4 + k) 4 (i3 w) → m (4 + j) 5 = μ (4 + j) 5 := by
      rintro m rfl
      simp [pl_up]
    rw [this _ rfl]
    exact h3 j hj
  · rw [pl_up_o (by omega), pl_up_o (by omega), pl_up_o (by omega), pl_up_o (by omega)]
    exact h4 j hj
theorem mo_comes_s (h : MR μ s) {k : Nat} (hk : k < 30) {l g w : Int} (hQ : ∀ μ', Fr fN μ μ' → MR μ' (fu s k (true, l, g, w)) → P μ') : mo_comes (nI k) (i3 l) (i3 g) (i3 w) μ P := by
  refine ⟨pl_in hk, ?_⟩
  rintro m3 rfl
  refine ⟨pl_in hk, ?_⟩
  rintro m4 rfl
  refine ⟨pl_in hk, ?_⟩
  rintro m5 rfl
  refine ⟨pl_in hk, ?_⟩
  rintro m6 rfl
  rw [pl_cl hk]
  refine hQ _ ((((Fr.rfl'.up (by omega)).up (by omega)).up (by omega)).up (by omega)) (fun j hj => ?_)
  by_cases e : j = k
  · subst e
    simp only [sI, sL, sH, sW, fu_s, pl_up]
    simp [pl_b]
  · have e2 : fu s k (true, l, g, w) j = s j := fu_o e
    simp only [sI, sL, sH, sW, e2, pl_up]
    simp [e]
    exact h j hj
theorem lo_cases (s : SS) : (∀ k, k < 30 → sI s k) ∨ ∃ k, k < 30 ∧ ¬ sI s k ∧ ∀ j, j < k → sI s j := by
  have : ∀ n, n ≤ 30 → (∀ k, k < n → sI s k) ∨ ∃ k, k < 30 ∧ ¬ sI s k ∧ ∀ j, j < k → sI s j := by
    intro n
    induction n with
    | zero => exact fun _ => Or.inl (fun k hk => absurd hk (by omega))
    | succ n ih =>
      intro hn
      rcases ih (by omega) with h | h
      · by_cases hi : sI s n
        · refine Or.inl (fun k hk => ?_)
          by_cases e : k = n
          · rw [e]
            exact hi
          · exact h k (by omega)
        · exact Or.inr ⟨n, by omega, hi, h⟩
      · exact Or.inr h
  exact this 30 (Nat.le_refl _)
theorem ix_leastOut_n (h : CR 4 μ s) (ha : ∀ k, k < 30 → sI s k) (hQ : Q (-1) μ) : ix_leastOut μ Q := by
  refine up_0 (fun n x (_ : Unit) => ix_leastOut_L2 Q n x μ) (fun _ => ()) 30 (fun n => ⟨fun h => absurd h pl_nlt, fun _ => hQ⟩) (fun n k hk ih => ?_)
  refine ⟨fun _ => ⟨pl_in hk, ?_⟩, fun h => absurd (pl_lt hk) h⟩
  rw [pl_cl hk, (h k hk).2.1, pl_bz]
  refine pl_bb (fun hi => absurd (ha k hk) hi) (fun _ => ?_)
  rw [pl_inc]
  exact ih
theorem ix_leastOut_k (h : CR 4 μ s) {k : Nat} (hk : k < 30) (hn : ¬ sI s k) (ha : ∀ j, j < k → sI s j) (hQ : Q (nI k) μ) : ix_leastOut μ Q := by
  refine up_0 (fun n x (_ : Unit) => ix_leastOut_L2 Q n x μ) (fun _ => ()) k (fun n => ⟨fun _ => ⟨pl_in hk, ?_⟩, fun h => absurd (pl_lt hk) h⟩) (fun n j hj ih => ?_)
  · rw [pl_cl hk, (h k hk).2.1, pl_bz]
    exact pl_bb (fun _ => hQ) (fun z => absurd z hn)
  · have hj' : j < 30 := by omega
    refine ⟨fun _ => ⟨pl_in hj', ?_⟩, fun h => absurd (pl_lt hj') h⟩
    rw [pl_cl hj', (h j hj').2.1, pl_bz]
    refine pl_bb (fun hi => absurd (ha j hj) hi) (fun _ => ?_)
    rw [pl_inc]
    exact ih
theorem mo_leastOut_x (h : MR μ s) {v : Int32} (hv : (v = -1 ∧ ∀ k, k < 30 → sI s k) ∨ ∃ k, k < 30 ∧ v = nI k ∧ ¬ sI s k ∧ ∀ j, j < k → sI s j) (hQ : Q v μ) : mo_leastOut μ Q := by
  refine lq2 (fun n x1 x2 => mo_leastOut_L5 Q n x1 x2 μ) (fun i x1 x2 => (∃ t : Nat, t + i = 30 ∧ x2 = i3 ((t : Int) - 1) ∧ ((x1 = -1 ∧ ∀ k, t ≤ k → k < 30 → sI s k) ∨ ∃ k, k < 30 ∧ x1 = nI k ∧ t ≤ k ∧ ¬ sI s k ∧ ∀ j, t ≤ j → j < k → sI s j))) 30 (-1) 29 ⟨30, rfl, rfl, Or.inl ⟨rfl, fun k _ _ => by omega⟩⟩ ?_ ?_
  · rintro n x1 x2 ⟨t, ht, rfl, hd⟩
    obtain rfl : t = 0 := by omega
    refine ⟨fun _ => ?_, fun z => absurd (show i3 (((0 : Nat) : Int) - 1) < 0 by decide) z⟩
    have : x1 = v := by
      rcases hd with ⟨e1, a1⟩ | ⟨k, hk, e1, -, n1, a1⟩
      · rcases hv with ⟨e2, a2⟩ | ⟨k2, hk2, e2, n2, a2⟩
        · rw [e1, e2]
        · exact absurd (a1 k2 (by omega) hk2) n2
      · rcases hv with ⟨e2, a2⟩ | ⟨k2, hk2, e2, n2, a2⟩
        · exact absurd (a2 k hk) n1
        · have : k = k2 := by
            rcases Nat.lt_trichotomy k k2 with q | q | q
            · exact absurd (a2 k q) n1
            · exact q
            · exact absurd (a1 k2 (by omega) q) n2
          rw [e1, e2, this]
    rw [this]
    exact hQ
  · rintro n i x1 x2 hi ⟨t, ht, rfl, hd⟩ ih
    obtain ⟨u, rfl⟩ : ∃ u, t = u + 1 := ⟨t - 1, by omega⟩
    have hu : u < 30 := by omega
    have e : i3 (((u + 1 : Nat) : Int) - 1) = nI u := by rw [i3_n]; congr 1; omega
    rw [e]
    refine ⟨fun z => absurd z (nI_pos (by omega)), fun _ => ⟨pl_in hu, ?_⟩⟩
    rw [pl_cl hu, (h u hu).1, pl_b0]
    have e2 : nI u + (-1 : Int32) = i3 ((u : Int) - 1) := by rw [i3_n, i3_m1, i3_add]; congr 1
    refine ⟨fun hn => ih _ _ ⟨u, by omega, e2, Or.inr ⟨u, hu, rfl, Nat.le_refl _, hn, fun j h1 h2 => by omega⟩⟩, fun hn => ih _ _ ⟨u, by omega, e2, ?_⟩⟩
    have hin : sI s u := Classical.byContradiction hn
    rcases hd with ⟨e1, a1⟩ | ⟨k, hk, e1, l1, n1, a1⟩
    · refine Or.inl ⟨e1, fun k h1 h2 => ?_⟩
      by_cases q : k = u
      · rw [q]
        exact hin
      · exact a1 k (by omega) h2
    · refine Or.inr ⟨k, hk, e1, by omega, n1, fun j h1 h2 => ?_⟩
      by_cases q : j = u
      · rw [q]
        exact hin
      · exact a1 j (by omega) h2
abbrev Opp (A B : sl_M → (Int32 → sl_M → Prop) → Prop) : Prop := ∀ μ, Inv μ → A μ (fun r μ1 => B μ1 (fun r2 μ2 => r = r2 ∧ Inv μ2))
theorem Fr.th {μ : sl_M} : Fr fN μ (sl_up μ 104 5 0) := Fr.rfl'.up (by omega)
theorem MR.th (h : MR μ s) : MR (sl_up μ 104 5 0) s := h.fr (p := fun o _ => o = 104) (Fr.rfl'.up rfl) (fun o k h1 h2 q => by omega)
theorem op_add (a1 a2 a3 : Int32) : Opp (sx_add a1 a2 a3) (mo_add a1 a2 a3) := by
  rintro μ ⟨⟨s, ci, mr⟩, ri⟩
  obtain ⟨l, bl, rfl⟩ := pl_int a1
  obtain ⟨g, bg, rfl⟩ := pl_int a2
  obtain ⟨w, bw, rfl⟩ := pl_int a3
  by_cases hv : vS l g w
  · rcases lo_cases s with ha | ⟨k, hk, hn, ha⟩
    · refine op2 (v := -4) (s' := s) ci mr ri (fun Q hQ => ?_) (fun μ1 mr1 Q hQ => ?_)
      · unfold sx_add
        rw [sx_isSpan_i]
        refine pl_bb (fun z => absurd ((vS_c bl bg bw).mpr hv) z) (fun _ => ?_)
        exact ix_leastOut_n ci.2.1 ha ⟨fun _ => hQ _ Fr.rfl' ci, fun z => absurd (by decide) z⟩
      · unfold mo_add
        rintro m1 rfl
        rw [mo_isBad_i]
        refine pl_bb (fun _ => ?_) (fun z => absurd ((vS_m bl bg bw).mpr hv) z)
        exact mo_leastOut_x mr1.th (Or.inl ⟨rfl, ha⟩) ⟨fun _ => hQ _ Fr.th mr1.th, fun z => absurd (by decide) z⟩
    · refine op2 (v := nI k) (s' := fu s k (true, l, g, w)) ci mr ri (fun Q hQ => ?_) (fun μ1 mr1 Q hQ => ?_)
      · unfold sx_add
        rw [sx_isSpan_i]
        refine pl_bb (fun z => absurd ((vS_c bl bg bw).mpr hv) z) (fun _ => ?_)
        refine ix_leastOut_k ci.2.1 hk hn ha ⟨fun z => absurd z (nI_pos (by omega)), fun _ => ?_⟩
        exact ix_bringIn_c ci.pre hk hv (fun m hf hp => ix_relayer_c hp (fun m2 hf2 c2 => hQ _ (hf.tr hf2) c2))
      · unfold mo_add
        rintro m1 rfl
        rw [mo_isBad_i]
        refine pl_bb (fun _ => ?_) (fun z => absurd ((vS_m bl bg bw).mpr hv) z)
        refine mo_leastOut_x mr1.th (Or.inr ⟨k, hk, rfl, hn, ha⟩) ⟨fun z => absurd z (nI_pos (by omega)), fun _ => ?_⟩
        exact mo_comes_s mr1.th hk (fun m hf hm => hQ _ (Fr.th.tr hf) hm)
  · refine op2 (v := -2) (s' := s) ci mr ri (fun Q hQ => ?_) (fun μ1 mr1 Q hQ => ?_)
    · unfold sx_add
      rw [sx_isSpan_i]
      exact pl_bb (fun _ => hQ _ Fr.rfl' ci) (fun z => absurd ((vS_c bl bg bw).mp z) hv)
    · unfold mo_add
      rintro m1 rfl
      rw [mo_isBad_i]
      exact pl_bb (fun z => absurd ((vS_m bl bg bw).mp (Classical.byContradiction z)) hv) (fun _ => hQ _ Fr.th mr1.th)
end O1
