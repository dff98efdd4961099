/-! memory and spans; small methods of both sides over them -/
def CR (o : Nat) (μ : sl_M) (s : SS) : Prop := ∀ k, k < 30 → μ (o + k) 0 = nI k ∧ μ (o + k) 1 = pl_b (sI s k) ∧ μ (o + k) 2 = i3 (sL s k) ∧ μ (o + k) 3 = i3 (sH s k) ∧ μ (o + k) 4 = i3 (sW s k)
def MR (μ : sl_M) (s : SS) : Prop := ∀ k, k < 30 → μ 108 k = pl_b (sI s k) ∧ μ 105 k = i3 (sL s k) ∧ μ 106 k = i3 (sH s k) ∧ μ 107 k = i3 (sW s k)
/-- a loop up to N whose state at k is F k -/
theorem up_to {σ : Type} (W : Nat → Int32 → σ → Prop) (F : Nat → σ) (N : Nat) (hx : ∀ n, W (n + 1) (nI N) (F N)) (hs : ∀ n k, k < N → W n (nI (k + 1)) (F (k + 1)) → W (n + 1) (nI k) (F k)) : ∀ k, k ≤ N → ∃ n, W n (nI k) (F k) := by
  have : ∀ d k, k + d = N → ∃ n, W n (nI k) (F k) := by
    intro d
    induction d with
    | zero =>
      intro k h
      obtain rfl : k = N := by simpa using h
      exact ⟨1, hx 0⟩
    | succ d ih =>
      intro k h
      obtain ⟨n, hn⟩ := ih (k + 1) (by omega)
      exact ⟨n + 1, hs n k (by omega) hn⟩
  exact fun k hk => this (N - k) k (by omega)
theorem up_0 {σ : Type} (W : Nat → Int32 → σ → Prop) (F : Nat → σ) (N : Nat) (hx : ∀ n, W (n + 1) (nI N) (F N)) (hs : ∀ n k, k < N → W n (nI (k + 1)) (F (k + 1)) → W (n + 1) (nI k) (F k)) : ∃ n, W n 0 (F 0) := up_to W F N hx hs 0 (Nat.zero_le N)
theorem pl_cl {k : Nat} (h : k < 30) : (nI k).toNatClampNeg = k := nI_clamp (Nat.lt_trans h (by decide))
theorem pl_in {k : Nat} (h : k < 30) : vp_in (nI k) 30 := vp_in_nI h (by decide)
theorem pl_lt {k : Nat} (h : k < 30) : nI k < 30 := nI_lt h (by decide)
theorem pl_nlt : ¬ nI 30 < 30 := by decide
theorem pl_inc (k : Nat) : nI k + 1 = nI (k + 1) := nI_1 k
theorem pl_B {z : Int} (h1 : -1000000 ≤ z) (h2 : z ≤ 1000000) : i3B z := ⟨by omega, by omega⟩
theorem sOK.B {s : SS} (h : sOK s) {k : Nat} (hk : k < 30) (hi : sI s k) : i3B (sL s k) ∧ i3B (sH s k) ∧ i3B (sW s k) := by
  have := h k hk hi
  exact ⟨pl_B (by omega) (by omega), pl_B (by omega) (by omega), pl_B (by omega) (by omega)⟩
abbrev sC (s : SS) : Nat → Bool := fun k => (s k).1
def sN (s : SS) : Nat := fb_ct (sC s) 30
theorem sN_le (s : SS) : sN s ≤ 30 := fb_ct_le _ 30
theorem pl_bb' {b : Bool} : pl_b (b = true) = if b then 1 else 0 := by cases b <;> rfl
section SM
variable {μ : sl_M} {s : SS} {Q : Int32 → sl_M → Prop}
theorem ix_isIn_i (h : CR 4 μ s) {k : Nat} (hk : k < 30) : ix_isIn (nI k) μ Q ↔ Q (pl_b (sI s k)) μ := by
  unfold ix_isIn
  have h1 : (0 : Int32) ≤ nI k ∧ nI k < 30 := ⟨nI_pos' (by omega), pl_lt hk⟩
  simp only [sx_isBelow_i, pl_b0, h1, pl_in hk, pl_cl hk, (h k hk).2.1, pl_bz, not_true_eq_false, false_implies, true_and, and_self, not_false_eq_true, forall_const, pl_bz0, pl_bz1]
  by_cases hi : sI s k
  · have hi' : (s k).1 = true := hi
    rw [pl_bt hi]
    simp [hi']
  · have hi' : (s k).1 = false := by simpa using hi
    rw [pl_bf hi]
    simp [hi']
theorem ix_isIn_o {x : Int32} (hx : ¬ (0 ≤ x ∧ x < 30)) : ix_isIn x μ Q ↔ Q 0 μ := by
  unfold ix_isIn
  simp [sx_isBelow_i, pl_b0, hx, pl_bz0]
theorem mo_manyIn_s (h : MR μ s) (hq : Q (nI (sN s)) μ) : mo_manyIn μ Q := by
  refine up_0 (fun n x a => mo_manyIn_L4 Q n a x μ) (fun k => nI (fb_ct (sC s) k)) 30 (fun n => ⟨fun h => absurd h pl_nlt, fun _ => hq⟩) (fun n k hk ih => ?_)
  refine ⟨fun _ => ⟨pl_in hk, fun v hv => ?_⟩, fun h => absurd (pl_lt hk) h⟩
  rw [pl_cl hk, (h k hk).1] at hv
  have : v = nI (fb_ct (sC s) (k + 1)) := by
    rw [hv, fb_ct_succ]
    by_cases hi : sI s k
    · rw [pl_bt hi, if_pos hi, nI_1]
    · rw [pl_bf hi, if_neg hi]
      simp
  rw [this, pl_inc]
  exact ih
theorem ix_count_s (h : CR 4 μ s) (hq : Q (nI (sN s)) μ) : ix_count μ Q := by
  refine up_0 (fun n x a => ix_count_L4 Q n a x μ) (fun k => nI (fb_ct (sC s) k)) 30 (fun n => ⟨fun h => absurd h pl_nlt, fun _ => hq⟩) (fun n k hk ih => ?_)
  refine ⟨fun _ => ⟨pl_in hk, ?_⟩, fun h => absurd (pl_lt hk) h⟩
  rw [pl_cl hk, (h k hk).2.1, pl_bz]
  refine pl_bb (fun hi v hv => ?_) (fun hi v hv => ?_)
  · have : v = nI (fb_ct (sC s) (k + 1)) := by rw [hv, fb_ct_succ, if_neg hi]; simp
    rw [this, pl_inc]
    exact ih
  · have : v = nI (fb_ct (sC s) (k + 1)) := by rw [hv, fb_ct_succ, if_pos hi, nI_1]
    rw [this, pl_inc]
    exact ih
theorem ix_count_k_s (h : CR 60 μ s) (hq : Q (nI (sN s)) μ) : ix_count_k μ Q := by
  refine up_0 (fun n x a => ix_count_k_L4 Q n a x μ) (fun k => nI (fb_ct (sC s) k)) 30 (fun n => ⟨fun h => absurd h pl_nlt, fun _ => hq⟩) (fun n k hk ih => ?_)
  refine ⟨fun _ => ⟨pl_in hk, ?_⟩, fun h => absurd (pl_lt hk) h⟩
  rw [pl_cl hk, (h k hk).2.1, pl_bz]
  refine pl_bb (fun hi v hv => ?_) (fun hi v hv => ?_)
  · have : v = nI (fb_ct (sC s) (k + 1)) := by rw [hv, fb_ct_succ, if_neg hi]; simp
    rw [this, pl_inc]
    exact ih
  · have : v = nI (fb_ct (sC s) (k + 1)) := by rw [hv, fb_ct_succ, if_pos hi, nI_1]
    rw [this, pl_inc]
    exact ih
/-! keys -/
def K1 (q l h w y : Int) : Int := if q = 0 then l else if q = 1 then -h else if q = 2 then l - h else if q = 3 then -w else y
def K2 (q l h : Int) : Int := if q = 0 then h else if q = 3 then l - h else l
def CV (μ : sl_M) (c : Nat) (n l h w y : Int) : Prop := (μ c 0 = i3 n ∧ μ c 2 = i3 l ∧ μ c 3 = i3 h ∧ μ c 4 = i3 w ∧ μ c 5 = i3 y) ∧ (-5000 ≤ n ∧ n ≤ 5000) ∧ (-5000 ≤ l ∧ l ≤ 5000) ∧ (-5000 ≤ h ∧ h ≤ 5000) ∧ (-5000 ≤ w ∧ w ≤ 5000) ∧ (-5000 ≤ y ∧ y ≤ 5000)
theorem pl_q {q : Int} (h : 0 ≤ q ∧ q ≤ 4) : q = 0 ∨ q = 1 ∨ q = 2 ∨ q = 3 ∨ q = 4 := by omega
theorem sp_gapByFirst_i {a b : Nat} {q na la ha wa ya nb lb hb wb yb : Int} (hq : 0 ≤ q ∧ q ≤ 4) (h1 : CV μ a na la ha wa ya) (h2 : CV μ b nb lb hb wb yb) : sp_gapByFirst a b (i3 q) μ Q ↔ Q (i3 (K1 q la ha wa ya - K1 q lb hb wb yb)) μ := by
  obtain ⟨⟨a0, a2, a3, a4, a5⟩, -⟩ := h1
  obtain ⟨⟨b0, b2, b3, b4, b5⟩, -⟩ := h2
  unfold sp_gapByFirst sp_length
  have el : ∀ x y : Int, i3 x - i3 y + 1 = i3 (x - y + 1) := fun x y => by rw [i3_sub, i3_1, i3_add]
  simp only [a2, a3, a4, a5, b2, b3, b4, b5, el]
  simp only [i3_sub]
  have e1 : ∀ x y : Int, -x - -y = y - x := fun x y => by omega
  rcases pl_q hq with rfl | rfl | rfl | rfl | rfl
  · simp [show (i3 0 = 0) from rfl, i3_sub, K1]
  · simp [show ¬ (i3 1 = 0) by decide, show (i3 1 = 1) from rfl, i3_sub, K1, e1]
  · have e2 : hb - lb + 1 - (ha - la + 1) = la - ha - (lb - hb) := by omega
    simp [show ¬ (i3 2 = 0) by decide, show ¬ (i3 2 = 1) by decide, show (i3 2 = 2) from rfl, K1, i3_sub, e2]
  · simp [show ¬ (i3 3 = 0) by decide, show ¬ (i3 3 = 1) by decide, show ¬ (i3 3 = 2) by decide, show (i3 3 = 3) from rfl, i3_sub, K1, e1]
  · simp [show ¬ (i3 4 = 0) by decide, show ¬ (i3 4 = 1) by decide, show ¬ (i3 4 = 2) by decide, show ¬ (i3 4 = 3) by decide, i3_sub, K1]
theorem sp_gapBySecond_i {a b : Nat} {q na la ha wa ya nb lb hb wb yb : Int} (hq : 0 ≤ q ∧ q ≤ 4) (h1 : CV μ a na la ha wa ya) (h2 : CV μ b nb lb hb wb yb) : sp_gapBySecond a b (i3 q) μ Q ↔ Q (i3 (K2 q la ha - K2 q lb hb)) μ := by
  obtain ⟨⟨a0, a2, a3, a4, a5⟩, -⟩ := h1
  obtain ⟨⟨b0, b2, b3, b4, b5⟩, -⟩ := h2
  unfold sp_gapBySecond sp_length
  have el : ∀ x y : Int, i3 x - i3 y + 1 = i3 (x - y + 1) := fun x y => by rw [i3_sub, i3_1, i3_add]
  simp only [a2, a3, b2, b3, el]
  simp only [i3_sub]
  have e2 : hb - lb + 1 - (ha - la + 1) = la - ha - (lb - hb) := by omega
  rcases pl_q hq with rfl | rfl | rfl | rfl | rfl
  · simp [show (i3 0 = 0) from rfl, i3_sub, K2]
  · simp [show ¬ (i3 1 = 0) by decide, show ¬ (i3 1 = 3) by decide, i3_sub, K2]
  · simp [show ¬ (i3 2 = 0) by decide, show ¬ (i3 2 = 3) by decide, i3_sub, K2]
  · simp [show ¬ (i3 3 = 0) by decide, show (i3 3 = 3) from rfl, i3_sub, K2, e2]
  · simp [show ¬ (i3 4 = 0) by decide, show ¬ (i3 4 = 3) by decide, i3_sub, K2]
theorem K1_B {q l h w y : Int} (h1 : -5000 ≤ l ∧ l ≤ 5000) (h2 : -5000 ≤ h ∧ h ≤ 5000) (h3 : -5000 ≤ w ∧ w ≤ 5000) (h4 : -5000 ≤ y ∧ y ≤ 5000) : -10000 ≤ K1 q l h w y ∧ K1 q l h w y ≤ 10000 := by
  unfold K1
  split
  · omega
  · split
    · omega
    · split
      · omega
      · split <;> omega
theorem K2_B {q l h : Int} (h1 : -5000 ≤ l ∧ l ≤ 5000) (h2 : -5000 ≤ h ∧ h ≤ 5000) : -10000 ≤ K2 q l h ∧ K2 q l h ≤ 10000 := by
  unfold K2
  split
  · omega
  · split <;> omega
theorem sp_isAhead_i {a b : Nat} {q na la ha wa ya nb lb hb wb yb : Int} (hq : 0 ≤ q ∧ q ≤ 4) (h1 : CV μ a na la ha wa ya) (h2 : CV μ b nb lb hb wb yb) : sp_isAhead a b (i3 q) μ Q ↔ Q (pl_b (Lx (K1 q la ha wa ya) (K2 q la ha) na (K1 q lb hb wb yb) (K2 q lb hb) nb)) μ := by
  unfold sp_isAhead
  simp only [sp_gapByFirst_i hq h1 h2, sp_gapBySecond_i hq h1 h2]
  obtain ⟨⟨a0, -⟩, ra1, ra2, ra3, ra4, ra5⟩ := h1
  obtain ⟨⟨b0, -⟩, rb1, rb2, rb3, rb4, rb5⟩ := h2
  have A1 := K1_B (q := q) ra2 ra3 ra4 ra5
  have A2 := K2_B (q := q) ra2 ra3
  have B1 := K1_B (q := q) rb2 rb3 rb4 rb5
  have B2 := K2_B (q := q) rb2 rb3
  rw [a0, b0]
  generalize K1 q la ha wa ya = x1 at A1 ⊢
  generalize K2 q la ha = x2 at A2 ⊢
  generalize K1 q lb hb wb yb = y1 at B1 ⊢
  generalize K2 q lb hb = y2 at B2 ⊢
  have e1 : i3 (x1 - y1) = 0 ↔ x1 = y1 := by rw [i3_0, i3_eq (pl_B (by omega) (by omega)) (pl_B (by omega) (by omega))]; omega
  have e2 : i3 (x1 - y1) < 0 ↔ x1 < y1 := by rw [i3_0, i3_lt (pl_B (by omega) (by omega)) (pl_B (by omega) (by omega))]; omega
  have e3 : i3 (x2 - y2) = 0 ↔ x2 = y2 := by rw [i3_0, i3_eq (pl_B (by omega) (by omega)) (pl_B (by omega) (by omega))]; omega
  have e4 : i3 (x2 - y2) < 0 ↔ x2 < y2 := by rw [i3_0, i3_lt (pl_B (by omega) (by omega)) (pl_B (by omega) (by omega))]; omega
  have e5 : i3 na < i3 nb ↔ na < nb := i3_lt (pl_B (by omega) (by omega)) (pl_B (by omega) (by omega))
  rw [e1, e2, e3, e4, e5]
  by_cases c1 : x1 = y1
  · have n1 : ¬ x1 < y1 := by omega
    by_cases c2 : x2 = y2
    · have n2 : ¬ x2 < y2 := by omega
      by_cases c3 : na < nb <;> simp [Lx, c1, c2, c3, pl_b, pl_bz0, pl_bz1]
    · by_cases c3 : x2 < y2 <;> simp [Lx, c1, c2, c3, pl_b, pl_bz0, pl_bz1]
  · by_cases c2 : x1 < y1 <;> simp [Lx, c1, c2, pl_b, pl_bz0, pl_bz1]
theorem mo_first_i (h : MR μ s) {q y : Int} (hq : 0 ≤ q ∧ q ≤ 4) {k : Nat} (hk : k < 30) (hy : μ 109 k = i3 y) : mo_first (i3 q) (nI k) μ Q ↔ Q (i3 (K1 q (sL s k) (sH s k) (sW s k) y)) μ := by
  obtain ⟨h1, h2, h3, h4⟩ := h k hk
  unfold mo_first mo_firstOf
  simp only [pl_in hk, pl_cl hk, h2, h3, h4, hy, true_and]
  rcases pl_q hq with rfl | rfl | rfl | rfl | rfl
  · simp [show (i3 0 = 0) from rfl, K1]
  · simp [show ¬ (i3 1 = 0) by decide, show (i3 1 = 1) from rfl, i3_neg, K1]
  · simp [show ¬ (i3 2 = 0) by decide, show ¬ (i3 2 = 1) by decide, show (i3 2 = 2) from rfl, K1, i3_sub]
  · simp [show ¬ (i3 3 = 0) by decide, show ¬ (i3 3 = 1) by decide, show ¬ (i3 3 = 2) by decide, show (i3 3 = 3) from rfl, i3_neg, K1]
  · simp [show ¬ (i3 4 = 0) by decide, show ¬ (i3 4 = 1) by decide, show ¬ (i3 4 = 2) by decide, show ¬ (i3 4 = 3) by decide, K1]
theorem mo_second_i (h : MR μ s) {q : Int} (hq : 0 ≤ q ∧ q ≤ 4) {k : Nat} (hk : k < 30) : mo_second (i3 q) (nI k) μ Q ↔ Q (i3 (K2 q (sL s k) (sH s k))) μ := by
  obtain ⟨h1, h2, h3, h4⟩ := h k hk
  unfold mo_second mo_secondOf
  simp only [pl_in hk, pl_cl hk, h2, h3, true_and]
  rcases pl_q hq with rfl | rfl | rfl | rfl | rfl
  · simp [show (i3 0 = 0) from rfl, K2]
  · simp [show ¬ (i3 1 = 0) by decide, show ¬ (i3 1 = 3) by decide, K2]
  · simp [show ¬ (i3 2 = 0) by decide, show ¬ (i3 2 = 3) by decide, K2]
  · simp [show ¬ (i3 3 = 0) by decide, show (i3 3 = 3) from rfl, i3_sub, K2]
  · simp [show ¬ (i3 4 = 0) by decide, show ¬ (i3 4 = 3) by decide, K2]
theorem mo_isLess_i {a1 a2 a3 b1 b2 b3 : Int} (h1 : i3B a1) (h2 : i3B a2) (h3 : i3B a3) (g1 : i3B b1) (g2 : i3B b2) (g3 : i3B b3) : mo_isLess (i3 a1) (i3 a2) (i3 a3) (i3 b1) (i3 b2) (i3 b3) μ Q ↔ Q (pl_b (Lx a1 a2 a3 b1 b2 b3)) μ := by
  unfold mo_isLess
  rw [i3_lt h1 g1, i3_eq h1 g1, i3_lt h2 g2, i3_eq h2 g2, i3_lt h3 g3]
  by_cases c1 : a1 < b1
  · simp [Lx, c1, pl_b, pl_bz1]
  · by_cases c2 : a1 = b1
    · by_cases c3 : a2 < b2
      · simp [Lx, c2, c3, pl_b, pl_bz1]
      · by_cases c4 : a2 = b2
        · by_cases c5 : a3 < b3 <;> simp [Lx, c2, c4, c5, pl_b, pl_bz0, pl_bz1]
        · simp [Lx, c2, c3, c4, pl_b, pl_bz0]
    · simp [Lx, c1, c2, pl_b, pl_bz0]
end SM
