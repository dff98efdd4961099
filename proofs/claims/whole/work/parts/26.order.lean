/-! loops, frames, the order by keys -/
theorem lp {σ : Type} (W : Nat → σ → Prop) (J : Nat → σ → Prop) (N : Nat) (hx : ∀ n st, J N st → W (n + 1) st) (hs : ∀ n k st, k < N → J k st → (∀ st', J (k + 1) st' → W n st') → W (n + 1) st) : ∀ k, k ≤ N → ∀ st, J k st → W (N - k + 1) st := by
  have : ∀ d k, k + d = N → ∀ st, J k st → W (d + 1) st := by
    intro d
    induction d with
    | zero =>
      intro k h st hj
      obtain rfl : k = N := by simpa using h
      exact hx 0 st hj
    | succ d ih =>
      intro k h st hj
      exact hs (d + 1) k st (by omega) hj (ih (k + 1) (by omega))
  intro k hk st hj
  exact this (N - k) k (by omega) st hj
theorem lp0 {σ : Type} (W : Nat → σ → Prop) (J : Nat → σ → Prop) (N : Nat) (st : σ) (h : J 0 st) (hx : ∀ n st, J N st → W (n + 1) st) (hs : ∀ n k st, k < N → J k st → (∀ st', J (k + 1) st' → W n st') → W (n + 1) st) : ∃ n, W n st := ⟨_, lp W J N hx hs 0 (Nat.zero_le _) st h⟩
theorem lq2 {α β : Type} (W : Nat → α → β → Prop) (J : Nat → α → β → Prop) (N : Nat) (a : α) (b : β) (h : J 0 a b) (hx : ∀ n a b, J N a b → W (n + 1) a b) (hs : ∀ n k a b, k < N → J k a b → (∀ a' b', J (k + 1) a' b' → W n a' b') → W (n + 1) a b) : ∃ n, W n a b := lp0 (fun n (st : α × β) => W n st.1 st.2) (fun k st => J k st.1 st.2) N (a, b) h (fun n st hj => hx n st.1 st.2 hj) (fun n k st hk hj ih => hs n k st.1 st.2 hk hj (fun a' b' hj' => ih (a', b') hj'))
theorem lq3 {α β γ : Type} (W : Nat → α → β → γ → Prop) (J : Nat → α → β → γ → Prop) (N : Nat) (a : α) (b : β) (c : γ) (h : J 0 a b c) (hx : ∀ n a b c, J N a b c → W (n + 1) a b c) (hs : ∀ n k a b c, k < N → J k a b c → (∀ a' b' c', J (k + 1) a' b' c' → W n a' b' c') → W (n + 1) a b c) : ∃ n, W n a b c := lp0 (fun n (st : α × β × γ) => W n st.1 st.2.1 st.2.2) (fun k st => J k st.1 st.2.1 st.2.2) N (a, b, c) h (fun n st hj => hx n st.1 st.2.1 st.2.2 hj) (fun n k st hk hj ih => hs n k st.1 st.2.1 st.2.2 hk hj (fun a' b' c' hj' => ih (a', b', c') hj'))
theorem lq4 {α β γ δ : Type} (W : Nat → α → β → γ → δ → Prop) (J : Nat → α → β → γ → δ → Prop) (N : Nat) (a : α) (b : β) (c : γ) (d : δ) (h : J 0 a b c d) (hx : ∀ n a b c d, J N a b c d → W (n + 1) a b c d) (hs : ∀ n k a b c d, k < N → J k a b c d → (∀ a' b' c' d', J (k + 1) a' b' c' d' → W n a' b' c' d') → W (n + 1) a b c d) : ∃ n, W n a b c d := lp0 (fun n (st : α × β × γ × δ) => W n st.1 st.2.1 st.2.2.1 st.2.2.2) (fun k st => J k st.1 st.2.1 st.2.2.1 st.2.2.2) N (a, b, c, d) h (fun n st hj => hx n st.1 st.2.1 st.2.2.1 st.2.2.2 hj) (fun n k st hk hj ih => hs n k st.1 st.2.1 st.2.2.1 st.2.2.2 hk hj (fun a' b' c' d' hj' => ih (a', b', c', d') hj'))
def fu {α : Type} (f : Nat → α) (b : Nat) (v : α) : Nat → α := fun k => if k = b then v else f k
theorem fu_s {α : Type} {f : Nat → α} {b : Nat} {v : α} : fu f b v b = v := if_pos rfl
theorem fu_o {α : Type} {f : Nat → α} {b k : Nat} {v : α} (h : k ≠ b) : fu f b v k = f k := if_neg h
/-- what may have changed -/
def Fr (p : Nat → Nat → Prop) (μ μ' : sl_M) : Prop := ∀ o k, ¬ p o k → μ' o k = μ o k
theorem Fr.rfl' {p : Nat → Nat → Prop} {μ : sl_M} : Fr p μ μ := fun _ _ _ => rfl
theorem Fr.tr {p : Nat → Nat → Prop} {a b c : sl_M} (h1 : Fr p a b) (h2 : Fr p b c) : Fr p a c := fun o k h => (h2 o k h).trans (h1 o k h)
theorem Fr.mono {p q : Nat → Nat → Prop} {a b : sl_M} (h : Fr p a b) (hq : ∀ o k, p o k → q o k) : Fr q a b := fun o k hn => h o k (fun z => hn (hq o k z))
theorem Fr.up {p : Nat → Nat → Prop} {a b : sl_M} (h : Fr p a b) {o k : Nat} {v : Int32} (hp : p o k) : Fr p a (sl_up b o k v) := by
  intro o' k' hn
  rw [pl_up, if_neg (fun q => hn (by rw [q.1, q.2]; exact hp)), h o' k' hn]
abbrev f3 : Nat → Nat → Prop := fun o _ => o = 3
abbrev f9 : Nat → Nat → Prop := fun o _ => o = 109
abbrev f10 : Nat → Nat → Prop := fun o _ => o = 109 ∨ o = 110
theorem CR.fr {p : Nat → Nat → Prop} {o : Nat} {μ μ' : sl_M} {s : SS} (h : CR o μ s) (hf : Fr p μ μ') (hp : ∀ k j, k < 30 → j ≤ 4 → ¬ p (o + k) j) : CR o μ' s := by
  intro k hk
  obtain ⟨h1, h2, h3, h4, h5⟩ := h k hk
  exact ⟨by rw [hf _ _ (hp k 0 hk (by omega)), h1], by rw [hf _ _ (hp k 1 hk (by omega)), h2], by rw [hf _ _ (hp k 2 hk (by omega)), h3], by rw [hf _ _ (hp k 3 hk (by omega)), h4], by rw [hf _ _ (hp k 4 hk (by omega)), h5]⟩
theorem MR.fr {p : Nat → Nat → Prop} {μ μ' : sl_M} {s : SS} (h : MR μ s) (hf : Fr p μ μ') (hp : ∀ o k, 105 ≤ o → o ≤ 108 → ¬ p o k) : MR μ' s := by
  intro k hk
  obtain ⟨h1, h2, h3, h4⟩ := h k hk
  exact ⟨by rw [hf _ _ (hp 108 k (by omega) (by omega)), h1], by rw [hf _ _ (hp 105 k (by omega) (by omega)), h2], by rw [hf _ _ (hp 106 k (by omega) (by omega)), h3], by rw [hf _ _ (hp 107 k (by omega) (by omega)), h4]⟩
/-- who is ahead by keys -/
def RR (s : SS) (y : Nat → Int) (q : Int) (a b : Nat) : Bool := decide (Lx (K1 q (sL s a) (sH s a) (sW s a) (y a)) (K2 q (sL s a) (sH s a)) (a : Int) (K1 q (sL s b) (sH s b) (sW s b) (y b)) (K2 q (sL s b) (sH s b)) (b : Int))
theorem RR_ord (s : SS) (y : Nat → Int) (q : Int) : Ord (RR s y q) := by
  refine ⟨fun a => ?_, fun a b c h1 h2 => ?_, fun a b h => ?_⟩
  · unfold RR
    rw [decide_eq_false_iff_not]
    omega
  · unfold RR at *
    rw [decide_eq_true_eq] at *
    omega
  · unfold RR
    rw [decide_eq_true_eq, decide_eq_true_eq]
    omega
abbrev rq (s : SS) (y : Nat → Int) (q : Int) (n k : Nat) : Nat := rk (sC s) (RR s y q) n k
/-- who stands at place i -/
noncomputable def en (s : SS) (y : Nat → Int) (q : Int) (i : Nat) : Nat := Classical.epsilon (fun k => k < 30 ∧ sI s k ∧ rq s y q 30 k = i)
theorem en_ok {s : SS} {y : Nat → Int} {q : Int} {i : Nat} (h : i < sN s) : en s y q i < 30 ∧ sI s (en s y q i) ∧ rq s y q 30 (en s y q i) = i := Classical.epsilon_spec (p := fun k => k < 30 ∧ sI s k ∧ rq s y q 30 k = i) (rk_at (RR_ord s y q) h)
theorem en_rk {s : SS} {y : Nat → Int} {q : Int} {k : Nat} (hk : k < 30) (hi : sI s k) : en s y q (rq s y q 30 k) = k := by
  have h := en_ok (s := s) (y := y) (q := q) (rk_bd (RR_ord s y q) hk hi)
  exact rk_inj (RR_ord s y q) h.1 hk h.2.1 hi h.2.2
theorem en_lt {s : SS} {y : Nat → Int} {q : Int} {i j : Nat} (h : i < j) (hj : j < sN s) : RR s y q (en s y q i) (en s y q j) = true := by
  have h1 := en_ok (s := s) (y := y) (q := q) hj
  have h2 := en_ok (s := s) (y := y) (q := q) (i := i) (by omega)
  rw [rk_iff (I := sC s) (RR_ord s y q) h2.1 h1.1 h2.2.1 h1.2.1]
  show rq s y q 30 _ < rq s y q 30 _
  omega
theorem en_inj {s : SS} {y : Nat → Int} {q : Int} {i j : Nat} (hi : i < sN s) (hj : j < sN s) (e : en s y q i = en s y q j) : i = j := by
  have h1 := en_ok (s := s) (y := y) (q := q) hi
  have h2 := en_ok (s := s) (y := y) (q := q) hj
  rw [← h1.2.2, ← h2.2.2, e]
section OR
variable {μ : sl_M} {s : SS} {Q : Int32 → sl_M → Prop} {P : sl_M → Prop}
def yB (y : Nat → Int) : Prop := ∀ k, k < 30 → 0 ≤ y k ∧ y k ≤ 29
theorem yB_ly (s : SS) : yB (fun k => (ly s k : Int)) := fun k hk => by
  have := ly_29 (s := s) hk
  exact ⟨by show (0 : Int) ≤ (ly s k : Int); omega, by show (ly s k : Int) ≤ 29; omega⟩
theorem mo_isAhead_i (h : MR μ s) (ok : sOK s) {y : Nat → Int} (hy : ∀ k, k < 30 → μ 109 k = i3 (y k)) (yb : yB y) {q : Int} (hq : 0 ≤ q ∧ q ≤ 4) {a b : Nat} (ha : a < 30) (hb : b < 30) (ia : sI s a) (ib : sI s b) : mo_isAhead (i3 q) (nI a) (nI b) μ Q ↔ Q (pl_b (RR s y q a b = true)) μ := by
  have oa := ok a ha ia
  have ob := ok b hb ib
  have ya := yb a ha
  have yb' := yb b hb
  have A1 := K1_B (q := q) (l := sL s a) (h := sH s a) (w := sW s a) (y := y a) (by omega) (by omega) (by omega) (by omega)
  have A2 := K2_B (q := q) (l := sL s a) (h := sH s a) (by omega) (by omega)
  have B1 := K1_B (q := q) (l := sL s b) (h := sH s b) (w := sW s b) (y := y b) (by omega) (by omega) (by omega) (by omega)
  have B2 := K2_B (q := q) (l := sL s b) (h := sH s b) (by omega) (by omega)
  unfold mo_isAhead
  simp only [mo_first_i h hq ha (hy a ha), mo_second_i h hq ha, mo_first_i h hq hb (hy b hb), mo_second_i h hq hb]
  rw [i3_n a, i3_n b, mo_isLess_i (pl_B (by omega) (by omega)) (pl_B (by omega) (by omega)) (pl_B (by omega) (by omega)) (pl_B (by omega) (by omega)) (pl_B (by omega) (by omega)) (pl_B (by omega) (by omega))]
  have e : pl_b (RR s y q a b = true) = pl_b (Lx (K1 q (sL s a) (sH s a) (sW s a) (y a)) (K2 q (sL s a) (sH s a)) (a : Int) (K1 q (sL s b) (sH s b) (sW s b) (y b)) (K2 q (sL s b) (sH s b)) (b : Int)) := pl_bcong (by unfold RR; rw [decide_eq_true_eq])
  rw [e, pl_bz]
  simp
theorem mo_aheadOf_s (h : MR μ s) (ok : sOK s) {y : Nat → Int} (hy : ∀ k, k < 30 → μ 109 k = i3 (y k)) (yb : yB y) {q : Int} (hq : 0 ≤ q ∧ q ≤ 4) {k : Nat} (hk : k < 30) (ik : sI s k) (hQ : Q (nI (rq s y q 30 k)) μ) : mo_aheadOf (i3 q) (nI k) μ Q := by
  refine up_0 (fun n x a => mo_aheadOf_L5 (i3 q) (nI k) Q n a x μ) (fun j => nI (rq s y q j k)) 30 (fun n => ⟨fun h => absurd h pl_nlt, fun _ => hQ⟩) (fun n j hj ih => ?_)
  refine ⟨fun _ => ⟨pl_in hj, ?_⟩, fun h => absurd (pl_lt hj) h⟩
  rw [pl_cl hj, (h j hj).1, pl_b1]
  have step : rq s y q (j + 1) k = rq s y q j k + (if (sC s j && RR s y q j k) then 1 else 0) := rfl
  refine ⟨fun ij => ?_, fun ij v hv => ?_⟩
  · rw [mo_isAhead_i h ok hy yb hq hj hk ij ik]
    refine pl_bb (fun hr v hv => ?_) (fun hr v hv => ?_)
    · have : v = nI (rq s y q (j + 1) k) := by
        rw [hv, step, if_neg (by simp [hr])]
        simp
      rw [this, pl_inc]
      exact ih
    · have : v = nI (rq s y q (j + 1) k) := by
        rw [hv, step, if_pos (by rw [show sC s j = true from ij, hr]; rfl), nI_1]
      rw [this, pl_inc]
      exact ih
  · have : v = nI (rq s y q (j + 1) k) := by
      rw [hv, step, if_neg (fun z => ij (Bool.and_eq_true_iff.mp z).1)]
      simp
    rw [this, pl_inc]
    exact ih
theorem mo_covers_i (h : MR μ s) (ok : sOK s) {a b : Nat} (ha : a < 30) (hb : b < 30) : mo_covers (nI a) (nI b) μ Q ↔ Q (pl_b (cov s a b)) μ := by
  obtain ⟨a1, a2, a3, a4⟩ := h a ha
  obtain ⟨b1, b2, b3, b4⟩ := h b hb
  unfold mo_covers mo_covers_B61 mo_lengthOf
  simp only [pl_in ha, pl_in hb, pl_cl ha, pl_cl hb, a1, a2, a3, b1, b2, b3, pl_b1, true_and]
  by_cases ia : sI s a
  · by_cases ib : sI s b
    · have oa := ok a ha ia
      have ob := ok b hb ib
      have e0 : nI a = nI b ↔ a = b := nI_eq (by omega) (by omega)
      have e1 : i3 (sL s a) ≤ i3 (sL s b) ↔ sL s a ≤ sL s b := i3_le (ok.B ha ia).1 (ok.B hb ib).1
      have e2 : i3 (sH s a) < i3 (sH s b) ↔ sH s a < sH s b := i3_lt (ok.B ha ia).2.1 (ok.B hb ib).2.1
      have e3 : i3 (sH s a) - i3 (sL s a) + 1 = i3 (sH s a - sL s a + 1) := by rw [i3_sub, i3_1, i3_add]
      have e4 : i3 (sH s b) - i3 (sL s b) + 1 = i3 (sH s b - sL s b + 1) := by rw [i3_sub, i3_1, i3_add]
      have e5 : i3 (sH s a - sL s a + 1) ≤ i3 (sH s b - sL s b + 1) ↔ sH s a - sL s a + 1 ≤ sH s b - sL s b + 1 := i3_le (pl_B (by omega) (by omega)) (pl_B (by omega) (by omega))
      have e6 : nI a < nI b ↔ a < b := nI_ltI (by omega) (by omega)
      simp only [e0, e1, e2, e3, e4, e5, e6]
      by_cases c : cov s a b
      · obtain ⟨-, -, c3, c4, c5, c6⟩ := c
        rw [pl_bt (show cov s a b from ⟨ia, ib, c3, c4, c5, c6⟩)]
        have n1 : ¬ sH s a < sH s b := by omega
        by_cases c7 : sH s a - sL s a + 1 ≤ sH s b - sL s b + 1
        · have c8 : a < b := by omega
          simp [sI, ia, ib, c3, c4, n1, c7, c8, pl_bz1]
        · simp [sI, ia, ib, c3, c4, n1, c7, pl_bz1]
      · rw [pl_bf c]
        by_cases c3 : a = b
        · simp [sI, ia, ib, c3, pl_bz0]
        · by_cases c4 : sL s a ≤ sL s b
          · by_cases c5 : sH s a < sH s b
            · simp [sI, ia, ib, c3, c4, c5, pl_bz0]
            · have c7 : sH s a - sL s a + 1 ≤ sH s b - sL s b + 1 := by
                apply Classical.byContradiction
                intro c7
                exact c ⟨ia, ib, c3, c4, by omega, by omega⟩
              have c8 : ¬ a < b := fun c8 => c ⟨ia, ib, c3, c4, by omega, Or.inr c8⟩
              simp [sI, ia, ib, c3, c4, c5, c7, c8, pl_bz0]
          · simp [sI, ia, ib, c3, c4, pl_bz0]
    · rw [pl_bf (fun c : cov s a b => ib c.2.1)]
      simp [sI, ia, ib, pl_bz0]
  · rw [pl_bf (fun c : cov s a b => ia c.1)]
    simp [sI, ia, pl_bz0]
end OR
