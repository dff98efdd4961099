/-! the runs: what the reference lays, given the pieces -/
theorem hg_1 {s : SS} {x : Int} : ∀ n, 0 ≤ hg s w1 x n ∧ (0 < hg s w1 x n ↔ ∃ k, k < n ∧ sI s k ∧ sL s k ≤ x ∧ x ≤ sH s k)
  | 0 => ⟨Int.le_refl _, fun z => absurd z (by show ¬ (0 : Int) < 0; omega), fun ⟨k, hk, _⟩ => absurd hk (by omega)⟩
  | n + 1 => by
    have ih := hg_1 (s := s) (x := x) n
    by_cases c : sI s n ∧ sL s n ≤ x ∧ x ≤ sH s n
    · rw [hg_y c]
      refine ⟨by show 0 ≤ hg s w1 x n + 1; omega, fun _ => ⟨n, by omega, c⟩, fun _ => by show 0 < hg s w1 x n + 1; omega⟩
    · rw [hg_n c, ih.2]
      refine ⟨ih.1, fun ⟨k, hk, h⟩ => ⟨k, by omega, h⟩, fun ⟨k, hk, h⟩ => ⟨k, ?_, h⟩⟩
      by_cases e : k = n
      · subst e
        exact absurd h c
      · omega
abbrev fW : Nat → Nat → Prop := fun o k => (o = 104 ∧ k = 13) ∨ o = 117 ∨ o = 118
abbrev fU : Nat → Nat → Prop := fun o k => (o = 104 ∧ k = 13) ∨ (115 ≤ o ∧ o ≤ 118)
section RU
variable {μ : sl_M} {s : SS} {Q : Int32 → sl_M → Prop} {P : sl_M → Prop}
theorem dp_0 {m5 m : sl_M} (hd : DL s m5 30) (hf : Fr fW m5 m) (ok : sOK s) {p : Nat} (hp : p < 1000) : m 115 p ≤ 0 ↔ ¬ cvd s p := by
  rw [hf 115 p (by omega), (hd p hp).1]
  have h := hg_1 (s := s) (x := (p : Int)) 30
  have b := hg_B (s := s) (w := w1) (x := (p : Int)) (n := 30) (fun k _ _ => by show -99 ≤ (1 : Int) ∧ (1 : Int) ≤ 99; omega)
  rw [i3_0, i3_le (pl_B (by omega) (by omega)) (pl_B (by omega) (by omega))]
  have e : cvd s p ↔ 0 < hg s w1 (p : Int) 30 := h.2.symm
  rw [e]
  omega
theorem mo_leastLow_s (h : MR μ s) (ok : sOK s) (hQ : ∀ x : Nat, x ≤ 1000 → (∀ k, k < 30 → sI s k → (x : Int) ≤ sL s k) → (x = 1000 ∨ ∃ k, k < 30 ∧ sI s k ∧ sL s k = (x : Int)) → Q (nI x) μ) : mo_leastLow μ Q := by
  refine lq2 (fun n x1 x2 => mo_leastLow_L6 Q n x1 x2 μ) (fun j x1 x2 => x2 = nI j ∧ ∃ x : Nat, x1 = nI x ∧ x ≤ 1000 ∧ (∀ k, k < j → sI s k → (x : Int) ≤ sL s k) ∧ (x = 1000 ∨ ∃ k, k < 30 ∧ sI s k ∧ sL s k = (x : Int))) 30 _ _ ⟨rfl, 1000, rfl, Nat.le_refl _, fun k hk => absurd hk (by omega), Or.inl rfl⟩ ?_ ?_
  · rintro n x1 x2 ⟨rfl, x, rfl, h1, h2, h3⟩
    exact ⟨fun z => absurd z pl_nlt, fun _ => hQ x h1 h2 h3⟩
  · rintro n j x1 x2 hj ⟨rfl, x, rfl, h1, h2, h3⟩ ih
    refine ⟨fun _ => ⟨pl_in hj, ?_⟩, fun z => absurd (pl_lt hj) z⟩
    rw [pl_cl hj, (h j hj).1, (h j hj).2.1, pl_b1, pl_inc]
    refine ⟨fun ij => ⟨pl_in hj, ?_⟩, fun ij => ?_⟩
    · have o := ok j hj ij
      rw [i3_n x, i3_lt (ok.B hj ij).1 (pl_B (by omega) (by omega)), ← i3_n]
      refine ⟨fun c => ⟨pl_in hj, ih _ _ ⟨rfl, (sL s j).toNat, ?_, by omega, fun k hk ik => ?_, Or.inr ⟨j, hj, ij, by omega⟩⟩⟩, fun c => ih _ _ ⟨rfl, x, rfl, h1, fun k hk ik => ?_, h3⟩⟩
      · rw [i3_n]
        congr 1
        omega
      · by_cases e : k = j
        · subst e
          omega
        · have := h2 k (by omega) ik
          omega
      · by_cases e : k = j
        · subst e
          omega
        · exact h2 k (by omega) ik
    · refine ih _ _ ⟨rfl, x, rfl, h1, fun k hk ik => ?_, h3⟩
      by_cases e : k = j
      · subst e
        exact absurd ik ij
      · exact h2 k (by omega) ik
theorem mo_greatestHigh_s (h : MR μ s) (ok : sOK s) (hQ : ∀ x : Int, -1 ≤ x → x ≤ 999 → (∀ k, k < 30 → sI s k → sH s k ≤ x) → (x = -1 ∨ ∃ k, k < 30 ∧ sI s k ∧ sH s k = x) → Q (i3 x) μ) : mo_greatestHigh μ Q := by
  refine lq2 (fun n x1 x2 => mo_greatestHigh_L4 Q n x1 x2 μ) (fun j x1 x2 => x2 = nI j ∧ ∃ x : Int, x1 = i3 x ∧ -1 ≤ x ∧ x ≤ 999 ∧ (∀ k, k < j → sI s k → sH s k ≤ x) ∧ (x = -1 ∨ ∃ k, k < 30 ∧ sI s k ∧ sH s k = x)) 30 _ _ ⟨rfl, -1, rfl, by omega, by omega, fun k hk => absurd hk (by omega), Or.inl rfl⟩ ?_ ?_
  · rintro n x1 x2 ⟨rfl, x, rfl, h0, h1, h2, h3⟩
    exact ⟨fun z => absurd z pl_nlt, fun _ => hQ x h0 h1 h2 h3⟩
  · rintro n j x1 x2 hj ⟨rfl, x, rfl, h0, h1, h2, h3⟩ ih
    refine ⟨fun _ => ⟨pl_in hj, ?_⟩, fun z => absurd (pl_lt hj) z⟩
    rw [pl_cl hj, (h j hj).1, (h j hj).2.2.1, pl_b1, pl_inc]
    refine ⟨fun ij => ⟨pl_in hj, ?_⟩, fun ij => ?_⟩
    · have o := ok j hj ij
      rw [i3_le (ok.B hj ij).2.1 (pl_B (by omega) (by omega))]
      refine ⟨fun c => ih _ _ ⟨rfl, x, rfl, h0, h1, fun k hk ik => ?_, h3⟩, fun c => ⟨pl_in hj, ih _ _ ⟨rfl, sH s j, rfl, by omega, by omega, fun k hk ik => ?_, Or.inr ⟨j, hj, ij, rfl⟩⟩⟩⟩
      · by_cases e : k = j
        · subst e
          omega
        · exact h2 k (by omega) ik
      · by_cases e : k = j
        · subst e
          omega
        · have := h2 k (by omega) ik
          omega
    · refine ih _ _ ⟨rfl, x, rfl, h0, h1, fun k hk ik => ?_, h3⟩
      by_cases e : k = j
      · subst e
        exact absurd ik ij
      · exact h2 k (by omega) ik
theorem mo_layRuns_c (h : MR μ s) (ok : sOK s) {n : Nat} {f l : Nat → Nat} (pc : Pcs s n f l) {a1 : Int32} (H0 : ∀ m, Fr fU μ m → m 104 13 = 0 → n = 0 → P m) (H1 : ∀ m, Fr fU μ m → DL s m 30 → m 104 13 = 0 → 0 < n → ∃ k, mo_layRuns_L22 a1 P k 0 (nI (l (n - 1))) (nI (f 0)) m) : mo_layRuns a1 μ P := by
  unfold mo_layRuns
  refine mo_layDepths_s h ok (fun m4 hf4 hd4 => ?_)
  rintro m5 rfl
  have hf5 : Fr fU μ (sl_up m4 104 13 0) := (hf4.mono (fun o k z => by omega)).up (by omega)
  have hm5 : MR (sl_up m4 104 13 0) s := h.fr hf5 (fun o k h1 h2 z => by omega)
  have hd5 : DL s (sl_up m4 104 13 0) 30 := fun p hp => by
    rw [pl_up_o (by omega), pl_up_o (by omega)]
    exact hd4 p hp
  refine mo_greatestHigh_s hm5 ok (fun x x0 x1 x2 x3 => ?_)
  refine mo_leastLow_s hm5 ok (fun y y1 y2 y3 => ?_)
  by_cases hn : n = 0
  · have hno : ∀ k, k < 30 → ¬ sI s k := by
      intro k hk ik
      have o := ok k hk ik
      obtain ⟨i, hi, _⟩ := (pc.c (sL s k).toNat).mp ⟨k, hk, ik, by omega, by omega⟩
      omega
    have ex : x = -1 := by
      rcases x3 with e | ⟨k, hk, ik, _⟩
      · exact e
      · exact absurd ik (hno k hk)
    have ey : y = 1000 := by
      rcases y3 with e | ⟨k, hk, ik, _⟩
      · exact e
      · exact absurd ik (hno k hk)
    rw [ex, ey]
    exact ⟨1, fun z => absurd z (by decide), fun _ => H0 _ hf5 pl_up_s hn⟩
  · have a0 := pc.a 0 (by omega)
    have an := pc.a (n - 1) (by omega)
    have ey : y = f 0 := by
      obtain ⟨k, hk, ik, k1, k2⟩ := (pc.c (f 0)).mpr ⟨0, by omega, Nat.le_refl _, a0.1⟩
      have q := y2 k hk ik
      rcases y3 with e | ⟨k', hk', ik', e⟩
      · omega
      · have o := ok k' hk' ik'
        obtain ⟨i, hi, i1, i2⟩ := (pc.c y).mp ⟨k', hk', ik', by omega, by omega⟩
        by_cases e0 : i = 0
        · subst e0
          omega
        · have := inc_le pc.a pc.b (i := 0) (j := i) (by omega) hi
          omega
    have ex : x = (l (n - 1) : Int) := by
      obtain ⟨k, hk, ik, k1, k2⟩ := (pc.c (l (n - 1))).mpr ⟨n - 1, by omega, an.1, Nat.le_refl _⟩
      have q := x2 k hk ik
      rcases x3 with e | ⟨k', hk', ik', e⟩
      · omega
      · have o := ok k' hk' ik'
        obtain ⟨i, hi, i1, i2⟩ := (pc.c x.toNat).mp ⟨k', hk', ik', by omega, by omega⟩
        by_cases e0 : i = n - 1
        · subst e0
          omega
        · have := inc_le pc.a pc.b (i := i) (j := n - 1) (by omega) (by omega)
          omega
    rw [ex, ey, ← i3_n]
    exact H1 _ hf5 hd5 pl_up_s (by omega)
theorem lr_new {a1 x3 x4 : Int32} {K : Int32 → Int32 → Int32 → sl_M → Prop} {m : sl_M} {r : Nat} (e : m 104 13 = nI r) (hr : r < 31) (hK : K 1 x3 (x4 + 1) (sl_up (sl_up (sl_up m 117 r x4) 104 13 (nI (r + 1))) 118 r x4)) : mo_layRuns_B54 a1 P K 0 x3 x4 1 m := by
  refine ⟨fun z => absurd z (by decide), fun _ => ⟨fun _ => ⟨by rw [e]; exact vp_in_nI hr (by decide), ?_⟩, fun z => absurd rfl z⟩⟩
  rw [e, nI_clamp (show r < 2 ^ 31 by omega)]
  rintro m1 rfl m2 rfl
  rw [pl_up_o (show (104 : Nat) ≠ 117 by omega), e, pl_inc]
  refine ⟨fun z => absurd z (by decide), fun _ => ?_⟩
  rw [pl_up_s, nI_sub1 (by omega), show r + 1 - 1 = r from rfl, nI_clamp (show r < 2 ^ 31 by omega)]
  refine ⟨vp_in_nI hr (by decide), ?_⟩
  rintro m3 rfl
  exact hK
theorem lr_more {a1 x3 x4 : Int32} {K : Int32 → Int32 → Int32 → sl_M → Prop} {m : sl_M} {r : Nat} (e : m 104 13 = nI (r + 1)) (hr : r < 31) (hK : K 1 x3 (x4 + 1) (sl_up m 118 r x4)) : mo_layRuns_B54 a1 P K 1 x3 x4 1 m := by
  refine ⟨fun z => absurd z (by decide), fun _ => ⟨fun z => absurd z (by decide), fun _ => ⟨fun z => absurd z (by decide), fun _ => ?_⟩⟩⟩
  rw [e, nI_sub1 (by omega), show r + 1 - 1 = r from rfl, nI_clamp (show r < 2 ^ 31 by omega)]
  refine ⟨vp_in_nI hr (by decide), ?_⟩
  rintro m3 rfl
  exact hK
theorem lr_none {a1 x2 x3 x4 : Int32} {K : Int32 → Int32 → Int32 → sl_M → Prop} {m : sl_M} (hK : K 0 x3 (x4 + 1) m) : mo_layRuns_B54 a1 P K x2 x3 x4 0 m := ⟨fun _ => ⟨fun _ => hK, fun z => absurd rfl z⟩, fun z => absurd rfl z⟩
def RT (n : Nat) (f l : Nat → Nat) (m : sl_M) : Prop := m 104 13 = nI n ∧ ∀ i, i < n → m 117 i = nI (f i) ∧ m 118 i = nI (l i)
theorem mo_layRuns_t (h : MR μ s) (ok : sOK s) {n : Nat} {f l : Nat → Nat} (pc : Pcs s n f l) (hP : ∀ m, Fr fU μ m → RT n f l m → P m) : mo_layRuns 1 μ P := by
  refine mo_layRuns_c h ok pc (fun m hf e hn => hP m hf ⟨by rw [e, hn]; rfl, fun i hi => absurd hi (by omega)⟩) (fun m5 hf5 hd5 e5 hn => ?_)
  have a0 := pc.a 0 (by omega)
  have an := pc.a (n - 1) (by omega)
  have n30 := pc.n30
  have o0 : f 0 ≤ l (n - 1) := by
    by_cases e : n - 1 = 0
    · rw [e]
      exact a0.1
    · have := inc_le pc.a pc.b (i := 0) (j := n - 1) (by omega) (by omega)
      omega
  refine lq3 (fun k x2 x4 m => mo_layRuns_L22 1 P k x2 (nI (l (n - 1))) x4 m) (fun j x2 x4 m => x4 = nI (f 0 + j) ∧ Fr fW m5 m ∧ ∃ r, r ≤ n ∧ (∀ i, i < r → f i < f 0 + j) ∧ (r < n → f 0 + j ≤ f r) ∧ m 104 13 = nI r ∧ (∀ i, i < r → m 117 i = nI (f i) ∧ m 118 i = nI (if l i < f 0 + j then l i else f 0 + j - 1)) ∧ ((x2 = 0 ∧ ∀ t, t + 1 = r → l t + 1 < f 0 + j) ∨ (x2 = 1 ∧ ∃ t, t + 1 = r ∧ f 0 + j ≤ l t + 1))) (l (n - 1) + 1 - f 0) _ _ _ ⟨rfl, Fr.rfl', 0, by omega, fun i hi => absurd hi (by omega), fun _ => Nat.le_refl _, e5, fun i hi => absurd hi (by omega), Or.inl ⟨rfl, fun t ht => absurd ht (by omega)⟩⟩ ?_ ?_
  · rintro k x2 x4 m ⟨rfl, hf, r, r1, r2, r3, r4, r5, -⟩
    have ep : f 0 + (l (n - 1) + 1 - f 0) = l (n - 1) + 1 := by omega
    rw [ep] at *
    have er : r = n := by
      apply Classical.byContradiction
      intro ne
      have h1 := r3 (by omega)
      by_cases e : r = n - 1
      · rw [e] at h1
        omega
      · have := inc_le pc.a pc.b (i := r) (j := n - 1) (by omega) (by omega)
        have := pc.a r (by omega)
        omega
    subst er
    refine ⟨fun z => absurd z (by rw [nI_leI (by omega) (by omega)]; omega), fun _ => hP m (hf5.tr (hf.mono (fun o k z => by omega))) ⟨r4, fun i hi => ⟨(r5 i hi).1, ?_⟩⟩⟩
    have q := (r5 i hi).2
    rw [if_pos] at q
    · exact q
    · by_cases e : i = r - 1
      · rw [e]
        omega
      · have := inc_le pc.a pc.b (i := i) (j := r - 1) (by omega) (by omega)
        omega
  · rintro k j x2 x4 m hj ⟨rfl, hf, r, r1, r2, r3, r4, r5, r6⟩ ih
    have hp : f 0 + j < 1000 := by omega
    generalize ep : f 0 + j = p at *
    have ep1 : f 0 + (j + 1) = p + 1 := by omega
    refine ⟨fun _ => ⟨vp_in_nI hp (by decide), ?_⟩, fun z => absurd (by rw [nI_leI (by omega) (by omega)]; omega) z⟩
    rw [nI_clamp (show p < 2 ^ 31 by omega), dp_0 hd5 hf ok hp]
    have hcv := pc.c p
    by_cases cA : r < n ∧ p = f r
    · obtain ⟨cA1, cA2⟩ := cA
      have hc : cvd s p := hcv.mpr ⟨r, cA1, by omega, by have := pc.a r cA1; omega⟩
      have hx : x2 = 0 := by
        rcases r6 with h | ⟨_, t, t1, t2⟩
        · exact h.1
        · have := pc.b t (by omega)
          rw [t1] at this
          omega
      subst hx
      refine ⟨fun z => absurd hc z, fun _ => ⟨fun _ => lr_new r4 (by omega) ?_, fun z => absurd rfl z⟩⟩
      rw [pl_inc]
      refine ih _ _ _ ⟨by rw [ep1], ((hf.up (by omega)).up (by omega)).up (by omega), r + 1, by omega, fun i hi => ?_, fun hr => ?_, by simp [pl_up], fun i hi => ?_, Or.inr ⟨rfl, r, rfl, ?_⟩⟩
      · rw [ep1]
        by_cases e : i = r
        · subst e
          omega
        · have := r2 i (by omega)
          omega
      · rw [ep1]
        have := pc.b r hr
        have := pc.a r cA1
        omega
      · rw [ep1]
        by_cases e : i = r
        · subst e
          have := pc.a i cA1
          by_cases e2 : l i < p + 1
          · rw [if_pos e2]
            have e3 : l i = p := by omega
            simp [pl_up, e3, cA2]
          · rw [if_neg e2]
            simp [pl_up, ← cA2]
        · have q := r5 i (by omega)
          have li := inc_le pc.a pc.b (i := i) (j := r) (by omega) cA1
          rw [if_pos (by omega)] at q
          rw [if_pos (by omega)]
          simp [pl_up, e]
          exact q
      · rw [ep1]
        have := pc.a r cA1
        omega
    · by_cases cB : ∃ t, t + 1 = r ∧ p ≤ l t
      · obtain ⟨t, t1, t2⟩ := cB
        subst t1
        have ft := r2 t (by omega)
        have hc : cvd s p := hcv.mpr ⟨t, by omega, by omega, t2⟩
        have hx : x2 = 1 := by
          rcases r6 with h | h
          · have := h.2 t rfl
            omega
          · exact h.1
        subst hx
        refine ⟨fun z => absurd hc z, fun _ => ⟨fun _ => lr_more r4 (by omega) ?_, fun z => absurd rfl z⟩⟩
        rw [pl_inc]
        refine ih _ _ _ ⟨by rw [ep1], hf.up (by omega), t + 1, by omega, fun i hi => ?_, fun hr => ?_, by simp [pl_up]; exact r4, fun i hi => ?_, Or.inr ⟨rfl, t, rfl, by omega⟩⟩
        · have := r2 i hi
          omega
        · have := r3 hr
          rw [ep1]
          by_cases e : p = f (t + 1)
          · exact absurd ⟨hr, e⟩ cA
          · omega
        · rw [ep1]
          have q := r5 i hi
          by_cases e : i = t
          · subst e
            by_cases e2 : l i < p + 1
            · rw [if_pos e2]
              have e3 : l i = p := by omega
              simp [pl_up, e3]
              exact q.1
            · rw [if_neg e2]
              simp [pl_up]
              exact q.1
          · have li := inc_le pc.a pc.b (i := i) (j := t) (by omega) (by omega)
            rw [if_pos (by omega)] at q
            rw [if_pos (by omega)]
            simp [pl_up, e]
            exact q
      · have hc : ¬ cvd s p := by
          intro z
          obtain ⟨i, hi, i1, i2⟩ := hcv.mp z
          by_cases e : i < r
          · by_cases e2 : i + 1 = r
            · exact cB ⟨i, e2, i2⟩
            · have l1 := inc_le pc.a pc.b (i := i) (j := r - 1) (by omega) (by omega)
              have l2 := r2 (r - 1) (by omega)
              omega
          · have l1 := r3 (by omega)
            by_cases e2 : i = r
            · subst e2
              exact cA ⟨hi, by omega⟩
            · have l3 := inc_le pc.a pc.b (i := r) (j := i) (by omega) hi
              have l4 := pc.a r (by omega)
              omega
        refine ⟨fun _ => ⟨fun z => absurd z (by decide), fun _ => lr_none ?_⟩, fun z => absurd hc z⟩
        rw [pl_inc]
        refine ih _ _ _ ⟨by rw [ep1], hf, r, r1, fun i hi => ?_, fun hr => ?_, r4, fun i hi => ?_, Or.inl ⟨rfl, fun t ht => ?_⟩⟩
        · have := r2 i hi
          omega
        · have := r3 hr
          rw [ep1]
          by_cases e : p = f r
          · exact absurd ⟨hr, e⟩ cA
          · omega
        · have q := r5 i hi
          have li : l i < p := by
            by_cases e2 : i + 1 = r
            · apply Classical.byContradiction
              intro z
              exact cB ⟨i, e2, by omega⟩
            · have l1 := inc_le pc.a pc.b (i := i) (j := r - 1) (by omega) (by omega)
              have l2 := r2 (r - 1) (by omega)
              omega
          rw [if_pos li] at q
          rw [ep1, if_pos (by omega)]
          exact q
        · rw [ep1]
          apply Classical.byContradiction
          intro z
          exact cB ⟨t, ht, by omega⟩
end RU
