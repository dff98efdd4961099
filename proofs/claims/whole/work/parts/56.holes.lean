/-! the holes: what the reference lays, given the pieces -/
section RF
variable {μ : sl_M} {s : SS} {Q : Int32 → sl_M → Prop} {P : sl_M → Prop}
def RF (n : Nat) (f l : Nat → Nat) (m : sl_M) : Prop := m 104 13 = nI (n - 1) ∧ ∀ i, i + 1 < n → m 117 i = nI (l i + 1) ∧ m 118 i = nI (f (i + 1) - 1)
/-- where the scan stands: none begun, in a piece, in a hole -/
def HS (n : Nat) (f l : Nat → Nat) (p : Nat) (x2 : Int32) (m : sl_M) : Prop :=
  (p = f 0 ∧ x2 = 0 ∧ m 104 13 = 0) ∨
  (∃ t, t < n ∧ f t < p ∧ p ≤ l t + 1 ∧ x2 = 0 ∧ m 104 13 = nI t ∧ ∀ i, i < t → m 117 i = nI (l i + 1) ∧ m 118 i = nI (f (i + 1) - 1)) ∨
  (∃ t, t + 1 < n ∧ l t + 1 < p ∧ p ≤ f (t + 1) ∧ x2 = 1 ∧ m 104 13 = nI (t + 1) ∧ (∀ i, i < t → m 117 i = nI (l i + 1) ∧ m 118 i = nI (f (i + 1) - 1)) ∧ m 117 t = nI (l t + 1) ∧ m 118 t = nI (p - 1))
theorem mo_layRuns_f (h : MR μ s) (ok : sOK s) {n : Nat} {f l : Nat → Nat} (pc : Pcs s n f l) (hP : ∀ m, Fr fU μ m → RF n f l m → P m) : mo_layRuns 0 μ P := by
  refine mo_layRuns_c h ok pc (fun m hf e hn => hP m hf ⟨by rw [e, hn]; rfl, fun i hi => absurd hi (by omega)⟩) (fun m5 hf5 hd5 e5 hn => ?_)
  have a0 := pc.a 0 (by omega)
  have an := pc.a (n - 1) (by omega)
  have n30 := pc.n30
  have o0 : f 0 ≤ l (n - 1) := by
    by_cases e : n - 1 = 0
    · rw [e]
      exact a0.1
    · have := inc_le pc.a pc.b (i := 0) (j := n - 1) (by omega) (by omega)
      omega
  have inp : ∀ {t p : Nat}, t < n → f t ≤ p → p ≤ l t → cvd s p := fun ht h1 h2 => (pc.c _).mpr ⟨_, ht, h1, h2⟩
  have outp : ∀ {t p : Nat}, t + 1 < n → l t < p → p < f (t + 1) → ¬ cvd s p := by
    intro t p ht h1 h2 z
    obtain ⟨i, hi, i1, i2⟩ := (pc.c p).mp z
    by_cases e : i ≤ t
    · by_cases e2 : i = t
      · subst e2
        omega
      · have := inc_le pc.a pc.b (i := i) (j := t) (by omega) (by omega)
        have := pc.a t (by omega)
        omega
    · by_cases e2 : i = t + 1
      · subst e2
        omega
      · have := inc_le pc.a pc.b (i := t + 1) (j := i) (by omega) hi
        have := pc.a (t + 1) (by omega)
        omega
  refine lq3 (fun k x2 x4 m => mo_layRuns_L22 0 P k x2 (nI (l (n - 1))) x4 m) (fun j x2 x4 m => x4 = nI (f 0 + j) ∧ Fr fW m5 m ∧ HS n f l (f 0 + j) x2 m) (l (n - 1) + 1 - f 0) _ _ _ ⟨rfl, Fr.rfl', Or.inl ⟨rfl, rfl, e5⟩⟩ ?_ ?_
  · rintro k x2 x4 m ⟨rfl, hf, hs⟩
    have ep : f 0 + (l (n - 1) + 1 - f 0) = l (n - 1) + 1 := by omega
    rw [ep] at *
    refine ⟨fun z => absurd z (by rw [nI_leI (by omega) (by omega)]; omega), fun _ => hP m (hf5.tr (hf.mono (fun o k z => by omega))) ?_⟩
    rcases hs with ⟨h1, -⟩ | ⟨t, t1, t2, t3, -, t5, t6⟩ | ⟨t, t1, t2, t3, -⟩
    · omega
    · have et : t = n - 1 := by
        apply Classical.byContradiction
        intro ne
        have := inc_le pc.a pc.b (i := t) (j := n - 1) (by omega) (by omega)
        omega
      subst et
      exact ⟨t5, fun i hi => t6 i (by omega)⟩
    · by_cases e : t + 1 = n - 1
      · rw [e] at t3
        omega
      · have := inc_le pc.a pc.b (i := t + 1) (j := n - 1) (by omega) (by omega)
        have := pc.a (t + 1) (by omega)
        omega
  · rintro k j x2 x4 m hj ⟨rfl, hf, hs⟩ ih
    have hp : f 0 + j < 1000 := by omega
    generalize ep : f 0 + j = p at *
    have ep1 : f 0 + (j + 1) = p + 1 := by omega
    rw [ep1] at ih
    refine ⟨fun _ => ⟨vp_in_nI hp (by decide), ?_⟩, fun z => absurd (by rw [nI_leI (by omega) (by omega)]; omega) z⟩
    rw [nI_clamp (show p < 2 ^ 31 by omega), dp_0 hd5 hf ok hp]
    rcases hs with ⟨h1, rfl, h3⟩ | ⟨t, t1, t2, t3, rfl, t5, t6⟩ | ⟨t, t1, t2, t3, rfl, t5, t6, t7, t8⟩
    · have hc : cvd s p := inp hn (by omega) (by omega)
      refine ⟨fun z => absurd hc z, fun _ => ⟨fun z => absurd z (by decide), fun _ => lr_none ?_⟩⟩
      rw [pl_inc]
      exact ih _ _ _ ⟨rfl, hf, Or.inr (Or.inl ⟨0, hn, by omega, by omega, rfl, h3, fun i hi => absurd hi (by omega)⟩)⟩
    · by_cases c : p ≤ l t
      · have hc : cvd s p := inp t1 (by omega) c
        refine ⟨fun z => absurd hc z, fun _ => ⟨fun z => absurd z (by decide), fun _ => lr_none ?_⟩⟩
        rw [pl_inc]
        exact ih _ _ _ ⟨rfl, hf, Or.inr (Or.inl ⟨t, t1, by omega, by omega, rfl, t5, t6⟩)⟩
      · have tn : t + 1 < n := by
          apply Classical.byContradiction
          intro z
          have : t = n - 1 := by omega
          rw [this] at c
          omega
        have bt := pc.b t tn
        have hc : ¬ cvd s p := outp tn (by omega) (by omega)
        refine ⟨fun _ => ⟨fun _ => lr_new t5 (by omega) ?_, fun z => absurd rfl z⟩, fun z => absurd hc z⟩
        rw [pl_inc]
        refine ih _ _ _ ⟨rfl, ((hf.up (by omega)).up (by omega)).up (by omega), Or.inr (Or.inr ⟨t, tn, by omega, by omega, rfl, by simp [pl_up], fun i hi => ?_, ?_, ?_⟩)⟩
        · have e : i ≠ t := by omega
          simp [pl_up, e]
          exact t6 i hi
        · have e : p = l t + 1 := by omega
          simp [pl_up, e]
        · simp [pl_up]
    · by_cases c : p = f (t + 1)
      · have hc : cvd s p := inp t1 (by omega) (by have := pc.a (t + 1) t1; omega)
        refine ⟨fun z => absurd hc z, fun _ => ⟨fun z => absurd z (by decide), fun _ => lr_none ?_⟩⟩
        rw [pl_inc]
        refine ih _ _ _ ⟨rfl, hf, Or.inr (Or.inl ⟨t + 1, t1, by omega, by have := pc.a (t + 1) t1; omega, rfl, t5, fun i hi => ?_⟩)⟩
        by_cases e : i = t
        · subst e
          exact ⟨t7, by rw [t8, c]⟩
        · exact t6 i (by omega)
      · have hc : ¬ cvd s p := outp t1 (by omega) (by omega)
        refine ⟨fun _ => ⟨fun _ => lr_more t5 (by omega) ?_, fun z => absurd rfl z⟩, fun z => absurd hc z⟩
        rw [pl_inc]
        refine ih _ _ _ ⟨rfl, hf.up (by omega), Or.inr (Or.inr ⟨t, t1, by omega, by omega, rfl, by simp [pl_up]; exact t5, fun i hi => ?_, ?_, ?_⟩)⟩
        · have e : i ≠ t := by omega
          simp [pl_up, e]
          exact t6 i hi
        · simp [pl_up]
          exact t7
        · simp [pl_up]
end RF
