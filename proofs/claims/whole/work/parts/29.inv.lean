/-! what holds between calls -/
abbrev fC : Nat → Nat → Prop := fun o _ => (3 ≤ o ∧ o ≤ 42) ∨ (45 ≤ o ∧ o ≤ 53)
abbrev fN : Nat → Nat → Prop := fun o k => (o = 104 ∧ k ≠ 20 ∧ k ≠ 44 ∧ k ≠ 48) ∨ (105 ≤ o ∧ o ≤ 110) ∨ (115 ≤ o ∧ o ≤ 119) ∨ (o = 120 ∧ k ≠ 0) ∨ (122 ≤ o ∧ o ≤ 133)
def CInv (s : SS) (μ : sl_M) : Prop := sOK s ∧ CR 4 μ s ∧ (∀ k, k < 30 → sI s k → μ (4 + k) 5 = nI (ly s k)) ∧ LyB μ ∧ SoR μ
/-- the image -/
def ImR (im : SS) (μ : sl_M) : Prop := sOK im ∧ CR 60 μ im ∧ (∀ k, k < 30 → sI im k → μ (60 + k) 5 = nI (ly im k)) ∧ (∀ k, k < 30 → ∃ y : Nat, y ≤ 29 ∧ μ (60 + k) 5 = nI y) ∧ (∀ k, k < 30 → μ 138 k = i3 (sL im k) ∧ μ 138 (30 + k) = i3 (sH im k) ∧ μ 138 (60 + k) = i3 (sW im k) ∧ μ 138 (90 + k) = pl_b (sI im k)) ∧ ((μ 0 11 = 0 ∧ μ 104 48 = 0) ∨ (μ 0 11 = 1 ∧ μ 104 48 = 1))
/-- one cursor -/
def ToldR (μ : sl_M) (c : Nat) (q : Int) : Prop := (μ (90 + 2 * c) 2 = 0 ∧ μ 112 c = -1) ∨ (μ (90 + 2 * c) 2 = 1 ∧ ∃ (n : Nat) (l h w y : Int), n < 30 ∧ CV μ (91 + 2 * c) (n : Int) l h w y ∧ μ 112 c = nI n ∧ μ 113 c = i3 (K1 q l h w y) ∧ μ 114 c = i3 (K2 q l h))
def CurR (μ : sl_M) (c : Nat) : Prop := (μ 111 c = -1 ∧ μ (90 + 2 * c) 0 = 0) ∨ (μ (90 + 2 * c) 0 = 1 ∧ ∃ q : Int, (0 ≤ q ∧ q ≤ 4) ∧ μ 111 c = i3 q ∧ μ (90 + 2 * c) 1 = i3 q ∧ ToldR μ c q)
def CursR (μ : sl_M) : Prop := ∀ c, c < 3 → CurR μ c
def TapeR (μ : sl_M) (n : Nat) (t : Nat → Nat) : Prop := n ≤ 80 ∧ μ 43 1 = nI n ∧ μ 104 20 = nI n ∧ μ 43 2 = 0 ∧ μ 43 3 = -1 ∧ ∀ i, i < n → μ 44 i = nI (t i) ∧ μ 121 i = nI (t i) ∧ 1 ≤ t i ∧ t i ≤ 127
def PapR (μ : sl_M) : Prop := ∃ n, n ≤ 360 ∧ μ 54 1 = nI n ∧ μ 104 44 = nI n ∧ (∀ i, i < n → μ 55 i = μ 134 i) ∧ μ 120 0 = 0
def ListR (μ : sl_M) : Prop := ∀ l, l < 4 → (μ (96 + 2 * l) 1 = 0 ∧ μ 135 l = 0) ∨ (μ (96 + 2 * l) 1 = 1 ∧ μ 135 l = 1 ∧ ∃ n, n ≤ 40 ∧ μ (96 + 2 * l) 2 = nI n ∧ μ 136 l = nI n ∧ ∀ i, i < 40 → μ (97 + 2 * l) i = μ 137 (40 * l + i))
def RInv (μ : sl_M) : Prop := (∃ im, ImR im μ) ∧ CursR μ ∧ (∃ n t, TapeR μ n t) ∧ PapR μ ∧ ListR μ
def Inv (μ : sl_M) : Prop := (∃ s, CInv s μ ∧ MR μ s) ∧ RInv μ
theorem CV.fr {p : Nat → Nat → Prop} {μ μ' : sl_M} {c : Nat} {n l h w y : Int} (hv : CV μ c n l h w y) (hf : Fr p μ μ') (hp : ∀ j, j ≤ 5 → ¬ p c j) : CV μ' c n l h w y := by
  obtain ⟨⟨h0, h1, h2, h3, h4⟩, hr⟩ := hv
  exact ⟨⟨by rw [hf _ _ (hp 0 (by omega)), h0], by rw [hf _ _ (hp 2 (by omega)), h1], by rw [hf _ _ (hp 3 (by omega)), h2], by rw [hf _ _ (hp 4 (by omega)), h3], by rw [hf _ _ (hp 5 (by omega)), h4]⟩, hr⟩
theorem CInv.fr {p : Nat → Nat → Prop} {s : SS} {μ μ' : sl_M} (h : CInv s μ) (hf : Fr p μ μ') (hp : ∀ o k, 3 ≤ o → o < 34 → ¬ p o k) : CInv s μ' := by
  obtain ⟨h1, h2, h3, h4, h5⟩ := h
  refine ⟨h1, h2.fr hf (fun k j hk _ => hp _ _ (by omega) (by omega)), fun k hk ik => ?_, fun k hk => ?_, fun k hk => ?_⟩
  · rw [hf _ _ (hp (4 + k) 5 (by omega) (by omega))]
    exact h3 k hk ik
  · rw [hf _ _ (hp (4 + k) 5 (by omega) (by omega))]
    exact h4 k hk
  · rw [hf _ _ (hp 3 k (by omega) (by omega))]
    exact h5 k hk
theorem ImR.fr {p : Nat → Nat → Prop} {s : SS} {μ μ' : sl_M} (h : ImR s μ) (hf : Fr p μ μ') (hp : ∀ o k, (60 ≤ o ∧ o < 90) ∨ o = 138 ∨ (o = 0 ∧ k = 11) ∨ (o = 104 ∧ k = 48) → ¬ p o k) : ImR s μ' := by
  obtain ⟨h1, h2, h3, h4, h5, h6⟩ := h
  refine ⟨h1, h2.fr hf (fun k j hk _ => hp _ _ (by omega)), fun k hk ik => ?_, fun k hk => ?_, fun k hk => ?_, ?_⟩
  · rw [hf _ _ (hp (60 + k) 5 (by omega))]
    exact h3 k hk ik
  · rw [hf _ _ (hp (60 + k) 5 (by omega))]
    exact h4 k hk
  · rw [hf _ _ (hp 138 k (by omega)), hf _ _ (hp 138 (30 + k) (by omega)), hf _ _ (hp 138 (60 + k) (by omega)), hf _ _ (hp 138 (90 + k) (by omega))]
    exact h5 k hk
  · rw [hf _ _ (hp 0 11 (by omega)), hf _ _ (hp 104 48 (by omega))]
    exact h6
theorem CurR.fr {p : Nat → Nat → Prop} {μ μ' : sl_M} {c : Nat} (h : CurR μ c) (hf : Fr p μ μ') (hp : ∀ o k, o = 90 + 2 * c ∨ o = 91 + 2 * c ∨ (111 ≤ o ∧ o ≤ 114 ∧ k = c) → ¬ p o k) : CurR μ' c := by
  unfold CurR ToldR at *
  rw [hf 111 c (hp _ _ (by omega)), hf 112 c (hp _ _ (by omega)), hf 113 c (hp _ _ (by omega)), hf 114 c (hp _ _ (by omega)), hf (90 + 2 * c) 0 (hp _ _ (by omega)), hf (90 + 2 * c) 1 (hp _ _ (by omega)), hf (90 + 2 * c) 2 (hp _ _ (by omega))]
  rcases h with h | ⟨h1, q, h2, h3, h4, h5⟩
  · exact Or.inl h
  · refine Or.inr ⟨h1, q, h2, h3, h4, ?_⟩
    rcases h5 with h5 | ⟨h5, n, l, h, w, y, h6, h7, h8⟩
    · exact Or.inl h5
    · exact Or.inr ⟨h5, n, l, h, w, y, h6, h7.fr hf (fun j _ => hp _ _ (by omega)), h8⟩
theorem TapeR.fr {p : Nat → Nat → Prop} {μ μ' : sl_M} {n : Nat} {t : Nat → Nat} (h : TapeR μ n t) (hf : Fr p μ μ') (hp : ∀ o k, o = 43 ∨ o = 44 ∨ o = 121 ∨ (o = 104 ∧ k = 20) → ¬ p o k) : TapeR μ' n t := by
  obtain ⟨h1, h2, h3, h4, h5, h6⟩ := h
  refine ⟨h1, by rw [hf _ _ (hp 43 1 (by omega)), h2], by rw [hf _ _ (hp 104 20 (by omega)), h3], by rw [hf _ _ (hp 43 2 (by omega)), h4], by rw [hf _ _ (hp 43 3 (by omega)), h5], fun i hi => ?_⟩
  rw [hf _ _ (hp 44 i (by omega)), hf _ _ (hp 121 i (by omega))]
  exact h6 i hi
theorem PapR.fr {p : Nat → Nat → Prop} {μ μ' : sl_M} (h : PapR μ) (hf : Fr p μ μ') (hp : ∀ o k, o = 54 ∨ o = 55 ∨ o = 134 ∨ (o = 104 ∧ k = 44) ∨ (o = 120 ∧ k = 0) → ¬ p o k) : PapR μ' := by
  obtain ⟨n, h1, h2, h3, h4, h5⟩ := h
  refine ⟨n, h1, by rw [hf _ _ (hp 54 1 (by omega)), h2], by rw [hf _ _ (hp 104 44 (by omega)), h3], fun i hi => ?_, by rw [hf _ _ (hp 120 0 (by omega)), h5]⟩
  rw [hf _ _ (hp 55 i (by omega)), hf _ _ (hp 134 i (by omega))]
  exact h4 i hi
theorem ListR.fr {p : Nat → Nat → Prop} {μ μ' : sl_M} (h : ListR μ) (hf : Fr p μ μ') (hp : ∀ o k, (96 ≤ o ∧ o < 104) ∨ (135 ≤ o ∧ o ≤ 137) → ¬ p o k) : ListR μ' := by
  intro l hl
  rw [hf _ _ (hp (96 + 2 * l) 1 (by omega)), hf _ _ (hp 135 l (by omega)), hf _ _ (hp (96 + 2 * l) 2 (by omega)), hf _ _ (hp 136 l (by omega))]
  rcases h l hl with h | ⟨h1, h2, n, h3, h4, h5, h6⟩
  · exact Or.inl h
  · refine Or.inr ⟨h1, h2, n, h3, h4, h5, fun i hi => ?_⟩
    rw [hf _ _ (hp (97 + 2 * l) i (by omega)), hf _ _ (hp 137 (40 * l + i) (by omega))]
    exact h6 i hi
theorem RInv.fr {p : Nat → Nat → Prop} {μ μ' : sl_M} (h : RInv μ) (hf : Fr p μ μ') (hp : ∀ o k, p o k → fC o k ∨ fN o k) : RInv μ' := by
  obtain ⟨⟨im, h1⟩, h2, ⟨n, t, h3⟩, h4, h5⟩ := h
  refine ⟨⟨im, h1.fr hf (fun o k hh q => ?_)⟩, fun c hc => (h2 c hc).fr hf (fun o k hh q => ?_), ⟨n, t, h3.fr hf (fun o k hh q => ?_)⟩, h4.fr hf (fun o k hh q => ?_), h5.fr hf (fun o k hh q => ?_)⟩
  all_goals
    have := hp o k q
    omega
section OP
variable {A B : sl_M → (Int32 → sl_M → Prop) → Prop} {s s' : SS} {v : Int32} {μ : sl_M}
theorem op2 (ci : CInv s μ) (mr : MR μ s) (ri : RInv μ) (hA : ∀ Q : Int32 → sl_M → Prop, (∀ μ', Fr fC μ μ' → CInv s' μ' → Q v μ') → A μ Q) (hB : ∀ μ', MR μ' s → ∀ Q : Int32 → sl_M → Prop, (∀ μ'', Fr fN μ' μ'' → MR μ'' s' → Q v μ'') → B μ' Q) : A μ (fun r μ1 => B μ1 (fun r2 μ2 => r = r2 ∧ Inv μ2)) := by
  refine hA _ (fun μ1 hf1 c1 => hB μ1 (mr.fr hf1 (fun o k h1 h2 q => by omega)) _ (fun μ2 hf2 m2 => ⟨rfl, ⟨s', c1.fr hf2 (fun o k h1 h2 q => by omega), m2⟩, ?_⟩))
  exact (ri.fr hf1 (fun o k q => Or.inl q)).fr hf2 (fun o k q => Or.inr q)
end OP
