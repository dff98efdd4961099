/-! the one that ends first behind a place -/
def FE (s : SS) (e : Int) (k : Nat) : Prop := k < 30 ∧ sI s k ∧ e < sL s k ∧ ∀ j, j < 30 → sI s j → e < sL s j → sH s k < sH s j ∨ (sH s k = sH s j ∧ k ≤ j)
theorem FE_one {s : SS} {e : Int} {a b : Nat} (ha : FE s e a) (hb : FE s e b) : a = b := by
  have h1 := ha.2.2.2 b hb.1 hb.2.1 hb.2.2.1
  have h2 := hb.2.2.2 a ha.1 ha.2.1 ha.2.2.1
  omega
section TK
variable {μ : sl_M} {s : SS} {Q : Int32 → sl_M → Prop} {P : sl_M → Prop}
theorem co_firstToEnd_s {R : Option Nat → sl_M → Prop} (h : CR 4 μ s) (ok : sOK s) {e : Int} (be : -1 ≤ e ∧ e ≤ 999) (hn : (∀ k, k < 30 → sI s k → ¬ e < sL s k) → R none μ) (hs : ∀ k, FE s e k → R (some (4 + k)) μ) : co_firstToEnd (i3 e) μ R := by
  refine lq2 (fun n f x3 => co_firstToEnd_L4 (i3 e) R n f x3 μ) (fun k f x3 => x3 = nI k ∧ ((f = none ∧ ∀ j, j < k → sI s j → ¬ e < sL s j) ∨ ∃ a, f = some (9, 4 + a) ∧ a < k ∧ sI s a ∧ e < sL s a ∧ ∀ j, j < k → sI s j → e < sL s j → sH s a < sH s j ∨ (sH s a = sH s j ∧ a ≤ j))) 30 none 0 ⟨rfl, Or.inl ⟨rfl, fun j hj => absurd hj (by omega)⟩⟩ ?_ ?_
  · rintro n f x3 ⟨rfl, ⟨rfl, hno⟩ | ⟨a, rfl, ha, ia, hb, hmin⟩⟩
    · exact ⟨fun z => absurd z pl_nlt, fun _ => hn hno⟩
    · exact ⟨rfl, fun z => absurd z pl_nlt, fun _ => hs a ⟨ha, ia, hb, hmin⟩⟩
  · rintro n k f x3 hk ⟨rfl, hd⟩ ih
    obtain ⟨-, d1, d2, d3, -⟩ := h k hk
    rcases hd with ⟨rfl, hno⟩ | ⟨a, rfl, ha, ia, hb, hmin⟩
    · have stay : ¬ (sI s k ∧ e < sL s k) → co_firstToEnd_L4 (i3 e) R n none (nI k + 1) μ := fun hx => ih _ _ ⟨pl_inc k, Or.inl ⟨rfl, fun j hj ij hbj => by
        by_cases ee : j = k
        · subst ee
          exact hx ⟨ij, hbj⟩
        · exact hno j (by omega) ij hbj⟩⟩
      refine ⟨fun _ => ⟨pl_in hk, ?_⟩, fun z => absurd (pl_lt hk) z⟩
      rw [pl_cl hk, d1, d2, pl_bz]
      refine pl_bb (fun ik => stay (fun z => ik z.1)) (fun ik => ?_)
      rw [i3_le (ok.B hk ik).1 (pl_B (by omega) (by omega))]
      refine ⟨fun c => stay (fun z => by omega), fun c => ih _ _ ⟨pl_inc k, Or.inr ⟨k, rfl, by omega, ik, by omega, fun j hj ij hbj => ?_⟩⟩⟩
      by_cases ee : j = k
      · exact Or.inr ⟨by rw [ee], by omega⟩
      · exact absurd hbj (hno j (by omega) ij)
    · have stay : (sI s k → e < sL s k → sH s a ≤ sH s k) → co_firstToEnd_L4 (i3 e) R n (some (9, 4 + a)) (nI k + 1) μ := fun hx => ih _ _ ⟨pl_inc k, Or.inr ⟨a, rfl, by omega, ia, hb, fun j hj ij hbj => by
        by_cases ee : j = k
        · subst ee
          have := hx ij hbj
          omega
        · exact hmin j (by omega) ij hbj⟩⟩
      refine ⟨rfl, fun _ => ⟨pl_in hk, ?_⟩, fun z => absurd (pl_lt hk) z⟩
      rw [pl_cl hk, d1, d2, d3, (h a (by omega)).2.2.2.1, pl_bz]
      refine pl_bb (fun ik => stay (fun z => absurd z ik)) (fun ik => ?_)
      rw [i3_le (ok.B hk ik).1 (pl_B (by omega) (by omega)), i3_lt (ok.B hk ik).2.1 (ok.B (by omega) ia).2.1]
      refine ⟨fun c => stay (fun _ z => by omega), fun c => ⟨fun c2 => ih _ _ ⟨pl_inc k, Or.inr ⟨k, rfl, by omega, ik, by omega, fun j hj ij hbj => ?_⟩⟩, fun c2 => stay (fun _ _ => by omega)⟩⟩
      by_cases ee : j = k
      · exact Or.inr ⟨by rw [ee], by omega⟩
      · have := hmin j (by omega) ij hbj
        exact Or.inl (by omega)
theorem mo_layTaken_in {K : Int32 → Int32 → sl_M → Prop} (h : MR μ s) (ok : sOK s) {e : Int} (be : -1 ≤ e ∧ e ≤ 999) (hn : (∀ k, k < 30 → sI s k → ¬ e < sL s k) → mo_layTaken_B89 P K (i3 e) 0 (-1) μ) (hs : ∀ k, FE s e k → mo_layTaken_B89 P K (i3 e) 1 (nI k) μ) : ∃ n, mo_layTaken_L19 P K n (i3 e) (-1) 29 μ := by
  refine lq2 (fun n x3 x4 => mo_layTaken_L19 P K n (i3 e) x3 x4 μ) (fun i x3 x4 => ∃ u : Nat, u + i = 30 ∧ x4 = i3 ((u : Int) - 1) ∧ ((x3 = -1 ∧ ∀ j, u ≤ j → j < 30 → sI s j → ¬ e < sL s j) ∨ ∃ a, u ≤ a ∧ a < 30 ∧ x3 = nI a ∧ sI s a ∧ e < sL s a ∧ ∀ j, u ≤ j → j < 30 → sI s j → e < sL s j → sH s a < sH s j ∨ (sH s a = sH s j ∧ a ≤ j))) 30 (-1) 29 ⟨30, rfl, rfl, Or.inl ⟨rfl, fun j h1 h2 => by omega⟩⟩ ?_ ?_
  · rintro n x3 x4 ⟨u, hu, rfl, hd⟩
    obtain rfl : u = 0 := by omega
    refine ⟨fun _ => ?_, fun z => absurd (show i3 (((0 : Nat) : Int) - 1) < 0 by decide) z⟩
    rcases hd with ⟨rfl, hno⟩ | ⟨a, -, ha, rfl, ia, hb, hmin⟩
    · exact ⟨fun _ => hn (fun k hk => hno k (by omega) hk), fun z => absurd (by decide) z⟩
    · exact ⟨fun z => absurd z (nI_pos (by omega)), fun _ => hs a ⟨ha, ia, hb, fun j hj => hmin j (by omega) hj⟩⟩
  · rintro n i x3 x4 hi ⟨u, hu, rfl, hd⟩ ih
    obtain ⟨v, rfl⟩ : ∃ v, u = v + 1 := ⟨u - 1, by omega⟩
    have hv : v < 30 := by omega
    have e1 : i3 (((v + 1 : Nat) : Int) - 1) = nI v := by rw [i3_n]; congr 1; omega
    have e2 : nI v + (-1 : Int32) = i3 ((v : Int) - 1) := by rw [i3_n, i3_m1, i3_add]; congr 1
    obtain ⟨d1, d2, d3, -⟩ := h v hv
    rw [e1]
    refine ⟨fun z => absurd z (nI_pos (by omega)), fun _ => ⟨pl_in hv, ?_⟩⟩
    rw [pl_cl hv, d1, d2, d3, pl_b1, e2]
    have stay : (sI s v → e < sL s v → ∃ a, v < a ∧ a < 30 ∧ x3 = nI a ∧ sH s a < sH s v) → mo_layTaken_L19 P K n (i3 e) x3 (i3 ((v : Int) - 1)) μ := by
      intro hx
      refine ih _ _ ⟨v, by omega, rfl, ?_⟩
      rcases hd with ⟨h1, h2⟩ | ⟨a, h1, h2, h3, h4, h5, h6⟩
      · refine Or.inl ⟨h1, fun j hj hj2 ij hbj => ?_⟩
        by_cases ee : j = v
        · subst ee
          obtain ⟨a, -, q30, q, -⟩ := hx ij hbj
          rw [h1] at q
          have : (nI a) < 0 := by rw [← q]; decide
          exact nI_pos (by omega) this
        · exact h2 j (by omega) hj2 ij hbj
      · refine Or.inr ⟨a, by omega, h2, h3, h4, h5, fun j hj hj2 ij hbj => ?_⟩
        by_cases ee : j = v
        · subst ee
          obtain ⟨a', -, q1, q2, q3⟩ := hx ij hbj
          have : a = a' := (nI_eq (by omega) (by omega)).mp (by rw [← h3, q2])
          subst this
          exact Or.inl q3
        · exact h6 j (by omega) hj2 ij hbj
    refine ⟨fun iv => ⟨pl_in hv, ?_⟩, fun iv => stay (fun z => absurd z iv)⟩
    rw [i3_le (ok.B hv iv).1 (pl_B (by omega) (by omega))]
    refine ⟨fun c => stay (fun _ z => by omega), fun c => ?_⟩
    rcases hd with ⟨rfl, h2⟩ | ⟨a, h1, h2, rfl, h4, h5, h6⟩
    · refine ⟨fun _ => ih _ _ ⟨v, by omega, rfl, Or.inr ⟨v, by omega, hv, rfl, iv, by omega, fun j hj hj2 ij hbj => ?_⟩⟩, fun z => absurd (by decide) z⟩
      by_cases ee : j = v
      · exact Or.inr ⟨by rw [ee], by omega⟩
      · exact absurd hbj (h2 j (by omega) hj2 ij)
    · refine ⟨fun z => absurd z (nI_pos (by omega)), fun _ => ⟨pl_in hv, pl_in h2, ?_⟩⟩
      rw [pl_cl h2, (h a h2).2.2.1, i3_le (ok.B hv iv).2.1 (ok.B h2 h4).2.1]
      refine ⟨fun c2 => ih _ _ ⟨v, by omega, rfl, Or.inr ⟨v, by omega, hv, rfl, iv, by omega, fun j hj hj2 ij hbj => ?_⟩⟩, fun c2 => stay (fun _ _ => ⟨a, by omega, h2, rfl, by omega⟩)⟩
      by_cases ee : j = v
      · exact Or.inr ⟨by rw [ee], by omega⟩
      · have := h6 j (by omega) hj2 ij hbj
        omega
end TK
