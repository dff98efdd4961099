/-! the start's memory keeps the invariant -/
def ss0 : SS := fun _ => (false, 0, 0, 0)
theorem ss0_n {k : Nat} : ¬ sI ss0 k := fun h => by cases h
theorem mu0_a {k : Nat} (hk : k < 30) (j : Nat) : mu0 (4 + k) j = if j = 0 then nI k else 0 := by
  unfold mu0
  rw [if_pos (by omega), show 4 + k - 4 = k by omega]
theorem mu0_b {k : Nat} (hk : k < 30) (j : Nat) : mu0 (60 + k) j = if j = 0 then nI k else 0 := by
  unfold mu0
  rw [if_neg (by omega), if_neg (by omega), if_pos (by omega), show 60 + k - 60 = k by omega]
theorem mu0_z {o : Nat} (h : 90 ≤ o) (h1 : o ≠ 111) (k : Nat) : mu0 o k = 0 := by
  unfold mu0
  rw [if_neg (by omega), if_neg (by omega), if_neg (by omega), if_neg (by omega), if_neg (by omega), if_neg h1]
theorem mu0_inv : Inv mu0 := by
  have z0 : (0 : Int32) = i3 0 := rfl
  have zf : ∀ k, (0 : Int32) = pl_b (sI ss0 k) := fun k => rfl
  refine ⟨⟨ss0, ⟨fun k _ h => absurd h ss0_n, fun k hk => ?_, fun k _ h => absurd h ss0_n, fun k hk => ⟨0, by omega, ?_⟩, fun k hk => ⟨k, hk, ?_⟩⟩, fun k hk => ?_⟩, ⟨ss0, fun k _ h => absurd h ss0_n, fun k hk => ?_, fun k _ h => absurd h ss0_n, fun k hk => ⟨0, by omega, ?_⟩, fun k hk => ?_, Or.inl ⟨rfl, rfl⟩⟩, fun c hc => Or.inl ?_, ⟨0, fun _ => 1, by omega, rfl, rfl, rfl, rfl, fun i hi => absurd hi (by omega)⟩, ⟨0, by omega, rfl, rfl, fun i hi => absurd hi (by omega), rfl⟩, fun l hl => Or.inl ?_⟩
  · rw [mu0_a hk, mu0_a hk, mu0_a hk, mu0_a hk, mu0_a hk]
    exact ⟨rfl, rfl, rfl, rfl, rfl⟩
  · rw [mu0_a hk]
    rfl
  · rfl
  · rw [mu0_z (by omega) (by omega), mu0_z (by omega) (by omega), mu0_z (by omega) (by omega), mu0_z (by omega) (by omega)]
    exact ⟨rfl, rfl, rfl, rfl⟩
  · rw [mu0_b hk, mu0_b hk, mu0_b hk, mu0_b hk, mu0_b hk]
    exact ⟨rfl, rfl, rfl, rfl, rfl⟩
  · rw [mu0_b hk]
    rfl
  · rw [mu0_z (by omega) (by omega), mu0_z (by omega) (by omega), mu0_z (by omega) (by omega), mu0_z (by omega) (by omega)]
    exact ⟨rfl, rfl, rfl, rfl⟩
  · rw [mu0_z (o := 90 + 2 * c) (by omega) (by omega)]
    rcases (show c = 0 ∨ c = 1 ∨ c = 2 by omega) with rfl | rfl | rfl <;> exact ⟨rfl, rfl⟩
  · rw [mu0_z (by omega) (by omega), mu0_z (by omega) (by omega)]
    exact ⟨rfl, rfl⟩
