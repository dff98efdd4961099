/-! sums of weights and lengths -/
def su (s : SS) (w : Nat → Int32) : Nat → Int32
  | 0 => 0
  | n + 1 => su s w n + (if sI s n then w n else 0)
theorem su_y {s : SS} {w : Nat → Int32} {n : Nat} (h : sI s n) : su s w (n + 1) = su s w n + w n := by
  show su s w n + _ = _
  rw [if_pos h]
theorem su_n {s : SS} {w : Nat → Int32} {n : Nat} (h : ¬ sI s n) : su s w (n + 1) = su s w n + 0 := by
  show su s w n + _ = _
  rw [if_neg h]
abbrev wW (s : SS) : Nat → Int32 := fun k => i3 (sW s k)
abbrev wL (s : SS) : Nat → Int32 := fun k => i3 (sH s k) - i3 (sL s k) + 1
section SU
variable {μ : sl_M} {s : SS} {Q : Int32 → sl_M → Prop}
theorem ix_sumOfWeights_s (h : CR 4 μ s) (hQ : Q (su s (wW s) 30) μ) : ix_sumOfWeights μ Q := by
  refine up_0 (fun n c x => ix_sumOfWeights_L4 Q n x c μ) (fun k => su s (wW s) k) 30 (fun n => ⟨fun z => absurd z pl_nlt, fun _ => hQ⟩) (fun n k hk ih => ?_)
  refine ⟨fun _ => ⟨pl_in hk, ?_⟩, fun z => absurd (pl_lt hk) z⟩
  obtain ⟨-, d1, d2, d3, d4⟩ := h k hk
  rw [pl_cl hk, d1, d4, pl_bz, pl_inc]
  refine pl_bb (fun ik v hv => ?_) (fun ik => ⟨pl_in hk, fun v hv => ?_⟩)
  · rw [su_n ik, ← hv] at ih
    exact ih
  · rw [su_y ik, ← hv] at ih
    exact ih
theorem ix_sumOfLengths_s (h : CR 4 μ s) (hQ : Q (su s (wL s) 30) μ) : ix_sumOfLengths μ Q := by
  refine up_0 (fun n c x => ix_sumOfLengths_L4 Q n x c μ) (fun k => su s (wL s) k) 30 (fun n => ⟨fun z => absurd z pl_nlt, fun _ => hQ⟩) (fun n k hk ih => ?_)
  refine ⟨fun _ => ⟨pl_in hk, ?_⟩, fun z => absurd (pl_lt hk) z⟩
  obtain ⟨-, d1, d2, d3, d4⟩ := h k hk
  rw [pl_cl hk, d1, pl_bz, pl_inc]
  refine pl_bb (fun ik v hv => ?_) (fun ik => ⟨pl_in hk, ?_⟩)
  · rw [su_n ik, ← hv] at ih
    exact ih
  · unfold sp_length
    rw [d2, d3]
    intro v hv
    rw [su_y ik, ← hv] at ih
    exact ih
theorem mo_sumOf_s (h : MR μ s) {a : Int32} (hQ : Q (if a = 0 then su s (wL s) 30 else su s (wW s) 30) μ) : mo_sumOf a μ Q := by
  by_cases c : a = 0
  · rw [if_pos c] at hQ
    refine up_0 (fun n c x => mo_sumOf_L4 a Q n x c μ) (fun k => su s (wL s) k) 30 (fun n => ⟨fun z => absurd z pl_nlt, fun _ => hQ⟩) (fun n k hk ih => ?_)
    refine ⟨fun _ => ⟨pl_in hk, ?_⟩, fun z => absurd (pl_lt hk) z⟩
    obtain ⟨d1, d2, d3, d4⟩ := h k hk
    rw [pl_cl hk, d1, pl_inc]
    refine pl_bb (fun ik v hv => ?_) (fun ik => ⟨fun _ => ?_, fun z => absurd c z⟩)
    · rw [su_n ik, ← hv] at ih
      exact ih
    · unfold mo_lengthOf
      rw [pl_cl hk, d2, d3]
      refine ⟨pl_in hk, pl_in hk, fun v hv => ?_⟩
      rw [su_y ik, ← hv] at ih
      exact ih
  · rw [if_neg c] at hQ
    refine up_0 (fun n c x => mo_sumOf_L4 a Q n x c μ) (fun k => su s (wW s) k) 30 (fun n => ⟨fun z => absurd z pl_nlt, fun _ => hQ⟩) (fun n k hk ih => ?_)
    refine ⟨fun _ => ⟨pl_in hk, ?_⟩, fun z => absurd (pl_lt hk) z⟩
    obtain ⟨d1, d2, d3, d4⟩ := h k hk
    rw [pl_cl hk, d1, d4, pl_inc]
    refine pl_bb (fun ik v hv => ?_) (fun ik => ⟨fun z => absurd z c, fun _ => ⟨pl_in hk, fun v hv => ?_⟩⟩)
    · rw [su_n ik, ← hv] at ih
      exact ih
    · rw [su_y ik, ← hv] at ih
      exact ih
end SU
