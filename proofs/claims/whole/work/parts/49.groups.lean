/-! those that end at a place -/
abbrev enb (s : SS) (p : Int) (k : Nat) : Bool := decide (sI s k ∧ sH s k = p)
def gw (s : SS) (p : Int) : Nat → Int32
  | 0 => 0
  | n + 1 => gw s p n + (if enb s p n then i3 (sW s n) else 0)
theorem gw_y {s : SS} {p : Int} {n : Nat} (h : enb s p n = true) : gw s p (n + 1) = gw s p n + i3 (sW s n) := by
  show gw s p n + _ = _
  rw [if_pos h]
theorem gw_n {s : SS} {p : Int} {n : Nat} (h : ¬ enb s p n = true) : gw s p (n + 1) = gw s p n := by
  show gw s p n + _ = _
  rw [if_neg h, Int32.add_zero]
section GR
variable {μ : sl_M} {s : SS} {Q : Int32 → sl_M → Prop}
theorem mo_groupBits_s (h : MR μ s) (ok : sOK s) {p : Int} (bp : i3B p) (hQ : Q (bs (enb s p) 30) μ) : mo_groupBits (i3 p) μ Q := by
  refine up_0 (fun n c x => mo_groupBits_L4 (i3 p) Q n x c μ) (fun k => bs (enb s p) k) 30 (fun n => ⟨fun z => absurd z pl_nlt, fun _ => hQ⟩) (fun n k hk ih => ?_)
  refine ⟨fun _ => ⟨pl_in hk, ?_⟩, fun z => absurd (pl_lt hk) z⟩
  obtain ⟨d1, d2, d3, d4⟩ := h k hk
  rw [pl_cl hk, d1, d3, pl_b1, pl_inc]
  refine ⟨fun ik => ⟨pl_in hk, ?_⟩, fun ik v hv => ?_⟩
  · rw [i3_eq (ok.B hk ik).2.1 bp]
    refine ⟨fun c v hv => ?_, fun c v hv => ?_⟩
    · rw [bs_yes (decide_eq_true ⟨ik, c⟩), ← hv] at ih
      exact ih
    · rw [bs_no (decide_eq_false (fun z => c z.2))] at ih
      rw [hv, b_or0]
      exact ih
  · rw [bs_no (decide_eq_false (fun z => ik z.1))] at ih
    rw [hv, b_or0]
    exact ih
theorem mo_weightOf_s (h : MR μ s) {p : Int} (hQ : Q (gw s p 30) μ) : mo_weightOf (bs (enb s p) 30) μ Q := by
  refine up_0 (fun n c x => mo_weightOf_L4 (bs (enb s p) 30) Q n x c μ) (fun k => gw s p k) 30 (fun n => ⟨fun z => absurd z pl_nlt, fun _ => hQ⟩) (fun n k hk ih => ?_)
  refine ⟨fun _ => ⟨pl_in hk, fun v hv => ?_⟩, fun z => absurd (pl_lt hk) z⟩
  rw [pl_cl hk, (h k hk).2.2.2, b_test (by omega), b_bs _ (by omega) 30 (by omega)] at hv
  rw [pl_inc]
  by_cases c : enb s p k = true
  · rw [if_pos (by rw [c]; simp [hk]), Int32.one_mul] at hv
    rw [gw_y c, ← hv] at ih
    exact ih
  · rw [if_neg (fun z => c (Bool.and_eq_true_iff.mp z).2), Int32.zero_mul, Int32.add_zero] at hv
    rw [gw_n c, ← hv] at ih
    exact ih
end GR
