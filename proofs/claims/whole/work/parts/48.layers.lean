/-! how many layers -/
def lmx (s : SS) (k : Nat) : Nat := if sI s k then ly s k + 1 else 0
theorem lmx_y {s : SS} {k : Nat} (h : sI s k) : lmx s k = ly s k + 1 := if_pos h
theorem lmx_n {s : SS} {k : Nat} (h : ¬ sI s k) : lmx s k = 0 := if_neg h
theorem lmx_B {s : SS} {n : Nat} (hn : n ≤ 30) : mx (lmx s) n ≤ 30 := by
  refine mx_le (fun i hi => ?_)
  by_cases c : sI s i
  · have := ly_29 (s := s) (k := i) (by omega)
    rw [lmx_y c]
    omega
  · rw [lmx_n c]
    omega
section LY
variable {μ : sl_M} {s : SS} {Q : Int32 → sl_M → Prop}
theorem ix_countLayers_s (h : CInv s μ) (hQ : Q (nI (mx (lmx s) 30)) μ) : ix_countLayers μ Q := by
  refine up_0 (fun n c x => ix_countLayers_L4 Q n x c μ) (fun k => nI (mx (lmx s) k)) 30 (fun n => ⟨fun z => absurd z pl_nlt, fun _ => hQ⟩) (fun n k hk ih => ?_)
  refine ⟨fun _ => ⟨pl_in hk, ?_⟩, fun z => absurd (pl_lt hk) z⟩
  have b := lmx_B (s := s) (n := k) (by omega)
  have l := ly_29 (s := s) hk
  rw [pl_cl hk, (h.2.1 k hk).2.1, pl_bz, pl_inc]
  refine pl_bb (fun ik => ?_) (fun ik => ⟨pl_in hk, ?_⟩)
  · rw [mx_stay (lmx_n ik) (by omega)] at ih
    exact ih
  · rw [h.2.2.1 k hk ik, nI_1]
    unfold ma_max
    rw [nI_ltI (by omega) (by omega)]
    refine ⟨fun c => ?_, fun c => ?_⟩
    · rw [mx_take (lmx_y ik) c] at ih
      exact ih
    · rw [mx_stay (lmx_y ik) c] at ih
      exact ih
theorem mo_layerMany_s (h : MR μ s) (ok : sOK s) (hQ : ∀ m, Fr f9 μ m → Q (nI (mx (lmx s) 30)) m) : mo_layerMany μ Q := by
  refine mo_layLayers_s h ok (fun m hf hl => ?_)
  have hM := h.f9 hf
  refine up_0 (fun n c x => mo_layerMany_L8 Q n x c m) (fun k => i3 ((mx (lmx s) k : Int) - 1)) 30 (fun n => ⟨fun z => absurd z pl_nlt, fun _ => ?_⟩) (fun n k hk ih => ?_)
  · have := hQ m hf
    rw [i3_1, i3_add, show ((mx (lmx s) 30 : Int) - 1 + 1) = (mx (lmx s) 30 : Int) by omega, ← i3_n]
    exact this
  · refine ⟨fun _ => ⟨pl_in hk, ?_⟩, fun z => absurd (pl_lt hk) z⟩
    have b := lmx_B (s := s) (n := k) (by omega)
    have l := ly_29 (s := s) hk
    rw [pl_cl hk, (hM k hk).1, hl k hk, pl_b1, pl_inc]
    refine ⟨fun ik => ⟨pl_in hk, ?_⟩, fun ik => ?_⟩
    · rw [i3_n (ly s k), i3_le (pl_B (by omega) (by omega)) (pl_B (by omega) (by omega))]
      refine ⟨fun c => ?_, fun c => ⟨pl_in hk, ?_⟩⟩
      · rw [mx_stay (lmx_y ik) (by omega)] at ih
        exact ih
      · rw [mx_take (lmx_y ik) (by omega), show (((ly s k + 1 : Nat) : Int) - 1) = (ly s k : Int) by omega] at ih
        exact ih
    · rw [mx_stay (lmx_n ik) (by omega)] at ih
      exact ih
end LY
