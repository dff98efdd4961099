/-! put, drop; how; bits of those that meet -/
def outs (s : SS) (b : Nat → Bool) : SS := fun k => if b k then (false, (s k).2) else s k
theorem outs_t {s : SS} {b : Nat → Bool} {k : Nat} (h : b k = true) : outs s b k = (false, (s k).2) := if_pos h
theorem outs_f {s : SS} {b : Nat → Bool} {k : Nat} (h : b k = false) : outs s b k = s k := if_neg (by rw [h]; decide)
theorem outs_ok {s : SS} {b : Nat → Bool} (h : sOK s) : sOK (outs s b) := by
  intro k hk ik
  cases hb : b k with
  | true =>
    unfold sI at ik
    rw [outs_t hb] at ik
    exact absurd ik Bool.false_ne_true
  | false =>
    unfold sI at ik
    simp only [sL, sH, sW]
    rw [outs_f hb] at ik ⊢
    exact h k hk ik
theorem outs_CR {s : SS} {b : Nat → Bool} {μ : sl_M} (h : CR 4 μ s) {k : Nat} (hk : k < 30) {b' : Nat → Bool} (h1 : b' k = true) (h2 : ∀ j, j ≠ k → b' j = b j) (hc : CR 4 μ (outs s b)) : CR 4 (sl_up μ (4 + k) 1 0) (outs s b') := by
  intro j hj
  by_cases e : j = k
  · subst e
    have e2 := outs_t (s := s) h1
    obtain ⟨a0, a1, a2, a3, a4⟩ := h j hj
    simp only [sI, sL, sH, sW, e2, pl_up]
    simp [a0, a2, a3, a4, pl_b]
  · have e2 : outs s b' j = outs s b j := by
      unfold outs
      rw [h2 j e]
    have := hc j hj
    simp only [sI, sL, sH, sW, e2, pl_up]
    simp [e]
    exact this
section O2
variable {μ : sl_M} {s : SS} {Q : Int32 → sl_M → Prop} {P : sl_M → Prop}
theorem sx_isOfSet_i {j : Nat} (hj : j < 32) {x : Int32} : sx_isOfSet (nI j) x μ Q ↔ Q (pl_b (bt x j = true)) μ := by
  unfold sx_isOfSet
  rw [b_test0 hj]
  cases hb : bt x j <;> simp [pl_b, pl_bz0, pl_bz1]
theorem ix_takeOut_c (h : CPre s μ) (x : Int32) (hQ : ∀ μ', Fr fC μ μ' → CInv (outs s (bt x)) μ' → P μ') : ix_takeOut x μ P := by
  obtain ⟨h1, h2, h3, h4⟩ := h
  refine lq2 (fun n x2 m => ix_takeOut_L2 x P n x2 m) (fun k x2 m => x2 = nI k ∧ Fr (fun o k => 4 ≤ o ∧ o < 34 ∧ k = 1) μ m ∧ CR 4 m (outs s (fun j => decide (j < k) && bt x j))) 30 0 μ ⟨rfl, Fr.rfl', ?_⟩ ?_ ?_
  · have : outs s (fun j => decide (j < 0) && bt x j) = s := by
      funext j
      exact outs_f (by simp)
    rw [this]
    exact h2
  · rintro n x2 m ⟨rfl, hf, hc⟩
    refine ⟨fun z => absurd z pl_nlt, fun _ => ?_⟩
    refine ix_relayer_c (s := outs s (bt x)) ⟨outs_ok h1, fun j hj => ?_, fun j hj => ?_, fun j hj => ?_⟩ (fun m2 hf2 c2 => hQ m2 ((hf.mono (fun o k z => by omega)).tr hf2) c2)
    · have := hc j hj
      have e : outs s (fun j => decide (j < 30) && bt x j) j = outs s (bt x) j := by
        unfold outs
        simp [hj]
      simp only [sI, sL, sH, sW, e] at this ⊢
      exact this
    · rw [hf _ _ (by omega)]
      exact h3 j hj
    · rw [hf _ _ (by omega)]
      exact h4 j hj
  · rintro n k x2 m hk ⟨rfl, hf, hc⟩ ih
    refine ⟨fun _ => ?_, fun z => absurd (pl_lt hk) z⟩
    rw [sx_isOfSet_i (by omega)]
    refine pl_bb (fun hb => ih _ _ ⟨pl_inc k, hf, ?_⟩) (fun hb => ⟨pl_in hk, rfl, ?_⟩)
    · have : outs s (fun j => decide (j < k + 1) && bt x j) = outs s (fun j => decide (j < k) && bt x j) := by
        funext j
        unfold outs
        by_cases e : j = k
        · subst e
          simp [hb]
        · have : (j < k + 1) ↔ (j < k) := by omega
          simp [this]
      rw [this]
      exact hc
    · rintro m3 rfl
      rw [pl_cl hk]
      have h2' : ∀ j, j < 30 → m (4 + j) 0 = nI j ∧ m (4 + j) 2 = i3 (sL s j) ∧ m (4 + j) 3 = i3 (sH s j) ∧ m (4 + j) 4 = i3 (sW s j) := fun j hj => by
        obtain ⟨a0, a1, a2, a3, a4⟩ := h2 j hj
        rw [hf _ _ (by omega), hf _ _ (by omega), hf _ _ (by omega), hf _ _ (by omega)]
        exact ⟨a0, a2, a3, a4⟩
      refine ih _ _ ⟨pl_inc k, hf.up ⟨by omega, by omega, rfl⟩, fun j hj => ?_⟩
      by_cases e : j = k
      · subst e
        have e2 := outs_t (s := s) (b := fun i => decide (i < j + 1) && bt x i) (k := j) (by simp [hb])
        obtain ⟨a0, a2, a3, a4⟩ := h2' j hj
        simp only [sI, sL, sH, sW, e2, pl_up]
        simp [a0, a2, a3, a4, pl_b]
      · have e2 : outs s (fun i => decide (i < k + 1) && bt x i) j = outs s (fun i => decide (i < k) && bt x i) j := by
          unfold outs
          have : (j < k + 1) ↔ (j < k) := by omega
          simp [this]
        have := hc j hj
        simp only [sI, sL, sH, sW, e2, pl_up]
        simp [e]
        exact this
theorem mo_isSpan_k {x : Int32} : mo_isSpan x μ Q ↔ Q (pl_b (0 ≤ x ∧ x < 30)) μ := by
  rw [mo_isSpan_i, pl_bcong pl_29]
theorem mo_isHere_k (h : MR μ s) {k : Nat} (hk : k < 30) : mo_isHere (nI k) μ Q ↔ Q (pl_b (sI s k)) μ := by
  unfold mo_isHere
  rw [mo_isSpan_k, pl_bt (pl_k30 hk)]
  simp only [pl_in hk, pl_cl hk, (h k hk).1, pl_b1, true_and]
  by_cases hi : sI s k
  · rw [pl_bt hi]
    simp [sI, hi, pl_bz1]
  · rw [pl_bf hi]
    simp [sI, hi, pl_bz0]
theorem mo_isHere_o {x : Int32} (hx : ¬ (0 ≤ x ∧ x < 30)) : mo_isHere x μ Q ↔ Q 0 μ := by
  unfold mo_isHere
  rw [mo_isSpan_k, pl_bf hx]
  simp [pl_bz0]
theorem op_put (a1 a2 a3 a4 : Int32) : Opp (sx_put a1 a2 a3 a4) (mo_put a1 a2 a3 a4) := by
  rintro μ ⟨⟨s, ci, mr⟩, ri⟩
  obtain ⟨l, bl, rfl⟩ := pl_int a2
  obtain ⟨g, bg, rfl⟩ := pl_int a3
  obtain ⟨w, bw, rfl⟩ := pl_int a4
  by_cases hx : 0 ≤ a1 ∧ a1 < 30
  · by_cases hv : vS l g w
    · obtain ⟨k, hk, rfl⟩ := pl_30 hx
      refine op2 (v := pl_b (sI s k)) (s' := fu s k (true, l, g, w)) ci mr ri (fun Q hQ => ?_) (fun μ1 mr1 Q hQ => ?_)
      · unfold sx_put
        rw [sx_isBelow_i]
        refine pl_bb (fun z => absurd hx z) (fun _ => ?_)
        rw [sx_isSpan_i]
        refine pl_bb (fun z => absurd ((vS_c bl bg bw).mpr hv) z) (fun _ => ?_)
        rw [ix_isIn_i ci.2.1 hk]
        refine ix_bringIn_c ci.pre hk hv (fun m hf hp => ix_relayer_c hp (fun m2 hf2 c2 => ?_))
        have := hQ _ (hf.tr hf2) c2
        refine pl_bb (fun z => ?_) (fun z => ?_)
        · rw [pl_bf z] at this
          exact this
        · rw [pl_bt z] at this
          exact this
      · unfold mo_put
        rintro m1 rfl
        rw [mo_isSpan_k]
        refine pl_bb (fun z => absurd hx z) (fun _ => ?_)
        rw [mo_isBad_i]
        refine pl_bb (fun _ => ⟨pl_in hk, ?_⟩) (fun z => absurd ((vS_m bl bg bw).mpr hv) z)
        rintro v6 rfl
        rw [pl_cl hk, (mr1.th k hk).1]
        exact mo_comes_s mr1.th hk (fun m hf hm => hQ _ (Fr.th.tr hf) hm)
    · refine op2 (v := -2) (s' := s) ci mr ri (fun Q hQ => ?_) (fun μ1 mr1 Q hQ => ?_)
      · unfold sx_put
        rw [sx_isBelow_i]
        refine pl_bb (fun z => absurd hx z) (fun _ => ?_)
        rw [sx_isSpan_i]
        exact pl_bb (fun _ => hQ _ Fr.rfl' ci) (fun z => absurd ((vS_c bl bg bw).mp z) hv)
      · unfold mo_put
        rintro m1 rfl
        rw [mo_isSpan_k]
        refine pl_bb (fun z => absurd hx z) (fun _ => ?_)
        rw [mo_isBad_i]
        exact pl_bb (fun z => absurd ((vS_m bl bg bw).mp (Classical.byContradiction z)) hv) (fun _ => hQ _ Fr.th mr1.th)
  · refine op2 (v := -1) (s' := s) ci mr ri (fun Q hQ => ?_) (fun μ1 mr1 Q hQ => ?_)
    · unfold sx_put
      rw [sx_isBelow_i]
      exact pl_bb (fun _ => hQ _ Fr.rfl' ci) (fun z => absurd z hx)
    · unfold mo_put
      rintro m1 rfl
      rw [mo_isSpan_k]
      exact pl_bb (fun _ => hQ _ Fr.th mr1.th) (fun z => absurd z hx)
theorem bt_one {k : Nat} (hk : k < 30) : bt ((1 : Int32) <<< (nI k &&& 31)) = fun j => decide (j = k) := by
  funext j
  by_cases h : j < 32
  · exact b_one (by omega) h
  · rw [b_big (by omega)]
    exact (decide_eq_false (by omega)).symm
theorem MR.drop (h : MR μ s) {k : Nat} : MR (sl_up μ 108 k 0) (outs s (fun j => decide (j = k))) := by
  intro j hj
  obtain ⟨a0, a1, a2, a3⟩ := h j hj
  by_cases e : j = k
  · subst e
    have e2 := outs_t (s := s) (b := fun i => decide (i = j)) (k := j) (by simp)
    simp only [sI, sL, sH, sW, e2, pl_up]
    simp [a1, a2, a3, pl_b]
  · have e2 := outs_f (s := s) (b := fun i => decide (i = k)) (k := j) (by simp [e])
    simp only [sI, sL, sH, sW, e2, pl_up]
    simp [e]
    exact ⟨a0, a1, a2, a3⟩
theorem op_drop (a1 : Int32) : Opp (sx_drop a1) (mo_drop a1) := by
  rintro μ ⟨⟨s, ci, mr⟩, ri⟩
  by_cases hx : 0 ≤ a1 ∧ a1 < 30
  · obtain ⟨k, hk, rfl⟩ := pl_30 hx
    by_cases hi : sI s k
    · refine op2 (v := nI (sN (outs s (fun j => decide (j = k))))) (s' := outs s (fun j => decide (j = k))) ci mr ri (fun Q hQ => ?_) (fun μ1 mr1 Q hQ => ?_)
      · unfold sx_drop
        rw [sx_isBelow_i]
        refine pl_bb (fun z => absurd hx z) (fun _ => ?_)
        rw [ix_isIn_i ci.2.1 hk]
        refine pl_bb (fun z => absurd hi z) (fun _ => ?_)
        refine ix_takeOut_c ci.pre _ (fun m hf c => ?_)
        rw [bt_one hk] at c
        exact ix_count_s c.2.1 (hQ _ hf c)
      · unfold mo_drop
        rintro m1 rfl
        rw [mo_isHere_k mr1.th hk]
        refine pl_bb (fun z => absurd hi z) (fun _ => ⟨pl_in hk, ?_⟩)
        rintro m6 rfl
        rw [pl_cl hk]
        exact mo_manyIn_s mr1.th.drop (hQ _ (Fr.th.up (by omega)) mr1.th.drop)
    · refine op2 (v := -3) (s' := s) ci mr ri (fun Q hQ => ?_) (fun μ1 mr1 Q hQ => ?_)
      · unfold sx_drop
        rw [sx_isBelow_i]
        refine pl_bb (fun z => absurd hx z) (fun _ => ?_)
        rw [ix_isIn_i ci.2.1 hk]
        exact pl_bb (fun _ => hQ _ Fr.rfl' ci) (fun z => absurd z hi)
      · unfold mo_drop
        rintro m1 rfl
        rw [mo_isHere_k mr1.th hk]
        refine pl_bb (fun _ => ?_) (fun z => absurd z hi)
        rw [mo_isSpan_k]
        exact pl_bb (fun z => absurd hx z) (fun _ => hQ _ Fr.th mr1.th)
  · refine op2 (v := -1) (s' := s) ci mr ri (fun Q hQ => ?_) (fun μ1 mr1 Q hQ => ?_)
    · unfold sx_drop
      rw [sx_isBelow_i]
      exact pl_bb (fun _ => hQ _ Fr.rfl' ci) (fun z => absurd z hx)
    · unfold mo_drop
      rintro m1 rfl
      rw [mo_isHere_o hx]
      refine ⟨fun _ => ?_, fun z => absurd rfl z⟩
      rw [mo_isSpan_k]
      exact pl_bb (fun _ => hQ _ Fr.th mr1.th) (fun z => absurd z hx)
end O2
