/-! pairs; stabbed -/
theorem pah_R (l h l2 h2 : Int) : pah l h l2 h2 = -1 ∨ pah l h l2 h2 = 0 ∨ pah l h l2 h2 = 1 ∨ pah l h l2 h2 = 2 ∨ pah l h l2 h2 = 3 ∨ pah l h l2 h2 = 4 ∨ pah l h l2 h2 = 5 ∨ pah l h l2 h2 = 6 := by
  unfold pah
  repeat' split
  all_goals decide
theorem pah_1 {l h l2 h2 : Int} (v1 : l ≤ h) (v2 : l2 ≤ h2) : pah l h l2 h2 = 1 ↔ h + 1 = l2 := by
  unfold pah
  repeat' split
  all_goals first
    | exact ⟨fun _ => by omega, fun _ => rfl⟩
    | exact ⟨fun z => absurd z (by decide), fun z => by exfalso; omega⟩
theorem pah_n {l h l2 h2 : Int} : pah l h l2 h2 < 0 ↔ (l2 < l ∨ (l = l2 ∧ h2 < h)) := by
  unfold pah
  repeat' split
  all_goals first
    | exact ⟨fun _ => by omega, fun _ => by decide⟩
    | exact ⟨fun z => absurd z (by decide), fun z => by exfalso; omega⟩
theorem hwh_1 {l h l2 h2 : Int} (v1 : l ≤ h) (v2 : l2 ≤ h2) : hwh l h l2 h2 = 1 ↔ h + 1 = l2 := by
  unfold hwh
  by_cases c : pah l h l2 h2 < 0
  · rw [if_pos c]
    have := pah_n.mp c
    refine ⟨fun z => ?_, fun z => by omega⟩
    rcases pah_R l2 h2 l h with e | e | e | e | e | e | e | e <;> rw [e] at z <;> exact absurd z (by decide)
  · rw [if_neg c]
    exact pah_1 v1 v2
theorem hwh_11 {l h l2 h2 : Int} (v1 : l ≤ h) (v2 : l2 ≤ h2) : hwh l h l2 h2 = 11 ↔ h2 + 1 = l := by
  unfold hwh
  by_cases c : pah l h l2 h2 < 0
  · rw [if_pos c, ← pah_1 v2 v1]
    rcases pah_R l2 h2 l h with e | e | e | e | e | e | e | e <;> rw [e] <;> decide
  · rw [if_neg c]
    have := fun z => c (pah_n (l := l) (h := h) (l2 := l2) (h2 := h2).mpr z)
    refine ⟨fun z => ?_, fun z => absurd (Or.inl (by omega)) this⟩
    rcases pah_R l h l2 h2 with e | e | e | e | e | e | e | e <;> rw [e] at z <;> exact absurd z (by decide)
/-- pairs k, j -/
abbrev pw (s : SS) (w k j : Nat) : Prop := if w = 0 then (sL s k ≤ sH s j ∧ sL s j ≤ sH s k) else if w = 1 then (cov s k j ∨ cov s j k) else if w = 2 then ¬ (sL s k ≤ sH s j ∧ sL s j ≤ sH s k) else (sH s k + 1 = sL s j ∨ sH s j + 1 = sL s k)
def pwb (s : SS) (w k j : Nat) : Bool := decide (sI s k ∧ sI s j ∧ pw s w k j)
def pc2 (p : Nat → Nat → Bool) : Nat → Nat
  | 0 => 0
  | n + 1 => pc2 p n + fb_ct (p n) n
theorem pl_w {w : Nat} (h : w < 4) : w = 0 ∨ w = 1 ∨ w = 2 ∨ w = 3 := by omega
section O5
variable {μ : sl_M} {s : SS} {Q : Int32 → sl_M → Prop} {P : sl_M → Prop}
theorem ix_isPair_s (h : CR 4 μ s) (ok : sOK s) {k j w : Nat} (hk : k < 30) (hj : j < 30) (ik : sI s k) (ij : sI s j) (hw : w < 4) (h1 : pw s w k j → Q 1 μ) (h0 : ¬ pw s w k j → Q 0 μ) : ix_isPair (4 + j) (4 + k) (nI w) μ Q := by
  have ok1 := ok k hk ik
  have oj1 := ok j hj ij
  have Bk := ok.B hk ik
  obtain ⟨-, -, k2, k3, -⟩ := h k hk
  unfold ix_isPair
  rw [k2, k3, sp_meets_i h ok hj ij Bk.1 Bk.2.1, sp_meets_i h ok hj ij Bk.1 Bk.2.1, sp_covers_i h ok hj hk ij ik, sp_lieTo_i h ok hj hk ij ik]
  rcases pl_w hw with rfl | rfl | rfl | rfl
  · refine ⟨fun _ => ⟨pl_bz, ?_⟩, fun z => absurd rfl z⟩
    by_cases c : sL s j ≤ sH s k ∧ sL s k ≤ sH s j
    · rw [pl_bt c]
      exact h1 (by unfold pw; rw [if_pos rfl]; exact ⟨c.2, c.1⟩)
    · rw [pl_bf c]
      exact h0 (by unfold pw; rw [if_pos rfl]; exact fun z => c ⟨z.2, z.1⟩)
  · refine ⟨fun z => absurd z (by decide), fun _ => ⟨fun _ => ?_, fun z => absurd rfl z⟩⟩
    have e : pw s 1 k j ↔ (cov s k j ∨ cov s j k) := by
      unfold pw
      rw [if_neg (by decide), if_pos rfl]
    refine pl_bb (fun c => ?_) (fun c => ⟨rfl, h1 (e.mpr (Or.inr c))⟩)
    rw [sp_covers_i h ok hk hj ik ij]
    refine pl_bb (fun c2 => ⟨rfl, h0 (fun z => ?_)⟩) (fun c2 => ⟨rfl, h1 (e.mpr (Or.inl c2))⟩)
    rcases e.mp z with q | q
    · exact c2 q
    · exact c q
  · refine ⟨fun z => absurd z (by decide), fun _ => ⟨fun z => absurd z (by decide), fun _ => ⟨fun _ => ?_, fun z => absurd rfl z⟩⟩⟩
    have e : pw s 2 k j ↔ ¬ (sL s k ≤ sH s j ∧ sL s j ≤ sH s k) := by
      unfold pw
      rw [if_neg (by decide), if_neg (by decide), if_pos rfl]
    refine pl_bb (fun c => ⟨rfl, h1 (e.mpr (fun z => c ⟨z.2, z.1⟩))⟩) (fun c => ⟨rfl, h0 (fun z => e.mp z ⟨c.2, c.1⟩)⟩)
  · refine ⟨fun z => absurd z (by decide), fun _ => ⟨fun z => absurd z (by decide), fun _ => ⟨fun z => absurd z (by decide), fun _ => ?_⟩⟩⟩
    have e : pw s 3 k j ↔ (sH s k + 1 = sL s j ∨ sH s j + 1 = sL s k) := by
      unfold pw
      rw [if_neg (by decide), if_neg (by decide), if_neg (by decide)]
    rw [hwh_1 (by omega) (by omega)]
    refine ⟨fun c => ⟨rfl, h1 (e.mpr (Or.inr c))⟩, fun c => ?_⟩
    rw [sp_lieTo_i h ok hk hj ik ij, hwh_1 (by omega) (by omega)]
    refine ⟨fun c2 => ⟨rfl, h1 (e.mpr (Or.inl c2))⟩, fun c2 => ⟨rfl, h0 (fun z => ?_)⟩⟩
    rcases e.mp z with q | q
    · exact c2 q
    · exact c q
theorem mo_isPair_s (h : MR μ s) (ok : sOK s) {k j w : Nat} (hk : k < 30) (hj : j < 30) (ik : sI s k) (ij : sI s j) (hw : w < 4) (h1 : pw s w k j → Q 1 μ) (h0 : ¬ pw s w k j → Q 0 μ) : mo_isPair (nI k) (nI j) (nI w) μ Q := by
  have ok1 := ok k hk ik
  have oj1 := ok j hj ij
  unfold mo_isPair
  rw [mo_meets_i h ok hk hj ik ij, mo_meets_i h ok hk hj ik ij, mo_covers_i h ok hk hj, mo_howOf_i h ok hk hj ik ij]
  rcases pl_w hw with rfl | rfl | rfl | rfl
  · refine ⟨fun _ => ⟨pl_bz, ?_⟩, fun z => absurd rfl z⟩
    by_cases c : sL s k ≤ sH s j ∧ sL s j ≤ sH s k
    · rw [pl_bt c]
      exact h1 (by unfold pw; rw [if_pos rfl]; exact c)
    · rw [pl_bf c]
      exact h0 (by unfold pw; rw [if_pos rfl]; exact c)
  · refine ⟨fun z => absurd z (by decide), fun _ => ⟨fun _ => ?_, fun z => absurd rfl z⟩⟩
    have e : pw s 1 k j ↔ (cov s k j ∨ cov s j k) := by
      unfold pw
      rw [if_neg (by decide), if_pos rfl]
    refine pl_bb (fun c => ?_) (fun c => ⟨rfl, h1 (e.mpr (Or.inl c))⟩)
    rw [mo_covers_i h ok hj hk]
    refine pl_bb (fun c2 => ⟨rfl, h0 (fun z => ?_)⟩) (fun c2 => ⟨rfl, h1 (e.mpr (Or.inr c2))⟩)
    rcases e.mp z with q | q
    · exact c q
    · exact c2 q
  · refine ⟨fun z => absurd z (by decide), fun _ => ⟨fun z => absurd z (by decide), fun _ => ⟨fun _ => ?_, fun z => absurd rfl z⟩⟩⟩
    have e : pw s 2 k j ↔ ¬ (sL s k ≤ sH s j ∧ sL s j ≤ sH s k) := by
      unfold pw
      rw [if_neg (by decide), if_neg (by decide), if_pos rfl]
    refine pl_bb (fun c => ⟨rfl, h1 (e.mpr c)⟩) (fun c => ⟨rfl, h0 (fun z => e.mp z c)⟩)
  · refine ⟨fun z => absurd z (by decide), fun _ => ⟨fun z => absurd z (by decide), fun _ => ⟨fun z => absurd z (by decide), fun _ => ?_⟩⟩⟩
    have e : pw s 3 k j ↔ (sH s k + 1 = sL s j ∨ sH s j + 1 = sL s k) := by
      unfold pw
      rw [if_neg (by decide), if_neg (by decide), if_neg (by decide)]
    rw [hwh_1 (by omega) (by omega)]
    refine ⟨fun c => ⟨rfl, h1 (e.mpr (Or.inl c))⟩, fun c => ?_⟩
    rw [mo_howOf_i h ok hk hj ik ij, hwh_11 (by omega) (by omega)]
    refine ⟨fun c2 => ⟨rfl, h1 (e.mpr (Or.inr c2))⟩, fun c2 => ⟨rfl, h0 (fun z => ?_)⟩⟩
    rcases e.mp z with q | q
    · exact c q
    · exact c2 q
theorem pwb_no {w k j : Nat} (h : ¬ (sI s k ∧ sI s j ∧ pw s w k j)) (a : Nat) : nI (a + fb_ct (pwb s w k) (j + 1)) = nI (a + fb_ct (pwb s w k) j) := by
  rw [fb_ct_succ, if_neg (by unfold pwb; rw [decide_eq_true_eq]; exact h)]
  rfl
theorem pwb_yes {w k j : Nat} (h : sI s k ∧ sI s j ∧ pw s w k j) (a : Nat) : nI (a + fb_ct (pwb s w k) (j + 1)) = nI (a + fb_ct (pwb s w k) j) + 1 := by
  rw [fb_ct_succ, if_pos (by unfold pwb; rw [decide_eq_true_eq]; exact h), nI_1]
  rfl
theorem ix_countPairs_s (h : CR 4 μ s) (ok : sOK s) {w : Nat} (hw : w < 4) (hQ : Q (nI (pc2 (pwb s w) 30)) μ) : ix_countPairs (nI w) μ Q := by
  refine up_0 (fun n c x => ix_countPairs_L4 (nI w) Q n x c μ) (fun k => nI (pc2 (pwb s w) k)) 30 (fun n => ⟨fun z => absurd z pl_nlt, fun _ => hQ⟩) (fun n k hk ih => ?_)
  refine ⟨fun _ => ?_, fun z => absurd (pl_lt hk) z⟩
  refine up_0 (fun n1 c x => ix_countPairs_L13 (nI w) Q (ix_countPairs_L4 (nI w) Q n) n1 x (nI k) c μ) (fun j => nI (pc2 (pwb s w) k + fb_ct (pwb s w k) j)) k (fun n1 => ⟨fun z => absurd z (nI_nlt (Nat.le_refl _) (by omega)), fun _ => ?_⟩) (fun n1 j hj ih1 => ?_)
  · rw [pl_inc]
    exact ih
  · have hj' : j < 30 := by omega
    refine ⟨fun _ => ⟨pl_in hk, ?_⟩, fun z => absurd (nI_lt hj (by omega)) z⟩
    rw [pl_cl hk, pl_cl hj', (h k hk).2.1, (h j hj').2.1, pl_bz, pl_bz, pl_inc]
    refine pl_bb (fun ik => ?_) (fun ik => ⟨pl_in hj', ?_⟩)
    · rw [pwb_no (fun z => ik z.1)] at ih1
      exact ih1
    · refine pl_bb (fun ij => ?_) (fun ij => ⟨pl_in hj', pl_in hk, ?_⟩)
      · rw [pwb_no (fun z => ij z.2.1)] at ih1
        exact ih1
      · refine ix_isPair_s h ok hk hj' ik ij hw (fun c => ?_) (fun c => ?_)
        · rw [pwb_yes ⟨ik, ij, c⟩] at ih1
          exact ⟨fun z => absurd z (by decide), fun _ => ih1⟩
        · rw [pwb_no (fun z => c z.2.2)] at ih1
          exact ⟨fun _ => ih1, fun z => absurd rfl z⟩
theorem mo_pairs_s (h : MR μ s) (ok : sOK s) {w : Nat} (hw : w < 4) (hQ : Q (nI (pc2 (pwb s w) 30)) μ) : ∃ n, mo_pairs_L23 (nI w) Q n 0 0 μ := by
  refine up_0 (fun n c x => mo_pairs_L23 (nI w) Q n x c μ) (fun k => nI (pc2 (pwb s w) k)) 30 (fun n => ⟨fun z => absurd z pl_nlt, fun _ => hQ⟩) (fun n k hk ih => ?_)
  refine ⟨fun _ => ?_, fun z => absurd (pl_lt hk) z⟩
  refine up_0 (fun n1 c x => mo_pairs_L32 (nI w) Q (mo_pairs_L23 (nI w) Q n) n1 x (nI k) c μ) (fun j => nI (pc2 (pwb s w) k + fb_ct (pwb s w k) j)) k (fun n1 => ⟨fun z => absurd z (nI_nlt (Nat.le_refl _) (by omega)), fun _ => ?_⟩) (fun n1 j hj ih1 => ?_)
  · rw [pl_inc]
    exact ih
  · have hj' : j < 30 := by omega
    refine ⟨fun _ => ⟨pl_in hk, ?_⟩, fun z => absurd (nI_lt hj (by omega)) z⟩
    rw [pl_cl hk, pl_cl hj', (h k hk).1, (h j hj').1, pl_b1, pl_b1, pl_inc]
    refine ⟨fun ik => ⟨pl_in hj', fun ij => ?_, fun ij v hv => ?_⟩, fun ik v hv => ?_⟩
    · refine mo_isPair_s h ok hk hj' ik ij hw (fun c => ?_) (fun c => ?_)
      · rw [pwb_yes ⟨ik, ij, c⟩] at ih1
        exact ⟨fun z => absurd z (by decide), fun _ v hv => by rw [hv]; exact ih1⟩
      · rw [pwb_no (fun z => c z.2.2)] at ih1
        exact ⟨fun _ v hv => by rw [hv, Int32.add_zero]; exact ih1, fun z => absurd rfl z⟩
    · rw [pwb_no (fun z => ij z.2.1)] at ih1
      rw [hv, Int32.add_zero]
      exact ih1
    · rw [pwb_no (fun z => ik z.1)] at ih1
      rw [hv, Int32.add_zero]
      exact ih1
theorem op_pairs (a1 : Int32) : Opp (sx_pairs a1) (mo_pairs a1) := by
  rintro μ ⟨⟨s, ci, mr⟩, ri⟩
  by_cases h1 : 0 ≤ a1 ∧ a1 < 4
  · obtain ⟨w, hw, rfl⟩ := pl_of (y := 4) (N := 4) rfl (by decide) h1
    refine op2 (v := nI (pc2 (pwb s w) 30)) (s' := s) ci mr ri (fun Q hQ => ?_) (fun μ1 mr1 Q hQ => ?_)
    · unfold sx_pairs
      rw [sx_isBelow_i]
      exact pl_bb (fun z => absurd h1 z) (fun _ => ix_countPairs_s ci.2.1 ci.1 hw (hQ _ Fr.rfl' ci))
    · unfold mo_pairs
      rintro m1 rfl
      rw [mo_in_0, pl_bcong pl_le3]
      exact pl_bb (fun z => absurd h1 z) (fun _ => mo_pairs_s mr1.th ci.1 hw (hQ _ Fr.th mr1.th))
  · refine op2 (v := -1) (s' := s) ci mr ri (fun Q hQ => ?_) (fun μ1 mr1 Q hQ => ?_)
    · unfold sx_pairs
      rw [sx_isBelow_i]
      exact pl_bb (fun _ => hQ _ Fr.rfl' ci) (fun z => absurd z h1)
    · unfold mo_pairs
      rintro m1 rfl
      rw [mo_in_0, pl_bcong pl_le3]
      exact pl_bb (fun _ => hQ _ Fr.th mr1.th) (fun z => absurd z h1)
end O5
