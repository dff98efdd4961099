/-! how; meets -/
theorem wi (Q : Int32 → sl_M → Prop) {c : Prop} [Decidable c] {x y : Int32} {μ : sl_M} : ((c → Q x μ) ∧ (¬ c → Q y μ)) ↔ Q (if c then x else y) μ := by
  by_cases h : c <;> simp [h]
def pah (l h l2 h2 : Int) : Int32 := if l < l2 then (if h < l2 then (if h + 1 < l2 then 0 else 1) else if h < h2 then 2 else if h = h2 then 3 else 4) else if l = l2 then (if h ≤ h2 then (if h < h2 then 5 else 6) else -1) else -1
def hwh (l h l2 h2 : Int) : Int32 := if pah l h l2 h2 < 0 then 12 - pah l2 h2 l h else pah l h l2 h2
section O3
variable {μ : sl_M} {s : SS} {Q : Int32 → sl_M → Prop} {P : sl_M → Prop}
theorem sp_lieAhead_i (h : CR 4 μ s) (ok : sOK s) {a b : Nat} (ha : a < 30) (hb : b < 30) (ia : sI s a) (ib : sI s b) : sp_lieAhead (4 + a) (4 + b) μ Q ↔ Q (pah (sL s a) (sH s a) (sL s b) (sH s b)) μ := by
  obtain ⟨a0, a1, a2, a3, a4⟩ := h a ha
  obtain ⟨b0, b1, b2, b3, b4⟩ := h b hb
  have oa := ok a ha ia
  have ob := ok b hb ib
  have Ba := ok.B ha ia
  have Bb := ok.B hb ib
  unfold sp_lieAhead
  have e : i3 (sH s a) + 1 = i3 (sH s a + 1) := by rw [i3_1, i3_add]
  have e2 : i3 (sH s a + 1) < i3 (sL s b) ↔ sH s a + 1 < sL s b := i3_lt (pl_B (by omega) (by omega)) Bb.1
  simp only [a2, a3, b2, b3, e, e2, i3_lt Ba.1 Bb.1, i3_lt Ba.2.1 Bb.1, i3_lt Ba.2.1 Bb.2.1, i3_eq Ba.2.1 Bb.2.1, i3_eq Ba.1 Bb.1, i3_le Ba.2.1 Bb.2.1, wi Q]
  exact Iff.rfl
theorem sp_lieTo_i (h : CR 4 μ s) (ok : sOK s) {a b : Nat} (ha : a < 30) (hb : b < 30) (ia : sI s a) (ib : sI s b) : sp_lieTo (4 + a) (4 + b) μ Q ↔ Q (hwh (sL s a) (sH s a) (sL s b) (sH s b)) μ := by
  unfold sp_lieTo
  simp only [sp_lieAhead_i h ok ha hb ia ib, sp_lieAhead_i h ok hb ha ib ia, wi Q]
  exact Iff.rfl
theorem mo_meets_i (h : MR μ s) (ok : sOK s) {a b : Nat} (ha : a < 30) (hb : b < 30) (ia : sI s a) (ib : sI s b) : mo_meets (nI a) (nI b) μ Q ↔ Q (pl_b (sL s a ≤ sH s b ∧ sL s b ≤ sH s a)) μ := by
  obtain ⟨a1, a2, a3, a4⟩ := h a ha
  obtain ⟨b1, b2, b3, b4⟩ := h b hb
  have Ba := ok.B ha ia
  have Bb := ok.B hb ib
  unfold mo_meets
  simp only [pl_in ha, pl_in hb, pl_cl ha, pl_cl hb, a1, a2, a3, b1, b2, b3, pl_bt ia, pl_bt ib, true_and, i3_le Ba.1 Bb.2.1, i3_le Bb.1 Ba.2.1, pl_bz0, pl_bz1, wi Q]
  unfold pl_b
  by_cases c1 : sL s a ≤ sH s b <;> by_cases c2 : sL s b ≤ sH s a <;> simp [c1, c2]
theorem mo_plainHow_i (h : MR μ s) (ok : sOK s) {a b : Nat} (ha : a < 30) (hb : b < 30) (ia : sI s a) (ib : sI s b) : mo_plainHow (nI a) (nI b) μ Q ↔ Q (pah (sL s a) (sH s a) (sL s b) (sH s b)) μ := by
  obtain ⟨a1, a2, a3, a4⟩ := h a ha
  obtain ⟨b1, b2, b3, b4⟩ := h b hb
  have oa := ok a ha ia
  have ob := ok b hb ib
  have Ba := ok.B ha ia
  have Bb := ok.B hb ib
  unfold mo_plainHow
  have e : i3 (sH s a) + 1 = i3 (sH s a + 1) := by rw [i3_1, i3_add]
  have e2 : i3 (sH s a + 1) < i3 (sL s b) ↔ sH s a + 1 < sL s b := i3_lt (pl_B (by omega) (by omega)) Bb.1
  simp only [mo_meets_i h ok ha hb ia ib, pl_in ha, pl_in hb, pl_cl ha, pl_cl hb, a2, a3, b2, b3, e, e2, true_and, i3_lt Ba.1 Bb.1, i3_lt Ba.2.1 Bb.1, i3_lt Ba.2.1 Bb.2.1, i3_eq Ba.2.1 Bb.2.1, i3_eq Ba.1 Bb.1, i3_le Ba.1 Bb.1, i3_le Ba.2.1 Bb.2.1, pl_b0, wi Q]
  refine iff_of_eq (congrArg (fun r => Q r μ) ?_)
  unfold pah
  generalize sL s a = l1 at *
  generalize sL s b = l2 at *
  generalize sH s a = g1 at *
  generalize sH s b = g2 at *
  clear e e2
  repeat' split
  all_goals first | rfl | (exfalso; omega)
theorem mo_howOf_i (h : MR μ s) (ok : sOK s) {a b : Nat} (ha : a < 30) (hb : b < 30) (ia : sI s a) (ib : sI s b) : mo_howOf (nI a) (nI b) μ Q ↔ Q (hwh (sL s a) (sH s a) (sL s b) (sH s b)) μ := by
  unfold mo_howOf
  simp only [mo_plainHow_i h ok ha hb ia ib, mo_plainHow_i h ok hb ha ib ia, wi Q]
  exact Iff.rfl
theorem op_how (a1 a2 : Int32) : Opp (sx_how a1 a2) (mo_how a1 a2) := by
  rintro μ ⟨⟨s, ci, mr⟩, ri⟩
  by_cases h1 : 0 ≤ a1 ∧ a1 < 30
  · by_cases h2 : 0 ≤ a2 ∧ a2 < 30
    · obtain ⟨a, ha, rfl⟩ := pl_30 h1
      obtain ⟨b, hb, rfl⟩ := pl_30 h2
      refine op2 (v := if nI a = nI b then -1 else if sI s a then (if sI s b then hwh (sL s a) (sH s a) (sL s b) (sH s b) else -3) else -3) (s' := s) ci mr ri (fun Q hQ => ?_) (fun μ1 mr1 Q hQ => ?_)
      · have hQ := hQ _ Fr.rfl' ci
        unfold sx_how
        simp only [sx_isBelow_i, pl_bt h1, pl_bt h2, ix_isIn_i ci.2.1 ha, ix_isIn_i ci.2.1 hb, pl_in ha, pl_in hb, pl_cl ha, pl_cl hb, true_and]
        refine ⟨fun z => absurd z (by decide), fun _ => ⟨fun z => absurd z (by decide), fun _ => ⟨fun e => ?_, fun e => ?_⟩⟩⟩
        · rw [if_pos e] at hQ
          exact hQ
        · rw [if_neg e] at hQ
          refine pl_bb (fun ia => ?_) (fun ia => ?_)
          · rw [if_neg ia] at hQ
            exact hQ
          · rw [if_pos ia] at hQ
            refine pl_bb (fun ib => ?_) (fun ib => ?_)
            · rw [if_neg ib] at hQ
              exact hQ
            · rw [if_pos ib] at hQ
              rw [sp_lieTo_i ci.2.1 ci.1 ha hb ia ib]
              exact hQ
      · have hQ := hQ _ Fr.th mr1.th
        unfold mo_how
        rintro m1 rfl
        simp only [mo_isSpan_k, pl_bt h1, pl_bt h2, mo_isHere_k mr1.th ha, mo_isHere_k mr1.th hb]
        refine ⟨fun z => absurd z (by decide), fun _ => ⟨fun z => absurd z (by decide), fun _ => ⟨fun e => ?_, fun e => ?_⟩⟩⟩
        · rw [if_pos e] at hQ
          exact hQ
        · rw [if_neg e] at hQ
          refine pl_bb (fun ia => ?_) (fun ia => ?_)
          · rw [if_neg ia] at hQ
            exact hQ
          · rw [if_pos ia] at hQ
            refine pl_bb (fun ib => ?_) (fun ib => ?_)
            · rw [if_neg ib] at hQ
              exact hQ
            · rw [if_pos ib] at hQ
              rw [mo_howOf_i mr1.th ci.1 ha hb ia ib]
              exact hQ
    · refine op2 (v := -1) (s' := s) ci mr ri (fun Q hQ => ?_) (fun μ1 mr1 Q hQ => ?_)
      · unfold sx_how
        simp only [sx_isBelow_i, pl_bt h1, pl_bf h2]
        exact ⟨fun z => absurd z (by decide), fun _ => ⟨fun _ => hQ _ Fr.rfl' ci, fun z => absurd trivial z⟩⟩
      · unfold mo_how
        rintro m1 rfl
        simp only [mo_isSpan_k, pl_bt h1, pl_bf h2]
        exact ⟨fun z => absurd z (by decide), fun _ => ⟨fun _ => hQ _ Fr.th mr1.th, fun z => absurd trivial z⟩⟩
  · refine op2 (v := -1) (s' := s) ci mr ri (fun Q hQ => ?_) (fun μ1 mr1 Q hQ => ?_)
    · unfold sx_how
      rw [sx_isBelow_i]
      exact pl_bb (fun _ => hQ _ Fr.rfl' ci) (fun z => absurd z h1)
    · unfold mo_how
      rintro m1 rfl
      rw [mo_isSpan_k]
      exact pl_bb (fun _ => hQ _ Fr.th mr1.th) (fun z => absurd z h1)
end O3
