/-! stabbed; lay, judge -/
def scn (p : Nat → Bool) (e : Nat → Nat) : Nat → Nat → Int32 → Int32
  | 0, _, _ => -5
  | d + 1, j, left => if p j then (if left = 0 then nI (e j) else scn p e d (j + 1) (left - 1)) else scn p e d (j + 1) left
noncomputable abbrev stp (s : SS) (x : Int) (a : Int32) (j : Nat) : Bool := decide ((sL s (en s (yl s) 0 j) ≤ x ∧ x ≤ sH s (en s (yl s) 0 j)) ∧ (a = -1 ∨ nI (ly s (en s (yl s) 0 j)) = a))
theorem scn_no {p : Nat → Bool} {e : Nat → Nat} {d j : Nat} {l : Int32} (h : ¬ p j = true) : scn p e (d + 1) j l = scn p e d (j + 1) l := by
  unfold scn
  rw [if_neg h]
  cases d <;> rfl
theorem scn_y0 {p : Nat → Bool} {e : Nat → Nat} {d j : Nat} (h : p j = true) : scn p e (d + 1) j 0 = nI (e j) := by
  unfold scn
  rw [if_pos h, if_pos rfl]
theorem scn_y1 {p : Nat → Bool} {e : Nat → Nat} {d j : Nat} {l : Int32} (h : p j = true) (hl : ¬ l = 0) : scn p e (d + 1) j l = scn p e d (j + 1) (l - 1) := by
  conv => lhs; unfold scn
  rw [if_pos h, if_neg hl]
section S8
variable {μ : sl_M} {s : SS} {Q : Int32 → sl_M → Prop} {P : sl_M → Prop}
theorem ix_stabbedAt_L (ci : CInv s μ) (ho : ∀ i, i < sN s → μ 3 i = nI (4 + en s (yl s) 0 i)) {x : Int} (bx : i3B x) {a2 a3 : Int32} : ∀ d j left, j + d = sN s → Q (scn (stp s x a2) (en s (yl s) 0) d j left) μ → ix_stabbedAt_L13 (i3 x) a2 a3 Q (d + 1) (nI (sN s)) left (nI j) μ := by
  have n30 := sN_le s
  intro d
  induction d with
  | zero =>
    intro j left hj hQ
    obtain rfl : j = sN s := by omega
    exact ⟨fun z => absurd z (nI_nlt (Nat.le_refl _) (by omega)), fun _ => hQ⟩
  | succ d ih =>
    intro j left hj hQ
    have hj' : j < sN s := by omega
    have e := en_ok (s := s) (y := yl s) (q := 0) hj'
    have c0 := (ci.2.1 _ e.1).1
    have c5 := ci.2.2.1 _ e.1 e.2.1
    have no : ¬ stp s x a2 j = true → ix_stabbedAt_B82 (i3 x) a2 a3 Q (ix_stabbedAt_L13 (i3 x) a2 a3 Q (d + 1)) (nI (sN s)) left (nI j) 0 μ := by
      intro hp
      rw [scn_no hp] at hQ
      refine ⟨fun _ v hv => ?_, fun z => absurd rfl z⟩
      rw [hv, Int32.sub_zero, pl_inc]
      exact ih (j + 1) left (by omega) hQ
    have yes : stp s x a2 j = true → ix_stabbedAt_B54 (i3 x) a2 a3 Q (ix_stabbedAt_L13 (i3 x) a2 a3 Q (d + 1)) (nI (sN s)) left (nI j) μ := by
      intro hp
      refine ⟨fun z => absurd z (by decide), fun _ => ⟨fun hl => ⟨pl_in (by omega), ?_⟩, fun hl => ⟨fun z => absurd z (by decide), fun _ v hv => ?_⟩⟩⟩
      · rw [hl, scn_y0 hp] at hQ
        rw [pl_cl (show j < 30 by omega), ho j hj', cl4 e.1, c0]
        exact ⟨kd9 _ e.1, hQ⟩
      · rw [scn_y1 hp hl] at hQ
        rw [hv, pl_inc]
        exact ih (j + 1) _ (by omega) hQ
    refine ⟨fun _ => ⟨pl_in (by omega), ?_⟩, fun z => absurd (nI_lt hj' (by omega)) z⟩
    rw [pl_cl (show j < 30 by omega), ho j hj', cl4 e.1]
    refine ⟨kd9 _ e.1, ?_⟩
    rw [sp_meets_i ci.2.1 ci.1 e.1 e.2.1 bx bx]
    refine pl_bb (fun c => ⟨fun _ => no (fun z => c (of_decide_eq_true z).1), fun z => absurd rfl z⟩) (fun c => ⟨fun ha => yes (decide_eq_true ⟨c, Or.inl ha⟩), fun ha => ⟨pl_in (by omega), ?_⟩⟩)
    rw [ho j hj', cl4 e.1, c5]
    refine ⟨kd9 _ e.1, fun hb => yes (decide_eq_true ⟨c, Or.inr hb⟩), fun hb => ⟨fun _ => no (fun z => ?_), fun z => absurd rfl z⟩⟩
    rcases (of_decide_eq_true z).2 with q | q
    · exact ha q
    · exact hb q
theorem mo_has_k (h : MR μ s) (ok : sOK s) {k : Nat} (hk : k < 30) (ik : sI s k) {x : Int} (bx : i3B x) : mo_has (nI k) (i3 x) μ Q ↔ Q (pl_b (sL s k ≤ x ∧ x ≤ sH s k)) μ := by
  obtain ⟨a1, a2, a3, a4⟩ := h k hk
  have B := ok.B hk ik
  unfold mo_has
  simp only [pl_in hk, pl_cl hk, a1, a2, a3, pl_bt ik, mo_in_i, i3_le B.1 bx, i3_le bx B.2.1, true_and]
  by_cases c : sL s k ≤ x ∧ x ≤ sH s k
  · simp [pl_bt c, pl_bz1]
  · simp [pl_bf c, pl_bz0]
theorem mo_stabbed_L (mr : MR μ s) (ok : sOK s) (hl : ∀ k, k < 30 → μ 109 k = nI (ly s k)) (ho : ∀ i, i < sN s → μ 110 i = nI (en s (yl s) 0 i)) {x : Int} (bx : i3B x) {a2 a3 : Int32} : ∀ d j left, j + d = sN s → Q (scn (stp s x a2) (en s (yl s) 0) d j left) μ → mo_stabbed_L42 (i3 x) a2 a3 Q (d + 1) left (nI j) μ := by
  have n30 := sN_le s
  intro d
  induction d with
  | zero =>
    intro j left hj hQ
    obtain rfl : j = sN s := by omega
    exact mo_manyIn_s mr ⟨fun z => absurd z (nI_nlt (Nat.le_refl _) (by omega)), fun _ => hQ⟩
  | succ d ih =>
    intro j left hj hQ
    have hj' : j < sN s := by omega
    have e := en_ok (s := s) (y := yl s) (q := 0) hj'
    have no : ¬ stp s x a2 j = true → mo_stabbed_L42 (i3 x) a2 a3 Q (d + 1) left (nI j + 1) μ := by
      intro hp
      rw [scn_no hp] at hQ
      rw [pl_inc]
      exact ih (j + 1) left (by omega) hQ
    have yes : stp s x a2 j = true → (left = 0 → Q (nI (en s (yl s) 0 j)) μ) ∧ (¬ left = 0 → mo_stabbed_L42 (i3 x) a2 a3 Q (d + 1) (left + (-1 : Int32)) (nI j + 1) μ) := by
      intro hp
      refine ⟨fun hl => ?_, fun hl => ?_⟩
      · rw [hl, scn_y0 hp] at hQ
        exact hQ
      · rw [scn_y1 hp hl, Int32.sub_eq_add_neg] at hQ
        rw [pl_inc]
        exact ih (j + 1) _ (by omega) hQ
    refine mo_manyIn_s mr ⟨fun _ => ⟨pl_in (by omega), ?_⟩, fun z => absurd (nI_lt hj' (by omega)) z⟩
    rintro v3 rfl
    rw [pl_cl (show j < 30 by omega), ho j hj', mo_has_k mr ok e.1 e.2.1 bx]
    refine pl_bb (fun c => no (fun z => c (of_decide_eq_true z).1)) (fun c => ⟨fun ha => yes (decide_eq_true ⟨c, Or.inl ha⟩), fun ha => ⟨pl_in e.1, ?_⟩⟩)
    rw [pl_cl e.1, hl _ e.1]
    refine ⟨fun hb => yes (decide_eq_true ⟨c, Or.inr hb⟩), fun hb => no (fun z => ?_)⟩
    rcases (of_decide_eq_true z).2 with q | q
    · exact ha q
    · exact hb q
theorem op_stabbed (a1 a2 a3 : Int32) : Opp (sx_stabbed a1 a2 a3) (mo_stabbed a1 a2 a3) := by
  rintro μ ⟨⟨s, ci, mr⟩, ri⟩
  obtain ⟨x, bx, rfl⟩ := pl_int a1
  refine op2 (v := if 0 ≤ i3 x ∧ i3 x < 1000 then (if a2 < -1 then -1 else if a3 < 0 then -1 else scn (stp s x a2) (en s (yl s) 0) (sN s) 0 a3) else -2) (s' := s) ci mr ri (fun Q hQ => ?_) (fun μ1 mr1 Q hQ => ?_)
  · unfold sx_stabbed
    rw [sx_isPlace_i]
    refine pl_bb (fun c => ?_) (fun c => ⟨fun c2 => ?_, fun c2 => ⟨fun c3 => ?_, fun c3 => ?_⟩⟩)
    · have hQ := hQ _ Fr.rfl' ci
      rw [if_neg c] at hQ
      exact hQ
    · have hQ := hQ _ Fr.rfl' ci
      rw [if_pos c, if_pos c2] at hQ
      exact hQ
    · have hQ := hQ _ Fr.rfl' ci
      rw [if_pos c, if_neg c2, if_pos c3] at hQ
      exact hQ
    · refine ix_sort_c (q := 0) ci (by omega) (fun m hf cm ho => ⟨_, ix_stabbedAt_L cm ho bx (sN s) 0 a3 (by omega) ?_⟩)
      have hQ := hQ m hf cm
      rw [if_pos c, if_neg c2, if_neg c3] at hQ
      exact hQ
  · unfold mo_stabbed
    rintro m1 rfl
    rw [mo_in_0, pl_bcong pl_le999]
    refine pl_bb (fun c => ?_) (fun c => ⟨fun c2 => ?_, fun c2 => ⟨fun c3 => ?_, fun c3 => ?_⟩⟩)
    · have hQ := hQ _ Fr.th mr1.th
      rw [if_neg c] at hQ
      exact hQ
    · have hQ := hQ _ Fr.th mr1.th
      rw [if_pos c, if_pos c2] at hQ
      exact hQ
    · have hQ := hQ _ Fr.th mr1.th
      rw [if_pos c, if_neg c2, if_pos c3] at hQ
      exact hQ
    · refine mo_layOrder_s (q := 0) mr1.th ci.1 (by omega) (fun m hf hl ho => ⟨_, mo_stabbed_L (mr1.th.f10 hf) ci.1 hl ho bx (sN s) 0 a3 (by omega) ?_⟩)
      have hQ := hQ m (Fr.th.tr hf.f10N) (mr1.th.f10 hf)
      rw [if_pos c, if_neg c2, if_neg c3] at hQ
      exact hQ
end S8
