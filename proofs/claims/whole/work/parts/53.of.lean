/-! of -/
abbrev pcc (s : SS) (k w o : Nat) : Bool := if w = 5 then decide (cov s o k) else if w = 6 then decide (cov s k o) else decide (o ≠ k ∧ mt s (sL s k) (sH s k) o = true)
section OF
variable {μ : sl_M} {s : SS} {Q : Int32 → sl_M → Prop}
theorem ct_y {p : Nat → Bool} {n : Nat} (h : p n = true) : fb_ct p (n + 1) = fb_ct p n + 1 := by rw [fb_ct_succ, h, if_pos rfl]
theorem ct_n {p : Nat → Bool} {n : Nat} (h : p n = false) : fb_ct p (n + 1) = fb_ct p n := by rw [fb_ct_succ, h]; rfl
theorem ix_countCovering_s (h : CR 4 μ s) (ok : sOK s) {k : Nat} (hk : k < 30) (ik : sI s k) (hQ : Q (nI (fb_ct (pcc s k 5) 30)) μ) : ix_countCovering (4 + k) μ Q := by
  refine up_0 (fun n c a => ix_countCovering_L4 (4 + k) Q n a c μ) (fun j => nI (fb_ct (pcc s k 5) j)) 30 (fun n => ⟨fun z => absurd z pl_nlt, fun _ => hQ⟩) (fun n j hj ih => ?_)
  refine ⟨fun _ => ⟨pl_in hj, ?_⟩, fun z => absurd (pl_lt hj) z⟩
  rw [pl_cl hj, (h j hj).2.1, pl_bz, pl_inc]
  refine pl_bb (fun ij v hv => ?_) (fun ij => ⟨pl_in hj, ?_⟩)
  · rw [ct_n (p := pcc s k 5) (decide_eq_false (fun z => ij z.1))] at ih
    rw [hv, Int32.add_zero]
    exact ih
  · rw [sp_covers_i h ok hj hk ij ik]
    refine pl_bb (fun c v hv => ?_) (fun c v hv => ?_)
    · rw [ct_n (p := pcc s k 5) (decide_eq_false c)] at ih
      rw [hv, Int32.add_zero]
      exact ih
    · rw [ct_y (p := pcc s k 5) (decide_eq_true c)] at ih
      rw [hv, pl_inc]
      exact ih
theorem ix_countCovered_s (h : CR 4 μ s) (ok : sOK s) {k : Nat} (hk : k < 30) (ik : sI s k) (hQ : Q (nI (fb_ct (pcc s k 6) 30)) μ) : ix_countCovered (4 + k) μ Q := by
  refine up_0 (fun n c a => ix_countCovered_L4 (4 + k) Q n a c μ) (fun j => nI (fb_ct (pcc s k 6) j)) 30 (fun n => ⟨fun z => absurd z pl_nlt, fun _ => hQ⟩) (fun n j hj ih => ?_)
  refine ⟨fun _ => ⟨pl_in hj, ?_⟩, fun z => absurd (pl_lt hj) z⟩
  rw [pl_cl hj, (h j hj).2.1, pl_bz, pl_inc]
  refine pl_bb (fun ij v hv => ?_) (fun ij => ⟨pl_in hj, ?_⟩)
  · rw [ct_n (p := pcc s k 6) (decide_eq_false (fun z => ij z.2.1))] at ih
    rw [hv, Int32.add_zero]
    exact ih
  · rw [sp_covers_i h ok hk hj ik ij]
    refine pl_bb (fun c v hv => ?_) (fun c v hv => ?_)
    · rw [ct_n (p := pcc s k 6) (decide_eq_false c)] at ih
      rw [hv, Int32.add_zero]
      exact ih
    · rw [ct_y (p := pcc s k 6) (decide_eq_true c)] at ih
      rw [hv, pl_inc]
      exact ih
theorem mo_meets_o (h : MR μ s) {a b : Nat} (ha : a < 30) (ia : ¬ sI s a) : mo_meets (nI a) (nI b) μ Q ↔ Q 0 μ := by
  unfold mo_meets
  rw [pl_cl ha, (h a ha).1, pl_b1]
  constructor
  · intro z
    exact (z.2.2 ia).2
  · intro z
    exact ⟨pl_in ha, fun y => absurd y ia, fun _ => ⟨rfl, z⟩⟩
theorem cB66 {a1 a2 x3 x4 x5 : Int32} {k5 : Int32 → Int32 → sl_M → Prop} (h0 : x5 = 0 → k5 x3 (x4 + 1) μ) (h1 : x5 ≠ 0 → k5 (x3 + 1) (x4 + 1) μ) : mo_countOf_B66 a1 a2 Q k5 x3 x4 x5 μ := by
  refine ⟨fun z v hv => ?_, fun z v hv => ?_⟩
  · rw [hv, Int32.add_zero]
    exact h0 z
  · rw [hv]
    exact h1 z
theorem mo_countOf_s (h : MR μ s) (ok : sOK s) {k : Nat} (hk : k < 30) (ik : sI s k) {w : Nat} (hw : w < 8) (h5 : 5 ≤ w) (hQ : Q (nI (fb_ct (pcc s k w) 30)) μ) : mo_countOf (nI k) (nI w) μ Q := by
  refine up_0 (fun n c a => mo_countOf_L5 (nI k) (nI w) Q n a c μ) (fun j => nI (fb_ct (pcc s k w) j)) 30 (fun n => ⟨fun z => absurd z pl_nlt, fun _ => hQ⟩) (fun n j hj ih => ?_)
  have hy : pcc s k w j = true → mo_countOf_L5 (nI k) (nI w) Q n (nI (fb_ct (pcc s k w) j) + 1) (nI j + 1) μ := fun c => by
    rw [ct_y (p := pcc s k w) c] at ih
    rw [pl_inc, pl_inc]
    exact ih
  have hn : pcc s k w j = false → mo_countOf_L5 (nI k) (nI w) Q n (nI (fb_ct (pcc s k w) j)) (nI j + 1) μ := fun c => by
    rw [ct_n (p := pcc s k w) c] at ih
    rw [pl_inc]
    exact ih
  have hb : ∀ (c : Prop) [Decidable c], pcc s k w j = decide c → mo_countOf_B66 (nI k) (nI w) Q (mo_countOf_L5 (nI k) (nI w) Q n) (nI (fb_ct (pcc s k w) j)) (nI j) (pl_b c) μ := fun c _ e => by
    refine cB66 (fun z => hn ?_) (fun z => hy ?_)
    · rw [e]
      exact decide_eq_false (pl_b0.mp z)
    · rw [e]
      exact decide_eq_true (Classical.byContradiction fun q => z (pl_b0.mpr q))
  have e5 : nI w = 5 ↔ w = 5 := nI_eq (b := 5) (by omega) (by omega)
  have e6 : nI w = 6 ↔ w = 6 := nI_eq (b := 6) (by omega) (by omega)
  have ek : nI j = nI k ↔ j = k := nI_eq (by omega) (by omega)
  refine ⟨fun _ => ?_, fun z => absurd (pl_lt hj) z⟩
  rw [e5, e6, ek]
  refine ⟨fun c => ?_, fun c => ⟨fun d => ?_, fun d => ⟨fun e => ?_, fun e => ?_⟩⟩⟩
  · rw [mo_covers_i h ok hj hk]
    exact hb _ (by subst c; rfl)
  · rw [mo_covers_i h ok hk hj]
    exact hb _ (by subst d; rfl)
  · have := hb False (by simp [c, d, e])
    rw [pl_bf (fun z : False => z)] at this
    exact this
  · by_cases ij : sI s j
    · rw [mo_meets_i h ok hj hk ij ik]
      refine pl_bb (fun f => ?_) (fun f => ?_)
      · have := hb False (by
          unfold pcc
          rw [if_neg c, if_neg d]
          exact decide_eq_decide.mpr ⟨fun z => f (by have := of_decide_eq_true z.2; omega), fun z => z.elim⟩)
        rw [pl_bf (fun z : False => z)] at this
        exact this
      · have := hb True (by
          unfold pcc
          rw [if_neg c, if_neg d]
          exact decide_eq_decide.mpr ⟨fun z => trivial, fun z => ⟨e, decide_eq_true ⟨ij, f.1, f.2⟩⟩⟩)
        rw [pl_bt trivial] at this
        exact this
    · rw [mo_meets_o h hj ij]
      have := hb False (by
        unfold pcc
        rw [if_neg c, if_neg d]
        exact decide_eq_decide.mpr ⟨fun z => ij (of_decide_eq_true z.2).1, fun z => z.elim⟩)
      rw [pl_bf (fun z : False => z)] at this
      exact ⟨fun _ => this, fun z => absurd rfl z⟩
theorem ct_others {k : Nat} (ok : sOK s) (hk : k < 30) (ik : sI s k) : fb_ct (mt s (sL s k) (sH s k)) 30 = fb_ct (pcc s k 7) 30 + 1 := by
  have h := fb_ct_upd (mt s (sL s k) (sH s k)) false (i := k) (n := 30) hk
  have o := ok k hk ik
  have hm : mt s (sL s k) (sH s k) k = true := decide_eq_true ⟨ik, by omega, by omega⟩
  rw [hm, if_pos rfl, if_neg (by decide)] at h
  have e : fb_ct (fun j => if j = k then false else mt s (sL s k) (sH s k) j) 30 = fb_ct (pcc s k 7) 30 := fb_ct_cong (fun j _ => by
    show (if j = k then false else mt s (sL s k) (sH s k) j) = decide (j ≠ k ∧ mt s (sL s k) (sH s k) j = true)
    by_cases c : j = k
    · simp [c]
    · rw [if_neg c]
      by_cases d : mt s (sL s k) (sH s k) j = true
      · rw [d]
        simp [c]
      · have d' : mt s (sL s k) (sH s k) j = false := by simpa using d
        rw [d']
        simp)
  rw [e] at h
  omega
def ofv (s : SS) (k w : Nat) : Int32 := if w = 0 then i3 (sL s k) else if w = 1 then i3 (sH s k) else if w = 2 then i3 (sW s k) else if w = 3 then wL s k else if w = 4 then nI (ly s k) else nI (fb_ct (pcc s k w) 30)
theorem w8 {w : Nat} (h : w < 8) : w = 0 ∨ w = 1 ∨ w = 2 ∨ w = 3 ∨ w = 4 ∨ w = 5 ∨ w = 6 ∨ w = 7 := by omega
theorem op_of (a1 a2 : Int32) : Opp (sx_of a1 a2) (mo_of a1 a2) := by
  rintro μ ⟨⟨s, ci, mr⟩, ri⟩
  by_cases h1 : 0 ≤ a1 ∧ a1 < 30
  · by_cases h2 : 0 ≤ a2 ∧ a2 < 8
    · obtain ⟨k, hk, rfl⟩ := pl_30 h1
      obtain ⟨w, hw, rfl⟩ := pl_of (y := 8) (N := 8) rfl (by decide) h2
      by_cases ik : sI s k
      · refine op2 (v := ofv s k w) (s' := s) ci mr ri (fun Q hQ => ?_) (fun μ1 mr1 Q hQ => ?_)
        · have hQ := hQ _ Fr.rfl' ci
          obtain ⟨d0, d1, d2, d3, d4⟩ := ci.2.1 k hk
          unfold sx_of
          rw [sx_isBelow_i]
          refine pl_bb (fun z => absurd h1 z) (fun _ => ?_)
          rw [sx_isBelow_i]
          refine pl_bb (fun z => absurd h2 z) (fun _ => ?_)
          rw [ix_isIn_i ci.2.1 hk]
          refine pl_bb (fun z => absurd ik z) (fun _ => ⟨pl_in hk, ?_⟩)
          rw [pl_cl hk]
          unfold ix_factOf
          rw [d2, d3, d4]
          rcases w8 hw with rfl | rfl | rfl | rfl | rfl | rfl | rfl | rfl
          · exact ⟨fun _ => hQ, fun z => absurd rfl z⟩
          · exact ⟨fun z => absurd z (by decide), fun _ => ⟨fun _ => hQ, fun z => absurd rfl z⟩⟩
          · exact ⟨fun z => absurd z (by decide), fun _ => ⟨fun z => absurd z (by decide), fun _ => ⟨fun _ => hQ, fun z => absurd rfl z⟩⟩⟩
          · exact ⟨fun z => absurd z (by decide), fun _ => ⟨fun z => absurd z (by decide), fun _ => ⟨fun z => absurd z (by decide), fun _ => ⟨fun _ => by unfold sp_length; rw [d2, d3]; exact hQ, fun z => absurd rfl z⟩⟩⟩⟩
          · exact ⟨fun z => absurd z (by decide), fun _ => ⟨fun z => absurd z (by decide), fun _ => ⟨fun z => absurd z (by decide), fun _ => ⟨fun z => absurd z (by decide), fun _ => ⟨fun _ => by rw [ci.2.2.1 k hk ik]; exact hQ, fun z => absurd rfl z⟩⟩⟩⟩⟩
          · exact ⟨fun z => absurd z (by decide), fun _ => ⟨fun z => absurd z (by decide), fun _ => ⟨fun z => absurd z (by decide), fun _ => ⟨fun z => absurd z (by decide), fun _ => ⟨fun z => absurd z (by decide), fun _ => ⟨fun _ => ix_countCovering_s ci.2.1 ci.1 hk ik hQ, fun z => absurd rfl z⟩⟩⟩⟩⟩⟩
          · exact ⟨fun z => absurd z (by decide), fun _ => ⟨fun z => absurd z (by decide), fun _ => ⟨fun z => absurd z (by decide), fun _ => ⟨fun z => absurd z (by decide), fun _ => ⟨fun z => absurd z (by decide), fun _ => ⟨fun z => absurd z (by decide), fun _ => ⟨fun _ => ix_countCovered_s ci.2.1 ci.1 hk ik hQ, fun z => absurd rfl z⟩⟩⟩⟩⟩⟩⟩
          · refine ⟨fun z => absurd z (by decide), fun _ => ⟨fun z => absurd z (by decide), fun _ => ⟨fun z => absurd z (by decide), fun _ => ⟨fun z => absurd z (by decide), fun _ => ⟨fun z => absurd z (by decide), fun _ => ⟨fun z => absurd z (by decide), fun _ => ⟨fun z => absurd z (by decide), fun _ => ix_bitsMeeting_s ci.2.1 ci.1 (ci.1.B hk ik).1 (ci.1.B hk ik).2.1 (it_bitCount_s ?_)⟩⟩⟩⟩⟩⟩⟩
            rw [ct_others ci.1 hk ik, nI_sub1 (by omega)]
            exact hQ
        · unfold mo_of
          rintro m1 rfl
          rw [mo_isSpan_k]
          refine pl_bb (fun z => absurd h1 z) (fun _ => ?_)
          rw [mo_in_0, pl_bcong pl_le7]
          refine pl_bb (fun z => absurd h2 z) (fun _ => ⟨pl_in hk, ?_⟩)
          rw [pl_cl hk, (mr1.th k hk).1]
          refine pl_bb (fun z => absurd ik z) (fun _ => ?_)
          refine mo_layLayers_s mr1.th ci.1 (fun m hf hl => ?_)
          have hM := mr1.th.f9 hf
          have hQ := hQ m (Fr.th.tr hf.f9N) hM
          obtain ⟨d1, d2, d3, d4⟩ := hM k hk
          rw [d2, d3, d4, hl k hk]
          rcases w8 hw with rfl | rfl | rfl | rfl | rfl | rfl | rfl | rfl
          · exact ⟨fun _ => ⟨pl_in hk, hQ⟩, fun z => absurd rfl z⟩
          · exact ⟨fun z => absurd z (by decide), fun _ => ⟨fun _ => ⟨pl_in hk, hQ⟩, fun z => absurd rfl z⟩⟩
          · exact ⟨fun z => absurd z (by decide), fun _ => ⟨fun z => absurd z (by decide), fun _ => ⟨fun _ => ⟨pl_in hk, hQ⟩, fun z => absurd rfl z⟩⟩⟩
          · exact ⟨fun z => absurd z (by decide), fun _ => ⟨fun z => absurd z (by decide), fun _ => ⟨fun z => absurd z (by decide), fun _ => ⟨fun _ => by unfold mo_lengthOf; rw [pl_cl hk, d2, d3]; exact ⟨pl_in hk, pl_in hk, hQ⟩, fun z => absurd rfl z⟩⟩⟩⟩
          · exact ⟨fun z => absurd z (by decide), fun _ => ⟨fun z => absurd z (by decide), fun _ => ⟨fun z => absurd z (by decide), fun _ => ⟨fun z => absurd z (by decide), fun _ => ⟨fun _ => ⟨pl_in hk, hQ⟩, fun z => absurd rfl z⟩⟩⟩⟩⟩
          · exact ⟨fun z => absurd z (by decide), fun _ => ⟨fun z => absurd z (by decide), fun _ => ⟨fun z => absurd z (by decide), fun _ => ⟨fun z => absurd z (by decide), fun _ => ⟨fun z => absurd z (by decide), fun _ => mo_countOf_s hM ci.1 hk ik (by omega) (by omega) hQ⟩⟩⟩⟩⟩
          · exact ⟨fun z => absurd z (by decide), fun _ => ⟨fun z => absurd z (by decide), fun _ => ⟨fun z => absurd z (by decide), fun _ => ⟨fun z => absurd z (by decide), fun _ => ⟨fun z => absurd z (by decide), fun _ => mo_countOf_s hM ci.1 hk ik (by omega) (by omega) hQ⟩⟩⟩⟩⟩
          · exact ⟨fun z => absurd z (by decide), fun _ => ⟨fun z => absurd z (by decide), fun _ => ⟨fun z => absurd z (by decide), fun _ => ⟨fun z => absurd z (by decide), fun _ => ⟨fun z => absurd z (by decide), fun _ => mo_countOf_s hM ci.1 hk ik (by omega) (by omega) hQ⟩⟩⟩⟩⟩
      · refine op2 (v := -3) (s' := s) ci mr ri (fun Q hQ => ?_) (fun μ1 mr1 Q hQ => ?_)
        · unfold sx_of
          rw [sx_isBelow_i]
          refine pl_bb (fun z => absurd h1 z) (fun _ => ?_)
          rw [sx_isBelow_i]
          refine pl_bb (fun z => absurd h2 z) (fun _ => ?_)
          rw [ix_isIn_i ci.2.1 hk]
          exact pl_bb (fun _ => hQ _ Fr.rfl' ci) (fun z => absurd z ik)
        · unfold mo_of
          rintro m1 rfl
          rw [mo_isSpan_k]
          refine pl_bb (fun z => absurd h1 z) (fun _ => ?_)
          rw [mo_in_0, pl_bcong pl_le7]
          refine pl_bb (fun z => absurd h2 z) (fun _ => ⟨pl_in hk, ?_⟩)
          rw [pl_cl hk, (mr1.th k hk).1]
          exact pl_bb (fun _ => hQ _ Fr.th mr1.th) (fun z => absurd z ik)
    · refine op2 (v := -1) (s' := s) ci mr ri (fun Q hQ => ?_) (fun μ1 mr1 Q hQ => ?_)
      · unfold sx_of
        rw [sx_isBelow_i]
        refine pl_bb (fun z => absurd h1 z) (fun _ => ?_)
        rw [sx_isBelow_i]
        exact pl_bb (fun _ => hQ _ Fr.rfl' ci) (fun z => absurd z h2)
      · unfold mo_of
        rintro m1 rfl
        rw [mo_isSpan_k]
        refine pl_bb (fun z => absurd h1 z) (fun _ => ?_)
        rw [mo_in_0, pl_bcong pl_le7]
        exact pl_bb (fun _ => hQ _ Fr.th mr1.th) (fun z => absurd z h2)
  · refine op2 (v := -1) (s' := s) ci mr ri (fun Q hQ => ?_) (fun μ1 mr1 Q hQ => ?_)
    · unfold sx_of
      rw [sx_isBelow_i]
      exact pl_bb (fun _ => hQ _ Fr.rfl' ci) (fun z => absurd z h1)
    · unfold mo_of
      rintro m1 rfl
      rw [mo_isSpan_k]
      exact pl_bb (fun _ => hQ _ Fr.th mr1.th) (fun z => absurd z h1)
end OF
