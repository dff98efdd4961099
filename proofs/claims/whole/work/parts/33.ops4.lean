/-! bits of those that meet, of a layer; orders -/
theorem pl_le0 {x : Int32} : (0 ≤ x ∧ x ≤ 0) ↔ (0 ≤ x ∧ x < 1) := by
  rw [fa_le, fa_le, fa_lt, show (0 : Int32).toInt = 0 from rfl, show (1 : Int32).toInt = 1 from rfl]
  omega
theorem pl_le1 {x : Int32} : (0 ≤ x ∧ x ≤ 1) ↔ (0 ≤ x ∧ x < 2) := by
  rw [fa_le, fa_le, fa_lt, show (1 : Int32).toInt = 1 from rfl, show (2 : Int32).toInt = 2 from rfl]
  omega
theorem pl_le2 {x : Int32} : (0 ≤ x ∧ x ≤ 2) ↔ (0 ≤ x ∧ x < 3) := by
  rw [fa_le, fa_le, fa_lt, show (2 : Int32).toInt = 2 from rfl, show (3 : Int32).toInt = 3 from rfl]
  omega
theorem pl_le3 {x : Int32} : (0 ≤ x ∧ x ≤ 3) ↔ (0 ≤ x ∧ x < 4) := by
  rw [fa_le, fa_le, fa_lt, show (3 : Int32).toInt = 3 from rfl, show (4 : Int32).toInt = 4 from rfl]
  omega
theorem pl_le4 {x : Int32} : (0 ≤ x ∧ x ≤ 4) ↔ (0 ≤ x ∧ x < 5) := by
  rw [fa_le, fa_le, fa_lt, show (4 : Int32).toInt = 4 from rfl, show (5 : Int32).toInt = 5 from rfl]
  omega
theorem pl_le5 {x : Int32} : (0 ≤ x ∧ x ≤ 5) ↔ (0 ≤ x ∧ x < 6) := by
  rw [fa_le, fa_le, fa_lt, show (5 : Int32).toInt = 5 from rfl, show (6 : Int32).toInt = 6 from rfl]
  omega
theorem pl_le7 {x : Int32} : (0 ≤ x ∧ x ≤ 7) ↔ (0 ≤ x ∧ x < 8) := by
  rw [fa_le, fa_le, fa_lt, show (7 : Int32).toInt = 7 from rfl, show (8 : Int32).toInt = 8 from rfl]
  omega
theorem pl_le999 {x : Int32} : (0 ≤ x ∧ x ≤ 999) ↔ (0 ≤ x ∧ x < 1000) := by
  rw [fa_le, fa_le, fa_lt, show (999 : Int32).toInt = 999 from rfl, show (1000 : Int32).toInt = 1000 from rfl]
  omega
theorem b_or0 (x : Int32) : x ||| 0 = x := b_ext (fun i _ => by rw [b_or, b_0, Bool.or_false])
abbrev mt (s : SS) (x y : Int) (k : Nat) : Bool := decide (sI s k ∧ sL s k ≤ y ∧ x ≤ sH s k)
abbrev lyk (s : SS) (a : Int32) (k : Nat) : Bool := decide (sI s k ∧ nI (ly s k) = a)
section O4
variable {μ : sl_M} {s : SS} {Q : Int32 → sl_M → Prop} {P : sl_M → Prop}
theorem mo_in_0 {x : Int32} {c : Int32} : mo_in x.toInt64 ((0 : Int32).toInt64) (c.toInt64) μ Q ↔ Q (pl_b (0 ≤ x ∧ x ≤ c)) μ := mo_in_i
theorem sp_meets_i (h : CR 4 μ s) (ok : sOK s) {k : Nat} (hk : k < 30) (ik : sI s k) {x y : Int} (bx : i3B x) (hy : i3B y) : sp_meets (4 + k) (i3 x) (i3 y) μ Q ↔ Q (pl_b (sL s k ≤ y ∧ x ≤ sH s k)) μ := by
  obtain ⟨a0, a1, a2, a3, a4⟩ := h k hk
  have B := ok.B hk ik
  unfold sp_meets
  simp only [a2, a3, i3_le B.1 hy, i3_le bx B.2.1, pl_bz0, pl_bz1, true_and, wi Q]
  unfold pl_b
  by_cases c1 : sL s k ≤ y <;> by_cases c2 : x ≤ sH s k <;> simp [c1, c2]
theorem ix_bitsMeeting_s (h : CR 4 μ s) (ok : sOK s) {x y : Int} (bx : i3B x) (hy : i3B y) (hQ : Q (bs (mt s x y) 30) μ) : ix_bitsMeeting (i3 x) (i3 y) μ Q := by
  refine up_0 (fun n c a => ix_bitsMeeting_L5 (i3 x) (i3 y) Q n a c μ) (fun k => bs (mt s x y) k) 30 (fun n => ⟨fun z => absurd z pl_nlt, fun _ => hQ⟩) (fun n k hk ih => ?_)
  refine ⟨fun _ => ⟨pl_in hk, ?_⟩, fun z => absurd (pl_lt hk) z⟩
  rw [pl_cl hk, (h k hk).2.1, pl_bz]
  refine pl_bb (fun hi => ?_) (fun hi => ⟨pl_in hk, ?_⟩)
  · rw [bs_no (decide_eq_false (fun z => hi z.1))] at ih
    rw [pl_inc]
    exact ih
  · rw [sp_meets_i h ok hk hi bx hy]
    refine pl_bb (fun hm => ?_) (fun hm v hv => ?_)
    · rw [bs_no (decide_eq_false (fun z => hm z.2))] at ih
      rw [pl_inc]
      exact ih
    · rw [bs_yes (decide_eq_true ⟨hi, hm⟩), ← hv] at ih
      rw [pl_inc]
      exact ih
theorem mo_metBits_s (h : MR μ s) (ok : sOK s) {x y : Int} (bx : i3B x) (hy : i3B y) (hQ : Q (bs (mt s x y) 30) μ) : mo_metBits (i3 x) (i3 y) μ Q := by
  refine up_0 (fun n c a => mo_metBits_L5 (i3 x) (i3 y) Q n a c μ) (fun k => bs (mt s x y) k) 30 (fun n => ⟨fun z => absurd z pl_nlt, fun _ => hQ⟩) (fun n k hk ih => ?_)
  refine ⟨fun _ => ⟨pl_in hk, ?_⟩, fun z => absurd (pl_lt hk) z⟩
  obtain ⟨a1, a2, a3, a4⟩ := h k hk
  rw [pl_cl hk, a1, a2, a3, pl_b1, pl_inc]
  refine ⟨fun hi => ⟨pl_in hk, ?_⟩, fun hi v hv => ?_⟩
  · have B := ok.B hk hi
    rw [i3_le B.1 hy, i3_lt B.2.1 bx]
    refine ⟨fun c1 => ⟨pl_in hk, fun c2 v hv => ?_, fun c2 v hv => ?_⟩, fun c1 v hv => ?_⟩
    · rw [bs_no (decide_eq_false (fun z => by omega))] at ih
      rw [hv, b_or0]
      exact ih
    · rw [bs_yes (decide_eq_true ⟨hi, c1, by omega⟩), ← hv] at ih
      exact ih
    · rw [bs_no (decide_eq_false (fun z => by omega))] at ih
      rw [hv, b_or0]
      exact ih
  · rw [bs_no (decide_eq_false (fun z => hi z.1))] at ih
    rw [hv, b_or0]
    exact ih
theorem op_stab (a1 : Int32) : Opp (sx_stab a1) (mo_stab a1) := by
  rintro μ ⟨⟨s, ci, mr⟩, ri⟩
  obtain ⟨x, bx, rfl⟩ := pl_int a1
  refine op2 (v := if 0 ≤ i3 x ∧ i3 x < 1000 then bs (mt s x x) 30 else -2) (s' := s) ci mr ri (fun Q hQ => ?_) (fun μ1 mr1 Q hQ => ?_)
  · have hQ := hQ _ Fr.rfl' ci
    unfold sx_stab
    rw [sx_isPlace_i]
    refine pl_bb (fun c => ?_) (fun c => ?_)
    · rw [if_neg c] at hQ
      exact hQ
    · rw [if_pos c] at hQ
      exact ix_bitsMeeting_s ci.2.1 ci.1 bx bx hQ
  · have hQ := hQ _ Fr.th mr1.th
    unfold mo_stab
    rintro m1 rfl
    rw [mo_in_0, pl_bcong pl_le999]
    refine pl_bb (fun c => ?_) (fun c => ?_)
    · rw [if_neg c] at hQ
      exact hQ
    · rw [if_pos c] at hQ
      exact mo_metBits_s mr1.th ci.1 bx bx hQ
theorem op_meet (a1 a2 : Int32) : Opp (sx_meet a1 a2) (mo_meet a1 a2) := by
  rintro μ ⟨⟨s, ci, mr⟩, ri⟩
  obtain ⟨x, bx, rfl⟩ := pl_int a1
  obtain ⟨y, hy, rfl⟩ := pl_int a2
  have e := vS_m (w := 0) bx hy (pl_B (by omega) (by omega))
  have e2 := vS_c (w := 0) bx hy (pl_B (by omega) (by omega))
  have z0 : (0 : Int32) = i3 0 := rfl
  have t : -99 ≤ i3 0 ∧ i3 0 ≤ 99 := by decide
  by_cases hv : vS x y 0
  · refine op2 (v := bs (mt s x y) 30) (s' := s) ci mr ri (fun Q hQ => ?_) (fun μ1 mr1 Q hQ => ?_)
    · unfold sx_meet
      rw [sx_isRun_i]
      refine pl_bb (fun c => absurd (e2.mpr hv).1 c) (fun _ => ix_bitsMeeting_s ci.2.1 ci.1 bx hy (hQ _ Fr.rfl' ci))
    · unfold mo_meet
      rintro m1 rfl
      rw [mo_isBad_i]
      refine pl_bb (fun _ => mo_metBits_s mr1.th ci.1 bx hy (hQ _ Fr.th mr1.th)) (fun c => absurd (e.mpr hv) c)
  · refine op2 (v := -2) (s' := s) ci mr ri (fun Q hQ => ?_) (fun μ1 mr1 Q hQ => ?_)
    · unfold sx_meet
      rw [sx_isRun_i]
      exact pl_bb (fun _ => hQ _ Fr.rfl' ci) (fun c => absurd (e2.mp ⟨c, t⟩) hv)
    · unfold mo_meet
      rintro m1 rfl
      rw [mo_isBad_i]
      exact pl_bb (fun c => absurd (e.mp (Classical.byContradiction c)) hv) (fun _ => hQ _ Fr.th mr1.th)
theorem ix_bitsOfLayer_s (h : CInv s μ) {a : Int32} (hQ : Q (bs (lyk s a) 30) μ) : ix_bitsOfLayer a μ Q := by
  refine up_0 (fun n c x => ix_bitsOfLayer_L4 a Q n x c μ) (fun k => bs (lyk s a) k) 30 (fun n => ⟨fun z => absurd z pl_nlt, fun _ => hQ⟩) (fun n k hk ih => ?_)
  refine ⟨fun _ => ⟨pl_in hk, ?_⟩, fun z => absurd (pl_lt hk) z⟩
  rw [pl_cl hk, (h.2.1 k hk).2.1, pl_bz, pl_inc]
  refine pl_bb (fun hi => ?_) (fun hi => ⟨pl_in hk, ?_⟩)
  · rw [bs_no (decide_eq_false (fun z => hi z.1))] at ih
    exact ih
  · rw [h.2.2.1 k hk hi]
    refine ⟨fun c v hv => ?_, fun c => ?_⟩
    · rw [bs_yes (decide_eq_true ⟨hi, c⟩), ← hv] at ih
      exact ih
    · rw [bs_no (decide_eq_false (fun z => c z.2))] at ih
      exact ih
theorem mo_layer_s (h : MR μ s) (hl : ∀ k, k < 30 → μ 109 k = nI (ly s k)) {a : Int32} (hQ : Q (bs (lyk s a) 30) μ) : ∃ n, mo_layer_L19 a Q n 0 0 μ := by
  refine up_0 (fun n c x => mo_layer_L19 a Q n x c μ) (fun k => bs (lyk s a) k) 30 (fun n => ⟨fun z => absurd z pl_nlt, fun _ => hQ⟩) (fun n k hk ih => ?_)
  refine ⟨fun _ => ⟨pl_in hk, ?_⟩, fun z => absurd (pl_lt hk) z⟩
  rw [pl_cl hk, (h k hk).1, hl k hk, pl_b1, pl_inc]
  refine ⟨fun hi => ⟨pl_in hk, fun c v hv => ?_, fun c v hv => ?_⟩, fun hi v hv => ?_⟩
  · rw [bs_yes (decide_eq_true ⟨hi, c⟩), ← hv] at ih
    exact ih
  · rw [bs_no (decide_eq_false (fun z => c z.2))] at ih
    rw [hv, b_or0]
    exact ih
  · rw [bs_no (decide_eq_false (fun z => hi z.1))] at ih
    rw [hv, b_or0]
    exact ih
theorem Fr.f9N {a b : sl_M} (h : Fr f9 a b) : Fr fN a b := h.mono (fun o k z => by omega)
theorem Fr.f10N {a b : sl_M} (h : Fr f10 a b) : Fr fN a b := h.mono (fun o k z => by omega)
theorem Fr.f3C {a b : sl_M} (h : Fr f3 a b) : Fr fC a b := h.mono (fun o k z => by omega)
theorem MR.f10 {a b : sl_M} (h : MR a s) (hf : Fr f10 a b) : MR b s := h.fr hf (fun o k h1 h2 z => by omega)
theorem MR.f9 {a b : sl_M} (h : MR a s) (hf : Fr f9 a b) : MR b s := h.fr hf (fun o k h1 h2 z => by omega)
theorem op_layer (a1 : Int32) : Opp (sx_layer a1) (mo_layer a1) := by
  rintro μ ⟨⟨s, ci, mr⟩, ri⟩
  by_cases c : a1 < 0
  · refine op2 (v := -1) (s' := s) ci mr ri (fun Q hQ => ?_) (fun μ1 mr1 Q hQ => ?_)
    · exact ⟨fun _ => hQ _ Fr.rfl' ci, fun z => absurd c z⟩
    · rintro m1 rfl
      exact ⟨fun _ => hQ _ Fr.th mr1.th, fun z => absurd c z⟩
  · refine op2 (v := bs (lyk s a1) 30) (s' := s) ci mr ri (fun Q hQ => ?_) (fun μ1 mr1 Q hQ => ?_)
    · exact ⟨fun z => absurd z c, fun _ => ix_bitsOfLayer_s ci (hQ _ Fr.rfl' ci)⟩
    · rintro m1 rfl
      refine ⟨fun z => absurd z c, fun _ => ?_⟩
      exact mo_layLayers_s mr1.th ci.1 (fun m hf hl => mo_layer_s (mr1.th.f9 hf) hl (hQ _ (Fr.th.tr hf.f9N) (mr1.th.f9 hf)))
/-- the class's sort between calls -/
theorem ix_sort_c (h : CInv s μ) {q : Int} (hq : 0 ≤ q ∧ q ≤ 4) (hQ : ∀ μ', Fr fC μ μ' → CInv s μ' → (∀ i, i < sN s → μ' 3 i = nI (4 + en s (yl s) q i)) → Q (nI (sN s)) μ') : ix_sortBy (i3 q) μ Q := by
  obtain ⟨h1, h2, h3, h4, h5⟩ := h
  refine ix_sortBy_s (y := yl s) h2 h1 (fun k hk ik => by rw [h3 k hk ik, i3_n]) (yB_ly s) h5 hq (fun m hf so ho => hQ m hf.f3C ⟨h1, h2.fr hf (fun k j hk _ z => by omega), fun k hk ik => ?_, fun k hk => ?_, so⟩ ho)
  · rw [hf _ _ (show ¬ (4 + k = 3) by omega)]
    exact h3 k hk ik
  · rw [hf _ _ (show ¬ (4 + k = 3) by omega)]
    exact h4 k hk
theorem pl_ord {x : Int32} (h : 0 ≤ x ∧ x < 5) : ∃ q : Int, (0 ≤ q ∧ q ≤ 4) ∧ x = i3 q := by
  obtain ⟨k, hk, rfl⟩ := pl_of (y := 5) (N := 5) rfl (by decide) h
  exact ⟨(k : Int), by omega, i3_n k⟩
theorem op_nth (a1 a2 : Int32) : Opp (sx_nth a1 a2) (mo_nth a1 a2) := by
  rintro μ ⟨⟨s, ci, mr⟩, ri⟩
  by_cases h1 : 0 ≤ a1 ∧ a1 < 5
  · by_cases h2 : a2 < 0
    · refine op2 (v := -1) (s' := s) ci mr ri (fun Q hQ => ?_) (fun μ1 mr1 Q hQ => ?_)
      · unfold sx_nth
        rw [sx_isBelow_i]
        exact pl_bb (fun z => absurd h1 z) (fun _ => ⟨fun _ => hQ _ Fr.rfl' ci, fun z => absurd h2 z⟩)
      · unfold mo_nth
        rintro m1 rfl
        rw [mo_in_0, pl_bcong pl_le4]
        exact pl_bb (fun z => absurd h1 z) (fun _ => ⟨fun _ => hQ _ Fr.th mr1.th, fun z => absurd h2 z⟩)
    · obtain ⟨q, hq, rfl⟩ := pl_ord h1
      obtain ⟨i, hi, rfl⟩ := nI_of h2
      have n30 := sN_le s
      refine op2 (v := if i < sN s then nI (en s (yl s) q i) else -5) (s' := s) ci mr ri (fun Q hQ => ?_) (fun μ1 mr1 Q hQ => ?_)
      · unfold sx_nth
        rw [sx_isBelow_i]
        refine pl_bb (fun z => absurd h1 z) (fun _ => ⟨fun z => absurd z h2, fun _ => ?_⟩)
        refine ix_sort_c ci hq (fun m hf c ho => ?_)
        have hQ := hQ m hf c
        rw [nI_ltI hi (by omega)]
        refine ⟨fun hlt => ?_, fun hlt => ?_⟩
        · rw [if_pos hlt] at hQ
          have e := en_ok (s := s) (y := yl s) (q := q) hlt
          rw [nI_clamp hi, ho i hlt, cl4 e.1, (c.2.1 _ e.1).1]
          exact ⟨pl_in (by omega), kd9 _ e.1, hQ⟩
        · rw [if_neg hlt] at hQ
          exact hQ
      · unfold mo_nth
        rintro m1 rfl
        rw [mo_in_0, pl_bcong pl_le4]
        refine pl_bb (fun z => absurd h1 z) (fun _ => ⟨fun z => absurd z h2, fun _ => ?_⟩)
        refine mo_layOrder_s mr1.th ci.1 hq (fun m hf hl ho => mo_manyIn_s (mr1.th.f10 hf) ?_)
        have hQ := hQ m (Fr.th.tr hf.f10N) (mr1.th.f10 hf)
        rw [nI_ltI hi (by omega)]
        refine ⟨fun hlt => ?_, fun hlt => ?_⟩
        · rw [if_pos hlt] at hQ
          rw [nI_clamp hi, ho i hlt]
          exact ⟨pl_in (by omega), hQ⟩
        · rw [if_neg hlt] at hQ
          exact hQ
  · refine op2 (v := -1) (s' := s) ci mr ri (fun Q hQ => ?_) (fun μ1 mr1 Q hQ => ?_)
    · unfold sx_nth
      rw [sx_isBelow_i]
      exact pl_bb (fun _ => hQ _ Fr.rfl' ci) (fun z => absurd z h1)
    · unfold mo_nth
      rintro m1 rfl
      rw [mo_in_0, pl_bcong pl_le4]
      exact pl_bb (fun _ => hQ _ Fr.th mr1.th) (fun z => absurd z h1)
theorem ix_countAhead_s (h : CInv s μ) {q : Int} (hq : 0 ≤ q ∧ q ≤ 4) {k : Nat} (hk : k < 30) (ik : sI s k) (hQ : Q (nI (rq s (yl s) q 30 k)) μ) : ix_countAhead (i3 q) (4 + k) μ Q := by
  refine up_0 (fun n c x => ix_countAhead_L5 (i3 q) (4 + k) Q n x c μ) (fun j => nI (rq s (yl s) q j k)) 30 (fun n => ⟨fun z => absurd z pl_nlt, fun _ => hQ⟩) (fun n j hj ih => ?_)
  refine ⟨fun _ => ⟨pl_in hj, ?_⟩, fun z => absurd (pl_lt hj) z⟩
  rw [pl_cl hj, (h.2.1 j hj).2.1, pl_bz, pl_inc]
  have step : rq s (yl s) q (j + 1) k = rq s (yl s) q j k + (if (sC s j && RR s (yl s) q j k) then 1 else 0) := rfl
  rw [step] at ih
  refine pl_bb (fun ij v hv => ?_) (fun ij => ⟨pl_in hj, ?_⟩)
  · rw [if_neg (fun z => ij (Bool.and_eq_true_iff.mp z).1), Nat.add_zero] at ih
    rw [hv, Int32.add_zero]
    exact ih
  · rw [sp_isAhead_R h.2.1 h.1 (fun k hk ik => by rw [h.2.2.1 k hk ik, i3_n]) (yB_ly s) hq hj hk ij ik]
    refine pl_bb (fun hr v hv => ?_) (fun hr v hv => ?_)
    · rw [if_neg (fun z => hr (Bool.and_eq_true_iff.mp z).2), Nat.add_zero] at ih
      rw [hv, Int32.add_zero]
      exact ih
    · rw [if_pos (by rw [show sC s j = true from ij, hr]; rfl), ← nI_1, ← hv] at ih
      exact ih
theorem op_place (a1 a2 : Int32) : Opp (sx_place a1 a2) (mo_place a1 a2) := by
  rintro μ ⟨⟨s, ci, mr⟩, ri⟩
  by_cases h1 : 0 ≤ a1 ∧ a1 < 5
  · by_cases h2 : 0 ≤ a2 ∧ a2 < 30
    · obtain ⟨q, hq, rfl⟩ := pl_ord h1
      obtain ⟨k, hk, rfl⟩ := pl_30 h2
      refine op2 (v := if sI s k then nI (rq s (yl s) q 30 k) else -3) (s' := s) ci mr ri (fun Q hQ => ?_) (fun μ1 mr1 Q hQ => ?_)
      · have hQ := hQ _ Fr.rfl' ci
        unfold sx_place
        rw [sx_isBelow_i]
        refine pl_bb (fun z => absurd h1 z) (fun _ => ?_)
        rw [sx_isBelow_i]
        refine pl_bb (fun z => absurd h2 z) (fun _ => ?_)
        rw [ix_isIn_i ci.2.1 hk]
        refine pl_bb (fun ik => ?_) (fun ik => ⟨pl_in hk, ?_⟩)
        · rw [if_neg ik] at hQ
          exact hQ
        · rw [if_pos ik] at hQ
          rw [pl_cl hk]
          exact ix_countAhead_s ci hq hk ik hQ
      · unfold mo_place
        rintro m1 rfl
        rw [mo_in_0, pl_bcong pl_le4]
        refine pl_bb (fun z => absurd h1 z) (fun _ => ?_)
        rw [mo_isSpan_k]
        refine pl_bb (fun z => absurd h2 z) (fun _ => ⟨pl_in hk, ?_⟩)
        rw [pl_cl hk, (mr1.th k hk).1]
        refine pl_bb (fun ik => ?_) (fun ik => ?_)
        · have hQ := hQ _ Fr.th mr1.th
          rw [if_neg ik] at hQ
          exact hQ
        · refine mo_layLayers_s mr1.th ci.1 (fun m hf hl => ?_)
          have hQ := hQ m (Fr.th.tr hf.f9N) (mr1.th.f9 hf)
          rw [if_pos ik] at hQ
          exact mo_aheadOf_s (mr1.th.f9 hf) ci.1 (fun j hj => by rw [hl j hj, i3_n]) (yB_ly s) hq hk ik hQ
    · refine op2 (v := -1) (s' := s) ci mr ri (fun Q hQ => ?_) (fun μ1 mr1 Q hQ => ?_)
      · unfold sx_place
        rw [sx_isBelow_i]
        refine pl_bb (fun z => absurd h1 z) (fun _ => ?_)
        rw [sx_isBelow_i]
        exact pl_bb (fun _ => hQ _ Fr.rfl' ci) (fun z => absurd z h2)
      · unfold mo_place
        rintro m1 rfl
        rw [mo_in_0, pl_bcong pl_le4]
        refine pl_bb (fun z => absurd h1 z) (fun _ => ?_)
        rw [mo_isSpan_k]
        exact pl_bb (fun _ => hQ _ Fr.th mr1.th) (fun z => absurd z h2)
  · refine op2 (v := -1) (s' := s) ci mr ri (fun Q hQ => ?_) (fun μ1 mr1 Q hQ => ?_)
    · unfold sx_place
      rw [sx_isBelow_i]
      exact pl_bb (fun _ => hQ _ Fr.rfl' ci) (fun z => absurd z h1)
    · unfold mo_place
      rintro m1 rfl
      rw [mo_in_0, pl_bcong pl_le4]
      exact pl_bb (fun _ => hQ _ Fr.th mr1.th) (fun z => absurd z h1)
end O4
