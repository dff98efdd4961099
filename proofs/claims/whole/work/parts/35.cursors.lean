/-! cursors -/
abbrev fK : Nat → Nat → Prop := fun o _ => (90 ≤ o ∧ o < 96) ∨ (111 ≤ o ∧ o ≤ 114)
theorem RInv.cu {p : Nat → Nat → Prop} {μ μ' : sl_M} (h : RInv μ) (hf : Fr p μ μ') (hp : ∀ o k, p o k → fC o k ∨ fN o k ∨ fK o k) (hc : CursR μ') : RInv μ' := by
  obtain ⟨⟨im, h1⟩, h2, ⟨n, t, h3⟩, h4, h5⟩ := h
  refine ⟨⟨im, h1.fr hf (fun o k hh q => ?_)⟩, hc, ⟨n, t, h3.fr hf (fun o k hh q => ?_)⟩, h4.fr hf (fun o k hh q => ?_), h5.fr hf (fun o k hh q => ?_)⟩
  all_goals
    have := hp o k q
    omega
theorem pl_3 {x : Int32} (h : 0 ≤ x ∧ x < 3) : ∃ k, k < 3 ∧ x = nI k := pl_of (y := 3) rfl (by decide) h
theorem pl_cl3 {k : Nat} (h : k < 3) : (nI k).toNatClampNeg = k := nI_clamp (Nat.lt_trans h (by decide))
theorem pl_in3 {k : Nat} (h : k < 3) : vp_in (nI k) 3 := vp_in_nI h (by decide)
theorem pl_lt3 {k : Nat} (h : k < 3) : nI k < 3 := nI_lt h (by decide)
theorem CurR.opn {μ : sl_M} {c : Nat} (h : CurR μ c) : sl_bz (μ (90 + 2 * c) 0) = 0 ↔ μ 111 c < 0 := by
  rcases h with ⟨h1, h2⟩ | ⟨h1, q, hq, h2, -⟩
  · rw [h1, h2]
    decide
  · rw [h1, h2, i3_0, i3_lt (pl_B (by omega) (by omega)) (pl_B (by omega) (by omega))]
    exact ⟨fun z => absurd z (by decide), fun z => by omega⟩
section CU
variable {μ : sl_M} {s : SS} {Q : Int32 → sl_M → Prop} {P : sl_M → Prop}
def opn (μ : sl_M) : Nat := fb_ct (fun c => decide (¬ sl_bz (μ (90 + 2 * c) 0) = 0)) 3
theorem sx_countOpen_s (hQ : Q (nI (opn μ)) μ) : sx_countOpen μ Q := by
  refine up_0 (fun n c x => sx_countOpen_L4 Q n x c μ) (fun k => nI (fb_ct (fun c => decide (¬ sl_bz (μ (90 + 2 * c) 0) = 0)) k)) 3 (fun n => ⟨fun z => absurd z (by decide), fun _ => hQ⟩) (fun n k hk ih => ?_)
  refine ⟨fun _ => ⟨pl_in3 hk, ?_⟩, fun z => absurd (pl_lt3 hk) z⟩
  rw [pl_cl3 hk, pl_inc]
  rw [fb_ct_succ] at ih
  refine ⟨fun c v hv => ?_, fun c v hv => ?_⟩
  · rw [if_neg (by simp [c]), Nat.add_zero] at ih
    rw [hv, Int32.add_zero]
    exact ih
  · rw [if_pos (by simp [c]), ← nI_1, ← hv] at ih
    exact ih
theorem mo_opens_s (hc : CursR μ) (hQ : Q (nI (opn μ)) μ) : mo_opens μ Q := by
  refine up_0 (fun n c x => mo_opens_L4 Q n x c μ) (fun k => nI (fb_ct (fun c => decide (¬ sl_bz (μ (90 + 2 * c) 0) = 0)) k)) 3 (fun n => ⟨fun z => absurd z (by decide), fun _ => hQ⟩) (fun n k hk ih => ?_)
  refine ⟨fun _ => ⟨pl_in3 hk, ?_⟩, fun z => absurd (pl_lt3 hk) z⟩
  rw [pl_cl3 hk, pl_inc]
  rw [fb_ct_succ] at ih
  rw [← (hc k hk).opn]
  refine ⟨fun c v hv => ?_, fun c v hv => ?_⟩
  · rw [if_neg (by simp [c]), Nat.add_zero] at ih
    rw [hv, Int32.add_zero]
    exact ih
  · rw [if_pos (by simp [c]), ← nI_1, ← hv] at ih
    exact ih
theorem opn_cong {m : sl_M} (h : ∀ c, c < 3 → m (90 + 2 * c) 0 = μ (90 + 2 * c) 0) : opn m = opn μ := fb_ct_cong (fun c hc => by rw [h c hc])
theorem op_open (a1 a2 : Int32) : Opp (sx_open a1 a2) (mo_open a1 a2) := by
  rintro μ ⟨⟨s, ci, mr⟩, ri⟩
  by_cases h1 : 0 ≤ a1 ∧ a1 < 3
  · by_cases h2 : 0 ≤ a2 ∧ a2 < 5
    · obtain ⟨c, hc, rfl⟩ := pl_3 h1
      obtain ⟨q, hq, rfl⟩ := pl_ord h2
      unfold sx_open
      rw [sx_isBelow_i]
      refine pl_bb (fun z => absurd h1 z) (fun _ => ?_)
      rw [sx_isBelow_i]
      refine pl_bb (fun z => absurd h2 z) (fun _ => ⟨pl_in3 hc, rfl, ?_⟩)
      rintro m1 rfl m2 rfl
      refine ⟨rfl, ?_⟩
      rintro m3 rfl
      rw [pl_cl3 hc]
      refine sx_countOpen_s ?_
      unfold mo_open
      rintro m4 rfl
      rw [mo_in_0, pl_bcong pl_le2]
      refine pl_bb (fun z => absurd h1 z) (fun _ => ?_)
      rw [mo_in_0, pl_bcong pl_le4]
      refine pl_bb (fun z => absurd h2 z) (fun _ => ⟨pl_in3 hc, ?_⟩)
      rintro m5 rfl
      refine ⟨pl_in3 hc, ?_⟩
      rintro m6 rfl
      rw [pl_cl3 hc]
      have F : Fr (fun o k => (o = 90 + 2 * c) ∨ (o = 111 ∧ k = c) ∨ (o = 112 ∧ k = c) ∨ (o = 104 ∧ k = 5)) μ (sl_up (sl_up (sl_up (sl_up (sl_up (sl_up μ (90 + 2 * c) 0 1) (90 + 2 * c) 1 (i3 q)) (90 + 2 * c) 2 0) 104 5 0) 111 c (i3 q)) 112 c (-1)) := (((((Fr.rfl'.up (by omega)).up (by omega)).up (by omega)).up (by omega)).up (by omega)).up (by omega)
      have hcur : CursR (sl_up (sl_up (sl_up (sl_up (sl_up (sl_up μ (90 + 2 * c) 0 1) (90 + 2 * c) 1 (i3 q)) (90 + 2 * c) 2 0) 104 5 0) 111 c (i3 q)) 112 c (-1)) := by
        intro c' hc'
        by_cases e : c' = c
        · subst e
          have e1 : ¬ (90 + 2 * c' = 112) := by omega
          have e2 : ¬ (90 + 2 * c' = 111) := by omega
          have e3 : ¬ (90 + 2 * c' = 104) := by omega
          refine Or.inr ⟨by simp [pl_up, e1, e2, e3], q, hq, by simp [pl_up], by simp [pl_up, e1, e2, e3], Or.inl ⟨by simp [pl_up, e1, e2, e3], by simp [pl_up]⟩⟩
        · exact (ri.2.1 c' hc').fr F (fun o k hh z => by omega)
      refine mo_opens_s hcur ⟨?_, ⟨s, ci.fr F (fun o k h1 h2 z => by omega), mr.fr F (fun o k h1 h2 z => by omega)⟩, ri.cu F (fun o k z => by omega) hcur⟩
      refine congrArg nI (opn_cong (fun c' hc' => ?_)).symm
      rw [pl_up_o (by omega), pl_up_o (by omega), pl_up_o (by omega)]
    · refine op2 (v := -1) (s' := s) ci mr ri (fun Q hQ => ?_) (fun μ1 mr1 Q hQ => ?_)
      · unfold sx_open
        rw [sx_isBelow_i]
        refine pl_bb (fun z => absurd h1 z) (fun _ => ?_)
        rw [sx_isBelow_i]
        exact pl_bb (fun _ => hQ _ Fr.rfl' ci) (fun z => absurd z h2)
      · unfold mo_open
        rintro m1 rfl
        rw [mo_in_0, pl_bcong pl_le2]
        refine pl_bb (fun z => absurd h1 z) (fun _ => ?_)
        rw [mo_in_0, pl_bcong pl_le4]
        exact pl_bb (fun _ => hQ _ Fr.th mr1.th) (fun z => absurd z h2)
  · refine op2 (v := -1) (s' := s) ci mr ri (fun Q hQ => ?_) (fun μ1 mr1 Q hQ => ?_)
    · unfold sx_open
      rw [sx_isBelow_i]
      exact pl_bb (fun _ => hQ _ Fr.rfl' ci) (fun z => absurd z h1)
    · unfold mo_open
      rintro m1 rfl
      rw [mo_in_0, pl_bcong pl_le2]
      exact pl_bb (fun _ => hQ _ Fr.th mr1.th) (fun z => absurd z h1)
theorem op_shut (a1 : Int32) : Opp (sx_shut a1) (mo_shut a1) := by
  rintro μ ⟨⟨s, ci, mr⟩, ri⟩
  by_cases h1 : 0 ≤ a1 ∧ a1 < 3
  · obtain ⟨c, hc, rfl⟩ := pl_3 h1
    have hop := (ri.2.1 c hc).opn
    unfold sx_shut
    rw [sx_isBelow_i]
    refine pl_bb (fun z => absurd h1 z) (fun _ => ⟨pl_in3 hc, ?_⟩)
    rw [pl_cl3 hc]
    refine ⟨fun hs => ?_, fun hs => ⟨pl_in3 hc, rfl, ?_⟩⟩
    · unfold mo_shut
      rintro m1 rfl
      rw [mo_in_0, pl_bcong pl_le2]
      refine pl_bb (fun z => absurd h1 z) (fun _ => ⟨pl_in3 hc, ?_⟩)
      rw [pl_cl3 hc]
      refine ⟨fun _ => ?_, fun z => absurd (hop.mp hs) z⟩
      rw [mo_in_0, pl_bcong pl_le2]
      exact pl_bb (fun z => absurd h1 z) (fun _ => ⟨rfl, ⟨s, ci.fr Fr.th (fun o k h1 h2 z => by omega), mr.th⟩, ri.fr Fr.th (fun o k z => Or.inr z)⟩)
    · rintro m1 rfl
      refine sx_countOpen_s ?_
      unfold mo_shut
      rintro m2 rfl
      rw [mo_in_0, pl_bcong pl_le2]
      refine pl_bb (fun z => absurd h1 z) (fun _ => ⟨pl_in3 hc, ?_⟩)
      rw [pl_cl3 hc]
      refine ⟨fun z => absurd (hop.mpr (by rw [pl_up_o (by omega), pl_up_o (by omega)] at z; exact z)) hs, fun _ => ⟨pl_in3 hc, ?_⟩⟩
      rintro m3 rfl
      have F : Fr (fun o k => (o = 90 + 2 * c) ∨ (o = 111 ∧ k = c) ∨ (o = 104 ∧ k = 5)) μ (sl_up (sl_up (sl_up μ (90 + 2 * c) 0 0) 104 5 0) 111 c (-1)) := ((Fr.rfl'.up (by omega)).up (by omega)).up (by omega)
      have hcur : CursR (sl_up (sl_up (sl_up μ (90 + 2 * c) 0 0) 104 5 0) 111 c (-1)) := by
        intro c' hc'
        by_cases e : c' = c
        · subst e
          have e2 : ¬ (90 + 2 * c' = 111) := by omega
          have e3 : ¬ (90 + 2 * c' = 104) := by omega
          exact Or.inl ⟨by simp [pl_up], by simp [pl_up, e2, e3]⟩
        · exact (ri.2.1 c' hc').fr F (fun o k hh z => by omega)
      refine mo_opens_s hcur ⟨?_, ⟨s, ci.fr F (fun o k h1 h2 z => by omega), mr.fr F (fun o k h1 h2 z => by omega)⟩, ri.cu F (fun o k z => by omega) hcur⟩
      refine congrArg nI (opn_cong (fun c' hc' => ?_)).symm
      rw [pl_up_o (by omega), pl_up_o (by omega)]
  · refine op2 (v := -1) (s' := s) ci mr ri (fun Q hQ => ?_) (fun μ1 mr1 Q hQ => ?_)
    · unfold sx_shut
      rw [sx_isBelow_i]
      exact pl_bb (fun _ => hQ _ Fr.rfl' ci) (fun z => absurd z h1)
    · unfold mo_shut
      rintro m1 rfl
      rw [mo_in_0, pl_bcong pl_le2]
      refine pl_bb (fun _ => ?_) (fun z => absurd z h1)
      rw [mo_in_0, pl_bcong pl_le2]
      exact pl_bb (fun _ => hQ _ Fr.th mr1.th) (fun z => absurd z h1)
theorem op_remove (a1 : Int32) : Opp (sx_remove a1) (mo_remove a1) := by
  rintro μ ⟨⟨s, ci, mr⟩, ri⟩
  by_cases h1 : 0 ≤ a1 ∧ a1 < 3
  · obtain ⟨c, hc, rfl⟩ := pl_3 h1
    have e9 : ¬ fC 112 c := by omega
    have e91 : ¬ fC 111 c := by omega
    have bad : ∀ (hd : sl_bz (μ (90 + 2 * c) 0) = 0 ∨ (¬ sl_bz (μ (90 + 2 * c) 0) = 0 ∧ ((sl_bz (μ (90 + 2 * c) 2) = 0 ∧ μ 112 c = -1) ∨ ∃ n, n < 30 ∧ sl_bz (μ (90 + 2 * c) 2) ≠ 0 ∧ μ (91 + 2 * c) 0 = nI n ∧ μ 112 c = nI n ∧ ¬ sI s n))), sx_remove (nI c) μ (fun r μ1 => mo_remove (nI c) μ1 (fun r2 μ2 => r = r2 ∧ Inv μ2)) := by
      intro hd
      have hop := (ri.2.1 c hc).opn
      have I2 : Inv (sl_up μ 104 5 0) := ⟨⟨s, ci.fr Fr.th (fun o k h1 h2 z => by omega), mr.th⟩, ri.fr Fr.th (fun o k z => Or.inr z)⟩
      have M : mo_remove (nI c) μ (fun r2 μ2 => (-3 : Int32) = r2 ∧ Inv μ2) := by
        unfold mo_remove
        rintro m1 rfl
        rw [mo_in_0, pl_bcong pl_le2]
        refine pl_bb (fun z => absurd h1 z) (fun _ => ⟨pl_in3 hc, ?_⟩)
        rw [pl_cl3 hc]
        refine ⟨fun _ => ⟨rfl, I2⟩, fun ho => ⟨pl_in3 hc, ?_⟩⟩
        rcases hd with hd | ⟨hd, ⟨-, h2⟩ | ⟨n, hn, -, -, h2, hni⟩⟩
        · exact absurd (hop.mp hd) ho
        · rw [pl_up_o (by omega), h2, mo_isHere_o (by decide)]
          exact ⟨fun _ => ⟨rfl, I2⟩, fun z => absurd rfl z⟩
        · rw [pl_up_o (by omega), h2, mo_isHere_k mr.th hn, pl_bf hni]
          exact ⟨fun _ => ⟨rfl, I2⟩, fun z => absurd rfl z⟩
      unfold sx_remove
      rw [sx_isBelow_i]
      refine pl_bb (fun z => absurd h1 z) (fun _ => ⟨pl_in3 hc, ?_⟩)
      rw [pl_cl3 hc]
      refine ⟨fun _ => M, fun ho => ⟨fun _ => M, fun ht => ?_⟩⟩
      rcases hd with hd | ⟨hd, ⟨h2, -⟩ | ⟨n, hn, -, h2, -, hni⟩⟩
      · exact absurd hd ho
      · exact absurd h2 ht
      · rw [show 90 + 2 * c + 1 = 91 + 2 * c by omega, h2, ix_isIn_i ci.2.1 hn, pl_bf hni]
        exact ⟨fun _ => M, fun z => absurd rfl z⟩
    rcases ri.2.1 c hc with ⟨k1, k2⟩ | ⟨k1, q, hq, k2, k3, kt⟩
    · exact bad (Or.inl (by rw [k2]; rfl))
    · have ko : ¬ sl_bz (μ (90 + 2 * c) 0) = 0 := by rw [k1]; decide
      rcases kt with ⟨t1, t2⟩ | ⟨t1, n, l, g, w, y, hn, cv, t2, t3, t4⟩
      · exact bad (Or.inr ⟨ko, Or.inl ⟨by rw [t1]; rfl, t2⟩⟩)
      · have kt : ¬ sl_bz (μ (90 + 2 * c) 2) = 0 := by rw [t1]; decide
        have en0 : μ (91 + 2 * c) 0 = nI n := by rw [cv.1.1, i3_n]
        by_cases hi : sI s n
        · unfold sx_remove
          rw [sx_isBelow_i]
          refine pl_bb (fun z => absurd h1 z) (fun _ => ⟨pl_in3 hc, ?_⟩)
          rw [pl_cl3 hc]
          refine ⟨fun z => absurd z ko, fun _ => ⟨fun z => absurd z kt, fun _ => ?_⟩⟩
          rw [show 90 + 2 * c + 1 = 91 + 2 * c by omega, en0, ix_isIn_i ci.2.1 hn]
          refine pl_bb (fun z => absurd hi z) (fun _ => ?_)
          refine ix_takeOut_c ci.pre _ (fun m hf cm => ?_)
          rw [en0, bt_one hn] at cm
          refine ix_count_s cm.2.1 ?_
          have mr1 : MR m s := mr.fr hf (fun o k h1 h2 z => by omega)
          unfold mo_remove
          rintro m1 rfl
          rw [mo_in_0, pl_bcong pl_le2]
          refine pl_bb (fun z => absurd h1 z) (fun _ => ⟨pl_in3 hc, ?_⟩)
          rw [pl_cl3 hc, pl_up_o (by omega), pl_up_o (by omega), hf _ _ e91, hf _ _ e9, k2, t2]
          refine ⟨fun z => ?_, fun _ => ⟨pl_in3 hc, ?_⟩⟩
          · rw [i3_0, i3_lt (pl_B (by omega) (by omega)) (pl_B (by omega) (by omega))] at z
            omega
          · rw [mo_isHere_k mr1.th hn]
            refine pl_bb (fun z => absurd hi z) (fun _ => ?_)
            rw [pl_up_o (by omega), hf _ _ e9, t2, pl_cl hn]
            refine ⟨pl_in3 hc, pl_in hn, ?_⟩
            rintro m6 rfl
            have F2 : Fr fN m (sl_up (sl_up m 104 5 0) 108 n 0) := Fr.th.up (by omega)
            exact mo_manyIn_s mr1.th.drop ⟨rfl, ⟨_, cm.fr F2 (fun o k h1 h2 z => by omega), mr1.th.drop⟩, (ri.fr hf (fun o k z => Or.inl z)).fr F2 (fun o k z => Or.inr z)⟩
        · exact bad (Or.inr ⟨ko, Or.inr ⟨n, hn, kt, en0, t2, hi⟩⟩)
  · refine op2 (v := -1) (s' := s) ci mr ri (fun Q hQ => ?_) (fun μ1 mr1 Q hQ => ?_)
    · unfold sx_remove
      rw [sx_isBelow_i]
      exact pl_bb (fun _ => hQ _ Fr.rfl' ci) (fun z => absurd z h1)
    · unfold mo_remove
      rintro m1 rfl
      rw [mo_in_0, pl_bcong pl_le2]
      exact pl_bb (fun _ => hQ _ Fr.th mr1.th) (fun z => absurd z h1)
end CU
