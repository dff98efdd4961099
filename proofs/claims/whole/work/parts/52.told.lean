/-! group, told, of -/
section TO
variable {μ : sl_M} {s : SS} {Q : Int32 → sl_M → Prop}
theorem op_group (a1 a2 : Int32) : Opp (sx_group a1 a2) (mo_group a1 a2) := by
  rintro μ ⟨⟨s, ci, mr⟩, ri⟩
  have hG := G_le s (n := 1000) (by omega)
  by_cases h1 : 0 ≤ a1 ∧ a1 < nI (G s 1000)
  · obtain ⟨i, hi, rfl⟩ := pl_of rfl (by omega) h1
    by_cases h2 : 0 ≤ a2 ∧ a2 < 4
    · obtain ⟨p, hp, gpp, gi⟩ := fb_ct_kth (p := gp s) (n := 1000) hi
      have hp0 : ¬ nI p < 0 := by
        rw [i3_n, i3_0, i3_lt (pl_B (by omega) (by omega)) (pl_B (by omega) (by omega))]
        omega
      refine op2 (v := if a2 = 0 then nI p else if a2 = 1 then nI (fb_ct (enb s (p : Int)) 30) else if a2 = 2 then bs (enb s (p : Int)) 30 else gw s (p : Int) 30) (s' := s) ci mr ri (fun Q hQ => ?_) (fun μ1 mr1 Q hQ => ?_)
      · unfold sx_group
        refine ix_countHighs_s ci (fun m hf cm => ?_)
        rw [sx_isBelow_i]
        refine pl_bb (fun z => absurd h1 z) (fun _ => ?_)
        rw [sx_isBelow_i]
        refine pl_bb (fun z => absurd h2 z) (fun _ => ?_)
        refine ix_highAt_s cm hi (fun m2 p2 hf2 cm2 hp2 g2 e2 => ?_)
        obtain rfl : p2 = p := fb_ct_kth_one g2 gpp (e2.trans gi.symm)
        exact ix_ofThose_s cm2.2.1 cm2.1 hp (hQ m2 (hf.tr hf2) cm2)
      · have hQ := hQ _ Fr.th mr1.th
        have hgo : ∀ K : Int32 → sl_M → Prop, K (nI p) (sl_up μ1 104 5 0) → mo_groupOf (nI i) (sl_up μ1 104 5 0) K := fun K hK => by
          refine mo_groupOf_s mr1.th ci.1 ?_
          have e := fd_at gpp (n := 1000) (by omega) hp
          rw [show G s p = i from gi] at e
          rw [if_neg (by rw [i3_n, i3_m1, i3_eq (pl_B (by omega) (by omega)) (pl_B (by omega) (by omega))]; omega), e]
          exact hK
        have hgb : ∀ K : Int32 → sl_M → Prop, K (bs (enb s (p : Int)) 30) (sl_up μ1 104 5 0) → mo_groupBits (nI p) (sl_up μ1 104 5 0) K := fun K hK => by
          rw [i3_n]
          exact mo_groupBits_s mr1.th ci.1 (pl_B (by omega) (by omega)) hK
        unfold mo_group
        rintro m1 rfl
        refine ⟨fun z => absurd z (by rw [i3_n, i3_0, i3_lt (pl_B (by omega) (by omega)) (pl_B (by omega) (by omega))]; omega), fun _ => ?_⟩
        rw [mo_in_0, pl_bcong pl_le3]
        refine pl_bb (fun z => absurd h2 z) (fun _ => hgo _ ⟨fun z => absurd z hp0, fun _ => hgo _ (hgb _ ⟨fun c => hgo _ ?_, fun c => ⟨fun d => mo_onesOf_s ?_, fun d => ⟨fun e => ?_, fun e => mo_weightOf_s mr1.th ?_⟩⟩⟩)⟩)
        · rw [if_pos c] at hQ
          exact hQ
        · rw [if_neg c, if_pos d] at hQ
          exact hQ
        · rw [if_neg c, if_neg d, if_pos e] at hQ
          exact hQ
        · rw [if_neg c, if_neg d, if_neg e] at hQ
          exact hQ
    · refine op2 (v := -1) (s' := s) ci mr ri (fun Q hQ => ?_) (fun μ1 mr1 Q hQ => ?_)
      · unfold sx_group
        refine ix_countHighs_s ci (fun m hf cm => ?_)
        rw [sx_isBelow_i]
        refine pl_bb (fun z => absurd h1 z) (fun _ => ?_)
        rw [sx_isBelow_i]
        exact pl_bb (fun _ => hQ m hf cm) (fun z => absurd z h2)
      · unfold mo_group
        rintro m1 rfl
        refine ⟨fun _ => hQ _ Fr.th mr1.th, fun _ => ?_⟩
        rw [mo_in_0, pl_bcong pl_le3]
        exact pl_bb (fun _ => hQ _ Fr.th mr1.th) (fun z => absurd z h2)
  · refine op2 (v := -1) (s' := s) ci mr ri (fun Q hQ => ?_) (fun μ1 mr1 Q hQ => ?_)
    · unfold sx_group
      refine ix_countHighs_s ci (fun m hf cm => ?_)
      rw [sx_isBelow_i]
      exact pl_bb (fun _ => hQ m hf cm) (fun z => absurd z h1)
    · unfold mo_group
      rintro m1 rfl
      have hQ := hQ _ Fr.th mr1.th
      refine ⟨fun _ => hQ, fun z0 => ?_⟩
      rw [mo_in_0, pl_bcong pl_le3]
      refine pl_bb (fun _ => hQ) (fun _ => ?_)
      have h0 : 0 ≤ a1 := fa_of_nlt z0
      refine mo_groupOf_s mr1.th ci.1 ?_
      rw [if_neg (fun e => by rw [e] at h0; exact absurd h0 (by decide)), fd_no (fun p hp gpp e => h1 ⟨h0, ?_⟩)]
      · exact ⟨fun _ => hQ, fun z => absurd (by decide) z⟩
      · have a := fb_ct_succ (gp s) p
        rw [gpp, if_pos rfl] at a
        have b := fb_ct_mono (gp s) (m := p + 1) (n := 1000) (by omega)
        have gb := G_le s (n := p) (by omega)
        rw [← e, nI_ltI (by omega) (by omega)]
        show fb_ct (gp s) p < fb_ct (gp s) 1000
        omega
theorem told_same (μ : sl_M) (hI : Inv μ) : Inv (sl_up μ 104 5 0) := by
  obtain ⟨⟨s, ci, mr⟩, ri⟩ := hI
  exact ⟨⟨s, ci.fr Fr.th (fun o k h1 h2 z => by omega), mr.th⟩, ri.fr Fr.th (fun o k z => Or.inr z)⟩
theorem op_told (a1 : Int32) : Opp (sx_told a1) (mo_told a1) := by
  intro μ hI
  have hI2 := told_same μ hI
  obtain ⟨⟨s, ci, mr⟩, ri⟩ := hI
  by_cases c0 : a1 = 0
  · subst c0
    refine op2 (v := nI (sN s)) (s' := s) ci mr ri (fun Q hQ => ?_) (fun μ1 mr1 Q hQ => ?_)
    · refine ⟨fun _ => ix_count_s ci.2.1 (hQ _ Fr.rfl' ci), fun z => absurd rfl z⟩
    · rintro m1 rfl
      refine ⟨fun _ => mo_manyIn_s mr1.th (hQ _ Fr.th mr1.th), fun z => absurd rfl z⟩
  by_cases c1 : a1 = 1
  · subst c1
    refine ⟨fun z => absurd z (by decide), fun _ => ⟨fun _ => sx_countOpen_s ?_, fun z => absurd rfl z⟩⟩
    rintro m1 rfl
    refine ⟨fun z => absurd z (by decide), fun _ => ⟨fun _ => mo_opens_s hI2.2.2.1 ⟨congrArg nI (opn_cong (fun c' hc' => ?_)).symm, hI2⟩, fun z => absurd rfl z⟩⟩
    rw [pl_up_o (by omega)]
  by_cases c2 : a1 = 2
  · subst c2
    refine op2 (v := nI (mx (lmx s) 30)) (s' := s) ci mr ri (fun Q hQ => ?_) (fun μ1 mr1 Q hQ => ?_)
    · refine ⟨fun z => absurd z (by decide), fun _ => ⟨fun z => absurd z (by decide), fun _ => ⟨fun _ => ix_countLayers_s ci (hQ _ Fr.rfl' ci), fun z => absurd rfl z⟩⟩⟩
    · rintro m1 rfl
      refine ⟨fun z => absurd z (by decide), fun _ => ⟨fun z => absurd z (by decide), fun _ => ⟨fun _ => mo_layerMany_s mr1.th ci.1 (fun m hf => hQ m (Fr.th.tr hf.f9N) (mr1.th.f9 hf)), fun z => absurd rfl z⟩⟩⟩
  by_cases c3 : a1 = 3
  · subst c3
    refine op2 (v := su s (wW s) 30) (s' := s) ci mr ri (fun Q hQ => ?_) (fun μ1 mr1 Q hQ => ?_)
    · refine ⟨fun z => absurd z (by decide), fun _ => ⟨fun z => absurd z (by decide), fun _ => ⟨fun z => absurd z (by decide), fun _ => ⟨fun _ => ix_sumOfWeights_s ci.2.1 (hQ _ Fr.rfl' ci), fun z => absurd rfl z⟩⟩⟩⟩
    · rintro m1 rfl
      refine ⟨fun z => absurd z (by decide), fun _ => ⟨fun z => absurd z (by decide), fun _ => ⟨fun z => absurd z (by decide), fun _ => ⟨fun _ => ⟨fun _ => mo_sumOf_s mr1.th (hQ _ Fr.th mr1.th), fun z => absurd rfl z⟩, fun z => absurd rfl z⟩⟩⟩⟩
  by_cases c4 : a1 = 4
  · subst c4
    refine op2 (v := su s (wL s) 30) (s' := s) ci mr ri (fun Q hQ => ?_) (fun μ1 mr1 Q hQ => ?_)
    · refine ⟨fun z => absurd z (by decide), fun _ => ⟨fun z => absurd z (by decide), fun _ => ⟨fun z => absurd z (by decide), fun _ => ⟨fun z => absurd z (by decide), fun _ => ⟨fun _ => ix_sumOfLengths_s ci.2.1 (hQ _ Fr.rfl' ci), fun z => absurd rfl z⟩⟩⟩⟩⟩
    · rintro m1 rfl
      refine ⟨fun z => absurd z (by decide), fun _ => ⟨fun z => absurd z (by decide), fun _ => ⟨fun z => absurd z (by decide), fun _ => ⟨fun z => absurd z (by decide), fun _ => ⟨fun _ => ⟨fun z => absurd z (by decide), fun _ => mo_sumOf_s mr1.th (hQ _ Fr.th mr1.th)⟩, fun z => absurd rfl z⟩⟩⟩⟩⟩
  by_cases c5 : a1 = 5
  · subst c5
    obtain ⟨n, t, tp⟩ := ri.2.2.1
    refine ⟨fun z => absurd z (by decide), fun _ => ⟨fun z => absurd z (by decide), fun _ => ⟨fun z => absurd z (by decide), fun _ => ⟨fun z => absurd z (by decide), fun _ => ⟨fun z => absurd z (by decide), fun _ => ⟨fun _ => ?_, fun z => absurd rfl z⟩⟩⟩⟩⟩⟩
    rintro m1 rfl
    refine ⟨fun z => absurd z (by decide), fun _ => ⟨fun z => absurd z (by decide), fun _ => ⟨fun z => absurd z (by decide), fun _ => ⟨fun z => absurd z (by decide), fun _ => ⟨fun z => absurd z (by decide), fun _ => ⟨fun _ => ⟨?_, hI2⟩, fun z => absurd rfl z⟩⟩⟩⟩⟩⟩
    rw [pl_up_k (by omega), tp.2.1, tp.2.2.1]
  by_cases c6 : a1 = 6
  · subst c6
    obtain ⟨n, p1, p2, p3, p4⟩ := ri.2.2.2.1
    refine ⟨fun z => absurd z (by decide), fun _ => ⟨fun z => absurd z (by decide), fun _ => ⟨fun z => absurd z (by decide), fun _ => ⟨fun z => absurd z (by decide), fun _ => ⟨fun z => absurd z (by decide), fun _ => ⟨fun z => absurd z (by decide), fun _ => ⟨fun _ => ?_, fun z => absurd rfl z⟩⟩⟩⟩⟩⟩⟩
    rintro m1 rfl
    refine ⟨fun z => absurd z (by decide), fun _ => ⟨fun z => absurd z (by decide), fun _ => ⟨fun z => absurd z (by decide), fun _ => ⟨fun z => absurd z (by decide), fun _ => ⟨fun z => absurd z (by decide), fun _ => ⟨fun z => absurd z (by decide), fun _ => ⟨fun _ => ⟨?_, hI2⟩, fun z => absurd rfl z⟩⟩⟩⟩⟩⟩⟩
    rw [pl_up_k (by omega), p2, p3]
  by_cases c7 : a1 = 7
  · subst c7
    refine op2 (v := i3 (hf s 0 (tB (hf s 0)))) (s' := s) ci mr ri (fun Q hQ => ?_) (fun μ1 mr1 Q hQ => ?_)
    · refine ⟨fun z => absurd z (by decide), fun _ => ⟨fun z => absurd z (by decide), fun _ => ⟨fun z => absurd z (by decide), fun _ => ⟨fun z => absurd z (by decide), fun _ => ⟨fun z => absurd z (by decide), fun _ => ⟨fun z => absurd z (by decide), fun _ => ⟨fun z => absurd z (by decide), fun _ => ⟨fun _ => ?_, fun z => absurd rfl z⟩⟩⟩⟩⟩⟩⟩⟩
      refine ix_topPlace_s (m := 0) ci.2.1 ci.1 (by omega) (fun hB => ?_)
      have hb := hB.1
      rw [i3_n (tB _)]
      exact ix_heightAt_s (m := 0) ci.2.1 ci.1 (pl_B (by omega) (by omega)) (by omega) (hQ _ Fr.rfl' ci)
    · rintro m1 rfl
      refine ⟨fun z => absurd z (by decide), fun _ => ⟨fun z => absurd z (by decide), fun _ => ⟨fun z => absurd z (by decide), fun _ => ⟨fun z => absurd z (by decide), fun _ => ⟨fun z => absurd z (by decide), fun _ => ⟨fun z => absurd z (by decide), fun _ => ⟨fun z => absurd z (by decide), fun _ => ⟨fun _ => ?_, fun z => absurd rfl z⟩⟩⟩⟩⟩⟩⟩⟩
      refine mo_layDepths_s mr1.th ci.1 (fun m hf1 hd => ?_)
      refine mo_deepestOf_s (w := 0) (mr1.th.d hf1) ci.1 (by omega) (fun m2 hf2 hd2 hB => ?_)
      have hb := hB.1
      have d := hd2 _ hb
      rw [nI_clamp (show tB (hf s (0 / 2)) < 2 ^ 31 by omega), d.1]
      exact ⟨vp_in_nI hb (by decide), hQ m2 ((Fr.th.tr hf1.dN).tr hf2.dN) ((mr1.th.d hf1).d hf2)⟩
  by_cases c8 : a1 = 8
  · subst c8
    refine op2 (v := nI (G s 1000)) (s' := s) ci mr ri (fun Q hQ => ?_) (fun μ1 mr1 Q hQ => ?_)
    · refine ⟨fun z => absurd z (by decide), fun _ => ⟨fun z => absurd z (by decide), fun _ => ⟨fun z => absurd z (by decide), fun _ => ⟨fun z => absurd z (by decide), fun _ => ⟨fun z => absurd z (by decide), fun _ => ⟨fun z => absurd z (by decide), fun _ => ⟨fun z => absurd z (by decide), fun _ => ⟨fun z => absurd z (by decide), fun _ => ⟨fun _ => ix_countHighs_s ci hQ, fun z => absurd rfl z⟩⟩⟩⟩⟩⟩⟩⟩⟩
    · rintro m1 rfl
      refine ⟨fun z => absurd z (by decide), fun _ => ⟨fun z => absurd z (by decide), fun _ => ⟨fun z => absurd z (by decide), fun _ => ⟨fun z => absurd z (by decide), fun _ => ⟨fun z => absurd z (by decide), fun _ => ⟨fun z => absurd z (by decide), fun _ => ⟨fun z => absurd z (by decide), fun _ => ⟨fun z => absurd z (by decide), fun _ => ⟨fun _ => mo_groupOf_s mr1.th ci.1 (hQ _ Fr.th mr1.th), fun z => absurd rfl z⟩⟩⟩⟩⟩⟩⟩⟩⟩
  refine op2 (v := -1) (s' := s) ci mr ri (fun Q hQ => ?_) (fun μ1 mr1 Q hQ => ?_)
  · exact ⟨fun z => absurd z c0, fun _ => ⟨fun z => absurd z c1, fun _ => ⟨fun z => absurd z c2, fun _ => ⟨fun z => absurd z c3, fun _ => ⟨fun z => absurd z c4, fun _ => ⟨fun z => absurd z c5, fun _ => ⟨fun z => absurd z c6, fun _ => ⟨fun z => absurd z c7, fun _ => ⟨fun z => absurd z c8, fun _ => hQ _ Fr.rfl' ci⟩⟩⟩⟩⟩⟩⟩⟩⟩
  · rintro m1 rfl
    exact ⟨fun z => absurd z c0, fun _ => ⟨fun z => absurd z c1, fun _ => ⟨fun z => absurd z c2, fun _ => ⟨fun z => absurd z c3, fun _ => ⟨fun z => absurd z c4, fun _ => ⟨fun z => absurd z c5, fun _ => ⟨fun z => absurd z c6, fun _ => ⟨fun z => absurd z c7, fun _ => ⟨fun z => absurd z c8, fun _ => hQ _ Fr.th mr1.th⟩⟩⟩⟩⟩⟩⟩⟩⟩
end TO
