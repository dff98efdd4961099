/-! next, as a call; stabbed -/
section N2
variable {μ : sl_M} {s : SS} {Q : Int32 → sl_M → Prop} {P : sl_M → Prop}
theorem sp_copyFrom_s {a b : Nat} (hab : b ≠ a) (hP : ∀ m, Fr (fun o _ => o = a) μ m → m a 0 = μ b 0 → m a 1 = sl_bz (μ b 1) → m a 2 = μ b 2 → m a 3 = μ b 3 → m a 4 = μ b 4 → m a 5 = μ b 5 → P m) : sp_copyFrom a b μ P := by
  unfold sp_copyFrom
  rintro m1 rfl
  refine ⟨by unfold sl_bz; split <;> rfl, ?_⟩
  rintro m2 rfl m3 rfl m4 rfl m5 rfl m6 rfl
  have F0 : Fr (fun o _ => o = a) μ μ := Fr.rfl'
  refine hP _ ((((((F0.up rfl).up rfl).up rfl).up rfl).up rfl).up rfl) ?_ ?_ ?_ ?_ ?_ ?_
  all_goals simp [pl_up, hab]
theorem op_next (a1 : Int32) : Opp (sx_next a1) (mo_next a1) := by
  rintro μ ⟨⟨s, ci, mr⟩, ri⟩
  by_cases h1 : 0 ≤ a1 ∧ a1 < 3
  · obtain ⟨c, hc, rfl⟩ := pl_3 h1
    have hop := (ri.2.1 c hc).opn
    unfold sx_next
    rw [sx_isBelow_i]
    refine pl_bb (fun z => absurd h1 z) (fun _ => ⟨pl_in3 hc, ?_⟩)
    rw [pl_cl3 hc]
    refine ⟨fun hs => ?_, fun hs => ⟨pl_in3 hc, ?_⟩⟩
    · unfold mo_next
      rintro m1 rfl
      rw [mo_in_0, pl_bcong pl_le2]
      refine pl_bb (fun z => absurd h1 z) (fun _ => ⟨pl_in3 hc, ?_⟩)
      rw [pl_cl3 hc]
      refine ⟨fun _ => ?_, fun z => absurd (hop.mp hs) z⟩
      rw [mo_in_0, pl_bcong pl_le2]
      exact pl_bb (fun z => absurd h1 z) (fun _ => ⟨rfl, ⟨s, ci.fr Fr.th (fun o k h1 h2 z => by omega), mr.th⟩, ri.fr Fr.th (fun o k z => Or.inr z)⟩)
    · rcases ri.2.1 c hc with ⟨k1, k2⟩ | ⟨k1, q, hq, k2, k3, kt⟩
      · exact absurd (by rw [k2]; rfl) hs
      · obtain ⟨t, ht⟩ := kt.td
        have nq : ¬ i3 q < 0 := by
          rw [i3_0, i3_lt (pl_B (by omega) (by omega)) (pl_B (by omega) (by omega))]
          omega
        refine ix_firstBehind_s ci hq k3 ht (fun hno => ?_) (fun k hF => ⟨pl_in3 hc, rfl, ?_⟩)
        · show mo_next (nI c) μ (fun r2 μ2 => (-5 : Int32) = r2 ∧ Inv μ2)
          unfold mo_next
          rintro m1 rfl
          rw [mo_in_0, pl_bcong pl_le2]
          refine pl_bb (fun z => absurd h1 z) (fun _ => ⟨pl_in3 hc, ?_⟩)
          rw [pl_cl3 hc, pl_up_o (by decide), k2]
          refine ⟨fun z => absurd z nq, fun _ => ⟨pl_in3 hc, ?_⟩⟩
          refine mo_layOrder_s mr.th ci.1 hq (fun m hf hl ho => mo_manyIn_s (mr.th.f10 hf) ?_)
          have F : Fr fN μ m := Fr.th.tr hf.f10N
          refine mo_next_s (mr.th.f10 hf) ci.1 hl hc hq (by rw [F _ _ (by omega)]; exact k2) (ht.mt.fr F (fun o k hh z => by omega)) ho (fun _ => ⟨rfl, ⟨s, ci.fr F (fun o k h1 h2 z => by omega), mr.th.f10 hf⟩, ri.fr F (fun o k z => Or.inr z)⟩) (fun k hF => absurd hF.2.2.1 (hno k hF.1 hF.2.1))
        · rintro m1 rfl
          have hk := hF.1
          have ik := hF.2.1
          obtain ⟨d0, d1, d2, d3, d4⟩ := ci.2.1 k hk
          have d5 := ci.2.2.1 k hk ik
          have o := ci.1 k hk ik
          have yb : 0 ≤ yl s k ∧ yl s k ≤ 29 := yB_ly s k hk
          refine sp_copyFrom_s (by omega) (fun m hf c0 c1 c2 c3 c4 c5 => ?_)
          rw [pl_up_o (by omega)] at c0 c2 c3 c4 c5
          rw [d0] at c0
          rw [d2] at c2
          rw [d3] at c3
          rw [d4] at c4
          rw [d5] at c5
          have F1 : Fr (fun o k => o = 90 + 2 * c ∨ o = 91 + 2 * c) μ m := Fr.tr (Fr.rfl'.up (v := 1) (Or.inl rfl) : Fr _ μ (sl_up μ (90 + 2 * c) 2 1)) (hf.mono (fun o k z => Or.inr (by omega)))
          have g2 : m (90 + 2 * c) 2 = 1 := by rw [hf _ _ (by omega), pl_up_s]
          have g0 : m (90 + 2 * c) 0 = 1 := by rw [hf _ _ (by omega), pl_up_k (by decide), k1]
          have g1 : m (90 + 2 * c) 1 = i3 q := by rw [hf _ _ (by omega), pl_up_k (by decide), k3]
          have mr1 : MR m s := mr.fr F1 (fun o k h1 h2 z => by omega)
          have ci1 : CInv s m := ci.fr F1 (fun o k h1 h2 z => by omega)
          rw [(ci1.2.1 k hk).1]
          unfold mo_next
          rintro m2 rfl
          rw [mo_in_0, pl_bcong pl_le2]
          refine pl_bb (fun z => absurd h1 z) (fun _ => ⟨pl_in3 hc, ?_⟩)
          rw [pl_cl3 hc, pl_up_o (by decide), F1 _ _ (by omega), k2]
          refine ⟨fun z => absurd z nq, fun _ => ⟨pl_in3 hc, ?_⟩⟩
          refine mo_layOrder_s mr1.th ci.1 hq (fun m3 hf3 hl ho => mo_manyIn_s (mr1.th.f10 hf3) ?_)
          have F2 : Fr fN m m3 := Fr.th.tr hf3.f10N
          refine mo_next_s (mr1.th.f10 hf3) ci.1 hl hc hq (by rw [F2 _ _ (by omega), F1 _ _ (by omega)]; exact k2) ((ht.mt.fr F1 (fun o k hh z => by omega)).fr F2 (fun o k hh z => by omega)) ho (fun hno => absurd hF.2.2.1 (hno k hk ik)) (fun k' hF' => ?_)
          obtain rfl : k' = k := fst0_one hF' hF
          have F3 : Fr (fun o k => 112 ≤ o ∧ o ≤ 114 ∧ k = c) m3 (sl_up (sl_up (sl_up m3 113 c (i3 (K1 q (sL s k') (sH s k') (sW s k') (yl s k')))) 114 c (i3 (K2 q (sL s k') (sH s k')))) 112 c (nI k')) := ((Fr.rfl'.up (by omega)).up (by omega)).up (by omega)
          refine ⟨rfl, ⟨s, (ci1.fr F2 (fun o k h1 h2 z => by omega)).fr F3 (fun o k h1 h2 z => by omega), (mr1.th.f10 hf3).fr F3 (fun o k h1 h2 z => by omega)⟩, ?_⟩
          have F : Fr (fun o k => (o = 90 + 2 * c ∨ o = 91 + 2 * c) ∨ fN o k ∨ (112 ≤ o ∧ o ≤ 114 ∧ k = c)) μ (sl_up (sl_up (sl_up m3 113 c (i3 (K1 q (sL s k') (sH s k') (sW s k') (yl s k')))) 114 c (i3 (K2 q (sL s k') (sH s k')))) 112 c (nI k')) := ((F1.mono (fun o k z => Or.inl z)).tr (F2.mono (fun o k z => Or.inr (Or.inl z)))).tr (F3.mono (fun o k z => Or.inr (Or.inr z)))
          have G : Fr (fun o k => fN o k ∨ (112 ≤ o ∧ o ≤ 114 ∧ k = c)) m (sl_up (sl_up (sl_up m3 113 c (i3 (K1 q (sL s k') (sH s k') (sW s k') (yl s k')))) 114 c (i3 (K2 q (sL s k') (sH s k')))) 112 c (nI k')) := (F2.mono (fun o k z => Or.inl z)).tr (F3.mono (fun o k z => Or.inr z))
          refine ri.cu F (fun o k z => by omega) (fun c' hc' => ?_)
          by_cases e : c' = c
          · subst e
            refine Or.inr ⟨by rw [G _ _ (by omega), g0], q, hq, ?_, by rw [G _ _ (by omega), g1], Or.inr ⟨by rw [G _ _ (by omega), g2], k', sL s k', sH s k', sW s k', yl s k', hk, ?_, pl_up_s, ?_, ?_⟩⟩
            · rw [pl_up_o (by decide), pl_up_o (by decide), pl_up_o (by decide), F2 _ _ (by omega), F1 _ _ (by omega)]
              exact k2
            · refine CV.fr ⟨⟨by rw [show 91 + 2 * c' = 90 + 2 * c' + 1 by omega, c0, i3_n], by rw [show 91 + 2 * c' = 90 + 2 * c' + 1 by omega]; exact c2, by rw [show 91 + 2 * c' = 90 + 2 * c' + 1 by omega]; exact c3, by rw [show 91 + 2 * c' = 90 + 2 * c' + 1 by omega]; exact c4, by rw [show 91 + 2 * c' = 90 + 2 * c' + 1 by omega, c5, i3_n]⟩, by omega, by omega, by omega, by omega, by omega⟩ G (fun j hj z => by omega)
            · rw [pl_up_o (by decide), pl_up_o (by decide), pl_up_s]
            · rw [pl_up_o (by decide), pl_up_s]
          · exact (ri.2.1 c' hc').fr F (fun o k hh z => by omega)
  · refine op2 (v := -1) (s' := s) ci mr ri (fun Q hQ => ?_) (fun μ1 mr1 Q hQ => ?_)
    · unfold sx_next
      rw [sx_isBelow_i]
      exact pl_bb (fun _ => hQ _ Fr.rfl' ci) (fun z => absurd z h1)
    · unfold mo_next
      rintro m1 rfl
      rw [mo_in_0, pl_bcong pl_le2]
      refine pl_bb (fun _ => ?_) (fun z => absurd z h1)
      rw [mo_in_0, pl_bcong pl_le2]
      exact pl_bb (fun _ => hQ _ Fr.th mr1.th) (fun z => absurd z h1)
end N2
