/-! covered, piece, hole -/
def ss (g : Nat → Int32) : Nat → Int32
  | 0 => 0
  | n + 1 => ss g n + g n
theorem inv2 {μ m m2 : sl_M} {s s' : SS} (mr : MR μ s) (ri : RInv μ) (hf1 : Fr fC μ m) (c1 : CInv s' m) (hf2 : Fr fN m m2) (mr2 : MR m2 s') : Inv m2 := ⟨⟨s', c1.fr hf2 (fun o k h1 h2 q => by omega), mr2⟩, (ri.fr hf1 (fun o k q => Or.inl q)).fr hf2 (fun o k q => Or.inr q)⟩
section CO
variable {μ m : sl_M} {s : SS} {Q : Int32 → sl_M → Prop} {P : sl_M → Prop}
theorem Fr.uN {a b : sl_M} (h : Fr fU a b) : Fr fN a b := h.mono (fun o k z => by omega)
theorem MR.u {a b : sl_M} (h : MR a s) (hf : Fr fU a b) : MR b s := h.fr hf (fun o k h1 h2 z => by omega)
theorem mo_runPlaces_s {N : Nat} (e : m 104 13 = nI N) (hN : N ≤ 30) {g : Nat → Int32} (hg : ∀ i, i < N → m 118 i - m 117 i + 1 = g i) (hQ : Q (ss g N) m) : mo_runPlaces m Q := by
  refine up_0 (fun n c x => mo_runPlaces_L4 Q n x c m) (fun k => ss g k) N (fun n => ⟨fun z => absurd z (by rw [e, nI_ltI (by omega) (by omega)]; omega), fun _ => hQ⟩) (fun n k hk ih => ?_)
  have hi : vp_in (nI k) 31 := vp_in_nI (by omega) (by decide)
  refine ⟨fun _ => ⟨hi, hi, fun v hv => ?_⟩, fun z => absurd (by rw [e, nI_ltI (by omega) (by omega)]; omega) z⟩
  rw [pl_cl (show k < 30 by omega), hg k hk] at hv
  rw [hv, pl_inc]
  exact ih
theorem mo_greatestRun_s {N : Nat} (e : m 104 13 = nI N) (hN : N ≤ 30) {g : Nat → Nat} (hb : ∀ i, i < N → g i ≤ 1000) (hg : ∀ i, i < N → m 118 i - m 117 i + 1 = nI (g i)) (hQ : Q (nI (mx g N)) m) : mo_greatestRun m Q := by
  refine up_0 (fun n c x => mo_greatestRun_L4 Q n x c m) (fun k => nI (mx g k)) N (fun n => ⟨fun z => absurd z (by rw [e, nI_ltI (by omega) (by omega)]; omega), fun _ => hQ⟩) (fun n k hk ih => ?_)
  have hi : vp_in (nI k) 31 := vp_in_nI (by omega) (by decide)
  have b1 := hb k hk
  have b2 : mx g k ≤ 1000 := mx_le (fun i hi => hb i (by omega))
  refine ⟨fun _ => ⟨hi, hi, fun v hv => ?_⟩, fun z => absurd (by rw [e, nI_ltI (by omega) (by omega)]; omega) z⟩
  rw [pl_cl (show k < 30 by omega), hg k hk] at hv
  rw [hv, pl_inc, nI_leI (by omega) (by omega)]
  refine ⟨fun c => ?_, fun c => ?_⟩
  · rw [mx_stay rfl (by omega)] at ih
    exact ih
  · rw [mx_take rfl (by omega)] at ih
    exact ih
theorem cv_sumOfPieces_s {n k0 : Nat} {f l : Nat → Nat} (pm : PM s k0 n f l m) (hn : n ≤ 30) (hQ : Q (ss (fun i => nI (l i) - nI (f i) + 1) n) m) : cv_sumOfPieces m Q := by
  refine up_0 (fun k c x => cv_sumOfPieces_L4 Q k x c m) (fun k => ss (fun i => nI (l i) - nI (f i) + 1) k) n (fun k => ⟨fun z => absurd z (by rw [pm.1, nI_ltI (by omega) (by omega)]; omega), fun _ => hQ⟩) (fun n' k hk ih => ?_)
  refine ⟨fun _ => ⟨pl_in (by omega), pl_in (by omega), fun v hv => ?_⟩, fun z => absurd (by rw [pm.1, nI_ltI (by omega) (by omega)]; omega) z⟩
  rw [pl_cl (show k < 30 by omega), (pm.2 k hk).1, (pm.2 k hk).2.1] at hv
  rw [hv, pl_inc]
  exact ih
theorem hl_c {n : Nat} {f l : Nat → Nat} (pc : Pcs s n f l) {i : Nat} (hi : i + 1 < n) : nI (f (i + 1)) - nI (l i) - 1 = nI (f (i + 1) - l i - 1) := by
  have h1 := pc.a i (by omega)
  have h2 := pc.b i hi
  rw [nI_mns (by omega), nI_sub1 (by omega)]
theorem hl_r {n : Nat} {f l : Nat → Nat} (pc : Pcs s n f l) {i : Nat} (hi : i + 1 < n) : nI (f (i + 1) - 1) - nI (l i + 1) + 1 = nI (f (i + 1) - l i - 1) := by
  have h1 := pc.a i (by omega)
  have h2 := pc.b i hi
  rw [nI_mns (by omega), nI_1]
  congr 1
  omega
theorem cv_sumOfHoles_s {n k0 : Nat} {f l : Nat → Nat} (pc : Pcs s n f l) (pm : PM s k0 n f l m) (hQ : Q (ss (fun i => nI (f (i + 1) - l i - 1)) (n - 1)) m) : cv_sumOfHoles m Q := by
  have hn := pc.n30
  by_cases e : n = 0
  · subst e
    exact ⟨1, fun z => absurd z (by rw [pm.1]; decide), fun _ => hQ⟩
  · refine up_0 (fun k _ (st : Int32 × Int32) => cv_sumOfHoles_L4 Q k st.1 st.2 m) (fun j => (ss (fun i => nI (f (i + 1) - l i - 1)) j, nI (j + 1))) (n - 1) (fun k => ⟨fun z => absurd z (by rw [pm.1, nI_ltI (by omega) (by omega)]; omega), fun _ => hQ⟩) (fun n' j hj ih => ?_)
    refine ⟨fun _ => ⟨pl_in (by omega), ?_⟩, fun z => absurd (by rw [pm.1, nI_ltI (by omega) (by omega)]; omega) z⟩
    rw [nI_sub1 (by omega), show j + 1 - 1 = j from rfl, pl_cl (show j + 1 < 30 by omega), pl_cl (show j < 30 by omega), (pm.2 (j + 1) (by omega)).1, (pm.2 j (by omega)).2.1, hl_c pc (by omega), pl_inc]
    refine ⟨pl_in (by omega), ?_⟩
    rintro v rfl
    exact ih
theorem cv_greatestHole_s {n k0 : Nat} {f l : Nat → Nat} (pc : Pcs s n f l) (pm : PM s k0 n f l m) (hQ : Q (nI (mx (fun i => f (i + 1) - l i - 1) (n - 1))) m) : cv_greatestHole m Q := by
  have hn := pc.n30
  by_cases e : n = 0
  · subst e
    exact ⟨1, fun z => absurd z (by rw [pm.1]; decide), fun _ => hQ⟩
  · refine up_0 (fun k _ (st : Int32 × Int32) => cv_greatestHole_L4 Q k st.1 st.2 m) (fun j => (nI (mx (fun i => f (i + 1) - l i - 1) j), nI (j + 1))) (n - 1) (fun k => ⟨fun z => absurd z (by rw [pm.1, nI_ltI (by omega) (by omega)]; omega), fun _ => hQ⟩) (fun n' j hj ih => ?_)
    have hb : ∀ i, i < n - 1 → f (i + 1) - l i - 1 ≤ 1000 := fun i hi => by
      have := pc.a (i + 1) (by omega)
      omega
    have b1 := hb j hj
    have b2 : mx (fun i => f (i + 1) - l i - 1) j ≤ 1000 := mx_le (fun i hi => hb i (by omega))
    refine ⟨fun _ => ⟨pl_in (by omega), ?_⟩, fun z => absurd (by rw [pm.1, nI_ltI (by omega) (by omega)]; omega) z⟩
    rw [nI_sub1 (by omega), show j + 1 - 1 = j from rfl, pl_cl (show j + 1 < 30 by omega), pl_cl (show j < 30 by omega), (pm.2 (j + 1) (by omega)).1, (pm.2 j (by omega)).2.1, hl_c pc (by omega), pl_inc]
    refine ⟨pl_in (by omega), ?_⟩
    unfold ma_max
    rw [nI_ltI (by omega) (by omega)]
    refine ⟨fun c => ?_, fun c => ?_⟩
    · rw [mx_take (f := fun i => f (i + 1) - l i - 1) rfl c] at ih
      exact ih
    · rw [mx_stay (f := fun i => f (i + 1) - l i - 1) rfl c] at ih
      exact ih
theorem cv_countHoles_s {n k0 : Nat} {f l : Nat → Nat} (hn : n ≤ 30) (pm : PM s k0 n f l m) (hQ : Q (nI (n - 1)) m) : cv_countHoles m Q := by
  unfold cv_countHoles ma_max
  rw [pm.1]
  by_cases e : n = 0
  · subst e
    exact ⟨fun z => absurd z (by decide), fun _ => hQ⟩
  · rw [nI_sub1 (by omega)]
    refine ⟨fun _ => hQ, fun z => ?_⟩
    have : n - 1 = 0 := by
      apply Classical.byContradiction
      intro ne
      exact z ((nI_ltI (a := 0) (b := n - 1) (by omega) (by omega)).mpr (by omega))
    rw [this] at hQ
    exact hQ
theorem pks_mt {n : Nat} {f l : Nat → Nat} (ok : sOK s) (pc : Pcs s n f l) {i : Nat} (hi : i < n) : fb_ct (pks s (sN s) (f i) (l i)) 30 = fb_ct (mt s (f i : Int) (l i : Int)) 30 := by
  refine fb_ct_cong (fun o ho => decide_eq_decide.mpr ⟨fun z => ⟨z.1, z.2.2.2, ?_⟩, fun z => ⟨z.1, rk_bd (I := sC s) (RR_ord s (yl s) 0) ho z.1, ?_, z.2.1⟩⟩)
  · have := ok o ho z.1
    omega
  · have q := ok o ho z.1
    apply Classical.byContradiction
    intro w
    obtain ⟨j, hj, j1, j2⟩ := (pc.c (f i - 1)).mp ⟨o, ho, z.1, by omega, by omega⟩
    have ai := pc.a i hi
    by_cases e : j = i
    · subst e
      omega
    · by_cases e2 : j < i
      · have := inc_le pc.a pc.b (i := j) (j := i) e2 hi
        omega
      · have := inc_le pc.a pc.b (i := i) (j := j) (by omega) hj
        omega
theorem op_covered (a1 : Int32) : Opp (sx_covered a1) (mo_covered a1) := by
  rintro μ ⟨⟨s, ci, mr⟩, ri⟩
  by_cases h1 : 0 ≤ a1 ∧ a1 < 5
  · unfold sx_covered
    rw [sx_isBelow_i]
    refine pl_bb (fun z => absurd h1 z) (fun _ => ?_)
    refine cv_readFrom_s ci (fun m n f l hf cm pc pm => ?_)
    have mrm := mr.fr hf (fun o k h1 h2 q => by omega)
    have hn := pc.n30
    have hT : ∀ K : sl_M → Prop, (∀ m2, Inv m2 → RT n f l m2 → K m2) → mo_layRuns 1 (sl_up m 104 5 0) K := fun K hK => mo_layRuns_t mrm.th ci.1 pc (fun m2 hf2 rt => hK m2 (inv2 mr ri hf cm (Fr.th.tr hf2.uN) (mrm.th.u hf2)) rt)
    have hF : ∀ K : sl_M → Prop, (∀ m2, Inv m2 → RF n f l m2 → K m2) → mo_layRuns 0 (sl_up m 104 5 0) K := fun K hK => mo_layRuns_f mrm.th ci.1 pc (fun m2 hf2 rt => hK m2 (inv2 mr ri hf cm (Fr.th.tr hf2.uN) (mrm.th.u hf2)) rt)
    obtain ⟨w, hw, rfl⟩ := pl_of (y := 5) (N := 5) rfl (by decide) h1
    have hB : ∀ r, (w < 2 → mo_layRuns 1 (sl_up m 104 5 0) (fun m10 => mo_covered_B33 (nI w) (fun r2 m2 => r = r2 ∧ Inv m2) m10)) → (¬ w < 2 → mo_layRuns 0 (sl_up m 104 5 0) (fun m10 => mo_covered_B33 (nI w) (fun r2 m2 => r = r2 ∧ Inv m2) m10)) → mo_covered (nI w) m (fun r2 m2 => r = r2 ∧ Inv m2) := by
      intro r g1 g2
      unfold mo_covered
      rintro m7 rfl
      rw [mo_in_0, pl_bcong pl_le4]
      refine pl_bb (fun z => absurd h1 z) (fun _ => ?_)
      rw [show ((2 : Int32) = nI 2) from rfl, nI_ltI (by omega) (by omega)]
      exact ⟨g1, g2⟩
    have w5 : w = 0 ∨ w = 1 ∨ w = 2 ∨ w = 3 ∨ w = 4 := by omega
    rcases w5 with rfl | rfl | rfl | rfl | rfl
    · refine ⟨fun _ => cv_sumOfPieces_s pm hn (hB _ (fun _ => hT _ (fun m2 I2 rt => ⟨fun _ => mo_runPlaces_s rt.1 hn (fun i hi => ?_) ⟨rfl, I2⟩, fun z => absurd rfl z⟩)) (fun z => absurd z (by omega))), fun z => absurd rfl z⟩
      rw [(rt.2 i hi).1, (rt.2 i hi).2]
    · refine ⟨fun z => absurd z (by decide), fun _ => ⟨fun _ => hB _ (fun _ => hT _ (fun m2 I2 rt => ⟨fun z => absurd z (by decide), fun _ => ⟨fun z => absurd z (by decide), fun _ => ⟨fun z => absurd z (by decide), fun _ => ⟨?_, I2⟩⟩⟩⟩)) (fun z => absurd z (by omega)), fun z => absurd rfl z⟩⟩
      rw [pm.1, rt.1]
    · exact ⟨fun z => absurd z (by decide), fun _ => ⟨fun z => absurd z (by decide), fun _ => ⟨fun _ => cv_countHoles_s hn pm (hB _ (fun z => absurd z (by omega)) (fun _ => hF _ (fun m2 I2 rt => ⟨fun z => absurd z (by decide), fun _ => ⟨fun z => absurd z (by decide), fun _ => ⟨fun z => absurd z (by decide), fun _ => ⟨rt.1.symm, I2⟩⟩⟩⟩))), fun z => absurd rfl z⟩⟩⟩
    · refine ⟨fun z => absurd z (by decide), fun _ => ⟨fun z => absurd z (by decide), fun _ => ⟨fun z => absurd z (by decide), fun _ => ⟨fun _ => cv_sumOfHoles_s pc pm (hB _ (fun z => absurd z (by omega)) (fun _ => hF _ (fun m2 I2 rt => ⟨fun z => absurd z (by decide), fun _ => ⟨fun _ => mo_runPlaces_s rt.1 (by omega) (fun i hi => ?_) ⟨rfl, I2⟩, fun z => absurd rfl z⟩⟩))), fun z => absurd rfl z⟩⟩⟩⟩
      rw [(rt.2 i (by omega)).1, (rt.2 i (by omega)).2, hl_r pc (by omega)]
    · refine ⟨fun z => absurd z (by decide), fun _ => ⟨fun z => absurd z (by decide), fun _ => ⟨fun z => absurd z (by decide), fun _ => ⟨fun z => absurd z (by decide), fun _ => cv_greatestHole_s pc pm (hB _ (fun z => absurd z (by omega)) (fun _ => hF _ (fun m2 I2 rt => ⟨fun z => absurd z (by decide), fun _ => ⟨fun z => absurd z (by decide), fun _ => ⟨fun _ => mo_greatestRun_s (g := fun i => f (i + 1) - l i - 1) rt.1 (by omega) (fun i hi => ?_) (fun i hi => ?_) ⟨rfl, I2⟩, fun z => absurd rfl z⟩⟩⟩)))⟩⟩⟩⟩
      · have := pc.a (i + 1) (by omega)
        show f (i + 1) - l i - 1 ≤ 1000
        omega
      · rw [(rt.2 i (by omega)).1, (rt.2 i (by omega)).2, hl_r pc (by omega)]
  · refine op2 (v := -1) (s' := s) ci mr ri (fun Q hQ => ?_) (fun μ1 mr1 Q hQ => ?_)
    · unfold sx_covered
      rw [sx_isBelow_i]
      exact pl_bb (fun _ => hQ _ Fr.rfl' ci) (fun z => absurd z h1)
    · unfold mo_covered
      rintro m7 rfl
      rw [mo_in_0, pl_bcong pl_le4]
      exact pl_bb (fun _ => hQ _ Fr.th mr1.th) (fun z => absurd z h1)
theorem op_piece (a1 a2 : Int32) : Opp (sx_piece a1 a2) (mo_piece a1 a2) := by
  rintro μ ⟨⟨s, ci, mr⟩, ri⟩
  unfold sx_piece
  refine cv_readFrom_s ci (fun m n f l hf cm pc pm => ?_)
  have mrm := mr.fr hf (fun o k h1 h2 q => by omega)
  have hn := pc.n30
  have hR : ∀ r, (∀ m2, Inv m2 → MR m2 s → RT n f l m2 → ((0 ≤ a1 ∧ a1 < nI n) → (0 ≤ a2 ∧ a2 < 3) → (a2 = (0 : Int32) → vp_in a1 31 ∧ (r = (m2 117 a1.toNatClampNeg) ∧ Inv m2)) ∧ (¬ a2 = (0 : Int32) → (a2 = (1 : Int32) → vp_in a1 31 ∧ (r = (m2 118 a1.toNatClampNeg) ∧ Inv m2)) ∧ (¬ a2 = (1 : Int32) → vp_in a1 31 ∧ vp_in a1 31 ∧ mo_metBits (m2 117 a1.toNatClampNeg) (m2 118 a1.toNatClampNeg) m2 (fun r8 m7 => mo_onesOf r8 m7 (fun r10 m9 => r = r10 ∧ Inv m9))))) ∧ (¬ ((0 ≤ a1 ∧ a1 < nI n) ∧ (0 ≤ a2 ∧ a2 < 3)) → r = -1)) → mo_piece a1 a2 m (fun r2 m2 => r = r2 ∧ Inv m2) := by
    intro r hr
    unfold mo_piece
    rintro m1 rfl
    refine mo_layRuns_t mrm.th ci.1 pc (fun m2 hf2 rt => ?_)
    have I2 := inv2 mr ri hf cm (Fr.th.tr hf2.uN) (mrm.th.u hf2)
    obtain ⟨g1, g2⟩ := hr m2 I2 (mrm.th.u hf2) rt
    rw [mo_in_0, rt.1, pl_bcong (pl_sub1 (by omega))]
    refine pl_bb (fun z => ⟨g2 (fun y => z y.1), I2⟩) (fun z => ?_)
    rw [mo_in_0, pl_bcong pl_le2]
    exact pl_bb (fun y => ⟨g2 (fun x => y x.2), I2⟩) (fun y => g1 z y)
  rw [sx_isBelow_i, pm.1]
  refine pl_bb (fun z => ?_) (fun z => ?_)
  · exact hR _ (fun m2 I2 mr2 rt => ⟨fun y => absurd y z, fun _ => rfl⟩)
  · rw [sx_isBelow_i]
    refine pl_bb (fun y => ?_) (fun y => ?_)
    · exact hR _ (fun m2 I2 mr2 rt => ⟨fun _ x => absurd x y, fun _ => rfl⟩)
    · have y' := y
      have z' := z
      obtain ⟨i, hi, rfl⟩ := pl_of rfl (by omega) z
      obtain ⟨w, hw, rfl⟩ := pl_of (y := 3) (N := 3) rfl (by decide) y
      have i31 : vp_in (nI i) 31 := vp_in_nI (by omega) (by decide)
      have ai := pc.a i hi
      have w3 : w = 0 ∨ w = 1 ∨ w = 2 := by omega
      rw [pl_cl (show i < 30 by omega)] at *
      rcases w3 with rfl | rfl | rfl
      · refine ⟨fun _ => ⟨pl_in (by omega), hR _ (fun m2 I2 mr2 rt => ⟨fun _ _ => ⟨fun _ => ⟨i31, ?_, I2⟩, fun z => absurd rfl z⟩, fun x => absurd ⟨z', y'⟩ x⟩)⟩, fun z => absurd rfl z⟩
        rw [(pm.2 i hi).1, (rt.2 i hi).1]
      · refine ⟨fun z => absurd z (by decide), fun _ => ⟨fun _ => ⟨pl_in (by omega), hR _ (fun m2 I2 mr2 rt => ⟨fun _ _ => ⟨fun z => absurd z (by decide), fun _ => ⟨fun _ => ⟨i31, ?_, I2⟩, fun z => absurd rfl z⟩⟩, fun x => absurd ⟨z', y'⟩ x⟩)⟩, fun z => absurd rfl z⟩⟩
        rw [(pm.2 i hi).2.1, (rt.2 i hi).2]
      · refine ⟨fun z => absurd z (by decide), fun _ => ⟨fun z => absurd z (by decide), fun _ => ⟨pl_in (by omega), hR _ (fun m2 I2 mr2 rt => ⟨fun _ _ => ⟨fun z => absurd z (by decide), fun _ => ⟨fun z => absurd z (by decide), fun _ => ⟨i31, i31, ?_⟩⟩⟩, fun x => absurd ⟨z', y'⟩ x⟩)⟩⟩⟩
        rw [(rt.2 i hi).1, (rt.2 i hi).2, i3_n, i3_n]
        refine mo_metBits_s mr2 ci.1 (pl_B (by omega) (by omega)) (pl_B (by omega) (by omega)) (mo_onesOf_s ⟨?_, I2⟩)
        rw [(pm.2 i hi).2.2, pks_mt ci.1 pc hi]
theorem op_hole (a1 a2 : Int32) : Opp (sx_hole a1 a2) (mo_hole a1 a2) := by
  rintro μ ⟨⟨s, ci, mr⟩, ri⟩
  unfold sx_hole
  refine cv_readFrom_s ci (fun m n f l hf cm pc pm => ?_)
  have mrm := mr.fr hf (fun o k h1 h2 q => by omega)
  have hn := pc.n30
  have hR : ∀ r, (∀ m2, Inv m2 → RF n f l m2 → ((0 ≤ a1 ∧ a1 < nI (n - 1)) → (0 ≤ a2 ∧ a2 < 2) → (a2 = (0 : Int32) → vp_in a1 31 ∧ (r = (m2 117 a1.toNatClampNeg) ∧ Inv m2)) ∧ (¬ a2 = (0 : Int32) → vp_in a1 31 ∧ (r = (m2 118 a1.toNatClampNeg) ∧ Inv m2))) ∧ (¬ ((0 ≤ a1 ∧ a1 < nI (n - 1)) ∧ (0 ≤ a2 ∧ a2 < 2)) → r = -1)) → mo_hole a1 a2 m (fun r2 m2 => r = r2 ∧ Inv m2) := by
    intro r hr
    unfold mo_hole
    rintro m1 rfl
    refine mo_layRuns_f mrm.th ci.1 pc (fun m2 hf2 rt => ?_)
    have I2 := inv2 mr ri hf cm (Fr.th.tr hf2.uN) (mrm.th.u hf2)
    obtain ⟨g1, g2⟩ := hr m2 I2 rt
    rw [mo_in_0, rt.1, pl_bcong (pl_sub1 (by omega))]
    refine pl_bb (fun z => ⟨g2 (fun y => z y.1), I2⟩) (fun z => ?_)
    rw [mo_in_0, pl_bcong pl_le1]
    exact pl_bb (fun y => ⟨g2 (fun x => y x.2), I2⟩) (fun y => g1 z y)
  refine cv_countHoles_s hn pm ?_
  rw [sx_isBelow_i]
  refine pl_bb (fun z => ?_) (fun z => ?_)
  · exact hR _ (fun m2 I2 rt => ⟨fun y => absurd y z, fun _ => rfl⟩)
  · rw [sx_isBelow_i]
    refine pl_bb (fun y => ?_) (fun y => ?_)
    · exact hR _ (fun m2 I2 rt => ⟨fun _ x => absurd x y, fun _ => rfl⟩)
    · have y' := y
      have z' := z
      obtain ⟨i, hi, rfl⟩ := pl_of rfl (by omega) z
      obtain ⟨w, hw, rfl⟩ := pl_of (y := 2) (N := 2) rfl (by decide) y
      have i31 : vp_in (nI i) 31 := vp_in_nI (by omega) (by decide)
      have ai := pc.a (i + 1) (by omega)
      have bi := pc.b i (by omega)
      have w2 : w = 0 ∨ w = 1 := by omega
      rw [pl_inc, pl_cl (show i < 30 by omega), pl_cl (show i + 1 < 30 by omega)]
      rw [pl_cl (show i < 30 by omega)] at hR
      rcases w2 with rfl | rfl
      · refine ⟨fun _ => ⟨pl_in (by omega), hR _ (fun m2 I2 rt => ⟨fun _ _ => ⟨fun _ => ⟨i31, ?_, I2⟩, fun z => absurd rfl z⟩, fun x => absurd ⟨z', y'⟩ x⟩)⟩, fun z => absurd rfl z⟩
        rw [(pm.2 i (by omega)).2.1, (rt.2 i (by omega)).1, pl_inc]
      · refine ⟨fun z => absurd z (by decide), fun _ => ⟨pl_in (by omega), hR _ (fun m2 I2 rt => ⟨fun _ _ => ⟨fun z => absurd z (by decide), fun _ => ⟨i31, ?_, I2⟩⟩, fun x => absurd ⟨z', y'⟩ x⟩)⟩⟩
        rw [(pm.2 (i + 1) (by omega)).1, (rt.2 i (by omega)).2, nI_sub1 (by omega)]
end CO
