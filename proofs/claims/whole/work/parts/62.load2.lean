/-! load, the reference; both -/
abbrev fQp (k : Nat) : Nat → Nat → Prop := fun o j => (o = 104 ∧ (j = 21 ∨ j = 22 ∨ j = 39)) ∨ (131 ≤ o ∧ o ≤ 133 ∧ j = k)
section L2
variable {μ : sl_M} {s : SS} {Q : Int32 → sl_M → Prop} {P : sl_M → Prop} {n : Nat} {t : Nat → Nat} {st : St}
theorem mo_readPart_s (tx : TX n t) (h : TM n t st μ) {k : Nat} (hk : k < 27) (e : μ 104 39 = nI k) (hP : ∀ m, Fr (fQp k) μ m → TM n t (prt n t st).2 m → m 104 39 = nI (k + 1) → m 131 k = nI (prt n t st).1.1 → m 132 k = nI (prt n t st).1.2.1 → m 133 k = i3 (prt n t st).1.2.2 → P m) : mo_readPart μ P := by
  have kin : vp_in (nI k) 27 := vp_in_nI hk (by decide)
  have kcl : (nI k).toNatClampNeg = k := nI_clamp (by omega)
  have b3 := nu_lt (n := n) (t := t) (most := 3) (st := st)
  unfold mo_readPart
  rw [e, kcl]
  refine mo_readFigures_s (most := 3) tx h (by omega) (by omega) (fun m9 f9 h9 => ⟨kin, ?_⟩)
  rintro m11 rfl
  have h11 := h9.fr (p := fun o _ => o = 131) (m := sl_up m9 131 k (nI (nu n t 3 st).1)) (Fr.rfl'.up rfl) (fun o k z => by omega)
  -- behind the second number
  have tail : ∀ m15, Fr (fQp k) μ m15 → TM n t (nl n t (nu n t 3 st).1 (ex n t 45 (nu n t 3 st).2)).2 m15 → m15 104 39 = nI k → m15 131 k = nI (nu n t 3 st).1 → m15 132 k = nI (nl n t (nu n t 3 st).1 (ex n t 45 (nu n t 3 st).2)).1 → mo_readPart_B53 P m15 := by
    intro m15 f15 h15 c1 c2 c3
    have last : ∀ m' (w : Int32), Fr fG m15 m' → TM n t (prt n t st).2 m' → w = i3 (prt n t st).1.2.2 → ∀ m4, m4 = sl_up m' 133 k w → ∀ m5, m5 = sl_up m4 104 39 ((m4 104 39) + (1 : Int32)) → P m5 := by
      rintro m' w f' h' ew m4 rfl m5 rfl
      have c39 : m' 104 39 = nI k := by rw [f' _ _ (by omega)]; exact c1
      rw [pl_up_o (show (104 : Nat) ≠ 133 by omega), c39, pl_inc]
      refine hP _ (((f15.tr (f'.mono (fun o k z => by omega))).up (by omega)).up (by omega)) (h'.fr (p := fun o j => o = 133 ∨ (o = 104 ∧ j = 39)) ((Fr.rfl'.up (by omega)).up (by omega)) (fun o k z => by omega)) pl_up_s ?_ ?_ ?_
      · rw [pl_up_o (by omega), pl_up_o (by omega), f' _ _ (by omega)]
        exact c2
      · rw [pl_up_o (by omega), pl_up_o (by omega), f' _ _ (by omega)]
        exact c3
      · rw [pl_up_o (by omega), pl_up_s]
        exact ew
    unfold mo_readPart_B53
    dsimp only
    rw [c1, kcl]
    refine mo_goesOn_s tx h15 (by decide) (fun m1 f1 h1 => pl_bb (fun z => ⟨kin, last m1 1 f1 ?_ ?_⟩) (fun z => ?_))
    · unfold prt
      show TM n t (if _ then _ else _) m1
      rw [if_neg z]
      exact h1
    · show 1 = i3 (if _ then _ else _)
      rw [if_neg z]
      rfl
    · refine mo_readSigned_s (most := 2) tx h1 (by omega) (by omega) (fun m5 f5 h5 => ⟨kin, last m5 _ (f1.tr f5) ?_ ?_⟩)
      · unfold prt
        show TM n t (if _ then _ else _) m5
        rw [if_pos z]
        exact h5
      · show _ = i3 (if _ then _ else _)
        rw [if_pos z]
  refine mo_wants_s tx h11 (by decide) (fun m12 f12 h12 => ?_)
  have c39 : m12 104 39 = nI k := by rw [f12 _ _ (by omega), pl_up_o (by omega), f9 _ _ (by omega)]; exact e
  have c131 : m12 131 k = nI (nu n t 3 st).1 := by rw [f12 _ _ (by omega), pl_up_s]
  have F12 : Fr (fQp k) μ m12 := ((f9.mono (fun o k z => by omega)).up (by omega)).tr (f12.mono (fun o k z => by omega))
  rw [h12.2.2.2.2, pl_bz, c39, kcl, c131]
  refine pl_bb (fun z => ⟨kin, ?_⟩) (fun z => ⟨kin, ?_⟩)
  · refine mo_readNotLess_s tx h12 (by omega) (fun m13 f13 h13 => ⟨kin, ?_⟩)
    rintro m15 rfl
    refine tail _ ((F12.tr (f13.mono (fun o k z => by omega))).up (by omega)) (h13.fr (p := fun o _ => o = 132) (Fr.rfl'.up rfl) (fun o k z => by omega)) ?_ ?_ pl_up_s
    · rw [pl_up_o (by omega), f13 _ _ (by omega)]
      exact c39
    · rw [pl_up_o (by omega), f13 _ _ (by omega)]
      exact c131
  · rintro m16 rfl
    have eb := nl_b (n := n) (t := t) (a := (nu n t 3 st).1) z
    refine tail _ (F12.up (by omega)) ?_ ?_ ?_ ?_
    · rw [eb]
      exact h12.fr (p := fun o _ => o = 132) (Fr.rfl'.up rfl) (fun o k z => by omega)
    · rw [pl_up_o (by omega)]
      exact c39
    · rw [pl_up_o (by omega)]
      exact c131
    · rw [pl_up_s, eb]
      rfl
/-! bringing them in -/
noncomputable def lout (s : SS) : Nat := Classical.epsilon (fun k => k < 30 ∧ ¬ sI s k ∧ ∀ j, j < k → sI s j)
theorem lout_ok (h : ¬ sN s = 30) : lout s < 30 ∧ ¬ sI s (lout s) ∧ ∀ j, j < lout s → sI s j := by
  refine Classical.epsilon_spec (p := fun k => k < 30 ∧ ¬ sI s k ∧ ∀ j, j < k → sI s j) ?_
  rcases lo_cases s with a | a
  · exact absurd (fb_ct_all.mpr a) h
  · exact a
noncomputable def sq (s : SS) (x : Nat → Int × Int × Int) : Nat → SS × Nat
  | 0 => (s, 0)
  | p + 1 => if sN (sq s x p).1 = 30 then sq s x p else (fu (sq s x p).1 (lout (sq s x p).1) (true, x p), (sq s x p).2 + 1)
abbrev px (n : Nat) (t : Nat → Nat) (j : Nat) : Int × Int × Int := ((pLo n t j : Int), (pHi n t j : Int), pWe n t j)
theorem pa_bringInto_s (hc : CPre s μ) {N : Nat} (hN : N ≤ 20) (e : μ 50 3 = nI N) (hd : pD n t N 51 52 53 μ) (hv : ∀ p, p < N → vS (pLo n t p : Int) (pHi n t p : Int) (pWe n t p)) (hQ : ∀ m, Fr fC μ m → CInv (sq s (px n t) N).1 m → Q (nI (sq s (px n t) N).2) m) : pa_bringInto μ Q := by
  refine lq3 (fun k x2 x3 m => pa_bringInto_L4 Q k x2 x3 m) (fun p x2 x3 m => x2 = nI (sq s (px n t) p).2 ∧ x3 = nI p ∧ Fr fS μ m ∧ CPre (sq s (px n t) p).1 m) N _ _ _ ⟨rfl, rfl, Fr.rfl', hc⟩ ?_ ?_
  · rintro k x2 x3 m ⟨rfl, rfl, hf, cp⟩
    refine ⟨fun z => absurd z (by rw [hf _ _ (by omega), e, nI_ltI (by omega) (by omega)]; omega), fun _ => ix_relayer_c cp (fun m' f' c' => hQ m' ((hf.mono (fun o k z => by omega)).tr f') c')⟩
  · rintro k p x2 x3 m hp ⟨rfl, rfl, hf, cp⟩ ih
    have pin : vp_in (nI p) 20 := vp_in_nI (by omega) (by decide)
    have pcl : (nI p).toNatClampNeg = p := nI_clamp (by omega)
    refine ⟨fun _ => ?_, fun z => absurd (by rw [hf _ _ (by omega), e, nI_ltI (by omega) (by omega)]; exact hp) z⟩
    by_cases c : sN (sq s (px n t) p).1 = 30
    · refine ix_leastOut_n cp.2.1 (fb_ct_all.mp c) ⟨fun _ => ?_, fun z => absurd (by decide) z⟩
      have es : sq s (px n t) (p + 1) = sq s (px n t) p := if_pos c
      rw [pl_inc]
      refine ih _ _ _ ⟨by rw [es], rfl, hf, by rw [es]; exact cp⟩
    · have lo := lout_ok c
      have es : sq s (px n t) (p + 1) = (fu (sq s (px n t) p).1 (lout (sq s (px n t) p).1) (true, px n t p), (sq s (px n t) p).2 + 1) := if_neg c
      refine ix_leastOut_k cp.2.1 lo.1 lo.2.1 lo.2.2 ⟨fun z => absurd z (nI_pos (by omega)), fun _ => ⟨pin, pin, pin, ?_⟩⟩
      rw [pcl, hf 51 p (by omega), hf 52 p (by omega), hf 53 p (by omega), (hd p hp).1, (hd p hp).2.1, (hd p hp).2.2, i3_n (pLo n t p), i3_n (pHi n t p)]
      refine ix_bringIn_d cp lo.1 (hv p hp) (fun m' f' c' => ?_)
      rw [pl_inc, pl_inc]
      exact ih _ _ _ ⟨by rw [es], rfl, hf.tr f', by rw [es]; exact c'⟩
theorem mo_load_L (hm : MR μ s) {N : Nat} (hN : N ≤ 20) (e : μ 104 39 = nI N) (hd : pD n t N 131 132 133 μ) (hQ : ∀ m, Fr fM μ m → MR m (sq s (px n t) N).1 → Q (nI (sq s (px n t) N).2) m) : ∃ k, mo_load_L98 Q k 0 0 μ := by
  refine lq3 (fun k x1 x2 m => mo_load_L98 Q k x1 x2 m) (fun p x1 x2 m => x1 = nI (sq s (px n t) p).2 ∧ x2 = nI p ∧ Fr fM μ m ∧ MR m (sq s (px n t) p).1) N _ _ _ ⟨rfl, rfl, Fr.rfl', hm⟩ ?_ ?_
  · rintro k x1 x2 m ⟨rfl, rfl, hf, cp⟩
    exact ⟨fun z => absurd z (by rw [hf _ _ (by omega), e, nI_ltI (by omega) (by omega)]; omega), fun _ => hQ m hf cp⟩
  · rintro k p x1 x2 m hp ⟨rfl, rfl, hf, cp⟩ ih
    have pin : vp_in (nI p) 27 := vp_in_nI (by omega) (by decide)
    have pcl : (nI p).toNatClampNeg = p := nI_clamp (by omega)
    refine ⟨fun _ => ?_, fun z => absurd (by rw [hf _ _ (by omega), e, nI_ltI (by omega) (by omega)]; exact hp) z⟩
    by_cases c : sN (sq s (px n t) p).1 = 30
    · refine mo_leastOut_x cp (v := -1) (Or.inl ⟨rfl, fb_ct_all.mp c⟩) ⟨fun _ => ?_, fun z => absurd (by decide) z⟩
      have es : sq s (px n t) (p + 1) = sq s (px n t) p := if_pos c
      rw [pl_inc]
      refine ih _ _ _ ⟨by rw [es], rfl, hf, by rw [es]; exact cp⟩
    · have lo := lout_ok c
      have es : sq s (px n t) (p + 1) = (fu (sq s (px n t) p).1 (lout (sq s (px n t) p).1) (true, px n t p), (sq s (px n t) p).2 + 1) := if_neg c
      refine mo_leastOut_x cp (v := nI (lout (sq s (px n t) p).1)) (Or.inr ⟨_, lo.1, rfl, lo.2.1, lo.2.2⟩) ⟨fun z => absurd z (nI_pos (by omega)), fun _ => ⟨pin, pin, pin, ?_⟩⟩
      rw [pcl, hf 131 p (by omega), hf 132 p (by omega), hf 133 p (by omega), (hd p hp).1, (hd p hp).2.1, (hd p hp).2.2, i3_n (pLo n t p), i3_n (pHi n t p)]
      refine mo_comes_d cp lo.1 (fun m' f' c' => ?_)
      rw [pl_inc, pl_inc]
      exact ih _ _ _ ⟨by rw [es], rfl, hf.tr f', by rw [es]; exact c'⟩
abbrev fY : Nat → Nat → Prop := fun o k => (o = 104 ∧ (k = 5 ∨ k = 20 ∨ k = 21 ∨ k = 22 ∨ k = 39)) ∨ (131 ≤ o ∧ o ≤ 133)
theorem mo_load_s (tx : TX n t) (e20 : μ 104 20 = nI n) (e121 : ∀ i, i < n → μ 121 i = nI (t i)) {J : Nat} (hJ : J ≤ 20) (j1 : mor n t J = false) (j2 : ∀ i, i < J → mor n t i = true) (hbad : ∀ m, Fr fY μ m → m 104 20 = 0 → (eE n (prt n t (sS n t J)).2).1 = true → Q (-100 - nI (eE n (prt n t (sS n t J)).2).2) m) (hok : ∀ m, Fr fY μ m → m 104 20 = 0 → (eE n (prt n t (sS n t J)).2).1 = false → m 104 39 = nI (J + 1) → pD n t (J + 1) 131 132 133 m → ∃ k, mo_load_L98 Q k 0 0 m) : mo_load μ Q := by
  have n80 := tx.1
  rintro m12 rfl m13 rfl
  refine ⟨rfl, ?_⟩
  rintro m14 rfl m15 rfl
  have F15 : Fr fY μ (sl_up (sl_up (sl_up (sl_up μ 104 5 0) 104 21 0) 104 22 0) 104 39 0) := (((Fr.rfl'.up (by omega)).up (by omega)).up (by omega)).up (by omega)
  have h15 : TM n t (false, 0) (sl_up (sl_up (sl_up (sl_up μ 104 5 0) 104 21 0) 104 22 0) 104 39 0) := ⟨Nat.zero_le _, by simp [pl_up]; exact e20, fun i hi => by simp [pl_up]; exact e121 i hi, by simp [pl_up]; rfl, by simp [pl_up]; rfl⟩
  have c15 : sl_up (sl_up (sl_up (sl_up μ 104 5 0) 104 21 0) 104 22 0) 104 39 0 104 39 = nI 0 := pl_up_s
  generalize sl_up (sl_up (sl_up (sl_up μ 104 5 0) 104 21 0) 104 22 0) 104 39 0 = m15 at *
  refine mo_readPart_s tx h15 (k := 0) (by omega) c15 (fun m16 f16 h16 c16 d1 d2 d3 => ?_)
  refine lp0 (fun k m => mo_load_L24 Q k m) (fun k m => Fr fY μ m ∧ TM n t (prt n t (sS n t k)).2 m ∧ m 104 39 = nI (k + 1) ∧ pD n t (k + 1) 131 132 133 m) J _ ⟨F15.tr (f16.mono (fun o k z => by omega)), h16, c16, fun i hi => by rw [show i = 0 by omega]; exact ⟨d1, d2, d3⟩⟩ ?_ ?_
  · rintro k m ⟨hf, hm, hc, hd⟩
    have b47 : ∀ m', Fr fY μ m' → TM n t (prt n t (sS n t J)).2 m' → m' 104 39 = nI (J + 1) → pD n t (J + 1) 131 132 133 m' → mo_load_B47 Q m' := by
      intro m' f' h' c' d'
      have i1 := h'.1
      -- the end, bad or not
      have b74 : ∀ (b : Bool) (v : Int32), v = pl_b (b = true) → eE n (prt n t (sS n t J)).2 = (b, (prt n t (sS n t J)).2.2) → mo_load_B74 Q (sl_up m' 104 22 v) := by
        rintro b v rfl eb
        rintro m7 rfl
        have F7 : Fr fY μ (sl_up (sl_up m' 104 22 (pl_b (b = true))) 104 20 0) := (f'.up (by omega)).up (by omega)
        rw [pl_up_k (show (22 : Nat) ≠ 20 by omega), pl_up_s, pl_bz]
        refine pl_bb (fun z => hok _ F7 pl_up_s ?_ ?_ ?_) (fun z => ?_)
        · rw [eb]
          simpa using z
        · rw [pl_up_k (by omega), pl_up_k (by omega)]
          exact c'
        · exact d'.fr (p := fun o _ => o = 104) ((Fr.rfl'.up (by omega)).up (by omega)) (fun i _ => by omega)
        · have q := hbad _ F7 pl_up_s (by rw [eb]; exact z)
          rw [eb] at q
          rw [pl_up_k (by omega), pl_up_k (by omega), h'.2.2.2.1]
          exact q
      unfold mo_load_B47
      dsimp only
      rw [h'.2.2.2.2, h'.2.2.2.1, h'.2.1, pl_bz]
      refine pl_bb (fun z => ⟨fun c => ⟨rfl, ?_⟩, fun c => ⟨rfl, ?_⟩⟩) (fun z => ⟨rfl, ?_⟩)
      · rw [nI_ltI (by omega) (by omega)] at c
        rintro m4 rfl
        refine b74 true 1 rfl ?_
        unfold eE
        rw [if_neg z, if_pos c]
      · rw [nI_ltI (by omega) (by omega)] at c
        rintro m5 rfl
        refine b74 false 0 rfl ?_
        unfold eE
        rw [if_neg z, if_neg c]
        exact Prod.ext (by simpa using z) rfl
      · rintro m6 rfl
        refine b74 true 1 rfl ?_
        unfold eE
        rw [if_pos z]
        exact Prod.ext z rfl
    unfold mo_load_L24
    rw [hm.2.2.2.2, pl_bz]
    refine pl_bb (fun z => ?_) (fun z => b47 m hf hm hc hd)
    refine mo_goesOn_s tx hm (by decide) (fun m1 f1 h1 => pl_bb (fun y => ?_) (fun y => ?_))
    · have q := sk_f y
      rw [q] at h1
      exact b47 m1 (hf.tr (f1.mono (fun o k z => by omega))) h1 (by rw [f1 _ _ (by omega)]; exact hc) (hd.fr f1 (fun i _ => by omega))
    · have : mor n t J = true := y
      rw [j1] at this
      exact Bool.noConfusion this
  · rintro k' k m hk ⟨hf, hm, hc, hd⟩ ih
    have mk := j2 k hk
    have q := sk_t mk
    unfold mo_load_L24
    rw [hm.2.2.2.2, pl_bz]
    refine pl_bb (fun z => ?_) (fun z => by rw [q.1] at z; exact Bool.noConfusion z)
    refine mo_goesOn_s tx hm (by decide) (fun m1 f1 h1 => pl_bb (fun y => absurd mk y) (fun y => ?_))
    refine mo_readPart_s tx h1 (k := k + 1) (by omega) (by rw [f1 _ _ (by omega)]; exact hc) (fun m2 f2 h2 c2 d1 d2 d3 => ?_)
    refine ih _ ⟨(hf.tr (f1.mono (fun o k z => by omega))).tr (f2.mono (fun o k z => by omega)), h2, c2, fun i hi => ?_⟩
    by_cases e : i = k + 1
    · subst e
      exact ⟨d1, d2, d3⟩
    · rw [f2 _ _ (by omega), f2 _ _ (by omega), f2 _ _ (by omega), f1 _ _ (by omega), f1 _ _ (by omega), f1 _ _ (by omega)]
      exact hd i (by omega)
theorem TapeR.tx {m : sl_M} (h : TapeR m n t) : TX n t ∧ TC n t (false, 0) m := ⟨⟨h.1, fun i hi => (h.2.2.2.2.2 i hi).2.2⟩, Nat.zero_le _, h.2.1, fun i hi => (h.2.2.2.2.2 i hi).1, h.2.2.2.1, h.2.2.2.2.1⟩
theorem eE_ok {st : St} (h : (eE n st).1 = false) : st.1 = false ∧ eE n st = st ∧ n ≤ st.2 := by
  unfold eE at h ⊢
  by_cases e : st.1 = true
  · rw [if_pos e] at h
    rw [e] at h
    exact Bool.noConfusion h
  · rw [if_neg e] at h ⊢
    by_cases e2 : st.2 < n
    · rw [if_pos e2] at h
      exact Bool.noConfusion h
    · rw [if_neg e2]
      exact ⟨by simpa using e, rfl, by omega⟩
theorem eE_le {st : St} (h : st.2 ≤ n) : (eE n st).2 ≤ n := by
  unfold eE
  split
  · exact h
  · split
    · exact h
    · exact h
theorem op_load : Opp sx_load mo_load := by
  rintro μ ⟨⟨s, ci, mr⟩, ri⟩
  obtain ⟨n, t, tp⟩ := ri.2.2.1
  obtain ⟨tx, tc⟩ := tp.tx
  have n80 := tx.1
  obtain ⟨J, hJ, j1, j2⟩ := sS_stop (n := n) (t := t) n80
  unfold sx_load
  refine pa_readFrom_s tx tc hJ j1 j2 (fun m1 f1 h1 hd1 => ?_)
  refine tp_finish_s tx h1 (fun m2 f2 z1 z2 z3 el => ?_)
  have F2 : Fr fA μ m2 := f1.tr (f2.mono (fun o k z => by omega))
  have mr2 := mr.fr F2 (fun o k h1 h2 z => by omega)
  have e20 : m2 104 20 = nI n := by rw [F2 _ _ (by omega)]; exact tp.2.2.1
  have e121 : ∀ i, i < n → m2 121 i = nI (t i) := fun i hi => by rw [F2 _ _ (by omega)]; exact (tp.2.2.2.2.2 i hi).2.1
  have tape : ∀ m, Fr (fun o k => fC o k ∨ fN o k ∨ (o = 104 ∧ k = 20)) m2 m → m 104 20 = 0 → ∃ n t, TapeR m n t := fun m hf e => ⟨0, t, by omega, by rw [hf _ _ (by omega), z1]; rfl, by rw [e]; rfl, by rw [hf _ _ (by omega), z2], by rw [hf _ _ (by omega), z3], fun i hi => absurd hi (by omega)⟩
  have toF : ∀ m, Fr (fun o k => fC o k ∨ fN o k ∨ (o = 104 ∧ k = 20)) m2 m → Fr (fun o k => fC o k ∨ fN o k ∨ fT o k) μ m := fun m hf => (F2.mono (fun o k z => by omega)).tr (hf.mono (fun o k z => by omega))
  cases hb : (eE n (prt n t (sS n t J)).2).1 with
  | true =>
    rw [if_pos rfl]
    refine ⟨fun z => absurd z (nI_pos (by omega)), fun _ => ?_⟩
    refine mo_load_s tx e20 e121 hJ j1 j2 (fun m f c _ => ⟨rfl, ⟨s, ?_, ?_⟩, ?_⟩) (fun m f c z => by rw [hb] at z; exact Bool.noConfusion z)
    · exact (ci.fr F2 (fun o k h1 h2 z => by omega)).fr f (fun o k h1 h2 z => by omega)
    · exact mr2.fr f (fun o k h1 h2 z => by omega)
    · have f' : Fr (fun o k => fC o k ∨ fN o k ∨ (o = 104 ∧ k = 20)) m2 m := f.mono (fun o k z => by omega)
      exact ri.tp (toF m f') (fun o k z => z) (tape m f' c)
  | false =>
    rw [if_neg (by decide)]
    have eo := eE_ok hb
    obtain ⟨hJ20, c50, d50⟩ := hd1 eo.1
    have hv : ∀ p, p < J + 1 → vS (pLo n t p : Int) (pHi n t p : Int) (pWe n t p) := fun p hp => by
      by_cases e : p = J
      · subst e
        exact (prt_ok eo.1).2.2
      · exact (prt_ok (sk_t (j2 p (by omega))).1).2.2
    refine ⟨fun _ => ?_, fun z => absurd (by decide) z⟩
    have ci2 := ci.fr F2 (fun o k h1 h2 z => by omega)
    refine pa_bringInto_s (n := n) (t := t) ci2.pre (N := J + 1) (by omega) (by rw [f2 _ _ (by omega)]; exact c50) (d50.fr f2 (fun i _ => by omega)) hv (fun m4 f4 c4 => ?_)
    have mr4 := mr2.fr f4 (fun o k h1 h2 z => by omega)
    refine mo_load_s tx (by rw [f4 _ _ (by omega)]; exact e20) (fun i hi => by rw [f4 _ _ (by omega)]; exact e121 i hi) hJ j1 j2 (fun m f c z => by rw [hb] at z; exact Bool.noConfusion z) (fun m f c _ c39 d39 => ?_)
    refine mo_load_L (n := n) (t := t) (mr4.fr f (fun o k h1 h2 z => by omega)) (N := J + 1) (by omega) c39 d39 (fun m5 f5 mr5 => ⟨rfl, ⟨_, ?_, mr5⟩, ?_⟩)
    · exact (c4.fr f (fun o k h1 h2 z => by omega)).fr f5 (fun o k h1 h2 z => by omega)
    · have f' : Fr (fun o k => fC o k ∨ fN o k ∨ (o = 104 ∧ k = 20)) m2 m5 := ((f4.mono (fun o k z => by omega)).tr (f.mono (fun o k z => by omega))).tr (f5.mono (fun o k z => by omega))
      exact ri.tp (toF m5 f') (fun o k z => z) (tape m5 f' (by rw [f5 _ _ (by omega)]; exact c))
end L2
