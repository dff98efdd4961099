/-! feed, clear, paper; image, undo -/
abbrev fT : Nat → Nat → Prop := fun o k => o = 43 ∨ o = 44 ∨ o = 121 ∨ (o = 104 ∧ k = 20)
abbrev fI : Nat → Nat → Prop := fun o k => (60 ≤ o ∧ o < 90) ∨ o = 138 ∨ (o = 0 ∧ k = 11) ∨ (o = 104 ∧ k = 48)
theorem RInv.tp {p : Nat → Nat → Prop} {μ μ' : sl_M} (h : RInv μ) (hf : Fr p μ μ') (hp : ∀ o k, p o k → fC o k ∨ fN o k ∨ fT o k) (ht : ∃ n t, TapeR μ' n t) : RInv μ' := by
  obtain ⟨⟨im, h1⟩, h2, -, h4, h5⟩ := h
  refine ⟨⟨im, h1.fr hf (fun o k hh q => ?_)⟩, fun c hc => (h2 c hc).fr hf (fun o k hh q => ?_), ht, h4.fr hf (fun o k hh q => ?_), h5.fr hf (fun o k hh q => ?_)⟩
  all_goals
    have := hp o k q
    omega
theorem RInv.im {p : Nat → Nat → Prop} {μ μ' : sl_M} (h : RInv μ) (hf : Fr p μ μ') (hp : ∀ o k, p o k → fC o k ∨ fN o k ∨ fI o k) (hi : ∃ im, ImR im μ') : RInv μ' := by
  obtain ⟨-, h2, ⟨n, t, h3⟩, h4, h5⟩ := h
  refine ⟨hi, fun c hc => (h2 c hc).fr hf (fun o k hh q => ?_), ⟨n, t, h3.fr hf (fun o k hh q => ?_)⟩, h4.fr hf (fun o k hh q => ?_), h5.fr hf (fun o k hh q => ?_)⟩
  all_goals
    have := hp o k q
    omega
theorem pl_sub1 {x : Int32} {n : Nat} (hn : n < 1000000) : (0 ≤ x ∧ x ≤ nI n - 1) ↔ (0 ≤ x ∧ x < nI n) := by
  obtain ⟨z, hz, rfl⟩ := pl_int x
  rw [i3_n, i3_1, i3_sub, i3_0, i3_le (pl_B (by omega) (by omega)) hz, i3_le hz (pl_B (by omega) (by omega)), i3_lt hz (pl_B (by omega) (by omega))]
  omega
section F7
variable {μ : sl_M} {s : SS} {Q : Int32 → sl_M → Prop} {P : sl_M → Prop}
theorem op_feed (a1 : Int32) : Opp (sx_feed a1) (mo_feed a1) := by
  rintro μ ⟨⟨s, ci, mr⟩, ri⟩
  by_cases h1 : 1 ≤ a1 ∧ a1 ≤ 127
  · have nlt : ¬ a1 < 1 := fun z => by
      rw [fa_lt] at z
      rw [fa_le] at h1
      omega
    obtain ⟨c, hc, rfl⟩ : ∃ c : Nat, (1 ≤ c ∧ c ≤ 127) ∧ a1 = nI c := by
      obtain ⟨j, hj, rfl⟩ := nI_of (x := a1) (fun z => by rw [fa_lt] at z; rw [fa_le, show (1 : Int32).toInt = 1 from rfl] at h1; rw [show (0 : Int32).toInt = 0 from rfl] at z; omega)
      have h2 : nI 1 ≤ nI j ∧ nI j ≤ nI 127 := h1
      rw [nI_leI (by omega) hj, nI_leI hj (by omega)] at h2
      exact ⟨j, h2, rfl⟩
    obtain ⟨n, t, hn, t1, t2, t3, t4, t5⟩ := ri.2.2.1
    refine ⟨fun z => absurd z nlt, fun _ => ⟨fun _ => ?_, fun z => absurd h1.2 z⟩⟩
    unfold tp_append
    by_cases hf : n = 80
    · rw [t1, hf]
      refine ⟨fun z => absurd z (by decide), fun _ => ⟨rfl, fun _ => ?_, fun z => absurd rfl z⟩⟩
      unfold mo_feed
      rintro m1 rfl
      rw [mo_in_i]
      refine pl_bb (fun z => absurd h1 z) (fun _ => ?_)
      rw [pl_up_k (by decide), t2, hf]
      exact ⟨fun _ => ⟨rfl, ⟨s, ci.fr Fr.th (fun o k h1 h2 z => by omega), mr.th⟩, ri.fr Fr.th (fun o k z => Or.inr z)⟩, fun z => absurd rfl z⟩
    · have hn' : n < 80 := by omega
      have cl : (nI n).toNatClampNeg = n := nI_clamp (by omega)
      rw [t1, cl]
      refine ⟨fun _ => ⟨vp_in_nI hn' (by decide), ?_⟩, fun z => absurd (nI_lt hn' (by decide)) z⟩
      rintro m1 rfl m2 rfl
      rw [pl_up_o (by decide), t1, nI_1]
      refine ⟨rfl, fun z => absurd z (by decide), fun _ => ?_⟩
      rw [pl_up_s]
      unfold mo_feed
      rintro m3 rfl
      rw [mo_in_i]
      refine pl_bb (fun z => absurd h1 z) (fun _ => ?_)
      have e20 : sl_up (sl_up (sl_up μ 44 n (nI c)) 43 1 (nI (n + 1))) 104 5 0 104 20 = nI n := by
        rw [pl_up_k (by decide), pl_up_o (by decide), pl_up_o (by decide), t2]
      rw [e20, cl]
      refine ⟨fun z => absurd ((nI_eq (by omega) (by decide)).mp (show nI n = nI 80 from z)) hf, fun _ => ⟨vp_in_nI hn' (by decide), ?_⟩⟩
      rintro m4 rfl m5 rfl
      have e21 : sl_up (sl_up (sl_up (sl_up μ 44 n (nI c)) 43 1 (nI (n + 1))) 104 5 0) 121 n (nI c) 104 20 = nI n := by
        rw [pl_up_o (by decide)]
        exact e20
      rw [e21, nI_1, pl_up_s]
      have F : Fr (fun o k => fT o k ∨ (o = 104 ∧ k = 5)) μ (sl_up (sl_up (sl_up (sl_up (sl_up μ 44 n (nI c)) 43 1 (nI (n + 1))) 104 5 0) 121 n (nI c)) 104 20 (nI (n + 1))) := ((((Fr.rfl'.up (by omega)).up (by omega)).up (by omega)).up (by omega)).up (by omega)
      refine ⟨rfl, ⟨s, ci.fr F (fun o k h1 h2 z => by omega), mr.fr F (fun o k h1 h2 z => by omega)⟩, ri.tp F (fun o k z => by omega) ⟨n + 1, fu t n c, by omega, by simp [pl_up], by simp [pl_up], by simp [pl_up, t3], by simp [pl_up, t4], fun i hi => ?_⟩⟩
      by_cases e : i = n
      · subst e
        rw [fu_s]
        exact ⟨by simp [pl_up], by simp [pl_up], hc⟩
      · rw [fu_o e]
        have := t5 i (by omega)
        exact ⟨by simp [pl_up, e, this.1], by simp [pl_up, e, this.2.1], this.2.2⟩
  · refine op2 (v := -2) (s' := s) ci mr ri (fun Q hQ => ?_) (fun μ1 mr1 Q hQ => ?_)
    · refine ⟨fun _ => hQ _ Fr.rfl' ci, fun c1 => ⟨fun c2 => absurd ⟨fa_of_nlt c1, c2⟩ h1, fun _ => hQ _ Fr.rfl' ci⟩⟩
    · unfold mo_feed
      rintro m1 rfl
      rw [mo_in_i]
      exact pl_bb (fun _ => hQ _ Fr.th mr1.th) (fun z => absurd z h1)
theorem tp_empty_s {P : sl_M → Prop} (hP : ∀ m, Fr (fun o _ => o = 43) μ m → m 43 1 = 0 → m 43 2 = 0 → m 43 3 = -1 → P m) : tp_empty μ P := by
  rintro m2 rfl m3 rfl m4 rfl
  have F0 : Fr (fun o _ => o = 43) μ μ := Fr.rfl'
  exact hP _ (((F0.up rfl).up rfl).up rfl) (by simp [pl_up]) (by simp [pl_up]) (by simp [pl_up])
theorem op_clear : Opp sx_clear mo_clear := by
  rintro μ ⟨⟨s, ci, mr⟩, ri⟩
  obtain ⟨n, t, hn, t1, t2, t3, t4, t5⟩ := ri.2.2.1
  unfold sx_clear
  rintro v1 rfl
  refine tp_empty_s (fun m hf c1 c2 c3 => ?_)
  rintro m1 rfl v2 rfl m3 rfl
  have F : Fr (fun o k => fT o k ∨ (o = 104 ∧ k = 5)) μ (sl_up (sl_up m 104 5 0) 104 20 0) := ((hf.mono (fun o k z => by omega)).up (by omega)).up (by omega)
  refine ⟨by rw [pl_up_k (by decide), hf _ _ (by decide), t1, t2], ⟨s, ci.fr F (fun o k h1 h2 z => by omega), mr.fr F (fun o k h1 h2 z => by omega)⟩, ri.tp F (fun o k z => by omega) ⟨0, t, by omega, by simp [pl_up, c1]; rfl, by simp [pl_up]; rfl, by simp [pl_up, c2], by simp [pl_up, c3], fun i hi => absurd hi (by omega)⟩⟩
theorem op_paper (a1 : Int32) : Opp (sx_paper a1) (mo_paper a1) := by
  rintro μ ⟨⟨s, ci, mr⟩, ri⟩
  obtain ⟨n, hn, p1, p2, p3, -⟩ := ri.2.2.2.1
  have I2 : Inv (sl_up μ 104 5 0) := ⟨⟨s, ci.fr Fr.th (fun o k h1 h2 z => by omega), mr.th⟩, ri.fr Fr.th (fun o k z => Or.inr z)⟩
  unfold sx_paper
  rw [p1, sx_isBelow_i]
  have M : ∀ v : Int32, (¬ (0 ≤ a1 ∧ a1 < nI n) → v = -1) → ((0 ≤ a1 ∧ a1 < nI n) → v = μ 134 a1.toNatClampNeg) → mo_paper a1 μ (fun r2 μ2 => v = r2 ∧ Inv μ2) := by
    intro v v0 v1
    rintro m1 rfl
    rw [pl_up_k (by decide), p2, mo_in_0, pl_bcong (pl_sub1 (by omega))]
    refine pl_bb (fun z => ⟨v0 z, I2⟩) (fun z => ?_)
    obtain ⟨k, hk, rfl⟩ := pl_of (y := nI n) rfl (by omega) z
    exact ⟨vp_in_nI (show k < 400 by omega) (by decide), by rw [v1 z, pl_up_o (by decide)], I2⟩
  refine pl_bb (fun z => M _ (fun _ => rfl) (fun q => absurd q z)) (fun z => ?_)
  obtain ⟨k, hk, rfl⟩ := pl_of (y := nI n) rfl (by omega) z
  refine ⟨vp_in_nI (show k < 360 by omega) (by decide), M _ (fun q => absurd z q) (fun _ => ?_)⟩
  rw [nI_clamp (by omega)]
  exact p3 k hk
/-- one index copied to the other -/
theorem ix_copyFrom_k_s (h : CR 4 μ s) (hP : ∀ m, Fr (fun o _ => 60 ≤ o ∧ o < 90) μ m → CR 60 m s → (∀ k, k < 30 → m (60 + k) 5 = μ (4 + k) 5) → P m) : ix_copyFrom_k μ P := by
  refine lq2 (fun n x m => ix_copyFrom_k_L2 P n x m) (fun k x m => x = nI k ∧ Fr (fun o _ => 60 ≤ o ∧ o < 90) μ m ∧ ∀ j, j < k → (m (60 + j) 0 = nI j ∧ m (60 + j) 1 = pl_b (sI s j) ∧ m (60 + j) 2 = i3 (sL s j) ∧ m (60 + j) 3 = i3 (sH s j) ∧ m (60 + j) 4 = i3 (sW s j)) ∧ m (60 + j) 5 = μ (4 + j) 5) 30 0 μ ⟨rfl, Fr.rfl', fun j hj => absurd hj (by omega)⟩ ?_ ?_
  · rintro n x m ⟨rfl, hf, hc⟩
    exact ⟨fun z => absurd z pl_nlt, fun _ => hP m hf (fun k hk => (hc k hk).1) (fun k hk => (hc k hk).2)⟩
  · rintro n k x m hk ⟨rfl, hf, hc⟩ ih
    refine ⟨fun _ => ⟨pl_in hk, pl_in hk, ?_⟩, fun z => absurd (pl_lt hk) z⟩
    rw [pl_cl hk]
    obtain ⟨d0, d1, d2, d3, d4⟩ := h k hk
    refine sp_copyFrom_s (by omega) (fun m1 hf1 c0 c1 c2 c3 c4 c5 => ih _ _ ⟨pl_inc k, hf.tr (hf1.mono (fun o k z => by omega)), fun j hj => ?_⟩)
    by_cases e : j = k
    · subst e
      rw [c0, c1, c2, c3, c4, c5]
      simp only [hf (4 + j) _ (show ¬ (60 ≤ 4 + j ∧ 4 + j < 90) by omega)]
      exact ⟨⟨d0, by rw [d1, pl_bz], d2, d3, d4⟩, trivial⟩
    · have := hc j (by omega)
      rw [hf1 _ _ (by omega), hf1 _ _ (by omega), hf1 _ _ (by omega), hf1 _ _ (by omega), hf1 _ _ (by omega), hf1 _ _ (by omega)]
      exact this
theorem ix_copyFrom_u_s (h : CR 60 μ s) (hP : ∀ m, Fr (fun o _ => 4 ≤ o ∧ o < 34) μ m → CR 4 m s → (∀ k, k < 30 → m (4 + k) 5 = μ (60 + k) 5) → P m) : ix_copyFrom_u μ P := by
  refine lq2 (fun n x m => ix_copyFrom_u_L2 P n x m) (fun k x m => x = nI k ∧ Fr (fun o _ => 4 ≤ o ∧ o < 34) μ m ∧ ∀ j, j < k → (m (4 + j) 0 = nI j ∧ m (4 + j) 1 = pl_b (sI s j) ∧ m (4 + j) 2 = i3 (sL s j) ∧ m (4 + j) 3 = i3 (sH s j) ∧ m (4 + j) 4 = i3 (sW s j)) ∧ m (4 + j) 5 = μ (60 + j) 5) 30 0 μ ⟨rfl, Fr.rfl', fun j hj => absurd hj (by omega)⟩ ?_ ?_
  · rintro n x m ⟨rfl, hf, hc⟩
    exact ⟨fun z => absurd z pl_nlt, fun _ => hP m hf (fun k hk => (hc k hk).1) (fun k hk => (hc k hk).2)⟩
  · rintro n k x m hk ⟨rfl, hf, hc⟩ ih
    refine ⟨fun _ => ⟨pl_in hk, pl_in hk, ?_⟩, fun z => absurd (pl_lt hk) z⟩
    rw [pl_cl hk]
    obtain ⟨d0, d1, d2, d3, d4⟩ := h k hk
    refine sp_copyFrom_s (by omega) (fun m1 hf1 c0 c1 c2 c3 c4 c5 => ih _ _ ⟨pl_inc k, hf.tr (hf1.mono (fun o k z => by omega)), fun j hj => ?_⟩)
    by_cases e : j = k
    · subst e
      rw [c0, c1, c2, c3, c4, c5]
      simp only [hf (60 + j) _ (show ¬ (4 ≤ 60 + j ∧ 60 + j < 34) by omega)]
      exact ⟨⟨d0, by rw [d1, pl_bz], d2, d3, d4⟩, trivial⟩
    · have := hc j (by omega)
      rw [hf1 _ _ (by omega), hf1 _ _ (by omega), hf1 _ _ (by omega), hf1 _ _ (by omega), hf1 _ _ (by omega), hf1 _ _ (by omega)]
      exact this
theorem nI_p (a : Nat) (b : Nat) : (nI a) + nI b = nI (a + b) := nI_add a b
theorem mo_image_s (h : MR μ s) (hQ : ∀ m, Fr (fun o _ => o = 138) μ m → (∀ k, k < 30 → m 138 k = i3 (sL s k) ∧ m 138 (30 + k) = i3 (sH s k) ∧ m 138 (60 + k) = i3 (sW s k) ∧ m 138 (90 + k) = pl_b (sI s k)) → Q (nI (sN s)) m) : ∃ n, mo_image_L12 Q n 0 μ := by
  refine lq2 (fun n x m => mo_image_L12 Q n x m) (fun k x m => x = nI k ∧ Fr (fun o _ => o = 138) μ m ∧ ∀ j, j < k → m 138 j = i3 (sL s j) ∧ m 138 (30 + j) = i3 (sH s j) ∧ m 138 (60 + j) = i3 (sW s j) ∧ m 138 (90 + j) = pl_b (sI s j)) 30 0 μ ⟨rfl, Fr.rfl', fun j hj => absurd hj (by omega)⟩ ?_ ?_
  · rintro n x m ⟨rfl, hf, hc⟩
    exact ⟨fun z => absurd z pl_nlt, fun _ => mo_manyIn_s (h.fr hf (fun o k h1 h2 z => by omega)) (hQ m hf hc)⟩
  · rintro n k x m hk ⟨rfl, hf, hc⟩ ih
    obtain ⟨d1, d2, d3, d4⟩ := h.fr hf (fun o k h1 h2 z => by omega) k hk
    have e1 : (30 : Int32) + nI k = nI (30 + k) := nI_add 30 k
    have e2 : (60 : Int32) + nI k = nI (60 + k) := nI_add 60 k
    have e3 : (90 : Int32) + nI k = nI (90 + k) := nI_add 90 k
    have cl : ∀ j, j < 120 → (nI j).toNatClampNeg = j := fun j hj => nI_clamp (by omega)
    have iv : ∀ j, j < 120 → vp_in (nI j) 120 := fun j hj => vp_in_nI hj (by decide)
    refine ⟨fun _ => ⟨pl_in hk, iv k (by omega), ?_⟩, fun z => absurd (pl_lt hk) z⟩
    rintro m1 rfl
    refine ⟨pl_in hk, by rw [e1]; exact iv _ (by omega), ?_⟩
    rintro m2 rfl
    refine ⟨pl_in hk, by rw [e2]; exact iv _ (by omega), ?_⟩
    rintro m3 rfl
    refine ⟨pl_in hk, by rw [e3]; exact iv _ (by omega), ?_⟩
    rintro m4 rfl
    rw [e1, e2, e3, pl_cl hk, cl _ (show 30 + k < 120 by omega), cl _ (show 60 + k < 120 by omega), cl _ (show 90 + k < 120 by omega)]
    have F0 : Fr (fun o _ => o = 138) μ m := hf
    refine ih _ _ ⟨pl_inc k, (((F0.up rfl).up rfl).up rfl).up rfl, fun j hj => ?_⟩
    simp only [pl_up]
    by_cases e : j = k
    · subst e
      have n1 : ¬ (j = 30 + j) := by omega
      have n2 : ¬ (j = 60 + j) := by omega
      have n3 : ¬ (j = 90 + j) := by omega
      simp [d1, d2, d3, d4, n1, n2, n3]
    · have := hc j (by omega)
      have n0 : ¬ (j = 30 + k) := by omega
      have n1 : ¬ (j = 60 + k) := by omega
      have n2 : ¬ (j = 90 + k) := by omega
      have n3 : ¬ (30 + j = k) := by omega
      have n4 : ¬ (30 + j = 60 + k) := by omega
      have n5 : ¬ (30 + j = 90 + k) := by omega
      have n6 : ¬ (60 + j = k) := by omega
      have n7 : ¬ (60 + j = 30 + k) := by omega
      have n8 : ¬ (60 + j = 90 + k) := by omega
      have n9 : ¬ (90 + j = k) := by omega
      have n10 : ¬ (90 + j = 30 + k) := by omega
      have n11 : ¬ (90 + j = 60 + k) := by omega
      simp [e, n0, n1, n2, n3, n4, n5, n6, n7, n8, n9, n10, n11]
      exact this
theorem op_image : Opp sx_image mo_image := by
  rintro μ ⟨⟨s, ci, mr⟩, ri⟩
  unfold sx_image
  refine ix_copyFrom_k_s ci.2.1 (fun m hf hc hl => ⟨rfl, ?_⟩)
  rintro m2 rfl
  have F1 : Fr fI μ (sl_up m 0 11 1) := (hf.mono (fun o k z => Or.inl z)).up (by omega)
  have c60 : CR 60 (sl_up m 0 11 1) s := hc.fr (p := fun o _ => o = 0) (Fr.rfl'.up rfl) (fun k j hk _ z => by omega)
  refine ix_count_k_s c60 ?_
  rintro m3 rfl
  refine ⟨rfl, ?_⟩
  rintro m4 rfl
  have mr1 : MR (sl_up (sl_up (sl_up m 0 11 1) 104 5 0) 104 48 1) s := (mr.fr F1 (fun o k h1 h2 z => by omega)).fr (p := fun o _ => o = 104) (by have F0 : Fr (fun o _ => o = 104) (sl_up m 0 11 1) (sl_up m 0 11 1) := Fr.rfl'; exact (F0.up rfl).up rfl) (fun o k h1 h2 z => by omega)
  refine mo_image_s mr1 (fun m5 hf5 h138 => ?_)
  have F2 : Fr (fun o k => fI o k ∨ (o = 104 ∧ k = 5)) μ m5 := (((F1.mono (fun o k z => Or.inl z)).up (by omega)).up (by omega)).tr (hf5.mono (fun o k z => by omega))
  have F3 : Fr (fun o _ => o = 104 ∨ o = 138) (sl_up m 0 11 1) m5 := Fr.tr ((Fr.rfl'.up (Or.inl rfl)).up (Or.inl rfl) : Fr _ (sl_up m 0 11 1) (sl_up (sl_up (sl_up m 0 11 1) 104 5 0) 104 48 1)) (hf5.mono (fun o k z => Or.inr z))
  have l60 : ∀ k, k < 30 → m5 (60 + k) 5 = μ (4 + k) 5 := fun k hk => by rw [F3 _ _ (by omega), pl_up_o (by omega), hl k hk]
  refine ⟨rfl, ⟨s, ci.fr F2 (fun o k h1 h2 z => by omega), mr1.fr hf5 (fun o k h1 h2 z => by omega)⟩, ri.im F2 (fun o k z => by omega) ⟨s, ci.1, c60.fr F3 (fun k j hk _ z => by omega), fun k hk ik => by rw [l60 k hk]; exact ci.2.2.1 k hk ik, fun k hk => by rw [l60 k hk]; exact ci.2.2.2.1 k hk, h138, Or.inr ⟨?_, ?_⟩⟩⟩
  · rw [F3 _ _ (by omega), pl_up_s]
  · rw [hf5 _ _ (by decide), pl_up_s]
theorem sx_undo_L_s (h : CR 4 μ s) (hQ : ∀ m, Fr (fun o k => 90 ≤ o ∧ o < 96 ∧ k = 0) μ m → (∀ c, c < 3 → m (90 + 2 * c) 0 = 0) → Q (nI (sN s)) m) : ∃ n, sx_undo_L23 Q n 0 μ := by
  refine lq2 (fun n x m => sx_undo_L23 Q n x m) (fun k x m => x = nI k ∧ Fr (fun o k => 90 ≤ o ∧ o < 96 ∧ k = 0) μ m ∧ ∀ c, c < k → m (90 + 2 * c) 0 = 0) 3 0 μ ⟨rfl, Fr.rfl', fun j hj => absurd hj (by omega)⟩ ?_ ?_
  · rintro n x m ⟨rfl, hf, hc⟩
    exact ⟨fun z => absurd z (by decide), fun _ => ix_count_s (h.fr hf (fun k j hk _ z => by omega)) (hQ m hf hc)⟩
  · rintro n k x m hk ⟨rfl, hf, hc⟩ ih
    refine ⟨fun _ => ⟨pl_in3 hk, rfl, ?_⟩, fun z => absurd (pl_lt3 hk) z⟩
    rintro m1 rfl
    rw [pl_cl3 hk]
    refine ih _ _ ⟨pl_inc k, hf.up (by omega), fun c hcc => ?_⟩
    by_cases e : c = k
    · rw [e, pl_up_s]
    · rw [pl_up_o (by omega)]
      exact hc c (by omega)
theorem mo_undo_L_s (h : MR μ s) (hQ : ∀ m, Fr (fun o _ => o = 111) μ m → (∀ c, c < 3 → m 111 c = -1) → Q (nI (sN s)) m) : ∃ n, mo_undo_L88 Q n 0 μ := by
  refine lq2 (fun n x m => mo_undo_L88 Q n x m) (fun k x m => x = nI k ∧ Fr (fun o _ => o = 111) μ m ∧ ∀ c, c < k → m 111 c = -1) 3 0 μ ⟨rfl, Fr.rfl', fun j hj => absurd hj (by omega)⟩ ?_ ?_
  · rintro n x m ⟨rfl, hf, hc⟩
    exact ⟨fun z => absurd z (by decide), fun _ => mo_manyIn_s (h.fr hf (fun o k h1 h2 z => by omega)) (hQ m hf hc)⟩
  · rintro n k x m hk ⟨rfl, hf, hc⟩ ih
    refine ⟨fun _ => ⟨pl_in3 hk, ?_⟩, fun z => absurd (pl_lt3 hk) z⟩
    rintro m1 rfl
    rw [pl_cl3 hk]
    refine ih _ _ ⟨pl_inc k, hf.up rfl, fun c hcc => ?_⟩
    by_cases e : c = k
    · rw [e, pl_up_s]
    · rw [pl_up_k e]
      exact hc c (by omega)
theorem mo_undo_s (h : ∀ k, k < 30 → μ 138 k = i3 (sL s k) ∧ μ 138 (30 + k) = i3 (sH s k) ∧ μ 138 (60 + k) = i3 (sW s k) ∧ μ 138 (90 + k) = pl_b (sI s k)) (hQ : ∀ m, Fr (fun o _ => o = 111 ∨ (105 ≤ o ∧ o ≤ 108)) μ m → MR m s → (∀ c, c < 3 → m 111 c = -1) → Q (nI (sN s)) m) : ∃ n, mo_undo_L17 Q n 0 μ := by
  refine lq2 (fun n x m => mo_undo_L17 Q n x m) (fun k x m => x = nI k ∧ Fr (fun o _ => 105 ≤ o ∧ o ≤ 108) μ m ∧ ∀ j, j < k → m 108 j = pl_b (sI s j) ∧ m 105 j = i3 (sL s j) ∧ m 106 j = i3 (sH s j) ∧ m 107 j = i3 (sW s j)) 30 0 μ ⟨rfl, Fr.rfl', fun j hj => absurd hj (by omega)⟩ ?_ ?_
  · rintro n x m ⟨rfl, hf, hc⟩
    refine ⟨fun z => absurd z pl_nlt, fun _ => mo_undo_L_s (s := s) hc (fun m2 hf2 h2 => hQ m2 ((hf.mono (fun o k z => Or.inr z)).tr (hf2.mono (fun o k z => Or.inl z))) ?_ h2)⟩
    exact (show MR m s from hc).fr hf2 (fun o k h1 h2 z => by omega)
  · rintro n k x m hk ⟨rfl, hf, hc⟩ ih
    obtain ⟨d1, d2, d3, d4⟩ := h k hk
    have e1 : (30 : Int32) + nI k = nI (30 + k) := nI_add 30 k
    have e2 : (60 : Int32) + nI k = nI (60 + k) := nI_add 60 k
    have e3 : (90 : Int32) + nI k = nI (90 + k) := nI_add 90 k
    have cl : ∀ j, j < 120 → (nI j).toNatClampNeg = j := fun j hj => nI_clamp (by omega)
    have iv : ∀ j, j < 120 → vp_in (nI j) 120 := fun j hj => vp_in_nI hj (by decide)
    refine ⟨fun _ => ⟨iv k (by omega), pl_in hk, ?_⟩, fun z => absurd (pl_lt hk) z⟩
    rintro m1 rfl
    refine ⟨by rw [e1]; exact iv _ (by omega), pl_in hk, ?_⟩
    rintro m2 rfl
    refine ⟨by rw [e2]; exact iv _ (by omega), pl_in hk, ?_⟩
    rintro m3 rfl
    refine ⟨by rw [e3]; exact iv _ (by omega), pl_in hk, ?_⟩
    rintro m4 rfl
    rw [e1, e2, e3, pl_cl hk, cl _ (show 30 + k < 120 by omega), cl _ (show 60 + k < 120 by omega), cl _ (show 90 + k < 120 by omega)]
    refine ih _ _ ⟨pl_inc k, (((hf.up (by omega)).up (by omega)).up (by omega)).up (by omega), fun j hj => ?_⟩
    have g : ∀ i, m 138 i = μ 138 i := fun i => hf 138 i (by omega)
    simp only [pl_up]
    by_cases e : j = k
    · subst e
      simp [g, d1, d2, d3, d4]
    · have := hc j (by omega)
      simp [e]
      exact this
theorem op_undo : Opp sx_undo mo_undo := by
  rintro μ ⟨⟨s, ci, mr⟩, ri⟩
  obtain ⟨im, i1, i2, i3', i4, i5, i6⟩ := ri.1
  rcases i6 with ⟨k1, k2⟩ | ⟨k1, k2⟩
  · unfold sx_undo
    rw [k1]
    refine ⟨fun _ => ?_, fun z => absurd rfl z⟩
    rintro m1 rfl
    rw [pl_up_k (by decide), k2]
    exact ⟨fun _ => ⟨rfl, ⟨s, ci.fr Fr.th (fun o k h1 h2 z => by omega), mr.th⟩, ri.fr Fr.th (fun o k z => Or.inr z)⟩, fun z => absurd rfl z⟩
  · unfold sx_undo
    rw [k1]
    refine ⟨fun z => absurd z (by decide), fun _ => ?_⟩
    refine ix_copyFrom_u_s i2 (fun m hf hc hl => sx_undo_L_s hc (fun m2 hf2 hz => ?_))
    have F1 : Fr (fun o k => (4 ≤ o ∧ o < 34) ∨ (90 ≤ o ∧ o < 96 ∧ k = 0)) μ m2 := (hf.mono (fun o k z => Or.inl z)).tr (hf2.mono (fun o k z => Or.inr z))
    rintro m3 rfl
    rw [pl_up_k (by decide), F1 _ _ (by omega), k2]
    refine ⟨fun z => absurd z (by decide), fun _ => ?_⟩
    refine mo_undo_s (s := im) (fun k hk => ?_) (fun m4 hf4 hM h111 => ?_)
    · rw [pl_up_o (by decide), pl_up_o (by decide), pl_up_o (by decide), pl_up_o (by decide), F1 _ _ (by omega), F1 _ _ (by omega), F1 _ _ (by omega), F1 _ _ (by omega)]
      exact i5 k hk
    · have F2 : Fr (fun o k => (o = 104 ∧ k = 5) ∨ o = 111 ∨ (105 ≤ o ∧ o ≤ 108)) m2 m4 := Fr.tr (Fr.rfl'.up (Or.inl ⟨rfl, rfl⟩) : Fr _ m2 (sl_up m2 104 5 0)) (hf4.mono (fun o k z => Or.inr z))
      have F : Fr (fun o k => ((4 ≤ o ∧ o < 34) ∨ (90 ≤ o ∧ o < 96 ∧ k = 0)) ∨ ((o = 104 ∧ k = 5) ∨ o = 111 ∨ (105 ≤ o ∧ o ≤ 108))) μ m4 := (F1.mono (fun o k z => Or.inl z)).tr (F2.mono (fun o k z => Or.inr z))
      have C4 : CR 4 m4 im := (hc.fr hf2 (fun k j hk _ z => by omega)).fr F2 (fun k j hk _ z => by omega)
      have L4 : ∀ k, k < 30 → m4 (4 + k) 5 = μ (60 + k) 5 := fun k hk => by rw [F2 _ _ (by omega), hf2 _ _ (by omega), hl k hk]
      refine ⟨rfl, ⟨im, ⟨i1, C4, fun k hk ik => by rw [L4 k hk]; exact i3' k hk ik, fun k hk => by rw [L4 k hk]; exact i4 k hk, fun k hk => by rw [F _ _ (by omega)]; exact ci.2.2.2.2 k hk⟩, hM⟩, ri.cu F (fun o k z => by omega) (fun c hc => Or.inl ⟨h111 c hc, ?_⟩)⟩
      rw [F2 _ _ (by omega)]
      exact hz c hc
end F7
