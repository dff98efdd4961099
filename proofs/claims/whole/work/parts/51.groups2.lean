/-! the highs, how many, the i-th -/
theorem ct_one {p : Nat → Bool} {a : Nat} (ha : p a = true) : ∀ {b : Nat}, a < b → (∀ q, a < q → q < b → p q = false) → fb_ct p b = fb_ct p a + 1
  | 0, h, _ => absurd h (by omega)
  | b + 1, h, hn => by
    rw [fb_ct_succ]
    by_cases e : a = b
    · subst e
      rw [ha, if_pos rfl]
    · rw [hn b (by omega) (by omega), ct_one ha (b := b) (by omega) (fun q h1 h2 => hn q h1 (by omega))]
      rfl
theorem ct_skip {p : Nat → Bool} {a : Nat} : ∀ {b : Nat}, a ≤ b → (∀ q, a ≤ q → q < b → p q = false) → fb_ct p b = fb_ct p a
  | 0, h, _ => by rw [show a = 0 by omega]
  | b + 1, h, hn => by
    by_cases e : a = b + 1
    · rw [e]
    · rw [fb_ct_succ, hn b (by omega) (by omega), ct_skip (b := b) (by omega) (fun q h1 h2 => hn q h1 (by omega))]
      rfl
def gp (s : SS) (p : Nat) : Bool := decide (0 < fb_ct (enb s (p : Int)) 30)
abbrev G (s : SS) (n : Nat) : Nat := fb_ct (gp s) n
theorem gp_iff {s : SS} {p : Nat} : gp s p = true ↔ ∃ k, k < 30 ∧ sI s k ∧ sH s k = (p : Int) := by
  unfold gp
  rw [decide_eq_true_eq, fb_ct_pos]
  constructor
  · rintro ⟨k, hk, h⟩
    exact ⟨k, hk, of_decide_eq_true h⟩
  · rintro ⟨k, hk, h⟩
    exact ⟨k, hk, decide_eq_true h⟩
def fd (s : SS) (i : Int32) : Nat → Int32
  | 0 => -1
  | p + 1 => if gp s p = true ∧ nI (G s p) = i then nI p else fd s i p
theorem G_le (s : SS) {n : Nat} (h : n ≤ 1000) : G s n ≤ 1000 := Nat.le_trans (fb_ct_le _ n) h
theorem fd_at {s : SS} {p : Nat} (hp : gp s p = true) : ∀ {n : Nat}, n ≤ 1000 → p < n → fd s (nI (G s p)) n = nI p
  | 0, _, h => absurd h (by omega)
  | n + 1, hn, h => by
    unfold fd
    by_cases e : p = n
    · subst e
      rw [if_pos ⟨hp, rfl⟩]
    · have h1 := G_le s (n := n) (by omega)
      have h2 := G_le s (n := p) (by omega)
      rw [if_neg, fd_at hp (n := n) (by omega) (by omega)]
      rintro ⟨z1, z2⟩
      rw [nI_eq (by omega) (by omega)] at z2
      exact e (fb_ct_kth_one z1 hp z2).symm
theorem fd_no {s : SS} {i : Int32} : ∀ {n : Nat}, (∀ p, p < n → gp s p = true → nI (G s p) ≠ i) → fd s i n = -1
  | 0, _ => rfl
  | n + 1, h => by
    unfold fd
    rw [if_neg (fun z => h n (by omega) z.1 z.2)]
    exact fd_no (fun p hp => h p (by omega))
theorem bs_0 {p : Nat → Bool} : bs p 30 = 0 ↔ fb_ct p 30 = 0 := by
  rw [fb_ct_zero]
  constructor
  · intro h k hk
    have := b_bs p (i := k) (by omega) 30 (by omega)
    rw [h, b_0] at this
    simpa [hk] using this.symm
  · intro h
    refine b_ext (fun i hi => ?_)
    rw [b_bs p hi 30 (by omega), b_0]
    by_cases c : i < 30
    · rw [h i c]
      simp
    · simp [c]
section G2
variable {μ : sl_M} {s : SS} {Q : Int32 → sl_M → Prop}
theorem mo_groupOf_s (h : MR μ s) (ok : sOK s) {i : Int32} (hQ : Q (if i = -1 then nI (G s 1000) else fd s i 1000) μ) : mo_groupOf i μ Q := by
  refine up_0 (fun n c (st : Int32 × Int32) => mo_groupOf_L7 i Q n st.1 st.2 c μ) (fun p => (nI (G s p), fd s i p)) 1000 (fun n => ⟨fun z => absurd z (by decide), fun _ => ⟨fun c => ?_, fun c => ?_⟩⟩) (fun n p hp ih => ?_)
  · rw [if_pos c] at hQ
    exact hQ
  · rw [if_neg c] at hQ
    exact hQ
  · refine ⟨fun _ => ?_, fun z => absurd (nI_lt hp (by decide)) z⟩
    rw [i3_n p]
    refine mo_groupBits_s h ok (pl_B (by omega) (by omega)) ⟨fun c => ?_, fun c => ⟨fun d => ?_, fun d => ?_⟩⟩
    · have g : gp s p = false := decide_eq_false (by rw [bs_0.mp c]; omega)
      rw [← i3_n, pl_inc]
      have e : G s (p + 1) = G s p := by
        show fb_ct (gp s) (p + 1) = _
        rw [fb_ct_succ, g]
        rfl
      have e2 : fd s i (p + 1) = fd s i p := if_neg (fun z => by rw [g] at z; exact absurd z.1 (by decide))
      rw [e, e2] at ih
      exact ih
    all_goals
      have g : gp s p = true := decide_eq_true (Nat.pos_of_ne_zero (fun z => c (bs_0.mpr z)))
      have e : G s (p + 1) = G s p + 1 := by
        show fb_ct (gp s) (p + 1) = _
        rw [fb_ct_succ, g]
        rfl
    · have e2 : fd s i (p + 1) = nI p := if_pos ⟨g, d⟩
      rw [e, e2] at ih
      rw [← i3_n, pl_inc]
      rw [pl_inc]
      exact ih
    · have e2 : fd s i (p + 1) = fd s i p := if_neg (fun z => d z.2)
      rw [e, e2] at ih
      rw [← i3_n, pl_inc]
      rw [pl_inc]
      exact ih
theorem ix_ofThose_s (h : CR 4 μ s) (ok : sOK s) {p : Nat} (hp : p < 1000) {a2 : Int32} (hQ : Q (if a2 = 0 then nI p else if a2 = 1 then nI (fb_ct (enb s (p : Int)) 30) else if a2 = 2 then bs (enb s (p : Int)) 30 else gw s (p : Int) 30) μ) : ix_ofThoseEndingAt (nI p) a2 μ Q := by
  refine up_0 (fun n c (st : Int32 × Int32) => ix_ofThoseEndingAt_L8 (nI p) a2 Q n st.1 st.2 c μ) (fun k => (bs (enb s (p : Int)) k, gw s (p : Int) k)) 30 (fun n => ⟨fun z => absurd z pl_nlt, fun _ => ⟨fun c => ?_, fun c => ⟨fun d => it_bitCount_s ?_, fun d => ⟨fun e => ?_, fun e => ?_⟩⟩⟩⟩) (fun n k hk ih => ?_)
  · rw [if_pos c] at hQ
    exact hQ
  · rw [if_neg c, if_pos d] at hQ
    exact hQ
  · rw [if_neg c, if_neg d, if_pos e] at hQ
    exact hQ
  · rw [if_neg c, if_neg d, if_neg e] at hQ
    exact hQ
  · refine ⟨fun _ => ⟨pl_in hk, ?_⟩, fun z => absurd (pl_lt hk) z⟩
    obtain ⟨-, d1, d2, d3, d4⟩ := h k hk
    dsimp only at ih ⊢
    rw [pl_cl hk, d1, d3, d4, pl_bz, pl_inc]
    refine pl_bb (fun ik => ?_) (fun ik => ⟨pl_in hk, ?_⟩)
    · rw [bs_no (decide_eq_false (fun z => ik z.1)), gw_n (fun z => ik (of_decide_eq_true z).1)] at ih
      exact ih
    · rw [i3_n p, i3_eq (ok.B hk ik).2.1 (pl_B (by omega) (by omega))]
      refine ⟨fun c v hv => ⟨pl_in hk, fun v2 hv2 => ?_⟩, fun c => ?_⟩
      · rw [bs_yes (decide_eq_true ⟨ik, c⟩), gw_y (decide_eq_true ⟨ik, c⟩), ← hv, ← hv2, i3_n p] at ih
        exact ih
      · rw [bs_no (decide_eq_false (fun z => c z.2)), gw_n (fun z => c (of_decide_eq_true z).2), i3_n p] at ih
        exact ih
/-! the order by highs -/
noncomputable abbrev e1 (s : SS) (i : Nat) : Nat := en s (yl s) 1 i
noncomputable def h1 (s : SS) (i : Nat) : Nat := (sH s (e1 s i)).toNat
theorem h1_ok (ok : sOK s) {i : Nat} (hi : i < sN s) : sH s (e1 s i) = (h1 s i : Int) ∧ h1 s i < 1000 ∧ gp s (h1 s i) = true := by
  have h := en_ok (s := s) (y := yl s) (q := 1) hi
  have o := ok _ h.1 h.2.1
  have e : sH s (en s (yl s) 1 i) = (h1 s i : Int) := by
    unfold h1
    show _ = ((sH s (en s (yl s) 1 i)).toNat : Int)
    omega
  exact ⟨e, by omega, gp_iff.mpr ⟨_, h.1, h.2.1, e⟩⟩
theorem h1_le (ok : sOK s) {i j : Nat} (hij : i < j) (hj : j < sN s) : h1 s j ≤ h1 s i := by
  have h := en_lt (s := s) (y := yl s) (q := 1) hij hj
  have a := (h1_ok ok (i := i) (by omega)).1
  have b := (h1_ok ok (i := j) hj).1
  unfold RR at h
  rw [decide_eq_true_eq] at h
  have k : ∀ l h w y : Int, K1 1 l h w y = -h := fun l h w y => rfl
  rw [k, k] at h
  have a' : sH s (en s (yl s) 1 i) = (h1 s i : Int) := a
  have b' : sH s (en s (yl s) 1 j) = (h1 s j : Int) := b
  rw [a', b'] at h
  omega
/-- each place at which some span ends is the high of one in the order -/
theorem h1_at {p : Nat} (hp : gp s p = true) : ∃ i, i < sN s ∧ h1 s i = p := by
  obtain ⟨k, hk, ik, e⟩ := gp_iff.mp hp
  refine ⟨rq s (yl s) 1 30 k, rk_bd (RR_ord s (yl s) 1) hk ik, ?_⟩
  unfold h1
  rw [show e1 s (rq s (yl s) 1 30 k) = k from en_rk hk ik, e]
  omega
theorem G_step (ok : sOK s) {k : Nat} (hk : k + 1 < sN s) (hne : h1 s (k + 1) ≠ h1 s k) : G s (h1 s k) = G s (h1 s (k + 1)) + 1 := by
  have hl := h1_le ok (i := k) (j := k + 1) (by omega) hk
  refine ct_one (h1_ok ok hk).2.2 (by omega) (fun q a b => ?_)
  apply Classical.byContradiction
  intro z
  obtain ⟨i, hi, e⟩ := h1_at (s := s) (p := q) (by simpa using z)
  have : k < i := by
    apply Classical.byContradiction
    intro y
    by_cases c : i = k
    · rw [c] at e
      omega
    · have := h1_le ok (i := i) (j := k) (by omega) (by omega)
      omega
  by_cases c : i = k + 1
  · rw [c] at e
    omega
  · have := h1_le ok (i := k + 1) (j := i) (by omega) hi
    omega
theorem G_top (ok : sOK s) (h : 0 < sN s) : G s 1000 = G s (h1 s 0) + 1 := by
  refine ct_one (h1_ok ok h).2.2 (h1_ok ok h).2.1 (fun q a b => ?_)
  apply Classical.byContradiction
  intro z
  obtain ⟨i, hi, e⟩ := h1_at (s := s) (p := q) (by simpa using z)
  by_cases c : i = 0
  · rw [c] at e
    omega
  · have := h1_le ok (i := 0) (j := i) (by omega) hi
    omega
theorem G_low (ok : sOK s) (h : 0 < sN s) : G s (h1 s (sN s - 1)) = 0 := by
  refine fb_ct_zero.mpr (fun q hq => ?_)
  apply Classical.byContradiction
  intro z
  obtain ⟨i, hi, e⟩ := h1_at (s := s) (p := q) (by simpa using z)
  by_cases c : i = sN s - 1
  · rw [c] at e
    omega
  · have := h1_le ok (i := i) (j := sN s - 1) (by omega) (by omega)
    omega
theorem G_none (h : sN s = 0) : G s 1000 = 0 := by
  refine fb_ct_zero.mpr (fun q hq => ?_)
  apply Classical.byContradiction
  intro z
  obtain ⟨i, hi, e⟩ := h1_at (s := s) (p := q) (by simpa using z)
  omega
noncomputable def dh (s : SS) (k : Nat) : Nat := if k = 0 then 0 else G s 1000 - G s (h1 s (k - 1))
theorem dh_end (ok : sOK s) : dh s (sN s) = G s 1000 := by
  unfold dh
  by_cases c : sN s = 0
  · rw [if_pos c, G_none c]
  · rw [if_neg c, G_low ok (by omega)]
    rfl
theorem so_at {m : sl_M} (c : CInv s m) (hs : ∀ i, i < sN s → m 3 i = nI (4 + en s (yl s) 1 i)) {i : Nat} (hi : i < sN s) : (m 3 i).toNatClampNeg = 4 + e1 s i ∧ sl_kd (4 + e1 s i) = 9 ∧ m (4 + e1 s i) 3 = nI (h1 s i) := by
  have h := en_ok (s := s) (y := yl s) (q := 1) hi
  refine ⟨by rw [hs i hi]; exact cl4 h.1, kd9 _ h.1, ?_⟩
  rw [(c.2.1 _ h.1).2.2.2.1, (h1_ok c.1 hi).1, i3_n]
theorem ix_countHighs_s (c : CInv s μ) (hQ : ∀ m, Fr fC μ m → CInv s m → Q (nI (G s 1000)) m) : ix_countHighs μ Q := by
  unfold ix_countHighs
  refine ix_sort_c c (q := 1) (by omega) (fun m hf cm hs => ?_)
  have hq := hQ m hf cm
  have hN := sN_le s
  have ok := c.1
  refine up_0 (fun n x a => ix_countHighs_L10 Q n (nI (sN s)) a x m) (fun k => nI (dh s k)) (sN s) (fun n => ⟨fun z => absurd z (by rw [nI_ltI (by omega) (by omega)]; omega), fun _ => by rw [dh_end ok]; exact hq⟩) (fun n k hk ih => ?_)
  refine ⟨fun _ => ⟨fun z v hv => ?_, fun z => ?_⟩, fun z => absurd (by rw [nI_ltI (by omega) (by omega)]; omega) z⟩
  · have k0 : k = 0 := (nI_eq (a := k) (b := 0) (by omega) (by omega)).mp z
    subst k0
    have e : dh s 1 = 1 := by
      unfold dh
      rw [if_neg (by omega), G_top ok (by omega)]
      simp
    rw [e] at ih
    rw [hv]
    exact ih
  · have k0 : k ≠ 0 := fun e => z (by rw [e]; rfl)
    obtain ⟨j, rfl⟩ : ∃ j, k = j + 1 := ⟨k - 1, by omega⟩
    have s1 := so_at cm hs (i := j + 1) hk
    have s2 := so_at cm hs (i := j) (by omega)
    have hg : G s (h1 s j) ≤ G s 1000 := fb_ct_mono (gp s) (m := h1 s j) (n := 1000) (by have := (h1_ok ok (i := j) (by omega)).2.1; omega)
    have b1 := (h1_ok ok (i := j) (by omega)).2.1
    have b2 := (h1_ok ok (i := j + 1) (by omega)).2.1
    have d1 : dh s (j + 1) = G s 1000 - G s (h1 s j) := rfl
    have d2 : dh s (j + 1 + 1) = G s 1000 - G s (h1 s (j + 1)) := rfl
    rw [nI_sub1 (by omega), show j + 1 - 1 = j from rfl, pl_cl (show j + 1 < 30 by omega), pl_cl (show j < 30 by omega), s1.1, s1.2.2, s2.1, s2.2.2, nI_eq (by omega) (by omega)]
    refine ⟨pl_in (by omega), s1.2.1, pl_in (by omega), s2.2.1, fun e v hv => ?_, fun e v hv => ?_⟩
    · rw [hv, Int32.add_zero, pl_inc]
      rw [d2, e] at ih
      rw [d1]
      exact ih
    · have g := G_step ok hk e
      rw [hv, pl_inc, pl_inc]
      rw [show dh s (j + 1 + 1) = dh s (j + 1) + 1 by rw [d1, d2]; omega] at ih
      exact ih
theorem ix_highAt_s (c : CInv s μ) {i : Nat} (hi : i < G s 1000) (hQ : ∀ m p, Fr fC μ m → CInv s m → p < 1000 → gp s p = true → G s p = i → Q (nI p) m) : ix_highAt (nI i) μ Q := by
  unfold ix_highAt
  refine ix_sort_c c (q := 1) (by omega) (fun m hf cm hs => ?_)
  have hN := sN_le s
  have ok := c.1
  have hi2 := G_le s (n := 1000) (by omega)
  have h0 : 0 < sN s := by
    apply Classical.byContradiction
    intro z
    rw [G_none (by omega)] at hi
    omega
  refine lq3 (fun n x2 x3 x4 => ix_highAt_L13 (nI i) Q n x2 x3 x4 m) (fun j x2 x3 x4 => x4 = i3 ((sN s : Int) - 1 - j) ∧ ((j = 0 ∧ x2 = nI i ∧ x3 = -1) ∨ (0 < j ∧ G s (h1 s (sN s - j)) < i ∧ x2 = nI (i - G s (h1 s (sN s - j)) - 1) ∧ x3 = nI (h1 s (sN s - j))))) (sN s) _ _ _ ⟨by rw [i3_n, i3_1, i3_sub]; congr 1; omega, Or.inl ⟨rfl, rfl, rfl⟩⟩ ?_ ?_
  · rintro n x2 x3 x4 ⟨rfl, h | ⟨hj, h, -⟩⟩
    · omega
    · rw [Nat.sub_self] at h
      have := G_top ok h0
      omega
  · rintro n j x2 x3 x4 hj ⟨rfl, h⟩ ih
    obtain ⟨k, hk⟩ : ∃ k, sN s = k + 1 + j := ⟨sN s - 1 - j, by omega⟩
    have ek : ((sN s : Int) - 1 - j) = (k : Int) := by omega
    rw [ek, ← i3_n]
    have b1 := (h1_ok ok (i := k) (by omega)).2.1
    have hg := (h1_ok ok (i := k) (by omega)).2.2
    have gb := G_le s (n := h1 s k) (by omega)
    have s1 := so_at cm hs (i := k) (by omega)
    have dec : nI k + (-1 : Int32) = i3 ((sN s : Int) - 1 - (j + 1 : Nat)) := by
      rw [i3_n, i3_m1, i3_add]
      congr 1
      omega
    refine ⟨fun z => absurd z (by rw [i3_n, i3_0, i3_lt (pl_B (by omega) (by omega)) (pl_B (by omega) (by omega))]; omega), fun _ => ?_⟩
    have ei : sN s - (j + 1) = k := by omega
    rw [dec, pl_cl (show k < 30 by omega), s1.1, s1.2.2]
    rcases h with ⟨rfl, rfl, rfl⟩ | ⟨hj0, hlt, rfl, rfl⟩
    · have gl : G s (h1 s k) = 0 := by
        have := G_low ok h0
        rw [show sN s - 1 = k by omega] at this
        exact this
      refine ⟨pl_in (by omega), s1.2.1, fun z => absurd z (by rw [i3_n, i3_m1, i3_eq (pl_B (by omega) (by omega)) (pl_B (by omega) (by omega))]; omega), fun _ => ⟨fun z => ⟨pl_in (by omega), s1.2.1, hQ m _ hf cm b1 hg ?_⟩, fun z => ⟨pl_in (by omega), s1.2.1, ?_⟩⟩⟩
      · have : i = 0 := (nI_eq (a := i) (b := 0) (by omega) (by omega)).mp z
        omega
      · have i0 : 0 < i := Nat.pos_of_ne_zero (fun e => z (by rw [e]; rfl))
        rintro v rfl
        refine ih _ _ _ ⟨rfl, Or.inr ⟨by omega, by rw [ei, gl]; exact i0, by rw [ei, gl, nI_dec i0]; rfl, by rw [ei]⟩⟩
    · have el : sN s - j = k + 1 := by omega
      rw [el] at hlt ⊢
      have b2 := (h1_ok ok (i := k + 1) (by omega)).2.1
      rw [nI_eq (by omega) (by omega)]
      refine ⟨pl_in (by omega), s1.2.1, fun z => ?_, fun z => ?_⟩
      · refine ih _ _ _ ⟨rfl, Or.inr ⟨by omega, by rw [ei, z]; exact hlt, by rw [ei, z], by rw [ei, z]⟩⟩
      · have gs := G_step ok (k := k) (by omega) (fun e => z e.symm)
        refine ⟨fun y => ⟨pl_in (by omega), s1.2.1, hQ m _ hf cm b1 hg ?_⟩, fun y => ⟨pl_in (by omega), s1.2.1, ?_⟩⟩
        · have : i - G s (h1 s (k + 1)) - 1 = 0 := (nI_eq (a := _) (b := 0) (by omega) (by omega)).mp y
          omega
        · have i0 : 0 < i - G s (h1 s (k + 1)) - 1 := Nat.pos_of_ne_zero (fun e => y (by rw [e]; rfl))
          rintro v rfl
          refine ih _ _ _ ⟨rfl, Or.inr ⟨by omega, by rw [ei]; omega, ?_, by rw [ei]⟩⟩
          rw [ei, nI_dec i0]
          congr 1
          omega
end G2
