/-! lists -/
abbrev fL : Nat → Nat → Prop := fun o _ => (96 ≤ o ∧ o < 104) ∨ (135 ≤ o ∧ o ≤ 137)
def OneL (μ : sl_M) (l : Nat) : Prop := (μ (96 + 2 * l) 1 = 0 ∧ μ 135 l = 0) ∨ (μ (96 + 2 * l) 1 = 1 ∧ μ 135 l = 1 ∧ ∃ n, n ≤ 40 ∧ μ (96 + 2 * l) 2 = nI n ∧ μ 136 l = nI n ∧ ∀ i, i < 40 → μ (97 + 2 * l) i = μ 137 (40 * l + i))
theorem OneL.fr {p : Nat → Nat → Prop} {μ μ' : sl_M} {l : Nat} (h : OneL μ l) (hf : Fr p μ μ') (hp : ∀ o k, o = 96 + 2 * l ∨ o = 97 + 2 * l ∨ ((o = 135 ∨ o = 136) ∧ k = l) ∨ (o = 137 ∧ 40 * l ≤ k ∧ k < 40 * l + 40) → ¬ p o k) : OneL μ' l := by
  unfold OneL at *
  rw [hf _ _ (hp (96 + 2 * l) 1 (by omega)), hf _ _ (hp 135 l (by omega)), hf _ _ (hp (96 + 2 * l) 2 (by omega)), hf _ _ (hp 136 l (by omega))]
  rcases h with h | ⟨h1, h2, n, h3, h4, h5, h6⟩
  · exact Or.inl h
  · refine Or.inr ⟨h1, h2, n, h3, h4, h5, fun i hi => ?_⟩
    rw [hf _ _ (hp (97 + 2 * l) i (by omega)), hf _ _ (hp 137 (40 * l + i) (by omega))]
    exact h6 i hi
theorem RInv.ls {p : Nat → Nat → Prop} {μ μ' : sl_M} (h : RInv μ) (hf : Fr p μ μ') (hp : ∀ o k, p o k → fC o k ∨ fN o k ∨ fL o k) (hl : ListR μ') : RInv μ' := by
  obtain ⟨⟨im, h1⟩, h2, ⟨n, t, h3⟩, h4, -⟩ := h
  refine ⟨⟨im, h1.fr hf (fun o k hh q => ?_)⟩, fun c hc => (h2 c hc).fr hf (fun o k hh q => ?_), ⟨n, t, h3.fr hf (fun o k hh q => ?_)⟩, h4.fr hf (fun o k hh q => ?_), hl⟩
  all_goals
    have := hp o k q
    omega
theorem pl_4 {x : Int32} (h : 0 ≤ x ∧ x < 4) : ∃ k, k < 4 ∧ x = nI k := pl_of (y := 4) rfl (by decide) h
theorem pl_cl4 {k : Nat} (h : k < 4) : (nI k).toNatClampNeg = k := nI_clamp (Nat.lt_trans h (by decide))
theorem pl_in4 {k : Nat} (h : k < 4) : vp_in (nI k) 4 := vp_in_nI h (by decide)
theorem len97 : ∀ l, l < 4 → sl_len (96 + 2 * l + 1) = 40 := by decide
theorem ls_ix {l i : Nat} : (40 : Int32) * nI l + nI i = nI (40 * l + i) := by
  have : (40 : Int32) * nI l = nI (40 * l) := by
    rw [i3_n l, i3_n (40 * l), show (40 : Int32) = i3 40 from rfl, i3_mul]
    congr 1
  rw [this, nI_add]
section LS
variable {μ : sl_M} {s : SS} {Q : Int32 → sl_M → Prop} {P : sl_M → Prop}
theorem mo_isList_k {x : Int32} : mo_isList x μ Q ↔ Q (pl_b (0 ≤ x ∧ x < 4)) μ := by
  unfold mo_isList
  rw [mo_in_0, pl_bcong pl_le3, pl_bz]
  simp
theorem ro_begin_s {l : Nat} (hl : l < 4) {x : Int32} (hP : ∀ m, Fr (fun o _ => o = 96 + 2 * l ∨ o = 97 + 2 * l) μ m → m (96 + 2 * l) 1 = 1 → m (96 + 2 * l) 2 = x → (∀ i, i < 40 → m (97 + 2 * l) i = 0) → P m) : ro_begin (96 + 2 * l) x μ P := by
  refine ⟨rfl, ?_⟩
  rintro m2 rfl m3 rfl
  refine lq2 (fun n x2 m => ro_begin_L12 (96 + 2 * l) x P n x2 m) (fun k x2 m => x2 = nI k ∧ Fr (fun o _ => o = 96 + 2 * l ∨ o = 97 + 2 * l) μ m ∧ m (96 + 2 * l) 1 = 1 ∧ m (96 + 2 * l) 2 = x ∧ ∀ i, i < k → m (97 + 2 * l) i = 0) 40 0 _ ⟨rfl, (Fr.rfl'.up (Or.inl rfl)).up (Or.inl rfl), by simp [pl_up], by simp [pl_up], fun i hi => absurd hi (by omega)⟩ ?_ ?_
  · rintro n x2 m ⟨rfl, hf, h1, h2, h3⟩
    exact ⟨fun z => absurd z (by decide), fun _ => hP m hf h1 h2 h3⟩
  · rintro n k x2 m hk ⟨rfl, hf, h1, h2, h3⟩ ih
    refine ⟨fun _ => ⟨by rw [len97 l hl]; exact vp_in_nI hk (by decide), ?_⟩, fun z => absurd (nI_lt hk (by decide)) z⟩
    rintro m1 rfl
    rw [nI_clamp (show k < 2 ^ 31 by omega), show 96 + 2 * l + 1 = 97 + 2 * l by omega]
    refine ih _ _ ⟨pl_inc k, hf.up (Or.inr rfl), by rw [pl_up_o (by omega)]; exact h1, by rw [pl_up_o (by omega)]; exact h2, fun i hi => ?_⟩
    by_cases e : i = k
    · rw [e, pl_up_s]
    · rw [pl_up_k e]
      exact h3 i (by omega)
theorem mo_list_L_s {l : Nat} (hl : l < 4) {x : Int32} (hQ : ∀ m, Fr (fun o k => o = 137 ∧ 40 * l ≤ k ∧ k < 40 * l + 40) μ m → (∀ i, i < 40 → m 137 (40 * l + i) = 0) → Q 1 m) : ∃ n, mo_list_L52 (nI l) x Q n 0 μ := by
  refine lq2 (fun n x2 m => mo_list_L52 (nI l) x Q n x2 m) (fun k x2 m => x2 = nI k ∧ Fr (fun o k => o = 137 ∧ 40 * l ≤ k ∧ k < 40 * l + 40) μ m ∧ ∀ i, i < k → m 137 (40 * l + i) = 0) 40 0 μ ⟨rfl, Fr.rfl', fun i hi => absurd hi (by omega)⟩ ?_ ?_
  · rintro n x2 m ⟨rfl, hf, h3⟩
    exact ⟨fun z => absurd z (by decide), fun _ => hQ m hf h3⟩
  · rintro n k x2 m hk ⟨rfl, hf, h3⟩ ih
    refine ⟨fun _ => ⟨by rw [ls_ix]; exact vp_in_nI (by omega) (by decide), ?_⟩, fun z => absurd (nI_lt hk (by decide)) z⟩
    rintro m1 rfl
    rw [ls_ix, nI_clamp (show 40 * l + k < 2 ^ 31 by omega)]
    refine ih _ _ ⟨pl_inc k, hf.up ⟨rfl, by omega, by omega⟩, fun i hi => ?_⟩
    by_cases e : i = k
    · rw [e, pl_up_s]
    · rw [pl_up_k (by omega)]
      exact h3 i (by omega)
theorem op_list (a1 a2 : Int32) : Opp (sx_list a1 a2) (mo_list a1 a2) := by
  rintro μ ⟨⟨s, ci, mr⟩, ri⟩
  by_cases h1 : 0 ≤ a1 ∧ a1 < 4
  · by_cases h2 : a2 ≤ 40 ∧ ¬ a2 < 0
    · obtain ⟨l, hl, rfl⟩ := pl_4 h1
      obtain ⟨n, hn, rfl⟩ : ∃ n, n ≤ 40 ∧ a2 = nI n := nI_of2 (M := 40) rfl h2.2 h2.1
      unfold sx_list
      rw [sx_isBelow_i]
      refine pl_bb (fun z => absurd h1 z) (fun _ => ⟨fun _ => ⟨fun z => absurd z h2.2, fun _ => ⟨pl_in4 hl, ?_⟩⟩, fun z => absurd h2.1 z⟩)
      rw [pl_cl4 hl]
      refine ro_begin_s hl (fun m hf c1 c2 c3 => ?_)
      rintro m2 rfl
      rw [mo_isList_k]
      refine pl_bb (fun z => absurd h1 z) (fun _ => ⟨fun _ => ⟨fun z => absurd z h2.2, fun _ => ⟨pl_in4 hl, rfl, ?_⟩⟩, fun z => absurd h2.1 z⟩)
      rintro m5 rfl
      refine ⟨pl_in4 hl, ?_⟩
      rintro m6 rfl
      rw [pl_cl4 hl]
      refine mo_list_L_s hl (fun m7 hf7 hz => ?_)
      have G : Fr (fun o k => (o = 104 ∧ k = 5) ∨ ((o = 135 ∨ o = 136) ∧ k = l) ∨ (o = 137 ∧ 40 * l ≤ k ∧ k < 40 * l + 40)) m m7 := Fr.tr (((Fr.rfl'.up (by omega)).up (by omega)).up (by omega) : Fr _ m (sl_up (sl_up (sl_up m 104 5 0) 135 l 1) 136 l (nI n))) (hf7.mono (fun o k z => Or.inr (Or.inr z)))
      have F : Fr (fun o k => (o = 96 + 2 * l ∨ o = 97 + 2 * l) ∨ ((o = 104 ∧ k = 5) ∨ ((o = 135 ∨ o = 136) ∧ k = l) ∨ (o = 137 ∧ 40 * l ≤ k ∧ k < 40 * l + 40))) μ m7 := (hf.mono (fun o k z => Or.inl z)).tr (G.mono (fun o k z => Or.inr z))
      refine ⟨rfl, ⟨s, ci.fr F (fun o k h1 h2 z => by omega), mr.fr F (fun o k h1 h2 z => by omega)⟩, ri.ls F (fun o k z => by omega) (fun l' hl' => ?_)⟩
      by_cases e : l' = l
      · subst e
        refine Or.inr ⟨by rw [G _ _ (by omega)]; exact c1, ?_, n, hn, by rw [G _ _ (by omega)]; exact c2, ?_, fun i hi => ?_⟩
        · rw [hf7 _ _ (by omega), pl_up_o (by decide), pl_up_s]
        · rw [hf7 _ _ (by omega), pl_up_s]
        · rw [G _ _ (by omega), c3 i hi, hz i hi]
      · exact OneL.fr (ri.2.2.2.2 l' hl') F (fun o k hh z => by omega)
    · refine op2 (v := if a2 < 0 then -14 else -2) (s' := s) ci mr ri (fun Q hQ => ?_) (fun μ1 mr1 Q hQ => ?_)
      · have hQ := hQ _ Fr.rfl' ci
        unfold sx_list
        rw [sx_isBelow_i]
        refine pl_bb (fun z => absurd h1 z) (fun _ => ⟨fun c1 => ⟨fun c2 => ?_, fun c2 => absurd ⟨c1, c2⟩ h2⟩, fun c1 => ?_⟩)
        · rw [if_pos c2] at hQ
          exact hQ
        · rw [if_neg (fun z => c1 (by rw [fa_lt] at z; rw [fa_le, show (40 : Int32).toInt = 40 from rfl]; rw [show (0 : Int32).toInt = 0 from rfl] at z; omega))] at hQ
          exact hQ
      · have hQ := hQ _ Fr.th mr1.th
        rintro m2 rfl
        rw [mo_isList_k]
        refine pl_bb (fun z => absurd h1 z) (fun _ => ⟨fun c1 => ⟨fun c2 => ⟨fun _ => ?_, fun z => absurd c2 z⟩, fun c2 => absurd ⟨c1, c2⟩ h2⟩, fun c1 => ⟨fun c2 => ?_, fun c2 => ?_⟩⟩)
        · rw [if_pos c2] at hQ
          exact hQ
        · rw [if_pos c2] at hQ
          exact hQ
        · rw [if_neg c2] at hQ
          exact hQ
  · refine op2 (v := -1) (s' := s) ci mr ri (fun Q hQ => ?_) (fun μ1 mr1 Q hQ => ?_)
    · unfold sx_list
      rw [sx_isBelow_i]
      exact pl_bb (fun _ => hQ _ Fr.rfl' ci) (fun z => absurd z h1)
    · rintro m1 rfl
      rw [mo_isList_k]
      exact pl_bb (fun _ => hQ _ Fr.th mr1.th) (fun z => absurd z h1)
theorem ro_hasPlace_i {a n : Nat} (hn : n ≤ 40) (h : μ a 2 = nI n) {x : Int32} : ro_hasPlace a x μ Q ↔ Q (pl_b (0 ≤ x ∧ x < nI n)) μ := by
  unfold ro_hasPlace
  rw [h, sx_isBelow_i]
  by_cases c : 0 ≤ x ∧ x < nI n
  · have : x < 40 := by
      obtain ⟨k, hk, rfl⟩ := pl_of (y := nI n) rfl (by omega) c
      exact nI_lt (show k < 40 by omega) (by decide)
    simp [pl_bt c, this, pl_bz1]
  · simp [pl_bf c, pl_bz0]
theorem op_set (a1 a2 a3 : Int32) : Opp (sx_set a1 a2 a3) (mo_set a1 a2 a3) := by
  rintro μ ⟨⟨s, ci, mr⟩, ri⟩
  have I2 : Inv (sl_up μ 104 5 0) := ⟨⟨s, ci.fr Fr.th (fun o k h1 h2 z => by omega), mr.th⟩, ri.fr Fr.th (fun o k z => Or.inr z)⟩
  unfold sx_set
  rw [sx_isBelow_i]
  refine pl_bb (fun h1 => ?_) (fun h1 => ?_)
  · rintro m1 rfl
    rw [mo_isList_k]
    refine pl_bb (fun _ => ?_) (fun z => absurd z h1)
    rw [mo_isList_k]
    exact pl_bb (fun _ => ⟨rfl, I2⟩) (fun z => absurd z h1)
  · obtain ⟨l, hl, rfl⟩ := pl_4 h1
    refine ⟨pl_in4 hl, ?_⟩
    rw [pl_cl4 hl]
    have M : ∀ {v : Int32} {m : sl_M}, (v = -11 ∧ m = μ ∧ μ 135 l = 0) → mo_set (nI l) a2 a3 m (fun r2 μ2 => v = r2 ∧ Inv μ2) := by
      rintro v m ⟨rfl, rfl, h135⟩
      rintro m1 rfl
      rw [mo_isList_k]
      refine pl_bb (fun z => absurd h1 z) (fun _ => ⟨pl_in4 hl, ?_⟩)
      rw [pl_cl4 hl, pl_up_o (by decide), h135]
      refine ⟨fun _ => ?_, fun z => absurd rfl z⟩
      rw [mo_isList_k]
      exact pl_bb (fun z => absurd h1 z) (fun _ => ⟨rfl, I2⟩)
    rcases ri.2.2.2.2 l hl with ⟨k1, k2⟩ | ⟨k1, k2, n, hn, k3, k4, k5⟩
    · rw [k1]
      exact ⟨fun _ => M ⟨rfl, rfl, k2⟩, fun z => absurd rfl z⟩
    · rw [k1]
      refine ⟨fun z => absurd z (by decide), fun _ => ⟨pl_in4 hl, ?_⟩⟩
      unfold ro_write
      rw [ro_hasPlace_i hn k3]
      refine pl_bb (fun c => ⟨rfl, fun _ => ?_, fun z => absurd rfl z⟩) (fun c => ?_)
      · rintro m1 rfl
        rw [mo_isList_k]
        refine pl_bb (fun z => absurd h1 z) (fun _ => ⟨pl_in4 hl, ?_⟩)
        rw [pl_cl4 hl, pl_up_o (by decide), pl_up_o (by decide), k2, k4]
        refine ⟨fun z => absurd z (by decide), fun _ => ⟨pl_in4 hl, ?_⟩⟩
        rw [mo_in_0, pl_bcong (pl_sub1 (by omega))]
        exact pl_bb (fun _ => ⟨rfl, I2⟩) (fun z => absurd z c)
      · obtain ⟨i, hi, rfl⟩ := pl_of (y := nI n) rfl (by omega) c
        rw [len97 l hl, nI_clamp (show i < 2 ^ 31 by omega), show 96 + 2 * l + 1 = 97 + 2 * l by omega]
        refine ⟨vp_in_nI (by omega) (by decide), ?_⟩
        rintro m1 rfl
        refine ⟨rfl, fun z => absurd z (by decide), fun _ => ?_⟩
        rintro m2 rfl
        rw [mo_isList_k]
        refine pl_bb (fun z => absurd h1 z) (fun _ => ⟨pl_in4 hl, ?_⟩)
        rw [pl_cl4 hl, pl_up_o (by decide), pl_up_o (by omega), pl_up_o (by decide), pl_up_o (by omega), k2, k4]
        refine ⟨fun z => absurd z (by decide), fun _ => ⟨pl_in4 hl, ?_⟩⟩
        rw [mo_in_0, pl_bcong (pl_sub1 (by omega))]
        refine pl_bb (fun z => absurd c z) (fun _ => ?_)
        rw [ls_ix, nI_clamp (show 40 * l + i < 2 ^ 31 by omega)]
        refine ⟨vp_in_nI (by omega) (by decide), ?_⟩
        rintro m10 rfl
        have F : Fr (fun o k => o = 97 + 2 * l ∨ (o = 104 ∧ k = 5) ∨ (o = 137 ∧ 40 * l ≤ k ∧ k < 40 * l + 40)) μ (sl_up (sl_up (sl_up μ (97 + 2 * l) i a3) 104 5 0) 137 (40 * l + i) a3) := ((Fr.rfl'.up (by omega)).up (by omega)).up (by omega)
        refine ⟨rfl, ⟨s, ci.fr F (fun o k h1 h2 z => by omega), mr.fr F (fun o k h1 h2 z => by omega)⟩, ri.ls F (fun o k z => by omega) (fun l' hl' => ?_)⟩
        by_cases e : l' = l
        · subst e
          refine Or.inr ⟨by rw [F _ _ (by omega)]; exact k1, by rw [F _ _ (by omega)]; exact k2, n, hn, by rw [F _ _ (by omega)]; exact k3, by rw [F _ _ (by omega)]; exact k4, fun j hj => ?_⟩
          rw [pl_up_o (by omega), pl_up_o (by omega)]
          by_cases ej : j = i
          · rw [ej, pl_up_s, pl_up_s]
          · rw [pl_up_k ej, pl_up_k (by omega), pl_up_o (by omega), pl_up_o (by omega)]
            exact k5 j hj
        · exact OneL.fr (ri.2.2.2.2 l' hl') F (fun o k hh z => by omega)
theorem op_get (a1 a2 : Int32) : Opp (sx_get a1 a2) (mo_get a1 a2) := by
  rintro μ ⟨⟨s, ci, mr⟩, ri⟩
  have I2 : Inv (sl_up μ 104 5 0) := ⟨⟨s, ci.fr Fr.th (fun o k h1 h2 z => by omega), mr.th⟩, ri.fr Fr.th (fun o k z => Or.inr z)⟩
  unfold sx_get
  rw [sx_isBelow_i]
  refine pl_bb (fun h1 => ?_) (fun h1 => ?_)
  · rintro m1 rfl
    rw [mo_isList_k]
    exact pl_bb (fun _ => ⟨rfl, I2⟩) (fun z => absurd z h1)
  · obtain ⟨l, hl, rfl⟩ := pl_4 h1
    refine ⟨pl_in4 hl, ?_⟩
    rw [pl_cl4 hl]
    rcases ri.2.2.2.2 l hl with ⟨k1, k2⟩ | ⟨k1, k2, n, hn, k3, k4, k5⟩
    · rw [k1]
      refine ⟨fun _ => ?_, fun z => absurd rfl z⟩
      rintro m1 rfl
      rw [mo_isList_k]
      refine pl_bb (fun z => absurd h1 z) (fun _ => ⟨pl_in4 hl, ?_⟩)
      rw [pl_cl4 hl, pl_up_o (by decide), k2]
      exact ⟨fun _ => ⟨rfl, I2⟩, fun z => absurd rfl z⟩
    · rw [k1]
      refine ⟨fun z => absurd z (by decide), fun _ => ⟨pl_in4 hl, ?_⟩⟩
      rw [ro_hasPlace_i hn k3]
      refine pl_bb (fun c => ?_) (fun c => ?_)
      · rintro m1 rfl
        rw [mo_isList_k]
        refine pl_bb (fun z => absurd h1 z) (fun _ => ⟨pl_in4 hl, ?_⟩)
        rw [pl_cl4 hl, pl_up_o (by decide), pl_up_o (by decide), k2, k4]
        refine ⟨fun z => absurd z (by decide), fun _ => ⟨pl_in4 hl, ?_⟩⟩
        rw [mo_in_0, pl_bcong (pl_sub1 (by omega))]
        exact pl_bb (fun _ => ⟨rfl, I2⟩) (fun z => absurd z c)
      · obtain ⟨i, hi, rfl⟩ := pl_of (y := nI n) rfl (by omega) c
        rw [len97 l hl, nI_clamp (show i < 2 ^ 31 by omega), show 96 + 2 * l + 1 = 97 + 2 * l by omega]
        refine ⟨pl_in4 hl, vp_in_nI (by omega) (by decide), ?_⟩
        rintro m2 rfl
        rw [mo_isList_k]
        refine pl_bb (fun z => absurd h1 z) (fun _ => ⟨pl_in4 hl, ?_⟩)
        rw [pl_cl4 hl, pl_up_o (by decide), pl_up_o (by decide), k2, k4]
        refine ⟨fun z => absurd z (by decide), fun _ => ⟨pl_in4 hl, ?_⟩⟩
        rw [mo_in_0, pl_bcong (pl_sub1 (by omega))]
        refine pl_bb (fun z => absurd c z) (fun _ => ?_)
        rw [ls_ix, nI_clamp (show 40 * l + i < 2 ^ 31 by omega), pl_up_o (by decide)]
        exact ⟨vp_in_nI (by omega) (by decide), k5 i (by omega), I2⟩
end LS
