/-! points and apart -/
noncomputable def ee (s : SS) : Nat → Int
  | 0 => -1
  | i + 1 => sH s (Classical.epsilon (FE s (ee s i)))
noncomputable def ccx (s : SS) (i : Nat) : Nat := Classical.epsilon (FE s (ee s i))
def hasx (s : SS) (i : Nat) : Prop := ∃ k, FE s (ee s i) k
theorem ccx_ok {s : SS} {i : Nat} (h : hasx s i) : FE s (ee s i) (ccx s i) := Classical.epsilon_spec h
theorem ee_s (s : SS) (i : Nat) : ee s (i + 1) = sH s (ccx s i) := rfl
theorem ee_B {s : SS} (ok : sOK s) {i : Nat} (h : ∀ j, j < i → hasx s j) : -1 ≤ ee s i ∧ ee s i ≤ 999 := by
  cases i with
  | zero => exact ⟨by show (-1 : Int) ≤ -1; omega, by show (-1 : Int) ≤ 999; omega⟩
  | succ i =>
    have f := ccx_ok (h i (by omega))
    have o := ok _ f.1 f.2.1
    rw [ee_s]
    omega
theorem ee_q {s : SS} (ok : sOK s) : ∀ {i : Nat}, (∀ j, j < i → hasx s j) → i ≤ fb_ct (fun k => decide (sI s k ∧ sH s k ≤ ee s i)) 30
  | 0, _ => Nat.zero_le _
  | i + 1, h => by
    have ih := ee_q ok (i := i) (fun j hj => h j (by omega))
    have f := ccx_ok (h i (by omega))
    have o := ok _ f.1 f.2.1
    have : fb_ct (fun k => decide (sI s k ∧ sH s k ≤ ee s i)) 30 < fb_ct (fun k => decide (sI s k ∧ sH s k ≤ ee s (i + 1))) 30 := by
      have e1 := ee_s s i
      have f2 := f.2.2.1
      refine ct_lt (fun k _ hk => ?_) ⟨ccx s i, f.1, ?_, ?_⟩
      · have := of_decide_eq_true hk
        exact decide_eq_true ⟨this.1, by omega⟩
      · exact decide_eq_true ⟨f.2.1, by omega⟩
      · exact decide_eq_false (fun z => by omega)
    omega
theorem ee_30 {s : SS} (ok : sOK s) {i : Nat} (h : ∀ j, j < i → hasx s j) (hi : hasx s i) : i < 30 := by
  have h1 := ee_q ok h
  have f := ccx_ok hi
  have o := ok _ f.1 f.2.1
  have f2 := f.2.2.1
  have h2 : fb_ct (fun k => decide (sI s k ∧ sH s k ≤ ee s i)) 30 < fb_ct (fun _ => true) 30 := ct_lt (fun _ _ _ => rfl) ⟨ccx s i, f.1, rfl, decide_eq_false (fun z => by omega)⟩
  have h3 := fb_ct_le (fun _ => true) 30
  omega
def GG (s : SS) (G : Nat) : Prop := G ≤ 30 ∧ (∀ j, j < G → hasx s j) ∧ ¬ hasx s G
theorem GG_ex {s : SS} (ok : sOK s) : ∃ G, GG s G := by
  have : ∀ n, n ≤ 31 → (∀ j, j < n → hasx s j) ∨ ∃ G, G ≤ 30 ∧ (∀ j, j < G → hasx s j) ∧ ¬ hasx s G := by
    intro n
    induction n with
    | zero => exact fun _ => Or.inl (fun j hj => absurd hj (by omega))
    | succ n ih =>
      intro hn
      rcases ih (by omega) with h | h
      · by_cases c : hasx s n
        · refine Or.inl (fun j hj => ?_)
          by_cases e : j = n
          · rw [e]
            exact c
          · exact h j (by omega)
        · exact Or.inr ⟨n, by omega, h, c⟩
      · exact Or.inr h
  rcases this 31 (Nat.le_refl _) with h | h
  · have := ee_30 ok (i := 30) (fun j hj => h j (by omega)) (h 30 (by omega))
    omega
  · exact h
section PT
variable {μ : sl_M} {s : SS} {Q : Int32 → sl_M → Prop} {P : sl_M → Prop}
abbrev fP : Nat → Nat → Prop := fun o k => (o = 38 ∧ k = 2) ∨ o = 39 ∨ o = 40
theorem co_takeApart_s (h : CR 4 μ s) (ok : sOK s) {G : Nat} (hG : GG s G) (hP : ∀ m, Fr fP μ m → m 38 2 = nI G → (∀ j, j < G → m 39 j = nI (ccx s j) ∧ m 40 j = i3 (sH s (ccx s j))) → P m) : co_takeApart μ P := by
  rintro m8 rfl
  refine lq3 (fun n x2 x3 m => co_takeApart_L9 P n x2 x3 m) (fun k x2 x3 m => x2 = i3 (ee s k) ∧ x3 = nI k ∧ Fr fP μ m ∧ m 38 2 = nI k ∧ ∀ j, j < k → m 39 j = nI (ccx s j) ∧ m 40 j = i3 (sH s (ccx s j))) G (-1) 0 _ ⟨rfl, rfl, Fr.rfl'.up (by omega), by rw [pl_up_s]; rfl, fun j hj => absurd hj (by omega)⟩ ?_ ?_
  · rintro n x2 x3 m ⟨rfl, rfl, hf, hc, hw⟩
    refine ⟨fun _ => ?_, fun _ => hP m hf hc hw⟩
    exact co_firstToEnd_s (h.fr hf (fun k j hk _ z => by omega)) ok (ee_B ok hG.2.1) (fun _ => hP m hf hc hw) (fun k hk => absurd ⟨k, hk⟩ hG.2.2)
  · rintro n k x2 x3 m hk ⟨rfl, rfl, hf, hc, hw⟩ ih
    have f := ccx_ok (hG.2.1 k hk)
    have hk30 : k < 30 := by
      have := hG.1
      omega
    have hC : CR 4 m s := h.fr hf (fun k j hk _ z => by omega)
    refine ⟨fun _ => ?_, fun z => absurd (pl_lt hk30) z⟩
    refine co_firstToEnd_s hC ok (ee_B ok (fun j hj => hG.2.1 j (by omega))) (fun hno => absurd f.2.2.1 (hno _ f.1 f.2.1)) (fun a ha => ⟨pl_in hk30, ?_⟩)
    obtain rfl : a = ccx s k := FE_one ha f
    obtain ⟨d0, -, -, d3, -⟩ := hC _ f.1
    have hlt := f.1
    rintro m4 rfl
    refine ⟨pl_in hk30, ?_⟩
    rintro m5 rfl m6 rfl v7 rfl
    rw [pl_cl hk30, d0, pl_up_o (by omega), pl_up_o (by omega), pl_up_o (by omega), pl_up_o (by omega), pl_up_o (by omega), d3, hc, nI_1]
    refine ih _ _ _ ⟨rfl, rfl, ((hf.up (by omega)).up (by omega)).up (by omega), pl_up_s, fun j hj => ?_⟩
    by_cases e : j = k
    · subst e
      exact ⟨by simp [pl_up], by simp [pl_up]⟩
    · have := hw j (by omega)
      simp [pl_up, e, this]
abbrev fQ : Nat → Nat → Prop := fun o k => (o = 104 ∧ k = 16) ∨ o = 119
theorem mo_layTaken_s (h : MR μ s) (ok : sOK s) {G : Nat} (hG : GG s G) (hP : ∀ m, Fr fQ μ m → m 104 16 = nI G → (∀ j, j < G → m 119 j = nI (ccx s j)) → P m) : mo_layTaken μ P := by
  rintro m5 rfl
  refine lq3 (fun n x1 x2 m => mo_layTaken_L9 P n x1 x2 m) (fun k x1 x2 m => (k ≤ G ∧ x1 = i3 (ee s k) ∧ x2 = 1 ∧ Fr fQ μ m ∧ m 104 16 = nI k ∧ ∀ j, j < k → m 119 j = nI (ccx s j)) ∨ (k = G + 1 ∧ x2 = 0 ∧ Fr fQ μ m ∧ m 104 16 = nI G ∧ ∀ j, j < G → m 119 j = nI (ccx s j))) (G + 1) (-1) 1 _ (Or.inl ⟨by omega, rfl, rfl, Fr.rfl'.up (by omega), by rw [pl_up_s]; rfl, fun j hj => absurd hj (by omega)⟩) ?_ ?_
  · rintro n x1 x2 m (⟨hk, -⟩ | ⟨-, rfl, hf, hc, hw⟩)
    · omega
    · exact ⟨fun _ => hP m hf hc hw, fun z => absurd rfl z⟩
  · rintro n k x1 x2 m hk (⟨-, rfl, rfl, hf, hc, hw⟩ | ⟨hk', -⟩) ih
    · have hM : MR m s := h.fr hf (fun o k h1 h2 z => by omega)
      refine ⟨fun z => absurd z (by decide), fun _ => ?_⟩
      refine mo_layTaken_in hM ok (ee_B ok (fun j hj => hG.2.1 j (by omega))) (fun hno => ?_) (fun a ha => ?_)
      · have e : k = G := by
          apply Classical.byContradiction
          intro ne
          have f := ccx_ok (hG.2.1 k (by omega))
          exact hno _ f.1 f.2.1 f.2.2.1
        subst e
        exact ⟨fun _ => ih _ _ _ (Or.inr ⟨rfl, rfl, hf, hc, hw⟩), fun z => absurd rfl z⟩
      · have hlt : k < G := by
          apply Classical.byContradiction
          intro ne
          obtain rfl : k = G := by omega
          exact hG.2.2 ⟨a, ha⟩
        have hk30 : k < 30 := by
          have := hG.1
          omega
        obtain rfl : a = ccx s k := FE_one ha (ccx_ok (hG.2.1 k hlt))
        have hlt2 := ha.1
        refine ⟨fun z => absurd z (by decide), fun _ => ?_⟩
        rw [hc, pl_cl hk30, pl_cl hlt2]
        refine ⟨pl_in hk30, ?_⟩
        rintro m2 rfl
        refine ⟨pl_in hlt2, ?_⟩
        rintro v3 rfl m4 rfl
        rw [pl_up_o (by decide), pl_up_o (by decide), (hM _ hlt2).2.2.1, hc, nI_1]
        refine ih _ _ _ (Or.inl ⟨by omega, rfl, rfl, (hf.up (by omega)).up (by omega), pl_up_s, fun j hj => ?_⟩)
        by_cases e : j = k
        · subst e
          rw [pl_up_o (by decide), pl_up_s]
        · rw [pl_up_o (by decide), pl_up_k e]
          exact hw j (by omega)
    · omega
theorem op_apart (a1 : Int32) : Opp (sx_apart a1) (mo_apart a1) := by
  rintro μ ⟨⟨s, ci, mr⟩, ri⟩
  obtain ⟨G, hG⟩ := GG_ex ci.1
  have g30 := hG.1
  refine op2 (v := if a1 = -1 then nI G else if 0 ≤ a1 ∧ a1 < nI G then nI (ccx s a1.toNatClampNeg) else -1) (s' := s) ci mr ri (fun Q hQ => ?_) (fun μ1 mr1 Q hQ => ?_)
  · refine co_takeApart_s ci.2.1 ci.1 hG (fun m hf hc hw => ?_)
    have hQ := hQ m (hf.mono (fun o k z => by omega)) (ci.fr hf (fun o k h1 h2 z => by omega))
    rw [hc]
    refine ⟨fun c => ?_, fun c => ?_⟩
    · rw [if_pos c] at hQ
      exact hQ
    · rw [if_neg c] at hQ
      rw [sx_isBelow_i]
      refine pl_bb (fun c2 => ?_) (fun c2 => ?_)
      · rw [if_neg c2] at hQ
        exact hQ
      · rw [if_pos c2] at hQ
        obtain ⟨i, hi, rfl⟩ := pl_of (y := nI G) rfl (by omega) c2
        rw [pl_cl (show i < 30 by omega)] at hQ ⊢
        rw [(hw i hi).1]
        exact ⟨pl_in (by omega), hQ⟩
  · rintro m1 rfl
    refine mo_layTaken_s mr1.th ci.1 hG (fun m hf hc hw => ?_)
    have hM : MR m s := mr1.th.fr hf (fun o k h1 h2 z => by omega)
    have hQ := hQ m (Fr.th.tr (hf.mono (fun o k z => by omega))) hM
    rw [hc]
    refine ⟨fun c => ?_, fun c => ?_⟩
    · rw [if_pos c] at hQ
      exact hQ
    · rw [if_neg c] at hQ
      rw [mo_in_0, pl_bcong (pl_sub1 (by omega))]
      refine pl_bb (fun c2 => ?_) (fun c2 => ?_)
      · rw [if_neg c2] at hQ
        exact hQ
      · rw [if_pos c2] at hQ
        obtain ⟨i, hi, rfl⟩ := pl_of (y := nI G) rfl (by omega) c2
        rw [pl_cl (show i < 30 by omega)] at hQ ⊢
        rw [hw i hi]
        exact ⟨pl_in (by omega), hQ⟩
theorem op_points (a1 : Int32) : Opp (sx_points a1) (mo_points a1) := by
  rintro μ ⟨⟨s, ci, mr⟩, ri⟩
  obtain ⟨G, hG⟩ := GG_ex ci.1
  have g30 := hG.1
  refine op2 (v := if a1 = -1 then nI G else if 0 ≤ a1 ∧ a1 < nI G then i3 (sH s (ccx s a1.toNatClampNeg)) else -1) (s' := s) ci mr ri (fun Q hQ => ?_) (fun μ1 mr1 Q hQ => ?_)
  · refine co_takeApart_s ci.2.1 ci.1 hG (fun m hf hc hw => ?_)
    have hQ := hQ m (hf.mono (fun o k z => by omega)) (ci.fr hf (fun o k h1 h2 z => by omega))
    rw [hc]
    refine ⟨fun c => ?_, fun c => ?_⟩
    · rw [if_pos c] at hQ
      exact hQ
    · rw [if_neg c] at hQ
      rw [sx_isBelow_i]
      refine pl_bb (fun c2 => ?_) (fun c2 => ?_)
      · rw [if_neg c2] at hQ
        exact hQ
      · rw [if_pos c2] at hQ
        obtain ⟨i, hi, rfl⟩ := pl_of (y := nI G) rfl (by omega) c2
        rw [pl_cl (show i < 30 by omega)] at hQ ⊢
        rw [(hw i hi).2]
        exact ⟨pl_in (by omega), hQ⟩
  · rintro m1 rfl
    refine mo_layTaken_s mr1.th ci.1 hG (fun m hf hc hw => ?_)
    have hM : MR m s := mr1.th.fr hf (fun o k h1 h2 z => by omega)
    have hQ := hQ m (Fr.th.tr (hf.mono (fun o k z => by omega))) hM
    rw [hc]
    refine ⟨fun c => ?_, fun c => ?_⟩
    · rw [if_pos c] at hQ
      exact hQ
    · rw [if_neg c] at hQ
      rw [mo_in_0, pl_bcong (pl_sub1 (by omega))]
      refine pl_bb (fun c2 => ?_) (fun c2 => ?_)
      · rw [if_neg c2] at hQ
        exact hQ
      · rw [if_pos c2] at hQ
        obtain ⟨i, hi, rfl⟩ := pl_of (y := nI G) rfl (by omega) c2
        have f := ccx_ok (hG.2.1 i hi)
        rw [pl_cl (show i < 30 by omega)] at hQ ⊢
        rw [hw i hi, pl_cl f.1, (hM _ f.1).2.2.1]
        exact ⟨pl_in (by omega), pl_in f.1, hQ⟩
end PT
