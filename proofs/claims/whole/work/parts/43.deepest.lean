/-! the deepest place -/
def bq (f : Nat → Int) (t p : Nat) : Prop := f p < f t ∨ (f p = f t ∧ t ≤ p)
def Best (f : Nat → Int) (t : Nat) : Prop := t < 1000 ∧ ∀ p, p < 1000 → bq f t p
theorem bq_tr {f : Nat → Int} {a b c : Nat} (h1 : bq f a b) (h2 : bq f b c) : bq f a c := by
  unfold bq at *
  omega
theorem bq_rfl {f : Nat → Int} {a : Nat} : bq f a a := Or.inr ⟨rfl, Nat.le_refl _⟩
noncomputable def tB (f : Nat → Int) : Nat := Classical.epsilon (Best f)
theorem Best.tB {f : Nat → Int} {t : Nat} (h : Best f t) : tB f = t := by
  have h2 : Best f (Classical.epsilon (Best f)) := Classical.epsilon_spec ⟨t, h⟩
  have a := h.2 _ h2.1
  have b := h2.2 _ h.1
  show Classical.epsilon (Best f) = t
  unfold bq at a b
  omega
abbrev hf (s : SS) (m : Nat) : Nat → Int := fun p => hg s (wm s m) (p : Int) 30
theorem wm_B {s : SS} (ok : sOK s) (m : Nat) : ∀ k, k < 30 → sI s k → -99 ≤ wm s m k ∧ wm s m k ≤ 99 := by
  intro k hk ik
  have o := ok k hk ik
  show -99 ≤ (if m = 0 then (1 : Int) else if m = 1 then sW s k else -sW s k) ∧ (if m = 0 then (1 : Int) else if m = 1 then sW s k else -sW s k) ≤ 99
  split
  · omega
  · split <;> omega
theorem hf_B {s : SS} (ok : sOK s) (m p : Nat) : -2970 ≤ hf s m p ∧ hf s m p ≤ 2970 := by
  have := hg_B (s := s) (w := wm s m) (x := (p : Int)) (n := 30) (wm_B ok m)
  exact ⟨by show -2970 ≤ hg s (wm s m) (p : Int) 30; omega, by show hg s (wm s m) (p : Int) 30 ≤ 2970; omega⟩
theorem hg_step {s : SS} {w : Nat → Int} {p : Nat} : ∀ n, (∀ k, k < n → sI s k → sL s k ≠ ((p + 1 : Nat) : Int) ∧ sH s k + 1 ≠ ((p + 1 : Nat) : Int)) → hg s w ((p + 1 : Nat) : Int) n = hg s w (p : Int) n
  | 0, _ => rfl
  | n + 1, h => by
    have ih := hg_step (s := s) (w := w) (p := p) n (fun k hk => h k (by omega))
    by_cases c : sI s n ∧ sL s n ≤ (p : Int) ∧ (p : Int) ≤ sH s n
    · have := h n (by omega) c.1
      rw [hg_y c, hg_y ⟨c.1, by omega, by omega⟩, ih]
    · rw [hg_n c, hg_n (fun z => by have := h n (by omega) z.1; exact c ⟨z.1, by omega, by omega⟩), ih]
section DE
variable {μ : sl_M} {s : SS} {Q : Int32 → sl_M → Prop} {P : sl_M → Prop}
theorem ix_higherOf_s (h : CR 4 μ s) (ok : sOK s) {m : Nat} (hm : m ≤ 2) {t p : Nat} (ht : t < 1000) (hp : p < 2000) (hQ : ∀ r, r < 1000 → bq (hf s m) r t → (p < 1000 → bq (hf s m) r p) → Q (nI r) μ) : ix_higherOf (nI t) (nI p) (nI m) μ Q := by
  have bt := hf_B ok m t
  have bp := hf_B ok m p
  refine ⟨fun c => ?_, fun c => hQ t ht bq_rfl (fun z => absurd (nI_le (show p ≤ 999 by omega) (by decide)) c)⟩
  have hp' : p < 1000 := by
    have := (nI_leI (a := p) (b := 999) (by omega) (by decide)).mp c
    omega
  rw [i3_n p, i3_n t]
  refine ix_heightAt_s h ok (pl_B (by omega) (by omega)) hm (ix_heightAt_s h ok (pl_B (by omega) (by omega)) hm ?_)
  rintro v5 rfl
  have e : i3 (hg s (wm s m) (p : Int) 30) - i3 (hg s (wm s m) (t : Int) 30) = i3 (hf s m p - hf s m t) := i3_sub _ _
  rw [e, i3_0, i3_le (pl_B (by omega) (by omega)) (pl_B (by omega) (by omega)), i3_eq (pl_B (by omega) (by omega)) (pl_B (by omega) (by omega)), i3_lt (pl_B (by omega) (by omega)) (pl_B (by omega) (by omega)), ← i3_n, ← i3_n]
  refine ⟨fun c1 => ⟨fun c2 => ⟨fun c3 => hQ p hp' (Or.inr ⟨by omega, by omega⟩) (fun _ => bq_rfl), fun c3 => hQ t ht bq_rfl (fun _ => Or.inr ⟨by omega, by omega⟩)⟩, fun c2 => hQ t ht bq_rfl (fun _ => Or.inl (by omega))⟩, fun c1 => hQ p hp' (Or.inl (by omega)) (fun _ => bq_rfl)⟩
theorem ix_topPlace_s (h : CR 4 μ s) (ok : sOK s) {m : Nat} (hm : m ≤ 2) (hQ : Best (hf s m) (tB (hf s m)) → Q (nI (tB (hf s m))) μ) : ix_topPlace (nI m) μ Q := by
  refine lq2 (fun n x2 x3 => ix_topPlace_L4 (nI m) Q n x2 x3 μ) (fun k x2 x3 => ∃ t, x2 = nI t ∧ x3 = nI k ∧ t < 1000 ∧ bq (hf s m) t 0 ∧ ∀ j, j < k → sI s j → ∀ p : Nat, p < 1000 → sL s j = (p : Int) ∨ sH s j + 1 = (p : Int) → bq (hf s m) t p) 30 0 0 ⟨0, rfl, rfl, by omega, bq_rfl, fun j hj => absurd hj (by omega)⟩ ?_ ?_
  · rintro n x2 x3 ⟨t, rfl, rfl, ht, h0, hc⟩
    refine ⟨fun z => absurd z pl_nlt, fun _ => ?_⟩
    have hB : Best (hf s m) t := by
      refine ⟨ht, fun p => ?_⟩
      induction p with
      | zero => exact fun _ => h0
      | succ p ih =>
        intro hp
        by_cases c : ∃ k, k < 30 ∧ sI s k ∧ (sL s k = ((p + 1 : Nat) : Int) ∨ sH s k + 1 = ((p + 1 : Nat) : Int))
        · obtain ⟨k, hk, ik, hd⟩ := c
          exact hc k hk ik (p + 1) hp hd
        · have e : hf s m (p + 1) = hf s m p := hg_step 30 (fun k hk ik => ⟨fun z => c ⟨k, hk, ik, Or.inl z⟩, fun z => c ⟨k, hk, ik, Or.inr z⟩⟩)
          have := ih (by omega)
          unfold bq at *
          omega
    rw [hB.tB] at hQ
    exact hQ hB
  · rintro n k x2 x3 hk ⟨t, rfl, rfl, ht, h0, hc⟩ ih
    refine ⟨fun _ => ⟨pl_in hk, ?_⟩, fun z => absurd (pl_lt hk) z⟩
    obtain ⟨-, d1, d2, d3, -⟩ := h k hk
    rw [pl_cl hk, d1, d2, pl_bz, pl_inc]
    refine pl_bb (fun ik => ih _ _ ⟨t, rfl, rfl, ht, h0, fun j hj ij => ?_⟩) (fun ik => ⟨pl_in hk, ?_⟩)
    · by_cases e : j = k
      · subst e
        exact absurd ij ik
      · exact hc j (by omega) ij
    · have o := ok k hk ik
      obtain ⟨a, ea⟩ : ∃ a : Nat, sL s k = (a : Int) := ⟨(sL s k).toNat, by omega⟩
      obtain ⟨b, eb⟩ : ∃ b : Nat, sH s k = (b : Int) := ⟨(sH s k).toNat, by omega⟩
      rw [ea, ← i3_n]
      refine ix_higherOf_s h ok hm ht (by omega) (fun r hr hrt hra => ⟨pl_in hk, ?_⟩)
      rw [d3, eb, ← i3_n, nI_1]
      refine ix_higherOf_s h ok hm hr (by omega) (fun r2 hr2 h2r h2b => ih _ _ ⟨r2, rfl, rfl, hr2, bq_tr h2r (bq_tr hrt h0), fun j hj ij p hp hd => ?_⟩)
      by_cases e : j = k
      · subst e
        rcases hd with hd | hd
        · obtain rfl : p = a := by omega
          exact bq_tr h2r (hra hp)
        · obtain rfl : p = b + 1 := by omega
          exact h2b hp
      · exact bq_tr h2r (bq_tr hrt (hc j (by omega) ij p hp hd))
theorem mo_numberAt_s (hd : DL s μ 30) {w p : Nat} (hw : w < 6) (hp : p < 1000) (hQ : Q (i3 (hf s (w / 2) p)) μ) : mo_numberAt (nI p) (nI w) μ Q := by
  have iv : vp_in (nI p) 1000 := vp_in_nI hp (by decide)
  have d := hd p hp
  have w6 : w = 0 ∨ w = 1 ∨ w = 2 ∨ w = 3 ∨ w = 4 ∨ w = 5 := by omega
  unfold mo_numberAt
  rw [nI_clamp (show p < 2 ^ 31 by omega), d.1, d.2]
  have neg : hf s 2 p = -(hg s (sW s) (p : Int) 30) := hg_neg 30
  rcases w6 with rfl | rfl | rfl | rfl | rfl | rfl
  · exact ⟨fun _ => ⟨iv, hQ⟩, fun z => absurd (by decide) z⟩
  · exact ⟨fun _ => ⟨iv, hQ⟩, fun z => absurd (by decide) z⟩
  · exact ⟨fun z => absurd z (by decide), fun _ => ⟨fun _ => ⟨iv, hQ⟩, fun z => absurd (by decide) z⟩⟩
  · exact ⟨fun z => absurd z (by decide), fun _ => ⟨fun _ => ⟨iv, hQ⟩, fun z => absurd (by decide) z⟩⟩
  · rw [i3_neg, ← neg]
    exact ⟨fun z => absurd z (by decide), fun _ => ⟨fun z => absurd z (by decide), fun _ => ⟨iv, hQ⟩⟩⟩
  · rw [i3_neg, ← neg]
    exact ⟨fun z => absurd z (by decide), fun _ => ⟨fun z => absurd z (by decide), fun _ => ⟨iv, hQ⟩⟩⟩
theorem mo_deepestOf_s (h : MR μ s) (ok : sOK s) {w : Nat} (hw : w < 6) (hQ : ∀ m, Fr (fun o _ => o = 115 ∨ o = 116) μ m → DL s m 30 → Best (hf s (w / 2)) (tB (hf s (w / 2))) → Q (nI (tB (hf s (w / 2)))) m) : mo_deepestOf (nI w) μ Q := by
  refine mo_layDepths_s h ok (fun m hf1 hd => ?_)
  refine lq2 (fun n x2 x3 => mo_deepestOf_L8 (nI w) Q n x2 x3 m) (fun k x2 x3 => ∃ t, x2 = nI t ∧ x3 = nI (k + 1) ∧ t ≤ k ∧ ∀ p, p ≤ k → bq (hf s (w / 2)) t p) 999 0 1 ⟨0, rfl, rfl, by omega, fun p hp => (Nat.le_zero.mp hp) ▸ bq_rfl⟩ ?_ ?_
  · rintro n x2 x3 ⟨t, rfl, rfl, ht, hb⟩
    have hB : Best (hf s (w / 2)) t := ⟨by omega, fun p hp => hb p (by omega)⟩
    have := hQ m hf1 hd
    rw [hB.tB] at this
    exact ⟨fun z => absurd z (by decide), fun _ => this hB⟩
  · rintro n k x2 x3 hk ⟨t, rfl, rfl, ht, hb⟩ ih
    have b1 := hf_B ok (w / 2) (k + 1)
    have b2 := hf_B ok (w / 2) t
    refine ⟨fun _ => ?_, fun z => absurd (nI_lt (show k + 1 < 1000 by omega) (by decide)) z⟩
    refine mo_numberAt_s hd hw (by omega) (mo_numberAt_s hd hw (by omega) ?_)
    rw [i3_le (pl_B (by omega) (by omega)) (pl_B (by omega) (by omega)), pl_inc]
    refine ⟨fun c => ih _ _ ⟨t, rfl, rfl, by omega, fun p hp => ?_⟩, fun c => ih _ _ ⟨k + 1, rfl, rfl, by omega, fun p hp => ?_⟩⟩
    · by_cases e : p = k + 1
      · subst e
        unfold bq
        omega
      · exact hb p (by omega)
    · by_cases e : p = k + 1
      · subst e
        exact bq_rfl
      · have := hb p (by omega)
        unfold bq at *
        omega
theorem w_half : ∀ w, w < 6 → nI w / 2 = nI (w / 2) := by decide
theorem w_odd : ∀ w, w < 6 → ((nI w - nI w / 2 * 2 = 0) ↔ w % 2 = 0) := by decide
theorem op_deepest (a1 : Int32) : Opp (sx_deepest a1) (mo_deepest a1) := by
  rintro μ ⟨⟨s, ci, mr⟩, ri⟩
  by_cases h1 : 0 ≤ a1 ∧ a1 < 6
  · obtain ⟨w, hw, rfl⟩ := pl_of (y := 6) (N := 6) rfl (by decide) h1
    refine op2 (v := if w % 2 = 0 then nI (tB (hf s (w / 2))) else if w = 1 then i3 (hf s 0 (tB (hf s (w / 2)))) else i3 (hf s 1 (tB (hf s (w / 2))))) (s' := s) ci mr ri (fun Q hQ => ?_) (fun μ1 mr1 Q hQ => ?_)
    · have hQ := hQ _ Fr.rfl' ci
      unfold sx_deepest
      rw [sx_isBelow_i]
      refine pl_bb (fun z => absurd h1 z) (fun _ => ⟨by decide, ?_⟩)
      rw [w_half w hw]
      refine ix_topPlace_s ci.2.1 ci.1 (by omega) (fun hB => ⟨by decide, ?_⟩)
      have hb := hB.1
      rw [← w_half w hw, w_odd w hw]
      refine ⟨fun c => ?_, fun c => ⟨fun c1 => ?_, fun c1 => ?_⟩⟩
      · rw [if_pos c] at hQ
        exact hQ
      · have e1 : w = 1 := (nI_eq (by omega) (by decide)).mp (show nI w = nI 1 from c1)
        rw [if_neg c, if_pos e1] at hQ
        rw [i3_n (tB _)]
        exact ix_heightAt_s (m := 0) ci.2.1 ci.1 (pl_B (by omega) (by omega)) (by omega) hQ
      · have e1 : ¬ w = 1 := fun z => c1 (by rw [z]; rfl)
        rw [if_neg c, if_neg e1] at hQ
        rw [i3_n (tB _)]
        exact ix_heightAt_s (m := 1) ci.2.1 ci.1 (pl_B (by omega) (by omega)) (by omega) hQ
    · rintro m1 rfl
      rw [mo_in_0, pl_bcong pl_le5]
      refine pl_bb (fun z => absurd h1 z) (fun _ => ?_)
      refine mo_deepestOf_s mr1.th ci.1 hw (fun m hf1 hd hB => ⟨by decide, ?_⟩)
      have hQ := hQ m (Fr.th.tr hf1.dN) (mr1.th.d hf1)
      have hb := hB.1
      have d := hd _ hb
      have iv : vp_in (nI (tB (hf s (w / 2)))) 1000 := vp_in_nI hb (by decide)
      rw [w_odd w hw, nI_clamp (show tB (hf s (w / 2)) < 2 ^ 31 by omega), d.1, d.2]
      refine ⟨fun c => ?_, fun c => ⟨fun c1 => ⟨iv, ?_⟩, fun c1 => ⟨iv, ?_⟩⟩⟩
      · rw [if_pos c] at hQ
        exact hQ
      · have e1 : w = 1 := (nI_eq (by omega) (by decide)).mp (show nI w = nI 1 from c1)
        rw [if_neg c, if_pos e1] at hQ
        exact hQ
      · have e1 : ¬ w = 1 := fun z => c1 (by rw [z]; rfl)
        rw [if_neg c, if_neg e1] at hQ
        exact hQ
  · refine op2 (v := -1) (s' := s) ci mr ri (fun Q hQ => ?_) (fun μ1 mr1 Q hQ => ?_)
    · unfold sx_deepest
      rw [sx_isBelow_i]
      exact pl_bb (fun _ => hQ _ Fr.rfl' ci) (fun z => absurd z h1)
    · rintro m1 rfl
      rw [mo_in_0, pl_bcong pl_le5]
      exact pl_bb (fun _ => hQ _ Fr.th mr1.th) (fun z => absurd z h1)
end DE
