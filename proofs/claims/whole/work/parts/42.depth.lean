/-! depths and loads -/
def hg (s : SS) (w : Nat → Int) (x : Int) : Nat → Int
  | 0 => 0
  | n + 1 => hg s w x n + (if sI s n ∧ sL s n ≤ x ∧ x ≤ sH s n then w n else 0)
abbrev w1 : Nat → Int := fun _ => 1
abbrev wm (s : SS) (m : Nat) : Nat → Int := fun k => if m = 0 then 1 else if m = 1 then sW s k else -sW s k
theorem hg_y {s : SS} {w : Nat → Int} {x : Int} {n : Nat} (h : sI s n ∧ sL s n ≤ x ∧ x ≤ sH s n) : hg s w x (n + 1) = hg s w x n + w n := by
  show hg s w x n + _ = _
  rw [if_pos h]
theorem hg_n {s : SS} {w : Nat → Int} {x : Int} {n : Nat} (h : ¬ (sI s n ∧ sL s n ≤ x ∧ x ≤ sH s n)) : hg s w x (n + 1) = hg s w x n := by
  show hg s w x n + _ = _
  rw [if_neg h, Int.add_zero]
theorem hg_B {s : SS} {w : Nat → Int} {x : Int} : ∀ {n : Nat}, (∀ k, k < n → sI s k → -99 ≤ w k ∧ w k ≤ 99) → -(99 * (n : Int)) ≤ hg s w x n ∧ hg s w x n ≤ 99 * (n : Int)
  | 0, _ => ⟨Int.le_refl _, Int.le_refl _⟩
  | n + 1, h => by
    have := hg_B (s := s) (w := w) (x := x) (n := n) (fun k hk => h k (by omega))
    by_cases c : sI s n ∧ sL s n ≤ x ∧ x ≤ sH s n
    · have := h n (by omega) c.1
      rw [hg_y c]
      omega
    · rw [hg_n c]
      omega
theorem hg_neg {s : SS} {x : Int} : ∀ n, hg s (wm s 2) x n = -(hg s (wm s 1) x n)
  | 0 => rfl
  | n + 1 => by
    by_cases c : sI s n ∧ sL s n ≤ x ∧ x ≤ sH s n
    · rw [hg_y c, hg_y c, hg_neg n]
      simp [wm]
      omega
    · rw [hg_n c, hg_n c, hg_neg n]
section DP
variable {μ : sl_M} {s : SS} {Q : Int32 → sl_M → Prop} {P : sl_M → Prop}
theorem ix_heightAt_s (h : CR 4 μ s) (ok : sOK s) {x : Int} (bx : i3B x) {m : Nat} (hm : m ≤ 2) (hQ : Q (i3 (hg s (wm s m) x 30)) μ) : ix_heightAt (i3 x) (nI m) μ Q := by
  refine up_0 (fun n c a => ix_heightAt_L5 (i3 x) (nI m) Q n a c μ) (fun k => i3 (hg s (wm s m) x k)) 30 (fun n => ⟨fun z => absurd z pl_nlt, fun _ => hQ⟩) (fun n k hk ih => ?_)
  refine ⟨fun _ => ⟨pl_in hk, ?_⟩, fun z => absurd (pl_lt hk) z⟩
  rw [pl_cl hk, (h k hk).2.1, pl_bz, pl_inc]
  refine pl_bb (fun hi => ?_) (fun hi => ⟨pl_in hk, ?_⟩)
  · rw [hg_n (fun z => hi z.1)] at ih
    exact ih
  · rw [sp_meets_i h ok hk hi bx bx]
    refine pl_bb (fun c => ?_) (fun c => ⟨pl_in hk, ?_⟩)
    · rw [hg_n (fun z => c z.2)] at ih
      exact ih
    · rw [hg_y ⟨hi, c⟩, ← i3_add] at ih
      have h4 := (h k hk).2.2.2.2
      have hm3 : m = 0 ∨ m = 1 ∨ m = 2 := by omega
      rcases hm3 with rfl | rfl | rfl
      · exact ⟨fun _ v hv => by rw [hv]; exact ih, fun z => absurd rfl z⟩
      · refine ⟨fun z => absurd z (by decide), fun _ => ⟨fun _ v hv => ?_, fun z => absurd rfl z⟩⟩
        rw [hv, h4]
        exact ih
      · refine ⟨fun z => absurd z (by decide), fun _ => ⟨fun z => absurd z (by decide), fun _ v hv => ?_⟩⟩
        rw [hv, h4, i3_neg]
        exact ih
def DL (s : SS) (m : sl_M) (k : Nat) : Prop := ∀ p, p < 1000 → m 115 p = i3 (hg s w1 (p : Int) k) ∧ m 116 p = i3 (hg s (sW s) (p : Int) k)
theorem mo_layDepths_s (h : MR μ s) (ok : sOK s) (hQ : ∀ m, Fr (fun o _ => o = 115 ∨ o = 116) μ m → DL s m 30 → P m) : mo_layDepths μ P := by
  refine lq2 (fun n x m => mo_layDepths_L2 P n x m) (fun k x m => x = nI k ∧ Fr (fun o _ => o = 115 ∨ o = 116) μ m ∧ ∀ p, p < k → m 115 p = 0 ∧ m 116 p = 0) 1000 0 μ ⟨rfl, Fr.rfl', fun p hp => absurd hp (by omega)⟩ ?_ ?_
  · rintro n x m ⟨rfl, hf, hz⟩
    refine ⟨fun z => absurd z (by decide), fun _ => ?_⟩
    refine lq2 (fun n x m => mo_layDepths_L31 P n x m) (fun k x m => x = nI k ∧ Fr (fun o _ => o = 115 ∨ o = 116) μ m ∧ DL s m k) 30 0 m ⟨rfl, hf, hz⟩ ?_ ?_
    · rintro n x m ⟨rfl, hf, hd⟩
      exact ⟨fun z => absurd z pl_nlt, fun _ => hQ m hf hd⟩
    · rintro n k x m hk ⟨rfl, hf, hd⟩ ih
      have hM : ∀ {m'}, Fr (fun o _ => o = 115 ∨ o = 116) μ m' → MR m' s := fun hf => h.fr hf (fun o k h1 h2 z => by omega)
      refine ⟨fun _ => ⟨pl_in hk, ?_⟩, fun z => absurd (pl_lt hk) z⟩
      rw [pl_cl hk, (hM hf k hk).2.1]
      by_cases ik : sI s k
      · have o := ok k hk ik
        have B := ok.B hk ik
        obtain ⟨a, ea⟩ : ∃ a : Nat, sL s k = (a : Int) := ⟨(sL s k).toNat, by omega⟩
        obtain ⟨b, eb⟩ : ∃ b : Nat, sH s k = (b : Int) := ⟨(sH s k).toNat, by omega⟩
        have hab : a ≤ b ∧ b ≤ 999 := by omega
        refine lq2 (fun n4 x2 m => mo_layDepths_L44 P (mo_layDepths_L31 P n) n4 (nI k) x2 m) (fun i x2 m => x2 = nI (a + i) ∧ Fr (fun o _ => o = 115 ∨ o = 116) μ m ∧ ∀ p, p < 1000 → m 115 p = i3 (hg s w1 (p : Int) k + (if a ≤ p ∧ p < a + i then 1 else 0)) ∧ m 116 p = i3 (hg s (sW s) (p : Int) k + (if a ≤ p ∧ p < a + i then sW s k else 0))) (b + 1 - a) (i3 (sL s k)) m ⟨by rw [ea, ← i3_n]; rfl, hf, fun p hp => ?_⟩ ?_ ?_
        · rw [if_neg (by omega), if_neg (by omega), Int.add_zero, Int.add_zero]
          exact hd p hp
        · rintro n4 x2 m ⟨rfl, hf, hw⟩
          refine ⟨pl_in hk, fun _ => ⟨pl_in hk, fun z => ?_, fun _ => ih _ _ ⟨pl_inc k, hf, fun p hp => ?_⟩⟩, fun z => ?_⟩
          · rw [pl_cl hk, (hM hf k hk).2.2.1, eb, ← i3_n, nI_leI (by omega) (by omega)] at z
            omega
          · have := hw p hp
            by_cases c : a ≤ p ∧ p < a + (b + 1 - a)
            · rw [if_pos c, if_pos c] at this
              rw [hg_y ⟨ik, by omega, by omega⟩, hg_y ⟨ik, by omega, by omega⟩]
              exact this
            · rw [if_neg c, if_neg c, Int.add_zero, Int.add_zero] at this
              rw [hg_n (fun z => c (by omega)), hg_n (fun z => c (by omega))]
              exact this
          · rw [pl_cl hk, (hM hf k hk).1, pl_b1] at z
            exact absurd ik z
        · rintro n4 i x2 m hi ⟨rfl, hf, hw⟩ ih4
          have hp : a + i < 1000 := by omega
          have cl : (nI (a + i)).toNatClampNeg = a + i := nI_clamp (by omega)
          have iv : vp_in (nI (a + i)) 1000 := vp_in_nI hp (by decide)
          refine ⟨pl_in hk, fun _ => ⟨pl_in hk, fun _ => ⟨iv, iv, ?_⟩, fun z => ?_⟩, fun z => ?_⟩
          · rintro m5 rfl
            refine ⟨iv, pl_in hk, iv, ?_⟩
            rintro m6 rfl
            rw [cl, pl_cl hk, pl_up_o (by decide), pl_up_o (by decide), (hM hf k hk).2.2.2]
            refine ih4 _ _ ⟨by rw [nI_1]; rfl, (hf.up (Or.inl rfl)).up (Or.inr rfl), fun p hpp => ?_⟩
            by_cases c : p = a + i
            · subst c
              have := hw _ hp
              rw [if_neg (by omega), if_neg (by omega), Int.add_zero, Int.add_zero] at this
              rw [if_pos (by omega), if_pos (by omega), pl_up_o (by decide), pl_up_s, pl_up_s, this.1, this.2, i3_1, i3_add, i3_add]
              exact ⟨rfl, rfl⟩
            · have := hw p hpp
              have e : (a ≤ p ∧ p < a + (i + 1)) ↔ (a ≤ p ∧ p < a + i) := by omega
              exact ⟨by rw [pl_up_k c, pl_up_k c]; simp only [e]; exact this.1, by rw [pl_up_k c, pl_up_k c]; simp only [e]; exact this.2⟩
          · rw [pl_cl hk, (hM hf k hk).2.2.1, eb, ← i3_n, nI_leI (by omega) (by omega)] at z
            omega
          · rw [pl_cl hk, (hM hf k hk).1, pl_b1] at z
            exact absurd ik z
      · refine ⟨1, pl_in hk, fun z => ?_, fun _ => ih _ _ ⟨pl_inc k, hf, fun p hp => ?_⟩⟩
        · rw [pl_cl hk, (hM hf k hk).1, pl_b1] at z
          exact absurd z ik
        · rw [hg_n (fun z => ik z.1), hg_n (fun z => ik z.1)]
          exact hd p hp
  · rintro n k x m hk ⟨rfl, hf, hz⟩ ih
    have cl : (nI k).toNatClampNeg = k := nI_clamp (by omega)
    have iv : vp_in (nI k) 1000 := vp_in_nI hk (by decide)
    refine ⟨fun _ => ⟨iv, ?_⟩, fun z => absurd (nI_lt hk (by decide)) z⟩
    rintro m1 rfl
    refine ⟨iv, ?_⟩
    rintro m2 rfl
    rw [cl]
    refine ih _ _ ⟨pl_inc k, (hf.up (Or.inl rfl)).up (Or.inr rfl), fun p hp => ?_⟩
    by_cases e : p = k
    · rw [e, pl_up_o (by decide), pl_up_s, pl_up_s]
      exact ⟨rfl, rfl⟩
    · rw [pl_up_o (by decide), pl_up_k e, pl_up_k e, pl_up_o (by decide)]
      exact hz p (by omega)
theorem Fr.dN {a b : sl_M} (h : Fr (fun o _ => o = 115 ∨ o = 116) a b) : Fr fN a b := h.mono (fun o k z => by omega)
theorem MR.d {a b : sl_M} (h : MR a s) (hf : Fr (fun o _ => o = 115 ∨ o = 116) a b) : MR b s := h.fr hf (fun o k h1 h2 z => by omega)
theorem op_depth (a1 a2 : Int32) : Opp (sx_depth a1 a2) (mo_depth a1 a2) := by
  rintro μ ⟨⟨s, ci, mr⟩, ri⟩
  obtain ⟨x, bx, rfl⟩ := pl_int a1
  by_cases h1 : 0 ≤ i3 x ∧ i3 x < 1000
  · by_cases h2 : 0 ≤ a2 ∧ a2 < 2
    · obtain ⟨m, hm, rfl⟩ := pl_of (y := 2) (N := 2) rfl (by decide) h2
      refine op2 (v := i3 (hg s (wm s m) x 30)) (s' := s) ci mr ri (fun Q hQ => ?_) (fun μ1 mr1 Q hQ => ?_)
      · unfold sx_depth
        rw [sx_isPlace_i]
        refine pl_bb (fun z => absurd h1 z) (fun _ => ?_)
        rw [sx_isBelow_i]
        refine pl_bb (fun z => absurd h2 z) (fun _ => ?_)
        exact ix_heightAt_s ci.2.1 ci.1 bx (by omega) (hQ _ Fr.rfl' ci)
      · rintro m1 rfl
        rw [mo_in_0, pl_bcong pl_le999]
        refine pl_bb (fun z => absurd h1 z) (fun _ => ?_)
        rw [mo_in_0, pl_bcong pl_le1]
        refine pl_bb (fun z => absurd h2 z) (fun _ => ?_)
        refine mo_layDepths_s mr1.th ci.1 (fun m10 hf hd => ?_)
        have hQ := hQ m10 (Fr.th.tr hf.dN) (mr1.th.d hf)
        obtain ⟨p, hp, ep⟩ := pl_of (y := 1000) (N := 1000) rfl (by decide) h1
        have exp : x = (p : Int) := by
          rw [i3_n, i3_eq bx (pl_B (by omega) (by omega))] at ep
          exact ep
        rw [ep, nI_clamp (show p < 2 ^ 31 by omega), (hd p hp).1, (hd p hp).2]
        have iv : vp_in (nI p) 1000 := vp_in_nI hp (by decide)
        rw [exp] at hQ
        have hm2 : m = 0 ∨ m = 1 := by omega
        rcases hm2 with rfl | rfl
        · exact ⟨fun _ => ⟨iv, hQ⟩, fun z => absurd rfl z⟩
        · exact ⟨fun z => absurd z (by decide), fun _ => ⟨iv, hQ⟩⟩
    · refine op2 (v := -1) (s' := s) ci mr ri (fun Q hQ => ?_) (fun μ1 mr1 Q hQ => ?_)
      · unfold sx_depth
        rw [sx_isPlace_i]
        refine pl_bb (fun z => absurd h1 z) (fun _ => ?_)
        rw [sx_isBelow_i]
        exact pl_bb (fun _ => hQ _ Fr.rfl' ci) (fun z => absurd z h2)
      · rintro m1 rfl
        rw [mo_in_0, pl_bcong pl_le999]
        refine pl_bb (fun z => absurd h1 z) (fun _ => ?_)
        rw [mo_in_0, pl_bcong pl_le1]
        refine pl_bb (fun _ => ?_) (fun z => absurd z h2)
        rw [mo_in_0, pl_bcong pl_le999]
        exact pl_bb (fun z => absurd h1 z) (fun _ => hQ _ Fr.th mr1.th)
  · refine op2 (v := -2) (s' := s) ci mr ri (fun Q hQ => ?_) (fun μ1 mr1 Q hQ => ?_)
    · unfold sx_depth
      rw [sx_isPlace_i]
      exact pl_bb (fun _ => hQ _ Fr.rfl' ci) (fun z => absurd z h1)
    · rintro m1 rfl
      rw [mo_in_0, pl_bcong pl_le999]
      refine pl_bb (fun _ => ?_) (fun z => absurd z h1)
      rw [mo_in_0, pl_bcong pl_le999]
      exact pl_bb (fun _ => hQ _ Fr.th mr1.th) (fun z => absurd z h1)
end DP
