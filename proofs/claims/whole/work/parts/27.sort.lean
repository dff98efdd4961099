/-! layers and orders on both sides -/
def sm (f : Nat → Nat) : Nat → Nat
  | 0 => 0
  | n + 1 => sm f n + f n
theorem sm_le {f g : Nat → Nat} : ∀ {n : Nat}, (∀ k, k < n → f k ≤ g k) → sm f n ≤ sm g n
  | 0, _ => Nat.le_refl _
  | n + 1, h => by
    have := sm_le (f := f) (g := g) (n := n) (fun k hk => h k (by omega))
    have := h n (by omega)
    unfold sm
    omega
theorem sm_cong {f g : Nat → Nat} {n : Nat} (h : ∀ k, k < n → f k = g k) : sm f n = sm g n := Nat.le_antisymm (sm_le (fun k hk => Nat.le_of_eq (h k hk))) (sm_le (fun k hk => Nat.le_of_eq (h k hk).symm))
theorem sm_up {f : Nat → Nat} {b v : Nat} (hv : f b < v) : ∀ {n : Nat}, b < n → sm f n < sm (fun k => if k = b then v else f k) n
  | n + 1, h => by
    unfold sm
    by_cases e : b = n
    · subst e
      have : sm f b = sm (fun k => if k = b then v else f k) b := sm_cong (fun k hk => by rw [if_neg (by omega)])
      rw [← this, if_pos rfl]
      omega
    · have := sm_up (f := f) hv (n := n) (by omega)
      rw [if_neg (show ¬ n = b by omega)]
      omega
abbrev yl (s : SS) : Nat → Int := fun k => (ly s k : Int)
def SoR (μ : sl_M) : Prop := ∀ i, i < 30 → ∃ j, j < 30 ∧ μ 3 i = nI (4 + j)
section SO
variable {μ : sl_M} {s : SS} {Q : Int32 → sl_M → Prop} {P : sl_M → Prop}
def LG (μ : sl_M) (s : SS) (m : sl_M) (f : Nat → Nat) : Prop := Fr f9 μ m ∧ ∀ k, k < 30 → m 109 k = nI (f k) ∧ f k ≤ ly s k
def Lpas (μ : sl_M) (s : SS) (C : Nat → Nat → Prop) (f0 : Nat → Nat) (x : Int32) (m : sl_M) : Prop := ∃ f, LG μ s m f ∧ ((x = 0 ∧ f = f0 ∧ ∀ a b, a < 30 → b < 30 → C a b → cov s a b → f a + 1 ≤ f b) ∨ (x = 1 ∧ sm f0 30 < sm f 30))
theorem Lpas.mono {C D : Nat → Nat → Prop} {f0 : Nat → Nat} {x : Int32} {m : sl_M} (h : Lpas μ s C f0 x m) (hd : ∀ a b, a < 30 → b < 30 → D a b → C a b ∨ ¬ cov s a b) : Lpas μ s D f0 x m := by
  obtain ⟨f, hg, h1 | h1⟩ := h
  · refine ⟨f, hg, Or.inl ⟨h1.1, h1.2.1, fun a b ha hb hD hc => ?_⟩⟩
    rcases hd a b ha hb hD with q | q
    · exact h1.2.2 a b ha hb q hc
    · exact absurd hc q
  · exact ⟨f, hg, Or.inr h1⟩
theorem mo_layLayers_pass (h : MR μ s) (ok : sOK s) {K : Int32 → sl_M → Prop} {f0 : Nat → Nat} {m : sl_M} (hg : LG μ s m f0) (hK : ∀ x m', Lpas μ s (fun _ _ => True) f0 x m' → K x m') : ∃ n, mo_layLayers_L31 P K n 0 0 m := by
  refine lq3 (fun n x1 x2 m => mo_layLayers_L31 P K n x1 x2 m) (fun a x1 x2 m => x2 = nI a ∧ Lpas μ s (fun a' _ => a' < a) f0 x1 m) 30 0 0 m ⟨rfl, f0, hg, Or.inl ⟨rfl, rfl, fun a b _ _ hC => absurd hC (by omega)⟩⟩ ?_ ?_
  · rintro n x1 x2 m ⟨rfl, hp⟩
    exact ⟨fun h => absurd h pl_nlt, fun _ => hK _ _ (hp.mono (fun a b ha hb _ => Or.inl ha))⟩
  · rintro n a x1 x2 m ha ⟨rfl, hp⟩ ih
    refine ⟨fun _ => ?_, fun h => absurd (pl_lt ha) h⟩
    refine lq3 (fun n4 x1 x3 m => mo_layLayers_L39 P K (mo_layLayers_L31 P K n) n4 x1 (nI a) x3 m) (fun b x1 x3 m => x3 = nI b ∧ Lpas μ s (fun a' b' => a' < a ∨ a' = a ∧ b' < b) f0 x1 m) 30 x1 0 m ⟨rfl, hp.mono (fun a' b' _ _ hD => Or.inl (by omega))⟩ ?_ ?_
    · rintro n4 x1 x3 m ⟨rfl, hp⟩
      exact ⟨fun h => absurd h pl_nlt, fun _ => ih _ _ _ ⟨pl_inc a, hp.mono (fun a' b' _ hb' hD => Or.inl (by omega))⟩⟩
    · rintro n4 b x1 x3 m hb ⟨rfl, hp⟩ ih4
      refine ⟨fun _ => ?_, fun h => absurd (pl_lt hb) h⟩
      have hM : MR m s := by
        obtain ⟨f, hg, -⟩ := hp
        exact h.fr hg.1 (fun o k h1 h2 q => by omega)
      rw [mo_covers_i hM ok ha hb]
      refine pl_bb (fun hc => ?_) (fun hc => ⟨pl_in hb, pl_in ha, ?_⟩)
      · refine ih4 _ _ _ ⟨pl_inc b, hp.mono (fun a' b' _ _ hD => ?_)⟩
        by_cases e : a' = a ∧ b' = b
        · rw [e.1, e.2]
          exact Or.inr hc
        · exact Or.inl (by omega)
      · obtain ⟨f, hg, hd⟩ := hp
        have la := ly_29 (s := s) ha
        have lb := ly_29 (s := s) hb
        have lab := ly_gt ha hc
        have fa := (hg.2 a ha).2
        have fb := (hg.2 b hb).2
        rw [pl_cl ha, pl_cl hb, (hg.2 a ha).1, (hg.2 b hb).1, nI_leI (by omega) (by omega)]
        refine ⟨fun hle => ⟨pl_in ha, pl_in hb, ?_⟩, fun hle => ?_⟩
        · rintro m7 rfl
          refine ih4 _ _ _ ⟨pl_inc b, fu f b (f a + 1), ⟨hg.1.up rfl, fun k hk => ?_⟩, Or.inr ⟨rfl, ?_⟩⟩
          · by_cases e : k = b
            · subst e
              refine ⟨by rw [pl_up_s, fu_s, nI_1], by rw [fu_s]; omega⟩
            · refine ⟨by rw [pl_up_k e, fu_o e]; exact (hg.2 k hk).1, by rw [fu_o e]; exact (hg.2 k hk).2⟩
          · have h1 : sm f 30 < sm (fu f b (f a + 1)) 30 := sm_up (by omega) hb
            rcases hd with hd | hd
            · rw [← hd.2.1]
              exact h1
            · omega
        · refine ih4 _ _ _ ⟨pl_inc b, f, hg, ?_⟩
          rcases hd with hd | hd
          · refine Or.inl ⟨hd.1, hd.2.1, fun a' b' ha' hb' hC hc' => ?_⟩
            by_cases e : a' = a ∧ b' = b
            · rw [e.1, e.2]
              omega
            · exact hd.2.2 a' b' ha' hb' (by omega) hc'
          · exact Or.inr hd
theorem mo_layLayers_s (h : MR μ s) (ok : sOK s) (hq : ∀ μ', Fr f9 μ μ' → (∀ k, k < 30 → μ' 109 k = nI (ly s k)) → P μ') : mo_layLayers μ P := by
  have main : ∀ D f0 m, LG μ s m f0 → sm (ly s) 30 - sm f0 30 ≤ D → mo_layLayers_L23 P (D + 2) 1 m := by
    intro D
    induction D with
    | zero =>
      intro f0 m hg hD
      refine ⟨fun h => absurd h (by decide), fun _ => mo_layLayers_pass h ok hg (fun x m' hp => ?_)⟩
      obtain ⟨f, hg', hd | hd⟩ := hp
      · obtain ⟨rfl, rfl, hc⟩ := hd
        refine ⟨fun _ => hq m' hg'.1 (fun k hk => ?_), fun h => absurd rfl h⟩
        have h1 := ly_least (fun a b ha hb hab => hc a b ha hb trivial hab) k hk
        rw [(hg'.2 k hk).1, Nat.le_antisymm (hg'.2 k hk).2 h1]
      · have := sm_le (f := f) (g := ly s) (n := 30) (fun k hk => (hg'.2 k hk).2)
        omega
    | succ D ih =>
      intro f0 m hg hD
      refine ⟨fun h => absurd h (by decide), fun _ => mo_layLayers_pass h ok hg (fun x m' hp => ?_)⟩
      obtain ⟨f, hg', hd | hd⟩ := hp
      · obtain ⟨rfl, rfl, hc⟩ := hd
        refine ⟨fun _ => hq m' hg'.1 (fun k hk => ?_), fun h => absurd rfl h⟩
        have h1 := ly_least (fun a b ha hb hab => hc a b ha hb trivial hab) k hk
        rw [(hg'.2 k hk).1, Nat.le_antisymm (hg'.2 k hk).2 h1]
      · rw [hd.1]
        exact ih f m' hg' (by omega)
  refine lq2 (fun n x m => mo_layLayers_L2 P n x m) (fun k x m => x = nI k ∧ Fr f9 μ m ∧ ∀ j, j < k → m 109 j = 0) 30 0 μ ⟨rfl, Fr.rfl', fun j hj => absurd hj (by omega)⟩ ?_ ?_
  · rintro n x m ⟨rfl, hf, hz⟩
    refine ⟨fun h => absurd h pl_nlt, fun _ => ⟨_, main (sm (ly s) 30) (fun _ => 0) m ⟨hf, fun k hk => ⟨by rw [hz k hk]; rfl, Nat.zero_le _⟩⟩ (by omega)⟩⟩
  · rintro n k x m hk ⟨rfl, hf, hz⟩ ih
    refine ⟨fun _ => ⟨pl_in hk, ?_⟩, fun h => absurd (pl_lt hk) h⟩
    rintro m1 rfl
    refine ih _ _ ⟨pl_inc k, hf.up rfl, fun j hj => ?_⟩
    rw [pl_cl hk, pl_up]
    split
    · rfl
    · exact hz j (by omega)
theorem mo_layOrder_s (h : MR μ s) (ok : sOK s) {q : Int} (hq : 0 ≤ q ∧ q ≤ 4) (hQ : ∀ μ', Fr f10 μ μ' → (∀ k, k < 30 → μ' 109 k = nI (ly s k)) → (∀ i, i < sN s → μ' 110 i = nI (en s (yl s) q i)) → P μ') : mo_layOrder (i3 q) μ P := by
  refine mo_layLayers_s h ok (fun m0 hf0 hl0 => ?_)
  refine lq2 (fun n x m => mo_layOrder_L6 (i3 q) P n x m) (fun k x m => x = nI k ∧ Fr f10 μ m ∧ (∀ k, k < 30 → m 109 k = nI (ly s k)) ∧ ∀ j, j < k → sI s j → m 110 (rq s (yl s) q 30 j) = nI j) 30 0 m0 ⟨rfl, hf0.mono (fun o k z => Or.inl z), hl0, fun j hj => absurd hj (by omega)⟩ ?_ ?_
  · rintro n x m ⟨rfl, hf, hl, ho⟩
    refine ⟨fun h => absurd h pl_nlt, fun _ => hQ m hf hl (fun i hi => ?_)⟩
    have := en_ok (s := s) (y := yl s) (q := q) hi
    have h2 := ho _ this.1 this.2.1
    rw [this.2.2] at h2
    exact h2
  · rintro n k x m hk ⟨rfl, hf, hl, ho⟩ ih
    have hM : MR m s := h.fr hf (fun o k h1 h2 q => by omega)
    refine ⟨fun _ => ⟨pl_in hk, ?_⟩, fun h => absurd (pl_lt hk) h⟩
    rw [pl_cl hk, (hM k hk).1, pl_b1]
    refine ⟨fun ik => ?_, fun ik => ?_⟩
    · have hr : rq s (yl s) q 30 k < 30 := Nat.lt_of_lt_of_le (rk_bd (RR_ord s (yl s) q) hk ik) (sN_le s)
      refine mo_aheadOf_s hM ok (fun j hj => by rw [hl j hj, i3_n]) (yB_ly s) hq hk ik ⟨pl_in hr, ?_⟩
      rintro m3 rfl
      rw [pl_cl hr]
      refine ih _ _ ⟨pl_inc k, hf.up (Or.inr rfl), fun j hj => by rw [pl_up_o (by decide)]; exact hl j hj, fun j hj ij => ?_⟩
      by_cases e : j = k
      · subst e
        rw [pl_up_s]
      · rw [pl_up_k (fun z => e (rk_inj (RR_ord s (yl s) q) (Nat.lt_of_lt_of_le hj hk) hk ij ik z))]
        exact ho j (by omega) ij
    · refine ih _ _ ⟨pl_inc k, hf, hl, fun j hj ij => ?_⟩
      by_cases e : j = k
      · subst e
        exact absurd ij ik
      · exact ho j (by omega) ij
end SO
