/-! next -/
/-- what lies behind what was told: t none, or its keys -/
abbrev bhd (s : SS) (q : Int) (t : Option (Int × Int × Int)) (k : Nat) : Prop := match t with
  | none => True
  | some (x1, x2, n) => Lx x1 x2 n (K1 q (sL s k) (sH s k) (sW s k) (yl s k)) (K2 q (sL s k) (sH s k)) (k : Int)
def fst0 (s : SS) (q : Int) (t : Option (Int × Int × Int)) (k : Nat) : Prop := k < 30 ∧ sI s k ∧ bhd s q t k ∧ ∀ j, j < 30 → sI s j → bhd s q t j → j = k ∨ RR s (yl s) q k j = true
theorem fst0_one {s : SS} {q : Int} {t : Option (Int × Int × Int)} {a b : Nat} (ha : fst0 s q t a) (hb : fst0 s q t b) : a = b := by
  rcases ha.2.2.2 b hb.1 hb.2.1 hb.2.2.1 with h | h
  · exact h.symm
  · rcases hb.2.2.2 a ha.1 ha.2.1 ha.2.2.1 with h2 | h2
    · exact h2
    · have O := RR_ord s (yl s) q
      have := O.2.1 _ _ _ h h2
      rw [O.1] at this
      exact absurd this (by decide)
/-- what a cursor told last, in memory -/
def TD (μ : sl_M) (c : Nat) (q : Int) (t : Option (Int × Int × Int)) : Prop := match t with
  | none => μ (90 + 2 * c) 2 = 0 ∧ μ 112 c = -1
  | some (x1, x2, n) => μ (90 + 2 * c) 2 = 1 ∧ (0 ≤ n ∧ n < 30) ∧ μ 112 c = i3 n ∧ μ 113 c = i3 x1 ∧ μ 114 c = i3 x2 ∧ (-10000 ≤ x1 ∧ x1 ≤ 10000) ∧ (-10000 ≤ x2 ∧ x2 ≤ 10000) ∧ ∃ l h w y : Int, CV μ (91 + 2 * c) n l h w y ∧ x1 = K1 q l h w y ∧ x2 = K2 q l h
theorem ToldR.td {μ : sl_M} {c : Nat} {q : Int} (h : ToldR μ c q) : ∃ t, TD μ c q t := by
  rcases h with ⟨h1, h2⟩ | ⟨h1, n, l, h, w, y, hn, cv, h2, h3, h4⟩
  · exact ⟨none, h1, h2⟩
  · have b1 := K1_B (q := q) cv.2.2.1 cv.2.2.2.1 cv.2.2.2.2.1 cv.2.2.2.2.2
    have b2 := K2_B (q := q) cv.2.2.1 cv.2.2.2.1
    exact ⟨some (K1 q l h w y, K2 q l h, (n : Int)), h1, by omega, by rw [h2, i3_n], h3, h4, b1, b2, l, h, w, y, cv, rfl, rfl⟩
theorem TD.fr {μ μ' : sl_M} {c : Nat} {q : Int} {t : Option (Int × Int × Int)} {p : Nat → Nat → Prop} (h : TD μ c q t) (hf : Fr p μ μ') (hp : ∀ o k, o = 90 + 2 * c ∨ o = 91 + 2 * c ∨ (111 ≤ o ∧ o ≤ 114 ∧ k = c) → ¬ p o k) : TD μ' c q t := by
  match t, h with
  | none, h =>
    obtain ⟨h1, h2⟩ := h
    exact ⟨by rw [hf _ _ (hp _ _ (by omega)), h1], by rw [hf _ _ (hp _ _ (by omega)), h2]⟩
  | some (x1, x2, n), h =>
    obtain ⟨h1, h2, h3, h4, h5, h6, h7, l, h, w, y, cv, h8⟩ := h
    exact ⟨by rw [hf _ _ (hp _ _ (by omega)), h1], h2, by rw [hf _ _ (hp _ _ (by omega)), h3], by rw [hf _ _ (hp _ _ (by omega)), h4], by rw [hf _ _ (hp _ _ (by omega)), h5], h6, h7, l, h, w, y, cv.fr hf (fun j _ => hp _ _ (by omega)), h8⟩
def MT (μ : sl_M) (c : Nat) (t : Option (Int × Int × Int)) : Prop := match t with
  | none => μ 112 c = -1
  | some (x1, x2, n) => (0 ≤ n ∧ n < 30) ∧ μ 112 c = i3 n ∧ μ 113 c = i3 x1 ∧ μ 114 c = i3 x2 ∧ (-10000 ≤ x1 ∧ x1 ≤ 10000) ∧ (-10000 ≤ x2 ∧ x2 ≤ 10000)
theorem TD.mt {μ : sl_M} {c : Nat} {q : Int} {t : Option (Int × Int × Int)} (h : TD μ c q t) : MT μ c t := by
  match t, h with
  | none, h => exact h.2
  | some (x1, x2, n), h =>
    obtain ⟨h1, h2, h3, h4, h5, h6, h7, -⟩ := h
    exact ⟨h2, h3, h4, h5, h6, h7⟩
theorem MT.fr {μ μ' : sl_M} {c : Nat} {t : Option (Int × Int × Int)} {p : Nat → Nat → Prop} (h : MT μ c t) (hf : Fr p μ μ') (hp : ∀ o k, 112 ≤ o ∧ o ≤ 114 ∧ k = c → ¬ p o k) : MT μ' c t := by
  match t, h with
  | none, h =>
    show μ' 112 c = -1
    rw [hf _ _ (hp _ _ (by omega))]
    exact h
  | some (x1, x2, n), h =>
    obtain ⟨h2, h3, h4, h5, h6, h7⟩ := h
    exact ⟨h2, by rw [hf _ _ (hp _ _ (by omega)), h3], by rw [hf _ _ (hp _ _ (by omega)), h4], by rw [hf _ _ (hp _ _ (by omega)), h5], h6, h7⟩
section NX
variable {μ : sl_M} {s : SS} {Q : Int32 → sl_M → Prop} {P : sl_M → Prop}
theorem mo_isBehindTold_s (h : MR μ s) (ok : sOK s) (hl : ∀ k, k < 30 → μ 109 k = nI (ly s k)) {c : Nat} (hc : c < 3) {q : Int} (hq : 0 ≤ q ∧ q ≤ 4) (ho : μ 111 c = i3 q) {t : Option (Int × Int × Int)} (ht : MT μ c t) {k : Nat} (hk : k < 30) (ik : sI s k) (h1 : bhd s q t k → Q 1 μ) (h0 : ¬ bhd s q t k → Q 0 μ) : mo_isBehindTold (nI c) (nI k) μ Q := by
  have o := ok k hk ik
  have yb : 0 ≤ yl s k ∧ yl s k ≤ 29 := yB_ly s k hk
  have A1 := K1_B (q := q) (l := sL s k) (h := sH s k) (w := sW s k) (y := yl s k) (by omega) (by omega) (by omega) (by omega)
  have A2 := K2_B (q := q) (l := sL s k) (h := sH s k) (by omega) (by omega)
  refine ⟨pl_in3 hc, ?_⟩
  rw [pl_cl3 hc]
  match t, ht with
  | none, ht =>
    rw [show μ 112 c = -1 from ht]
    exact ⟨fun _ => ⟨rfl, h1 trivial⟩, fun z => absurd (by decide) z⟩
  | some (x1, x2, n), ht =>
    obtain ⟨t2, t3, t4, t5, t6, t7⟩ := ht
    rw [t3, t4, t5, ho]
    refine ⟨fun z => ?_, fun _ => ⟨pl_in3 hc, pl_in3 hc, pl_in3 hc, pl_in3 hc, ?_⟩⟩
    · rw [i3_0, i3_lt (pl_B (by omega) (by omega)) (pl_B (by omega) (by omega))] at z
      omega
    · rw [mo_first_i h hq hk (show μ 109 k = i3 (yl s k) by rw [hl k hk, i3_n])]
      refine ⟨pl_in3 hc, ?_⟩
      rw [ho, mo_second_i h hq hk, i3_n k, mo_isLess_i (pl_B (by omega) (by omega)) (pl_B (by omega) (by omega)) (pl_B (by omega) (by omega)) (pl_B (by omega) (by omega)) (pl_B (by omega) (by omega)) (pl_B (by omega) (by omega))]
      exact pl_bb (fun z => ⟨rfl, h0 z⟩) (fun z => ⟨rfl, h1 z⟩)
/-- the reference's search -/
theorem mo_next_s (h : MR μ s) (ok : sOK s) (hl : ∀ k, k < 30 → μ 109 k = nI (ly s k)) {c : Nat} (hc : c < 3) {q : Int} (hq : 0 ≤ q ∧ q ≤ 4) (ho : μ 111 c = i3 q) {t : Option (Int × Int × Int)} (ht : MT μ c t) (hord : ∀ i, i < sN s → μ 110 i = nI (en s (yl s) q i)) (hn : (∀ k, k < 30 → sI s k → ¬ bhd s q t k) → Q (-5) μ) (hs : ∀ k, fst0 s q t k → Q (nI k) (sl_up (sl_up (sl_up μ 113 c (i3 (K1 q (sL s k) (sH s k) (sW s k) (yl s k)))) 114 c (i3 (K2 q (sL s k) (sH s k)))) 112 c (nI k))) : ∃ n, mo_next_L65 (nI c) Q n (-5) (nI (sN s) - 1) μ := by
  have n30 := sN_le s
  refine lq2 (fun n x2 x3 => mo_next_L65 (nI c) Q n x2 x3 μ) (fun i x2 x3 => ∃ u : Nat, u + i = sN s ∧ x3 = i3 ((u : Int) - 1) ∧ ((x2 = -5 ∧ ∀ j, u ≤ j → j < sN s → ¬ bhd s q t (en s (yl s) q j)) ∨ ∃ j, u ≤ j ∧ j < sN s ∧ x2 = nI (en s (yl s) q j) ∧ bhd s q t (en s (yl s) q j) ∧ ∀ j', u ≤ j' → j' < j → ¬ bhd s q t (en s (yl s) q j'))) (sN s) (-5) (nI (sN s) - 1) ⟨sN s, by omega, by rw [i3_n, i3_1, i3_sub], Or.inl ⟨rfl, fun j h1 h2 => by omega⟩⟩ ?_ ?_
  · rintro n x2 x3 ⟨u, hu, rfl, hd⟩
    obtain rfl : u = 0 := by omega
    refine ⟨fun _ => ?_, fun z => absurd (show i3 (((0 : Nat) : Int) - 1) < 0 by decide) z⟩
    rcases hd with ⟨rfl, hno⟩ | ⟨j, -, hj, rfl, hb, hno⟩
    · refine ⟨fun _ => hn (fun k hk ik hb => ?_), fun z => absurd (by decide) z⟩
      have := hno (rq s (yl s) q 30 k) (Nat.zero_le _) (rk_bd (RR_ord s (yl s) q) hk ik)
      rw [en_rk hk ik] at this
      exact this hb
    · have e := en_ok (s := s) (y := yl s) (q := q) hj
      have hF : fst0 s q t (en s (yl s) q j) := by
        refine ⟨e.1, e.2.1, hb, fun k hk ik hbk => ?_⟩
        have hr := rk_bd (RR_ord s (yl s) q) (I := sC s) hk ik
        have er := en_rk (s := s) (y := yl s) (q := q) hk ik
        rcases Nat.lt_trichotomy (rq s (yl s) q 30 k) j with z | z | z
        · have := hno _ (Nat.zero_le _) z
          rw [er] at this
          exact absurd hbk this
        · rw [z] at er
          exact Or.inl er.symm
        · have := en_lt (s := s) (y := yl s) (q := q) z hr
          rw [er] at this
          exact Or.inr this
      have := hs _ hF
      refine ⟨fun z => absurd z (nI_pos (by omega)), fun _ => ⟨pl_in3 hc, ?_⟩⟩
      rw [pl_cl3 hc, ho, mo_first_i h hq e.1 (show μ 109 _ = i3 (yl s _) by rw [hl _ e.1, i3_n])]
      refine ⟨pl_in3 hc, ?_⟩
      rintro m3 rfl
      refine ⟨pl_in3 hc, ?_⟩
      have M2 : MR (sl_up μ 113 c (i3 (K1 q (sL s (en s (yl s) q j)) (sH s (en s (yl s) q j)) (sW s (en s (yl s) q j)) (yl s (en s (yl s) q j))))) s := h.fr (p := fun o _ => o = 113) (Fr.rfl'.up rfl) (fun o k h1 h2 z => by omega)
      rw [pl_up_o (by decide), ho, mo_second_i M2 hq e.1]
      refine ⟨pl_in3 hc, ?_⟩
      rintro m6 rfl
      refine ⟨pl_in3 hc, ?_⟩
      rintro m7 rfl
      exact this
  · rintro n i x2 x3 hi ⟨u, hu, rfl, hd⟩ ih
    obtain ⟨v, rfl⟩ : ∃ v, u = v + 1 := ⟨u - 1, by omega⟩
    have hv : v < sN s := by omega
    have e : i3 (((v + 1 : Nat) : Int) - 1) = nI v := by rw [i3_n]; congr 1; omega
    have e2 : nI v + (-1 : Int32) = i3 ((v : Int) - 1) := by rw [i3_n, i3_m1, i3_add]; congr 1
    have ek := en_ok (s := s) (y := yl s) (q := q) hv
    rw [e]
    refine ⟨fun z => absurd z (nI_pos (by omega)), fun _ => ⟨pl_in (by omega), ?_⟩⟩
    rw [pl_cl (show v < 30 by omega), hord v hv]
    refine mo_isBehindTold_s h ok hl hc hq ho ht ek.1 ek.2.1 (fun hb => ?_) (fun hb => ?_)
    · refine ⟨fun z => absurd z (by decide), fun _ => ⟨pl_in (by omega), ih _ _ ⟨v, by omega, e2, Or.inr ⟨v, Nat.le_refl _, hv, hord v hv, hb, fun j' h1 h2 => by omega⟩⟩⟩⟩
    · refine ⟨fun _ => ih _ _ ⟨v, by omega, e2, ?_⟩, fun z => absurd rfl z⟩
      rcases hd with ⟨h1, h2⟩ | ⟨j, h1, h2, h3, h4, h5⟩
      · refine Or.inl ⟨h1, fun j h3 h4 => ?_⟩
        by_cases z : j = v
        · rw [z]
          exact hb
        · exact h2 j (by omega) h4
      · refine Or.inr ⟨j, by omega, h2, h3, h4, fun j' h6 h7 => ?_⟩
        by_cases z : j' = v
        · rw [z]
          exact hb
        · exact h5 j' (by omega) h7
/-- the class's search -/
theorem ix_firstBehind_s {R : Option Nat → sl_M → Prop} (ci : CInv s μ) {c : Nat} {q : Int} (hq : 0 ≤ q ∧ q ≤ 4) (ho : μ (90 + 2 * c) 1 = i3 q) {t : Option (Int × Int × Int)} (ht : TD μ c q t) (hn : (∀ k, k < 30 → sI s k → ¬ bhd s q t k) → R none μ) (hs : ∀ k, fst0 s q t k → R (some (4 + k)) μ) : ix_firstBehind (90 + 2 * c) μ R := by
  have hy : ∀ k, k < 30 → sI s k → μ (4 + k) 5 = i3 (yl s k) := fun k hk ik => by rw [ci.2.2.1 k hk ik, i3_n]
  have O := RR_ord s (yl s) q
  refine lq2 (fun n f x3 => ix_firstBehind_L4 (90 + 2 * c) R n f x3 μ) (fun k f x3 => x3 = nI k ∧ ((f = none ∧ ∀ j, j < k → sI s j → ¬ bhd s q t j) ∨ ∃ a, f = some (9, 4 + a) ∧ a < k ∧ sI s a ∧ bhd s q t a ∧ ∀ j, j < k → sI s j → bhd s q t j → j = a ∨ RR s (yl s) q a j = true)) 30 none 0 ⟨rfl, Or.inl ⟨rfl, fun j hj => absurd hj (by omega)⟩⟩ ?_ ?_
  · rintro n f x3 ⟨rfl, ⟨rfl, hno⟩ | ⟨a, rfl, ha, ia, hb, hmin⟩⟩
    · exact ⟨fun z => absurd z pl_nlt, fun _ => hn hno⟩
    · exact ⟨rfl, fun z => absurd z pl_nlt, fun _ => hs a ⟨ha, ia, hb, hmin⟩⟩
  · rintro n k f x3 hk ⟨rfl, hd⟩ ih
    have B : ∀ x : Int32, (x = 1 ∧ sI s k ∧ bhd s q t k) ∨ (x = 0 ∧ ¬ (sI s k ∧ bhd s q t k)) → ix_firstBehind_B56 (90 + 2 * c) R (ix_firstBehind_L4 (90 + 2 * c) R n) f (nI k) (4 + k) x μ := by
      intro x hx
      rcases hd with ⟨rfl, hno⟩ | ⟨a, rfl, ha, ia, hb, hmin⟩
      · rcases hx with ⟨rfl, ik, hbk⟩ | ⟨rfl, hnk⟩
        · refine ⟨fun z => absurd z (by decide), fun _ => ih _ _ ⟨pl_inc k, Or.inr ⟨k, rfl, by omega, ik, hbk, fun j hj ij hbj => ?_⟩⟩⟩
          by_cases e : j = k
          · exact Or.inl e
          · exact absurd hbj (hno j (by omega) ij)
        · refine ⟨fun _ => ih _ _ ⟨pl_inc k, Or.inl ⟨rfl, fun j hj ij hbj => ?_⟩⟩, fun z => absurd rfl z⟩
          by_cases e : j = k
          · subst e
            exact hnk ⟨ij, hbj⟩
          · exact hno j (by omega) ij hbj
      · rcases hx with ⟨rfl, ik, hbk⟩ | ⟨rfl, hnk⟩
        · refine ⟨rfl, fun z => absurd z (by decide), fun _ => ?_⟩
          rw [ho, sp_isAhead_R ci.2.1 ci.1 hy (yB_ly s) hq hk (by omega) ik ia]
          refine pl_bb (fun hr => ih _ _ ⟨pl_inc k, Or.inr ⟨a, rfl, by omega, ia, hb, fun j hj ij hbj => ?_⟩⟩) (fun hr => ih _ _ ⟨pl_inc k, Or.inr ⟨k, rfl, by omega, ik, hbk, fun j hj ij hbj => ?_⟩⟩)
          · by_cases e : j = k
            · subst e
              rcases O.2.2 j a (by omega) with z | z
              · exact absurd z hr
              · exact Or.inr z
            · exact hmin j (by omega) ij hbj
          · by_cases e : j = k
            · exact Or.inl e
            · rcases hmin j (by omega) ij hbj with z | z
              · rw [z]
                exact Or.inr hr
              · exact Or.inr (O.2.1 _ _ _ hr z)
        · refine ⟨rfl, fun _ => ih _ _ ⟨pl_inc k, Or.inr ⟨a, rfl, by omega, ia, hb, fun j hj ij hbj => ?_⟩⟩, fun z => absurd rfl z⟩
          by_cases e : j = k
          · subst e
            exact absurd ⟨ij, hbj⟩ hnk
          · exact hmin j (by omega) ij hbj
    have core : nI k < 30 → vp_in (nI k) 30 ∧ ((sl_bz (μ (4 + (nI k).toNatClampNeg) 1)) = (0 : Int32) → (9 : Nat) = 9 ∧ ix_firstBehind_B56 (90 + 2 * c) R (ix_firstBehind_L4 (90 + 2 * c) R n) f (nI k) (4 + (nI k).toNatClampNeg) (0 : Int32) μ) ∧ (¬ (sl_bz (μ (4 + (nI k).toNatClampNeg) 1)) = (0 : Int32) → ((sl_bz (μ (90 + 2 * c) 2)) = (0 : Int32) → (9 : Nat) = 9 ∧ ix_firstBehind_B56 (90 + 2 * c) R (ix_firstBehind_L4 (90 + 2 * c) R n) f (nI k) (4 + (nI k).toNatClampNeg) (1 : Int32) μ) ∧ (¬ (sl_bz (μ (90 + 2 * c) 2)) = (0 : Int32) → sp_isAhead (90 + 2 * c + 1) (4 + (nI k).toNatClampNeg) (μ (90 + 2 * c) 1) μ (fun r2 m1 => (r2 = (0 : Int32) → (9 : Nat) = 9 ∧ ix_firstBehind_B56 (90 + 2 * c) R (ix_firstBehind_L4 (90 + 2 * c) R n) f (nI k) (4 + (nI k).toNatClampNeg) (0 : Int32) m1) ∧ (¬ r2 = (0 : Int32) → (9 : Nat) = 9 ∧ ix_firstBehind_B56 (90 + 2 * c) R (ix_firstBehind_L4 (90 + 2 * c) R n) f (nI k) (4 + (nI k).toNatClampNeg) (1 : Int32) m1)))) := by
      intro _
      rw [pl_cl hk, (ci.2.1 k hk).2.1, pl_bz]
      refine ⟨pl_in hk, pl_bb (fun ik => ⟨rfl, B 0 (Or.inr ⟨rfl, fun z => ik z.1⟩)⟩) (fun ik => ?_)⟩
      match t, ht, B with
      | none, ht, B =>
        rw [ht.1]
        exact ⟨fun _ => ⟨rfl, B 1 (Or.inl ⟨rfl, ik, trivial⟩)⟩, fun z => absurd rfl z⟩
      | some (x1, x2, m), ht, B =>
        obtain ⟨t1, t2, t3, t4, t5, t6, t7, l, g, w, y, cv, e1, e2⟩ := ht
        rw [t1, ho, show 90 + 2 * c + 1 = 91 + 2 * c by omega, sp_isAhead_i hq cv (ci.2.1.cv ci.1 hy (yB_ly s) hk ik), ← e1, ← e2]
        refine ⟨fun z => absurd z (by decide), fun _ => pl_bb (fun z => ⟨rfl, B 0 (Or.inr ⟨rfl, fun zz => z zz.2⟩)⟩) (fun z => ⟨rfl, B 1 (Or.inl ⟨rfl, ik, z⟩)⟩)⟩
    rcases hd with ⟨rfl, -⟩ | ⟨a, rfl, -⟩
    · exact ⟨core, fun z => absurd (pl_lt hk) z⟩
    · exact ⟨rfl, core, fun z => absurd (pl_lt hk) z⟩
end NX
