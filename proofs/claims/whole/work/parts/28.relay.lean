/-! the class's sort and its layers -/
theorem kd9 : ∀ j, j < 30 → sl_kd (4 + j) = 9 := by decide
theorem cl4 {j : Nat} (h : j < 30) : (nI (4 + j)).toNatClampNeg = 4 + j := nI_clamp (by omega)
theorem nI_dec {t : Nat} (h : 0 < t) : nI t + (-1 : Int32) = nI (t - 1) := by
  obtain ⟨u, rfl⟩ : ∃ u, t = u + 1 := ⟨t - 1, by omega⟩
  have : nI (u + 1) + (-1 : Int32) = nI (u + 1) - 1 := (Int32.sub_eq_add_neg _ _).symm
  rw [this, nI_pred]
  rfl
theorem nI_sub1 {t : Nat} (h : 0 < t) : nI t - (1 : Int32) = nI (t - 1) := by
  obtain ⟨u, rfl⟩ : ∃ u, t = u + 1 := ⟨t - 1, by omega⟩
  rw [nI_pred]
  rfl
theorem mx_stay {f : Nat → Nat} {n v : Nat} (e : f n = v) (h : ¬ mx f n < v) : mx f (n + 1) = mx f n := by
  show (if mx f n < f n then f n else mx f n) = _
  rw [e, if_neg h]
theorem mx_take {f : Nat → Nat} {n v : Nat} (e : f n = v) (h : mx f n < v) : mx f (n + 1) = v := by
  show (if mx f n < f n then f n else mx f n) = _
  rw [e, if_pos h]
section RE
variable {μ : sl_M} {s : SS} {Q : Int32 → sl_M → Prop} {P : sl_M → Prop}
theorem CR.cv (h : CR 4 μ s) (ok : sOK s) {y : Nat → Int} (hy : ∀ k, k < 30 → sI s k → μ (4 + k) 5 = i3 (y k)) (yb : yB y) {k : Nat} (hk : k < 30) (ik : sI s k) : CV μ (4 + k) (k : Int) (sL s k) (sH s k) (sW s k) (y k) := by
  obtain ⟨h0, h1, h2, h3, h4⟩ := h k hk
  have o := ok k hk ik
  have b := yb k hk
  exact ⟨⟨by rw [h0, i3_n], h2, h3, h4, hy k hk ik⟩, by omega, by omega, by omega, by omega, by omega⟩
theorem sp_isAhead_R (h : CR 4 μ s) (ok : sOK s) {y : Nat → Int} (hy : ∀ k, k < 30 → sI s k → μ (4 + k) 5 = i3 (y k)) (yb : yB y) {q : Int} (hq : 0 ≤ q ∧ q ≤ 4) {a b : Nat} (ha : a < 30) (hb : b < 30) (ia : sI s a) (ib : sI s b) : sp_isAhead (4 + a) (4 + b) (i3 q) μ Q ↔ Q (pl_b (RR s y q a b = true)) μ := by
  rw [sp_isAhead_i hq (h.cv ok hy yb ha ia) (h.cv ok hy yb hb ib)]
  have e : pl_b (RR s y q a b = true) = pl_b (Lx (K1 q (sL s a) (sH s a) (sW s a) (y a)) (K2 q (sL s a) (sH s a)) (a : Int) (K1 q (sL s b) (sH s b) (sW s b) (y b)) (K2 q (sL s b) (sH s b)) (b : Int)) := pl_bcong (by unfold RR; rw [decide_eq_true_eq])
  rw [e]
theorem rq_self {s : SS} {y : Nat → Int} {q : Int} {k t : Nat} (ht : t ≤ fb_ct (sC s) k) (h1 : ∀ j, j < k → sI s j → rq s y q k j < t → RR s y q j k = true) (h2 : ∀ j, j < k → sI s j → t ≤ rq s y q k j → RR s y q k j = true) : rq s y q k k = t := by
  have O := RR_ord s y q
  have hle : rq s y q k k ≤ fb_ct (sC s) k := rk_le _ _ _ _
  rcases Nat.lt_trichotomy (rq s y q k k) t with hlt | he | hgt
  · obtain ⟨j, hj, ij, hr⟩ := rk_at O (I := sC s) (n := k) (i := rq s y q k k) (by omega)
    have hr' : rq s y q k j = rq s y q k k := hr
    have := rk_lt O (I := sC s) (n := k) hj ij (h1 j hj ij (by omega))
    have this' : rq s y q k j < rq s y q k k := this
    omega
  · exact he
  · obtain ⟨j, hj, ij, hr⟩ := rk_at O (I := sC s) (n := k) (i := t) (by omega)
    have hr' : rq s y q k j = t := hr
    have hkj := h2 j hj ij (by omega)
    have : rq s y q k k ≤ rq s y q k j := by
      refine fb_ct_sub (fun o _ ho => ?_)
      simp only [Bool.and_eq_true] at ho ⊢
      exact ⟨ho.1, O.2.1 o k j ho.2 hkj⟩
    omega
theorem ix_sortBy_s (h : CR 4 μ s) (ok : sOK s) {y : Nat → Int} (hy : ∀ k, k < 30 → sI s k → μ (4 + k) 5 = i3 (y k)) (yb : yB y) (so : SoR μ) {q : Int} (hq : 0 ≤ q ∧ q ≤ 4) (hQ : ∀ μ', Fr f3 μ μ' → SoR μ' → (∀ i, i < sN s → μ' 3 i = nI (4 + en s y q i)) → Q (nI (sN s)) μ') : ix_sortBy (i3 q) μ Q := by
  have O := RR_ord s y q
  refine lq3 (fun n x2 x3 m => ix_sortBy_L4 (i3 q) Q n x2 x3 m) (fun k x2 x3 m => x2 = nI (fb_ct (sC s) k) ∧ x3 = nI k ∧ Fr f3 μ m ∧ SoR m ∧ ∀ j, j < k → sI s j → m 3 (rq s y q k j) = nI (4 + j)) 30 0 0 μ ⟨rfl, rfl, Fr.rfl', so, fun j hj => absurd hj (by omega)⟩ ?_ ?_
  · rintro n x2 x3 m ⟨rfl, rfl, hf, hso, ho⟩
    refine ⟨fun h => absurd h pl_nlt, fun _ => hQ m hf hso (fun i hi => ?_)⟩
    have h1 := en_ok (s := s) (y := y) (q := q) hi
    have h2 := ho _ h1.1 h1.2.1
    rw [h1.2.2] at h2
    exact h2
  · rintro n k x2 x3 m hk ⟨rfl, rfl, hf, hso, ho⟩ ih
    have hC : CR 4 m s := h.fr hf (fun k j h1 h2 q => by omega)
    refine ⟨fun _ => ⟨pl_in hk, ?_⟩, fun h => absurd (pl_lt hk) h⟩
    rw [pl_cl hk, (hC k hk).2.1, pl_bz]
    refine pl_bb (fun ik => ?_) (fun ik => ?_)
    · refine ih _ _ _ ⟨by rw [fb_ct_succ, if_neg (show ¬ sC s k = true from ik)]; rfl, pl_inc k, hf, hso, fun j hj ij => ?_⟩
      by_cases e : j = k
      · subst e
        exact absurd ij ik
      · have := ho j (by omega) ij
        have e2 : rq s y q (k + 1) j = rq s y q k j := by
          show rq s y q k j + _ = _
          rw [if_neg (fun z => ik (Bool.and_eq_true_iff.mp z).1)]
          rfl
        rw [e2]
        exact this
    · have hcnt : fb_ct (sC s) k ≤ k := fb_ct_le _ _
      have fin : ∀ t m', t ≤ fb_ct (sC s) k → Fr f3 μ m' → SoR m' → (∀ j, j < k → sI s j → (rq s y q k j < t → m' 3 (rq s y q k j) = nI (4 + j)) ∧ (t ≤ rq s y q k j → m' 3 (rq s y q k j + 1) = nI (4 + j) ∧ RR s y q k j = true)) → (∀ j, j < k → sI s j → rq s y q k j < t → RR s y q j k = true) → ix_sortBy_L4 (i3 q) Q n (nI (fb_ct (sC s) k) + 1) (nI k + 1) (sl_up m' 3 t (nI (4 + k))) := by
        intro t m' ht hf' hso' hj' hlt
        refine ih _ _ _ ⟨by rw [fb_ct_succ, if_pos (show sC s k = true from ik), nI_1], pl_inc k, hf'.up rfl, fun i hi => ?_, fun j hj ij => ?_⟩
        · by_cases e : i = t
          · subst e
            exact ⟨k, hk, pl_up_s⟩
          · rw [pl_up_k e]
            exact hso' i hi
        · by_cases e : j = k
          · subst e
            have e2 : rq s y q (j + 1) j = t := by
              show rq s y q j j + _ = _
              rw [if_neg (by show ¬ (sC s j && RR s y q j j) = true; rw [O.1 j]; simp), rq_self ht hlt (fun j hj ij hle => ((hj' j hj ij).2 hle).2)]
              rfl
            rw [e2, pl_up_s]
          · have hjk : j < k := by omega
            have e2 : rq s y q (k + 1) j = rq s y q k j + (if (sC s k && RR s y q k j) then 1 else 0) := rfl
            by_cases hr : rq s y q k j < t
            · have hn : RR s y q k j = false := by
                cases hb : RR s y q k j with
                | false => rfl
                | true =>
                  have := O.2.1 _ _ _ hb (hlt j hjk ij hr)
                  rw [O.1 k] at this
                  exact absurd this (by decide)
              rw [e2, hn, if_neg (by simp), Nat.add_zero, pl_up_k (by omega)]
              exact (hj' j hjk ij).1 hr
            · have := (hj' j hjk ij).2 (by omega)
              rw [e2, this.2, if_pos (by rw [show sC s k = true from ik]; rfl), pl_up_k (by omega)]
              exact this.1
      refine lq2 (fun n1 x4 m => ix_sortBy_L25 (i3 q) Q (ix_sortBy_L4 (i3 q) Q n) n1 (nI (fb_ct (sC s) k)) (nI k) x4 m) (fun i x4 m' => ∃ t, x4 = nI t ∧ i + t = fb_ct (sC s) k ∧ Fr f3 μ m' ∧ SoR m' ∧ ∀ j, j < k → sI s j → (rq s y q k j < t → m' 3 (rq s y q k j) = nI (4 + j)) ∧ (t ≤ rq s y q k j → m' 3 (rq s y q k j + 1) = nI (4 + j) ∧ RR s y q k j = true)) (fb_ct (sC s) k) (nI (fb_ct (sC s) k)) m ⟨fb_ct (sC s) k, rfl, by omega, hf, hso, fun j hj ij => ⟨fun _ => ho j hj ij, fun hle => ?_⟩⟩ ?_ ?_
      · have : rq s y q k j < fb_ct (sC s) k := rk_bd O hj ij
        omega
      · rintro n1 x4 m' ⟨t, rfl, ht, hf', hso', hj'⟩
        obtain rfl : t = 0 := by omega
        refine ⟨fun _ => ⟨pl_in hk, pl_in (by omega), ?_⟩, fun h => absurd (show nI 0 ≤ 0 by decide) h⟩
        rintro m2 rfl
        rw [pl_cl hk, pl_cl (show 0 < 30 by omega)]
        exact fin 0 m' (by omega) hf' hso' hj' (fun j _ _ hr => absurd hr (by omega))
      · rintro n1 i x4 m' hi ⟨t, rfl, ht, hf', hso', hj'⟩ ih2
        have hC' : CR 4 m' s := h.fr hf' (fun k j h1 h2 q => by omega)
        have hy' : ∀ k, k < 30 → sI s k → m' (4 + k) 5 = i3 (y k) := fun k hk ik => by
          rw [hf' (4 + k) 5 (show ¬ (4 + k = 3) by omega)]
          exact hy k hk ik
        refine ⟨fun h => absurd h (nI_nle (by omega) (by omega)), fun _ => ?_⟩
        obtain ⟨j0, hj0, ij0, hr0⟩ := rk_at O (I := sC s) (n := k) (i := t - 1) (by omega)
        have hr0' : rq s y q k j0 = t - 1 := hr0
        have hm : m' 3 (t - 1) = nI (4 + j0) := by
          have := (hj' j0 hj0 ij0).1 (by omega)
          rw [hr0'] at this
          exact this
        rw [nI_sub1 (by omega), pl_cl (show t - 1 < 30 by omega), pl_cl hk, pl_cl (show t < 30 by omega), hm, cl4 (show j0 < 30 by omega)]
        refine ⟨pl_in hk, pl_in (by omega), kd9 j0 (by omega), ?_⟩
        rw [sp_isAhead_R hC' ok hy' yb hq hk (show j0 < 30 by omega) ik ij0]
        refine pl_bb (fun hr => ⟨pl_in hk, pl_in (by omega), ?_⟩) (fun hr => ⟨pl_in (by omega), ?_⟩)
        · rintro m5 rfl
          refine fin t m' (by omega) hf' hso' hj' (fun j hj ij hlt => ?_)
          have hj0k : RR s y q j0 k = true := by
            rcases O.2.2 k j0 (by omega) with z | z
            · exact absurd z hr
            · exact z
          by_cases e : j = j0
          · rw [e]
            exact hj0k
          · have h1 : rq s y q k j ≠ rq s y q k j0 := fun z => e (rk_inj O hj hj0 ij ij0 z)
            have h2 : RR s y q j j0 = true := (rk_iff (I := sC s) O hj hj0 ij ij0).mpr (show rq s y q k j < rq s y q k j0 by omega)
            exact O.2.1 _ _ _ h2 hj0k
        · rw [hm, cl4 (show j0 < 30 by omega)]
          refine ⟨kd9 j0 (by omega), pl_in (by omega), ?_⟩
          rintro m6 rfl
          refine ih2 _ _ ⟨t - 1, nI_dec (by omega), by omega, hf'.up rfl, fun i hi => ?_, fun j hj ij => ⟨fun hlt => ?_, fun hle => ?_⟩⟩
          · by_cases e : i = t
            · subst e
              exact ⟨j0, by omega, pl_up_s⟩
            · rw [pl_up_k e]
              exact hso' i hi
          · rw [pl_up_k (by omega)]
            exact (hj' j hj ij).1 (by omega)
          · by_cases e : j = j0
            · subst e
              rw [hr0', show t - 1 + 1 = t by omega, pl_up_s]
              exact ⟨rfl, hr⟩
            · have h1 : rq s y q k j ≠ rq s y q k j0 := fun z => e (rk_inj O hj hj0 ij ij0 z)
              rw [pl_up_k (by omega)]
              exact (hj' j hj ij).2 (by omega)
theorem sp_covers_i (h : CR 4 μ s) (ok : sOK s) {a b : Nat} (ha : a < 30) (hb : b < 30) (ia : sI s a) (ib : sI s b) : sp_covers (4 + a) (4 + b) μ Q ↔ Q (pl_b (cov s a b)) μ := by
  obtain ⟨a0, a1, a2, a3, a4⟩ := h a ha
  obtain ⟨b0, b1, b2, b3, b4⟩ := h b hb
  have oa := ok a ha ia
  have ob := ok b hb ib
  unfold sp_covers sp_length
  have e1 : i3 (sL s a) ≤ i3 (sL s b) ↔ sL s a ≤ sL s b := i3_le (ok.B ha ia).1 (ok.B hb ib).1
  have e2 : i3 (sH s a) < i3 (sH s b) ↔ sH s a < sH s b := i3_lt (ok.B ha ia).2.1 (ok.B hb ib).2.1
  have e3 : i3 (sH s a) - i3 (sL s a) + 1 = i3 (sH s a - sL s a + 1) := by rw [i3_sub, i3_1, i3_add]
  have e4 : i3 (sH s b) - i3 (sL s b) + 1 = i3 (sH s b - sL s b + 1) := by rw [i3_sub, i3_1, i3_add]
  have e5 : i3 (sH s a - sL s a + 1) ≤ i3 (sH s b - sL s b + 1) ↔ sH s a - sL s a + 1 ≤ sH s b - sL s b + 1 := i3_le (pl_B (by omega) (by omega)) (pl_B (by omega) (by omega))
  have e6 : nI a < nI b ↔ a < b := nI_ltI (by omega) (by omega)
  simp only [a0, a2, a3, b0, b2, b3, e1, e2, e3, e4, e5, e6]
  by_cases c : cov s a b
  · obtain ⟨-, -, c3, c4, c5, c6⟩ := c
    rw [pl_bt (show cov s a b from ⟨ia, ib, c3, c4, c5, c6⟩)]
    have n1 : ¬ sH s a < sH s b := by omega
    by_cases c7 : sH s a - sL s a + 1 ≤ sH s b - sL s b + 1
    · have c8 : a < b := by omega
      simp [c4, n1, c7, c8, pl_bz1]
    · simp [c4, n1, c7, pl_bz1]
  · rw [pl_bf c]
    by_cases c4 : sL s a ≤ sL s b
    · by_cases c5 : sH s a < sH s b
      · simp [c4, c5, pl_bz0]
      · have c7 : sH s a - sL s a + 1 ≤ sH s b - sL s b + 1 := by
          apply Classical.byContradiction
          intro c7
          exact c ⟨ia, ib, fun e => by subst e; omega, c4, by omega, by omega⟩
        have c8 : ¬ a < b := fun c8 => c ⟨ia, ib, by omega, c4, by omega, Or.inr c8⟩
        simp [c4, c5, c7, c8, pl_bz0]
    · simp [c4, pl_bz0]
abbrev fR : Nat → Nat → Prop := fun o k => o = 3 ∨ (4 ≤ o ∧ o < 34 ∧ k = 5)
def LyB (μ : sl_M) : Prop := ∀ k, k < 30 → ∃ y : Nat, y ≤ 29 ∧ μ (4 + k) 5 = nI y
theorem cov_RR {s : SS} {y : Nat → Int} {a b : Nat} (h : cov s a b) : RR s y 2 a b = true := by
  obtain ⟨h1, h2, h3, h4, h5, h6⟩ := h
  unfold RR
  rw [decide_eq_true_eq]
  have e1 : K1 2 (sL s a) (sH s a) (sW s a) (y a) = sL s a - sH s a := by simp [K1]
  have e2 : K1 2 (sL s b) (sH s b) (sW s b) (y b) = sL s b - sH s b := by simp [K1]
  have e3 : K2 2 (sL s a) (sH s a) = sL s a := by simp [K2]
  have e4 : K2 2 (sL s b) (sH s b) = sL s b := by simp [K2]
  rw [e1, e2, e3, e4]
  omega
theorem ly_en {s : SS} {y : Nat → Int} {k : Nat} (hk : k < sN s) : mx (fun j => if cov s (en s y 2 j) (en s y 2 k) then ly s (en s y 2 j) + 1 else 0) k = ly s (en s y 2 k) := by
  refine Nat.le_antisymm (mx_le (fun j hj => ?_)) (ly_le (fun a ha hc => ?_))
  · by_cases c : cov s (en s y 2 j) (en s y 2 k)
    · rw [if_pos c]
      exact ly_gt (en_ok (by omega)).1 c
    · rw [if_neg c]
      exact Nat.zero_le _
  · have ia := hc.1
    have e := en_rk (y := y) (q := 2) ha ia
    have h2 := en_ok (s := s) (y := y) (q := 2) hk
    have hlt : rq s y 2 30 a < k := by
      have := rk_lt (RR_ord s y 2) (I := sC s) ha ia (cov_RR (y := y) hc)
      have this' : rq s y 2 30 a < rq s y 2 30 (en s y 2 k) := this
      omega
    have := mx_ge (f := fun j => if cov s (en s y 2 j) (en s y 2 k) then ly s (en s y 2 j) + 1 else 0) hlt
    simp only [e, if_pos hc] at this
    exact this
theorem ix_relayer_s (h : CR 4 μ s) (ok : sOK s) (lb : LyB μ) (so : SoR μ) (hQ : ∀ μ', Fr fR μ μ' → SoR μ' → (∀ k, k < 30 → sI s k → μ' (4 + k) 5 = nI (ly s k)) → LyB μ' → P μ') : ix_relayer μ P := by
  have hch : ∀ k : Nat, ∃ z : Int, k < 30 → (0 ≤ z ∧ z ≤ 29) ∧ μ (4 + k) 5 = i3 z := by
    intro k
    by_cases hk : k < 30
    · obtain ⟨y, h1, h2⟩ := lb k hk
      exact ⟨(y : Int), fun _ => ⟨by omega, by rw [h2, i3_n]⟩⟩
    · exact ⟨0, fun z => absurd z hk⟩
  obtain ⟨y, hy⟩ := Classical.axiomOfChoice hch
  have n30 := sN_le s
  refine ix_sortBy_s (y := y) (q := 2) h ok (fun k hk _ => (hy k hk).2) (fun k hk => (hy k hk).1) so (by omega) (fun m0 hf0 so0 ho0 => ?_)
  refine lq2 (fun n x2 m => ix_relayer_L8 P n (nI (sN s)) x2 m) (fun k x2 m => x2 = nI k ∧ Fr fR μ m ∧ SoR m ∧ (∀ i, i < sN s → m 3 i = nI (4 + en s y 2 i)) ∧ (∀ i, i < k → m (4 + en s y 2 i) 5 = nI (ly s (en s y 2 i))) ∧ LyB m) (sN s) 0 m0 ⟨rfl, hf0.mono (fun o k z => Or.inl z), so0, ho0, fun j hj => absurd hj (by omega), fun k hk => by rw [hf0 (4 + k) 5 (show ¬ (4 + k = 3) by omega)]; exact lb k hk⟩ ?_ ?_
  · rintro n x2 m ⟨rfl, hf, hso, ho, hl, hlb⟩
    refine ⟨fun z => absurd z (nI_nlt (Nat.le_refl _) (by omega)), fun _ => hQ m hf hso (fun k hk ik => ?_) hlb⟩
    have := hl (rq s y 2 30 k) (rk_bd (RR_ord s y 2) hk ik)
    rw [en_rk hk ik] at this
    exact this
  · rintro n k x2 m hk ⟨rfl, hf, hso, ho, hl, hlb⟩ ih
    refine ⟨fun _ => ?_, fun z => absurd (nI_lt hk (by omega)) z⟩
    have hC : CR 4 m s := h.fr hf (fun k j h1 h2 q => by omega)
    have ek := en_ok (s := s) (y := y) (q := 2) hk
    refine lq2 (fun n1 x3 x4 => ix_relayer_L18 P (ix_relayer_L8 P n) n1 (nI (sN s)) (nI k) x3 x4 m) (fun j x3 x4 => x3 = nI (mx (fun j => if cov s (en s y 2 j) (en s y 2 k) then ly s (en s y 2 j) + 1 else 0) j) ∧ x4 = nI j) k 0 0 ⟨rfl, rfl⟩ ?_ ?_
    · rintro n1 x3 x4 ⟨rfl, rfl⟩
      refine ⟨fun z => absurd z (nI_nlt (Nat.le_refl _) (by omega)), fun _ => ⟨pl_in (by omega), ?_⟩⟩
      rw [pl_cl (show k < 30 by omega), ho k hk, cl4 ek.1, ly_en hk]
      refine ⟨kd9 _ ek.1, ?_⟩
      rintro m6 rfl
      refine ih _ _ ⟨pl_inc k, hf.up (Or.inr ⟨by omega, by omega, rfl⟩), fun i hi => ?_, fun i hi => ?_, fun i hi => ?_, fun i hi => ?_⟩
      · rw [pl_up_o (by omega)]
        exact hso i hi
      · rw [pl_up_o (by omega)]
        exact ho i hi
      · by_cases e : i = k
        · subst e
          rw [pl_up_s]
        · rw [pl_up_o (fun z => e (en_inj (s := s) (y := y) (q := 2) (by omega) hk (by omega)))]
          exact hl i (by omega)
      · by_cases e : i = en s y 2 k
        · subst e
          exact ⟨_, ly_29 ek.1, pl_up_s⟩
        · rw [pl_up_o (by omega)]
          exact hlb i hi
    · rintro n1 j x3 x4 hj ⟨rfl, rfl⟩ ih2
      have ej := en_ok (s := s) (y := y) (q := 2) (i := j) (by omega)
      have l1 := ly_29 (s := s) ej.1
      refine ⟨fun _ => ⟨pl_in (by omega), ?_⟩, fun z => absurd (nI_lt hj (by omega)) z⟩
      rw [pl_cl (show j < 30 by omega), pl_cl (show k < 30 by omega), ho j (by omega), ho k hk, cl4 ej.1, cl4 ek.1]
      refine ⟨kd9 _ ej.1, pl_in (by omega), kd9 _ ek.1, ?_⟩
      rw [sp_covers_i hC ok ej.1 ek.1 ej.2.1 ek.2.1]
      refine pl_bb (fun hc => ?_) (fun hc => ⟨pl_in (by omega), ?_⟩)
      · refine ih2 _ _ ⟨?_, pl_inc j⟩
        exact congrArg nI (mx_stay (v := 0) (by exact if_neg hc) (Nat.not_lt_zero _)).symm
      · rw [ho j (by omega), cl4 ej.1]
        refine ⟨kd9 _ ej.1, ?_⟩
        rw [hl j hj, nI_1]
        have hm : mx (fun j => if cov s (en s y 2 j) (en s y 2 k) then ly s (en s y 2 j) + 1 else 0) j ≤ 30 := by
          refine mx_le (fun i hi => ?_)
          have := ly_29 (s := s) (en_ok (s := s) (y := y) (q := 2) (i := i) (by omega)).1
          split <;> omega
        unfold ma_max
        rw [nI_ltI (by omega) (by omega)]
        refine ⟨fun hlt => ih2 _ _ ⟨?_, pl_inc j⟩, fun hlt => ih2 _ _ ⟨?_, pl_inc j⟩⟩
        · exact congrArg nI (mx_take (by exact if_pos hc) hlt).symm
        · exact congrArg nI (mx_stay (by exact if_pos hc) hlt).symm
end RE
