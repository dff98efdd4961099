/-! lay, judge -/
theorem lg_lt (x y : Int64) : lg_cmp x y < 0 ↔ x < y := by
  unfold lg_cmp
  by_cases a : y < x
  · have : ¬ x < y := by
      rw [fa_lt64] at a ⊢
      omega
    simp [a, this]
  · by_cases b : x = y
    · subst b
      simp [a]
    · have : x < y := by
        rw [fa_lt64] at a ⊢
        rw [fa_eq64] at b
        omega
      simp [a, b, this]
def lim (a : Int32) (n : Nat) : Nat := if a < 0 then 0 else n - a.toNatClampNeg
theorem lim_lt {a : Int32} {n k : Nat} (h : k < lim a n) : ∃ z, z < 2 ^ 31 ∧ a = nI z ∧ z + k < n ∧ lim a n = n - z ∧ ¬ a < 0 := by
  unfold lim at *
  by_cases c : a < 0
  · rw [if_pos c] at h
    omega
  · rw [if_neg c] at h
    rw [if_neg c]
    obtain ⟨z, hz, rfl⟩ := nI_of c
    rw [nI_clamp hz] at h ⊢
    exact ⟨z, hz, rfl, by omega, rfl, c⟩
theorem lim_end {a : Int32} {n : Nat} (hn : n ≤ 40) : ¬ (0 ≤ a + nI (lim a n) ∧ a + nI (lim a n) < nI n) := by
  unfold lim
  by_cases c : a < 0
  · rw [if_pos c]
    intro h
    have : a + nI 0 = a := Int32.add_zero a
    rw [this, fa_le] at h
    rw [fa_lt] at c
    omega
  · rw [if_neg c]
    obtain ⟨z, hz, rfl⟩ := nI_of c
    rw [nI_clamp hz]
    intro h
    by_cases hzn : z ≤ n
    · rw [nI_add, show z + (n - z) = n by omega] at h
      exact nI_nlt (Nat.le_refl n) (by omega) h.2
    · rw [show n - z = 0 by omega, nI_add] at h
      exact nI_nlt (show n ≤ z + 0 by omega) (by omega) h.2
theorem lim_endM {a : Int32} {n : Nat} (hn : n ≤ 40) (h0 : ¬ a < 0) (h30 : lim a n < 2 ^ 31) : ¬ lg_cmp (a.toInt64 + (nI (lim a n)).toInt64) (nI n).toInt64 < 0 := by
  have e : lim a n = n - a.toNatClampNeg := if_neg h0
  obtain ⟨z, hz, rfl⟩ := nI_of h0
  rw [nI_clamp hz] at e
  rw [lg_lt, nI_l hz, nI_l h30, nI_l (show n < 2 ^ 31 by omega), lN_add, pk_lLT (by omega) (by omega)]
  omega
section L9
variable {μ : sl_M} {s : SS} {Q : Int32 → sl_M → Prop} {P : sl_M → Prop}
def wf (z K : Nat) (e : Nat → Nat) (old : Nat → Int32) (i : Nat) : Int32 := if z ≤ i ∧ i < z + K then nI (e (i - z)) else old i
theorem wf_0 {z : Nat} {e : Nat → Nat} {old : Nat → Int32} {i : Nat} : wf z 0 e old i = old i := if_neg (by omega)
theorem wf_s {z k : Nat} {e : Nat → Nat} {old : Nat → Int32} {i : Nat} : wf z (k + 1) e old i = if i = z + k then nI (e k) else wf z k e old i := by
  unfold wf
  by_cases c : i = z + k
  · rw [if_pos c, if_pos (by omega)]
    congr 2
    omega
  · rw [if_neg c]
    by_cases c2 : z ≤ i ∧ i < z + k
    · rw [if_pos c2, if_pos (by omega)]
    · rw [if_neg c2, if_neg (by omega)]
theorem sx_lay_L (ci : CInv s μ) {q : Int} (ho : ∀ i, i < sN s → μ 3 i = nI (4 + en s (yl s) q i)) {l n : Nat} (hl : l < 4) (hn : n ≤ 40) (hs : μ (96 + 2 * l) 2 = nI n) {a2 a3 : Int32} (hQ : ∀ m, Fr (fun o _ => o = 97 + 2 * l) μ m → (∀ i, i < 40 → m (97 + 2 * l) i = wf a2.toNatClampNeg (min (sN s) (lim a2 n)) (en s (yl s) q) (μ (97 + 2 * l)) i) → Q (if sN s ≤ lim a2 n then nI (sN s) else -13) m) : ∃ f, sx_lay_L46 (nI l) a2 a3 Q f (nI (sN s)) 0 μ := by
  have n30 := sN_le s
  refine lq2 (fun f x5 m => sx_lay_L46 (nI l) a2 a3 Q f (nI (sN s)) x5 m) (fun k x5 m => x5 = nI k ∧ Fr (fun o _ => o = 97 + 2 * l) μ m ∧ ∀ i, i < 40 → m (97 + 2 * l) i = wf a2.toNatClampNeg k (en s (yl s) q) (μ (97 + 2 * l)) i) (min (sN s) (lim a2 n)) 0 μ ⟨rfl, Fr.rfl', fun i hi => wf_0.symm⟩ ?_ ?_
  · rintro f x5 m ⟨rfl, hf, hw⟩
    have hQ := hQ m hf hw
    by_cases c : sN s ≤ lim a2 n
    · rw [if_pos c] at hQ
      rw [show min (sN s) (lim a2 n) = sN s by omega]
      exact ⟨fun z => absurd z (nI_nlt (Nat.le_refl _) (by omega)), fun _ => hQ⟩
    · rw [if_neg c] at hQ
      have hk : lim a2 n < sN s := by omega
      rw [show min (sN s) (lim a2 n) = lim a2 n by omega]
      refine ⟨fun _ => ⟨pl_in4 hl, pl_in (by omega), ?_⟩, fun z => absurd (nI_lt hk (by omega)) z⟩
      have e := en_ok (s := s) (y := yl s) (q := q) hk
      rw [pl_cl4 hl, pl_cl (show lim a2 n < 30 by omega), hf _ _ (by omega), ho _ hk, cl4 e.1]
      refine ⟨kd9 _ e.1, ?_⟩
      unfold ro_write
      rw [ro_hasPlace_i hn (by rw [hf _ _ (by omega)]; exact hs), pl_bf (lim_end hn)]
      exact ⟨fun _ => ⟨rfl, fun _ => hQ, fun z => absurd rfl z⟩, fun z => absurd rfl z⟩
  · rintro f k x5 m hk ⟨rfl, hf, hw⟩ ih
    have hk1 : k < sN s := by omega
    obtain ⟨z, hz, ez, hzk, -, -⟩ := lim_lt (show k < lim a2 n by omega)
    refine ⟨fun _ => ⟨pl_in4 hl, pl_in (by omega), ?_⟩, fun z => absurd (nI_lt hk1 (by omega)) z⟩
    have e := en_ok (s := s) (y := yl s) (q := q) hk1
    have c0 := (ci.2.1 _ e.1).1
    rw [pl_cl4 hl, pl_cl (show k < 30 by omega), hf 3 _ (by omega), ho _ hk1, cl4 e.1]
    refine ⟨kd9 _ e.1, ?_⟩
    have eq : a2 + nI k = nI (z + k) := by rw [ez, nI_add]
    unfold ro_write
    rw [ro_hasPlace_i hn (by rw [hf _ _ (by omega)]; exact hs), eq, pl_bt ⟨nI_pos' (by omega), nI_lt hzk (by omega)⟩]
    refine ⟨fun z => absurd z (by decide), fun _ => ⟨by rw [len97 l hl]; exact vp_in_nI (by omega) (by decide), ?_⟩⟩
    rintro m3 rfl
    refine ⟨rfl, fun z => absurd z (by decide), fun _ => ?_⟩
    rw [show 96 + 2 * l + 1 = 97 + 2 * l by omega, nI_clamp (show z + k < 2 ^ 31 by omega), hf _ _ (by omega), c0]
    refine ih _ _ ⟨pl_inc k, hf.up rfl, fun i hi => ?_⟩
    have ecl : a2.toNatClampNeg = z := by rw [ez, nI_clamp hz]
    rw [wf_s, ecl]
    by_cases c : i = z + k
    · rw [if_pos c, c, pl_up_s]
    · rw [if_neg c, pl_up_k c, hw i hi, ecl]
theorem mo_lay_L {q : Int} (ho : ∀ i, i < sN s → μ 110 i = nI (en s (yl s) q i)) {l n : Nat} (hl : l < 4) (hn : n ≤ 40) (hs : μ 136 l = nI n) {a2 a3 : Int32} (hQ : ∀ m, Fr (fun o k => o = 137 ∧ 40 * l ≤ k ∧ k < 40 * l + 40) μ m → (∀ i, i < 40 → m 137 (40 * l + i) = wf a2.toNatClampNeg (min (sN s) (lim a2 n)) (en s (yl s) q) (fun i => μ 137 (40 * l + i)) i) → Q (if sN s ≤ lim a2 n then nI (sN s) else -13) m) : ∃ f, mo_lay_L52 (nI l) a2 a3 Q f (nI (sN s)) 0 μ := by
  have n30 := sN_le s
  refine lq2 (fun f x5 m => mo_lay_L52 (nI l) a2 a3 Q f (nI (sN s)) x5 m) (fun k x5 m => x5 = nI k ∧ Fr (fun o k => o = 137 ∧ 40 * l ≤ k ∧ k < 40 * l + 40) μ m ∧ ∀ i, i < 40 → m 137 (40 * l + i) = wf a2.toNatClampNeg k (en s (yl s) q) (fun i => μ 137 (40 * l + i)) i) (min (sN s) (lim a2 n)) 0 μ ⟨rfl, Fr.rfl', fun i hi => (wf_0 (old := fun i => μ 137 (40 * l + i))).symm⟩ ?_ ?_
  · rintro f x5 m ⟨rfl, hf, hw⟩
    have hQ := hQ m hf hw
    by_cases c : sN s ≤ lim a2 n
    · rw [if_pos c] at hQ
      rw [show min (sN s) (lim a2 n) = sN s by omega]
      exact ⟨fun z => absurd z (nI_nlt (Nat.le_refl _) (by omega)), fun _ => hQ⟩
    · rw [if_neg c] at hQ
      have hk : lim a2 n < sN s := by omega
      rw [show min (sN s) (lim a2 n) = lim a2 n by omega]
      refine ⟨fun _ => ⟨fun _ => hQ, fun h0 => ⟨pl_in4 hl, ?_⟩⟩, fun z => absurd (nI_lt hk (by omega)) z⟩
      rw [pl_cl4 hl, hf _ _ (by omega), hs]
      exact ⟨fun z => absurd z (lim_endM hn h0 (by omega)), fun _ => hQ⟩
  · rintro f k x5 m hk ⟨rfl, hf, hw⟩ ih
    have hk1 : k < sN s := by omega
    obtain ⟨z, hz, ez, hzk, -, h0⟩ := lim_lt (show k < lim a2 n by omega)
    refine ⟨fun _ => ⟨fun q => absurd q h0, fun _ => ⟨pl_in4 hl, ?_⟩⟩, fun z => absurd (nI_lt hk1 (by omega)) z⟩
    have ix : (40 : Int32) * nI l + a2 + nI k = nI (40 * l + (z + k)) := by rw [ez, ls_ix, nI_add, Nat.add_assoc]
    rw [pl_cl4 hl, hf 136 _ (by omega), hs]
    refine ⟨fun _ => ⟨pl_in (by omega), by rw [ix]; exact vp_in_nI (by omega) (by decide), ?_⟩, fun q => absurd (by rw [lg_lt, ez, nI_l hz, nI_l (show k < 2 ^ 31 by omega), nI_l (show n < 2 ^ 31 by omega), lN_add, pk_lLT (by omega) (by omega)]; exact hzk) q⟩
    rintro m1 rfl
    rw [ix, nI_clamp (show 40 * l + (z + k) < 2 ^ 31 by omega), pl_cl (show k < 30 by omega), hf 110 _ (by omega), ho k hk1]
    refine ih _ _ ⟨pl_inc k, hf.up ⟨rfl, by omega, by omega⟩, fun i hi => ?_⟩
    have ecl : a2.toNatClampNeg = z := by rw [ez, nI_clamp hz]
    rw [wf_s, ecl]
    by_cases c : i = z + k
    · rw [if_pos c, c, pl_up_s]
    · rw [if_neg c, pl_up_k (by omega), hw i hi, ecl]
theorem op_lay (a1 a2 a3 : Int32) : Opp (sx_lay a1 a2 a3) (mo_lay a1 a2 a3) := by
  rintro μ ⟨⟨s, ci, mr⟩, ri⟩
  have I2 : Inv (sl_up μ 104 5 0) := ⟨⟨s, ci.fr Fr.th (fun o k h1 h2 z => by omega), mr.th⟩, ri.fr Fr.th (fun o k z => Or.inr z)⟩
  unfold sx_lay
  rw [sx_isBelow_i]
  refine pl_bb (fun h1 => ?_) (fun h1 => ?_)
  · rintro m1 rfl
    rw [mo_isList_k]
    exact pl_bb (fun _ => ⟨rfl, I2⟩) (fun z => absurd z h1)
  · rw [sx_isBelow_i]
    refine pl_bb (fun h3 => ?_) (fun h3 => ?_)
    · rintro m1 rfl
      rw [mo_isList_k]
      refine pl_bb (fun z => absurd h1 z) (fun _ => ?_)
      rw [mo_in_0, pl_bcong pl_le4]
      exact pl_bb (fun _ => ⟨rfl, I2⟩) (fun z => absurd z h3)
    · obtain ⟨l, hl, rfl⟩ := pl_4 h1
      obtain ⟨q, hq, rfl⟩ := pl_ord h3
      refine ⟨pl_in4 hl, ?_⟩
      rw [pl_cl4 hl]
      rcases ri.2.2.2.2 l hl with ⟨k1, k2⟩ | ⟨k1, k2, n, hn, k3, k4, k5⟩
      · rw [k1]
        refine ⟨fun _ => ?_, fun z => absurd rfl z⟩
        rintro m1 rfl
        rw [mo_isList_k]
        refine pl_bb (fun z => absurd h1 z) (fun _ => ?_)
        rw [mo_in_0, pl_bcong pl_le4]
        refine pl_bb (fun z => absurd h3 z) (fun _ => ⟨pl_in4 hl, ?_⟩)
        rw [pl_cl4 hl, pl_up_o (by decide), k2]
        exact ⟨fun _ => ⟨rfl, I2⟩, fun z => absurd rfl z⟩
      · rw [k1]
        refine ⟨fun z => absurd z (by decide), fun _ => ?_⟩
        refine ix_sort_c ci hq (fun m hf cm ho => sx_lay_L cm ho hl hn (by rw [hf _ _ (by omega)]; exact k3) (fun m2 hf2 hw => ?_))
        have F1 : Fr (fun o k => fC o k ∨ o = 97 + 2 * l) μ m2 := (hf.mono (fun o k z => Or.inl z)).tr (hf2.mono (fun o k z => Or.inr z))
        have mr2 : MR m2 s := mr.fr F1 (fun o k h1 h2 z => by omega)
        have ci2 : CInv s m2 := cm.fr hf2 (fun o k h1 h2 z => by omega)
        rintro m3 rfl
        rw [mo_isList_k]
        refine pl_bb (fun z => absurd h1 z) (fun _ => ?_)
        rw [mo_in_0, pl_bcong pl_le4]
        refine pl_bb (fun z => absurd h3 z) (fun _ => ⟨pl_in4 hl, ?_⟩)
        rw [pl_cl4 hl, pl_up_o (by decide), F1 _ _ (by omega), k2]
        refine ⟨fun z => absurd z (by decide), fun _ => ?_⟩
        refine mo_layOrder_s mr2.th ci.1 hq (fun m4 hf4 hl4 ho4 => mo_manyIn_s (mr2.th.f10 hf4) ?_)
        have F2 : Fr fN m2 m4 := Fr.th.tr hf4.f10N
        refine mo_lay_L ho4 hl hn (by rw [F2 _ _ (by omega), F1 _ _ (by omega)]; exact k4) (fun m5 hf5 hw5 => ?_)
        have G : Fr (fun o k => fN o k ∨ (o = 137 ∧ 40 * l ≤ k ∧ k < 40 * l + 40)) m2 m5 := (F2.mono (fun o k z => Or.inl z)).tr (hf5.mono (fun o k z => Or.inr z))
        have F : Fr (fun o k => (fC o k ∨ o = 97 + 2 * l) ∨ (fN o k ∨ (o = 137 ∧ 40 * l ≤ k ∧ k < 40 * l + 40))) μ m5 := (F1.mono (fun o k z => Or.inl z)).tr (G.mono (fun o k z => Or.inr z))
        refine ⟨rfl, ⟨s, ci2.fr G (fun o k h1 h2 z => by omega), (mr2.th.f10 hf4).fr hf5 (fun o k h1 h2 z => by omega)⟩, ri.ls F (fun o k z => by omega) (fun l' hl' => ?_)⟩
        by_cases e : l' = l
        · subst e
          refine Or.inr ⟨by rw [F _ _ (by omega)]; exact k1, by rw [F _ _ (by omega)]; exact k2, n, hn, by rw [F _ _ (by omega)]; exact k3, by rw [F _ _ (by omega)]; exact k4, fun i hi => ?_⟩
          rw [G _ _ (by omega), hw i hi, hw5 i hi]
          have eo : m (97 + 2 * l') i = m4 137 (40 * l' + i) := by rw [F2 _ _ (by omega), F1 _ _ (by omega), hf _ _ (by omega), k5 i hi]
          unfold wf
          show (if _ then _ else m (97 + 2 * l') i) = (if _ then _ else m4 137 (40 * l' + i))
          rw [eo]
        · exact OneL.fr (ri.2.2.2.2 l' hl') F (fun o k hh z => by omega)
def jdv (e : Nat → Nat) (c : Nat → Int32) (lm z : Nat) : Nat → Nat → Int32
  | 0, _ => -5
  | d + 1, k => if k < lm then (if c (z + k) = nI (e k) then jdv e c lm z d (k + 1) else nI k) else 100 + nI k
theorem jdv_0 {e : Nat → Nat} {c : Nat → Int32} {lm z d k : Nat} (h : ¬ k < lm) : jdv e c lm z (d + 1) k = 100 + nI k := if_neg h
theorem jdv_1 {e : Nat → Nat} {c : Nat → Int32} {lm z d k : Nat} (h : k < lm) (h2 : ¬ c (z + k) = nI (e k)) : jdv e c lm z (d + 1) k = nI k := (if_pos h).trans (if_neg h2)
theorem jdv_2 {e : Nat → Nat} {c : Nat → Int32} {lm z d k : Nat} (h : k < lm) (h2 : c (z + k) = nI (e k)) : jdv e c lm z (d + 1) k = jdv e c lm z d (k + 1) := (if_pos h).trans (if_pos h2)
theorem sx_judge_L (ci : CInv s μ) {q : Int} (ho : ∀ i, i < sN s → μ 3 i = nI (4 + en s (yl s) q i)) {l n : Nat} (hl : l < 4) (hn : n ≤ 40) (hs : μ (96 + 2 * l) 2 = nI n) {a2 a3 : Int32} : ∀ d k, k + d = sN s → k ≤ lim a2 n → Q (jdv (en s (yl s) q) (μ (97 + 2 * l)) (lim a2 n) a2.toNatClampNeg d k) μ → sx_judge_L46 (nI l) a2 a3 Q (d + 1) (nI (sN s)) (nI k) μ := by
  have n30 := sN_le s
  intro d
  induction d with
  | zero =>
    intro k hk _ hQ
    obtain rfl : k = sN s := by omega
    exact ⟨fun z => absurd z (nI_nlt (Nat.le_refl _) (by omega)), fun _ => hQ⟩
  | succ d ih =>
    intro k hk hle hQ
    have hk1 : k < sN s := by omega
    have e := en_ok (s := s) (y := yl s) (q := q) hk1
    have c0 := (ci.2.1 _ e.1).1
    refine ⟨fun _ => ⟨pl_in4 hl, ?_⟩, fun z => absurd (nI_lt hk1 (by omega)) z⟩
    rw [pl_cl4 hl, ro_hasPlace_i hn hs]
    by_cases c : k < lim a2 n
    · obtain ⟨z, hz, ez, hzk, -, -⟩ := lim_lt c
      have ecl : a2.toNatClampNeg = z := by rw [ez, nI_clamp hz]
      rw [show a2 + nI k = nI (z + k) by rw [ez, nI_add], pl_bt ⟨nI_pos' (by omega), nI_lt hzk (by omega)⟩]
      refine ⟨fun z => absurd z (by decide), fun _ => ⟨pl_in4 hl, by rw [len97 l hl]; exact vp_in_nI (by omega) (by decide), pl_in (by omega), ?_⟩⟩
      rw [pl_cl (show k < 30 by omega), ho k hk1, cl4 e.1, c0, nI_clamp (show z + k < 2 ^ 31 by omega), show 96 + 2 * l + 1 = 97 + 2 * l by omega]
      rw [ecl] at hQ ih
      refine ⟨kd9 _ e.1, fun h2 => ?_, fun h2 => ?_⟩
      · rw [jdv_2 c h2] at hQ
        rw [pl_inc]
        exact ih (k + 1) (by omega) (by omega) hQ
      · rw [jdv_1 c h2] at hQ
        exact hQ
    · obtain rfl : k = lim a2 n := by omega
      rw [jdv_0 c] at hQ
      rw [pl_bf (lim_end hn)]
      exact ⟨fun _ => hQ, fun z => absurd rfl z⟩
theorem mo_judge_L (mr : MR μ s) {q : Int} (ho : ∀ i, i < sN s → μ 110 i = nI (en s (yl s) q i)) {l n : Nat} (hl : l < 4) (hn : n ≤ 40) (hs : μ 136 l = nI n) {a2 a3 : Int32} {cc : Nat → Int32} (hcc : ∀ i, i < 40 → cc i = μ 137 (40 * l + i)) : ∀ d k, k + d = sN s → k ≤ lim a2 n → Q (jdv (en s (yl s) q) cc (lim a2 n) a2.toNatClampNeg d k) μ → mo_judge_L46 (nI l) a2 a3 Q (d + 1) (nI k) μ := by
  have n30 := sN_le s
  intro d
  induction d with
  | zero =>
    intro k hk _ hQ
    obtain rfl : k = sN s := by omega
    exact mo_manyIn_s mr ⟨fun z => absurd z (nI_nlt (Nat.le_refl _) (by omega)), fun _ => hQ⟩
  | succ d ih =>
    intro k hk hle hQ
    have hk1 : k < sN s := by omega
    refine mo_manyIn_s mr ⟨fun _ => ?_, fun z => absurd (nI_lt hk1 (by omega)) z⟩
    by_cases c : k < lim a2 n
    · obtain ⟨z, hz, ez, hzk, -, h0⟩ := lim_lt c
      have ecl : a2.toNatClampNeg = z := by rw [ez, nI_clamp hz]
      have ix : (40 : Int32) * nI l + a2 + nI k = nI (40 * l + (z + k)) := by rw [ez, ls_ix, nI_add, Nat.add_assoc]
      refine ⟨fun q => absurd q h0, fun _ => ⟨pl_in4 hl, ?_⟩⟩
      rw [pl_cl4 hl, hs]
      refine ⟨fun _ => ⟨by rw [ix]; exact vp_in_nI (by omega) (by decide), pl_in (by omega), ?_⟩, fun q => absurd (by rw [lg_lt, ez, nI_l hz, nI_l (show k < 2 ^ 31 by omega), nI_l (show n < 2 ^ 31 by omega), lN_add, pk_lLT (by omega) (by omega)]; exact hzk) q⟩
      rw [ix, nI_clamp (show 40 * l + (z + k) < 2 ^ 31 by omega), pl_cl (show k < 30 by omega), ho k hk1, ← hcc (z + k) (by omega)]
      rw [ecl] at hQ ih
      refine ⟨fun h2 => ?_, fun h2 => ?_⟩
      · rw [jdv_2 c h2] at hQ
        rw [pl_inc]
        exact ih (k + 1) (by omega) (by omega) hQ
      · rw [jdv_1 c h2] at hQ
        exact hQ
    · obtain rfl : k = lim a2 n := by omega
      rw [jdv_0 c] at hQ
      refine ⟨fun _ => hQ, fun h0 => ⟨pl_in4 hl, ?_⟩⟩
      rw [pl_cl4 hl, hs]
      exact ⟨fun z => absurd z (lim_endM hn h0 (by omega)), fun _ => hQ⟩
theorem op_judge (a1 a2 a3 : Int32) : Opp (sx_judge a1 a2 a3) (mo_judge a1 a2 a3) := by
  rintro μ ⟨⟨s, ci, mr⟩, ri⟩
  have I2 : Inv (sl_up μ 104 5 0) := ⟨⟨s, ci.fr Fr.th (fun o k h1 h2 z => by omega), mr.th⟩, ri.fr Fr.th (fun o k z => Or.inr z)⟩
  unfold sx_judge
  rw [sx_isBelow_i]
  refine pl_bb (fun h1 => ?_) (fun h1 => ?_)
  · rintro m1 rfl
    rw [mo_isList_k]
    exact pl_bb (fun _ => ⟨rfl, I2⟩) (fun z => absurd z h1)
  · rw [sx_isBelow_i]
    refine pl_bb (fun h3 => ?_) (fun h3 => ?_)
    · rintro m1 rfl
      rw [mo_isList_k]
      refine pl_bb (fun z => absurd h1 z) (fun _ => ?_)
      rw [mo_in_0, pl_bcong pl_le4]
      exact pl_bb (fun _ => ⟨rfl, I2⟩) (fun z => absurd z h3)
    · obtain ⟨l, hl, rfl⟩ := pl_4 h1
      obtain ⟨q, hq, rfl⟩ := pl_ord h3
      refine ⟨pl_in4 hl, ?_⟩
      rw [pl_cl4 hl]
      rcases ri.2.2.2.2 l hl with ⟨k1, k2⟩ | ⟨k1, k2, n, hn, k3, k4, k5⟩
      · rw [k1]
        refine ⟨fun _ => ?_, fun z => absurd rfl z⟩
        rintro m1 rfl
        rw [mo_isList_k]
        refine pl_bb (fun z => absurd h1 z) (fun _ => ?_)
        rw [mo_in_0, pl_bcong pl_le4]
        refine pl_bb (fun z => absurd h3 z) (fun _ => ⟨pl_in4 hl, ?_⟩)
        rw [pl_cl4 hl, pl_up_o (by decide), k2]
        exact ⟨fun _ => ⟨rfl, I2⟩, fun z => absurd rfl z⟩
      · rw [k1]
        refine ⟨fun z => absurd z (by decide), fun _ => ?_⟩
        refine ix_sort_c ci hq (fun m hf cm ho => ⟨_, sx_judge_L cm ho hl hn (by rw [hf _ _ (by omega)]; exact k3) (sN s) 0 (by omega) (by omega) ?_⟩)
        have mr2 : MR m s := mr.fr hf (fun o k h1 h2 z => by omega)
        rintro m3 rfl
        rw [mo_isList_k]
        refine pl_bb (fun z => absurd h1 z) (fun _ => ?_)
        rw [mo_in_0, pl_bcong pl_le4]
        refine pl_bb (fun z => absurd h3 z) (fun _ => ⟨pl_in4 hl, ?_⟩)
        rw [pl_cl4 hl, pl_up_o (by decide), hf _ _ (by omega), k2]
        refine ⟨fun z => absurd z (by decide), fun _ => ?_⟩
        refine mo_layOrder_s mr2.th ci.1 hq (fun m4 hf4 hl4 ho4 => ?_)
        have F2 : Fr fN m m4 := Fr.th.tr hf4.f10N
        exact ⟨_, mo_judge_L (mr2.th.f10 hf4) ho4 hl hn (by rw [F2 _ _ (by omega), hf _ _ (by omega)]; exact k4) (fun i hi => by rw [F2 _ _ (by omega), hf _ _ (by omega), hf _ _ (by omega), k5 i hi]) (sN s) 0 (by omega) (by omega) ⟨rfl, ⟨s, cm.fr F2 (fun o k h1 h2 z => by omega), mr2.th.f10 hf4⟩, (ri.fr hf (fun o k z => Or.inl z)).fr F2 (fun o k z => Or.inr z)⟩⟩
end L9
