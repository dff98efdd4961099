/-! load -/
abbrev fS : Nat → Nat → Prop := fun o _ => 4 ≤ o ∧ o < 34
abbrev fM : Nat → Nat → Prop := fun o _ => 105 ≤ o ∧ o ≤ 108
section LD0
variable {μ : sl_M} {s : SS} {Q : Int32 → sl_M → Prop} {P : sl_M → Prop}
theorem ix_bringIn_d (h : CPre s μ) {k : Nat} (hk : k < 30) {l g w : Int} (hv : vS l g w) (hQ : ∀ μ', Fr fS μ μ' → CPre (fu s k (true, l, g, w)) μ' → P μ') : ix_bringIn (nI k) (i3 l) (i3 g) (i3 w) μ P := by
  obtain ⟨h1, h2, h3, h4⟩ := h
  unfold ix_bringIn
  rw [sx_isBelow_i]
  refine pl_bb (fun z => absurd (pl_k30 hk) z) (fun _ => ⟨pl_in hk, rfl, ?_⟩)
  rintro m3 rfl
  refine ⟨pl_in hk, ?_⟩
  rintro m4 rfl
  refine ⟨pl_in hk, ?_⟩
  rintro m5 rfl
  refine ⟨pl_in hk, ?_⟩
  rintro m6 rfl
  rw [pl_cl hk]
  refine hQ _ ((((Fr.rfl'.up (by omega)).up (by omega)).up (by omega)).up (by omega)) ⟨fun j hj ij => ?_, fun j hj => ?_, fun j hj => ?_, fun j hj => ?_⟩
  · by_cases e : j = k
    · subst e
      simp only [sL, sH, sW, fu_s]
      exact hv
    · have e2 : fu s k (true, l, g, w) j = s j := fu_o e
      have ij' : sI s j := by
        have := ij
        unfold sI at this
        rw [e2] at this
        exact this
      simp only [sL, sH, sW, e2]
      exact h1 j hj ij'
  · by_cases e : j = k
    · subst e
      simp only [sI, sL, sH, sW, fu_s, pl_up]
      simp [(h2 j hj).1, pl_b]
    · have e2 : fu s k (true, l, g, w) j = s j := fu_o e
      simp only [sI, sL, sH, sW, e2, pl_up]
      simp [e]
      exact h2 j hj
  · have : ∀ m : sl_M, m = sl_up (sl_up (sl_up (sl_up μ (4 + k) 1 1) (4 + k) 2 (i3 l)) (4 + k) 3 (i3 g)) (4 + k) 4 (i3 w) → m (4 + j) 5 = μ (4 + j) 5 := by
      rintro m rfl
      simp [pl_up]
    rw [this _ rfl]
    exact h3 j hj
  · rw [pl_up_o (by omega), pl_up_o (by omega), pl_up_o (by omega), pl_up_o (by omega)]
    exact h4 j hj
theorem mo_comes_d (h : MR μ s) {k : Nat} (hk : k < 30) {l g w : Int} (hQ : ∀ μ', Fr fM μ μ' → MR μ' (fu s k (true, l, g, w)) → P μ') : mo_comes (nI k) (i3 l) (i3 g) (i3 w) μ P := by
  refine ⟨pl_in hk, ?_⟩
  rintro m3 rfl
  refine ⟨pl_in hk, ?_⟩
  rintro m4 rfl
  refine ⟨pl_in hk, ?_⟩
  rintro m5 rfl
  refine ⟨pl_in hk, ?_⟩
  rintro m6 rfl
  rw [pl_cl hk]
  refine hQ _ ((((Fr.rfl'.up (by omega)).up (by omega)).up (by omega)).up (by omega)) (fun j hj => ?_)
  by_cases e : j = k
  · subst e
    simp only [sI, sL, sH, sW, fu_s, pl_up]
    simp [pl_b]
  · have e2 : fu s k (true, l, g, w) j = s j := fu_o e
    simp only [sI, sL, sH, sW, e2, pl_up]
    simp [e]
    exact h j hj
end LD0
theorem sk_t {n : Nat} {t : Nat → Nat} {c : Int32} {st : St} (h : (sk n t c st).1 = true) : st.1 = false ∧ (sk n t c st).2 = (false, st.2 + 1) := by
  unfold sk at h ⊢
  by_cases e : st.1 = false ∧ lt n t st.2 = c
  · rw [if_pos e]
    exact ⟨e.1, rfl⟩
  · rw [if_neg e] at h
    exact absurd h Bool.false_ne_true
theorem sk_f {n : Nat} {t : Nat → Nat} {c : Int32} {st : St} (h : ¬ (sk n t c st).1 = true) : (sk n t c st).2 = st := by
  unfold sk at h ⊢
  by_cases e : st.1 = false ∧ lt n t st.2 = c
  · rw [if_pos e] at h
    exact absurd rfl h
  · rw [if_neg e]
theorem sk_b {n : Nat} {t : Nat → Nat} {c : Int32} {st : St} (h : st.1 = true) : sk n t c st = (false, st) := if_neg (fun z => by rw [h] at z; exact absurd z.1 (by decide))
theorem ex_b {n : Nat} {t : Nat → Nat} {c : Int32} {st : St} (h : st.1 = true) : ex n t c st = st := by
  unfold ex
  rw [sk_b h, if_neg Bool.false_ne_true, ← h]
theorem ex_ok {n : Nat} {t : Nat → Nat} {c : Int32} {st : St} (h : (ex n t c st).1 = false) : st.1 = false ∧ ex n t c st = (false, st.2 + 1) := by
  unfold ex at h ⊢
  by_cases e : (sk n t c st).1 = true
  · rw [if_pos e]
    exact sk_t e
  · rw [if_neg e] at h
    exact Bool.noConfusion h
theorem nu_ok {n : Nat} {t : Nat → Nat} {most : Nat} {st : St} (h : (nu n t most st).2.1 = false) : st.1 = false ∧ st.2 < (nu n t most st).2.2 := by
  unfold nu at h ⊢
  by_cases e : st.1 = true
  · rw [if_pos e] at h
    rw [e] at h
    exact Bool.noConfusion h
  · rw [if_neg e] at h ⊢
    by_cases e2 : nf n t most st.2 = 0
    · rw [if_pos e2] at h
      exact Bool.noConfusion h
    · rw [if_neg e2]
      refine ⟨by simpa using e, ?_⟩
      show st.2 < st.2 + nf n t most st.2
      omega
theorem nl_b {n : Nat} {t : Nat → Nat} {a : Nat} {st : St} (h : st.1 = true) : nl n t a st = (0, st) := by
  unfold nl
  rw [nu_bad h, if_neg (fun z => by rw [h] at z; exact absurd z.1 (by decide))]
theorem nl_ok {n : Nat} {t : Nat → Nat} {a : Nat} {st : St} (h : (nl n t a st).2.1 = false) : st.1 = false ∧ st.2 < (nl n t a st).2.2 ∧ a ≤ (nl n t a st).1 ∧ (nl n t a st).1 < 1000 := by
  have b := nu_lt (n := n) (t := t) (most := 3) (st := st)
  unfold nl at h ⊢
  by_cases e : (nu n t 3 st).2.1 = false ∧ (nu n t 3 st).1 < a
  · rw [if_pos e] at h
    exact Bool.noConfusion h
  · rw [if_neg e] at h ⊢
    have := nu_ok h
    exact ⟨this.1, this.2, Nat.le_of_not_lt (fun z => e ⟨h, z⟩), b⟩
theorem sg_ok {n : Nat} {t : Nat → Nat} {most : Nat} {st : St} (h : (sg n t most st).2.1 = false) : st.1 = false ∧ st.2 < (sg n t most st).2.2 := by
  have k := nu_ok (st := (sk n t 45 st).2) h
  by_cases e : (sk n t 45 st).1 = true
  · have q := sk_t e
    refine ⟨q.1, ?_⟩
    have k2 := k.2
    rw [q.2] at k2
    have : st.2 + 1 < (sg n t most st).2.2 := by
      unfold sg
      rw [q.2]
      exact k2
    omega
  · have q := sk_f e
    rw [q] at k
    refine ⟨k.1, ?_⟩
    unfold sg
    rw [q]
    exact k.2
theorem sg_B {n : Nat} {t : Nat → Nat} {most : Nat} {st : St} : -((10 ^ most : Nat) : Int) < (sg n t most st).1 ∧ (sg n t most st).1 < ((10 ^ most : Nat) : Int) := by
  have b := nu_lt (n := n) (t := t) (most := most) (st := (sk n t 45 st).2)
  have key : ∀ (x y : Nat) (c : Bool), x < y → -(y : Int) < (if c then -(x : Int) else (x : Int)) ∧ (if c then -(x : Int) else (x : Int)) < (y : Int) := by
    intro x y c h
    cases c with
    | true =>
      rw [if_pos rfl]
      omega
    | false =>
      rw [if_neg (by decide)]
      omega
  exact key _ _ _ b
theorem nl_le {n : Nat} {t : Nat → Nat} {a : Nat} {st : St} (h : st.2 ≤ n) : (nl n t a st).2.2 ≤ n := by
  unfold nl
  by_cases e : (nu n t 3 st).2.1 = false ∧ (nu n t 3 st).1 < a
  · rw [if_pos e]
    exact h
  · rw [if_neg e]
    exact nu_le h
theorem sg_le {n : Nat} {t : Nat → Nat} {most : Nat} {st : St} (h : st.2 ≤ n) : (sg n t most st).2.2 ≤ n := nu_le (sk_le (by decide) h)
/-- one part -/
def prt (n : Nat) (t : Nat → Nat) (st : St) : (Nat × Nat × Int) × St :=
  (((nu n t 3 st).1, (nl n t (nu n t 3 st).1 (ex n t 45 (nu n t 3 st).2)).1, if (sk n t 58 (nl n t (nu n t 3 st).1 (ex n t 45 (nu n t 3 st).2)).2).1 then (sg n t 2 (sk n t 58 (nl n t (nu n t 3 st).1 (ex n t 45 (nu n t 3 st).2)).2).2).1 else 1), if (sk n t 58 (nl n t (nu n t 3 st).1 (ex n t 45 (nu n t 3 st).2)).2).1 then (sg n t 2 (sk n t 58 (nl n t (nu n t 3 st).1 (ex n t 45 (nu n t 3 st).2)).2).2).2 else (sk n t 58 (nl n t (nu n t 3 st).1 (ex n t 45 (nu n t 3 st).2)).2).2)
theorem prt_ok {n : Nat} {t : Nat → Nat} {st : St} (h : (prt n t st).2.1 = false) : st.1 = false ∧ st.2 + 3 ≤ (prt n t st).2.2 ∧ vS ((prt n t st).1.1 : Int) ((prt n t st).1.2.1 : Int) (prt n t st).1.2.2 := by
  have key : ∀ (a : Nat × St) (b : Nat × St) (c : Bool × St), nu n t 3 st = a → nl n t a.1 (ex n t 45 a.2) = b → sk n t 58 b.2 = c → (if c.1 then (sg n t 2 c.2).2 else c.2).1 = false → st.1 = false ∧ st.2 + 3 ≤ (if c.1 then (sg n t 2 c.2).2 else c.2).2 ∧ vS (a.1 : Int) (b.1 : Int) (if c.1 then (sg n t 2 c.2).1 else 1) := by
    rintro a b c rfl rfl rfl h
    have fin : (nl n t (nu n t 3 st).1 (ex n t 45 (nu n t 3 st).2)).2.1 = false → st.1 = false ∧ st.2 + 3 ≤ (nl n t (nu n t 3 st).1 (ex n t 45 (nu n t 3 st).2)).2.2 ∧ (nu n t 3 st).1 ≤ (nl n t (nu n t 3 st).1 (ex n t 45 (nu n t 3 st).2)).1 ∧ (nl n t (nu n t 3 st).1 (ex n t 45 (nu n t 3 st).2)).1 < 1000 := by
      intro h1
      have k1 := nl_ok h1
      have k2 := ex_ok k1.1
      have k3 := nu_ok k2.1
      have k4 : (ex n t 45 (nu n t 3 st).2).2 = (nu n t 3 st).2.2 + 1 := by rw [k2.2]
      exact ⟨k3.1, by omega, k1.2.2.1, k1.2.2.2⟩
    by_cases e : (sk n t 58 (nl n t (nu n t 3 st).1 (ex n t 45 (nu n t 3 st).2)).2).1 = true
    · rw [if_pos e, if_pos e]
      rw [if_pos e] at h
      have s1 := sg_ok h
      have s2 := sk_t e
      have s3 := fin s2.1
      have s4 := sg_B (n := n) (t := t) (most := 2) (st := (sk n t 58 (nl n t (nu n t 3 st).1 (ex n t 45 (nu n t 3 st).2)).2).2)
      have s5 : (sk n t 58 (nl n t (nu n t 3 st).1 (ex n t 45 (nu n t 3 st).2)).2).2.2 = (nl n t (nu n t 3 st).1 (ex n t 45 (nu n t 3 st).2)).2.2 + 1 := by rw [s2.2]
      refine ⟨s3.1, by omega, by omega⟩
    · rw [if_neg e, if_neg e]
      rw [if_neg e] at h
      have s2 := sk_f e
      rw [s2] at h ⊢
      have s3 := fin h
      exact ⟨s3.1, s3.2.1, by omega⟩
  exact key _ _ _ rfl rfl rfl h
theorem prt_le {n : Nat} {t : Nat → Nat} {st : St} (h : st.2 ≤ n) : (prt n t st).2.2 ≤ n := by
  have h1 := sk_le (c := 58) (t := t) (by decide) (nl_le (t := t) (a := (nu n t 3 st).1) (ex_le (c := 45) (t := t) (by decide) (nu_le (t := t) (most := 3) h)))
  unfold prt
  show (if _ then _ else _ : St).2 ≤ n
  split
  · exact sg_le h1
  · exact h1
theorem prt_end {n : Nat} {t : Nat → Nat} : (prt n t (false, n)).2 = (true, n) := by
  have e0 : nf n t 3 n = 0 := by
    show (if fg n t n then _ else _) = 0
    rw [if_neg]
    intro z
    have := of_decide_eq_true z
    omega
  have e1 : nu n t 3 (false, n) = (0, (true, n)) := by
    unfold nu
    rw [if_neg Bool.false_ne_true, if_pos e0]
  unfold prt
  rw [e1]
  dsimp only
  rw [ex_b rfl, nl_b rfl, sk_b rfl]
  rfl
def sS (n : Nat) (t : Nat → Nat) : Nat → St
  | 0 => (false, 0)
  | j + 1 => (sk n t 59 (prt n t (sS n t j)).2).2
abbrev mor (n : Nat) (t : Nat → Nat) (j : Nat) : Bool := (sk n t 59 (prt n t (sS n t j)).2).1
theorem sS_le (n : Nat) (t : Nat → Nat) : ∀ j, (sS n t j).2 ≤ n
  | 0 => Nat.zero_le _
  | j + 1 => sk_le (by decide) (prt_le (sS_le n t j))
theorem sS_ok {n : Nat} {t : Nat → Nat} : ∀ {j : Nat}, (∀ i, i < j → mor n t i = true) → (sS n t j).1 = false ∧ 4 * j ≤ (sS n t j).2
  | 0, _ => ⟨rfl, Nat.le_refl _⟩
  | j + 1, h => by
    have ih := sS_ok (n := n) (t := t) (j := j) (fun i hi => h i (by omega))
    have k := sk_t (h j (by omega))
    have q := prt_ok k.1
    show ((sk n t 59 (prt n t (sS n t j)).2).2).1 = false ∧ _ ≤ ((sk n t 59 (prt n t (sS n t j)).2).2).2
    rw [k.2]
    refine ⟨rfl, ?_⟩
    show 4 * (j + 1) ≤ (prt n t (sS n t j)).2.2 + 1
    omega
theorem sS_stop {n : Nat} {t : Nat → Nat} (hn : n ≤ 80) : ∃ J, J ≤ 20 ∧ mor n t J = false ∧ ∀ i, i < J → mor n t i = true := by
  have ex' : ∃ i, i < 21 ∧ mor n t i = false := by
    apply Classical.byContradiction
    intro z
    have all : ∀ i, i < 21 → mor n t i = true := fun i hi => by
      cases c : mor n t i with
      | true => rfl
      | false => exact absurd ⟨i, hi, c⟩ z
    have := (sS_ok all).2
    have := sS_le n t 21
    omega
  obtain ⟨J, h1, h2, h3⟩ := fb_first ex'
  exact ⟨J, by omega, h2, fun i hi => by simpa using h3 i hi⟩
/-- nothing may be left -/
def eE (n : Nat) (st : St) : St := if st.1 then st else if st.2 < n then (true, st.2) else st
abbrev pLo (n : Nat) (t : Nat → Nat) (j : Nat) : Nat := (prt n t (sS n t j)).1.1
abbrev pHi (n : Nat) (t : Nat → Nat) (j : Nat) : Nat := (prt n t (sS n t j)).1.2.1
abbrev pWe (n : Nat) (t : Nat → Nat) (j : Nat) : Int := (prt n t (sS n t j)).1.2.2
section LD
variable {μ : sl_M} {s : SS} {Q : Int32 → sl_M → Prop} {P : sl_M → Prop} {n : Nat} {t : Nat → Nat} {st : St}
theorem tp_finish_s (tx : TX n t) (h : TC n t st μ) (hQ : ∀ m, Fr f43 μ m → m 43 1 = 0 → m 43 2 = 0 → m 43 3 = -1 → (eE n st).2 ≤ n → Q (if (eE n st).1 then nI (eE n st).2 else -1) m) : tp_finish μ Q := by
  have n80 := tx.1
  have i1 := h.1
  have K : ∀ m, Fr f43 μ m → TC n t (eE n st) m → ∀ v, v = m 43 3 → tp_empty m (fun m' => Q v m') := by
    rintro m hf hm v rfl
    refine tp_empty_s (fun m2 f2 z1 z2 z3 => ?_)
    rw [hm.2.2.2.2]
    exact hQ m2 (hf.tr f2) z1 z2 z3 hm.1
  unfold tp_finish
  refine ⟨fun z => tp_failh_s tx h (fun m hf hm => K m hf ?_), fun z => K μ Fr.rfl' ?_⟩
  · unfold eE
    rw [h.2.2.2.1, h.2.1] at z
    cases hb : st.1 with
    | true =>
      rw [hb, if_pos rfl, nI_ltI (by omega) (by omega)] at z
      omega
    | false =>
      rw [hb, if_neg (by decide), nI_ltI (by omega) (by omega)] at z
      rw [if_neg (by decide), if_pos z]
      exact hm
  · unfold eE
    rw [h.2.2.2.1, h.2.1] at z
    cases hb : st.1 with
    | true =>
      rw [if_pos rfl]
      exact h
    | false =>
      rw [hb, if_neg (by decide), nI_ltI (by omega) (by omega)] at z
      rw [if_neg (by decide), if_neg z]
      exact h
abbrev fA : Nat → Nat → Prop := fun o _ => o = 43 ∨ (50 ≤ o ∧ o ≤ 53)
def pD (n : Nat) (t : Nat → Nat) (k : Nat) (a b c : Nat) (m : sl_M) : Prop := ∀ i, i < k → m a i = nI (pLo n t i) ∧ m b i = nI (pHi n t i) ∧ m c i = i3 (pWe n t i)
theorem pD.fr {p : Nat → Nat → Prop} {k a b c : Nat} {m m' : sl_M} (h : pD n t k a b c m) (hf : Fr p m m') (hp : ∀ i, i < k → ¬ p a i ∧ ¬ p b i ∧ ¬ p c i) : pD n t k a b c m' := fun i hi => by
  have q := hp i hi
  rw [hf _ _ q.1, hf _ _ q.2.1, hf _ _ q.2.2]
  exact h i hi
theorem pa_readFrom_s (tx : TX n t) (h : TC n t (false, 0) μ) {J : Nat} (hJ : J ≤ 20) (j1 : mor n t J = false) (j2 : ∀ i, i < J → mor n t i = true) (hP : ∀ m, Fr fA μ m → TC n t (prt n t (sS n t J)).2 m → ((prt n t (sS n t J)).2.1 = false → J < 20 ∧ m 50 3 = nI (J + 1) ∧ pD n t (J + 1) 51 52 53 m) → P m) : pa_readFrom μ P := by
  have n80 := tx.1
  rintro m20 rfl
  have hlt : ∀ k, k < 21 → ((nI k < 20) ↔ k < 20) := fun k hk => nI_ltI (b := 20) (by omega) (by omega)
  refine lq3 (fun k x2 x3 m => pa_readFrom_L9 P k x2 x3 m) (fun k x2 x3 m => x3 = nI k ∧ Fr fA μ m ∧ ((k ≤ J ∧ x2 = 1 ∧ TC n t (sS n t k) m ∧ m 50 3 = nI k ∧ pD n t k 51 52 53 m) ∨ (k = J + 1 ∧ x2 = 0 ∧ TC n t (prt n t (sS n t J)).2 m ∧ m 50 3 = nI (J + 1) ∧ pD n t (J + 1) 51 52 53 m))) 20 _ _ _ ⟨rfl, Fr.rfl'.up (by omega), Or.inl ⟨by omega, rfl, h.fr (p := fun o _ => o = 50) (Fr.rfl'.up rfl) (fun o k z => by omega), pl_up_s, fun i hi => absurd hi (by omega)⟩⟩ ?_ ?_
  · rintro k x2 x3 m ⟨rfl, hf, hh⟩
    refine ⟨fun z => absurd z (by decide), fun _ => ?_⟩
    rcases hh with ⟨k1, rfl, k3, k4, k5⟩ | ⟨k1, rfl, k3, k4, k5⟩
    · obtain rfl : J = 20 := by omega
      have so := sS_ok j2
      have sl := sS_le n t 20
      have n0 : n = 80 := by omega
      have e80 : sS n t 20 = (false, n) := Prod.ext so.1 (show (sS n t 20).2 = n by omega)
      have ef : (prt n t (sS n t 20)).2 = (true, n) := by rw [e80]; exact prt_end
      refine ⟨fun z => absurd z (by decide), fun _ => tp_failh_s tx k3 (fun m2 f2 h2 => hP m2 (hf.tr (f2.mono (fun o k z => by omega))) ?_ (fun z => ?_))⟩
      · rw [ef]
        rw [show (sS n t 20).2 = n by omega] at h2
        exact h2
      · rw [ef] at z
        have z' : true = false := z
        exact Bool.noConfusion z'
    · exact ⟨fun _ => hP m hf k3 (fun _ => ⟨by omega, k4, k5⟩), fun z => absurd rfl z⟩
  · rintro k' k x2 x3 m hk ⟨rfl, hf, hh⟩ ih
    have kin : vp_in (nI k) 20 := vp_in_nI hk (by decide)
    have kcl : (nI k).toNatClampNeg = k := nI_clamp (by omega)
    refine ⟨fun _ => ?_, fun z => absurd ((hlt k (by omega)).mpr hk) z⟩
    rcases hh with ⟨k1, rfl, k3, k4, k5⟩ | ⟨k1, rfl, k3, k4, k5⟩
    · refine ⟨fun z => absurd z (by decide), fun _ => ?_⟩
      -- the tail: count, and whether more comes
      have tail : ∀ m', Fr fA m m' → TC n t (prt n t (sS n t k)).2 m' → m' 50 3 = nI k → pD n t (k + 1) 51 52 53 m' → pa_readFrom_B76 P (pa_readFrom_L9 P k') (nI k) m' := by
        intro m' f' h' c' d'
        rintro m14 rfl
        rw [c', pl_inc]
        have h14 : TC n t (prt n t (sS n t k)).2 (sl_up m' 50 3 (nI (k + 1))) := h'.fr (p := fun o _ => o = 50) (Fr.rfl'.up rfl) (fun o k z => by omega)
        refine tp_skip_s tx h14 (by decide) (fun m15 f15 h15 => ?_)
        have hd : pD n t (k + 1) 51 52 53 m15 := (d'.fr (p := fun o _ => o = 50) (Fr.rfl'.up rfl) (fun i _ => by omega)).fr f15 (fun i _ => by omega)
        have hc : m15 50 3 = nI (k + 1) := by rw [f15 _ _ (by omega), pl_up_s]
        have hF : Fr fA μ m15 := ((hf.tr f').tr (Fr.rfl'.up (by omega))).tr (f15.mono (fun o k z => by omega))
        refine ih _ _ _ ⟨rfl, hF, ?_⟩
        by_cases e : k = J
        · subst e
          refine Or.inr ⟨rfl, ?_, ?_, hc, hd⟩
          · show pl_b (mor n t k = true) = 0
            rw [j1]
            rfl
          · have q := sk_f (n := n) (t := t) (c := 59) (st := (prt n t (sS n t k)).2) (by show ¬ mor n t k = true; rw [j1]; decide)
            rw [q] at h15
            exact h15
        · refine Or.inl ⟨by omega, ?_, h15, hc, hd⟩
          show pl_b (mor n t k = true) = 1
          rw [j2 k (by omega)]
          rfl
      refine tp_readNumber_s (most := 3) tx k3 (by omega) (by omega) (fun m1 f1 h1 => ⟨kin, ?_⟩)
      rintro m3 rfl
      rw [kcl]
      have h3 : TC n t (nu n t 3 (sS n t k)).2 (sl_up m1 51 k (nI (nu n t 3 (sS n t k)).1)) := h1.fr (p := fun o _ => o = 51) (Fr.rfl'.up rfl) (fun o k z => by omega)
      refine tp_expect_s tx h3 (by decide) (fun m4 f4 h4 => ⟨kin, ?_⟩)
      have c51 : m4 51 k = nI (nu n t 3 (sS n t k)).1 := by rw [f4 _ _ (by omega), pl_up_s]
      have b3 := nu_lt (n := n) (t := t) (most := 3) (st := sS n t k)
      rw [c51]
      refine tp_readNotLess_s tx h4 (by omega) (fun m5 f5 h5 => ⟨kin, ?_⟩)
      rintro m7 rfl
      have h7 := h5.fr (p := fun o _ => o = 52) (m := sl_up m5 52 k (nI (nl n t (nu n t 3 (sS n t k)).1 (ex n t 45 (nu n t 3 (sS n t k)).2)).1)) (Fr.rfl'.up rfl) (fun o k z => by omega)
      have F7 : Fr fA m (sl_up m5 52 k (nI (nl n t (nu n t 3 (sS n t k)).1 (ex n t 45 (nu n t 3 (sS n t k)).2)).1)) := ((((f1.mono (fun o k z => by omega)).up (by omega)).tr (f4.mono (fun o k z => by omega))).tr (f5.mono (fun o k z => by omega))).up (by omega)
      have G7 : Fr (fun o j => o = 43 ∨ (o = 51 ∧ j = k) ∨ (o = 52 ∧ j = k)) m (sl_up m5 52 k (nI (nl n t (nu n t 3 (sS n t k)).1 (ex n t 45 (nu n t 3 (sS n t k)).2)).1)) := ((((f1.mono (fun o k z => by omega)).up (by omega)).tr (f4.mono (fun o k z => by omega))).tr (f5.mono (fun o k z => by omega))).up (by omega)
      have c7 : ∀ m', Fr f43 (sl_up m5 52 k (nI (nl n t (nu n t 3 (sS n t k)).1 (ex n t 45 (nu n t 3 (sS n t k)).2)).1)) m' → m' 51 k = nI (pLo n t k) ∧ m' 52 k = nI (pHi n t k) ∧ m' 50 3 = nI k ∧ pD n t k 51 52 53 m' := by
        intro m' f'
        refine ⟨?_, ?_, ?_, ?_⟩
        · rw [f' _ _ (by omega), pl_up_o (by omega), f5 _ _ (by omega)]
          exact c51
        · rw [f' _ _ (by omega), pl_up_s]
          rfl
        · rw [f' _ _ (by omega), G7 _ _ (by omega)]
          exact k4
        · exact (k5.fr G7 (fun i hi => by omega)).fr f' (fun i hi => by omega)
      have last : ∀ m' (w : Int32), Fr f43 (sl_up m5 52 k (nI (nl n t (nu n t 3 (sS n t k)).1 (ex n t 45 (nu n t 3 (sS n t k)).2)).1)) m' → TC n t (prt n t (sS n t k)).2 m' → w = i3 (pWe n t k) → pa_readFrom_B76 P (pa_readFrom_L9 P k') (nI k) (sl_up m' 53 k w) := by
        intro m' w f' h' ew
        obtain ⟨q1, q2, q3, q4⟩ := c7 m' f'
        refine tail _ ((F7.tr (f'.mono (fun o k z => by omega))).up (by omega)) (h'.fr (p := fun o _ => o = 53) (Fr.rfl'.up rfl) (fun o k z => by omega)) (by rw [pl_up_o (by omega)]; exact q3) (fun i hi => ?_)
        by_cases e : i = k
        · subst e
          rw [pl_up_o (by omega), pl_up_o (by omega), pl_up_s]
          exact ⟨q1, q2, ew⟩
        · rw [pl_up_o (by omega), pl_up_o (by omega), pl_up_k e]
          exact q4 i (by omega)
      refine tp_skip_s tx h7 (by decide) (fun m8 f8 h8 => pl_bb (fun z => ⟨kin, ?_⟩) (fun z => ?_))
      · rintro m10 rfl
        refine last m8 1 f8 ?_ ?_
        · unfold prt
          show TC n t (if _ then _ else _) m8
          rw [if_neg z]
          exact h8
        · show 1 = i3 (if _ then _ else _)
          rw [if_neg z]
          rfl
      · refine tp_readSigned_s (most := 2) tx h8 (by omega) (by omega) (fun m11 f11 h11 => ⟨kin, ?_⟩)
        rintro m13 rfl
        refine last m11 _ (f8.tr f11) ?_ ?_
        · unfold prt
          show TC n t (if _ then _ else _) m11
          rw [if_pos z]
          exact h11
        · show _ = i3 (if _ then _ else _)
          rw [if_pos z]
    · exact ⟨fun _ => ⟨fun _ => hP m hf k3 (fun _ => ⟨by omega, k4, k5⟩), fun z => absurd rfl z⟩, fun z => absurd rfl z⟩
end LD
