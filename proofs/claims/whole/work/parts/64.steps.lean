/-! change: reading the steps -/
/-- one step: which, its numbers, where the reader stands -/
def sTp (n : Nat) (t : Nat → Nat) (st : St) : (Int32 × Int × Nat) × St :=
  if (wd n t 1 st).1 = 0 then ((0, (sg n t 3 (ex n t 32 (wd n t 1 st).2)).1, 0), (sg n t 3 (ex n t 32 (wd n t 1 st).2)).2)
  else if (wd n t 1 st).1 = 1 ∨ (wd n t 1 st).1 = 4 then (((wd n t 1 st).1, ((nu n t 3 (ex n t 32 (wd n t 1 st).2)).1 : Int), 0), (nu n t 3 (ex n t 32 (wd n t 1 st).2)).2)
  else if (wd n t 1 st).1 = 2 then ((2, ((nu n t 3 (ex n t 32 (wd n t 1 st).2)).1 : Int), (nl n t (nu n t 3 (ex n t 32 (wd n t 1 st).2)).1 (ex n t 45 (nu n t 3 (ex n t 32 (wd n t 1 st).2)).2)).1), (nl n t (nu n t 3 (ex n t 32 (wd n t 1 st).2)).1 (ex n t 45 (nu n t 3 (ex n t 32 (wd n t 1 st).2)).2)).2)
  else (((wd n t 1 st).1, 0, 0), (wd n t 1 st).2)
def sT (n : Nat) (t : Nat → Nat) : Nat → St
  | 0 => (false, 0)
  | j + 1 => (sk n t 59 (sTp n t (sT n t j)).2).2
abbrev mot (n : Nat) (t : Nat → Nat) (j : Nat) : Bool := (sk n t 59 (sTp n t (sT n t j)).2).1
abbrev sw (n : Nat) (t : Nat → Nat) (j : Nat) : Int32 := (sTp n t (sT n t j)).1.1
abbrev sa (n : Nat) (t : Nat → Nat) (j : Nat) : Int := (sTp n t (sT n t j)).1.2.1
abbrev sb (n : Nat) (t : Nat → Nat) (j : Nat) : Nat := (sTp n t (sT n t j)).1.2.2
def one (x : Int32 × Int × Nat) (k c1 c2 c3 : Nat) (m : sl_M) : Prop := m c1 k = x.1 ∧ (x.1 = 0 ∨ x.1 = 1 ∨ x.1 = 2 ∨ x.1 = 4 → m c2 k = i3 x.2.1) ∧ (x.1 = 2 → m c3 k = nI x.2.2)
def dD (n : Nat) (t : Nat → Nat) (k c1 c2 c3 : Nat) (m : sl_M) : Prop := ∀ i, i < k → one (sTp n t (sT n t i)).1 i c1 c2 c3 m
theorem one.fr {p : Nat → Nat → Prop} {x : Int32 × Int × Nat} {k a b c : Nat} {m m' : sl_M} (h : one x k a b c m) (hf : Fr p m m') (hp : ¬ p a k ∧ ¬ p b k ∧ ¬ p c k) : one x k a b c m' := by
  unfold one at *
  rw [hf _ _ hp.1, hf _ _ hp.2.1, hf _ _ hp.2.2]
  exact h
theorem dD.fr {n : Nat} {t : Nat → Nat} {p : Nat → Nat → Prop} {k a b c : Nat} {m m' : sl_M} (h : dD n t k a b c m) (hf : Fr p m m') (hp : ∀ i, i < k → ¬ p a i ∧ ¬ p b i ∧ ¬ p c i) : dD n t k a b c m' := fun i hi => (h i hi).fr hf (hp i hi)
theorem wix_in {n : Nat} {t : Nat → Nat} {o f e : Nat} : wix n t o f e = 0 ∨ wix n t o f e = 1 ∨ wix n t o f e = 2 ∨ wix n t o f e = 3 ∨ wix n t o f e = 4 ∨ wix n t o f e = 5 ∨ wix n t o f e = -1 := by
  unfold wix
  split
  · simp
  · split
    · simp
    · split
      · simp
      · split
        · simp
        · split
          · simp
          · split <;> simp
theorem wd_in {n : Nat} {t : Nat → Nat} {o : Nat} {st : St} : (wd n t o st).1 = 0 ∨ (wd n t o st).1 = 1 ∨ (wd n t o st).1 = 2 ∨ (wd n t o st).1 = 3 ∨ (wd n t o st).1 = 4 ∨ (wd n t o st).1 = 5 ∨ (wd n t o st).1 = -1 := by
  unfold wd
  split
  · simp
  · exact wix_in (n := n)
theorem wd_le {n : Nat} {t : Nat → Nat} {o : Nat} {st : St} (tx : TX n t) (h : st.2 ≤ n) : (wd n t o st).2.2 ≤ n := by
  have := wr_le tx h
  unfold wd
  split
  · exact h
  · show (if _ then _ else _ : St).2 ≤ n
    split
    · exact h
    · exact this
theorem wd_bad {n : Nat} {t : Nat → Nat} {o : Nat} {st : St} (h : (wd n t o st).1 = -1) : (wd n t o st).2.1 = true := by
  unfold wd at h ⊢
  by_cases c : st.1 = true
  · rw [if_pos c]
    exact c
  · rw [if_neg c] at h ⊢
    show (if _ then _ else _ : St).1 = true
    rw [if_pos h]
theorem stp_le {n : Nat} {t : Nat → Nat} {st : St} (tx : TX n t) (h : st.2 ≤ n) : (sTp n t st).2.2 ≤ n := by
  have h1 := wd_le (o := 1) tx h
  have h2 := ex_le (t := t) (c := 32) (by decide) h1
  unfold sTp
  split
  · exact sg_le h2
  · split
    · exact nu_le h2
    · split
      · exact nl_le (ex_le (by decide) (nu_le h2))
      · exact h1
theorem sT_le {n : Nat} {t : Nat → Nat} (tx : TX n t) : ∀ j, (sT n t j).2 ≤ n
  | 0 => Nat.zero_le _
  | j + 1 => sk_le (by decide) (stp_le tx (sT_le tx j))
theorem sT_stop (n : Nat) (t : Nat → Nat) : ∃ J, J ≤ 4 ∧ (J = 4 ∨ mot n t J = false) ∧ ∀ i, i < J → mot n t i = true := by
  by_cases h : ∃ i, i < 4 ∧ mot n t i = false
  · obtain ⟨J, h1, h2, h3⟩ := fb_first h
    exact ⟨J, by omega, Or.inr h2, fun i hi => by simpa using h3 i hi⟩
  · exact ⟨4, Nat.le_refl _, Or.inl rfl, fun i hi => by
      cases c : mot n t i with
      | true => rfl
      | false => exact absurd ⟨i, hi, c⟩ h⟩
abbrev fD (k : Nat) : Nat → Nat → Prop := fun o j => o = 43 ∨ (47 ≤ o ∧ o ≤ 49 ∧ j = k)
abbrev fE (k : Nat) : Nat → Nat → Prop := fun o j => (o = 104 ∧ (j = 21 ∨ j = 22)) ∨ (128 ≤ o ∧ o ≤ 130 ∧ j = k)
section SE
variable {μ : sl_M} {Q : Int32 → sl_M → Prop} {P : sl_M → Prop} {n : Nat} {t : Nat → Nat} {st : St}
theorem ch_readStep_s (tx : TX n t) (h : TC n t st μ) {k : Nat} (hk : k < 5) (hP : ∀ m, Fr (fD k) μ m → TC n t (sTp n t st).2 m → one (sTp n t st).1 k 47 48 49 m → P m) : ch_readStep (nI k) μ P := by
  have kin : vp_in (nI k) 5 := vp_in_nI hk (by decide)
  have kcl : (nI k).toNatClampNeg = k := nI_clamp (by omega)
  unfold ch_readStep
  refine tp_readOneOf_s tx h (by omega) (fun m1 f1 h1 => ⟨kin, ?_⟩)
  rintro m3 rfl
  rw [kcl, pl_up_s]
  have h3 := h1.fr (p := fun o _ => o = 47) (m := sl_up m1 47 k (wd n t 1 st).1) (Fr.rfl'.up rfl) (fun o k z => by omega)
  have F3 : Fr (fD k) μ (sl_up m1 47 k (wd n t 1 st).1) := (f1.mono (fun o k z => by omega)).up (by omega)
  have c47 : sl_up m1 47 k (wd n t 1 st).1 47 k = (wd n t 1 st).1 := pl_up_s
  generalize sl_up m1 47 k (wd n t 1 st).1 = m3 at *
  -- where one number follows
  have num : ∀ K : Int32 → sl_M → Prop, (∀ m, Fr f43 m3 m → TC n t (nu n t 3 (ex n t 32 (wd n t 1 st).2)).2 m → K (nI (nu n t 3 (ex n t 32 (wd n t 1 st).2)).1) m) → tp_expect 32 m3 (fun m4 => tp_readNumber 3 m4 K) := fun K hK => tp_expect_s tx h3 (by decide) (fun m4 f4 h4 => tp_readNumber_s (most := 3) tx h4 (by omega) (by omega) (fun m5 f5 h5 => hK m5 (f4.tr f5) h5))
  have plain : ((wd n t 1 st).1 = 1 ∨ (wd n t 1 st).1 = 4) → tp_expect 32 m3 (fun m4 => tp_readNumber 3 m4 (fun r10 m9 => vp_in (nI k) 5 ∧ ∀ m11, m11 = sl_up m9 48 k r10 → P m11)) := by
    intro e
    have e0 : ¬ (wd n t 1 st).1 = 0 := by rcases e with e | e <;> (rw [e]; decide)
    refine num _ (fun m9 f9 h9 => ⟨kin, ?_⟩)
    rintro m11 rfl
    unfold sTp at hP
    rw [if_neg e0, if_pos e] at hP
    refine hP _ ((F3.tr (f9.mono (fun o k z => by omega))).up (by omega)) (h9.fr (p := fun o _ => o = 48) (Fr.rfl'.up rfl) (fun o k z => by omega)) ⟨?_, fun _ => ?_, fun z => ?_⟩
    · rw [pl_up_o (by omega), f9 _ _ (by omega)]
      exact c47
    · rw [pl_up_s, i3_n]
    · exact absurd z (by rcases e with e | e <;> (show ¬ (wd n t 1 st).1 = 2; rw [e]; decide))
  have none' : ((wd n t 1 st).1 = 3 ∨ (wd n t 1 st).1 = 5 ∨ (wd n t 1 st).1 = -1) → P m3 := by
    intro e
    have e0 : ¬ (wd n t 1 st).1 = 0 ∧ ¬ ((wd n t 1 st).1 = 1 ∨ (wd n t 1 st).1 = 4) ∧ ¬ (wd n t 1 st).1 = 2 := by rcases e with e | e | e <;> (rw [e]; decide)
    unfold sTp at hP
    rw [if_neg e0.1, if_neg e0.2.1, if_neg e0.2.2] at hP
    exact hP m3 F3 h3 ⟨c47, fun z => absurd z (by have q := e0; show ¬ ((wd n t 1 st).1 = 0 ∨ (wd n t 1 st).1 = 1 ∨ (wd n t 1 st).1 = 2 ∨ (wd n t 1 st).1 = 4); rintro (y | y | y | y); exact q.1 y; exact q.2.1 (Or.inl y); exact q.2.2 y; exact q.2.1 (Or.inr y)), fun z => absurd z e0.2.2⟩
  refine ⟨kin, ?_⟩
  refine ⟨fun e => ?_, fun e0 => ⟨fun e => plain (Or.inl e), fun e1 => ⟨fun e => ?_, fun e2 => ⟨fun e => none' (Or.inl e), fun e3 => ⟨fun e => plain (Or.inr e), fun e4 => none' ?_⟩⟩⟩⟩⟩
  · unfold sTp at hP
    rw [if_pos e] at hP
    refine tp_expect_s tx h3 (by decide) (fun m4 f4 h4 => tp_readSigned_s (most := 3) tx h4 (by omega) (by omega) (fun m5 f5 h5 => ⟨kin, ?_⟩))
    rintro m7 rfl
    have F5 := f4.tr f5
    refine hP _ ((F3.tr (F5.mono (fun o k z => by omega))).up (by omega)) (h5.fr (p := fun o _ => o = 48) (Fr.rfl'.up rfl) (fun o k z => by omega)) ⟨?_, fun _ => pl_up_s, fun z => absurd z (by show ¬ (0 : Int32) = 2; decide)⟩
    rw [pl_up_o (by omega), F5 _ _ (by omega), c47, e]
  · have e14 : ¬ ((wd n t 1 st).1 = 1 ∨ (wd n t 1 st).1 = 4) := by rw [e]; decide
    have b3 := nu_lt (n := n) (t := t) (most := 3) (st := ex n t 32 (wd n t 1 st).2)
    unfold sTp at hP
    rw [if_neg e0, if_neg e14, if_pos e] at hP
    refine num _ (fun m13 f13 h13 => ⟨kin, ?_⟩)
    rintro m15 rfl
    refine tp_expect_s tx (h13.fr (p := fun o _ => o = 48) (Fr.rfl'.up rfl) (fun o k z => by omega)) (by decide) (fun m16 f16 h16 => ⟨kin, ?_⟩)
    have c48 : m16 48 k = nI (nu n t 3 (ex n t 32 (wd n t 1 st).2)).1 := by rw [f16 _ _ (by omega), pl_up_s]
    rw [c48]
    refine tp_readNotLess_s tx h16 (by omega) (fun m17 f17 h17 => ⟨kin, ?_⟩)
    rintro m19 rfl
    refine hP _ (((((F3.tr (f13.mono (fun o k z => by omega))).up (by omega)).tr (f16.mono (fun o k z => by omega))).tr (f17.mono (fun o k z => by omega))).up (by omega)) (h17.fr (p := fun o _ => o = 49) (Fr.rfl'.up rfl) (fun o k z => by omega)) ⟨?_, fun _ => ?_, fun _ => pl_up_s⟩
    · rw [pl_up_o (by omega), f17 _ _ (by omega), f16 _ _ (by omega), pl_up_o (by omega), f13 _ _ (by omega), c47, e]
    · rw [pl_up_o (by omega), f17 _ _ (by omega), c48, i3_n]
  · rcases wd_in (n := n) (t := t) (o := 1) (st := st) with q | q | q | q | q | q | q
    · exact absurd q e0
    · exact absurd q e1
    · exact absurd q e2
    · exact absurd q e3
    · exact absurd q e4
    · exact Or.inr (Or.inl q)
    · exact Or.inr (Or.inr q)
theorem mo_readStep_s (tx : TX n t) {i : Nat} (h : TM n t (false, i) μ) {k : Nat} (hk : k < 5) (e32 : μ 104 32 = nI k) (hP : ∀ m, Fr (fun o j => fE k o j ∨ (o = 104 ∧ j = 32)) μ m → TM n t (sTp n t (false, i)).2 m → ((sTp n t (false, i)).2.1 = false → m 104 32 = nI (k + 1) ∧ one (sTp n t (false, i)).1 k 128 129 130 m) → P m) : mo_readStep μ P := by
  have kin : vp_in (nI k) 5 := vp_in_nI hk (by decide)
  have kcl : (nI k).toNatClampNeg = k := nI_clamp (by omega)
  have ew : wd n t 1 (false, i) = (wix n t 1 i (i + wr n t 80 i), if wix n t 1 i (i + wr n t 80 i) = -1 then (true, i) else (false, i + wr n t 80 i)) := rfl
  unfold mo_readStep
  refine mo_stepWordHere_s tx h ?_
  by_cases c : wix n t 1 i (i + wr n t 80 i) = -1
  · rw [c]
    refine ⟨fun _ => ⟨rfl, ?_⟩, fun z => absurd (by decide) z⟩
    rintro m22 rfl
    have es : (sTp n t (false, i)).2 = (true, i) := by
      unfold sTp
      rw [ew, c]
      rfl
    refine ⟨fun z => ?_, fun _ => hP _ (Fr.rfl'.up (by omega)) ?_ (fun z => ?_)⟩
    · rw [pl_up_s] at z
      exact absurd z (by decide)
    · rw [es]
      exact h.set (Fr.rfl'.up (by omega)) h.1 (by rw [pl_up_k (by omega)]; exact h.2.2.2.1) (by rw [pl_up_s]; rfl)
    · rw [es] at z
      exact Bool.noConfusion z
  · have hw0 : ¬ wix n t 1 i (i + wr n t 80 i) < 0 := by
      rcases wix_in (n := n) (t := t) (o := 1) (f := i) (e := i + wr n t 80 i) with q | q | q | q | q | q | q
      · rw [q]; decide
      · rw [q]; decide
      · rw [q]; decide
      · rw [q]; decide
      · rw [q]; decide
      · rw [q]; decide
      · exact absurd q c
    have ew2 : wd n t 1 (false, i) = (wix n t 1 i (i + wr n t 80 i), (false, i + wr n t 80 i)) := by rw [ew, if_neg c]
    have hin := wix_in (n := n) (t := t) (o := 1) (f := i) (e := i + wr n t 80 i)
    unfold sTp at hP
    rw [ew2] at hP
    dsimp only at hP
    generalize wix n t 1 i (i + wr n t 80 i) = w at *
    refine ⟨fun z => absurd z hw0, fun _ => ⟨rfl, ?_⟩⟩
    rintro m23 rfl
    have h23 : TM n t (false, i) (sl_up μ 104 22 0) := h.set (Fr.rfl'.up (by omega)) h.1 (by rw [pl_up_k (by omega)]; exact h.2.2.2.1) (by rw [pl_up_s]; rfl)
    refine ⟨fun _ => ?_, fun z => absurd (by rw [pl_up_s]; rfl) z⟩
    refine mo_passWord_s tx h23 (fun m1 f1 h1 => ?_)
    have c1 : m1 104 32 = nI k := by rw [f1 _ _ (by omega), pl_up_k (by omega)]; exact e32
    rw [c1, kcl]
    refine ⟨kin, ?_⟩
    rintro m2 rfl
    rw [pl_up_o (by omega), c1, kcl]
    refine ⟨kin, ?_⟩
    rintro m3 rfl
    rw [pl_up_o (by omega), pl_up_o (by omega), c1, kcl]
    refine ⟨kin, ?_⟩
    rintro m4 rfl
    have F4 : Fr (fun o j => fE k o j ∨ (o = 104 ∧ j = 32)) μ (sl_up (sl_up (sl_up m1 128 k w) 129 k 0) 130 k 0) := (((((Fr.rfl'.up (by omega)).tr (f1.mono (fun o k z => by omega))).up (by omega)).up (by omega)).up (by omega))
    have h4 : TM n t (false, i + wr n t 80 i) (sl_up (sl_up (sl_up m1 128 k w) 129 k 0) 130 k 0) := h1.fr (p := fun o _ => 128 ≤ o ∧ o ≤ 130) (((Fr.rfl'.up (by omega)).up (by omega)).up (by omega)) (fun o k z => by omega)
    have d4 : sl_up (sl_up (sl_up m1 128 k w) 129 k 0) 130 k 0 104 32 = nI k ∧ sl_up (sl_up (sl_up m1 128 k w) 129 k 0) 130 k 0 128 k = w := ⟨by simp [pl_up]; exact c1, by simp [pl_up]⟩
    generalize sl_up (sl_up (sl_up m1 128 k w) 129 k 0) 130 k 0 = m4 at *
    -- the end of a step
    have last : ∀ m, m 104 32 = nI k → (∀ m', m' = sl_up m 104 32 (nI (k + 1)) → P m') → ∀ m19, m19 = sl_up m 104 32 (m 104 32 + 1) → P m19 := by
      rintro m e g m19 rfl
      rw [e, pl_inc]
      exact g _ rfl
    have b102n : ¬ w = 2 → ∀ m, Fr (fun o j => fE k o j ∨ (o = 104 ∧ j = 32)) μ m → m 104 32 = nI k → (∀ m', m' = sl_up m 104 32 (nI (k + 1)) → P m') → mo_readStep_B102 P w m := fun e2 m f e g => ⟨fun z => absurd z e2, fun _ => last m e g⟩
    have none' : (w = 3 ∨ w = 5) → mo_readStep_B102 P w m4 := by
      intro e
      have q : ¬ w = 0 ∧ ¬ (w = 1 ∨ w = 4) ∧ ¬ w = 2 := by rcases e with e | e <;> (rw [e]; decide)
      rw [if_neg q.1, if_neg q.2.1, if_neg q.2.2] at hP
      refine b102n q.2.2 m4 F4 d4.1 ?_
      rintro m' rfl
      refine hP _ (F4.up (by omega)) (h4.fr (p := fun o j => o = 104 ∧ j = 32) (Fr.rfl'.up (by omega)) (fun o k z => by omega)) (fun _ => ⟨pl_up_s, ?_, fun z => absurd z ?_, fun z => absurd z q.2.2⟩)
      · rw [pl_up_o (by omega)]
        exact d4.2
      · show ¬ (w = 0 ∨ w = 1 ∨ w = 2 ∨ w = 4)
        rintro (y | y | y | y)
        · exact q.1 y
        · exact q.2.1 (Or.inl y)
        · exact q.2.2 y
        · exact q.2.1 (Or.inr y)
    refine ⟨fun e => none' (Or.inl e), fun e3 => ⟨fun e => none' (Or.inr e), fun e5 => ?_⟩⟩
    refine mo_wants_s tx h4 (by decide) (fun m5 f5 h5 => ⟨fun e => ?_, fun e0 => ?_⟩)
    all_goals
      have c5 : m5 104 32 = nI k := by rw [f5 _ _ (by omega)]; exact d4.1
      rw [c5, kcl]
    · subst e
      rw [if_pos rfl] at hP
      refine mo_readSigned_s (most := 3) tx h5 (by omega) (by omega) (fun m6 f6 h6 => ⟨kin, ?_⟩)
      rintro m8 rfl
      have F6 := f5.tr f6
      refine b102n (by decide) _ ((F4.tr (F6.mono (fun o k z => by omega))).up (by omega)) (by rw [pl_up_o (by omega), F6 _ _ (by omega)]; exact d4.1) ?_
      rintro m' rfl
      refine hP _ (((F4.tr (F6.mono (fun o k z => by omega))).up (by omega)).up (by omega)) (h6.fr (p := fun o j => (o = 104 ∧ j = 32) ∨ o = 129) ((Fr.rfl'.up (by omega)).up (by omega)) (fun o k z => by omega)) (fun _ => ⟨pl_up_s, ?_, fun _ => ?_, fun z => absurd z (by show ¬ (0 : Int32) = 2; decide)⟩)
      · rw [pl_up_o (by omega), pl_up_o (by omega), F6 _ _ (by omega)]
        exact d4.2
      · rw [pl_up_o (by omega), pl_up_s]
    · rw [if_neg e0] at hP
      refine mo_readFigures_s (most := 3) tx h5 (by omega) (by omega) (fun m9 f9 h9 => ⟨kin, ?_⟩)
      rintro m11 rfl
      have F9 := f5.tr f9
      have F11 : Fr (fun o j => fE k o j ∨ (o = 104 ∧ j = 32)) μ (sl_up m9 129 k (nI (nu n t 3 (ex n t 32 (false, i + wr n t 80 i))).1)) := (F4.tr (F9.mono (fun o k z => by omega))).up (by omega)
      have c11 : sl_up m9 129 k (nI (nu n t 3 (ex n t 32 (false, i + wr n t 80 i))).1) 104 32 = nI k := by rw [pl_up_o (by omega), F9 _ _ (by omega)]; exact d4.1
      have w11 : sl_up m9 129 k (nI (nu n t 3 (ex n t 32 (false, i + wr n t 80 i))).1) 128 k = w := by rw [pl_up_o (by omega), F9 _ _ (by omega)]; exact d4.2
      have a11 : sl_up m9 129 k (nI (nu n t 3 (ex n t 32 (false, i + wr n t 80 i))).1) 129 k = nI (nu n t 3 (ex n t 32 (false, i + wr n t 80 i))).1 := pl_up_s
      have h11 := h9.fr (p := fun o _ => o = 129) (m := sl_up m9 129 k (nI (nu n t 3 (ex n t 32 (false, i + wr n t 80 i))).1)) (Fr.rfl'.up rfl) (fun o k z => by omega)
      have b3 := nu_lt (n := n) (t := t) (most := 3) (st := ex n t 32 (false, i + wr n t 80 i))
      generalize sl_up m9 129 k (nI (nu n t 3 (ex n t 32 (false, i + wr n t 80 i))).1) = m11 at *
      by_cases e2 : w = 2
      · subst e2
        rw [if_neg (by decide), if_pos rfl] at hP
        refine ⟨fun _ => mo_wants_s tx h11 (by decide) (fun m12 f12 h12 => ?_), fun z => absurd rfl z⟩
        have c12 : m12 104 32 = nI k := by rw [f12 _ _ (by omega)]; exact c11
        have a12 : m12 129 k = nI (nu n t 3 (ex n t 32 (false, i + wr n t 80 i))).1 := by rw [f12 _ _ (by omega)]; exact a11
        have w12 : m12 128 k = 2 := by rw [f12 _ _ (by omega)]; exact w11
        have F12 := F11.tr (f12.mono (fun o j z => show fE k o j ∨ (o = 104 ∧ j = 32) by omega))
        rw [c12, kcl, a12, h12.2.2.2.2, pl_bz]
        refine pl_bb (fun z => ⟨kin, ?_⟩) (fun z => ⟨kin, ?_⟩)
        · refine mo_readNotLess_s tx h12 (by omega) (fun m13 f13 h13 => ⟨kin, ?_⟩)
          rintro m15 rfl
          refine last _ (by rw [pl_up_o (by omega), f13 _ _ (by omega)]; exact c12) ?_
          rintro m' rfl
          refine hP _ (((F12.tr (f13.mono (fun o k z => by omega))).up (by omega)).up (by omega)) (h13.fr (p := fun o j => (o = 104 ∧ j = 32) ∨ o = 130) ((Fr.rfl'.up (by omega)).up (by omega)) (fun o k z => by omega)) (fun _ => ⟨pl_up_s, ?_, fun _ => ?_, fun _ => ?_⟩)
          · rw [pl_up_o (by omega), pl_up_o (by omega), f13 _ _ (by omega)]
            exact w12
          · rw [pl_up_o (by omega), pl_up_o (by omega), f13 _ _ (by omega), a12, i3_n]
          · rw [pl_up_o (by omega), pl_up_s]
        · rintro m17 rfl
          have eb := nl_b (n := n) (t := t) (a := (nu n t 3 (ex n t 32 (false, i + wr n t 80 i))).1) z
          refine last _ (by rw [pl_up_o (by omega)]; exact c12) ?_
          rintro m' rfl
          rw [eb] at hP
          refine hP _ ((F12.up (by omega)).up (by omega)) (h12.fr (p := fun o j => (o = 104 ∧ j = 32) ∨ o = 130) ((Fr.rfl'.up (by omega)).up (by omega)) (fun o k z => by omega)) (fun y => ?_)
          rw [z] at y
          exact Bool.noConfusion y
      · have e14 : w = 1 ∨ w = 4 := by
          rcases hin with q | q | q | q | q | q | q
          · exact absurd q e0
          · exact Or.inl q
          · exact absurd q e2
          · exact absurd q e3
          · exact Or.inr q
          · exact absurd q e5
          · exact absurd q c
        rw [if_pos e14] at hP
        refine b102n e2 m11 F11 c11 ?_
        rintro m' rfl
        refine hP _ (F11.up (by omega)) (h11.fr (p := fun o j => o = 104 ∧ j = 32) (Fr.rfl'.up (by omega)) (fun o k z => by omega)) (fun _ => ⟨pl_up_s, ?_, fun _ => ?_, fun z => absurd z e2⟩)
        · rw [pl_up_o (by omega)]
          exact w11
        · rw [pl_up_o (by omega), a11, i3_n]
end SE
