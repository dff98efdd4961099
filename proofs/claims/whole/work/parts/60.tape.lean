/-! reading the tape: both sides against one reader -/
abbrev St : Type := Bool × Nat
def lt (n : Nat) (t : Nat → Nat) (i : Nat) : Int32 := if i < n then nI (t i) else -1
def TX (n : Nat) (t : Nat → Nat) : Prop := n ≤ 80 ∧ ∀ i, i < n → 1 ≤ t i ∧ t i ≤ 127
def TC (n : Nat) (t : Nat → Nat) (st : St) (μ : sl_M) : Prop := st.2 ≤ n ∧ μ 43 1 = nI n ∧ (∀ i, i < n → μ 44 i = nI (t i)) ∧ μ 43 2 = nI (if st.1 then n else st.2) ∧ μ 43 3 = (if st.1 then nI st.2 else -1)
def TM (n : Nat) (t : Nat → Nat) (st : St) (μ : sl_M) : Prop := st.2 ≤ n ∧ μ 104 20 = nI n ∧ (∀ i, i < n → μ 121 i = nI (t i)) ∧ μ 104 21 = nI st.2 ∧ μ 104 22 = pl_b (st.1 = true)
def sk (n : Nat) (t : Nat → Nat) (c : Int32) (st : St) : Bool × St := if st.1 = false ∧ lt n t st.2 = c then (true, (false, st.2 + 1)) else (false, st)
def ex (n : Nat) (t : Nat → Nat) (c : Int32) (st : St) : St := if (sk n t c st).1 then (sk n t c st).2 else (true, st.2)
def fg (n : Nat) (t : Nat → Nat) (i : Nat) : Bool := decide (i < n ∧ 48 ≤ t i ∧ t i ≤ 57)
def nf (n : Nat) (t : Nat → Nat) : Nat → Nat → Nat
  | 0, _ => 0
  | k + 1, i => if fg n t i then 1 + nf n t k (i + 1) else 0
def nv (n : Nat) (t : Nat → Nat) : Nat → Nat → Nat → Nat
  | 0, _, a => a
  | k + 1, i, a => if fg n t i then nv n t k (i + 1) (10 * a + (t i - 48)) else a
def nu (n : Nat) (t : Nat → Nat) (most : Nat) (st : St) : Nat × St := if st.1 then (0, st) else if nf n t most st.2 = 0 then (0, (true, st.2)) else (nv n t most st.2 0, (false, st.2 + nf n t most st.2))
def sg (n : Nat) (t : Nat → Nat) (most : Nat) (st : St) : Int × St := (if (sk n t 45 st).1 then -((nu n t most (sk n t 45 st).2).1 : Int) else ((nu n t most (sk n t 45 st).2).1 : Int), (nu n t most (sk n t 45 st).2).2)
def nl (n : Nat) (t : Nat → Nat) (a : Nat) (st : St) : Nat × St := ((nu n t 3 st).1, if (nu n t 3 st).2.1 = false ∧ (nu n t 3 st).1 < a then (true, st.2) else (nu n t 3 st).2)
theorem nv_lt {n : Nat} {t : Nat → Nat} : ∀ (r i a : Nat), nv n t r i a < 10 ^ r * (a + 1)
  | 0, i, a => by show a < 1 * (a + 1); omega
  | r + 1, i, a => by
    unfold nv
    by_cases c : fg n t i = true
    · rw [if_pos c]
      have h := nv_lt (n := n) (t := t) r (i + 1) (10 * a + (t i - 48))
      have d := of_decide_eq_true c
      have h2 : 10 ^ r * (10 * a + (t i - 48) + 1) ≤ 10 ^ r * (10 * (a + 1)) := Nat.mul_le_mul_left _ (by omega)
      rw [Nat.pow_succ, Nat.mul_assoc]
      omega
    · rw [if_neg c]
      have : 1 ≤ 10 ^ (r + 1) := Nat.one_le_pow _ _ (by omega)
      have := Nat.mul_le_mul_right (a + 1) this
      omega
theorem nu_lt {n : Nat} {t : Nat → Nat} {most : Nat} {st : St} : (nu n t most st).1 < 10 ^ most := by
  have p : 0 < 10 ^ most := Nat.pow_pos (by omega)
  unfold nu
  by_cases c : st.1 = true
  · rw [if_pos c]
    exact p
  · rw [if_neg c]
    split
    · exact p
    · have := nv_lt (n := n) (t := t) most st.2 0
      show nv n t most st.2 0 < _
      omega
theorem nf_le {n : Nat} {t : Nat → Nat} : ∀ (r i : Nat), i ≤ n → i + nf n t r i ≤ n
  | 0, i, h => h
  | r + 1, i, h => by
    unfold nf
    by_cases c : fg n t i = true
    · rw [if_pos c]
      have d := of_decide_eq_true c
      have := nf_le (n := n) (t := t) r (i + 1) (by omega)
      omega
    · rw [if_neg c]
      exact h
theorem sk_le {n : Nat} {t : Nat → Nat} {c : Int32} (hc : c ≠ -1) {st : St} (h : st.2 ≤ n) : (sk n t c st).2.2 ≤ n := by
  unfold sk
  by_cases e : st.1 = false ∧ lt n t st.2 = c
  · rw [if_pos e]
    have : st.2 < n := by
      apply Classical.byContradiction
      intro z
      have := e.2
      unfold lt at this
      rw [if_neg z] at this
      exact hc this.symm
    exact this
  · rw [if_neg e]
    exact h
theorem lt_lt {n : Nat} {t : Nat → Nat} {i : Nat} {c : Int32} (hc : c ≠ -1) (h : lt n t i = c) : i < n ∧ nI (t i) = c := by
  unfold lt at h
  by_cases e : i < n
  · rw [if_pos e] at h
    exact ⟨e, h⟩
  · rw [if_neg e] at h
    exact absurd h.symm hc
theorem ex_le {n : Nat} {t : Nat → Nat} {c : Int32} (hc : c ≠ -1) {st : St} (h : st.2 ≤ n) : (ex n t c st).2 ≤ n := by
  unfold ex
  split
  · exact sk_le hc h
  · exact h
theorem nu_le {n : Nat} {t : Nat → Nat} {most : Nat} {st : St} (h : st.2 ≤ n) : (nu n t most st).2.2 ≤ n := by
  unfold nu
  by_cases c : st.1 = true
  · rw [if_pos c]
    exact h
  · rw [if_neg c]
    split
    · exact h
    · exact nf_le _ _ h
abbrev f43 : Nat → Nat → Prop := fun o _ => o = 43
abbrev fG : Nat → Nat → Prop := fun o k => o = 104 ∧ (k = 21 ∨ k = 22)
section TA
variable {μ : sl_M} {Q : Int32 → sl_M → Prop} {P : sl_M → Prop} {n : Nat} {t : Nat → Nat} {st : St}
theorem TC.set (h : TC n t st μ) {m : sl_M} (hf : Fr (fun o k => o = 43 ∧ k ≠ 1) μ m) {st' : St} (h1 : st'.2 ≤ n) (h2 : m 43 2 = nI (if st'.1 then n else st'.2)) (h3 : m 43 3 = (if st'.1 then nI st'.2 else -1)) : TC n t st' m := ⟨h1, by rw [hf _ _ (by omega)]; exact h.2.1, fun i hi => by rw [hf _ _ (by omega)]; exact h.2.2.1 i hi, h2, h3⟩
theorem TC.fr (h : TC n t st μ) {p : Nat → Nat → Prop} {m : sl_M} (hf : Fr p μ m) (hp : ∀ o k, o = 43 ∨ o = 44 → ¬ p o k) : TC n t st m := ⟨h.1, by rw [hf _ _ (hp 43 1 (by omega))]; exact h.2.1, fun i hi => by rw [hf _ _ (hp 44 i (by omega))]; exact h.2.2.1 i hi, by rw [hf _ _ (hp 43 2 (by omega))]; exact h.2.2.2.1, by rw [hf _ _ (hp 43 3 (by omega))]; exact h.2.2.2.2⟩
theorem TM.fr (h : TM n t st μ) {p : Nat → Nat → Prop} {m : sl_M} (hf : Fr p μ m) (hp : ∀ o k, (o = 104 ∧ 20 ≤ k ∧ k ≤ 22) ∨ o = 121 → ¬ p o k) : TM n t st m := ⟨h.1, by rw [hf _ _ (hp 104 20 (by omega))]; exact h.2.1, fun i hi => by rw [hf _ _ (hp 121 i (by omega))]; exact h.2.2.1 i hi, by rw [hf _ _ (hp 104 21 (by omega))]; exact h.2.2.2.1, by rw [hf _ _ (hp 104 22 (by omega))]; exact h.2.2.2.2⟩
theorem TM.set (h : TM n t st μ) {m : sl_M} (hf : Fr fG μ m) {st' : St} (h1 : st'.2 ≤ n) (h2 : m 104 21 = nI st'.2) (h3 : m 104 22 = pl_b (st'.1 = true)) : TM n t st' m := ⟨h1, by rw [hf _ _ (by omega)]; exact h.2.1, fun i hi => by rw [hf _ _ (by omega)]; exact h.2.2.1 i hi, h2, h3⟩
theorem tp_letter_s (tx : TX n t) (h : TC n t st μ) (hQ : Q (if st.1 then -1 else lt n t st.2) μ) : tp_letter μ Q := by
  have n80 := tx.1
  unfold tp_letter
  rw [h.2.1, h.2.2.2.1]
  cases hb : st.1 with
  | true =>
    rw [hb, if_pos rfl] at hQ
    rw [if_pos rfl]
    exact ⟨fun _ => hQ, fun _ => ⟨fun z => absurd z (by rw [nI_ltI (by omega) (by omega)]; omega), fun _ => hQ⟩⟩
  | false =>
    rw [hb, if_neg (by decide)] at hQ
    rw [if_neg (by decide)]
    have i1 := h.1
    unfold lt at hQ
    refine ⟨fun z => absurd z (nI_pos (by omega)), fun _ => ⟨fun z => ?_, fun z => ?_⟩⟩
    · have hl : st.2 < n := (nI_ltI (by omega) (by omega)).mp z
      rw [if_pos hl] at hQ
      rw [nI_clamp (by omega), h.2.2.1 _ hl]
      exact ⟨fun _ => ⟨vp_in_nI (by omega) (by decide), hQ⟩, fun y => absurd ((nI_ltI (a := st.2) (b := 80) (by omega) (by omega)).mpr (by omega)) y⟩
    · rw [if_neg (fun y => z ((nI_ltI (by omega) (by omega)).mpr y))] at hQ
      exact hQ
theorem mo_here_s (tx : TX n t) (h : TM n t st μ) (hQ : Q (lt n t st.2) μ) : mo_here μ Q := by
  have n80 := tx.1
  have i1 := h.1
  unfold mo_here
  rw [h.2.1, h.2.2.2.1, nI_ltI (by omega) (by omega)]
  unfold lt at hQ
  refine ⟨fun z => ⟨vp_in_nI (by omega) (by decide), ?_⟩, fun z => ?_⟩
  · rw [if_pos z] at hQ
    rw [nI_clamp (by omega), h.2.2.1 _ z]
    exact hQ
  · rw [if_neg z] at hQ
    exact hQ
theorem tp_skip_s (tx : TX n t) (h : TC n t st μ) {c : Int32} (hc : c ≠ -1) (hQ : ∀ m, Fr f43 μ m → TC n t (sk n t c st).2 m → Q (pl_b ((sk n t c st).1 = true)) m) : tp_skip c μ Q := by
  unfold tp_skip
  refine tp_letter_s tx h ⟨fun e => ?_, fun e => ⟨rfl, ?_⟩⟩
  · rintro m3 rfl
    refine ⟨rfl, ?_⟩
    have b0 : st.1 = false := by
      cases hb : st.1 with
      | false => rfl
      | true =>
        rw [hb, if_pos rfl] at e
        exact absurd e.symm hc
    rw [b0, if_neg (by decide)] at e
    have es : sk n t c st = (true, (false, st.2 + 1)) := if_pos ⟨b0, e⟩
    rw [es] at hQ
    have il := (lt_lt hc e).1
    refine hQ _ (Fr.rfl'.up rfl) (h.set (Fr.rfl'.up (by omega)) il ?_ ?_)
    · rw [pl_up_s, h.2.2.2.1, b0, nI_1]
      rfl
    · rw [pl_up_k (by omega), h.2.2.2.2, b0]
      rfl
  · have es : sk n t c st = (false, st) := if_neg (fun z => e (by rw [z.1, if_neg (by decide)]; exact z.2))
    rw [es] at hQ
    exact hQ μ Fr.rfl' h
theorem mo_goesOn_s (tx : TX n t) (h : TM n t st μ) {c : Int32} (hc : c ≠ -1) (hQ : ∀ m, Fr fG μ m → TM n t (sk n t c st).2 m → Q (pl_b ((sk n t c st).1 = true)) m) : mo_goesOn c μ Q := by
  have no : (st.1 = false → lt n t st.2 ≠ c) → mo_goesOn_B21 c Q 0 μ := fun e => by
    have es : sk n t c st = (false, st) := if_neg (fun z => e z.1 z.2)
    rw [es] at hQ
    refine ⟨fun _ => ?_, fun z => absurd rfl z⟩
    rintro m1 rfl
    rw [Int32.add_zero, up_id rfl]
    exact ⟨rfl, hQ μ Fr.rfl' h⟩
  unfold mo_goesOn
  rw [h.2.2.2.2, pl_bz]
  refine pl_bb (fun z => ?_) (fun z => no (fun y => by rw [z] at y; exact absurd y (by decide)))
  have b0 : st.1 = false := by simpa using z
  refine mo_here_s tx h ⟨fun e => ⟨fun y => absurd y (by decide), fun _ => ?_⟩, fun e => no (fun _ => e)⟩
  rintro m2 rfl
  have es : sk n t c st = (true, (false, st.2 + 1)) := if_pos ⟨b0, e⟩
  rw [es] at hQ
  have il := (lt_lt hc e).1
  refine ⟨rfl, hQ _ (Fr.rfl'.up (by omega)) (h.set (Fr.rfl'.up (by omega)) il ?_ ?_)⟩
  · rw [pl_up_s, h.2.2.2.1, nI_1]
  · rw [pl_up_k (by omega), h.2.2.2.2, b0]
theorem tp_fail_s (tx : TX n t) (h : TC n t st μ) {j : Nat} (hj : j ≤ n) (hP : ∀ m, Fr f43 μ m → TC n t (if st.1 then st else (true, j)) m → P m) : tp_fail (nI j) μ P := by
  have n80 := tx.1
  have i1 := h.1
  unfold tp_fail
  rw [h.2.2.2.2]
  cases hb : st.1 with
  | true =>
    rw [hb, if_pos rfl] at hP
    rw [if_pos rfl]
    refine ⟨fun z => absurd z (nI_pos (by omega)), fun _ => ?_⟩
    rintro m3 rfl
    refine hP _ (Fr.rfl'.up rfl) (h.set (Fr.rfl'.up (by omega)) i1 ?_ ?_)
    · rw [pl_up_s, h.2.1, hb, if_pos rfl]
    · rw [pl_up_k (by omega), h.2.2.2.2]
  | false =>
    rw [hb, if_neg (by decide)] at hP
    rw [if_neg (by decide)]
    refine ⟨fun _ => ?_, fun z => absurd (by decide) z⟩
    rintro m1 rfl m2 rfl
    refine hP _ (((Fr.rfl' (p := f43)).up rfl).up rfl) (h.set ((Fr.rfl'.up (by omega)).up (by omega)) hj ?_ ?_)
    · rw [pl_up_s, pl_up_k (by omega), h.2.1]
      rfl
    · rw [pl_up_k (by omega), pl_up_s]
      rfl
theorem tp_failh_s (tx : TX n t) (h : TC n t st μ) (hP : ∀ m, Fr f43 μ m → TC n t (true, st.2) m → P m) : tp_fail (μ 43 2) μ P := by
  rw [h.2.2.2.1]
  cases hb : st.1 with
  | true =>
    rw [if_pos rfl]
    refine tp_fail_s tx h (Nat.le_refl _) (fun m hf hm => hP m hf ?_)
    rw [hb, if_pos rfl] at hm
    have : st = (true, st.2) := by rw [← hb]
    rw [← this]
    exact hm
  | false =>
    rw [if_neg (by decide)]
    refine tp_fail_s tx h h.1 (fun m hf hm => hP m hf ?_)
    rw [hb, if_neg (by decide)] at hm
    exact hm
theorem tp_expect_s (tx : TX n t) (h : TC n t st μ) {c : Int32} (hc : c ≠ -1) (hP : ∀ m, Fr f43 μ m → TC n t (ex n t c st) m → P m) : tp_expect c μ P := by
  unfold tp_expect
  unfold ex at hP
  refine tp_skip_s tx h hc (fun m hf hm => pl_bb (fun z => ?_) (fun z => ?_))
  · have e : sk n t c st = (false, st) := by
      unfold sk at z ⊢
      by_cases y : st.1 = false ∧ lt n t st.2 = c
      · rw [if_pos y] at z
        exact absurd rfl z
      · rw [if_neg y]
    rw [e] at hm hP
    rw [if_neg Bool.false_ne_true] at hP
    exact tp_failh_s tx hm (fun m2 hf2 hm2 => hP m2 (hf.tr hf2) hm2)
  · rw [if_pos z] at hP
    exact hP m hf hm
theorem mo_wants_s (tx : TX n t) (h : TM n t st μ) {c : Int32} (hc : c ≠ -1) (hP : ∀ m, Fr fG μ m → TM n t (ex n t c st) m → P m) : mo_wants c μ P := by
  unfold mo_wants
  unfold ex at hP
  refine mo_goesOn_s tx h hc (fun m hf hm => pl_bb (fun z => ⟨rfl, ?_⟩) (fun z => ?_))
  · have e : sk n t c st = (false, st) := by
      unfold sk at z ⊢
      by_cases y : st.1 = false ∧ lt n t st.2 = c
      · rw [if_pos y] at z
        exact absurd rfl z
      · rw [if_neg y]
    rw [e] at hm hP
    rw [if_neg Bool.false_ne_true] at hP
    rintro m3 rfl
    exact hP _ (hf.up (by omega)) (hm.set (Fr.rfl'.up (by omega)) h.1 (by rw [pl_up_k (by omega)]; exact hm.2.2.2.1) (by rw [pl_up_s]; rfl))
  · rw [if_pos z] at hP
    have b0 : (sk n t c st).2.1 = false := by
      unfold sk at z ⊢
      by_cases y : st.1 = false ∧ lt n t st.2 = c
      · rw [if_pos y]
      · rw [if_neg y] at z
        exact absurd z Bool.false_ne_true
    rw [hm.2.2.2.2, b0, pl_bz]
    refine pl_bb (fun _ => ⟨rfl, ?_⟩) (fun z => absurd z (by decide))
    rintro m4 rfl
    refine hP _ (hf.up (by omega)) (hm.set (Fr.rfl'.up (by omega)) hm.1 (by rw [pl_up_k (by omega)]; exact hm.2.2.2.1) ?_)
    rw [pl_up_s, b0]
    rfl
theorem fg_no {i : Nat} (h : fg n t i = false) (tx : TX n t) : lt n t i < 48 ∨ ¬ lt n t i ≤ 57 := by
  unfold lt
  by_cases e : i < n
  · rw [if_pos e]
    have := tx.2 i e
    have d := of_decide_eq_false h
    rw [show (48 : Int32) = nI 48 from rfl, show (57 : Int32) = nI 57 from rfl, nI_ltI (by omega) (by omega), nI_leI (by omega) (by omega)]
    omega
  · rw [if_neg e]
    exact Or.inl (by decide)
theorem fg_yes {i : Nat} (h : fg n t i = true) (tx : TX n t) : lt n t i = nI (t i) ∧ ¬ lt n t i < 48 ∧ lt n t i ≤ 57 := by
  have d := of_decide_eq_true h
  have e : lt n t i = nI (t i) := if_pos d.1
  have := tx.2 i d.1
  rw [e, show (48 : Int32) = nI 48 from rfl, show (57 : Int32) = nI 57 from rfl, nI_ltI (by omega) (by omega), nI_leI (by omega) (by omega)]
  exact ⟨rfl, by omega, by omega⟩
theorem tp_num_loop (tx : TX n t) {most : Nat} (hm : most ≤ 3) {x2 : Int32} : ∀ (r k i a : Nat) (m : sl_M), k + r = most → TC n t (false, i) m → (∀ m', Fr f43 m m' → TC n t (false, i + nf n t r i) m' → tp_readNumber_B63 (nI most) Q x2 (nI (nv n t r i a)) m') → tp_readNumber_L10 (nI most) Q (r + 1) x2 (nI a) (nI k) m
  | 0, k, i, a, m, hk, h, hB => ⟨fun z => absurd z (by rw [nI_ltI (by omega) (by omega)]; omega), fun _ => hB m Fr.rfl' h⟩
  | r + 1, k, i, a, m, hk, h, hB => by
    refine ⟨fun _ => ?_, fun z => absurd (by rw [nI_ltI (by omega) (by omega)]; omega) z⟩
    cases c : fg n t i with
    | false =>
      have e1 : nf n t (r + 1) i = 0 := by
        unfold nf
        rw [c]
        rfl
      have e2 : nv n t (r + 1) i a = a := by
        unfold nv
        rw [c]
        rfl
      rw [e1, e2] at hB
      have hb := hB m Fr.rfl' h
      refine tp_letter_s tx h ⟨fun _ => hb, fun z => tp_letter_s tx h ⟨fun y => ?_, fun _ => hb⟩⟩
      rcases fg_no c tx with q | q
      · exact absurd q z
      · exact absurd y q
    | true =>
      obtain ⟨l1, l2, l3⟩ := fg_yes c tx
      have d := of_decide_eq_true c
      have e1 : nf n t (r + 1) i = 1 + nf n t r (i + 1) := by
        show (if fg n t i then _ else _) = _
        rw [if_pos c]
      have e2 : nv n t (r + 1) i a = nv n t r (i + 1) (10 * a + (t i - 48)) := by
        show (if fg n t i then _ else _) = _
        rw [if_pos c]
      rw [e1, e2] at hB
      refine tp_letter_s tx h ⟨fun z => absurd z l2, fun _ => tp_letter_s tx h ⟨fun _ => tp_letter_s tx h ?_, fun z => absurd l3 z⟩⟩
      rintro v7 rfl m8 rfl
      have hv : nI a * 10 + (lt n t i - 48) = nI (10 * a + (t i - 48)) := by
        rw [l1, show (48 : Int32) = nI 48 from rfl, nI_mns d.2.1, i3_n, i3_n, i3_n, show (10 : Int32) = i3 10 from rfl, i3_mul, i3_add]
        congr 1
        omega
      have ea : m 43 2 = nI i := by
        rw [h.2.2.2.1]
        rfl
      show tp_readNumber_L10 (nI most) Q (r + 1) x2 (nI a * 10 + (lt n t i - 48)) (nI k + 1) (sl_up m 43 2 (m 43 2 + 1))
      rw [hv, pl_inc, ea, pl_inc]
      have h' : TC n t (false, i + 1) (sl_up m 43 2 (nI (i + 1))) := h.set (Fr.rfl'.up (by omega)) d.1 pl_up_s (by rw [pl_up_k (by omega)]; exact h.2.2.2.2)
      refine tp_num_loop tx hm r (k + 1) (i + 1) _ _ (by omega) h' (fun m' hf hm' => hB m' (((Fr.rfl' (p := f43)).up rfl).tr hf) ?_)
      rw [show i + (1 + nf n t r (i + 1)) = i + 1 + nf n t r (i + 1) by omega]
      exact hm'
theorem tp_readNumber_s (tx : TX n t) (h : TC n t st μ) {most : Nat} (h0 : 0 < most) (hm : most ≤ 3) (hQ : ∀ m, Fr f43 μ m → TC n t (nu n t most st).2 m → Q (nI (nu n t most st).1) m) : tp_readNumber (nI most) μ Q := by
  have n80 := tx.1
  have i1 := h.1
  rintro v10 rfl
  unfold nu at hQ
  cases hb : st.1 with
  | true =>
    rw [hb, if_pos rfl] at hQ
    refine ⟨1, fun _ => tp_letter_s tx h ?_, fun z => absurd (by rw [show (0 : Int32) = nI 0 from rfl, nI_ltI (by omega) (by omega)]; exact h0) z⟩
    rw [hb, if_pos rfl]
    refine ⟨fun _ => ⟨fun _ => tp_failh_s tx h (fun m hf hm' => hQ m hf ?_), fun z => absurd rfl z⟩, fun z => absurd (by decide) z⟩
    have : st = (true, st.2) := by rw [← hb]
    rw [this]
    exact hm'
  | false =>
    rw [hb, if_neg (by decide)] at hQ
    have es : st = (false, st.2) := by rw [← hb]
    rw [es] at h
    refine ⟨_, tp_num_loop tx hm most 0 st.2 0 μ (by omega) h (fun m hf hm' => ?_)⟩
    have ea : μ 43 2 = nI st.2 := by
      rw [h.2.2.2.1]
      rfl
    have em : m 43 2 = nI (st.2 + nf n t most st.2) := by
      rw [hm'.2.2.2.1]
      rfl
    have nl := nf_le (n := n) (t := t) most st.2 i1
    refine ⟨fun z => ?_, fun z => ?_⟩
    · rw [em, ea, nI_eq (by omega) (by omega)] at z
      have z0 : nf n t most st.2 = 0 := by omega
      rw [if_pos z0] at hQ
      have ev : nv n t most st.2 0 = 0 := by
        cases most with
        | zero => rfl
        | succ r =>
          unfold nv
          rw [if_neg]
          intro y
          unfold nf at z0
          rw [if_pos y] at z0
          omega
      rw [ev]
      refine tp_failh_s tx hm' (fun m2 hf2 hm2 => hQ m2 (hf.tr hf2) ?_)
      rw [z0] at hm2
      exact hm2
    · have z0 : ¬ nf n t most st.2 = 0 := fun y => z (by rw [em, ea, y]; rfl)
      rw [if_neg z0] at hQ
      exact hQ m hf hm'
theorem mo_num_loop (tx : TX n t) {most : Nat} (hm : most ≤ 3) : ∀ (r k i a : Nat) (m : sl_M), k + r = most → TM n t (false, i) m → (∀ m', Fr fG m m' → TM n t (false, i + nf n t r i) m' → Q (nI (nv n t r i a)) m') → mo_readFigures_L37 (nI most) Q (r + 1) (nI a) (nI k) m
  | 0, k, i, a, m, hk, h, hB => ⟨fun z => absurd z (by rw [nI_ltI (by omega) (by omega)]; omega), fun _ => hB m Fr.rfl' h⟩
  | r + 1, k, i, a, m, hk, h, hB => by
    refine ⟨fun _ => ?_, fun z => absurd (by rw [nI_ltI (by omega) (by omega)]; omega) z⟩
    rw [h.2.2.2.2, pl_bz]
    refine pl_bb (fun _ => ?_) (fun z => absurd z Bool.false_ne_true)
    cases c : fg n t i with
    | false =>
      have e1 : nf n t (r + 1) i = 0 := by
        unfold nf
        rw [c]
        rfl
      have e2 : nv n t (r + 1) i a = a := by
        unfold nv
        rw [c]
        rfl
      rw [e1, e2] at hB
      refine mo_here_s tx h ?_
      rw [mo_in_i]
      refine pl_bb (fun _ => hB m Fr.rfl' h) (fun z => ?_)
      rcases fg_no c tx with q | q
      · exact absurd z.1 (fa_of_lt q).2.1
      · exact absurd z.2 q
    | true =>
      obtain ⟨l1, l2, l3⟩ := fg_yes c tx
      have d := of_decide_eq_true c
      have e1 : nf n t (r + 1) i = 1 + nf n t r (i + 1) := by
        show (if fg n t i then _ else _) = _
        rw [if_pos c]
      have e2 : nv n t (r + 1) i a = nv n t r (i + 1) (10 * a + (t i - 48)) := by
        show (if fg n t i then _ else _) = _
        rw [if_pos c]
      rw [e1, e2] at hB
      refine mo_here_s tx h ?_
      rw [mo_in_i]
      refine pl_bb (fun z => absurd ⟨fa_of_nlt l2, l3⟩ z) (fun _ => mo_here_s tx h ?_)
      rintro v7 rfl m8 rfl
      have hv : 10 * nI a + lt n t i - 48 = nI (10 * a + (t i - 48)) := by
        rw [l1, i3_n, i3_n, i3_n, show (10 : Int32) = i3 10 from rfl, show (48 : Int32) = i3 48 from rfl, i3_mul, i3_add, i3_sub]
        congr 1
        omega
      show mo_readFigures_L37 (nI most) Q (r + 1) (10 * nI a + lt n t i - 48) (nI k + 1) (sl_up m 104 21 (m 104 21 + 1))
      rw [hv, pl_inc, h.2.2.2.1, pl_inc]
      have h' : TM n t (false, i + 1) (sl_up m 104 21 (nI (i + 1))) := h.set (Fr.rfl'.up (by omega)) d.1 pl_up_s (by rw [pl_up_k (by omega)]; exact h.2.2.2.2)
      refine mo_num_loop tx hm r (k + 1) (i + 1) _ _ (by omega) h' (fun m' hf hm' => hB m' ((Fr.rfl'.up (by omega)).tr hf) ?_)
      rw [show i + (1 + nf n t r (i + 1)) = i + 1 + nf n t r (i + 1) by omega]
      exact hm'
theorem mo_readFigures_s (tx : TX n t) (h : TM n t st μ) {most : Nat} (h0 : 0 < most) (hm : most ≤ 3) (hQ : ∀ m, Fr fG μ m → TM n t (nu n t most st).2 m → Q (nI (nu n t most st).1) m) : mo_readFigures (nI most) μ Q := by
  have n80 := tx.1
  have i1 := h.1
  unfold nu at hQ
  have bad : ∀ m, m 104 22 = 1 → Q 0 m → ∃ k, mo_readFigures_L37 (nI most) Q k 0 0 m := fun m e q => ⟨1, fun _ => by
    rw [e]
    exact ⟨fun z => absurd z (by decide), fun _ => q⟩, fun _ => q⟩
  obtain ⟨r, rfl⟩ : ∃ r, most = r + 1 := ⟨most - 1, by omega⟩
  unfold mo_readFigures
  rw [h.2.2.2.2, pl_bz]
  cases hb : st.1 with
  | true =>
    rw [hb, if_pos rfl] at hQ
    refine pl_bb (fun z => absurd rfl z) (fun _ => ⟨rfl, ?_⟩)
    rintro m17 rfl
    refine bad _ pl_up_s (hQ _ (Fr.rfl'.up (by omega)) (h.set (Fr.rfl'.up (by omega)) i1 (by rw [pl_up_k (by omega)]; exact h.2.2.2.1) ?_))
    rw [pl_up_s, hb]
    rfl
  | false =>
    rw [hb, if_neg (by decide)] at hQ
    have es : st = (false, st.2) := by rw [← hb]
    refine pl_bb (fun _ => mo_here_s tx h ?_) (fun z => absurd z (by decide))
    rw [mo_in_i]
    cases c : fg n t st.2 with
    | false =>
      have z0 : nf n t (r + 1) st.2 = 0 := by
        unfold nf
        rw [c]
        rfl
      rw [if_pos z0] at hQ
      refine pl_bb (fun _ => ⟨rfl, ?_⟩) (fun z => ?_)
      · rintro m13 rfl
        exact bad _ pl_up_s (hQ _ (Fr.rfl'.up (by omega)) (h.set (Fr.rfl'.up (by omega)) i1 (by rw [pl_up_k (by omega)]; exact h.2.2.2.1) (by rw [pl_up_s]; rfl)))
      · rcases fg_no c tx with q | q
        · exact absurd z.1 (fa_of_lt q).2.1
        · exact absurd z.2 q
    | true =>
      obtain ⟨l1, l2, l3⟩ := fg_yes c tx
      have z0 : ¬ nf n t (r + 1) st.2 = 0 := by
        unfold nf
        rw [if_pos c]
        omega
      rw [if_neg z0] at hQ
      refine pl_bb (fun z => absurd ⟨fa_of_nlt l2, l3⟩ z) (fun _ => ⟨rfl, ?_⟩)
      rintro m15 rfl
      have h' : TM n t (false, st.2) (sl_up μ 104 22 0) := h.set (Fr.rfl'.up (by omega)) i1 (by rw [pl_up_k (by omega)]; exact h.2.2.2.1) (by rw [pl_up_s]; rfl)
      exact ⟨_, mo_num_loop tx hm (r + 1) 0 st.2 0 _ (by omega) h' (fun m' hf hm' => hQ m' ((Fr.rfl'.up (by omega)).tr hf) hm')⟩
theorem tp_readSigned_s (tx : TX n t) (h : TC n t st μ) {most : Nat} (h0 : 0 < most) (hm : most ≤ 3) (hQ : ∀ m, Fr f43 μ m → TC n t (sg n t most st).2 m → Q (i3 (sg n t most st).1) m) : tp_readSigned (nI most) μ Q := by
  unfold tp_readSigned
  unfold sg at hQ
  refine tp_skip_s tx h (by decide) (fun m1 f1 h1 => tp_readNumber_s tx h1 h0 hm (fun m2 f2 h2 => ?_))
  have hQ := hQ m2 (f1.tr f2) h2
  refine pl_bb (fun z => ?_) (fun z => ?_)
  · rw [if_neg z] at hQ
    rw [i3_n]
    exact hQ
  · rw [if_pos z] at hQ
    rw [i3_n, i3_neg]
    exact hQ
theorem mo_readSigned_s (tx : TX n t) (h : TM n t st μ) {most : Nat} (h0 : 0 < most) (hm : most ≤ 3) (hQ : ∀ m, Fr fG μ m → TM n t (sg n t most st).2 m → Q (i3 (sg n t most st).1) m) : mo_readSigned (nI most) μ Q := by
  unfold mo_readSigned
  unfold sg at hQ
  refine mo_goesOn_s tx h (by decide) (fun m1 f1 h1 => mo_readFigures_s tx h1 h0 hm (fun m2 f2 h2 => ?_))
  have hQ := hQ m2 (f1.tr f2) h2
  refine pl_bb (fun z => ?_) (fun z => ?_)
  · rw [if_neg z] at hQ
    rw [i3_n]
    exact hQ
  · rw [if_pos z] at hQ
    rw [i3_n, i3_neg]
    exact hQ
theorem nu_bad (h : st.1 = true) {most : Nat} : nu n t most st = (0, st) := if_pos h
theorem tp_readNotLess_s (tx : TX n t) (h : TC n t st μ) {a : Nat} (ha : a < 1000) (hQ : ∀ m, Fr f43 μ m → TC n t (nl n t a st).2 m → Q (nI (nl n t a st).1) m) : tp_readNotLess (nI a) μ Q := by
  rintro v1 rfl
  unfold nl at hQ
  have b := nu_lt (n := n) (t := t) (most := 3) (st := st)
  refine tp_readNumber_s (most := 3) tx h (by omega) (by omega) (fun m1 f1 h1 => ?_)
  rw [nI_ltI (by omega) (by omega)]
  refine ⟨fun c => ?_, fun c => ?_⟩
  · cases hb : st.1 with
    | true =>
      rw [nu_bad hb] at hQ h1 c ⊢
      rw [if_neg (fun z => by rw [hb] at z; exact absurd z.1 (by decide))] at hQ
      rw [h.2.2.2.1, hb, if_pos rfl]
      refine tp_fail_s tx h1 (Nat.le_refl _) (fun m2 f2 h2 => hQ m2 (f1.tr f2) ?_)
      rw [hb, if_pos rfl] at h2
      exact h2
    | false =>
      rw [h.2.2.2.1, hb, if_neg (by decide)]
      refine tp_fail_s tx h1 h.1 (fun m2 f2 h2 => hQ m2 (f1.tr f2) ?_)
      cases hb2 : (nu n t 3 st).2.1 with
      | true =>
        rw [hb2, if_pos rfl] at h2
        rw [if_neg (fun z => absurd z.1 (by decide))]
        exact h2
      | false =>
        rw [hb2, if_neg (by decide)] at h2
        rw [if_pos ⟨rfl, c⟩]
        exact h2
  · rw [if_neg (fun z => c z.2)] at hQ
    exact hQ m1 f1 h1
theorem mo_readNotLess_s (tx : TX n t) (h : TM n t st μ) {a : Nat} (ha : a < 1000) (hQ : ∀ m, Fr fG μ m → TM n t (nl n t a st).2 m → Q (nI (nl n t a st).1) m) : mo_readNotLess (nI a) μ Q := by
  rintro v1 rfl
  unfold nl at hQ
  have b := nu_lt (n := n) (t := t) (most := 3) (st := st)
  refine mo_readFigures_s (most := 3) tx h (by omega) (by omega) (fun m1 f1 h1 => ?_)
  rw [nI_ltI (by omega) (by omega), h1.2.2.2.2, pl_bz]
  refine pl_bb (fun z => ⟨fun c => ⟨rfl, ?_⟩, fun c => ?_⟩) (fun z => ?_)
  · have b0 : (nu n t 3 st).2.1 = false := by simpa using z
    rw [if_pos ⟨b0, c⟩] at hQ
    rintro m4 rfl m5 rfl
    refine hQ _ ((f1.up (by omega)).up (by omega)) (h1.set ((Fr.rfl'.up (by omega)).up (by omega)) h.1 (by rw [pl_up_s]; exact h.2.2.2.1) ?_)
    rw [pl_up_k (by omega), pl_up_s]
    rfl
  · rw [if_neg (fun y => c y.2)] at hQ
    exact hQ m1 f1 h1
  · rw [if_neg (fun y => by rw [z] at y; exact absurd y.1 (by decide))] at hQ
    exact hQ m1 f1 h1
end TA
