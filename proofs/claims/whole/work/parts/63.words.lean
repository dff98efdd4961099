/-! words: the class looks them up in a text, the reference by a number -/
def wS (o w : Nat) : Nat := (([[0, 4, 9, 16, 23, 30], [0, 6, 11, 16, 23, 29]] : List (List Nat)).getD o []).getD w 0
def wLn (o w : Nat) : Nat := (([[3, 4, 6, 6, 6, 5], [5, 4, 4, 6, 5, 4]] : List (List Nat)).getD o []).getD w 0
def wC (o i : Nat) : Nat := (([[108, 111, 119, 32, 104, 105, 103, 104, 32, 119, 101, 105, 103, 104, 116, 32, 108, 101, 110, 103, 116, 104, 32, 110, 117, 109, 98, 101, 114, 32, 108, 97, 121, 101, 114, 32], [115, 104, 105, 102, 116, 32, 103, 114, 111, 119, 32, 99, 108, 105, 112, 32, 109, 105, 114, 114, 111, 114, 32, 116, 105, 109, 101, 115, 32, 104, 101, 97, 112, 32]] : List (List Nat)).getD o []).getD i 0
def lw (n : Nat) (t : Nat → Nat) (i : Nat) : Bool := decide (i < n ∧ 97 ≤ t i ∧ t i ≤ 122)
/-- how many letters stand from i on -/
def wr (n : Nat) (t : Nat → Nat) : Nat → Nat → Nat
  | 0, _ => 0
  | k + 1, i => if lw n t i then 1 + wr n t k (i + 1) else 0
abbrev wq (t : Nat → Nat) (o w f e : Nat) : Prop := e = f + wLn o w ∧ ∀ k, k < wLn o w → t (f + k) = wC o (wS o w + k)
theorem wr_y {n : Nat} {t : Nat → Nat} {k i : Nat} (h : lw n t i = true) : wr n t (k + 1) i = 1 + wr n t k (i + 1) := by
  show (if lw n t i then _ else _) = _
  rw [if_pos h]
theorem wr_n {n : Nat} {t : Nat → Nat} {k i : Nat} (h : lw n t i = false) : wr n t (k + 1) i = 0 := by
  show (if lw n t i then _ else _) = _
  rw [h]
  rfl
theorem wr_len {n : Nat} {t : Nat → Nat} : ∀ (k i : Nat), i ≤ n → i + wr n t k i ≤ n
  | 0, i, h => h
  | k + 1, i, h => by
    cases c : lw n t i with
    | true =>
      have d := of_decide_eq_true c
      have := wr_len (n := n) (t := t) k (i + 1) (by omega)
      rw [wr_y c]
      omega
    | false =>
      rw [wr_n c]
      exact h
theorem wr_lw {n : Nat} {t : Nat → Nat} : ∀ (k i j : Nat), j < wr n t k i → lw n t (i + j) = true
  | 0, i, j, h => absurd h (Nat.not_lt_zero _)
  | k + 1, i, j, h => by
    cases c : lw n t i with
    | true =>
      rw [wr_y c] at h
      cases j with
      | zero => exact c
      | succ j =>
        have := wr_lw (n := n) (t := t) k (i + 1) j (by omega)
        rw [show i + (j + 1) = i + 1 + j by omega]
        exact this
    | false =>
      rw [wr_n c] at h
      omega
theorem wr_end {n : Nat} {t : Nat → Nat} : ∀ (k i : Nat), n ≤ i + k → lw n t (i + wr n t k i) = false
  | 0, i, h => decide_eq_false (fun z => by have := z.1; show False; have h2 : i + wr n t 0 i = i := rfl; omega)
  | k + 1, i, h => by
    cases c : lw n t i with
    | true =>
      have := wr_end (n := n) (t := t) k (i + 1) (by omega)
      rw [wr_y c, show i + (1 + wr n t k (i + 1)) = i + 1 + wr n t k (i + 1) by omega]
      exact this
    | false =>
      rw [wr_n c]
      exact c
theorem wr_le {n : Nat} {t : Nat → Nat} (tx : TX n t) {i : Nat} (h : i ≤ n) : i + wr n t 80 i ≤ n := wr_len 80 i h
theorem lw_no {n : Nat} {t : Nat → Nat} (tx : TX n t) {i : Nat} (h : lw n t i = false) : lt n t i < 97 ∨ ¬ lt n t i ≤ 122 := by
  unfold lt
  by_cases e : i < n
  · rw [if_pos e]
    have := tx.2 i e
    have d := of_decide_eq_false h
    rw [show (97 : Int32) = nI 97 from rfl, show (122 : Int32) = nI 122 from rfl, nI_ltI (by omega) (by omega), nI_leI (by omega) (by omega)]
    omega
  · rw [if_neg e]
    exact Or.inl (by decide)
theorem lw_yes {n : Nat} {t : Nat → Nat} (tx : TX n t) {i : Nat} (h : lw n t i = true) : lt n t i = nI (t i) ∧ ¬ lt n t i < 97 ∧ lt n t i ≤ 122 := by
  have d := of_decide_eq_true h
  have e : lt n t i = nI (t i) := if_pos d.1
  have := tx.2 i d.1
  rw [e, show (97 : Int32) = nI 97 from rfl, show (122 : Int32) = nI 122 from rfl, nI_ltI (by omega) (by omega), nI_leI (by omega) (by omega)]
  exact ⟨rfl, by omega, by omega⟩
/-- which word it is -/
def wix (n : Nat) (t : Nat → Nat) (o f e : Nat) : Int32 := if wq t o 0 f e then 0 else if wq t o 1 f e then 1 else if wq t o 2 f e then 2 else if wq t o 3 f e then 3 else if wq t o 4 f e then 4 else if wq t o 5 f e then 5 else -1
theorem wLn_B : ∀ o, o < 2 → ∀ w, w < 6 → 3 ≤ wLn o w ∧ wLn o w ≤ 6 ∧ wS o w + wLn o w < sl_sl.getD o 0 := by decide
theorem wC_B : ∀ o, o < 2 → ∀ w, w < 6 → ∀ k, k < wLn o w → 97 ≤ wC o (wS o w + k) ∧ wC o (wS o w + k) ≤ 122 := by decide
theorem wC_chr : ∀ o, o < 2 → ∀ i, i < sl_sl.getD o 0 → sg_chr o (nI i) = nI (wC o i) := by decide +kernel
theorem wC_sp : ∀ o, o < 2 → ∀ w, w < 6 → wC o (wS o w + wLn o w) = 32 := by decide
theorem wS_nx : ∀ o, o < 2 → ∀ w, w < 5 → wS o (w + 1) = wS o w + wLn o w + 1 := by decide
theorem wS_end : ∀ o, o < 2 → wS o 5 + wLn o 5 + 1 = sl_sl.getD o 0 := by decide
theorem sl_B : ∀ o, o < 2 → sl_sl.getD o 0 ≤ 36 := by decide
def wd (n : Nat) (t : Nat → Nat) (o : Nat) (st : St) : Int32 × St := if st.1 then (-1, st) else (wix n t o st.2 (st.2 + wr n t 80 st.2), if wix n t o st.2 (st.2 + wr n t 80 st.2) = -1 then (true, st.2) else (false, st.2 + wr n t 80 st.2))
section WR
variable {μ : sl_M} {Q : Int32 → sl_M → Prop} {P : sl_M → Prop} {R : Int64 → sl_M → Prop} {n : Nat} {t : Nat → Nat} {st : St} {i : Nat}
theorem tp_isSame_s (tx : TX n t) {o w f e : Nat} (ho : o < 2) (hw : w < 6) (hf : f ≤ e) (he : e ≤ n) (h1 : ∀ i, i < n → μ 44 i = nI (t i)) (h2 : μ 43 2 = nI e) (hy : wq t o w f e → Q 1 μ) (hn : ¬ wq t o w f e → Q 0 μ) : tp_isSame (nI f) o (nI (wS o w)) (nI (wS o w + wLn o w)) μ Q := by
  have n80 := tx.1
  have B := wLn_B o ho w hw
  have sB := sl_B o ho
  unfold tp_isSame
  have eL : nI (wS o w + wLn o w) - nI (wS o w) = nI (wLn o w) := by
    rw [nI_mns (by omega)]
    congr 1
    omega
  rw [h2, eL, nI_mns hf]
  refine ⟨fun z => absurd z (nI_pos (by omega)), fun _ => ⟨fun _ => ⟨fun c => ?_, fun c => ⟨rfl, hn (fun z => c ?_)⟩⟩, fun z => absurd ((nI_leI (a := e) (b := 80) (by omega) (by omega)).mpr (by omega)) z⟩⟩
  · rw [nI_eq (by omega) (by omega)] at c
    have ee : e = f + wLn o w := by omega
    refine lp0 (fun k x5 => tp_isSame_L31 (nI f) o (nI (wS o w)) (nI (wS o w + wLn o w)) Q k x5 μ) (fun k x5 => x5 = nI k ∧ ∀ j, j < k → t (f + j) = wC o (wS o w + j)) (wLn o w) _ ⟨rfl, fun j hj => absurd hj (by omega)⟩ ?_ ?_
    · rintro k x5 ⟨rfl, g⟩
      refine ⟨fun z => absurd z (by rw [eL, nI_ltI (by omega) (by omega)]; omega), fun _ => ⟨rfl, hy ⟨ee, g⟩⟩⟩
    · rintro k' k x5 hk ⟨rfl, g⟩ ih
      have cB := wC_B o ho w hw k hk
      have tB := tx.2 (f + k) (by omega)
      refine ⟨fun _ => ?_, fun z => absurd (by rw [eL, nI_ltI (by omega) (by omega)]; exact hk) z⟩
      rw [nI_add, nI_add, nI_clamp (show f + k < 2 ^ 31 by omega), h1 _ (by omega)]
      refine ⟨vp_in_nI (by omega) (by decide), ho, vp_in_nI (by omega) (by omega), ?_⟩
      rw [wC_chr o ho _ (by omega)]
      dsimp only
      rw [nI_eq (by omega) (by omega), pl_inc]
      refine ⟨fun c2 => ih _ ⟨rfl, fun j hj => ?_⟩, fun c2 => ⟨rfl, hn (fun z => c2 (z.2 k hk))⟩⟩
      by_cases ej : j = k
      · rw [ej]
        exact c2
      · exact g j (by omega)
  · rw [z.1]
    congr 1
    omega
/-- one word of the text -/
theorem one_L55 {K : Int32 → Int32 → Int32 → sl_M → Prop} (tx : TX n t) {o w f e k' : Nat} {x3 : Int32} (ho : o < 2) (hw : w < 6) (hf : f ≤ e) (he : e ≤ n) (h1 : ∀ i, i < n → μ 44 i = nI (t i)) (h2 : μ 43 2 = nI e) (hy : wq t o w f e → Q x3 μ) (hn : ¬ wq t o w f e → tp_readOneOf_L55 o Q k' (nI f) (x3 + 1) (nI (wS o w + wLn o w + 1)) (nI (wS o w + wLn o w + 1)) μ) : tp_readOneOf_L55 o Q (k' + 1 + wLn o w) (nI f) x3 (nI (wS o w)) (nI (wS o w)) μ := by
  have B := wLn_B o ho w hw
  have sB := sl_B o ho
  have : ∀ r p, p + r = wLn o w → tp_readOneOf_L55 o Q (k' + 1 + r) (nI f) x3 (nI (wS o w)) (nI (wS o w + p)) μ := by
    intro r
    induction r with
    | zero =>
      intro p hp
      have ep : p = wLn o w := by omega
      subst ep
      refine ⟨ho, fun _ => ⟨ho, vp_in_nI (by omega) (by omega), ?_⟩, fun z => absurd (by rw [nI_ltI (by omega) (by omega)]; omega) z⟩
      rw [wC_chr o ho _ (by omega)]
      dsimp only
      rw [wC_sp o ho w hw]
      refine ⟨fun _ => tp_isSame_s tx ho hw hf he h1 h2 (fun c => ⟨fun z => absurd z (by decide), fun _ => hy c⟩) (fun c => ⟨fun _ => ?_, fun z => absurd rfl z⟩), fun z => absurd rfl z⟩
      rintro v15 rfl
      rw [pl_inc]
      exact hn c
    | succ r ih =>
      intro p hp
      have cB := wC_B o ho w hw p (by omega)
      refine ⟨ho, fun _ => ⟨ho, vp_in_nI (by omega) (by omega), ?_⟩, fun z => absurd (by rw [nI_ltI (by omega) (by omega)]; omega) z⟩
      rw [wC_chr o ho _ (by omega)]
      dsimp only
      rw [show (32 : Int32) = nI 32 from rfl, nI_eq (by omega) (by omega), pl_inc]
      refine ⟨fun z => absurd z (by omega), fun _ => ?_⟩
      exact ih (p + 1) (by omega)
  exact this (wLn o w) 0 (by omega)
theorem tp_words (tx : TX n t) {o f e : Nat} (ho : o < 2) (hf : f ≤ e) (he : e ≤ n) (h1 : ∀ i, i < n → μ 44 i = nI (t i)) (h2 : μ 43 2 = nI e) (hQ : wix n t o f e ≠ -1 → Q (wix n t o f e) μ) (hF : wix n t o f e = -1 → tp_fail (nI f) μ (fun m => Q (-1) m)) : ∃ k, tp_readOneOf_L55 o Q k (nI f) 0 0 0 μ := by
  unfold wix at hQ hF
  have s0 : wS o 0 = 0 := by
    have : ∀ o, o < 2 → wS o 0 = 0 := by decide
    exact this o ho
  have x1 := wS_nx o ho 0 (by omega)
  have x2 := wS_nx o ho 1 (by omega)
  have x3 := wS_nx o ho 2 (by omega)
  have x4 := wS_nx o ho 3 (by omega)
  have x5 := wS_nx o ho 4 (by omega)
  have x6 := wS_end o ho
  have sB := sl_B o ho
  have B5 := wLn_B o ho 5 (by omega)
  have go : tp_readOneOf_L55 o Q (1 + 1 + wLn o 5 + 1 + wLn o 4 + 1 + wLn o 3 + 1 + wLn o 2 + 1 + wLn o 1 + 1 + wLn o 0) (nI f) 0 (nI (wS o 0)) (nI (wS o 0)) μ := by
    refine one_L55 (K := fun _ _ _ _ => True) tx ho (by omega) hf he h1 h2 (fun c => ?_) (fun c0 => ?_)
    · rw [if_pos c] at hQ
      exact hQ (by decide)
    rw [← x1]
    refine one_L55 (K := fun _ _ _ _ => True) tx ho (by omega) hf he h1 h2 (fun c => ?_) (fun c1 => ?_)
    · rw [if_neg c0, if_pos c] at hQ
      exact hQ (by decide)
    rw [← x2]
    refine one_L55 (K := fun _ _ _ _ => True) tx ho (by omega) hf he h1 h2 (fun c => ?_) (fun c2 => ?_)
    · rw [if_neg c0, if_neg c1, if_pos c] at hQ
      exact hQ (by decide)
    rw [← x3]
    refine one_L55 (K := fun _ _ _ _ => True) tx ho (by omega) hf he h1 h2 (fun c => ?_) (fun c3 => ?_)
    · rw [if_neg c0, if_neg c1, if_neg c2, if_pos c] at hQ
      exact hQ (by decide)
    rw [← x4]
    refine one_L55 (K := fun _ _ _ _ => True) tx ho (by omega) hf he h1 h2 (fun c => ?_) (fun c4 => ?_)
    · rw [if_neg c0, if_neg c1, if_neg c2, if_neg c3, if_pos c] at hQ
      exact hQ (by decide)
    rw [← x5]
    refine one_L55 (K := fun _ _ _ _ => True) tx ho (by omega) hf he h1 h2 (fun c => ?_) (fun c5 => ?_)
    · rw [if_neg c0, if_neg c1, if_neg c2, if_neg c3, if_neg c4, if_pos c] at hQ
      exact hQ (by decide)
    rw [if_neg c0, if_neg c1, if_neg c2, if_neg c3, if_neg c4, if_neg c5] at hF
    rw [x6]
    exact ⟨ho, fun z => absurd z (by rw [nI_ltI (by omega) (by omega)]; omega), fun _ => hF rfl⟩
  rw [s0] at go
  exact ⟨_, go⟩
theorem tp_letters (tx : TX n t) {o : Nat} {K : Int32 → sl_M → Prop} (hK : ∀ m, TC n t (false, i + wr n t 80 i) m → Fr f43 μ m → ∃ k, tp_readOneOf_L55 o Q k (nI i) 0 0 0 m) (h : TC n t (false, i) μ) : ∃ k, tp_readOneOf_L7 o Q k (nI i) 0 μ := by
  have n80 := tx.1
  have i1 := h.1
  have : ∀ r p j m, p + r = 80 → i + wr n t 80 i = j + wr n t r j → TC n t (false, j) m → Fr f43 μ m → tp_readOneOf_L7 o Q (r + 1) (nI i) (nI p) m := by
    intro r
    induction r with
    | zero =>
      intro p j m hp hj hm hf
      refine ⟨fun z => absurd z (by rw [show (80 : Int32) = nI 80 from rfl, nI_ltI (by omega) (by omega)]; omega), fun _ => hK m ?_ hf⟩
      rw [hj]
      exact hm
    | succ r ih =>
      intro p j m hp hj hm hf
      refine ⟨fun _ => ?_, fun z => absurd (by rw [show (80 : Int32) = nI 80 from rfl, nI_ltI (by omega) (by omega)]; omega) z⟩
      cases c : lw n t j with
      | false =>
        rw [wr_n c] at hj
        have q := hK m (by rw [hj]; exact hm) hf
        refine tp_letter_s tx hm ⟨fun _ => q, fun z => tp_letter_s tx hm ⟨fun y => ?_, fun _ => q⟩⟩
        rcases lw_no tx c with a | a
        · exact absurd a z
        · exact absurd y a
      | true =>
        obtain ⟨l1, l2, l3⟩ := lw_yes tx c
        have d := of_decide_eq_true c
        rw [wr_y c] at hj
        refine tp_letter_s tx hm ⟨fun z => absurd z l2, fun _ => tp_letter_s tx hm ⟨fun _ => ?_, fun z => absurd l3 z⟩⟩
        rintro m6 rfl
        have ea : m 43 2 = nI j := by
          rw [hm.2.2.2.1]
          rfl
        rw [ea, pl_inc, pl_inc]
        exact ih (p + 1) (j + 1) _ (by omega) (by omega) (hm.set (Fr.rfl'.up (by omega)) d.1 pl_up_s (by rw [pl_up_k (by omega)]; exact hm.2.2.2.2)) (hf.up rfl)
  exact ⟨_, this 80 0 i μ rfl rfl h Fr.rfl'⟩
theorem wq_0 {o w f : Nat} (ho : o < 2) (hw : w < 6) : ¬ wq t o w f f := fun z => by
  have := wLn_B o ho w hw
  have := z.1
  omega
theorem wi_0 {o f : Nat} (ho : o < 2) : wix n t o f f = -1 := by
  unfold wix
  rw [if_neg (wq_0 ho (by omega)), if_neg (wq_0 ho (by omega)), if_neg (wq_0 ho (by omega)), if_neg (wq_0 ho (by omega)), if_neg (wq_0 ho (by omega)), if_neg (wq_0 ho (by omega))]
theorem tp_readOneOf_s (tx : TX n t) (h : TC n t st μ) {o : Nat} (ho : o < 2) (hQ : ∀ m, Fr f43 μ m → TC n t (wd n t o st).2 m → Q (wd n t o st).1 m) : tp_readOneOf o μ Q := by
  have n80 := tx.1
  rintro v17 rfl
  unfold wd at hQ
  cases hb : st.1 with
  | true =>
    rw [hb, if_pos rfl] at hQ
    have es : st = (true, st.2) := by rw [← hb]
    have ea : μ 43 2 = nI n := by
      rw [h.2.2.2.1, hb]
      rfl
    rw [ea]
    refine ⟨1, fun _ => tp_letter_s tx h ?_, fun z => absurd (by decide) z⟩
    rw [hb, if_pos rfl]
    refine ⟨fun _ => tp_words tx ho (Nat.le_refl n) (Nat.le_refl n) h.2.2.1 ea (fun z => absurd (wi_0 ho) z) (fun _ => tp_fail_s tx h (Nat.le_refl n) (fun m hf hm => hQ m hf ?_)), fun z => absurd (by decide) z⟩
    rw [hb, if_pos rfl] at hm
    exact hm
  | false =>
    rw [hb, if_neg (by decide)] at hQ
    have es : st = (false, st.2) := by rw [← hb]
    rw [es] at h
    have ea : μ 43 2 = nI st.2 := by
      rw [h.2.2.2.1]
      rfl
    have wl := wr_le tx (i := st.2) h.1
    rw [ea]
    refine tp_letters (K := fun _ _ => True) tx (fun m hm hf => ?_) h
    have em : m 43 2 = nI (st.2 + wr n t 80 st.2) := by
      rw [hm.2.2.2.1]
      rfl
    refine tp_words tx ho (by omega) wl hm.2.2.1 em (fun z => ?_) (fun z => ?_)
    · rw [if_neg z] at hQ
      exact hQ m hf hm
    · rw [if_pos z] at hQ
      refine tp_fail_s tx hm h.1 (fun m2 f2 h2 => ?_)
      have q := hQ m2 (hf.tr f2) h2
      rw [z] at q
      exact q
/-! the reference's numbers of words -/
def hH (u : Nat → Nat) : Nat → Nat
  | 0 => 0
  | r + 1 => 27 * hH u r + u r
def rD (t : Nat → Nat) (i : Nat) : Nat → Nat := fun k => t (i + k) - 96
def wD (o w : Nat) : Nat → Nat := fun k => wC o (wS o w + k) - 96
theorem hH_inj {u v : Nat → Nat} : ∀ {r r' : Nat}, (∀ k, k < r → 1 ≤ u k ∧ u k ≤ 26) → (∀ k, k < r' → 1 ≤ v k ∧ v k ≤ 26) → hH u r = hH v r' → r = r' ∧ ∀ k, k < r → u k = v k
  | 0, 0, _, _, _ => ⟨rfl, fun k hk => absurd hk (by omega)⟩
  | 0, r' + 1, _, hv, h => by
    have := hv r' (by omega)
    have h' : 0 = 27 * hH v r' + v r' := h
    omega
  | r + 1, 0, hu, _, h => by
    have := hu r (by omega)
    have h' : 27 * hH u r + u r = 0 := h
    omega
  | r + 1, r' + 1, hu, hv, h => by
    have a := hu r (by omega)
    have b := hv r' (by omega)
    have h' : 27 * hH u r + u r = 27 * hH v r' + v r' := h
    have e1 : u r = v r' := by omega
    have e2 : hH u r = hH v r' := by omega
    have ih := hH_inj (r := r) (r' := r') (fun k hk => hu k (by omega)) (fun k hk => hv k (by omega)) e2
    refine ⟨by omega, fun k hk => ?_⟩
    by_cases e : k = r
    · rw [e, e1, ← ih.1]
    · exact ih.2 k (by omega)
theorem hH_B {u : Nat → Nat} : ∀ {r : Nat}, (∀ k, k < r → u k ≤ 26) → hH u r < 27 ^ r
  | 0, _ => by show 0 < 1; omega
  | r + 1, h => by
    have ih := hH_B (u := u) (r := r) (fun k hk => h k (by omega))
    have a := h r (by omega)
    show 27 * hH u r + u r < 27 ^ (r + 1)
    rw [Nat.pow_succ]
    omega
theorem lg_eq {x y : Int64} : lg_cmp x y = 0 ↔ x = y := by
  unfold lg_cmp
  by_cases a : y < x
  · have ne : x ≠ y := fun e => by
      rw [e, fa_lt64] at a
      omega
    simp [a, ne]
  · by_cases b : x = y
    · simp [b]
    · simp [a, b]
theorem hx_B (tx : TX n t) {r : Nat} (hr : ∀ j, j < r → lw n t (i + j) = true) : ∀ k, k < r → 1 ≤ rD t i k ∧ rD t i k ≤ 26 := fun k hk => by
  have d := of_decide_eq_true (hr k hk)
  show 1 ≤ t (i + k) - 96 ∧ t (i + k) - 96 ≤ 26
  omega
theorem hx_eq (tx : TX n t) (hi : i ≤ n) {o w : Nat} (ho : o < 2) (hw : w < 6) : (if wr n t 80 i ≤ 7 then lN (hH (rD t i) (wr n t 80 i)) else (-1 : Int32).toInt64) = lN (hH (wD o w) (wLn o w)) ↔ wq t o w i (i + wr n t 80 i) := by
  have B := wLn_B o ho w hw
  have rb := hx_B (i := i) tx (fun j hj => wr_lw 80 i j hj)
  have wb : ∀ k, k < wLn o w → 1 ≤ wD o w k ∧ wD o w k ≤ 26 := fun k hk => by
    have := wC_B o ho w hw k hk
    show 1 ≤ wC o (wS o w + k) - 96 ∧ wC o (wS o w + k) - 96 ≤ 26
    omega
  have p7 : ∀ k, k ≤ 7 → 27 ^ k ≤ 27 ^ 7 := fun k hk => Nat.pow_le_pow_right (by omega) hk
  have h2 := hH_B (r := wLn o w) (fun k hk => (wb k hk).2)
  have h3 := p7 (wLn o w) (by omega)
  by_cases c : wr n t 80 i ≤ 7
  · rw [if_pos c]
    have h1 := hH_B (r := wr n t 80 i) (fun k hk => (rb k hk).2)
    have h4 := p7 (wr n t 80 i) c
    rw [fb_lN_inj (by omega) (by omega)]
    constructor
    · intro e
      have q := hH_inj rb wb e
      refine ⟨by rw [q.1], fun k hk => ?_⟩
      have q2 : t (i + k) - 96 = wC o (wS o w + k) - 96 := q.2 k (by omega)
      have d := of_decide_eq_true (wr_lw (n := n) (t := t) 80 i k (by omega))
      have := wC_B o ho w hw k hk
      omega
    · rintro ⟨e1, e2⟩
      have e3 : wr n t 80 i = wLn o w := by omega
      rw [e3]
      have : ∀ r, r ≤ wLn o w → hH (rD t i) r = hH (wD o w) r := by
        intro r
        induction r with
        | zero => intro _; rfl
        | succ r ih =>
          intro hr
          show 27 * hH (rD t i) r + rD t i r = 27 * hH (wD o w) r + wD o w r
          rw [ih (by omega)]
          have : rD t i r = wD o w r := by
            show t (i + r) - 96 = wC o (wS o w + r) - 96
            rw [e2 r (by omega)]
          rw [this]
      exact this _ (Nat.le_refl _)
  · rw [if_neg c]
    constructor
    · intro e
      have a := congrArg Int64.toInt e
      rw [pk_lT (by omega)] at a
      have : ((-1 : Int32).toInt64).toInt = -1 := rfl
      omega
    · rintro ⟨e1, -⟩
      omega
theorem mo_wordHere_s (tx : TX n t) (h : TM n t (false, i) μ) (hR : R (if wr n t 80 i ≤ 7 then lN (hH (rD t i) (wr n t 80 i)) else (-1 : Int32).toInt64) μ) : mo_wordHere μ R := by
  have n80 := tx.1
  have i1 : i ≤ n := h.1
  have wl := wr_le tx i1
  have e21 : μ 104 21 = nI i := h.2.2.2.1
  unfold mo_wordHere
  rw [e21]
  refine lq3 (fun k x1 x3 x4 => mo_wordHere_L10 R k x1 x3 x4 μ) (fun r x1 x3 x4 => x4 = nI (i + r) ∧ x1 = (if r ≤ 7 then lN (hH (rD t i) r) else (-1 : Int32).toInt64) ∧ x3 = (if r ≤ 7 then nI r else 9)) (wr n t 80 i) _ _ _ ⟨rfl, rfl, rfl⟩ ?_ ?_
  · rintro k x1 x3 x4 ⟨rfl, rfl, rfl⟩
    have we := wr_end (n := n) (t := t) 80 i (by omega)
    refine ⟨fun c => ?_, fun c => hR⟩
    rw [h.2.1, nI_ltI (by omega) (by omega)] at c
    rw [nI_clamp (by omega), h.2.2.1 _ c]
    refine ⟨vp_in_nI (by omega) (by decide), ?_⟩
    rw [mo_in_i]
    refine pl_bb (fun _ => hR) (fun z => ?_)
    have e : lt n t (i + wr n t 80 i) = nI (t (i + wr n t 80 i)) := if_pos c
    rcases lw_no tx we with a | a
    · rw [e] at a
      exact absurd z.1 (fa_of_lt a).2.1
    · rw [e] at a
      exact absurd z.2 a
  · rintro k r x1 x3 x4 hr ⟨rfl, rfl, rfl⟩ ih
    have c := wr_lw 80 i r hr
    obtain ⟨l1, l2, l3⟩ := lw_yes tx c
    have d := of_decide_eq_true c
    rw [l1] at l2 l3
    have rb := hx_B (i := i) tx (fun j hj => wr_lw 80 i j hj)
    refine ⟨fun _ => ⟨vp_in_nI (by omega) (by decide), ?_⟩, fun z => absurd (by rw [h.2.1, nI_ltI (by omega) (by omega)]; exact d.1) z⟩
    rw [nI_clamp (by omega), h.2.2.1 _ d.1, mo_in_i]
    refine pl_bb (fun z => absurd ⟨fa_of_nlt l2, l3⟩ z) (fun _ => ?_)
    by_cases c7 : r < 7
    · rw [if_pos (show r ≤ 7 by omega), if_pos (show r ≤ 7 by omega)]
      have hb := hH_B (u := rD t i) (r := r + 1) (fun k hk => (rb k (by omega)).2)
      have p7 : 27 ^ (r + 1) ≤ 27 ^ 7 := Nat.pow_le_pow_right (by omega) (by omega)
      refine ⟨fun _ => ⟨vp_in_nI (by omega) (by decide), ?_⟩, fun z => absurd ((nI_ltI (a := r) (b := 7) (by omega) (by omega)).mpr c7) z⟩
      have ev : (((27 : Int32).toInt64 * lN (hH (rD t i) r)) + (nI (t (i + r))).toInt64) - (97 : Int32).toInt64 + (1 : Int32).toInt64 = lN (hH (rD t i) (r + 1)) := by
        rw [nI_l (by omega), show (27 : Int32).toInt64 = lN 27 from rfl, show (97 : Int32).toInt64 = lN 97 from rfl, show (1 : Int32).toInt64 = lN 1 from rfl, lN_mul, lN_add, lN_sub (by omega), lN_add]
        congr 1
        show _ = 27 * hH (rD t i) r + (t (i + r) - 96)
        omega
      rw [h.2.2.1 _ d.1, ev]
      have e0 : ¬ lg_cmp (lN (hH (rD t i) (r + 1))) (0 : Int32).toInt64 < 0 := by
        rw [show (0 : Int32).toInt64 = lN 0 from rfl]
        unfold lg_cmp
        by_cases p : 0 < hH (rD t i) (r + 1)
        · rw [if_pos ((pk_lLT (a := 0) (by omega) (by omega)).mpr p)]
          decide
        · rw [if_neg (fun z => p ((pk_lLT (a := 0) (by omega) (by omega)).mp z)), if_pos (by rw [show hH (rD t i) (r + 1) = 0 by omega])]
          decide
      refine ⟨fun z => absurd z e0, fun _ => ?_⟩
      rw [pl_inc, pl_inc]
      exact ih _ _ _ ⟨by rw [Nat.add_assoc], by rw [if_pos (by omega)], by rw [if_pos (by omega)]⟩
    · have n7 : ¬ (if r ≤ 7 then nI r else (9 : Int32)) < 7 := by
        by_cases e : r ≤ 7
        · rw [if_pos e, show (7 : Int32) = nI 7 from rfl, nI_ltI (by omega) (by omega)]
          omega
        · rw [if_neg e]
          decide
      refine ⟨fun z => absurd z n7, fun _ => ⟨fun _ => ?_, fun z => absurd (by decide) z⟩⟩
      rw [pl_inc]
      exact ih _ _ _ ⟨by rw [Nat.add_assoc], by rw [if_neg (by omega)], by rw [if_neg (by omega)]⟩
theorem mo_passWord_s (tx : TX n t) (h : TM n t (false, i) μ) (hP : ∀ m, Fr fG μ m → TM n t (false, i + wr n t 80 i) m → P m) : mo_passWord μ P := by
  have n80 := tx.1
  have i1 : i ≤ n := h.1
  have wl := wr_le tx i1
  refine lp0 (fun k m => mo_passWord_L0 P k m) (fun r m => Fr fG μ m ∧ TM n t (false, i + r) m) (wr n t 80 i) _ ⟨Fr.rfl', h⟩ ?_ ?_
  · rintro k m ⟨hf, hm⟩
    have we := wr_end (n := n) (t := t) 80 i (by omega)
    refine mo_here_s tx hm ?_
    rw [mo_in_i]
    refine pl_bb (fun _ => hP m hf hm) (fun z => ?_)
    rcases lw_no tx we with a | a
    · exact absurd z.1 (fa_of_lt a).2.1
    · exact absurd z.2 a
  · rintro k r m hr ⟨hf, hm⟩ ih
    obtain ⟨l1, l2, l3⟩ := lw_yes tx (wr_lw 80 i r hr)
    refine mo_here_s tx hm ?_
    rw [mo_in_i]
    refine pl_bb (fun z => absurd ⟨fa_of_nlt l2, l3⟩ z) (fun _ => ?_)
    rintro m5 rfl
    have e21 : m 104 21 = nI (i + r) := hm.2.2.2.1
    rw [e21, pl_inc]
    exact ih _ ⟨hf.up (by omega), hm.set (Fr.rfl'.up (by omega)) (show i + (r + 1) ≤ n by omega) pl_up_s (by rw [pl_up_k (by omega)]; exact hm.2.2.2.2)⟩

theorem wo_00 (hQ : R (lN (hH (wD 0 0) (wLn 0 0))) μ) : mo_wordOf 108 111 119 0 0 0 μ R := by
  rw [show lN (hH (wD 0 0) (wLn 0 0)) = ((((27 : Int32).toInt64 * (((((27 : Int32).toInt64 * (((((27 : Int32).toInt64 * (0 : Int32).toInt64) + (108 : Int32).toInt64) - (97 : Int32).toInt64) + (1 : Int32).toInt64)) + (111 : Int32).toInt64) - (97 : Int32).toInt64) + (1 : Int32).toInt64)) + (119 : Int32).toInt64) - (97 : Int32).toInt64) + (1 : Int32).toInt64 from by decide +kernel] at hQ
  exact ⟨fun z => absurd z (by decide), fun _ => ⟨fun z => absurd z (by decide), fun _ => ⟨fun z => absurd z (by decide), fun _ => ⟨fun _ => ⟨fun _ => ⟨fun _ => hQ, fun z => absurd (by decide) z⟩, fun z => absurd (by decide) z⟩, fun z => absurd (by decide) z⟩⟩⟩⟩
theorem wo_01 (hQ : R (lN (hH (wD 0 1) (wLn 0 1))) μ) : mo_wordOf 104 105 103 104 0 0 μ R := by
  rw [show lN (hH (wD 0 1) (wLn 0 1)) = ((((27 : Int32).toInt64 * (((((27 : Int32).toInt64 * (((((27 : Int32).toInt64 * (((((27 : Int32).toInt64 * (0 : Int32).toInt64) + (104 : Int32).toInt64) - (97 : Int32).toInt64) + (1 : Int32).toInt64)) + (105 : Int32).toInt64) - (97 : Int32).toInt64) + (1 : Int32).toInt64)) + (103 : Int32).toInt64) - (97 : Int32).toInt64) + (1 : Int32).toInt64)) + (104 : Int32).toInt64) - (97 : Int32).toInt64) + (1 : Int32).toInt64 from by decide +kernel] at hQ
  exact ⟨fun z => absurd z (by decide), fun _ => ⟨fun z => absurd z (by decide), fun _ => ⟨fun z => absurd z (by decide), fun _ => ⟨fun z => absurd z (by decide), fun _ => ⟨fun _ => ⟨fun _ => hQ, fun z => absurd (by decide) z⟩, fun z => absurd (by decide) z⟩⟩⟩⟩⟩
theorem wo_02 (hQ : R (lN (hH (wD 0 2) (wLn 0 2))) μ) : mo_wordOf 119 101 105 103 104 116 μ R := by
  rw [show lN (hH (wD 0 2) (wLn 0 2)) = ((((27 : Int32).toInt64 * (((((27 : Int32).toInt64 * (((((27 : Int32).toInt64 * (((((27 : Int32).toInt64 * (((((27 : Int32).toInt64 * (((((27 : Int32).toInt64 * (0 : Int32).toInt64) + (119 : Int32).toInt64) - (97 : Int32).toInt64) + (1 : Int32).toInt64)) + (101 : Int32).toInt64) - (97 : Int32).toInt64) + (1 : Int32).toInt64)) + (105 : Int32).toInt64) - (97 : Int32).toInt64) + (1 : Int32).toInt64)) + (103 : Int32).toInt64) - (97 : Int32).toInt64) + (1 : Int32).toInt64)) + (104 : Int32).toInt64) - (97 : Int32).toInt64) + (1 : Int32).toInt64)) + (116 : Int32).toInt64) - (97 : Int32).toInt64) + (1 : Int32).toInt64 from by decide +kernel] at hQ
  exact ⟨fun z => absurd z (by decide), fun _ => ⟨fun z => absurd z (by decide), fun _ => ⟨fun z => absurd z (by decide), fun _ => ⟨fun z => absurd z (by decide), fun _ => ⟨fun z => absurd z (by decide), fun _ => ⟨fun z => absurd z (by decide), fun _ => hQ⟩⟩⟩⟩⟩⟩
theorem wo_03 (hQ : R (lN (hH (wD 0 3) (wLn 0 3))) μ) : mo_wordOf 108 101 110 103 116 104 μ R := by
  rw [show lN (hH (wD 0 3) (wLn 0 3)) = ((((27 : Int32).toInt64 * (((((27 : Int32).toInt64 * (((((27 : Int32).toInt64 * (((((27 : Int32).toInt64 * (((((27 : Int32).toInt64 * (((((27 : Int32).toInt64 * (0 : Int32).toInt64) + (108 : Int32).toInt64) - (97 : Int32).toInt64) + (1 : Int32).toInt64)) + (101 : Int32).toInt64) - (97 : Int32).toInt64) + (1 : Int32).toInt64)) + (110 : Int32).toInt64) - (97 : Int32).toInt64) + (1 : Int32).toInt64)) + (103 : Int32).toInt64) - (97 : Int32).toInt64) + (1 : Int32).toInt64)) + (116 : Int32).toInt64) - (97 : Int32).toInt64) + (1 : Int32).toInt64)) + (104 : Int32).toInt64) - (97 : Int32).toInt64) + (1 : Int32).toInt64 from by decide +kernel] at hQ
  exact ⟨fun z => absurd z (by decide), fun _ => ⟨fun z => absurd z (by decide), fun _ => ⟨fun z => absurd z (by decide), fun _ => ⟨fun z => absurd z (by decide), fun _ => ⟨fun z => absurd z (by decide), fun _ => ⟨fun z => absurd z (by decide), fun _ => hQ⟩⟩⟩⟩⟩⟩
theorem wo_04 (hQ : R (lN (hH (wD 0 4) (wLn 0 4))) μ) : mo_wordOf 110 117 109 98 101 114 μ R := by
  rw [show lN (hH (wD 0 4) (wLn 0 4)) = ((((27 : Int32).toInt64 * (((((27 : Int32).toInt64 * (((((27 : Int32).toInt64 * (((((27 : Int32).toInt64 * (((((27 : Int32).toInt64 * (((((27 : Int32).toInt64 * (0 : Int32).toInt64) + (110 : Int32).toInt64) - (97 : Int32).toInt64) + (1 : Int32).toInt64)) + (117 : Int32).toInt64) - (97 : Int32).toInt64) + (1 : Int32).toInt64)) + (109 : Int32).toInt64) - (97 : Int32).toInt64) + (1 : Int32).toInt64)) + (98 : Int32).toInt64) - (97 : Int32).toInt64) + (1 : Int32).toInt64)) + (101 : Int32).toInt64) - (97 : Int32).toInt64) + (1 : Int32).toInt64)) + (114 : Int32).toInt64) - (97 : Int32).toInt64) + (1 : Int32).toInt64 from by decide +kernel] at hQ
  exact ⟨fun z => absurd z (by decide), fun _ => ⟨fun z => absurd z (by decide), fun _ => ⟨fun z => absurd z (by decide), fun _ => ⟨fun z => absurd z (by decide), fun _ => ⟨fun z => absurd z (by decide), fun _ => ⟨fun z => absurd z (by decide), fun _ => hQ⟩⟩⟩⟩⟩⟩
theorem wo_05 (hQ : R (lN (hH (wD 0 5) (wLn 0 5))) μ) : mo_wordOf 108 97 121 101 114 0 μ R := by
  rw [show lN (hH (wD 0 5) (wLn 0 5)) = ((((27 : Int32).toInt64 * (((((27 : Int32).toInt64 * (((((27 : Int32).toInt64 * (((((27 : Int32).toInt64 * (((((27 : Int32).toInt64 * (0 : Int32).toInt64) + (108 : Int32).toInt64) - (97 : Int32).toInt64) + (1 : Int32).toInt64)) + (97 : Int32).toInt64) - (97 : Int32).toInt64) + (1 : Int32).toInt64)) + (121 : Int32).toInt64) - (97 : Int32).toInt64) + (1 : Int32).toInt64)) + (101 : Int32).toInt64) - (97 : Int32).toInt64) + (1 : Int32).toInt64)) + (114 : Int32).toInt64) - (97 : Int32).toInt64) + (1 : Int32).toInt64 from by decide +kernel] at hQ
  exact ⟨fun z => absurd z (by decide), fun _ => ⟨fun z => absurd z (by decide), fun _ => ⟨fun z => absurd z (by decide), fun _ => ⟨fun z => absurd z (by decide), fun _ => ⟨fun z => absurd z (by decide), fun _ => ⟨fun _ => hQ, fun z => absurd (by decide) z⟩⟩⟩⟩⟩⟩
theorem wo_10 (hQ : R (lN (hH (wD 1 0) (wLn 1 0))) μ) : mo_wordOf 115 104 105 102 116 0 μ R := by
  rw [show lN (hH (wD 1 0) (wLn 1 0)) = ((((27 : Int32).toInt64 * (((((27 : Int32).toInt64 * (((((27 : Int32).toInt64 * (((((27 : Int32).toInt64 * (((((27 : Int32).toInt64 * (0 : Int32).toInt64) + (115 : Int32).toInt64) - (97 : Int32).toInt64) + (1 : Int32).toInt64)) + (104 : Int32).toInt64) - (97 : Int32).toInt64) + (1 : Int32).toInt64)) + (105 : Int32).toInt64) - (97 : Int32).toInt64) + (1 : Int32).toInt64)) + (102 : Int32).toInt64) - (97 : Int32).toInt64) + (1 : Int32).toInt64)) + (116 : Int32).toInt64) - (97 : Int32).toInt64) + (1 : Int32).toInt64 from by decide +kernel] at hQ
  exact ⟨fun z => absurd z (by decide), fun _ => ⟨fun z => absurd z (by decide), fun _ => ⟨fun z => absurd z (by decide), fun _ => ⟨fun z => absurd z (by decide), fun _ => ⟨fun z => absurd z (by decide), fun _ => ⟨fun _ => hQ, fun z => absurd (by decide) z⟩⟩⟩⟩⟩⟩
theorem wo_11 (hQ : R (lN (hH (wD 1 1) (wLn 1 1))) μ) : mo_wordOf 103 114 111 119 0 0 μ R := by
  rw [show lN (hH (wD 1 1) (wLn 1 1)) = ((((27 : Int32).toInt64 * (((((27 : Int32).toInt64 * (((((27 : Int32).toInt64 * (((((27 : Int32).toInt64 * (0 : Int32).toInt64) + (103 : Int32).toInt64) - (97 : Int32).toInt64) + (1 : Int32).toInt64)) + (114 : Int32).toInt64) - (97 : Int32).toInt64) + (1 : Int32).toInt64)) + (111 : Int32).toInt64) - (97 : Int32).toInt64) + (1 : Int32).toInt64)) + (119 : Int32).toInt64) - (97 : Int32).toInt64) + (1 : Int32).toInt64 from by decide +kernel] at hQ
  exact ⟨fun z => absurd z (by decide), fun _ => ⟨fun z => absurd z (by decide), fun _ => ⟨fun z => absurd z (by decide), fun _ => ⟨fun z => absurd z (by decide), fun _ => ⟨fun _ => ⟨fun _ => hQ, fun z => absurd (by decide) z⟩, fun z => absurd (by decide) z⟩⟩⟩⟩⟩
theorem wo_12 (hQ : R (lN (hH (wD 1 2) (wLn 1 2))) μ) : mo_wordOf 99 108 105 112 0 0 μ R := by
  rw [show lN (hH (wD 1 2) (wLn 1 2)) = ((((27 : Int32).toInt64 * (((((27 : Int32).toInt64 * (((((27 : Int32).toInt64 * (((((27 : Int32).toInt64 * (0 : Int32).toInt64) + (99 : Int32).toInt64) - (97 : Int32).toInt64) + (1 : Int32).toInt64)) + (108 : Int32).toInt64) - (97 : Int32).toInt64) + (1 : Int32).toInt64)) + (105 : Int32).toInt64) - (97 : Int32).toInt64) + (1 : Int32).toInt64)) + (112 : Int32).toInt64) - (97 : Int32).toInt64) + (1 : Int32).toInt64 from by decide +kernel] at hQ
  exact ⟨fun z => absurd z (by decide), fun _ => ⟨fun z => absurd z (by decide), fun _ => ⟨fun z => absurd z (by decide), fun _ => ⟨fun z => absurd z (by decide), fun _ => ⟨fun _ => ⟨fun _ => hQ, fun z => absurd (by decide) z⟩, fun z => absurd (by decide) z⟩⟩⟩⟩⟩
theorem wo_13 (hQ : R (lN (hH (wD 1 3) (wLn 1 3))) μ) : mo_wordOf 109 105 114 114 111 114 μ R := by
  rw [show lN (hH (wD 1 3) (wLn 1 3)) = ((((27 : Int32).toInt64 * (((((27 : Int32).toInt64 * (((((27 : Int32).toInt64 * (((((27 : Int32).toInt64 * (((((27 : Int32).toInt64 * (((((27 : Int32).toInt64 * (0 : Int32).toInt64) + (109 : Int32).toInt64) - (97 : Int32).toInt64) + (1 : Int32).toInt64)) + (105 : Int32).toInt64) - (97 : Int32).toInt64) + (1 : Int32).toInt64)) + (114 : Int32).toInt64) - (97 : Int32).toInt64) + (1 : Int32).toInt64)) + (114 : Int32).toInt64) - (97 : Int32).toInt64) + (1 : Int32).toInt64)) + (111 : Int32).toInt64) - (97 : Int32).toInt64) + (1 : Int32).toInt64)) + (114 : Int32).toInt64) - (97 : Int32).toInt64) + (1 : Int32).toInt64 from by decide +kernel] at hQ
  exact ⟨fun z => absurd z (by decide), fun _ => ⟨fun z => absurd z (by decide), fun _ => ⟨fun z => absurd z (by decide), fun _ => ⟨fun z => absurd z (by decide), fun _ => ⟨fun z => absurd z (by decide), fun _ => ⟨fun z => absurd z (by decide), fun _ => hQ⟩⟩⟩⟩⟩⟩
theorem wo_14 (hQ : R (lN (hH (wD 1 4) (wLn 1 4))) μ) : mo_wordOf 116 105 109 101 115 0 μ R := by
  rw [show lN (hH (wD 1 4) (wLn 1 4)) = ((((27 : Int32).toInt64 * (((((27 : Int32).toInt64 * (((((27 : Int32).toInt64 * (((((27 : Int32).toInt64 * (((((27 : Int32).toInt64 * (0 : Int32).toInt64) + (116 : Int32).toInt64) - (97 : Int32).toInt64) + (1 : Int32).toInt64)) + (105 : Int32).toInt64) - (97 : Int32).toInt64) + (1 : Int32).toInt64)) + (109 : Int32).toInt64) - (97 : Int32).toInt64) + (1 : Int32).toInt64)) + (101 : Int32).toInt64) - (97 : Int32).toInt64) + (1 : Int32).toInt64)) + (115 : Int32).toInt64) - (97 : Int32).toInt64) + (1 : Int32).toInt64 from by decide +kernel] at hQ
  exact ⟨fun z => absurd z (by decide), fun _ => ⟨fun z => absurd z (by decide), fun _ => ⟨fun z => absurd z (by decide), fun _ => ⟨fun z => absurd z (by decide), fun _ => ⟨fun z => absurd z (by decide), fun _ => ⟨fun _ => hQ, fun z => absurd (by decide) z⟩⟩⟩⟩⟩⟩
theorem wo_15 (hQ : R (lN (hH (wD 1 5) (wLn 1 5))) μ) : mo_wordOf 104 101 97 112 0 0 μ R := by
  rw [show lN (hH (wD 1 5) (wLn 1 5)) = ((((27 : Int32).toInt64 * (((((27 : Int32).toInt64 * (((((27 : Int32).toInt64 * (((((27 : Int32).toInt64 * (0 : Int32).toInt64) + (104 : Int32).toInt64) - (97 : Int32).toInt64) + (1 : Int32).toInt64)) + (101 : Int32).toInt64) - (97 : Int32).toInt64) + (1 : Int32).toInt64)) + (97 : Int32).toInt64) - (97 : Int32).toInt64) + (1 : Int32).toInt64)) + (112 : Int32).toInt64) - (97 : Int32).toInt64) + (1 : Int32).toInt64 from by decide +kernel] at hQ
  exact ⟨fun z => absurd z (by decide), fun _ => ⟨fun z => absurd z (by decide), fun _ => ⟨fun z => absurd z (by decide), fun _ => ⟨fun z => absurd z (by decide), fun _ => ⟨fun _ => ⟨fun _ => hQ, fun z => absurd (by decide) z⟩, fun z => absurd (by decide) z⟩⟩⟩⟩⟩
theorem mo_testWordHere_s (tx : TX n t) (h : TM n t (false, i) μ) (hQ : Q (wix n t 0 i (i + wr n t 80 i)) μ) : mo_testWordHere μ Q := by
  have ir := wr_le tx h.1
  have wb := wr_lw (n := n) (t := t) 80 i
  refine mo_wordHere_s tx h ?_
  have key := fun w (hw : w < 6) => hx_eq (o := 0) tx h.1 (by omega) hw
  generalize hxx : (if wr n t 80 i ≤ 7 then lN (hH (rD t i) (wr n t 80 i)) else (-1 : Int32).toInt64) = x at key ⊢
  unfold wix at hQ
  refine wo_00 ?_
  rw [lg_eq, key 0 (by omega)]
  refine ⟨fun c => ?_, fun c0 => ?_⟩
  · rw [if_pos c] at hQ
    exact hQ
  refine wo_01 ?_
  rw [lg_eq, key 1 (by omega)]
  refine ⟨fun c => ?_, fun c1 => ?_⟩
  · rw [if_neg c0, if_pos c] at hQ
    exact hQ
  refine wo_02 ?_
  rw [lg_eq, key 2 (by omega)]
  refine ⟨fun c => ?_, fun c2 => ?_⟩
  · rw [if_neg c0, if_neg c1, if_pos c] at hQ
    exact hQ
  refine wo_03 ?_
  rw [lg_eq, key 3 (by omega)]
  refine ⟨fun c => ?_, fun c3 => ?_⟩
  · rw [if_neg c0, if_neg c1, if_neg c2, if_pos c] at hQ
    exact hQ
  refine wo_04 ?_
  rw [lg_eq, key 4 (by omega)]
  refine ⟨fun c => ?_, fun c4 => ?_⟩
  · rw [if_neg c0, if_neg c1, if_neg c2, if_neg c3, if_pos c] at hQ
    exact hQ
  refine wo_05 ?_
  rw [lg_eq, key 5 (by omega)]
  refine ⟨fun c => ?_, fun c5 => ?_⟩
  · rw [if_neg c0, if_neg c1, if_neg c2, if_neg c3, if_neg c4, if_pos c] at hQ
    exact hQ
  rw [if_neg c0, if_neg c1, if_neg c2, if_neg c3, if_neg c4, if_neg c5] at hQ
  exact hQ
theorem mo_stepWordHere_s (tx : TX n t) (h : TM n t (false, i) μ) (hQ : Q (wix n t 1 i (i + wr n t 80 i)) μ) : mo_stepWordHere μ Q := by
  have ir := wr_le tx h.1
  have wb := wr_lw (n := n) (t := t) 80 i
  refine mo_wordHere_s tx h ?_
  have key := fun w (hw : w < 6) => hx_eq (o := 1) tx h.1 (by omega) hw
  generalize hxx : (if wr n t 80 i ≤ 7 then lN (hH (rD t i) (wr n t 80 i)) else (-1 : Int32).toInt64) = x at key ⊢
  unfold wix at hQ
  refine wo_10 ?_
  rw [lg_eq, key 0 (by omega)]
  refine ⟨fun c => ?_, fun c0 => ?_⟩
  · rw [if_pos c] at hQ
    exact hQ
  refine wo_11 ?_
  rw [lg_eq, key 1 (by omega)]
  refine ⟨fun c => ?_, fun c1 => ?_⟩
  · rw [if_neg c0, if_pos c] at hQ
    exact hQ
  refine wo_12 ?_
  rw [lg_eq, key 2 (by omega)]
  refine ⟨fun c => ?_, fun c2 => ?_⟩
  · rw [if_neg c0, if_neg c1, if_pos c] at hQ
    exact hQ
  refine wo_13 ?_
  rw [lg_eq, key 3 (by omega)]
  refine ⟨fun c => ?_, fun c3 => ?_⟩
  · rw [if_neg c0, if_neg c1, if_neg c2, if_pos c] at hQ
    exact hQ
  refine wo_14 ?_
  rw [lg_eq, key 4 (by omega)]
  refine ⟨fun c => ?_, fun c4 => ?_⟩
  · rw [if_neg c0, if_neg c1, if_neg c2, if_neg c3, if_pos c] at hQ
    exact hQ
  refine wo_15 ?_
  rw [lg_eq, key 5 (by omega)]
  refine ⟨fun c => ?_, fun c5 => ?_⟩
  · rw [if_neg c0, if_neg c1, if_neg c2, if_neg c3, if_neg c4, if_pos c] at hQ
    exact hQ
  rw [if_neg c0, if_neg c1, if_neg c2, if_neg c3, if_neg c4, if_neg c5] at hQ
  exact hQ
end WR
