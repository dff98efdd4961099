/-! conditions: the reference's rows of signs and of what is done -/
abbrev It : Type := Int32 × (Int32 × Int32 × Int32)
abbrev z3 : Int32 × Int32 × Int32 := (0, 0, 0)
abbrev it0 : It := (0, z3)
def DM (D : List It) (m : sl_M) : Prop := m 104 23 = nI D.length ∧ ∀ j, j < D.length → m 122 j = (D.getD j it0).1 ∧ ((D.getD j it0).1 = 0 → m 123 j = (D.getD j it0).2.1 ∧ m 124 j = (D.getD j it0).2.2.1 ∧ m 125 j = (D.getD j it0).2.2.2)
abbrev fX : Nat → Nat → Prop := fun o k => (o = 104 ∧ (k = 21 ∨ k = 22 ∨ k = 23 ∨ k = 28 ∨ k = 30)) ∨ (122 ≤ o ∧ o ≤ 126)
/-- where the reference stands: text, signs that wait, what is done, brackets -/
def RM (μ : sl_M) (n : Nat) (t : Nat → Nat) (st : St) (O : List Int32) (D : List It) (d : Nat) (m : sl_M) : Prop := Fr fX μ m ∧ TM n t st m ∧ PS 126 104 28 O m ∧ DM D m ∧ m 104 30 = nI d
section YA
variable {μ : sl_M} {Q : Int32 → sl_M → Prop} {P : sl_M → Prop} {n : Nat} {t : Nat → Nat} {st : St} {O : List Int32} {D : List It} {d : Nat} {m : sl_M}
theorem PS.fr {bc sc sj : Nat} {tt : List Int32} {m m' : sl_M} {p : Nat → Nat → Prop} (h : PS bc sc sj tt m) (hf : Fr p m m') (hp : ¬ p sc sj ∧ ∀ i, ¬ p bc i) : PS bc sc sj tt m' := ⟨by rw [hf _ _ hp.1]; exact h.1, fun i hi => by rw [hf _ _ (hp.2 i)]; exact h.2 i hi⟩
theorem DM.fr {m m' : sl_M} {p : Nat → Nat → Prop} (h : DM D m) (hf : Fr p m m') (hp : ¬ p 104 23 ∧ ∀ o i, 122 ≤ o → o ≤ 125 → ¬ p o i) : DM D m' := ⟨by rw [hf _ _ hp.1]; exact h.1, fun j hj => by
  rw [hf _ _ (hp.2 122 j (by omega) (by omega)), hf _ _ (hp.2 123 j (by omega) (by omega)), hf _ _ (hp.2 124 j (by omega) (by omega)), hf _ _ (hp.2 125 j (by omega) (by omega))]
  exact h.2 j hj⟩
theorem gD_l {x : It} {j : Nat} (h : j < D.length) : (D ++ [x]).getD j it0 = D.getD j it0 := by simp [List.getD, List.getElem?_append_left h]
theorem gD_e {x : It} : (D ++ [x]).getD D.length it0 = x := by simp
theorem PS.pop {bc sc sj : Nat} {c : Int32} {m : sl_M} (h : PS bc sc sj (O ++ [c]) m) (hne : bc ≠ sc) : PS bc sc sj O (sl_up m sc sj (nI O.length)) ∧ m bc O.length = c ∧ m sc sj = nI (O.length + 1) := by
  have hl : (O ++ [c]).length = O.length + 1 := by simp
  refine ⟨⟨pl_up_s, fun i hi => ?_⟩, ?_, ?_⟩
  · rw [pl_up_o hne, h.2 i (by omega)]
    simp [List.getD, List.getElem?_append_left hi]
  · rw [h.2 O.length (by omega)]
    simp
  · rw [h.1, hl]
/-- one more is done -/
theorem mo_doneIs_s (h : RM μ n t st O D d m) (hD : D.length < 90) {c : Int32} {x : Int32 × Int32 × Int32} (hx : c = 0 → m 123 D.length = x.1 ∧ m 124 D.length = x.2.1 ∧ m 125 D.length = x.2.2) (hP : ∀ m', RM μ n t st O (D ++ [(c, x)]) d m' → P m') : mo_doneIs c m P := by
  obtain ⟨f, h1, h2, h3, h4⟩ := h
  unfold mo_doneIs
  rw [h3.1, nI_clamp (by omega)]
  refine ⟨vp_in_nI hD (by decide), ?_⟩
  rintro m1 rfl m2 rfl
  rw [pl_up_o (show (104 : Nat) ≠ 122 by omega), h3.1, nI_1]
  have G : Fr (fun o k => (o = 122 ∧ k = D.length) ∨ (o = 104 ∧ k = 23)) m (sl_up (sl_up m 122 D.length c) 104 23 (nI (D.length + 1))) := (Fr.rfl'.up (by omega)).up (by omega)
  refine hP _ ⟨f.tr (G.mono (fun o k z => by omega)), h1.fr G (fun o k z => by omega), h2.fr G ⟨by omega, fun i => by omega⟩, ⟨by rw [pl_up_s]; simp, fun j hj => ?_⟩, by rw [G _ _ (by omega)]; exact h4⟩
  have hl : (D ++ [(c, x)]).length = D.length + 1 := by simp
  by_cases e : j = D.length
  · subst e
    rw [gD_e, G 123 _ (by omega), G 124 _ (by omega), G 125 _ (by omega), pl_up_o (by omega), pl_up_s]
    exact ⟨rfl, fun z => hx z⟩
  · rw [gD_l (by omega), G 122 _ (by omega), G 123 _ (by omega), G 124 _ (by omega), G 125 _ (by omega)]
    exact h3.2 j (by omega)
/-- those on top, as long as they are one of two, are done -/
theorem pops_s {a b : Int32} {S : List Int32} (hS : ∀ S' c, S = S' ++ [c] → c ≠ a ∧ c ≠ b) : ∀ (T : List Int32) (D : List It) (m : sl_M), (∀ c, c ∈ T → (c = a ∨ c = b) ∧ c ≠ 0) → RM μ n t st (S ++ T.reverse) D d m → D.length + S.length + T.length ≤ 82 → (∀ m', RM μ n t st S (D ++ T.map (fun c => (c, z3))) d m' → P m') → mo_popsWhile_L0 a b P (T.length + 1) m
  | [], D, m, _, h, hb, hP => by
    have h' : RM μ n t st S D d m := by simpa using h
    have hp := hP m (by simpa using h')
    obtain ⟨f, h1, h2, h3, h4⟩ := h'
    have hb' : D.length + S.length ≤ 82 := by simpa using hb
    refine ⟨fun _ => hp, fun z => ?_⟩
    rw [h2.1] at z ⊢
    rcases List.eq_nil_or_concat S with e | ⟨S', c, e⟩
    · rw [e] at z
      exact absurd (by decide) z
    · have e' : S = S' ++ [c] := by simpa using e
      have hc := hS S' c e'
      have hl : S.length = S'.length + 1 := by rw [e']; simp
      rw [hl, nI_sub1 (by omega), show S'.length + 1 - 1 = S'.length from rfl, nI_clamp (by omega)]
      have em : m 126 S'.length = c := by
        rw [h2.2 _ (by omega), e']
        simp
      rw [em]
      have iv : vp_in (nI S'.length) 90 := vp_in_nI (by omega) (by decide)
      exact ⟨iv, fun y => absurd y hc.1, fun _ => ⟨iv, fun y => absurd y hc.2, fun _ => hp⟩⟩
  | c :: T, D, m, hT, h, hb, hP => by
    have hc := hT c (by simp)
    have eO : S ++ (c :: T).reverse = (S ++ T.reverse) ++ [c] := by simp
    rw [eO] at h
    obtain ⟨f, h1, h2, h3, h4⟩ := h
    obtain ⟨p1, p2, p3⟩ := h2.pop (by omega)
    have hl : (S ++ T.reverse).length = S.length + T.length := by simp
    have hb' : D.length + S.length + (T.length + 1) ≤ 82 := by simpa using hb
    have iv : vp_in (nI (S ++ T.reverse).length) 90 := vp_in_nI (by omega) (by decide)
    have b37 : mo_popsWhile_B37 a b P (mo_popsWhile_L0 a b P (T.length + 1)) m := by
      rintro m1 rfl
      rw [p3, nI_sub1 (by omega), show (S ++ T.reverse).length + 1 - 1 = (S ++ T.reverse).length from rfl, pl_up_s, nI_clamp (by omega), pl_up_o (show (126 : Nat) ≠ 104 by omega), p2]
      refine ⟨iv, ?_⟩
      have G : Fr (fun o k => o = 104 ∧ k = 28) m (sl_up m 104 28 (nI (S ++ T.reverse).length)) := Fr.rfl'.up (by omega)
      refine mo_doneIs_s (x := z3) (O := S ++ T.reverse) ⟨f.tr (G.mono (fun o k z => by omega)), h1.fr G (fun o k z => by omega), p1, h3.fr G ⟨by omega, fun o i _ _ => by omega⟩, by rw [G _ _ (by omega)]; exact h4⟩ (by omega) (fun z => absurd z hc.2) (fun m' h' => ?_)
      refine pops_s hS T _ m' (fun c' hc' => hT c' (by simp [hc'])) h' (by rw [List.length_append]; show D.length + 1 + _ + _ ≤ 82; omega) (fun m'' h'' => hP m'' ?_)
      simpa using h''
    refine ⟨fun z => ?_, fun _ => ?_⟩
    · rw [p3, show (0 : Int32) = nI 0 from rfl, nI_leI (by omega) (by omega)] at z
      omega
    · rw [p3, nI_sub1 (by omega), show (S ++ T.reverse).length + 1 - 1 = (S ++ T.reverse).length from rfl, nI_clamp (by omega), p2]
      refine ⟨iv, fun _ => b37, fun z => ⟨iv, fun _ => b37, fun y => ?_⟩⟩
      rcases hc.1 with q | q
      · exact absurd q z
      · exact absurd q y
theorem pops_w {a b : Int32} {S : List Int32} (hS : ∀ S' c, S = S' ++ [c] → c ≠ a ∧ c ≠ b) {T : List Int32} (hT : ∀ c, c ∈ T → (c = a ∨ c = b) ∧ c ≠ 0) (h : RM μ n t st (S ++ T.reverse) D d m) (hb : D.length + S.length + T.length ≤ 82) (hP : ∀ m', RM μ n t st S (D ++ T.map (fun c => (c, z3))) d m' → P m') : mo_popsWhile a b m P := ⟨_, pops_s hS T D m hT h hb hP⟩
/-- a sign waits -/
theorem mo_waitFor_s (tx : TX n t) {i : Nat} (h : RM μ n t (false, i) O D d m) (hi : i < n) (hb : O.length < 90) {c : Int32} (hP : ∀ m', RM μ n t (false, i + 1) (O ++ [c]) D d m' → P m') : mo_waitFor c m P := by
  have n80 := tx.1
  obtain ⟨f, h1, h2, h3, h4⟩ := h
  unfold mo_waitFor
  rw [h2.1, nI_clamp (by omega)]
  refine ⟨vp_in_nI hb (by decide), ?_⟩
  rintro m1 rfl m2 rfl m3 rfl
  have e21 : m 104 21 = nI i := h1.2.2.2.1
  rw [pl_up_k (show (21 : Nat) ≠ 28 by omega), pl_up_o (show (104 : Nat) ≠ 126 by omega), pl_up_o (show (104 : Nat) ≠ 126 by omega), h2.1, e21, nI_1, nI_1]
  have G : Fr (fun o k => (o = 126) ∨ (o = 104 ∧ (k = 28 ∨ k = 21))) m (sl_up (sl_up (sl_up m 126 O.length c) 104 28 (nI (O.length + 1))) 104 21 (nI (i + 1))) := ((Fr.rfl'.up (by omega)).up (by omega)).up (by omega)
  have G2 : Fr (fun o k => (o = 126) ∨ (o = 104 ∧ k = 28)) m (sl_up (sl_up m 126 O.length c) 104 28 (nI (O.length + 1))) := (Fr.rfl'.up (by omega)).up (by omega)
  refine hP _ ⟨f.tr (G.mono (fun o k z => by omega)), ?_, ?_, h3.fr G ⟨by omega, fun o i _ _ => by omega⟩, by rw [G _ _ (by omega)]; exact h4⟩
  · exact (h1.fr G2 (fun o k z => by omega)).set (Fr.rfl'.up (by omega)) hi pl_up_s (by rw [pl_up_k (by omega), G2 _ _ (by omega)]; exact h1.2.2.2.2)
  · exact (h2.put (by omega)).fr (p := fun o k => o = 104 ∧ k = 21) (Fr.rfl'.up (by omega)) ⟨by omega, fun i => by omega⟩
theorem RM.tm (h : RM μ n t st O D d m) : TM n t st m := h.2.1
theorem mo_here_r (tx : TX n t) (h : RM μ n t st O D d m) (hQ : Q (lt n t st.2) m) : mo_here m Q := mo_here_s tx h.tm hQ
/-- only the reader moves -/
theorem RM.mv (h : RM μ n t st O D d m) {st' : St} {m' : sl_M} (hf : Fr fG m m') (ht : TM n t st' m') : RM μ n t st' O D d m' := ⟨h.1.tr (hf.mono (fun o k z => by omega)), ht, h.2.2.1.fr hf ⟨by omega, fun i => by omega⟩, h.2.2.2.1.fr hf ⟨by omega, fun o i _ _ => by omega⟩, by rw [hf _ _ (by omega)]; exact h.2.2.2.2⟩
theorem tT_bad (h : st.1 = true) : (tT n t st).2 = st := by
  have e1 : wd n t 0 st = (-1, st) := if_pos h
  have e2 : sn n t st = (61, st) := by
    unfold sn
    rw [sk_b h, if_neg Bool.false_ne_true, sk_b h, if_neg Bool.false_ne_true, ex_b h]
  unfold tT
  rw [e1]
  dsimp only
  rw [e2]
  dsimp only
  unfold sg
  rw [sk_b h]
  dsimp only
  rw [nu_bad h]
theorem sg_bad (h : st.1 = true) {most : Nat} : sg n t most st = (0, st) := by
  unfold sg
  rw [sk_b h]
  dsimp only
  rw [nu_bad h, if_neg Bool.false_ne_true]
  rfl
theorem mo_readTest_s (tx : TX n t) {i : Nat} (h : RM μ n t (false, i) O D d m) (hb : D.length < 82) (hbad : (tT n t (false, i)).2.1 = true → ∀ m' D', D'.length ≤ D.length + 1 → RM μ n t (true, (tT n t (false, i)).2.2) O D' d m' → P m') (hok : (tT n t (false, i)).2.1 = false → ∀ m', RM μ n t (false, (tT n t (false, i)).2.2) O (D ++ [(0, (tT n t (false, i)).1)]) d m' → P m') : mo_readTest m P := by
  have n80 := tx.1
  have h1 := h.tm
  have e21 : m 104 21 = nI i := h1.2.2.2.1
  have i1 : i ≤ n := h1.1
  have wl := wr_le tx i1
  have ew : wd n t 0 (false, i) = (wix n t 0 i (i + wr n t 80 i), if wix n t 0 i (i + wr n t 80 i) = -1 then (true, i) else (false, i + wr n t 80 i)) := rfl
  unfold mo_readTest
  refine mo_testWordHere_s tx h1 ?_
  by_cases c : wix n t 0 i (i + wr n t 80 i) = -1
  · rw [c]
    refine ⟨fun _ => ⟨rfl, ?_⟩, fun z => absurd (by decide) z⟩
    rintro m18 rfl
    have es : (tT n t (false, i)).2 = (true, i) := by
      unfold tT
      rw [ew, c, if_pos rfl]
      dsimp only
      have e2 : sn n t (true, i) = (61, (true, i)) := by
        unfold sn
        rw [sk_b rfl, if_neg Bool.false_ne_true, sk_b rfl, if_neg Bool.false_ne_true, ex_b rfl]
      rw [e2]
      dsimp only
      rw [sg_bad rfl]
    refine ⟨fun z => ?_, fun _ => hbad (by rw [es]) _ D (by omega) ?_⟩
    · rw [pl_up_s] at z
      exact absurd z (by decide)
    · rw [es]
      exact h.mv (Fr.rfl'.up (by omega)) (h1.set (Fr.rfl'.up (by omega)) i1 (by rw [pl_up_k (by omega)]; exact e21) (by rw [pl_up_s]; rfl))
  · have hw0 : ¬ wix n t 0 i (i + wr n t 80 i) < 0 := by
      rcases wix_in (n := n) (t := t) (o := 0) (f := i) (e := i + wr n t 80 i) with q | q | q | q | q | q | q
      · rw [q]; decide
      · rw [q]; decide
      · rw [q]; decide
      · rw [q]; decide
      · rw [q]; decide
      · rw [q]; decide
      · exact absurd q c
    have ew2 : wd n t 0 (false, i) = (wix n t 0 i (i + wr n t 80 i), (false, i + wr n t 80 i)) := by rw [ew, if_neg c]
    refine ⟨fun z => absurd z hw0, fun _ => ⟨rfl, ?_⟩⟩
    rintro m19 rfl
    unfold tT at hbad hok
    rw [ew2] at hbad hok
    dsimp only at hbad hok
    generalize wix n t 0 i (i + wr n t 80 i) = w at *
    generalize ej : i + wr n t 80 i = j at *
    have h19 : RM μ n t (false, i) O D d (sl_up m 104 22 0) := h.mv (Fr.rfl'.up (by omega)) (h1.set (Fr.rfl'.up (by omega)) i1 (by rw [pl_up_k (by omega)]; exact e21) (by rw [pl_up_s]; rfl))
    refine ⟨fun _ => ?_, fun z => absurd (by rw [pl_up_s]; rfl) z⟩
    refine mo_passWord_s tx h19.tm (fun m1 f1 t1 => ?_)
    rw [ej] at t1
    have r1 := h19.mv f1 t1
    refine mo_here_r tx r1 ?_
    -- what is laid down
    have b100 : ∀ (st3 : St) (x2 x3 : Int32) (m' : sl_M), RM μ n t st3 O D d m' → (∀ m2, RM μ n t st3 O (D ++ [(0, (w, x2, x3))]) d m2 → P m2) → mo_readTest_B100 P w x2 x3 m' := by
      intro st3 x2 x3 m' r' g
      obtain ⟨f, q1, q2, q3, q4⟩ := r'
      have iv : vp_in (nI D.length) 90 := vp_in_nI (by omega) (by decide)
      unfold mo_readTest_B100
      dsimp only
      rw [q3.1, nI_clamp (by omega)]
      refine ⟨iv, ?_⟩
      rintro m12 rfl
      rw [pl_up_o (show (104 : Nat) ≠ 123 by omega), q3.1, nI_clamp (by omega)]
      refine ⟨iv, ?_⟩
      rintro m13 rfl
      rw [pl_up_o (show (104 : Nat) ≠ 124 by omega), pl_up_o (show (104 : Nat) ≠ 123 by omega), q3.1, nI_clamp (by omega)]
      refine ⟨iv, ?_⟩
      rintro m14 rfl
      have G : Fr (fun o k => (123 ≤ o ∧ o ≤ 125) ∧ k = D.length) m' (sl_up (sl_up (sl_up m' 123 D.length w) 124 D.length x2) 125 D.length x3) := ((Fr.rfl'.up (by omega)).up (by omega)).up (by omega)
      refine mo_doneIs_s (x := (w, x2, x3)) ⟨f.tr (G.mono (fun o k z => by omega)), q1.fr G (fun o k z => by omega), q2.fr G ⟨by omega, fun i => by omega⟩, ⟨by rw [G _ _ (by omega)]; exact q3.1, fun k hk => ?_⟩, by rw [G _ _ (by omega)]; exact q4⟩ (by omega) (fun _ => ⟨by simp [pl_up], by simp [pl_up], by simp [pl_up]⟩) g
      rw [G 122 k (by omega), G 123 k (by omega), G 124 k (by omega), G 125 k (by omega)]
      exact q3.2 k hk
    -- a good sign
    have good : ∀ (x2 : Int32), lt n t j = x2 → x2 ≠ -1 → sn n t (false, j) = (x2, (false, j + 1)) → ∀ m4, m4 = sl_up m1 104 22 0 → mo_readTest_B62 P w x2 m4 := by
      rintro x2 ex2 nx es m4 rfl
      have jl := (lt_lt nx ex2).1
      have e21' : m1 104 21 = nI j := t1.2.2.2.1
      refine ⟨fun _ => ?_, fun z => absurd (by rw [pl_up_s]; rfl) z⟩
      rintro m8 rfl
      rw [pl_up_k (show (21 : Nat) ≠ 22 by omega), e21', pl_inc]
      have t8 : TM n t (false, j + 1) (sl_up (sl_up m1 104 22 0) 104 21 (nI (j + 1))) := t1.set ((Fr.rfl'.up (by omega)).up (by omega)) jl pl_up_s (by rw [pl_up_k (by omega), pl_up_s]; rfl)
      have r8 := r1.mv (st' := (false, j + 1)) (m' := sl_up (sl_up m1 104 22 0) 104 21 (nI (j + 1))) ((Fr.rfl'.up (by omega)).up (by omega)) t8
      refine ⟨fun _ => ?_, fun z => absurd (by rw [pl_up_k (by omega), pl_up_s]; rfl) z⟩
      refine mo_readSigned_s (most := 3) tx t8 (by omega) (by omega) (fun m10 f10 t10 => ?_)
      have r10 := r8.mv f10 t10
      rw [es] at hbad hok
      dsimp only at hbad hok
      refine b100 _ _ _ m10 r10 (fun m2 r2 => ?_)
      cases hb3 : (sg n t 3 (false, j + 1)).2.1 with
      | true =>
        have e3 : (sg n t 3 (false, j + 1)).2 = (true, (sg n t 3 (false, j + 1)).2.2) := Prod.ext hb3 rfl
        rw [e3] at r2
        exact hbad hb3 m2 _ (by simp) r2
      | false =>
        have e3 : (sg n t 3 (false, j + 1)).2 = (false, (sg n t 3 (false, j + 1)).2.2) := Prod.ext hb3 rfl
        rw [e3] at r2
        exact hok hb3 m2 r2
    have sk_y : ∀ c : Int32, lt n t j = c → sk n t c (false, j) = (true, (false, j + 1)) := fun c e => if_pos ⟨rfl, e⟩
    have sk_n : ∀ c : Int32, ¬ lt n t j = c → sk n t c (false, j) = (false, (false, j)) := fun c e => if_neg (fun z => e z.2)
    refine ⟨fun e => ⟨rfl, good _ rfl (by rw [e]; decide) ?_⟩, fun e0 => ⟨fun e => ⟨rfl, good _ rfl (by rw [e]; decide) ?_⟩, fun e1 => ⟨fun e => ⟨rfl, good _ rfl (by rw [e]; decide) ?_⟩, fun e2 => ⟨rfl, ?_⟩⟩⟩⟩
    · unfold sn
      rw [sk_y 60 e, if_pos rfl, e]
    · unfold sn
      rw [sk_n 60 e0, if_neg Bool.false_ne_true, sk_n 62 (by rw [e]; decide), if_neg Bool.false_ne_true]
      unfold ex
      rw [sk_y 61 e, if_pos rfl, e]
    · unfold sn
      rw [sk_n 60 e0, if_neg Bool.false_ne_true, sk_y 62 e, if_pos rfl, e]
    · have es : sn n t (false, j) = (61, (true, j)) := by
        unfold sn
        rw [sk_n 60 e0, if_neg Bool.false_ne_true, sk_n 62 e2, if_neg Bool.false_ne_true]
        unfold ex
        rw [sk_n 61 e1, if_neg Bool.false_ne_true]
      rw [es] at hbad
      dsimp only at hbad
      rw [sg_bad rfl] at hbad
      dsimp only at hbad
      have e21' : m1 104 21 = nI j := t1.2.2.2.1
      rintro m7 rfl
      refine ⟨fun z => ?_, fun _ => ?_⟩
      · rw [pl_up_s] at z
        exact absurd z (by decide)
      · rintro m9 rfl
        rw [Int32.add_zero, up_id rfl]
        refine ⟨fun z => ?_, fun _ => ?_⟩
        · rw [pl_up_s] at z
          exact absurd z (by decide)
        · refine b100 (true, j) _ _ _ (r1.mv (Fr.rfl'.up (by omega)) (t1.set (Fr.rfl'.up (by omega)) t1.1 (by rw [pl_up_k (by omega)]; exact e21') (by rw [pl_up_s]; rfl))) (fun m2 r2 => hbad rfl m2 _ (by simp) r2)
end YA
