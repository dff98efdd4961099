/-! conditions: the reference goes the way of the one reader -/
def stx (s : SS) (x : It) (vs : List VV) : Option (List VV) :=
  if x.1 = 0 then some (tst s x.2 :: vs)
  else if x.1 = 33 then (match vs with | v :: r => some ((fun k => !v k) :: r) | [] => none)
  else if x.1 = 38 then (match vs with | b :: a :: r => some ((fun k => a k && b k) :: r) | _ => none)
  else (match vs with | b :: a :: r => some ((fun k => a k || b k) :: r) | _ => none)
def evs (s : SS) : List It → List VV → Option (List VV)
  | [], vs => some vs
  | x :: D, vs => match stx s x vs with
    | some ws => evs s D ws
    | none => none
theorem evs_app {s : SS} : ∀ {A B : List It} {vs ws : List VV}, evs s A vs = some ws → evs s (A ++ B) vs = evs s B ws
  | [], B, vs, ws, h => by
    have : vs = ws := Option.some.inj h
    rw [this]
    rfl
  | x :: A, B, vs, ws, h => by
    show (match stx s x vs with | some us => evs s (A ++ B) us | none => none) = _
    have h' : (match stx s x vs with | some us => evs s A us | none => none) = some ws := h
    cases e : stx s x vs with
    | none =>
      rw [e] at h'
      exact absurd h' (by simp)
    | some us =>
      rw [e] at h'
      exact evs_app h'
theorem stx_33 {s : SS} {v : VV} {r : List VV} : stx s (33, z3) (v :: r) = some ((fun k => !v k) :: r) := by
  unfold stx
  rw [if_neg (by decide), if_pos rfl]
theorem stx_38 {s : SS} {a b : VV} {r : List VV} : stx s (38, z3) (b :: a :: r) = some ((fun k => a k && b k) :: r) := by
  unfold stx
  rw [if_neg (by decide), if_neg (by decide), if_pos rfl]
theorem stx_124 {s : SS} {a b : VV} {r : List VV} : stx s (124, z3) (b :: a :: r) = some ((fun k => a k || b k) :: r) := by
  unfold stx
  rw [if_neg (by decide), if_neg (by decide), if_neg (by decide)]
theorem stx_0 {s : SS} {x : Int32 × Int32 × Int32} {r : List VV} : stx s (0, x) r = some (tst s x :: r) := by
  unfold stx
  rw [if_pos rfl]
def PB (P : List Int32) (W : List VV) (b : VV) : Prop := (P = [] ∧ W = [b]) ∨ (P = [38] ∧ ∃ f a, W = [f, a] ∧ b = fun k => a k && f k)
def PE (P : List Int32) (W : List VV) (v : VV) : Prop := ∃ P' W' b, PB P' W' b ∧ ((P = P' ∧ W = W' ∧ v = b) ∨ ∃ o, P = [124] ++ P' ∧ W = W' ++ [o] ∧ v = fun k => o k || b k)
abbrev itm : Int32 → It := fun c => (c, z3)
theorem PB_ev {s : SS} {P : List Int32} {W V : List VV} {b : VV} (h : PB P W b) : evs s (P.reverse.map itm) (W ++ V) = some (b :: V) := by
  rcases h with ⟨rfl, rfl⟩ | ⟨rfl, f, a, rfl, rfl⟩
  · rfl
  · show (match stx s (38, z3) (f :: a :: V) with | some ws => evs s [] ws | none => none) = _
    rw [stx_38]
    rfl
theorem PE_ev {s : SS} {P : List Int32} {W V : List VV} {v : VV} (h : PE P W v) : evs s (P.reverse.map itm) (W ++ V) = some (v :: V) := by
  obtain ⟨P', W', b, hb, ⟨rfl, rfl, rfl⟩ | ⟨o, rfl, rfl, rfl⟩⟩ := h
  · exact PB_ev hb
  · have e : ([124] ++ P').reverse.map itm = P'.reverse.map itm ++ [itm 124] := by simp
    rw [e, List.append_assoc, evs_app (PB_ev (V := [o] ++ V) hb)]
    show (match stx s (124, z3) (b :: o :: V) with | some ws => evs s [] ws | none => none) = _
    rw [stx_124]
    rfl
theorem PB_mem {P : List Int32} {W : List VV} {b : VV} (h : PB P W b) : (∀ c, c ∈ P.reverse → (c = 38 ∨ c = 38) ∧ c ≠ 0) ∧ P.length ≤ 1 := by
  rcases h with ⟨rfl, rfl⟩ | ⟨rfl, f, a, rfl, rfl⟩
  · exact ⟨fun c hc => absurd hc (by simp), by simp⟩
  · refine ⟨fun c hc => ?_, by simp⟩
    have : c = 38 := by simpa using hc
    rw [this]
    exact ⟨Or.inl rfl, by decide⟩
theorem PE_mem {P : List Int32} {W : List VV} {v : VV} (h : PE P W v) : (∀ c, c ∈ P.reverse → (c = 38 ∨ c = 124) ∧ c ≠ 0) := by
  obtain ⟨P', W', b, hb, ⟨rfl, rfl, rfl⟩ | ⟨o, rfl, rfl, rfl⟩⟩ := h
  · intro c hc
    have := (PB_mem hb).1 c hc
    exact ⟨Or.inl (by rcases this.1 with q | q <;> exact q), this.2⟩
  · intro c hc
    have : c ∈ P'.reverse ∨ c = 124 := by simpa [or_comm] using hc
    rcases this with q | q
    · have := (PB_mem hb).1 c q
      exact ⟨Or.inl (by rcases this.1 with q | q <;> exact q), this.2⟩
    · rw [q]
      exact ⟨Or.inr rfl, by decide⟩
theorem ls_no {S : List Int32} {x a b : Int32} (h1 : x ≠ a) (h2 : x ≠ b) : ∀ S' c, S ++ [x] = S' ++ [c] → c ≠ a ∧ c ≠ b := fun S' c e => by
  have : x = c := by
    have := List.append_inj_right' e rfl
    simpa using this
  rw [← this]
  exact ⟨h1, h2⟩
section PU
variable {s : SS} {n : Nat} {t : Nat → Nat} {E : St → V2} {d : Nat} {st : St}
theorem wd_ok {o : Nat} (h : (wd n t o st).2.1 = false) : st.1 = false ∧ st.2 ≤ (wd n t o st).2.2 := by
  unfold wd at h ⊢
  by_cases c : st.1 = true
  · rw [if_pos c] at h
    rw [c] at h
    exact Bool.noConfusion h
  · rw [if_neg c] at h ⊢
    refine ⟨by simpa using c, ?_⟩
    show st.2 ≤ (if _ then _ else _ : St).2
    split
    · exact Nat.le_refl _
    · exact Nat.le_add_right _ _
theorem sn_ok (h : (sn n t st).2.1 = false) : st.1 = false ∧ st.2 < (sn n t st).2.2 := by
  unfold sn at h ⊢
  by_cases c : (sk n t 60 st).1 = true
  · rw [if_pos c]
    have q := sk_t c
    refine ⟨q.1, ?_⟩
    show st.2 < (sk n t 60 st).2.2
    rw [q.2]
    exact Nat.lt_succ_self _
  · rw [if_neg c] at h ⊢
    by_cases c2 : (sk n t 62 st).1 = true
    · rw [if_pos c2]
      have q := sk_t c2
      refine ⟨q.1, ?_⟩
      show st.2 < (sk n t 62 st).2.2
      rw [q.2]
      exact Nat.lt_succ_self _
    · rw [if_neg c2] at h ⊢
      have q := ex_ok h
      refine ⟨q.1, ?_⟩
      show st.2 < (ex n t 61 st).2
      rw [q.2]
      exact Nat.lt_succ_self _
theorem tT_ok (h : (tT n t st).2.1 = false) : st.1 = false ∧ st.2 < (tT n t st).2.2 := by
  have a := sg_ok (n := n) (t := t) (most := 3) (st := (sn n t (wd n t 0 st).2).2) h
  have b := sn_ok a.1
  have c := wd_ok b.1
  refine ⟨c.1, ?_⟩
  have a2 : (sn n t (wd n t 0 st).2).2.2 < (tT n t st).2.2 := a.2
  omega
abbrev Gd (E : St → V2) : Prop := (∀ st, st.1 = true → (E st).2 = st) ∧ ∀ st, (E st).2.1 = false → st.1 = false ∧ st.2 < (E st).2.2
theorem rP_g (hE : d < 5 → Gd E) : Gd (rP s n t E d) := by
  refine ⟨fun st h => ?_, fun st h => ?_⟩
  · unfold rP
    rw [if_neg (fun z => by rw [sk_b h] at z; exact Bool.noConfusion z.2)]
    exact tT_bad h
  · unfold rP at h ⊢
    by_cases c : d < 5 ∧ (sk n t 40 st).1 = true
    · rw [if_pos c] at h ⊢
      have q := ex_ok h
      have r := (hE c.1).2 _ q.1
      have k := sk_t c.2
      refine ⟨k.1, ?_⟩
      show st.2 < (ex n t 41 (E (sk n t 40 st).2).2).2
      rw [q.2]
      have r2 := r.2
      rw [k.2] at r2 ⊢
      show st.2 < (E (false, st.2 + 1)).2.2 + 1
      have r3 : st.2 + 1 < (E (false, st.2 + 1)).2.2 := r2
      omega
    · rw [if_neg c] at h ⊢
      exact tT_ok h
theorem rF_g (hE : d < 5 → Gd E) : Gd (rF s n t E d) := by
  have g := rP_g (s := s) (n := n) (t := t) hE
  refine ⟨fun st h => ?_, fun st h => ?_⟩
  · unfold rF
    rw [if_neg (fun z => by rw [sk_b h] at z; exact Bool.noConfusion z)]
    exact g.1 st h
  · unfold rF at h ⊢
    by_cases c : (sk n t 33 st).1 = true
    · rw [if_pos c] at h ⊢
      have r := g.2 _ h
      have k := sk_t c
      refine ⟨k.1, ?_⟩
      have r2 := r.2
      show st.2 < (rP s n t E d (sk n t 33 st).2).2.2
      rw [k.2] at r2 ⊢
      have r3 : st.2 + 1 < (rP s n t E d (false, st.2 + 1)).2.2 := r2
      omega
    · rw [if_neg c] at h ⊢
      exact g.2 st h
theorem rBL_g (hE : d < 5 → Gd E) : ∀ r b, (∀ st, st.1 = true → (rBL s n t E d r b st).2 = st) ∧ ∀ st, (rBL s n t E d r b st).2.1 = false → st.1 = false ∧ st.2 ≤ (rBL s n t E d r b st).2.2
  | 0, b => ⟨fun st h => rfl, fun st h => ⟨h, Nat.le_refl _⟩⟩
  | r + 1, b => by
    refine ⟨fun st h => ?_, fun st h => ?_⟩
    · unfold rBL
      rw [if_neg (fun z => by rw [sk_b h] at z; exact Bool.noConfusion z)]
    · unfold rBL at h ⊢
      by_cases c : (sk n t 38 st).1 = true
      · rw [if_pos c] at h ⊢
        have i1 := (rBL_g hE r _).2 _ h
        have i2 := (rF_g hE).2 _ i1.1
        have k := sk_t c
        have k2 : (sk n t 38 st).2.2 = st.2 + 1 := by rw [k.2]
        exact ⟨k.1, by omega⟩
      · rw [if_neg c] at h ⊢
        exact ⟨h, Nat.le_refl _⟩
theorem rB_g (hE : d < 5 → Gd E) : Gd (rB s n t E d) := by
  refine ⟨fun st h => ?_, fun st h => ?_⟩
  · unfold rB
    have e := (rF_g (s := s) (n := n) (t := t) hE).1 st h
    rw [e]
    exact (rBL_g hE 80 _).1 st h
  · have i1 := (rBL_g hE 80 _).2 _ h
    have i2 := (rF_g hE).2 _ i1.1
    refine ⟨i2.1, ?_⟩
    have i3 : (rF s n t E d st).2.2 ≤ (rB s n t E d st).2.2 := i1.2
    omega
theorem rEL_g (hE : d < 5 → Gd E) : ∀ r b, (∀ st, st.1 = true → (rEL s n t E d r b st).2 = st) ∧ ∀ st, (rEL s n t E d r b st).2.1 = false → st.1 = false ∧ st.2 ≤ (rEL s n t E d r b st).2.2
  | 0, b => ⟨fun st h => rfl, fun st h => ⟨h, Nat.le_refl _⟩⟩
  | r + 1, b => by
    refine ⟨fun st h => ?_, fun st h => ?_⟩
    · unfold rEL
      rw [if_neg (fun z => by rw [sk_b h] at z; exact Bool.noConfusion z)]
    · unfold rEL at h ⊢
      by_cases c : (sk n t 124 st).1 = true
      · rw [if_pos c] at h ⊢
        have i1 := (rEL_g hE r _).2 _ h
        have i2 := (rB_g hE).2 _ i1.1
        have k := sk_t c
        have k2 : (sk n t 124 st).2.2 = st.2 + 1 := by rw [k.2]
        exact ⟨k.1, by omega⟩
      · rw [if_neg c] at h ⊢
        exact ⟨h, Nat.le_refl _⟩
theorem rEi_g (hE : d < 5 → Gd E) : Gd (rEi s n t E d) := by
  refine ⟨fun st h => ?_, fun st h => ?_⟩
  · unfold rEi
    have e := (rB_g (s := s) (n := n) (t := t) hE).1 st h
    rw [e]
    exact (rEL_g hE 80 _).1 st h
  · have i1 := (rEL_g hE 80 _).2 _ h
    have i2 := (rB_g hE).2 _ i1.1
    refine ⟨i2.1, ?_⟩
    have i3 : (rB s n t E d st).2.2 ≤ (rEi s n t E d st).2.2 := i1.2
    omega
theorem rE_g : ∀ f, 1 ≤ f → f ≤ 6 → Gd (rE s n t f)
  | 0, h, _ => absurd h (by omega)
  | f + 1, _, h6 => rEi_g (fun c => rE_g f (by omega) (by omega))
end PU
section DE2
variable (μ : sl_M) (Q : Int32 → sl_M → Prop) (s : SS) (n : Nat) (t : Nat → Nat)
abbrev KR (N : Nat) : Int32 → sl_M → Prop := fun r3 m2 => (r3 = (0 : Int32) → mo_readCondition_L27 Q N (0 : Int32) m2) ∧ (¬ r3 = (0 : Int32) → mo_readCondition_L27 Q N (1 : Int32) m2)
abbrev KF (N : Nat) : sl_M → Prop := fun m1 => ((sl_bz (m1 104 22)) = (0 : Int32) → mo_readsOn m1 (KR Q N)) ∧ (¬ (sl_bz (m1 104 22)) = (0 : Int32) → mo_readCondition_L27 Q N (0 : Int32) m1)
def Bad (f : Nat) : Prop := ∀ m O D d N, 1 ≤ N → RM μ n t (true, f) O D d m → D.length + O.length ≤ 82 → mo_readCondition_L27 Q N 0 m
def PRk (d : Nat) (S : List Int32) (vals : List VV) (j : Nat) (v : VV) : Prop := ∀ D m N, 82 ≤ N + j → RM μ n t (false, j) S D d m → evs s D [] = some (v :: vals) → D.length + S.length ≤ j → ∀ R : sl_M → Prop, (∀ m7, (∀ k, 82 ≤ k + j → mo_readsOn_L8 (KR Q N) k m7) → R m7) → mo_popsWhile 33 33 m R
def FRk (d : Nat) (S : List Int32) (vals : List VV) (j : Nat) (v : VV) : Prop := ∀ D m N k, 82 ≤ N + j → 82 ≤ k + j → RM μ n t (false, j) S D d m → evs s D [] = some (v :: vals) → D.length + S.length ≤ j → mo_readsOn_L8 (KR Q N) k m
def BRk (d : Nat) (S : List Int32) (vals : List VV) (j : Nat) (v : VV) : Prop := ∀ P W D m N k, PB P W v → 82 ≤ N + j → 82 ≤ k + j → RM μ n t (false, j) (S ++ P) D d m → evs s D [] = some (W ++ vals) → D.length + (S ++ P).length ≤ j → ¬ lt n t j = 38 → mo_readsOn_L8 (KR Q N) k m
def ERk (d : Nat) (S : List Int32) (vals : List VV) (j : Nat) (v : VV) : Prop := ∀ P W D m N k, PE P W v → 82 ≤ N + j → 82 ≤ k + j → RM μ n t (false, j) (S ++ P) D d m → evs s D [] = some (W ++ vals) → D.length + (S ++ P).length ≤ j → ¬ lt n t j = 38 → ¬ lt n t j = 124 → mo_readsOn_L8 (KR Q N) k m
abbrev noE (S : List Int32) (a b : Int32) : Prop := ∀ S' c, S = S' ++ [c] → c ≠ a ∧ c ≠ b
def ClE (d : Nat) (E : St → V2) : Prop := ∀ i S D vals m N k, noE S 38 124 → noE S 33 33 → 82 ≤ N + i → 82 ≤ k + i → RM μ n t (false, i) S D d m → evs s D [] = some vals → D.length + S.length ≤ i → ((E (false, i)).2.1 = true → Bad μ Q n t (E (false, i)).2.2) → ((E (false, i)).2.1 = false → ERk μ Q s n t d S vals (E (false, i)).2.2 (E (false, i)).1) → mo_readFactor_L2 (KF Q N) k 0 m
end DE2
section DE3
variable {μ : sl_M} {Q : Int32 → sl_M → Prop} {s : SS} {n : Nat} {t : Nat → Nat} {E : St → V2} {d : Nat}
theorem RM.z22 {st : St} {O : List Int32} {D : List It} {m : sl_M} (h : RM μ n t st O D d m) : m 104 22 = pl_b (st.1 = true) := h.tm.2.2.2.2
theorem skn {c : Int32} {j : Nat} (h : ¬ lt n t j = c) : sk n t c (false, j) = (false, (false, j)) := if_neg (fun z => h z.2)
theorem sky {c : Int32} {j : Nat} (h : lt n t j = c) : sk n t c (false, j) = (true, (false, j + 1)) := if_pos ⟨rfl, h⟩
theorem L27_1 {N : Nat} {m : sl_M} (h : m 104 22 = 0) (g : mo_readFactor m (KF Q N)) : mo_readCondition_L27 Q (N + 1) 1 m := by
  refine ⟨fun z => absurd z (by decide), fun _ => ⟨fun _ => g, fun z => ?_⟩⟩
  rw [h] at z
  exact absurd rfl z
theorem ClP (tx : TX n t) (hd : d ≤ 5) (hE : d < 5 → ClE μ Q s n t (d + 1) E) (hG : d < 5 → Gd E) {x : Int32} {i : Nat} {S : List Int32} {D : List It} {vals : List VV} {m : sl_M} {N k : Nat} (hN : 82 ≤ N + i) (hk : 82 ≤ k + i) (h : RM μ n t (false, i) S D d m) (he : evs s D [] = some vals) (hb : D.length + S.length ≤ i) (hx : x = 0 → ¬ lt n t i = 33) (bad : (rP s n t E d (false, i)).2.1 = true → Bad μ Q n t (rP s n t E d (false, i)).2.2) (good : (rP s n t E d (false, i)).2.1 = false → PRk μ Q s n t d S vals (rP s n t E d (false, i)).2.2 (rP s n t E d (false, i)).1) : mo_readFactor_L2 (KF Q N) k x m := by
  have n80 := tx.1
  have i1 : i ≤ n := h.tm.1
  obtain ⟨k', rfl⟩ : ∃ k', k = k' + 1 := ⟨k - 1, by omega⟩
  have z22 : sl_bz (m 104 22) = 0 := by
    rw [h.z22]
    rfl
  -- a test
  have test : ¬ (d < 5 ∧ (sk n t 40 (false, i)).1 = true) → (sl_bz (m 104 22) = (0 : Int32) → mo_readTest m (fun m10 => KF Q N m10)) ∧ (¬ sl_bz (m 104 22) = (0 : Int32) → KF Q N m) := by
    intro c
    unfold rP at bad good
    rw [if_neg c] at bad good
    refine ⟨fun _ => mo_readTest_s tx h (by omega) (fun b m' D' hD r => ?_) (fun g m' r => ?_), fun z => absurd z22 z⟩
    · refine ⟨fun z => ?_, fun _ => ?_⟩
      · rw [r.z22] at z
        have z' : (1 : Int32) = 0 := z
        exact absurd z' (by decide)
      · exact bad b m' S D' d N (by omega) r (by omega)
    · refine ⟨fun _ => ?_, fun z => ?_⟩
      · have tk := tT_ok g
        have j1 : i < (tT n t (false, i)).2.2 := tk.2
        have hl : (D ++ [(0, (tT n t (false, i)).1)]).length = D.length + 1 := by simp
        have ev : evs s (D ++ [(0, (tT n t (false, i)).1)]) [] = some (tst s (tT n t (false, i)).1 :: vals) := by
          rw [evs_app he]
          show (match stx s (0, (tT n t (false, i)).1) vals with | some ws => evs s [] ws | none => none) = _
          rw [stx_0]
          rfl
        refine good g _ m' N (show 82 ≤ N + (tT n t (false, i)).2.2 by omega) r ev (show (D ++ [(0, (tT n t (false, i)).1)]).length + S.length ≤ (tT n t (false, i)).2.2 by omega) _ (fun m7 g7 => ⟨82, g7 82 (by omega)⟩)
      · rw [r.z22] at z
        exact absurd rfl z
  have b22 : mo_readFactor_B22 (KF Q N) (mo_readFactor_L2 (KF Q N) k') m := by
    unfold mo_readFactor_B22
    dsimp only
    refine mo_here_r tx h ⟨fun e => ?_, fun e => ?_⟩
    · rw [h.2.2.2.2, show (5 : Int32) = nI 5 from rfl]
      by_cases c : d < 5
      · have il := lt_lt (by decide) e
        refine ⟨fun _ => mo_here_r tx h ⟨fun z => ?_, fun _ => ⟨fun _ => ?_, fun z => absurd rfl z⟩⟩, fun z => absurd ((nI_ltI (a := d) (b := 5) (by omega) (by omega)).mpr c) z⟩
        · have e' : lt n t i = 40 := e
          have z' : lt n t i = 33 := z
          rw [e'] at z'
          exact absurd z' (by decide)
        · rintro m12 rfl
          rw [h.2.2.2.2, pl_inc]
          have h12 : RM μ n t (false, i) S D (d + 1) (sl_up m 104 30 (nI (d + 1))) := by
            obtain ⟨f, h1, h2, h3, h4⟩ := h
            have G : Fr (fun o k => o = 104 ∧ k = 30) m (sl_up m 104 30 (nI (d + 1))) := Fr.rfl'.up (by omega)
            exact ⟨f.tr (G.mono (fun o k z => by omega)), h1.fr G (fun o k z => by omega), h2.fr G ⟨by omega, fun i => by omega⟩, h3.fr G ⟨by omega, fun o i _ _ => by omega⟩, pl_up_s⟩
          refine mo_here_r tx h12 ?_
          rw [show lt n t (false, i).2 = 40 from e]
          refine mo_waitFor_s tx h12 il.1 (by omega) (fun m15 h15 => ?_)
          have hsk := sky (n := n) (t := t) e
          have erp : rP s n t E d (false, i) = ((E (false, i + 1)).1, ex n t 41 (E (false, i + 1)).2) := by
            unfold rP
            rw [hsk, if_pos ⟨c, rfl⟩]
          rw [erp] at bad good
          have gE := hG c
          have hl : (S ++ [(40 : Int32)]).length = S.length + 1 := by simp
          refine hE c (i + 1) (S ++ [40]) D vals m15 N k' (ls_no (by decide) (by decide)) (ls_no (by decide) (by decide)) (by omega) (by omega) h15 he (by omega) (fun b => ?_) (fun g => ?_)
          · rw [ex_b b] at bad
            exact bad b
          · generalize eE' : E (false, i + 1) = X at *
            obtain ⟨v, bj, j⟩ := X
            have bj0 : bj = false := g
            subst bj0
            have jn : i + 1 < j := by
              have := (gE.2 (false, i + 1) (by rw [eE'])).2
              rw [eE'] at this
              exact this
            intro P W D' m' N' k2 pe hN' hk' r' ev' hb' n38 n124
            dsimp only at pe hN' hk' r' ev' hb' n38 n124
            obtain ⟨k3, rfl⟩ : ∃ k3, k2 = k3 + 1 := ⟨k2 - 1, by have := r'.tm.1; have : j ≤ n := this; omega⟩
            have jl : j ≤ n := r'.tm.1
            have hlP : ((S ++ [(40 : Int32)]) ++ P).length = S.length + 1 + P.length := by simp; omega
            refine ⟨fun z => ?_, fun _ => mo_here_r tx r' ⟨fun e41 => ?_, fun n41 => ?_⟩⟩
            · rw [r'.2.2.2.2, show (0 : Int32) = nI 0 from rfl, nI_leI (by omega) (by omega)] at z
              omega
            · have eex : ex n t 41 (false, j) = (false, j + 1) := by
                unfold ex
                rw [sky e41, if_pos rfl]
              have jlt := (lt_lt (by decide) e41).1
              have r'' : RM μ n t (false, j) ((S ++ [40]) ++ P.reverse.reverse) D' (d + 1) m' := by
                rw [List.reverse_reverse]
                exact r'
              refine pops_w (ls_no (by decide) (by decide)) (PE_mem pe) r'' (by simp; omega) (fun m3 r3 => ?_)
              have ev3 : evs s (D' ++ P.reverse.map itm) [] = some (v :: vals) := by
                rw [evs_app ev']
                exact PE_ev pe
              obtain ⟨f3, q1, q2, q3, q4⟩ := r3
              obtain ⟨p1, p2, p3⟩ := q2.pop (by omega)
              rintro m4 rfl m5 rfl m6 rfl
              rw [pl_up_k (show (21 : Nat) ≠ 30 by omega), pl_up_k (show (21 : Nat) ≠ 28 by omega), pl_up_k (show (30 : Nat) ≠ 28 by omega), p3, q4, q1.2.2.2.1, nI_sub1 (by omega), nI_sub1 (by omega), nI_1]
              have G4 : Fr (fun o k => o = 104 ∧ k = 28) m3 (sl_up m3 104 28 (nI S.length)) := Fr.rfl'.up (by omega)
              have G5 : Fr (fun o k => o = 104 ∧ k = 30) (sl_up m3 104 28 (nI S.length)) (sl_up (sl_up m3 104 28 (nI S.length)) 104 30 (nI d)) := Fr.rfl'.up (by omega)
              have r5 : RM μ n t (false, j) S (D' ++ P.reverse.map itm) d (sl_up (sl_up m3 104 28 (nI S.length)) 104 30 (nI d)) := ⟨(f3.tr (G4.mono (fun o k z => by omega))).tr (G5.mono (fun o k z => by omega)), (q1.fr G4 (fun o k z => by omega)).fr G5 (fun o k z => by omega), p1.fr G5 ⟨by omega, fun i => by omega⟩, (q3.fr G4 ⟨by omega, fun o i _ _ => by omega⟩).fr G5 ⟨by omega, fun o i _ _ => by omega⟩, pl_up_s⟩
              have r6 := r5.mv (st' := (false, j + 1)) (m' := sl_up (sl_up (sl_up m3 104 28 (nI S.length)) 104 30 (nI d)) 104 21 (nI (j + 1))) (Fr.rfl'.up (by omega)) (r5.tm.set (Fr.rfl'.up (by omega)) jlt pl_up_s (by rw [pl_up_k (by omega)]; exact r5.z22))
              rw [eex] at good
              refine good rfl _ _ N' (by show 82 ≤ N' + (j + 1); omega) r6 ev3 (by show (D' ++ P.reverse.map itm).length + S.length ≤ j + 1; rw [List.length_append, List.length_map, List.length_reverse]; omega) _ (fun m7 g7 => g7 k3 (by show 82 ≤ k3 + (j + 1); omega))
            · have eex : ex n t 41 (false, j) = (true, j) := by
                unfold ex
                rw [skn n41, if_neg Bool.false_ne_true]
              rw [eex] at bad
              unfold mo_readsOn_B73
              dsimp only
              refine mo_here_r tx r' ⟨fun z => absurd z n38, fun _ => mo_here_r tx r' ⟨fun z => absurd z n124, fun _ => ⟨fun z => ?_, fun _ => ⟨rfl, ?_⟩⟩⟩⟩
              · rw [r'.2.2.2.2, show (0 : Int32) = nI 0 from rfl, nI_leI (by omega) (by omega)] at z
                omega
              · rintro m14 rfl
                refine ⟨rfl, fun _ => ?_, fun z => absurd rfl z⟩
                refine bad rfl _ _ _ _ N' (by omega) (r'.mv (st' := (true, j)) (Fr.rfl'.up (by omega)) (r'.tm.set (Fr.rfl'.up (by omega)) jl (by rw [pl_up_k (by omega)]; exact r'.tm.2.2.2.1) (by rw [pl_up_s]; rfl))) (by omega)
      · exact ⟨fun z => absurd ((nI_ltI (a := d) (b := 5) (by omega) (by omega)).mp z) c, fun _ => test (fun z => c z.1)⟩
    · exact test (fun z => by rw [skn e] at z; exact Bool.noConfusion z.2)
  refine ⟨fun _ => mo_here_r tx h ⟨fun e => ⟨fun x0 => absurd e (hx x0), fun _ => b22⟩, fun _ => b22⟩, fun z => absurd z22 z⟩
end DE3
