/-! conditions: factors, both, either, the whole -/
section DE4
variable {μ : sl_M} {Q : Int32 → sl_M → Prop} {s : SS} {n : Nat} {t : Nat → Nat} {E : St → V2} {d : Nat}
theorem ClF (tx : TX n t) (hd : d ≤ 5) (hE : d < 5 → ClE μ Q s n t (d + 1) E) (hG : d < 5 → Gd E) {i : Nat} {S : List Int32} {D : List It} {vals : List VV} {m : sl_M} {N k : Nat} (hS : noE S 33 33) (hN : 82 ≤ N + i) (hk : 82 ≤ k + i) (h : RM μ n t (false, i) S D d m) (he : evs s D [] = some vals) (hb : D.length + S.length ≤ i) (bad : (rF s n t E d (false, i)).2.1 = true → Bad μ Q n t (rF s n t E d (false, i)).2.2) (good : (rF s n t E d (false, i)).2.1 = false → FRk μ Q s n t d S vals (rF s n t E d (false, i)).2.2 (rF s n t E d (false, i)).1) : mo_readFactor_L2 (KF Q N) k 0 m := by
  have n80 := tx.1
  have i1 : i ≤ n := h.tm.1
  by_cases e : lt n t i = 33
  · have il := (lt_lt (by decide) e).1
    obtain ⟨k', rfl⟩ : ∃ k', k = k' + 1 := ⟨k - 1, by omega⟩
    have z22 : sl_bz (m 104 22) = 0 := by
      rw [h.z22]
      rfl
    have er : rF s n t E d (false, i) = (fun k => !(rP s n t E d (false, i + 1)).1 k, (rP s n t E d (false, i + 1)).2) := by
      unfold rF
      rw [sky e, if_pos rfl]
    rw [er] at bad good
    dsimp only at bad good
    refine ⟨fun _ => mo_here_r tx h ⟨fun _ => ⟨fun _ => mo_here_r tx h ⟨fun _ => ⟨fun z => absurd z (by decide), fun _ => ?_⟩, fun z => absurd e z⟩, fun z => absurd rfl z⟩, fun z => absurd e z⟩, fun z => absurd z22 z⟩
    rintro m16 rfl
    rw [Int32.add_zero, up_id rfl]
    refine mo_here_r tx h ?_
    rw [show lt n t (false, i).2 = 33 from e]
    refine mo_waitFor_s tx h il (by omega) (fun m19 h19 => ?_)
    have hl : (S ++ [(33 : Int32)]).length = S.length + 1 := by simp
    refine ClP tx hd hE hG (by omega) (by omega) h19 he (by omega) (fun z => absurd z (by decide)) bad (fun g => ?_)
    intro D' m' N' hN' r' ev' hb' R hR
    have r'' : RM μ n t (false, (rP s n t E d (false, i + 1)).2.2) (S ++ [(33 : Int32)].reverse) D' d m' := r'
    have jl : (rP s n t E d (false, i + 1)).2.2 ≤ n := r'.tm.1
    refine pops_w hS (T := [33]) (fun c hc => by rw [show c = 33 by simpa using hc]; exact ⟨Or.inl rfl, by decide⟩) r'' (by show D'.length + S.length + 1 ≤ 82; omega) (fun m7 r7 => hR m7 (fun k2 hk2 => ?_))
    refine good g _ m7 N' k2 hN' hk2 r7 ?_ ?_
    · rw [evs_app ev']
      show (match stx s (33, z3) ((rP s n t E d (false, i + 1)).1 :: vals) with | some ws => evs s [] ws | none => none) = _
      rw [stx_33]
      rfl
    · rw [List.length_append]
      show D'.length + 1 + S.length ≤ _
      omega
  · have er : rF s n t E d (false, i) = rP s n t E d (false, i) := by
      unfold rF
      rw [skn e, if_neg Bool.false_ne_true]
    rw [er] at bad good
    refine ClP tx hd hE hG hN hk h he hb (fun _ => e) bad (fun g => ?_)
    intro D' m' N' hN' r' ev' hb' R hR
    have jl : (rP s n t E d (false, i)).2.2 ≤ n := r'.tm.1
    have r'' : RM μ n t (false, (rP s n t E d (false, i)).2.2) (S ++ ([] : List Int32).reverse) D' d m' := by simpa using r'
    refine pops_w hS (T := []) (fun c hc => absurd hc (by simp)) r'' (by show D'.length + S.length + 0 ≤ 82; omega) (fun m7 r7 => hR m7 (fun k2 hk2 => ?_))
    have r7' : RM μ n t (false, (rP s n t E d (false, i)).2.2) S D' d m7 := by simpa using r7
    exact good g D' m7 N' k2 hN' hk2 r7' ev' hb'
/-- at a sign between two: what waits is done, the sign waits, one more is read -/
theorem L8_B91 (tx : TX n t) {i : Nat} {S P : List Int32} {D : List It} {W V : List VV} {b : VV} {m : sl_M} {N k : Nat} {c : Int32} (hc : c = 38 ∨ c = 124) (e : lt n t i = c) (hS : noE S 38 c) (hP : ∀ x, x ∈ P.reverse → (x = 38 ∨ x = c) ∧ x ≠ 0) (hev : evs s (P.reverse.map itm) (W ++ V) = some (b :: V)) (hN : 82 ≤ N + i) (hk : 82 ≤ k + i) (h : RM μ n t (false, i) (S ++ P) D d m) (he : evs s D [] = some (W ++ V)) (hb : D.length + (S ++ P).length ≤ i) (g : ∀ N' m' D', N = N' + 1 → RM μ n t (false, i + 1) (S ++ [c]) D' d m' → evs s D' [] = some (b :: V) → D'.length + (S ++ [c]).length ≤ i + 1 → mo_readFactor_L2 (KF Q N') 82 0 m') : mo_readsOn_L8 (KR Q N) k m := by
  have n80 := tx.1
  have c1 : c ≠ -1 := by rcases hc with q | q <;> (rw [q]; decide)
  have il := (lt_lt c1 e).1
  obtain ⟨k', rfl⟩ : ∃ k', k = k' + 1 := ⟨k - 1, by omega⟩
  obtain ⟨N', rfl⟩ : ∃ N', N = N' + 1 := ⟨N - 1, by omega⟩
  have hlen : (S ++ P).length = S.length + P.length := by simp
  have h' : RM μ n t (false, i) (S ++ P.reverse.reverse) D d m := by
    rw [List.reverse_reverse]
    exact h
  -- behind the pops
  have fin : ∀ m1, RM μ n t (false, i) S (D ++ P.reverse.map itm) d m1 → mo_here m1 (fun r m2 => mo_waitFor r m2 (fun m3 => sl_bz (1 : Int32) = (1 : Int32) ∧ KR Q (N' + 1) (1 : Int32) m3)) := by
    intro m1 r1
    refine mo_here_r tx r1 ?_
    rw [show lt n t (false, i).2 = c from e]
    refine mo_waitFor_s tx r1 il (by omega) (fun m3 r3 => ⟨rfl, fun z => absurd z (by decide), fun _ => L27_1 (by rw [r3.z22]; rfl) ⟨82, g N' m3 _ rfl r3 ?_ ?_⟩⟩)
    · rw [evs_app he]
      exact hev
    · rw [List.length_append, List.length_append, List.length_map, List.length_reverse]
      show D.length + P.length + (S.length + 1) ≤ i + 1
      omega
  have b91 : mo_readsOn_B91 (KR Q (N' + 1)) m := by
    unfold mo_readsOn_B91
    dsimp only
    refine mo_here_r tx h ⟨fun z => ?_, fun z => ?_⟩
    · have ec : c = 124 := by
        have z' : lt n t i = 124 := z
        rw [e] at z'
        exact z'
      subst ec
      exact pops_w hS hP h' (by rw [List.length_reverse]; omega) (fun m1 r1 => fin m1 r1)
    · have ec : c = 38 := by
        rcases hc with q | q
        · exact q
        · have z' : ¬ lt n t i = 124 := z
          rw [e] at z'
          exact absurd q z'
      subst ec
      exact pops_w hS hP h' (by rw [List.length_reverse]; omega) (fun m1 r1 => fin m1 r1)
  have b73 : mo_readsOn_B73 (KR Q (N' + 1)) m := by
    unfold mo_readsOn_B73
    dsimp only
    refine mo_here_r tx h ⟨fun _ => b91, fun z => mo_here_r tx h ⟨fun _ => b91, fun y => ?_⟩⟩
    have z' : ¬ lt n t i = 38 := z
    have y' : ¬ lt n t i = 124 := y
    rw [e] at z' y'
    rcases hc with q | q
    · exact absurd q z'
    · exact absurd q y'
  refine ⟨fun _ => b73, fun _ => mo_here_r tx h ⟨fun z => ?_, fun _ => b73⟩⟩
  have z' : lt n t i = 41 := z
  rw [e] at z'
  rcases hc with q | q <;> (rw [q] at z'; exact absurd z' (by decide))
theorem LoB (tx : TX n t) (hd : d ≤ 5) (hE : d < 5 → ClE μ Q s n t (d + 1) E) (hG : d < 5 → Gd E) {S : List Int32} {V : List VV} (hS : noE S 33 33) (hS2 : noE S 38 38) : ∀ (r : Nat) (b : VV) (i : Nat) (P : List Int32) (W : List VV) (D : List It) (m : sl_M) (N k : Nat), 81 ≤ r + i → PB P W b → 82 ≤ N + i → 82 ≤ k + i → RM μ n t (false, i) (S ++ P) D d m → evs s D [] = some (W ++ V) → D.length + (S ++ P).length ≤ i → ((rBL s n t E d r b (false, i)).2.1 = true → Bad μ Q n t (rBL s n t E d r b (false, i)).2.2) → ((rBL s n t E d r b (false, i)).2.1 = false → BRk μ Q s n t d S V (rBL s n t E d r b (false, i)).2.2 (rBL s n t E d r b (false, i)).1) → mo_readsOn_L8 (KR Q N) k m
  | 0, b, i, P, W, D, m, N, k, hr, pb, hN, hk, h, he, hb, bad, good => by
    have n80 := tx.1
    have : i ≤ n := h.tm.1
    omega
  | r + 1, b, i, P, W, D, m, N, k, hr, pb, hN, hk, h, he, hb, bad, good => by
    have n80 := tx.1
    by_cases e : lt n t i = 38
    · have er : rBL s n t E d (r + 1) b (false, i) = rBL s n t E d r (fun k => b k && (rF s n t E d (false, i + 1)).1 k) (rF s n t E d (false, i + 1)).2 := by
        show (if (sk n t 38 (false, i)).1 = true then _ else _) = _
        rw [sky e, if_pos rfl]
      rw [er] at bad good
      refine L8_B91 tx (c := 38) (Or.inl rfl) e hS2 (PB_mem pb).1 (PB_ev pb) hN hk h he hb (fun N' m' D' eN r' ev' hb' => ?_)
      refine ClF tx hd hE hG (ls_no (by decide) (by decide)) (by omega) (by omega) r' ev' hb' (fun g => ?_) (fun g => ?_)
      · have q := (rBL_g (s := s) (n := n) (t := t) hG r (fun k => b k && (rF s n t E d (false, i + 1)).1 k)).1 _ g
        rw [q] at bad
        exact bad g
      · have gr := (rF_g (s := s) (n := n) (t := t) hG).2 _ g
        have j1 : i + 1 < (rF s n t E d (false, i + 1)).2.2 := gr.2
        have es : (rF s n t E d (false, i + 1)).2 = (false, (rF s n t E d (false, i + 1)).2.2) := Prod.ext g rfl
        intro D2 m2 N2 k2 hN2 hk2 r2 ev2 hb2
        rw [es] at bad good
        exact LoB tx hd hE hG hS hS2 r _ _ [38] [(rF s n t E d (false, i + 1)).1, b] D2 m2 N2 k2 (by omega) (Or.inr ⟨rfl, _, _, rfl, rfl⟩) hN2 hk2 r2 ev2 hb2 bad good
    · have er : rBL s n t E d (r + 1) b (false, i) = (b, (false, i)) := by
        show (if (sk n t 38 (false, i)).1 = true then _ else _) = _
        rw [skn e, if_neg Bool.false_ne_true]
      rw [er] at good
      exact good rfl P W D m N k pb hN hk h he hb e
theorem ClB (tx : TX n t) (hd : d ≤ 5) (hE : d < 5 → ClE μ Q s n t (d + 1) E) (hG : d < 5 → Gd E) {i : Nat} {S : List Int32} {D : List It} {vals : List VV} {m : sl_M} {N k : Nat} (hS : noE S 33 33) (hS2 : noE S 38 38) (hN : 82 ≤ N + i) (hk : 82 ≤ k + i) (h : RM μ n t (false, i) S D d m) (he : evs s D [] = some vals) (hb : D.length + S.length ≤ i) (bad : (rB s n t E d (false, i)).2.1 = true → Bad μ Q n t (rB s n t E d (false, i)).2.2) (good : (rB s n t E d (false, i)).2.1 = false → BRk μ Q s n t d S vals (rB s n t E d (false, i)).2.2 (rB s n t E d (false, i)).1) : mo_readFactor_L2 (KF Q N) k 0 m := by
  unfold rB at bad good
  refine ClF tx hd hE hG hS hN hk h he hb (fun g => ?_) (fun g => ?_)
  · have q := (rBL_g (s := s) (n := n) (t := t) hG 80 (rF s n t E d (false, i)).1).1 _ g
    rw [q] at bad
    exact bad g
  · have gr := (rF_g (s := s) (n := n) (t := t) hG).2 _ g
    have j1 : i < (rF s n t E d (false, i)).2.2 := gr.2
    have es : (rF s n t E d (false, i)).2 = (false, (rF s n t E d (false, i)).2.2) := Prod.ext g rfl
    intro D2 m2 N2 k2 hN2 hk2 r2 ev2 hb2
    rw [es] at bad good
    exact LoB tx hd hE hG hS hS2 80 _ _ [] [(rF s n t E d (false, i)).1] D2 m2 N2 k2 (by omega) (Or.inl ⟨rfl, rfl⟩) hN2 hk2 (by simpa using r2) ev2 (by simpa using hb2) bad good
theorem LoE (tx : TX n t) (hd : d ≤ 5) (hE : d < 5 → ClE μ Q s n t (d + 1) E) (hG : d < 5 → Gd E) {S : List Int32} {V : List VV} (hS : noE S 38 124) : ∀ (r : Nat) (b : VV) (i : Nat) (P : List Int32) (W : List VV) (D : List It) (m : sl_M) (N k : Nat), 81 ≤ r + i → PE P W b → 82 ≤ N + i → 82 ≤ k + i → RM μ n t (false, i) (S ++ P) D d m → evs s D [] = some (W ++ V) → D.length + (S ++ P).length ≤ i → ¬ lt n t i = 38 → ((rEL s n t E d r b (false, i)).2.1 = true → Bad μ Q n t (rEL s n t E d r b (false, i)).2.2) → ((rEL s n t E d r b (false, i)).2.1 = false → ERk μ Q s n t d S V (rEL s n t E d r b (false, i)).2.2 (rEL s n t E d r b (false, i)).1) → mo_readsOn_L8 (KR Q N) k m
  | 0, b, i, P, W, D, m, N, k, hr, pb, hN, hk, h, he, hb, n38, bad, good => by
    have n80 := tx.1
    have : i ≤ n := h.tm.1
    omega
  | r + 1, b, i, P, W, D, m, N, k, hr, pb, hN, hk, h, he, hb, n38, bad, good => by
    have n80 := tx.1
    by_cases e : lt n t i = 124
    · have er : rEL s n t E d (r + 1) b (false, i) = rEL s n t E d r (fun k => b k || (rB s n t E d (false, i + 1)).1 k) (rB s n t E d (false, i + 1)).2 := by
        show (if (sk n t 124 (false, i)).1 = true then _ else _) = _
        rw [sky e, if_pos rfl]
      rw [er] at bad good
      refine L8_B91 tx (c := 124) (Or.inr rfl) e hS (PE_mem pb) (PE_ev pb) hN hk h he hb (fun N' m' D' eN r' ev' hb' => ?_)
      refine ClB tx hd hE hG (ls_no (by decide) (by decide)) (ls_no (by decide) (by decide)) (by omega) (by omega) r' ev' hb' (fun g => ?_) (fun g => ?_)
      · have q := (rEL_g (s := s) (n := n) (t := t) hG r (fun k => b k || (rB s n t E d (false, i + 1)).1 k)).1 _ g
        rw [q] at bad
        exact bad g
      · have gr := (rB_g (s := s) (n := n) (t := t) hG).2 _ g
        have j1 : i + 1 < (rB s n t E d (false, i + 1)).2.2 := gr.2
        have es : (rB s n t E d (false, i + 1)).2 = (false, (rB s n t E d (false, i + 1)).2.2) := Prod.ext g rfl
        intro P2 W2 D2 m2 N2 k2 pb2 hN2 hk2 r2 ev2 hb2 m38
        rw [es] at bad good
        refine LoE tx hd hE hG hS r _ _ ([124] ++ P2) (W2 ++ [b]) D2 m2 N2 k2 (by omega) ⟨P2, W2, _, pb2, Or.inr ⟨b, rfl, rfl, rfl⟩⟩ hN2 hk2 (by simpa using r2) (by simpa using ev2) (by simpa using hb2) m38 bad good
    · have er : rEL s n t E d (r + 1) b (false, i) = (b, (false, i)) := by
        show (if (sk n t 124 (false, i)).1 = true then _ else _) = _
        rw [skn e, if_neg Bool.false_ne_true]
      rw [er] at good
      exact good rfl P W D m N k pb hN hk h he hb n38 e
theorem ClEi (tx : TX n t) (hd : d ≤ 5) (hE : d < 5 → ClE μ Q s n t (d + 1) E) (hG : d < 5 → Gd E) : ClE μ Q s n t d (rEi s n t E d) := by
  intro i S D vals m N k hS hS2 hN hk h he hb bad good
  unfold rEi at bad good
  refine ClB tx hd hE hG hS2 (fun S' c e => ⟨(hS S' c e).1, (hS S' c e).1⟩) hN hk h he hb (fun g => ?_) (fun g => ?_)
  · have q := (rEL_g (s := s) (n := n) (t := t) hG 80 (rB s n t E d (false, i)).1).1 _ g
    rw [q] at bad
    exact bad g
  · have gr := (rB_g (s := s) (n := n) (t := t) hG).2 _ g
    have j1 : i < (rB s n t E d (false, i)).2.2 := gr.2
    have es : (rB s n t E d (false, i)).2 = (false, (rB s n t E d (false, i)).2.2) := Prod.ext g rfl
    intro P2 W2 D2 m2 N2 k2 pb2 hN2 hk2 r2 ev2 hb2 m38
    rw [es] at bad good
    exact LoE tx hd hE hG hS 80 _ _ P2 W2 D2 m2 N2 k2 (by omega) ⟨P2, W2, _, pb2, Or.inl ⟨rfl, rfl, rfl⟩⟩ hN2 hk2 r2 ev2 hb2 m38 bad good
theorem ClEs (tx : TX n t) : ∀ f, 1 ≤ f → f ≤ 6 → ClE μ Q s n t (6 - f) (rE s n t f)
  | 0, h, _ => absurd h (by omega)
  | f + 1, _, h6 => by
    have e : rE s n t (f + 1) = rEi s n t (rE s n t f) (5 - f) := rfl
    rw [e, show 6 - (f + 1) = 5 - f by omega]
    refine ClEi tx (by omega) (fun c => ?_) (fun c => rE_g f (by omega) (by omega))
    have := ClEs tx f (by omega) (by omega)
    rw [show 6 - f = 5 - f + 1 by omega] at this
    exact this
/-- a condition, read by the reference -/
theorem mo_readCondition_s (tx : TX n t) (e20 : μ 104 20 = nI n) (e121 : ∀ i, i < n → μ 121 i = nI (t i)) (hbad : ∀ m, Fr (fun o k => fX o k ∨ (o = 104 ∧ k = 20)) μ m → m 104 20 = 0 → (eE n (rE s n t 6 (false, 0)).2).1 = true → Q (-100 - nI (eE n (rE s n t 6 (false, 0)).2).2) m) (hok : ∀ m D, Fr (fun o k => fX o k ∨ (o = 104 ∧ k = 20)) μ m → m 104 20 = 0 → (eE n (rE s n t 6 (false, 0)).2).1 = false → DM D m → D.length ≤ 80 → evs s D [] = some [(rE s n t 6 (false, 0)).1] → Q 0 m) : mo_readCondition μ Q := by
  have n80 := tx.1
  rintro m6 rfl
  refine ⟨rfl, ?_⟩
  rintro m7 rfl m8 rfl m9 rfl m10 rfl
  have F : Fr fX μ (sl_up (sl_up (sl_up (sl_up (sl_up μ 104 21 0) 104 22 0) 104 23 0) 104 28 0) 104 30 0) := ((((Fr.rfl'.up (by omega)).up (by omega)).up (by omega)).up (by omega)).up (by omega)
  have r0 : RM μ n t (false, 0) [] [] 0 (sl_up (sl_up (sl_up (sl_up (sl_up μ 104 21 0) 104 22 0) 104 23 0) 104 28 0) 104 30 0) := by
    refine ⟨F, ⟨Nat.zero_le _, by rw [F _ _ (by omega)]; exact e20, fun i hi => by rw [F _ _ (by omega)]; exact e121 i hi, by simp [pl_up]; rfl, by simp [pl_up]; rfl⟩, ⟨by simp [pl_up]; rfl, fun i hi => absurd hi (Nat.not_lt_zero _)⟩, ⟨by simp [pl_up]; rfl, fun i hi => absurd hi (Nat.not_lt_zero _)⟩, pl_up_s⟩
  generalize sl_up (sl_up (sl_up (sl_up (sl_up μ 104 21 0) 104 22 0) 104 23 0) 104 28 0) 104 30 0 = m10 at *
  -- the end
  have b65 : ∀ (m : sl_M) (T : List Int32) (D : List It) (st : St) (d : Nat), (∀ c, c ∈ T → (c = 38 ∨ c = 124) ∧ c ≠ 0) → ∀ S : List Int32, noE S 38 124 → RM μ n t st (S ++ T.reverse) D d m → D.length + S.length + T.length ≤ 82 → (∀ m', RM μ n t st S (D ++ T.map itm) d m' → ∀ m5, m5 = sl_up m' 104 20 0 → (sl_bz (m5 104 22) = (0 : Int32) → Q 0 m5) ∧ (¬ sl_bz (m5 104 22) = (0 : Int32) → Q (-100 - m5 104 21) m5)) → mo_readCondition_B65 Q m := fun m T D st d hT S hS r hl g => pops_w hS hT r hl (fun m4 r4 => g m4 r4)
  have hBad : (eE n (rE s n t 6 (false, 0)).2).1 = true → Bad μ Q n t (eE n (rE s n t 6 (false, 0)).2).2 := by
    intro hb m O D d N hN r hl
    obtain ⟨N', rfl⟩ : ∃ N', N = N' + 1 := ⟨N - 1, by omega⟩
    refine ⟨fun _ => ?_, fun z => absurd rfl z⟩
    -- what waits on top
    have split : ∀ O : List Int32, ∃ S T : List Int32, O = S ++ T.reverse ∧ (∀ c, c ∈ T → (c = 38 ∨ c = 124) ∧ c ≠ 0) ∧ noE S 38 124 ∧ S.length + T.length = O.length := by
      intro O
      have aux : ∀ k (O : List Int32), O.length = k → ∃ S T : List Int32, O = S ++ T.reverse ∧ (∀ c, c ∈ T → (c = 38 ∨ c = 124) ∧ c ≠ 0) ∧ noE S 38 124 ∧ S.length + T.length = O.length := by
        intro k
        induction k with
        | zero =>
          intro O hO
          have : O = [] := List.length_eq_zero_iff.mp hO
          subst this
          exact ⟨[], [], rfl, fun c hc => absurd hc (by simp), fun S' c e => absurd e (by simp), rfl⟩
        | succ k ih =>
          intro O hO
          rcases List.eq_nil_or_concat O with e | ⟨O', c, e⟩
          · rw [e] at hO
            exact absurd hO (by simp)
          · have e' : O = O' ++ [c] := by simpa using e
            by_cases hc : c = 38 ∨ c = 124
            · obtain ⟨S, T, h1, h2, h3, h4⟩ := ih O' (by rw [e'] at hO; simpa using hO)
              refine ⟨S, c :: T, ?_, ?_, h3, ?_⟩
              · rw [e', h1]
                simp
              · intro c' hc'
                rcases List.mem_cons.mp hc' with q | q
                · rw [q]
                  exact ⟨hc, by rcases hc with y | y <;> (rw [y]; decide)⟩
                · exact h2 c' q
              · rw [e', List.length_append]
                show S.length + (T.length + 1) = O'.length + 1
                omega
            · refine ⟨O, [], by simp, fun c hc => absurd hc (by simp), ?_, rfl⟩
              rw [e']
              exact ls_no (fun z => hc (Or.inl z)) (fun z => hc (Or.inr z))
      exact aux O.length O rfl
    obtain ⟨S, T, h1, h2, h3, h4⟩ := split O
    rw [h1] at r
    refine b65 m T D _ d h2 S h3 r (by omega) (fun m4 r4 => ?_)
    rintro m5 rfl
    have F5 : Fr (fun o k => fX o k ∨ (o = 104 ∧ k = 20)) μ (sl_up m4 104 20 0) := (r4.1.mono (fun o k z => Or.inl z)).up (by omega)
    refine ⟨fun z => ?_, fun _ => ?_⟩
    · rw [pl_up_k (by omega), r4.z22] at z
      have z' : (1 : Int32) = 0 := z
      exact absurd z' (by decide)
    · rw [pl_up_k (by omega), r4.tm.2.2.2.1]
      exact hbad _ F5 pl_up_s hb
  refine ⟨83, L27_1 (N := 82) (by rw [r0.z22]; rfl) ⟨82, ?_⟩⟩
  refine ClEs (s := s) tx 6 (by omega) (by omega) 0 [] [] [] m10 82 82 (fun S' c e => absurd e (by simp)) (fun S' c e => absurd e (by simp)) (by omega) (by omega) r0 rfl (by simp) (fun g => ?_) (fun g => ?_)
  · have ee : eE n (rE s n t 6 (false, 0)).2 = (rE s n t 6 (false, 0)).2 := if_pos g
    rw [ee] at hBad
    exact hBad g
  · intro P W D m N k pe hN hk r ev hb n38 n124
    have jl : (rE s n t 6 (false, 0)).2.2 ≤ n := r.tm.1
    obtain ⟨k', rfl⟩ : ∃ k', k = k' + 1 := ⟨k - 1, by omega⟩
    obtain ⟨N', rfl⟩ : ∃ N', N = N' + 1 := ⟨N - 1, by omega⟩
    have b73 : mo_readsOn_B73 (KR Q (N' + 1)) m := by
      unfold mo_readsOn_B73
      dsimp only
      refine mo_here_r tx r ⟨fun z => absurd z n38, fun _ => mo_here_r tx r ⟨fun z => absurd z n124, fun _ => ⟨fun _ => ?_, fun z => absurd (by rw [r.2.2.2.2]; decide) z⟩⟩⟩
      rw [r.tm.2.2.2.1, r.tm.2.1, nI_ltI (by show (rE s n t 6 (false, 0)).2.2 < 2 ^ 31; omega) (by omega)]
      refine ⟨fun c => ⟨rfl, ?_⟩, fun c => ⟨rfl, ?_⟩⟩
      · rintro m12 rfl
        have ee : eE n (rE s n t 6 (false, 0)).2 = (true, (rE s n t 6 (false, 0)).2.2) := by
          unfold eE
          rw [g, if_neg (by decide), if_pos c]
        rw [ee] at hBad
        refine ⟨rfl, fun _ => hBad rfl _ _ _ _ (N' + 1) (by omega) (r.mv (st' := (true, (rE s n t 6 (false, 0)).2.2)) (Fr.rfl'.up (by omega)) (r.tm.set (Fr.rfl'.up (by omega)) jl (by rw [pl_up_k (by omega)]; exact r.tm.2.2.2.1) (by rw [pl_up_s]; rfl))) (by omega), fun z => absurd rfl z⟩
      · rintro m13 rfl
        have ee : eE n (rE s n t 6 (false, 0)).2 = (rE s n t 6 (false, 0)).2 := by
          unfold eE
          rw [if_neg (by rw [g]; decide), if_neg c]
        have r13 := r.mv (st' := (false, (rE s n t 6 (false, 0)).2.2)) (m' := sl_up m 104 22 0) (Fr.rfl'.up (by omega)) (r.tm.set (Fr.rfl'.up (by omega)) jl (by rw [pl_up_k (by omega)]; exact r.tm.2.2.2.1) (by rw [pl_up_s]; rfl))
        refine ⟨rfl, fun _ => ⟨fun _ => ?_, fun z => absurd rfl z⟩, fun z => absurd rfl z⟩
        have hl : ([] ++ P : List Int32).length = P.length := by simp
        refine b65 _ P.reverse D _ 0 (PE_mem pe) [] (fun S' c e => absurd e (by simp)) (by simpa using r13) (by rw [List.length_reverse]; simp at hb ⊢; omega) (fun m4 r4 => ?_)
        rintro m5 rfl
        have F5 : Fr (fun o k => fX o k ∨ (o = 104 ∧ k = 20)) μ (sl_up m4 104 20 0) := (r4.1.mono (fun o k z => Or.inl z)).up (by omega)
        refine ⟨fun _ => ?_, fun z => ?_⟩
        · refine hok _ (D ++ P.reverse.map itm) F5 pl_up_s (by rw [ee]; exact g) (r4.2.2.2.1.fr (p := fun o k => o = 104 ∧ k = 20) (Fr.rfl'.up (by omega)) ⟨by omega, fun o i _ _ => by omega⟩) ?_ ?_
          · rw [List.length_append, List.length_map, List.length_reverse]
            simp at hb
            omega
          · rw [evs_app ev]
            exact PE_ev pe
        · rw [pl_up_k (by omega), r4.z22] at z
          exact absurd rfl z
    refine ⟨fun _ => b73, fun z => absurd (by rw [r.2.2.2.2]; decide) z⟩
end DE4
