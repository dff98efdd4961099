/-! change: all steps read, the steps taken -/
abbrev fF : Nat → Nat → Prop := fun o _ => o = 43 ∨ (46 ≤ o ∧ o ≤ 49)
abbrev fZ : Nat → Nat → Prop := fun o k => (o = 104 ∧ (k = 20 ∨ k = 21 ∨ k = 22 ∨ k = 32)) ∨ (128 ≤ o ∧ o ≤ 130)
section CG
variable {μ : sl_M} {s : SS} {Q : Int32 → sl_M → Prop} {P : sl_M → Prop} {n : Nat} {t : Nat → Nat} {st : St}
theorem ch_readFrom_s (tx : TX n t) (h : TC n t (false, 0) μ) {J : Nat} (hJ : J ≤ 4) (j1 : J = 4 ∨ mot n t J = false) (j2 : ∀ i, i < J → mot n t i = true) (hP : ∀ m, Fr fF μ m → TC n t (sTp n t (sT n t J)).2 m → m 46 3 = nI (J + 1) → dD n t (J + 1) 47 48 49 m → P m) : ch_readFrom μ P := by
  have n80 := tx.1
  rintro m7 rfl
  have hlt : ∀ k, k < 7 → ((nI k < 5) ↔ k < 5) := fun k hk => nI_ltI (b := 5) (by omega) (by omega)
  have hend : ∀ (m : sl_M), Fr fF μ m → TC n t (sTp n t (sT n t J)).2 m → m 46 3 = nI (J + 1) → dD n t (J + 1) 47 48 49 m → P m := fun m hf hm hc hd => hP m hf hm hc hd
  refine lq3 (fun k x2 x3 m => ch_readFrom_L9 P k x2 x3 m) (fun k x2 x3 m => x3 = nI k ∧ Fr fF μ m ∧ ((k ≤ J ∧ x2 = 1 ∧ TC n t (sT n t k) m ∧ m 46 3 = nI k ∧ dD n t k 47 48 49 m) ∨ (k = J + 1 ∧ x2 = 0 ∧ TC n t (sTp n t (sT n t J)).2 m ∧ m 46 3 = nI (J + 1) ∧ dD n t (J + 1) 47 48 49 m))) 5 _ _ _ ⟨rfl, Fr.rfl'.up (by omega), Or.inl ⟨by omega, rfl, h.fr (p := fun o _ => o = 46) (Fr.rfl'.up rfl) (fun o k z => by omega), pl_up_s, fun i hi => absurd hi (by omega)⟩⟩ ?_ ?_
  · rintro k x2 x3 m ⟨rfl, hf, hh⟩
    refine ⟨fun z => absurd z (by decide), fun _ => ?_⟩
    rcases hh with ⟨k1, -⟩ | ⟨k1, rfl, k3, k4, k5⟩
    · omega
    · exact hend m hf k3 k4 k5
  · rintro k' k x2 x3 m hk ⟨rfl, hf, hh⟩ ih
    refine ⟨fun _ => ?_, fun z => absurd ((hlt k (by omega)).mpr hk) z⟩
    rcases hh with ⟨k1, rfl, k3, k4, k5⟩ | ⟨k1, rfl, k3, k4, k5⟩
    · refine ⟨fun z => absurd z (by decide), fun _ => ?_⟩
      refine ch_readStep_s tx k3 hk (fun m2 f2 h2 o2 => ?_)
      rintro m3 rfl
      have c2 : m2 46 3 = nI k := by rw [f2 _ _ (by omega)]; exact k4
      rw [c2, pl_inc, pl_up_s]
      have h3 := h2.fr (p := fun o _ => o = 46) (m := sl_up m2 46 3 (nI (k + 1))) (Fr.rfl'.up rfl) (fun o k z => by omega)
      have d2 : dD n t (k + 1) 47 48 49 m2 := fun i hi => by
        by_cases e : i = k
        · subst e
          exact o2
        · exact (k5 i (by omega)).fr f2 (by omega)
      have d3 : dD n t (k + 1) 47 48 49 (sl_up m2 46 3 (nI (k + 1))) := d2.fr (p := fun o _ => o = 46) (Fr.rfl'.up rfl) (fun i _ => by omega)
      have F3 : Fr fF μ (sl_up m2 46 3 (nI (k + 1))) := (hf.tr (f2.mono (fun o k z => by omega))).up (by omega)
      have c3 : sl_up m2 46 3 (nI (k + 1)) 46 3 = nI (k + 1) := pl_up_s
      generalize sl_up m2 46 3 (nI (k + 1)) = m3 at *
      rw [hlt (k + 1) (by omega)]
      refine ⟨fun c => tp_skip_s tx h3 (by decide) (fun m4 f4 h4 => ?_), fun c => ?_⟩
      · have F4 : Fr fF μ m4 := F3.tr (f4.mono (fun o k z => by omega))
        have c4 : m4 46 3 = nI (k + 1) := by rw [f4 _ _ (by omega)]; exact c3
        have d4 : dD n t (k + 1) 47 48 49 m4 := d3.fr f4 (fun i _ => by omega)
        refine pl_bb (fun z => ?_) (fun z => ?_)
        · have e : k = J := by
            apply Classical.byContradiction
            intro ne
            exact z (j2 k (by omega))
          subst e
          rw [sk_f z] at h4
          exact ih _ _ _ ⟨rfl, F4, Or.inr ⟨rfl, rfl, h4, c4, d4⟩⟩
        · have e : k < J := by
            apply Classical.byContradiction
            intro ne
            have ek : k = J := by omega
            subst ek
            rcases j1 with q | q
            · omega
            · have z' : mot n t k = true := z
              rw [q] at z'
              exact Bool.noConfusion z'
          exact ih _ _ _ ⟨rfl, F4, Or.inl ⟨by omega, rfl, h4, c4, d4⟩⟩
      · have e : k = J := by omega
        subst e
        exact ih _ _ _ ⟨rfl, F3, Or.inr ⟨rfl, rfl, h3, c3, d3⟩⟩
    · exact ⟨fun _ => hend m hf k3 k4 k5, fun z => absurd rfl z⟩
theorem mo_readChange_s (tx : TX n t) (e20 : μ 104 20 = nI n) (e121 : ∀ i, i < n → μ 121 i = nI (t i)) {J : Nat} (hJ : J ≤ 4) (j1 : J = 4 ∨ mot n t J = false) (j2 : ∀ i, i < J → mot n t i = true) (hbad : ∀ m, Fr fZ μ m → m 104 20 = 0 → (eE n (sTp n t (sT n t J)).2).1 = true → Q (-100 - nI (eE n (sTp n t (sT n t J)).2).2) m) (hok : ∀ m, Fr fZ μ m → m 104 20 = 0 → (eE n (sTp n t (sT n t J)).2).1 = false → m 104 32 = nI (J + 1) → dD n t (J + 1) 128 129 130 m → Q 0 m) : mo_readChange μ Q := by
  have n80 := tx.1
  rintro m10 rfl
  refine ⟨rfl, ?_⟩
  rintro m11 rfl m12 rfl
  have F12 : Fr fZ μ (sl_up (sl_up (sl_up μ 104 21 0) 104 22 0) 104 32 0) := ((Fr.rfl'.up (by omega)).up (by omega)).up (by omega)
  have h12 : TM n t (false, 0) (sl_up (sl_up (sl_up μ 104 21 0) 104 22 0) 104 32 0) := ⟨Nat.zero_le _, by simp [pl_up]; exact e20, fun i hi => by simp [pl_up]; exact e121 i hi, by simp [pl_up]; rfl, by simp [pl_up]; rfl⟩
  have c12 : sl_up (sl_up (sl_up μ 104 21 0) 104 22 0) 104 32 0 104 32 = nI 0 := pl_up_s
  generalize sl_up (sl_up (sl_up μ 104 21 0) 104 22 0) 104 32 0 = m12 at *
  refine mo_readStep_s tx h12 (k := 0) (by omega) c12 (fun m13 f13 h13 d13 => ?_)
  refine lp0 (fun k m => mo_readChange_L19 Q k m) (fun k m => Fr fZ μ m ∧ TM n t (sTp n t (sT n t k)).2 m ∧ ((sTp n t (sT n t k)).2.1 = false → m 104 32 = nI (k + 1) ∧ dD n t (k + 1) 128 129 130 m)) J _ ⟨F12.tr (f13.mono (fun o k z => by omega)), h13, fun z => ⟨(d13 z).1, fun i hi => by rw [show i = 0 by omega]; exact (d13 z).2⟩⟩ ?_ ?_
  · rintro k m ⟨hf, hm, hd⟩
    have b50 : ∀ m', Fr fZ μ m' → TM n t (sTp n t (sT n t J)).2 m' → ((sTp n t (sT n t J)).2.1 = false → m' 104 32 = nI (J + 1) ∧ dD n t (J + 1) 128 129 130 m') → mo_readChange_B50 Q m' := by
      intro m' f' h' d'
      have i1 := h'.1
      have fin : ∀ (b : Bool) (v : Int32), v = pl_b (b = true) → eE n (sTp n t (sT n t J)).2 = (b, (sTp n t (sT n t J)).2.2) → ∀ m5, m5 = sl_up (sl_up m' 104 22 v) 104 20 0 → ((sl_bz (m5 104 22)) = (0 : Int32) → Q (0 : Int32) m5) ∧ (¬ (sl_bz (m5 104 22)) = (0 : Int32) → Q ((-100 : Int32) - (m5 104 21)) m5) := by
        rintro b v rfl eb m5 rfl
        have F5 : Fr fZ μ (sl_up (sl_up m' 104 22 (pl_b (b = true))) 104 20 0) := (f'.up (by omega)).up (by omega)
        rw [pl_up_k (show (22 : Nat) ≠ 20 by omega), pl_up_s, pl_bz]
        refine pl_bb (fun z => ?_) (fun z => ?_)
        · have eo : (eE n (sTp n t (sT n t J)).2).1 = false := by rw [eb]; simpa using z
          have d := d' (eE_ok eo).1
          refine hok _ F5 pl_up_s eo ?_ ?_
          · rw [pl_up_k (by omega), pl_up_k (by omega)]
            exact d.1
          · exact d.2.fr (p := fun o _ => o = 104) ((Fr.rfl'.up (by omega)).up (by omega)) (fun i _ => by omega)
        · have q := hbad _ F5 pl_up_s (by rw [eb]; exact z)
          rw [eb] at q
          rw [pl_up_k (by omega), pl_up_k (by omega), h'.2.2.2.1]
          exact q
      unfold mo_readChange_B50
      dsimp only
      rw [h'.2.2.2.2, h'.2.2.2.1, h'.2.1, pl_bz]
      refine pl_bb (fun z => ⟨fun c => ⟨rfl, ?_⟩, fun c => ⟨rfl, ?_⟩⟩) (fun z => ⟨rfl, ?_⟩)
      · rw [nI_ltI (by omega) (by omega)] at c
        rintro m4 rfl
        refine fin true 1 rfl ?_
        unfold eE
        rw [if_neg z, if_pos c]
      · rw [nI_ltI (by omega) (by omega)] at c
        rintro m4 rfl
        refine fin false 0 rfl ?_
        unfold eE
        rw [if_neg z, if_neg c]
        exact Prod.ext (by simpa using z) rfl
      · rintro m4 rfl
        refine fin true 1 rfl ?_
        unfold eE
        rw [if_pos z]
        exact Prod.ext z rfl
    unfold mo_readChange_L19
    rw [hm.2.2.2.2, pl_bz]
    refine pl_bb (fun z => ?_) (fun z => b50 m hf hm hd)
    have z0 : (sTp n t (sT n t J)).2.1 = false := by simpa using z
    rw [(hd z0).1, show (5 : Int32) = nI 5 from rfl, nI_ltI (by omega) (by omega)]
    refine ⟨fun c => ?_, fun c => b50 m hf hm hd⟩
    refine mo_goesOn_s tx hm (by decide) (fun m1 f1 h1 => pl_bb (fun y => ?_) (fun y => ?_))
    · rw [sk_f y] at h1
      exact b50 m1 (hf.tr (f1.mono (fun o k z => by omega))) h1 (fun x => ⟨by rw [f1 _ _ (by omega)]; exact (hd x).1, (hd x).2.fr f1 (fun i _ => by omega)⟩)
    · rcases j1 with q | q
      · omega
      · have y' : mot n t J = true := y
        rw [q] at y'
        exact Bool.noConfusion y'
  · rintro k' k m hk ⟨hf, hm, hd⟩ ih
    have mk := j2 k hk
    have q := sk_t mk
    have dk := hd q.1
    unfold mo_readChange_L19
    rw [hm.2.2.2.2, pl_bz]
    refine pl_bb (fun z => ?_) (fun z => by rw [q.1] at z; exact Bool.noConfusion z)
    rw [dk.1, show (5 : Int32) = nI 5 from rfl, nI_ltI (by omega) (by omega)]
    refine ⟨fun _ => ?_, fun z => absurd (by omega) z⟩
    refine mo_goesOn_s tx hm (by decide) (fun m1 f1 h1 => pl_bb (fun y => absurd mk y) (fun y => ?_))
    have es : sT n t (k + 1) = (false, (sTp n t (sT n t k)).2.2 + 1) := q.2
    rw [q.2] at h1
    refine mo_readStep_s tx h1 (k := k + 1) (by omega) (by rw [f1 _ _ (by omega)]; exact dk.1) (fun m2 f2 h2 d2 => ?_)
    rw [← es] at h2 d2
    refine ih _ ⟨(hf.tr (f1.mono (fun o k z => by omega))).tr (f2.mono (fun o k z => by omega)), h2, fun z => ⟨(d2 z).1, fun i hi => ?_⟩⟩
    by_cases e : i = k + 1
    · subst e
      exact (d2 z).2
    · exact ((dk.2 i (by omega)).fr f1 (by omega)).fr f2 (by omega)
end CG
/-! steps, taken on three ints -/
abbrev T3 : Type := Int32 × Int32 × Int32
def hld (x : Int32) : Int32 := if x < -99 then -99 else if x ≤ 99 then x else 99
def apS (x : Int32 × Int × Nat) (y : T3) : T3 :=
  if x.1 = 0 then (y.1 + i3 x.2.1, y.2.1 + i3 x.2.1, y.2.2)
  else if x.1 = 1 then (y.1 - i3 x.2.1, y.2.1 + i3 x.2.1, y.2.2)
  else if x.1 = 2 then (if y.1 < i3 x.2.1 then i3 x.2.1 else y.1, if y.2.1 ≤ nI x.2.2 then y.2.1 else nI x.2.2, y.2.2)
  else if x.1 = 3 then (999 - y.2.1, 999 - y.1, y.2.2)
  else if x.1 = 4 then (y.1, y.2.1, hld (y.2.2 * i3 x.2.1))
  else (y.1, y.2.1, if y.2.1 - y.1 + 1 ≤ 99 then y.2.1 - y.1 + 1 else 99)
def apN (n : Nat) (t : Nat → Nat) (y : T3) : Nat → T3
  | 0 => y
  | k + 1 => apS (sTp n t (sT n t k)).1 (apN n t y k)
def fin3 (y : T3) : T3 := (if y.1 < 0 then 0 else y.1, if y.2.1 ≤ 999 then y.2.1 else 999, hld y.2.2)
theorem le_or {a b : Int32} (h : ¬ a < b) (h2 : ¬ a = b) : b < a := by
  rcases fa_three a b with q | q | q
  · exact absurd q h
  · exact absurd q h2
  · exact q
section TK
variable {μ : sl_M} {s : SS} {Q : Int32 → sl_M → Prop} {P : sl_M → Prop}
theorem min_le {a b : Int32} (f : Int32 → Prop) (h : f (if b ≤ a then b else a)) : (b < a → f b) ∧ (¬ b < a → f a) := by
  refine ⟨fun c => ?_, fun c => ?_⟩
  · rw [if_pos (fa_of_lt c).1] at h
    exact h
  · by_cases e : b ≤ a
    · rw [if_pos e] at h
      have : b = a := Classical.byContradiction (fun z => c (fa_le_ne e z))
      rw [← this]
      exact h
    · rw [if_neg e] at h
      exact h
theorem hld_i {z : Int} (hz : i3B z) : hld (i3 z) = i3 (if z < -99 then -99 else if z ≤ 99 then z else 99) := by
  have b1 : i3B 99 := pl_B (by omega) (by omega)
  have b2 : i3B (-99) := pl_B (by omega) (by omega)
  unfold hld
  by_cases c : z < -99
  · rw [if_pos c, if_pos (by rw [i3_m99, i3_lt hz b2]; exact c)]
    rfl
  · rw [if_neg c, if_neg (by rw [i3_m99, i3_lt hz b2]; exact c)]
    by_cases d : z ≤ 99
    · rw [if_pos d, if_pos (by rw [i3_99, i3_le hz b1]; exact d)]
    · rw [if_neg d, if_neg (by rw [i3_99, i3_le hz b1]; exact d)]
      rfl
theorem ch_held_s {x : Int32} (hQ : Q (hld x) μ) : ch_held x μ Q := by
  unfold ch_held ma_min ma_max
  obtain ⟨z, hz, rfl⟩ := pl_int x
  have b1 : i3B 99 := pl_B (by omega) (by omega)
  have b2 : i3B (-99) := pl_B (by omega) (by omega)
  rw [hld_i hz] at hQ
  dsimp only
  rw [i3_m99, i3_99, i3_lt hz b1, i3_lt b2 hz, i3_lt b2 b1]
  refine ⟨fun c => ⟨fun d => ?_, fun d => ?_⟩, fun c => ⟨fun d => ?_, fun d => absurd (by omega) d⟩⟩
  · rw [if_neg (by omega), if_pos (by omega)] at hQ
    exact hQ
  · by_cases e : z < -99
    · rw [if_pos e] at hQ
      exact hQ
    · rw [if_neg e, if_pos (by omega), show z = -99 by omega] at hQ
      exact hQ
  · by_cases e : z ≤ 99
    · rw [if_neg (by omega), if_pos e, show z = 99 by omega] at hQ
      exact hQ
    · rw [if_neg (by omega), if_neg e] at hQ
      exact hQ
theorem mo_held_s {x : Int32} (hQ : Q (hld x) μ) : mo_held x (-99) 99 μ Q := by
  unfold hld at hQ
  refine ⟨fun c => ?_, fun c => ⟨fun d => ?_, fun d => ?_⟩⟩
  · rw [if_pos c] at hQ
    exact hQ
  · rw [if_neg c, if_pos d] at hQ
    exact hQ
  · rw [if_neg c, if_neg d] at hQ
    exact hQ
theorem ch_takeStep_s {c : Nat} {x : Int32 × Int × Nat} {f1 f2 : Int32} (g1 : x.1 = 0 ∨ x.1 = 1 ∨ x.1 = 2 ∨ x.1 = 4 → f1 = i3 x.2.1) (g2 : x.1 = 2 → f2 = nI x.2.2) {y : T3} (d2 : μ c 2 = y.1) (d3 : μ c 3 = y.2.1) (d4 : μ c 4 = y.2.2) (hP : ∀ m, Fr (fun o j => o = c ∧ 2 ≤ j ∧ j ≤ 4) μ m → m c 2 = (apS x y).1 → m c 3 = (apS x y).2.1 → m c 4 = (apS x y).2.2 → P m) : ch_takeStep c x.1 f1 f2 μ P := by
  unfold apS at hP
  rintro v1 rfl v2 rfl
  rw [d2, d3, d4]
  refine ⟨fun e => ?_, fun e0 => ⟨fun e => ?_, fun e1 => ⟨fun e => ?_, fun e2 => ⟨fun e => ?_, fun e3 => ⟨fun e => ?_, fun e4 => ?_⟩⟩⟩⟩⟩
  · rw [if_pos e] at hP
    rw [g1 (Or.inl e)]
    rintro m3 rfl m4 rfl
    exact hP _ ((Fr.rfl'.up (by omega)).up (by omega)) (by rw [pl_up_k (by omega), pl_up_s]) pl_up_s (by rw [pl_up_k (by omega), pl_up_k (by omega)]; exact d4)
  · rw [if_neg e0, if_pos e] at hP
    rw [g1 (Or.inr (Or.inl e))]
    rintro m3 rfl m4 rfl
    exact hP _ ((Fr.rfl'.up (by omega)).up (by omega)) (by rw [pl_up_k (by omega), pl_up_s]) pl_up_s (by rw [pl_up_k (by omega), pl_up_k (by omega)]; exact d4)
  · rw [if_neg e0, if_neg e1, if_pos e] at hP
    rw [g1 (Or.inr (Or.inr (Or.inl e))), g2 e]
    have hi : ∀ r : Int32, r = (if y.1 < i3 x.2.1 then i3 x.2.1 else y.1) → ∀ m9, m9 = sl_up μ c 2 r → ma_min y.2.1 (nI x.2.2) m9 (fun r11 m10 => ∀ m12, m12 = sl_up m10 c 3 r11 → P m12) := by
      rintro r rfl m9 rfl
      have fin : ∀ r : Int32, r = (if y.2.1 ≤ nI x.2.2 then y.2.1 else nI x.2.2) → ∀ m12, m12 = sl_up (sl_up μ c 2 (if y.1 < i3 x.2.1 then i3 x.2.1 else y.1)) c 3 r → P m12 := by
        rintro r rfl m12 rfl
        exact hP _ ((Fr.rfl'.up (by omega)).up (by omega)) (by rw [pl_up_k (by omega), pl_up_s]) pl_up_s (by rw [pl_up_k (by omega), pl_up_k (by omega)]; exact d4)
      exact ⟨fun z => fin _ (by rw [if_neg (fa_of_lt z).2.1]), fun z => fin _ (by rw [if_pos (fa_of_nlt z)])⟩
    exact ⟨fun z => hi _ (by rw [if_pos z]), fun z => hi _ (by rw [if_neg z])⟩
  · rw [if_neg e0, if_neg e1, if_neg e2, if_pos e] at hP
    rintro m3 rfl m4 rfl
    exact hP _ ((Fr.rfl'.up (by omega)).up (by omega)) (by rw [pl_up_k (by omega), pl_up_s]) pl_up_s (by rw [pl_up_k (by omega), pl_up_k (by omega)]; exact d4)
  · rw [if_neg e0, if_neg e1, if_neg e2, if_neg e3, if_pos e] at hP
    rw [g1 (Or.inr (Or.inr (Or.inr e)))]
    refine ch_held_s ?_
    rintro m17 rfl
    exact hP _ (Fr.rfl'.up (by omega)) (by rw [pl_up_k (by omega)]; exact d2) (by rw [pl_up_k (by omega)]; exact d3) pl_up_s
  · rw [if_neg e0, if_neg e1, if_neg e2, if_neg e3, if_neg e4] at hP
    unfold sp_length
    rw [d2, d3]
    refine min_le (fun r => ∀ m22, m22 = sl_up μ c 4 r → P m22) ?_
    rintro m22 rfl
    exact hP _ (Fr.rfl'.up (by omega)) (by rw [pl_up_k (by omega)]; exact d2) (by rw [pl_up_k (by omega)]; exact d3) pl_up_s
theorem mo_doesStep_s {i : Nat} (hi : i < 5) {x : Int32 × Int × Nat} (ho : one x i 128 129 130 μ) {y : T3} (d2 : μ 104 36 = y.1) (d3 : μ 104 37 = y.2.1) (d4 : μ 104 38 = y.2.2) (hP : ∀ m, Fr (fun o j => o = 104 ∧ 36 ≤ j ∧ j ≤ 38) μ m → m 104 36 = (apS x y).1 → m 104 37 = (apS x y).2.1 → m 104 38 = (apS x y).2.2 → P m) : mo_doesStep (nI i) μ P := by
  have iin : vp_in (nI i) 5 := vp_in_nI hi (by decide)
  have icl : (nI i).toNatClampNeg = i := nI_clamp (by omega)
  obtain ⟨o1, g1, g2⟩ := ho
  unfold apS at hP
  unfold mo_doesStep
  rw [icl, o1]
  refine ⟨iin, ?_⟩
  rintro v3 rfl v4 rfl
  rw [d2, d3, d4]
  refine ⟨iin, fun e => ?_, fun e0 => ⟨fun e => ?_, fun e1 => ⟨fun e => ?_, fun e2 => ⟨fun e => ?_, fun e3 => ⟨fun e => ?_, fun e4 => ?_⟩⟩⟩⟩⟩
  · rw [if_pos e] at hP
    rw [g1 (Or.inl e)]
    rintro m3 rfl m4 rfl
    rw [pl_up_k (show (37 : Nat) ≠ 36 by omega), d3]
    exact hP _ ((Fr.rfl'.up (by omega)).up (by omega)) (by rw [pl_up_k (by omega), pl_up_s]) pl_up_s (by rw [pl_up_k (by omega), pl_up_k (by omega)]; exact d4)
  · rw [if_neg e0, if_pos e] at hP
    rw [g1 (Or.inr (Or.inl e))]
    rintro m3 rfl m4 rfl
    rw [pl_up_k (show (37 : Nat) ≠ 36 by omega), d3]
    exact hP _ ((Fr.rfl'.up (by omega)).up (by omega)) (by rw [pl_up_k (by omega), pl_up_s]) pl_up_s (by rw [pl_up_k (by omega), pl_up_k (by omega)]; exact d4)
  · rw [if_neg e0, if_neg e1, if_pos e] at hP
    rw [g1 (Or.inr (Or.inr (Or.inl e)))]
    have b118 : ∀ r : Int32, r = (if y.1 < i3 x.2.1 then i3 x.2.1 else y.1) → mo_doesStep_B118 (nI i) P (sl_up μ 104 36 r) := by
      rintro r rfl
      unfold mo_doesStep_B118
      dsimp only
      rw [icl, pl_up_o (show (130 : Nat) ≠ 104 by omega), g2 e, pl_up_k (show (37 : Nat) ≠ 36 by omega), d3]
      have fin : ∀ r : Int32, r = (if y.2.1 ≤ nI x.2.2 then y.2.1 else nI x.2.2) → ∀ m12, m12 = sl_up (sl_up μ 104 36 (if y.1 < i3 x.2.1 then i3 x.2.1 else y.1)) 104 37 r → P m12 := by
        rintro r rfl m12 rfl
        exact hP _ ((Fr.rfl'.up (by omega)).up (by omega)) (by rw [pl_up_k (by omega), pl_up_s]) pl_up_s (by rw [pl_up_k (by omega), pl_up_k (by omega)]; exact d4)
      exact ⟨iin, fun z => fin _ (by rw [if_pos z]), fun z => ⟨iin, fin _ (by rw [if_neg z])⟩⟩
    refine ⟨fun z => ?_, fun z => ?_⟩
    · rintro m9 rfl
      exact b118 _ (by rw [if_pos z])
    · rintro m9 rfl
      exact b118 _ (by rw [if_neg z])
  · rw [if_neg e0, if_neg e1, if_neg e2, if_pos e] at hP
    rintro m3 rfl m4 rfl
    exact hP _ ((Fr.rfl'.up (by omega)).up (by omega)) (by rw [pl_up_k (by omega), pl_up_s]) pl_up_s (by rw [pl_up_k (by omega), pl_up_k (by omega)]; exact d4)
  · rw [if_neg e0, if_neg e1, if_neg e2, if_neg e3, if_pos e] at hP
    rw [g1 (Or.inr (Or.inr (Or.inr e)))]
    refine mo_held_s ?_
    rintro m17 rfl
    exact hP _ (Fr.rfl'.up (by omega)) (by rw [pl_up_k (by omega)]; exact d2) (by rw [pl_up_k (by omega)]; exact d3) pl_up_s
  · rw [if_neg e0, if_neg e1, if_neg e2, if_neg e3, if_neg e4] at hP
    refine ⟨fun z => ?_, fun z => ?_⟩
    · rw [if_pos z] at hP
      rintro m22 rfl
      exact hP _ (Fr.rfl'.up (by omega)) (by rw [pl_up_k (by omega)]; exact d2) (by rw [pl_up_k (by omega)]; exact d3) pl_up_s
    · rw [if_neg z] at hP
      rintro m22 rfl
      exact hP _ (Fr.rfl'.up (by omega)) (by rw [pl_up_k (by omega)]; exact d2) (by rw [pl_up_k (by omega)]; exact d3) pl_up_s
end TK
