/-! change: one span, all spans -/
def nvs (Y : T3) : Bool × Int × Int × Int := (decide ((fin3 Y).1 ≤ (fin3 Y).2.1), (fin3 Y).1.toInt, (fin3 Y).2.1.toInt, (fin3 Y).2.2.toInt)
theorem nvs_ok {Y : T3} (h : (nvs Y).1 = true) : vS (nvs Y).2.1 (nvs Y).2.2.1 (nvs Y).2.2.2 := by
  have h1 : (fin3 Y).1 ≤ (fin3 Y).2.1 := of_decide_eq_true h
  have h2 : (0 : Int32) ≤ (fin3 Y).1 := by
    unfold fin3
    show (0 : Int32) ≤ (if Y.1 < 0 then 0 else Y.1)
    by_cases c : Y.1 < 0
    · rw [if_pos c]
      decide
    · rw [if_neg c]
      exact fa_of_nlt c
  have h3 : (fin3 Y).2.1 ≤ (999 : Int32) := by
    unfold fin3
    show (if Y.2.1 ≤ 999 then Y.2.1 else 999) ≤ (999 : Int32)
    by_cases c : Y.2.1 ≤ 999
    · rw [if_pos c]
      exact c
    · rw [if_neg c]
      decide
  have h4 : (-99 : Int32) ≤ (fin3 Y).2.2 ∧ (fin3 Y).2.2 ≤ 99 := by
    show (-99 : Int32) ≤ hld Y.2.2 ∧ hld Y.2.2 ≤ 99
    unfold hld
    by_cases c : Y.2.2 < -99
    · rw [if_pos c]
      decide
    · rw [if_neg c]
      by_cases d : Y.2.2 ≤ 99
      · rw [if_pos d]
        exact ⟨fa_of_nlt c, d⟩
      · rw [if_neg d]
        decide
  rw [fa_le] at h1 h2 h3
  rw [fa_le, fa_le] at h4
  have z0 : (0 : Int32).toInt = 0 := rfl
  have z1 : (999 : Int32).toInt = 999 := rfl
  have z2 : (-99 : Int32).toInt = -99 := rfl
  have z3 : (99 : Int32).toInt = 99 := rfl
  exact ⟨by show 0 ≤ (fin3 Y).1.toInt; omega, h1, by show (fin3 Y).2.1.toInt ≤ 999; omega, by show -99 ≤ (fin3 Y).2.2.toInt; omega, by show (fin3 Y).2.2.toInt ≤ 99; omega⟩
def cg (n : Nat) (t : Nat → Nat) (N : Nat) (s : SS) (b : Int32) (k : Nat) : Bool × Int × Int × Int := if sI s k ∧ bt b k = true then nvs (apN n t (i3 (sL s k), i3 (sH s k), i3 (sW s k)) N) else s k
def mix (n : Nat) (t : Nat → Nat) (N : Nat) (s : SS) (b : Int32) (k : Nat) : SS := fun j => if j < k then cg n t N s b j else s j
abbrev cn1 (s : SS) (b : Int32) (k : Nat) : Bool := decide (sI s k ∧ bt b k = true)
section C2
variable {μ : sl_M} {s : SS} {Q : Int32 → sl_M → Prop} {P : sl_M → Prop} {n : Nat} {t : Nat → Nat} {N : Nat} {b : Int32}
theorem mix_at {k : Nat} : mix n t N s b k k = s k := if_neg (by omega)
theorem mix_no {k : Nat} (h : cn1 s b k = false) : mix n t N s b (k + 1) = mix n t N s b k := by
  funext j
  unfold mix
  by_cases e : j = k
  · subst e
    rw [if_pos (by omega), if_neg (by omega)]
    exact if_neg (of_decide_eq_false h)
  · by_cases e2 : j < k
    · rw [if_pos (by omega), if_pos e2]
    · rw [if_neg (by omega), if_neg e2]
theorem mix_yes {k : Nat} (h : cn1 s b k = true) : mix n t N s b (k + 1) = fu (mix n t N s b k) k (nvs (apN n t (i3 (sL s k), i3 (sH s k), i3 (sW s k)) N)) := by
  funext j
  by_cases e : j = k
  · subst e
    rw [fu_s]
    show (if _ then _ else _) = _
    rw [if_pos (by omega)]
    exact if_pos (of_decide_eq_true h)
  · rw [fu_o e]
    unfold mix
    by_cases e2 : j < k
    · rw [if_pos (by omega), if_pos e2]
    · rw [if_neg (by omega), if_neg e2]
theorem ch_changeOne_s {c : Nat} (hc : c < 34) (hN : N ≤ 5) (e46 : μ 46 3 = nI N) (hd : dD n t N 47 48 49 μ) {y : T3} (d2 : μ c 2 = y.1) (d3 : μ c 3 = y.2.1) (d4 : μ c 4 = y.2.2) (hP : ∀ m, Fr (fun o j => o = c ∧ 1 ≤ j ∧ j ≤ 4) μ m → m c 1 = pl_b ((fin3 (apN n t y N)).1 ≤ (fin3 (apN n t y N)).2.1) → m c 2 = (fin3 (apN n t y N)).1 → m c 3 = (fin3 (apN n t y N)).2.1 → m c 4 = (fin3 (apN n t y N)).2.2 → P m) : ch_changeOne c μ P := by
  refine lq2 (fun k x2 m => ch_changeOne_L2 c P k x2 m) (fun i x2 m => x2 = nI i ∧ Fr (fun o j => o = c ∧ 2 ≤ j ∧ j ≤ 4) μ m ∧ m c 2 = (apN n t y i).1 ∧ m c 3 = (apN n t y i).2.1 ∧ m c 4 = (apN n t y i).2.2) N _ _ ⟨rfl, Fr.rfl', d2, d3, d4⟩ ?_ ?_
  · rintro k x2 m ⟨rfl, hf, e2, e3, e4⟩
    generalize apN n t y N = Y at *
    refine ⟨fun z => absurd z (by rw [hf _ _ (by omega), e46, nI_ltI (by omega) (by omega)]; omega), fun _ => ?_⟩
    have s1 : ∀ r : Int32, r = (fin3 Y).1 → ∀ m4, m4 = sl_up m c 2 r → ma_min (999 : Int32) (m4 c 3) m4 (fun r6 m5 => ∀ m7, m7 = sl_up m5 c 3 r6 → ch_held (m7 c 4) m7 (fun r9 m8 => ∀ m10, m10 = sl_up m8 c 4 r9 → ((m10 c 2) ≤ (m10 c 3) → sl_bz (1 : Int32) = (1 : Int32) ∧ ∀ m11, m11 = sl_up m10 c 1 (1 : Int32) → P m11) ∧ (¬ (m10 c 2) ≤ (m10 c 3) → sl_bz (0 : Int32) = (0 : Int32) ∧ ∀ m12, m12 = sl_up m10 c 1 (0 : Int32) → P m12))) := by
      rintro r rfl m4 rfl
      rw [pl_up_k (by omega), e3]
      have s2 : ∀ r : Int32, r = (fin3 Y).2.1 → ∀ m7, m7 = sl_up (sl_up m c 2 (fin3 Y).1) c 3 r → ch_held (m7 c 4) m7 (fun r9 m8 => ∀ m10, m10 = sl_up m8 c 4 r9 → ((m10 c 2) ≤ (m10 c 3) → sl_bz (1 : Int32) = (1 : Int32) ∧ ∀ m11, m11 = sl_up m10 c 1 (1 : Int32) → P m11) ∧ (¬ (m10 c 2) ≤ (m10 c 3) → sl_bz (0 : Int32) = (0 : Int32) ∧ ∀ m12, m12 = sl_up m10 c 1 (0 : Int32) → P m12)) := by
        rintro r rfl m7 rfl
        rw [pl_up_k (by omega), pl_up_k (by omega), e4]
        refine ch_held_s ?_
        rintro m10 rfl
        have v2 : sl_up (sl_up (sl_up m c 2 (fin3 Y).1) c 3 (fin3 Y).2.1) c 4 (hld Y.2.2) c 2 = (fin3 Y).1 := by rw [pl_up_k (by omega), pl_up_k (by omega), pl_up_s]
        have v3 : sl_up (sl_up (sl_up m c 2 (fin3 Y).1) c 3 (fin3 Y).2.1) c 4 (hld Y.2.2) c 3 = (fin3 Y).2.1 := by rw [pl_up_k (by omega), pl_up_s]
        have v4 : sl_up (sl_up (sl_up m c 2 (fin3 Y).1) c 3 (fin3 Y).2.1) c 4 (hld Y.2.2) c 4 = (fin3 Y).2.2 := pl_up_s
        have F : Fr (fun o j => o = c ∧ 1 ≤ j ∧ j ≤ 4) μ (sl_up (sl_up (sl_up m c 2 (fin3 Y).1) c 3 (fin3 Y).2.1) c 4 (hld Y.2.2)) := (((hf.mono (fun o k z => by omega)).up (by omega)).up (by omega)).up (by omega)
        rw [v2, v3]
        generalize sl_up (sl_up (sl_up m c 2 (fin3 Y).1) c 3 (fin3 Y).2.1) c 4 (hld Y.2.2) = m10 at *
        refine ⟨fun z => ⟨rfl, ?_⟩, fun z => ⟨rfl, ?_⟩⟩
        · rintro m11 rfl
          exact hP _ (F.up (by omega)) (by rw [pl_up_s, pl_bt z]) (by rw [pl_up_k (by omega)]; exact v2) (by rw [pl_up_k (by omega)]; exact v3) (by rw [pl_up_k (by omega)]; exact v4)
        · rintro m11 rfl
          exact hP _ (F.up (by omega)) (by rw [pl_up_s, pl_bf z]) (by rw [pl_up_k (by omega)]; exact v2) (by rw [pl_up_k (by omega)]; exact v3) (by rw [pl_up_k (by omega)]; exact v4)
      exact min_le (fun r => ∀ m7, m7 = sl_up (sl_up m c 2 (fin3 Y).1) c 3 r → ch_held (m7 c 4) m7 (fun r9 m8 => ∀ m10, m10 = sl_up m8 c 4 r9 → ((m10 c 2) ≤ (m10 c 3) → sl_bz (1 : Int32) = (1 : Int32) ∧ ∀ m11, m11 = sl_up m10 c 1 (1 : Int32) → P m11) ∧ (¬ (m10 c 2) ≤ (m10 c 3) → sl_bz (0 : Int32) = (0 : Int32) ∧ ∀ m12, m12 = sl_up m10 c 1 (0 : Int32) → P m12))) (s2 _ rfl)
    rw [e2]
    refine ⟨fun z => s1 _ ?_, fun z => s1 _ ?_⟩
    · show Y.1 = (if Y.1 < 0 then 0 else Y.1)
      rw [if_neg (fa_of_lt z).2.2.1]
    · show 0 = (if Y.1 < 0 then 0 else Y.1)
      by_cases q : Y.1 < 0
      · rw [if_pos q]
      · rw [if_neg q]
        exact Classical.byContradiction (fun w => z (fa_le_ne (fa_of_nlt q) w))
  · rintro k i x2 m hi ⟨rfl, hf, e2, e3, e4⟩ ih
    have iin : vp_in (nI i) 5 := vp_in_nI (by omega) (by decide)
    have icl : (nI i).toNatClampNeg = i := nI_clamp (by omega)
    refine ⟨fun _ => ⟨iin, iin, iin, ?_⟩, fun z => absurd (by rw [hf _ _ (by omega), e46, nI_ltI (by omega) (by omega)]; exact hi) z⟩
    obtain ⟨o1, o2, o3⟩ := (hd i hi).fr hf (by omega)
    rw [icl, o1]
    refine ch_takeStep_s o2 o3 e2 e3 e4 (fun m1 f1 g2 g3 g4 => ?_)
    rw [pl_inc]
    exact ih _ _ ⟨rfl, hf.tr f1, g2, g3, g4⟩
theorem mo_changes_s {k : Nat} (hk : k < 30) (hN : N ≤ 5) (e32 : μ 104 32 = nI N) (hd : dD n t N 128 129 130 μ) {y : T3} (d2 : μ 105 k = y.1) (d3 : μ 106 k = y.2.1) (d4 : μ 107 k = y.2.2) (hP : ∀ m, Fr (fun o j => (o = 104 ∧ 36 ≤ j ∧ j ≤ 38) ∨ (105 ≤ o ∧ o ≤ 108 ∧ j = k)) μ m → m 108 k = pl_b ((fin3 (apN n t y N)).1 ≤ (fin3 (apN n t y N)).2.1) → m 105 k = (fin3 (apN n t y N)).1 → m 106 k = (fin3 (apN n t y N)).2.1 → m 107 k = (fin3 (apN n t y N)).2.2 → P m) : mo_changes (nI k) μ P := by
  have kin := pl_in hk
  have kcl := pl_cl hk
  unfold mo_changes
  rw [kcl]
  refine ⟨kin, ?_⟩
  rintro m11 rfl
  refine ⟨kin, ?_⟩
  rintro m12 rfl
  refine ⟨kin, ?_⟩
  rintro m13 rfl
  rw [pl_up_o (show (106 : Nat) ≠ 104 by omega), pl_up_o (show (107 : Nat) ≠ 104 by omega), pl_up_o (show (107 : Nat) ≠ 104 by omega), d2, d3, d4]
  refine lq2 (fun k' x2 m => mo_changes_L32 (nI k) P k' x2 m) (fun i x2 m => x2 = nI i ∧ Fr (fun o j => o = 104 ∧ 36 ≤ j ∧ j ≤ 38) μ m ∧ m 104 36 = (apN n t y i).1 ∧ m 104 37 = (apN n t y i).2.1 ∧ m 104 38 = (apN n t y i).2.2) N _ _ ⟨rfl, ((Fr.rfl'.up (by omega)).up (by omega)).up (by omega), by simp [pl_up]; rfl, by simp [pl_up]; rfl, by simp [pl_up]; rfl⟩ ?_ ?_
  · rintro k' x2 m ⟨rfl, hf, e2, e3, e4⟩
    generalize apN n t y N = Y at *
    refine ⟨fun z => absurd z (by rw [hf _ _ (by omega), e32, nI_ltI (by omega) (by omega)]; omega), fun _ => ?_⟩
    have b98 : ∀ m', Fr (fun o j => (o = 104 ∧ 36 ≤ j ∧ j ≤ 38) ∨ (105 ≤ o ∧ o ≤ 108 ∧ j = k)) μ m' → m' 105 k = (fin3 Y).1 → m' 106 k = (fin3 Y).2.1 → m' 104 38 = Y.2.2 → mo_changes_B98 (nI k) P m' := by
      intro m' f' v2 v3 v4
      unfold mo_changes_B98
      dsimp only
      rw [v4, kcl]
      refine mo_held_s ⟨kin, ?_⟩
      rintro m8 rfl
      rw [pl_up_o (show (105 : Nat) ≠ 107 by omega), pl_up_o (show (106 : Nat) ≠ 107 by omega), v2, v3]
      have F8 : Fr (fun o j => (o = 104 ∧ 36 ≤ j ∧ j ≤ 38) ∨ (105 ≤ o ∧ o ≤ 108 ∧ j = k)) μ (sl_up m' 107 k (hld Y.2.2)) := f'.up (by omega)
      refine ⟨kin, kin, fun z => ⟨kin, ?_⟩, fun z => ⟨kin, ?_⟩⟩
      · rintro m9 rfl
        exact hP _ (F8.up (by omega)) (by rw [pl_up_s, pl_bt z]) (by rw [pl_up_o (by omega), pl_up_o (by omega)]; exact v2) (by rw [pl_up_o (by omega), pl_up_o (by omega)]; exact v3) (by rw [pl_up_o (by omega), pl_up_s]; rfl)
      · rintro m9 rfl
        exact hP _ (F8.up (by omega)) (by rw [pl_up_s, pl_bf z]) (by rw [pl_up_o (by omega), pl_up_o (by omega)]; exact v2) (by rw [pl_up_o (by omega), pl_up_o (by omega)]; exact v3) (by rw [pl_up_o (by omega), pl_up_s]; rfl)
    have b72 : ∀ r : Int32, r = (fin3 Y).1 → mo_changes_B72 (nI k) P (sl_up m 105 k r) := by
      rintro r rfl
      have F5 : Fr (fun o j => (o = 104 ∧ 36 ≤ j ∧ j ≤ 38) ∨ (105 ≤ o ∧ o ≤ 108 ∧ j = k)) μ (sl_up m 105 k (fin3 Y).1) := (hf.mono (fun o k z => by omega)).up (by omega)
      unfold mo_changes_B72
      dsimp only
      rw [kcl, pl_up_o (show (104 : Nat) ≠ 105 by omega), e3]
      have fin : ∀ r : Int32, r = (fin3 Y).2.1 → ∀ m4, m4 = sl_up (sl_up m 105 k (fin3 Y).1) 106 k r → mo_changes_B98 (nI k) P m4 := by
        rintro r rfl m4 rfl
        exact b98 _ (F5.up (by omega)) (by rw [pl_up_o (by omega), pl_up_s]) pl_up_s (by rw [pl_up_o (by omega), pl_up_o (by omega)]; exact e4)
      refine ⟨fun z => ⟨kin, fin _ ?_⟩, fun z => ⟨kin, fin _ ?_⟩⟩
      · show Y.2.1 = (if Y.2.1 ≤ 999 then Y.2.1 else 999)
        rw [if_pos z]
      · show 999 = (if Y.2.1 ≤ 999 then Y.2.1 else 999)
        rw [if_neg z]
    rw [e2, kcl]
    refine ⟨fun z => ⟨kin, ?_⟩, fun z => ⟨kin, ?_⟩⟩
    · rintro m2 rfl
      refine b72 _ ?_
      show 0 = (if Y.1 < 0 then 0 else Y.1)
      rw [if_pos z]
    · rintro m2 rfl
      refine b72 _ ?_
      show Y.1 = (if Y.1 < 0 then 0 else Y.1)
      rw [if_neg z]
  · rintro k' i x2 m hi ⟨rfl, hf, e2, e3, e4⟩ ih
    refine ⟨fun _ => ?_, fun z => absurd (by rw [hf _ _ (by omega), e32, nI_ltI (by omega) (by omega)]; exact hi) z⟩
    refine mo_doesStep_s (by omega) ((hd i hi).fr hf (by omega)) e2 e3 e4 (fun m1 f1 g2 g3 g4 => ?_)
    rw [pl_inc]
    exact ih _ _ ⟨rfl, hf.tr f1, g2, g3, g4⟩
theorem nvs_i {Y : T3} : i3 (nvs Y).2.1 = (fin3 Y).1 ∧ i3 (nvs Y).2.2.1 = (fin3 Y).2.1 ∧ i3 (nvs Y).2.2.2 = (fin3 Y).2.2 := ⟨(i3_of _).symm, (i3_of _).symm, (i3_of _).symm⟩
theorem nvs_b {Y : T3} : pl_b ((fin3 Y).1 ≤ (fin3 Y).2.1) = pl_b ((nvs Y).1 = true) := pl_bcong (by unfold nvs; rw [decide_eq_true_eq])
theorem ch_changeAll_s (hc : CPre s μ) (hN : N ≤ 5) (e46 : μ 46 3 = nI N) (hd : dD n t N 47 48 49 μ) (hQ : ∀ m, Fr fC μ m → CInv (mix n t N s b 30) m → Q (nI (fb_ct (cn1 s b) 30)) m) : ch_changeAll b μ Q := by
  refine lq3 (fun k' x3 x4 m => ch_changeAll_L5 b Q k' x3 x4 m) (fun k x3 x4 m => x3 = nI (fb_ct (cn1 s b) k) ∧ x4 = nI k ∧ Fr fS μ m ∧ CPre (mix n t N s b k) m) 30 _ _ _ ⟨rfl, rfl, Fr.rfl', by
    have e : mix n t N s b 0 = s := funext fun j => if_neg (by omega)
    rw [e]
    exact hc⟩ ?_ ?_
  · rintro k' x3 x4 m ⟨rfl, rfl, hf, cp⟩
    exact ⟨fun z => absurd z pl_nlt, fun _ => ix_relayer_c cp (fun m' f' c' => hQ m' ((hf.mono (fun o k z => by omega)).tr f') c')⟩
  · rintro k' k x3 x4 m hk ⟨rfl, rfl, hf, cp⟩ ih
    obtain ⟨c0, c1, c2, c3, c4⟩ := cp.2.1 k hk
    simp only [sI, sL, sH, sW, mix_at] at c1 c2 c3 c4
    refine ⟨fun _ => ⟨pl_in hk, ?_⟩, fun z => absurd (pl_lt hk) z⟩
    rw [pl_cl hk, c1, pl_bz]
    have no : cn1 s b k = false → ch_changeAll_L5 b Q k' (nI (fb_ct (cn1 s b) k)) (nI k + 1) m := fun e => by
      rw [pl_inc]
      exact ih _ _ _ ⟨by rw [ct_n e], rfl, hf, by rw [mix_no e]; exact cp⟩
    refine pl_bb (fun ik => no (decide_eq_false (fun z => ik z.1))) (fun ik => ?_)
    unfold sx_isOfSet
    rw [b_test0 (by omega)]
    refine ⟨fun e => ⟨rfl, fun _ => no (decide_eq_false (fun z => by rw [e] at z; exact Bool.noConfusion z.2)), fun z => absurd rfl z⟩, fun e => ⟨rfl, fun z => absurd z (by decide), fun _ => ⟨pl_in hk, ?_⟩⟩⟩
    have ey : cn1 s b k = true := decide_eq_true ⟨ik, by simpa using e⟩
    refine ch_changeOne_s (n := n) (t := t) (N := N) (y := (i3 (sL s k), i3 (sH s k), i3 (sW s k))) (by omega) hN (by rw [hf _ _ (by omega)]; exact e46) (hd.fr hf (fun i _ => by omega)) c2 c3 c4 (fun m1 f1 g1 g2 g3 g4 => ?_)
    rw [pl_inc, pl_inc]
    refine ih _ _ _ ⟨by rw [ct_y ey], rfl, hf.tr (f1.mono (fun o k z => by omega)), ?_⟩
    rw [mix_yes ey]
    obtain ⟨p1, p2, p3, p4⟩ := cp
    obtain ⟨q1, q2, q3⟩ := nvs_i (Y := apN n t (i3 (sL s k), i3 (sH s k), i3 (sW s k)) N)
    refine ⟨fun j hj ij => ?_, fun j hj => ?_, fun j hj => ?_, fun j hj => ?_⟩
    · by_cases e : j = k
      · subst e
        simp only [sI, sL, sH, sW, fu_s] at ij ⊢
        exact nvs_ok ij
      · simp only [sI, sL, sH, sW, fu_o e] at ij ⊢
        exact p1 j hj ij
    · by_cases e : j = k
      · subst e
        simp only [sI, sL, sH, sW, fu_s]
        refine ⟨by rw [f1 _ _ (by omega)]; exact c0, by rw [g1, nvs_b], by rw [g2, q1], by rw [g3, q2], by rw [g4, q3]⟩
      · simp only [sI, sL, sH, sW, fu_o e]
        rw [f1 _ _ (by omega), f1 _ _ (by omega), f1 _ _ (by omega), f1 _ _ (by omega), f1 _ _ (by omega)]
        exact p2 j hj
    · rw [f1 _ _ (by omega)]
      exact p3 j hj
    · rw [f1 _ _ (by omega)]
      exact p4 j hj
theorem mo_change_L (hm : MR μ s) (hN : N ≤ 5) (e32 : μ 104 32 = nI N) (hd : dD n t N 128 129 130 μ) (hQ : ∀ m, Fr (fun o j => (o = 104 ∧ 36 ≤ j ∧ j ≤ 38) ∨ (105 ≤ o ∧ o ≤ 108)) μ m → MR m (mix n t N s b 30) → Q (nI (fb_ct (cn1 s b) 30)) m) : ∃ k, mo_change_L29 b Q k 0 0 μ := by
  refine lq3 (fun k' x3 x4 m => mo_change_L29 b Q k' x3 x4 m) (fun k x3 x4 m => x3 = nI (fb_ct (cn1 s b) k) ∧ x4 = nI k ∧ Fr (fun o j => (o = 104 ∧ 36 ≤ j ∧ j ≤ 38) ∨ (105 ≤ o ∧ o ≤ 108)) μ m ∧ MR m (mix n t N s b k)) 30 _ _ _ ⟨rfl, rfl, Fr.rfl', by
    have e : mix n t N s b 0 = s := funext fun j => if_neg (by omega)
    rw [e]
    exact hm⟩ ?_ ?_
  · rintro k' x3 x4 m ⟨rfl, rfl, hf, cp⟩
    exact ⟨fun z => absurd z pl_nlt, fun _ => hQ m hf cp⟩
  · rintro k' k x3 x4 m hk ⟨rfl, rfl, hf, cp⟩ ih
    obtain ⟨c1, c2, c3, c4⟩ := cp k hk
    simp only [sI, sL, sH, sW, mix_at] at c1 c2 c3 c4
    refine ⟨fun _ => ⟨pl_in hk, ?_⟩, fun z => absurd (pl_lt hk) z⟩
    rw [pl_cl hk, c1, pl_b1]
    have no : cn1 s b k = false → mo_change_L29 b Q k' (nI (fb_ct (cn1 s b) k)) (nI k + 1) m := fun e => by
      rw [pl_inc]
      exact ih _ _ _ ⟨by rw [ct_n e], rfl, hf, by rw [mix_no e]; exact cp⟩
    refine ⟨fun ik => ?_, fun ik => no (decide_eq_false (fun z => ik z.1))⟩
    rw [b_test1 (by omega)]
    refine ⟨fun e => ?_, fun e => no (decide_eq_false (fun z => e z.2))⟩
    have ey : cn1 s b k = true := decide_eq_true ⟨ik, e⟩
    refine mo_changes_s (n := n) (t := t) (N := N) (y := (i3 (sL s k), i3 (sH s k), i3 (sW s k))) hk hN (by rw [hf _ _ (by omega)]; exact e32) (hd.fr hf (fun i _ => by omega)) c2 c3 c4 (fun m1 f1 g1 g2 g3 g4 => ?_)
    rw [pl_inc, pl_inc]
    refine ih _ _ _ ⟨by rw [ct_y ey], rfl, hf.tr (f1.mono (fun o k z => by omega)), ?_⟩
    rw [mix_yes ey]
    obtain ⟨q1, q2, q3⟩ := nvs_i (Y := apN n t (i3 (sL s k), i3 (sH s k), i3 (sW s k)) N)
    intro j hj
    by_cases e : j = k
    · subst e
      simp only [sI, sL, sH, sW, fu_s]
      refine ⟨by rw [g1, nvs_b], by rw [g2, q1], by rw [g3, q2], by rw [g4, q3]⟩
    · simp only [sI, sL, sH, sW, fu_o e]
      rw [f1 _ _ (by omega), f1 _ _ (by omega), f1 _ _ (by omega), f1 _ _ (by omega)]
      exact cp j hj
theorem flt_neg {j : Nat} (h : j ≤ 80) : (-100 : Int32) - nI j < 0 := by
  rw [show (-100 : Int32) = i3 (-100) from rfl, i3_n, i3_sub, i3_0, i3_lt (pl_B (by omega) (by omega)) (pl_B (by omega) (by omega))]
  omega
theorem op_change (a1 : Int32) : Opp (sx_change a1) (mo_change a1) := by
  rintro μ ⟨⟨s, ci, mr⟩, ri⟩
  by_cases c : a1 < -1
  · refine op2 (v := -2) (s' := s) ci mr ri (fun Q hQ => ⟨fun _ => hQ _ Fr.rfl' ci, fun z => absurd c z⟩) (fun μ1 mr1 Q hQ => ?_)
    rintro m2 rfl
    exact ⟨fun _ => hQ _ Fr.th mr1.th, fun z => absurd c z⟩
  obtain ⟨n, t, tp⟩ := ri.2.2.1
  obtain ⟨tx, tc⟩ := tp.tx
  have n80 := tx.1
  obtain ⟨J, hJ, j1, j2⟩ := sT_stop n t
  refine ⟨fun z => absurd z c, fun _ => ?_⟩
  refine ch_readFrom_s tx tc hJ j1 j2 (fun m1 f1 h1 c46 d46 => ?_)
  refine tp_finish_s tx h1 (fun m2 f2 z1 z2 z3 el => ?_)
  have F2 : Fr fF μ m2 := f1.tr (f2.mono (fun o k z => by omega))
  have mr2 := mr.fr F2 (fun o k h1 h2 z => by omega)
  have e20 : m2 104 20 = nI n := by rw [F2 _ _ (by omega)]; exact tp.2.2.1
  have e121 : ∀ i, i < n → m2 121 i = nI (t i) := fun i hi => by rw [F2 _ _ (by omega)]; exact (tp.2.2.2.2.2 i hi).2.1
  have tape : ∀ m, Fr (fun o k => fC o k ∨ fN o k ∨ (o = 104 ∧ k = 20)) m2 m → m 104 20 = 0 → ∃ n t, TapeR m n t := fun m hf e => ⟨0, t, by omega, by rw [hf _ _ (by omega), z1]; rfl, by rw [e]; rfl, by rw [hf _ _ (by omega), z2], by rw [hf _ _ (by omega), z3], fun i hi => absurd hi (by omega)⟩
  have toF : ∀ m, Fr (fun o k => fC o k ∨ fN o k ∨ (o = 104 ∧ k = 20)) m2 m → Fr (fun o k => fC o k ∨ fN o k ∨ fT o k) μ m := fun m hf => (F2.mono (fun o k z => by omega)).tr (hf.mono (fun o k z => by omega))
  cases hb : (eE n (sTp n t (sT n t J)).2).1 with
  | true =>
    rw [if_pos rfl]
    refine ⟨fun z => absurd z (nI_pos (by omega)), fun _ => ?_⟩
    rintro m3 rfl
    refine ⟨fun z => absurd z c, fun _ => ?_⟩
    refine mo_readChange_s tx (by rw [pl_up_k (by omega)]; exact e20) (fun i hi => by rw [pl_up_o (by omega)]; exact e121 i hi) hJ j1 j2 (fun m f cc _ => ⟨fun _ => ⟨rfl, ⟨s, ?_, ?_⟩, ?_⟩, fun z => absurd (flt_neg (by omega)) z⟩) (fun m f cc z => by rw [hb] at z; exact Bool.noConfusion z)
    · exact ((ci.fr F2 (fun o k h1 h2 z => by omega)).fr Fr.th (fun o k h1 h2 z => by omega)).fr f (fun o k h1 h2 z => by omega)
    · exact mr2.th.fr f (fun o k h1 h2 z => by omega)
    · have f' : Fr (fun o k => fC o k ∨ fN o k ∨ (o = 104 ∧ k = 20)) m2 m := ((Fr.th (μ := m2)).mono (fun o k z => by omega)).tr (f.mono (fun o k z => by omega))
      exact ri.tp (toF m f') (fun o k z => z) (tape m f' cc)
  | false =>
    rw [if_neg (by decide)]
    refine ⟨fun _ => ?_, fun z => absurd (by decide) z⟩
    have ci2 := ci.fr F2 (fun o k h1 h2 z => by omega)
    refine ch_changeAll_s (n := n) (t := t) (N := J + 1) ci2.pre (by omega) (by rw [f2 _ _ (by omega)]; exact c46) (d46.fr f2 (fun i _ => by omega)) (fun m4 f4 c4 => ?_)
    have mr4 := mr2.fr f4 (fun o k h1 h2 z => by omega)
    rintro m3 rfl
    refine ⟨fun z => absurd z c, fun _ => ?_⟩
    refine mo_readChange_s tx (by rw [pl_up_k (by omega), f4 _ _ (by omega)]; exact e20) (fun i hi => by rw [pl_up_o (by omega), f4 _ _ (by omega)]; exact e121 i hi) hJ j1 j2 (fun m f cc z => by rw [hb] at z; exact Bool.noConfusion z) (fun m f cc _ c32 d32 => ⟨fun z => absurd z (by decide), fun _ => ?_⟩)
    refine mo_change_L (n := n) (t := t) (N := J + 1) (s := s) (mr4.th.fr f (fun o k h1 h2 z => by omega)) (by omega) c32 d32 (fun m5 f5 mr5 => ⟨rfl, ⟨_, ?_, mr5⟩, ?_⟩)
    · exact ((c4.fr Fr.th (fun o k h1 h2 z => by omega)).fr f (fun o k h1 h2 z => by omega)).fr f5 (fun o k h1 h2 z => by omega)
    · have f' : Fr (fun o k => fC o k ∨ fN o k ∨ (o = 104 ∧ k = 20)) m2 m5 := (((f4.mono (fun o k z => by omega)).tr ((Fr.th (μ := m4)).mono (fun o k z => by omega))).tr (f.mono (fun o k z => by omega))).tr (f5.mono (fun o k z => by omega))
      exact ri.tp (toF m5 f') (fun o k z => z) (tape m5 f' (by rw [f5 _ _ (by omega)]; exact cc))
end C2
