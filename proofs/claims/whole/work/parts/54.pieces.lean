/-! the pieces: what the class lays -/
noncomputable abbrev e0 (s : SS) (i : Nat) : Nat := en s (yl s) 0 i
noncomputable def l0 (s : SS) (i : Nat) : Nat := (sL s (en s (yl s) 0 i)).toNat
noncomputable def h0 (s : SS) (i : Nat) : Nat := (sH s (en s (yl s) 0 i)).toNat
theorem e0_ok {s : SS} (ok : sOK s) {i : Nat} (hi : i < sN s) : e0 s i < 30 ∧ sI s (e0 s i) ∧ rq s (yl s) 0 30 (e0 s i) = i ∧ sL s (e0 s i) = (l0 s i : Int) ∧ sH s (e0 s i) = (h0 s i : Int) ∧ l0 s i ≤ h0 s i ∧ h0 s i < 1000 := by
  have h := en_ok (s := s) (y := yl s) (q := 0) hi
  have o := ok _ h.1 h.2.1
  have e1 : sL s (en s (yl s) 0 i) = (l0 s i : Int) := by
    unfold l0
    omega
  have e2 : sH s (en s (yl s) 0 i) = (h0 s i : Int) := by
    unfold h0
    omega
  exact ⟨h.1, h.2.1, h.2.2, e1, e2, by omega, by omega⟩
theorem l0_le {s : SS} (ok : sOK s) {i j : Nat} (hij : i ≤ j) (hj : j < sN s) : l0 s i ≤ l0 s j := by
  by_cases e : i = j
  · rw [e]
    exact Nat.le_refl _
  · have h := en_lt (s := s) (y := yl s) (q := 0) (i := i) (by omega) hj
    have a := (e0_ok ok (i := i) (by omega)).2.2.2.1
    have b := (e0_ok ok (i := j) hj).2.2.2.1
    unfold RR at h
    rw [decide_eq_true_eq] at h
    have k : ∀ l h w y : Int, K1 0 l h w y = l := fun l h w y => rfl
    rw [k, k] at h
    have a' : sL s (en s (yl s) 0 i) = (l0 s i : Int) := a
    have b' : sL s (en s (yl s) 0 j) = (l0 s j : Int) := b
    rw [a', b'] at h
    omega
def cvd (s : SS) (p : Nat) : Prop := ∃ k, k < 30 ∧ sI s k ∧ sL s k ≤ (p : Int) ∧ (p : Int) ≤ sH s k
/-- the pieces of what is covered -/
def Pcs (s : SS) (n : Nat) (f l : Nat → Nat) : Prop := (∀ i, i < n → f i ≤ l i ∧ l i < 1000) ∧ (∀ i, i + 1 < n → l i + 1 < f (i + 1)) ∧ (∀ p, cvd s p ↔ ∃ i, i < n ∧ f i ≤ p ∧ p ≤ l i) ∧ n ≤ 30
theorem Pcs.a {s : SS} {n : Nat} {f l : Nat → Nat} (h : Pcs s n f l) : ∀ i, i < n → f i ≤ l i ∧ l i < 1000 := h.1
theorem Pcs.b {s : SS} {n : Nat} {f l : Nat → Nat} (h : Pcs s n f l) : ∀ i, i + 1 < n → l i + 1 < f (i + 1) := h.2.1
theorem Pcs.c {s : SS} {n : Nat} {f l : Nat → Nat} (h : Pcs s n f l) : ∀ p, cvd s p ↔ ∃ i, i < n ∧ f i ≤ p ∧ p ≤ l i := h.2.2.1
theorem Pcs.n30 {s : SS} {n : Nat} {f l : Nat → Nat} (h : Pcs s n f l) : n ≤ 30 := h.2.2.2
noncomputable abbrev pks (s : SS) (k : Nat) (x y : Nat) (o : Nat) : Bool := decide (sI s o ∧ rq s (yl s) 0 30 o < k ∧ (x : Int) ≤ sL s o ∧ sL s o ≤ (y : Int))
def PK (s : SS) (k n : Nat) (f l : Nat → Nat) : Prop := n ≤ k ∧ (n = 0 → k = 0) ∧ (∀ i, i < n → f i ≤ l i ∧ l i < 1000) ∧ (∀ i, i + 1 < n → l i + 1 < f (i + 1)) ∧ (∀ j, j < k → ∃ i, i < n ∧ f i ≤ l0 s j ∧ h0 s j ≤ l i) ∧ (∀ i, i < n → ∀ p, f i ≤ p → p ≤ l i → ∃ j, j < k ∧ l0 s j ≤ p ∧ p ≤ h0 s j) ∧ (∀ i, i < n → ∃ j, j < k ∧ f i = l0 s j)
theorem PK.z {s : SS} {k n : Nat} {f l : Nat → Nat} (h : PK s k n f l) : n ≤ k := h.1
theorem PK.a {s : SS} {k n : Nat} {f l : Nat → Nat} (h : PK s k n f l) : ∀ i, i < n → f i ≤ l i ∧ l i < 1000 := h.2.2.1
theorem PK.b {s : SS} {k n : Nat} {f l : Nat → Nat} (h : PK s k n f l) : ∀ i, i + 1 < n → l i + 1 < f (i + 1) := h.2.2.2.1
theorem PK.c {s : SS} {k n : Nat} {f l : Nat → Nat} (h : PK s k n f l) : ∀ j, j < k → ∃ i, i < n ∧ f i ≤ l0 s j ∧ h0 s j ≤ l i := h.2.2.2.2.1
theorem PK.d {s : SS} {k n : Nat} {f l : Nat → Nat} (h : PK s k n f l) : ∀ i, i < n → ∀ p, f i ≤ p → p ≤ l i → ∃ j, j < k ∧ l0 s j ≤ p ∧ p ≤ h0 s j := h.2.2.2.2.2.1
theorem PK.g {s : SS} {k n : Nat} {f l : Nat → Nat} (h : PK s k n f l) : ∀ i, i < n → ∃ j, j < k ∧ f i = l0 s j := h.2.2.2.2.2.2
theorem inc_le {n : Nat} {f l : Nat → Nat} (ha : ∀ i, i < n → f i ≤ l i ∧ l i < 1000) (hb : ∀ i, i + 1 < n → l i + 1 < f (i + 1)) {i : Nat} : ∀ {j : Nat}, i < j → j < n → l i + 1 < f j
  | 0, h, _ => absurd h (by omega)
  | j + 1, h, hj => by
    by_cases e : i = j
    · subst e
      exact hb i hj
    · have h1 := inc_le ha hb (i := i) (j := j) (by omega) (by omega)
      have h2 := hb j hj
      have h3 := ha j (by omega)
      omega
theorem PK.new {s : SS} (ok : sOK s) {k n : Nat} {f l : Nat → Nat} (h : PK s k n f l) (hk : k < sN s) (hn : ∀ i, i + 1 = n → l i + 1 < l0 s k) : PK s (k + 1) (n + 1) (fu f n (l0 s k)) (fu l n (h0 s k)) := by
  have ek := e0_ok ok hk
  refine ⟨by have := h.z; omega, fun z => absurd z (by omega), fun i hi => ?_, fun i hi => ?_, fun j hj => ?_, fun i hi p p1 p2 => ?_, fun i hi => ?_⟩
  · by_cases e : i = n
    · subst e
      rw [fu_s, fu_s]
      omega
    · rw [fu_o e, fu_o e]
      exact h.a i (by omega)
  · by_cases e : i + 1 = n
    · rw [fu_o (show i ≠ n by omega), e, fu_s]
      exact hn i e
    · rw [fu_o (show i ≠ n by omega), fu_o e]
      exact h.b i (by omega)
  · by_cases e : j = k
    · subst e
      exact ⟨n, by omega, by rw [fu_s]; exact Nat.le_refl _, by rw [fu_s]; exact Nat.le_refl _⟩
    · obtain ⟨i, h1, h2, h3⟩ := h.c j (by omega)
      exact ⟨i, by omega, by rw [fu_o (by omega)]; exact h2, by rw [fu_o (by omega)]; exact h3⟩
  · by_cases e : i = n
    · subst e
      rw [fu_s] at p1 p2
      exact ⟨k, by omega, p1, p2⟩
    · rw [fu_o e] at p1 p2
      obtain ⟨j, h1, h2⟩ := h.d i (by omega) p p1 p2
      exact ⟨j, by omega, h2⟩
  · by_cases e : i = n
    · subst e
      exact ⟨k, by omega, by rw [fu_s]⟩
    · obtain ⟨j, h1, h2⟩ := h.g i (by omega)
      exact ⟨j, by omega, by rw [fu_o e]; exact h2⟩
theorem PK.more {s : SS} (ok : sOK s) {k n : Nat} {f l : Nat → Nat} (h : PK s k (n + 1) f l) (hk : k < sN s) (hn : l0 s k ≤ l n + 1) {v : Nat} (hv : (l n < h0 s k ∧ v = h0 s k) ∨ (h0 s k ≤ l n ∧ v = l n)) : PK s (k + 1) (n + 1) f (fu l n v) := by
  have ek := e0_ok ok hk
  have fl : f n ≤ l0 s k := by
    obtain ⟨j, h1, h2⟩ := h.g n (by omega)
    rw [h2]
    exact l0_le ok (by omega) hk
  refine ⟨by have := h.z; omega, fun z => absurd z (by omega), fun i hi => ?_, fun i hi => ?_, fun j hj => ?_, fun i hi p p1 p2 => ?_, fun i hi => ?_⟩
  · have := h.a i hi
    by_cases e : i = n
    · subst e
      rw [fu_s]
      omega
    · rw [fu_o e]
      exact this
  · rw [fu_o (show i ≠ n by omega)]
    exact h.b i (by omega)
  · by_cases e : j = k
    · subst e
      exact ⟨n, by omega, fl, by rw [fu_s]; omega⟩
    · obtain ⟨i, h1, h2, h3⟩ := h.c j (by omega)
      refine ⟨i, h1, h2, ?_⟩
      by_cases e2 : i = n
      · subst e2
        rw [fu_s]
        omega
      · rw [fu_o e2]
        exact h3
  · by_cases e : i = n
    · subst e
      rw [fu_s] at p2
      by_cases c : p ≤ l i
      · obtain ⟨j, h1, h2⟩ := h.d i hi p p1 c
        exact ⟨j, by omega, h2⟩
      · exact ⟨k, by omega, by omega, by omega⟩
    · rw [fu_o e] at p2
      obtain ⟨j, h1, h2⟩ := h.d i hi p p1 p2
      exact ⟨j, by omega, h2⟩
  · obtain ⟨j, h1, h2⟩ := h.g i hi
    exact ⟨j, by omega, h2⟩
theorem PK.fin {s : SS} (ok : sOK s) {n : Nat} {f l : Nat → Nat} (h : PK s (sN s) n f l) : Pcs s n f l := by
  refine ⟨h.a, h.b, fun p => ⟨?_, ?_⟩, Nat.le_trans h.z (sN_le s)⟩
  · rintro ⟨k, hk, ik, p1, p2⟩
    have hr : rq s (yl s) 0 30 k < sN s := rk_bd (I := sC s) (RR_ord s (yl s) 0) hk ik
    have e : e0 s (rq s (yl s) 0 30 k) = k := en_rk hk ik
    have o := e0_ok ok hr
    obtain ⟨i, h1, h2, h3⟩ := h.c _ hr
    have o4 := o.2.2.2.1
    have o5 := o.2.2.2.2.1
    rw [e] at o4 o5
    exact ⟨i, h1, by omega, by omega⟩
  · rintro ⟨i, hi, p1, p2⟩
    obtain ⟨j, h1, h2, h3⟩ := h.d i hi p p1 p2
    have o := e0_ok ok h1
    exact ⟨e0 s j, o.1, o.2.1, by rw [o.2.2.2.1]; omega, by rw [o.2.2.2.2.1]; omega⟩
theorem pks_up {s : SS} (ok : sOK s) {k x y : Nat} (hk : k < sN s) (h1 : x ≤ l0 s k) (h2 : l0 s k ≤ y) : fb_ct (pks s (k + 1) x y) 30 = fb_ct (pks s k x y) 30 + 1 := by
  have o := e0_ok ok hk
  have u := fb_ct_upd (pks s k x y) true (i := e0 s k) (n := 30) o.1
  have n : pks s k x y (e0 s k) = false := decide_eq_false (fun z => by have := o.2.2.1; omega)
  rw [n, if_pos rfl, if_neg (by decide)] at u
  rw [← show fb_ct (fun j => if j = e0 s k then true else pks s k x y j) 30 = fb_ct (pks s (k + 1) x y) 30 from ?_]
  · omega
  · refine fb_ct_cong (fun j hj => ?_)
    by_cases e : j = e0 s k
    · rw [if_pos e, e]
      exact (decide_eq_true ⟨o.2.1, by rw [o.2.2.1]; omega, by rw [o.2.2.2.1]; omega, by rw [o.2.2.2.1]; omega⟩).symm
    · rw [if_neg e]
      refine decide_eq_decide.mpr ⟨fun z => ⟨z.1, by omega, z.2.2⟩, fun z => ⟨z.1, ?_, z.2.2⟩⟩
      apply Classical.byContradiction
      intro w
      have r : rq s (yl s) 0 30 j = k := by omega
      exact e (by rw [← r]; exact (en_rk hj z.1).symm)
theorem pks_no {s : SS} (ok : sOK s) {k x y : Nat} (hk : k < sN s) (h : ¬ (x ≤ l0 s k ∧ l0 s k ≤ y)) : fb_ct (pks s (k + 1) x y) 30 = fb_ct (pks s k x y) 30 := by
  have o := e0_ok ok hk
  refine fb_ct_cong (fun j hj => ?_)
  refine decide_eq_decide.mpr ⟨fun z => ⟨z.1, ?_, z.2.2⟩, fun z => ⟨z.1, by omega, z.2.2⟩⟩
  apply Classical.byContradiction
  intro w
  have r : rq s (yl s) 0 30 j = k := by omega
  have e : e0 s k = j := by rw [← r]; exact en_rk hj z.1
  rw [← e, o.2.2.2.1] at z
  omega
theorem PK.cut {s : SS} (ok : sOK s) {k n : Nat} {f l : Nat → Nat} (h : PK s k n f l) (hk : k ≤ sN s) {o : Nat} (ho : o < 30) (io : sI s o) (hr : rq s (yl s) 0 30 o < k) : ∃ i, i < n ∧ (f i : Int) ≤ sL s o ∧ sH s o ≤ (l i : Int) := by
  have e : e0 s (rq s (yl s) 0 30 o) = o := en_rk ho io
  have q := e0_ok ok (i := rq s (yl s) 0 30 o) (by omega)
  obtain ⟨i, h1, h2, h3⟩ := h.c _ hr
  have o4 := q.2.2.2.1
  have o5 := q.2.2.2.2.1
  rw [e] at o4 o5
  exact ⟨i, h1, by omega, by omega⟩
abbrev fV : Nat → Nat → Prop := fun o _ => 34 ≤ o ∧ o ≤ 37
section PC
variable {μ : sl_M} {s : SS} {Q : Int32 → sl_M → Prop} {P : sl_M → Prop}
def PM (s : SS) (k n : Nat) (f l : Nat → Nat) (m : sl_M) : Prop := m 34 3 = nI n ∧ ∀ i, i < n → m 35 i = nI (f i) ∧ m 36 i = nI (l i) ∧ m 37 i = nI (fb_ct (pks s k (f i) (l i)) 30)
theorem rd_B102 {K : Int32 → Int32 → sl_M → Prop} {m : sl_M} {x2 x3 : Int32} {c n L H v : Nat} (e1 : m 34 3 = nI (n + 1)) (hn : n < 30) (e2 : m 36 n = nI L) (hL : L < 1000) (e3 : m c 3 = nI H) (hH : H < 1000) (hv : (L < H ∧ v = H) ∨ (H ≤ L ∧ v = L)) (hK : K x2 (x3 + 1) (sl_up (sl_up m 36 n (nI v)) 37 n (m 37 n + 1))) : cv_readFrom_B102 P K x2 x3 c m := by
  have g : m 34 3 - (1 : Int32) = nI n := by
    rw [e1, nI_sub1 (by omega)]
    rfl
  refine ⟨by rw [g]; exact pl_in hn, ?_⟩
  rw [g, pl_cl hn, e2, e3]
  have k2 : ∀ r : Int32, r = nI v → vp_in (nI n) 30 ∧ ∀ m7, m7 = sl_up m 36 n r → vp_in ((m7 34 3) - (1 : Int32)) 30 ∧ vp_in ((m7 34 3) - (1 : Int32)) 30 ∧ ∀ m8, m8 = sl_up m7 37 ((m7 34 3) - (1 : Int32)).toNatClampNeg ((m7 37 ((m7 34 3) - (1 : Int32)).toNatClampNeg) + (1 : Int32)) → K x2 (x3 + (1 : Int32)) m8 := by
    rintro r rfl
    refine ⟨pl_in hn, ?_⟩
    rintro m7 rfl
    rw [pl_up_o (show (34 : Nat) ≠ 36 by omega), g, pl_cl hn, pl_up_o (show (37 : Nat) ≠ 36 by omega)]
    refine ⟨pl_in hn, pl_in hn, ?_⟩
    rintro m8 rfl
    exact hK
  unfold ma_max
  rw [nI_ltI (by omega) (by omega)]
  exact ⟨fun z => k2 _ (by rcases hv with h | h; rw [h.2]; omega), fun z => k2 _ (by rcases hv with h | h; omega; rw [h.2])⟩
theorem cv_readFrom_s (ci : CInv s μ) (hP : ∀ m n f l, Fr fC μ m → CInv s m → Pcs s n f l → PM s (sN s) n f l m → P m) : cv_readFrom μ P := by
  unfold cv_readFrom
  refine ix_sort_c ci (q := 0) (by omega) (fun m9 hf9 cm9 hs => ?_)
  have hN := sN_le s
  have ok := ci.1
  rintro m11 rfl
  refine lq2 (fun n x3 m => cv_readFrom_L13 P n (nI (sN s)) x3 m) (fun k x3 m => x3 = nI k ∧ Fr fV m9 m ∧ ∃ n f l, PK s k n f l ∧ PM s k n f l m) (sN s) _ _ ⟨rfl, Fr.rfl'.up (by omega), 0, fun _ => 0, fun _ => 0, ⟨by omega, fun _ => rfl, fun i hi => absurd hi (by omega), fun i hi => absurd hi (by omega), fun i hi => absurd hi (by omega), fun i hi => absurd hi (by omega), fun i hi => absurd hi (by omega)⟩, pl_up_s, fun i hi => absurd hi (by omega)⟩ ?_ ?_
  · rintro n x3 m ⟨rfl, hf, n', f, l, pk, pm⟩
    refine ⟨fun z => absurd z (by rw [nI_ltI (by omega) (by omega)]; omega), fun _ => ?_⟩
    exact hP m n' f l (hf9.tr (hf.mono (fun o k z => by omega))) (cm9.fr hf (fun o k h1 h2 z => by omega)) (pk.fin ok) pm
  · rintro n' k x3 m hk ⟨rfl, hf, n, f, l, pk, pm⟩ ih
    have ek := e0_ok ok hk
    have cm := cm9.fr hf (fun o k h1 h2 z => by omega)
    have nk := pk.z
    have es : (m 3 k).toNatClampNeg = 4 + e0 s k := by
      rw [hf 3 k (by omega), hs k hk]
      exact cl4 ek.1
    have eL : m (4 + e0 s k) 2 = nI (l0 s k) := by rw [(cm.2.1 _ ek.1).2.2.1, ek.2.2.2.1, i3_n]
    have eH : m (4 + e0 s k) 3 = nI (h0 s k) := by rw [(cm.2.1 _ ek.1).2.2.2.1, ek.2.2.2.2.1, i3_n]
    have hc := ek.1
    refine ⟨fun _ => ⟨pl_in (by omega), ?_⟩, fun z => absurd (by rw [nI_ltI (by omega) (by omega)]; omega) z⟩
    rw [pl_cl (show k < 30 by omega), es, eL]
    -- a new piece
    have hnew : (∀ i, i + 1 = n → l i + 1 < l0 s k) → cv_readFrom_B54 P (cv_readFrom_L13 P n') (nI (sN s)) (nI k) (4 + e0 s k) m := by
      intro hh
      have pk' := pk.new ok hk hh
      refine ⟨by rw [pm.1]; exact pl_in (by omega), ?_⟩
      rintro m1 rfl
      rw [pl_up_o (show (34 : Nat) ≠ 35 by omega), pm.1, pl_cl (show n < 30 by omega), eL, pl_up_o (show 4 + e0 s k ≠ 35 by omega), eH]
      refine ⟨pl_in (by omega), ?_⟩
      rintro m2 rfl
      rw [pl_up_o (show (34 : Nat) ≠ 36 by omega), pl_up_o (show (34 : Nat) ≠ 35 by omega), pm.1, pl_cl (show n < 30 by omega)]
      refine ⟨pl_in (by omega), ?_⟩
      rintro m3 rfl m4 rfl
      rw [pl_up_o (show (34 : Nat) ≠ 37 by omega), pl_up_o (show (34 : Nat) ≠ 36 by omega), pl_up_o (show (34 : Nat) ≠ 35 by omega), pm.1, pl_inc]
      refine ⟨rfl, rd_B102 (n := n) (L := h0 s k) (H := h0 s k) (v := h0 s k) pl_up_s (by omega) ?_ (by omega) ?_ (by omega) (Or.inr ⟨Nat.le_refl _, rfl⟩) ?_⟩
      · simp [pl_up]
      · rw [pl_up_o (by omega), pl_up_o (by omega), pl_up_o (by omega), pl_up_o (by omega), eH]
      · rw [pl_inc]
        refine ih _ _ ⟨rfl, ((((((hf.up (by omega)).up (by omega)).up (by omega)).up (by omega)).up (by omega)).up (by omega)), n + 1, _, _, pk', by simp [pl_up], fun i hi => ?_⟩
        by_cases e : i = n
        · subst e
          rw [fu_s, fu_s, pks_up ok hk (Nat.le_refl _) ek.2.2.2.2.2.1]
          have z : fb_ct (pks s k (l0 s k) (h0 s k)) 30 = 0 := by
            refine fb_ct_zero.mpr (fun o ho => decide_eq_false (fun w => ?_))
            obtain ⟨j, h1, h2, h3⟩ := pk.cut ok (by omega) ho w.1 w.2.1
            have := ok o ho w.1
            by_cases ej : j + 1 = i
            · have := hh j ej
              omega
            · have h4 := inc_le pk.a pk.b (i := j) (j := i - 1) (by omega) (by omega)
              have h5 := hh (i - 1) (by omega)
              have h6 := pk.a (i - 1) (by omega)
              omega
          rw [z]
          simp [pl_up]
          rfl
        · have hi' : i < n := by omega
          have q := pm.2 i hi'
          have li : l i < l0 s k := by
            by_cases ej : i + 1 = n
            · have := hh i ej
              omega
            · have h4 := inc_le pk.a pk.b (i := i) (j := n - 1) (by omega) (by omega)
              have h5 := hh (n - 1) (by omega)
              have h6 := pk.a (n - 1) (by omega)
              omega
          rw [fu_o e, fu_o e, pks_no ok hk (by omega)]
          simp [pl_up, e]
          exact q
    refine ⟨kd9 _ ek.1, fun z => ⟨rfl, hnew (fun i hi => ?_)⟩, fun z => ?_⟩
    · rw [pm.1] at z
      have : n = 0 := (nI_eq (a := n) (b := 0) (by omega) (by omega)).mp z
      omega
    · have n0 : n ≠ 0 := fun e => z (by rw [pm.1, e]; rfl)
      obtain ⟨j, rfl⟩ : ∃ j, n = j + 1 := ⟨n - 1, by omega⟩
      have q := pm.2 j (by omega)
      have aj := pk.a j (by omega)
      rw [pm.1, nI_sub1 (by omega), show j + 1 - 1 = j from rfl, pl_cl (show j < 30 by omega), q.2.1, nI_1, nI_leI (by omega) (by omega)]
      refine ⟨pl_in (by omega), fun c => ⟨rfl, ?_⟩, fun c => ⟨rfl, hnew (fun i hi => ?_)⟩⟩
      · obtain ⟨v, hv⟩ : ∃ v, (l j < h0 s k ∧ v = h0 s k) ∨ (h0 s k ≤ l j ∧ v = l j) := by
          by_cases cc : l j < h0 s k
          · exact ⟨_, Or.inl ⟨cc, rfl⟩⟩
          · exact ⟨_, Or.inr ⟨by omega, rfl⟩⟩
        have pk' := pk.more ok hk c hv
        have fl : f j ≤ l0 s k := by
          obtain ⟨t, h1, h2⟩ := pk.g j (by omega)
          rw [h2]
          exact l0_le ok (by omega) hk
        refine rd_B102 (n := j) (L := l j) (H := h0 s k) (v := v) pm.1 (by omega) q.2.1 (by omega) eH (by omega) hv ?_
        rw [pl_inc]
        refine ih _ _ ⟨rfl, (hf.up (by omega)).up (by omega), j + 1, _, _, pk', by simp [pl_up]; exact pm.1, fun i hi => ?_⟩
        by_cases e : i = j
        · subst e
          rw [fu_s, pks_up ok hk fl (by omega)]
          have z : fb_ct (pks s k (f i) v) 30 = fb_ct (pks s k (f i) (l i)) 30 := by
            refine fb_ct_cong (fun o ho => decide_eq_decide.mpr ⟨fun w => ⟨w.1, w.2.1, w.2.2.1, ?_⟩, fun w => ⟨w.1, w.2.1, w.2.2.1, by omega⟩⟩)
            obtain ⟨t, h1, h2, h3⟩ := pk.cut ok (by omega) ho w.1 w.2.1
            have := ok o ho w.1
            by_cases et : t = i
            · subst et
              omega
            · have h4 := inc_le pk.a pk.b (i := t) (j := i) (by omega) (by omega)
              omega
          rw [z]
          simp [pl_up, q, nI_1]
        · have q := pm.2 i hi
          have li := inc_le pk.a pk.b (i := i) (j := j) (by omega) (by omega)
          rw [fu_o e, pks_no ok hk (by omega)]
          simp [pl_up, e]
          exact q
      · obtain rfl : i = j := by omega
        omega
end PC
