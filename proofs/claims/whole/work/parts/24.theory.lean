/-! spans as numbers, covers, layers, ranks -/
abbrev SS : Type := Nat → Bool × Int × Int × Int
abbrev sI (s : SS) (k : Nat) : Prop := (s k).1 = true
abbrev sL (s : SS) (k : Nat) : Int := (s k).2.1
abbrev sH (s : SS) (k : Nat) : Int := (s k).2.2.1
abbrev sW (s : SS) (k : Nat) : Int := (s k).2.2.2
def sOK (s : SS) : Prop := ∀ k, k < 30 → sI s k → 0 ≤ sL s k ∧ sL s k ≤ sH s k ∧ sH s k ≤ 999 ∧ -99 ≤ sW s k ∧ sW s k ≤ 99
abbrev cov (s : SS) (a b : Nat) : Prop := sI s a ∧ sI s b ∧ a ≠ b ∧ sL s a ≤ sL s b ∧ sH s b ≤ sH s a ∧ (sH s b - sL s b < sH s a - sL s a ∨ a < b)
theorem cov_irr (s : SS) (a : Nat) : ¬ cov s a a := fun h => h.2.2.1 rfl
theorem cov_tr {s : SS} {a b c : Nat} (h1 : cov s a b) (h2 : cov s b c) : cov s a c := by
  obtain ⟨a1, a2, a3, a4, a5, a6⟩ := h1
  obtain ⟨b1, b2, b3, b4, b5, b6⟩ := h2
  refine ⟨a1, b2, ?_, by omega, by omega, by omega⟩
  intro e
  subst e
  omega
theorem ct_lt {p q : Nat → Bool} : ∀ {n : Nat}, (∀ k, k < n → p k = true → q k = true) → (∃ k, k < n ∧ q k = true ∧ p k = false) → fb_ct p n < fb_ct q n
  | 0, _, h => by obtain ⟨k, hk, _⟩ := h; omega
  | n + 1, h, h2 => by
    have hs : fb_ct p n ≤ fb_ct q n := fb_ct_sub (fun k hk => h k (by omega))
    obtain ⟨k, hk, hq, hp⟩ := h2
    rw [fb_ct_succ, fb_ct_succ]
    by_cases e : k = n
    · subst e
      rw [hq, hp]
      simp
      omega
    · have := ct_lt (p := p) (q := q) (n := n) (fun k hk => h k (by omega)) ⟨k, by omega, hq, hp⟩
      cases hpn : p n with
      | false => simp; omega
      | true => rw [h n (by omega) hpn]; simp; omega
def cr (s : SS) (k : Nat) : Nat := fb_ct (fun a => decide (cov s a k)) 30
theorem cr_lt {s : SS} {a k : Nat} (ha : a < 30) (h : cov s a k) : cr s a < cr s k := by
  refine ct_lt (fun o _ ho => ?_) ⟨a, ha, by simpa using h, by simp⟩
  have : cov s o a := by simpa using ho
  simpa using cov_tr this h
theorem cr_le (s : SS) (k : Nat) : cr s k < 31 := Nat.lt_succ_of_le (fb_ct_le _ 30)
def mx (f : Nat → Nat) : Nat → Nat
  | 0 => 0
  | n + 1 => if mx f n < f n then f n else mx f n
theorem mx_ge {f : Nat → Nat} : ∀ {n i : Nat}, i < n → f i ≤ mx f n
  | n + 1, i, h => by
    unfold mx
    by_cases e : i = n
    · subst e; split <;> omega
    · have := mx_ge (f := f) (n := n) (i := i) (by omega)
      split <;> omega
theorem mx_le {f : Nat → Nat} {c : Nat} : ∀ {n : Nat}, (∀ i, i < n → f i ≤ c) → mx f n ≤ c
  | 0, _ => Nat.zero_le _
  | n + 1, h => by
    unfold mx
    have := mx_le (f := f) (n := n) (fun i hi => h i (by omega))
    have := h n (by omega)
    split <;> omega
theorem mx_cong {f g : Nat → Nat} : ∀ {n : Nat}, (∀ i, i < n → f i = g i) → mx f n = mx g n
  | 0, _ => rfl
  | n + 1, h => by
    unfold mx
    rw [mx_cong (n := n) (fun i hi => h i (by omega)), h n (by omega)]
theorem mx_at {f : Nat → Nat} : ∀ {n : Nat}, mx f n = 0 ∨ ∃ i, i < n ∧ f i = mx f n
  | 0 => Or.inl rfl
  | n + 1 => by
    unfold mx
    split
    · exact Or.inr ⟨n, by omega, rfl⟩
    · rcases mx_at (f := f) (n := n) with h | ⟨i, hi, e⟩
      · exact Or.inl h
      · exact Or.inr ⟨i, by omega, e⟩
/-- the layer, by what covers -/
def lyF (s : SS) : Nat → Nat → Nat
  | 0, _ => 0
  | n + 1, k => mx (fun a => if cov s a k then lyF s n a + 1 else 0) 30
def ly (s : SS) (k : Nat) : Nat := lyF s 31 k
theorem lyF_st (s : SS) : ∀ (n m k : Nat), cr s k < n → cr s k < m → lyF s n k = lyF s m k := by
  intro n
  induction n with
  | zero => intro m k h; omega
  | succ n ih =>
    intro m k h1 h2
    cases m with
    | zero => omega
    | succ m =>
      unfold lyF
      refine mx_cong (fun a ha => ?_)
      by_cases hc : cov s a k
      · rw [if_pos hc, if_pos hc]
        have := cr_lt ha hc
        rw [ih m a (by omega) (by omega)]
      · rw [if_neg hc, if_neg hc]
theorem ly_eq (s : SS) (k : Nat) : ly s k = mx (fun a => if cov s a k then ly s a + 1 else 0) 30 := by
  show lyF s 31 k = _
  unfold lyF
  refine mx_cong (fun a ha => ?_)
  by_cases hc : cov s a k
  · rw [if_pos hc, if_pos hc]
    have := cr_lt ha hc
    have := cr_le s k
    unfold ly
    rw [lyF_st s 30 31 a (by omega) (by omega)]
  · rw [if_neg hc, if_neg hc]
theorem ly_gt {s : SS} {a k : Nat} (ha : a < 30) (h : cov s a k) : ly s a < ly s k := by
  have := mx_ge (f := fun a => if cov s a k then ly s a + 1 else 0) ha
  rw [← ly_eq] at this
  simp only [if_pos h] at this
  omega
theorem ly_le {s : SS} {k c : Nat} (h : ∀ a, a < 30 → cov s a k → ly s a + 1 ≤ c) : ly s k ≤ c := by
  rw [ly_eq]
  refine mx_le (fun a ha => ?_)
  by_cases hc : cov s a k
  · rw [if_pos hc]; exact h a ha hc
  · rw [if_neg hc]; omega
theorem ly_lt (s : SS) (k : Nat) : ly s k ≤ cr s k := by
  have : ∀ n k, cr s k < n → ly s k ≤ cr s k := by
    intro n
    induction n with
    | zero => intro k h; omega
    | succ n ih =>
      intro k h
      refine ly_le (fun a ha hc => ?_)
      have h1 := cr_lt ha hc
      have h2 := ih a (by omega)
      omega
  exact this (cr s k + 1) k (by omega)
theorem ly_29 {s : SS} {k : Nat} (hk : k < 30) : ly s k ≤ 29 := by
  have h1 := ly_lt s k
  have h2 : cr s k < fb_ct (fun _ => true) 30 := ct_lt (fun _ _ _ => rfl) ⟨k, hk, rfl, by simp⟩
  have h3 := fb_ct_le (fun _ => true) 30
  omega
/-- a function at least 1 above what covers, everywhere: at least the layer -/
theorem ly_least {s : SS} {f : Nat → Nat} (h : ∀ a b, a < 30 → b < 30 → cov s a b → f a + 1 ≤ f b) : ∀ k, k < 30 → ly s k ≤ f k := by
  have : ∀ n k, k < 30 → cr s k < n → ly s k ≤ f k := by
    intro n
    induction n with
    | zero => intro k _ h; omega
    | succ n ih =>
      intro k hk hn
      refine ly_le (fun a ha hc => ?_)
      have h1 := cr_lt ha hc
      have h2 := ih a ha (by omega)
      have h3 := h a k ha hk hc
      omega
  exact fun k hk => this (cr s k + 1) k hk (by omega)
/-! keys, one behind the other -/
abbrev Lx (a1 a2 a3 b1 b2 b3 : Int) : Prop := a1 < b1 ∨ (a1 = b1 ∧ (a2 < b2 ∨ (a2 = b2 ∧ a3 < b3)))
/-- a strict order of those that are in -/
def Ord (R : Nat → Nat → Bool) : Prop := (∀ a, R a a = false) ∧ (∀ a b c, R a b = true → R b c = true → R a c = true) ∧ ∀ a b, a ≠ b → R a b = true ∨ R b a = true
def rk (I : Nat → Bool) (R : Nat → Nat → Bool) (n k : Nat) : Nat := fb_ct (fun o => I o && R o k) n
theorem rk_succ (I : Nat → Bool) (R : Nat → Nat → Bool) (n k : Nat) : rk I R (n + 1) k = rk I R n k + (if (I n && R n k) then 1 else 0) := rfl
theorem rk_lt {I : Nat → Bool} {R : Nat → Nat → Bool} (h : Ord R) {n a b : Nat} (ha : a < n) (hI : I a = true) (hab : R a b = true) : rk I R n a < rk I R n b := by
  refine ct_lt (fun o _ ho => ?_) ⟨a, ha, by simp [hI, hab], by simp [h.1 a]⟩
  simp only [Bool.and_eq_true] at ho ⊢
  exact ⟨ho.1, h.2.1 o a b ho.2 hab⟩
theorem rk_bd {I : Nat → Bool} {R : Nat → Nat → Bool} (h : Ord R) {n k : Nat} (hk : k < n) (hI : I k = true) : rk I R n k < fb_ct I n := by
  refine ct_lt (fun o _ ho => ?_) ⟨k, hk, hI, by simp [h.1 k]⟩
  simp only [Bool.and_eq_true] at ho
  exact ho.1
theorem rk_le (I : Nat → Bool) (R : Nat → Nat → Bool) (n k : Nat) : rk I R n k ≤ fb_ct I n := by
  refine fb_ct_sub (fun o _ ho => ?_)
  simp only [Bool.and_eq_true] at ho
  exact ho.1
theorem rk_iff {I : Nat → Bool} {R : Nat → Nat → Bool} (h : Ord R) {n a b : Nat} (ha : a < n) (hb : b < n) (hIa : I a = true) (hIb : I b = true) : R a b = true ↔ rk I R n a < rk I R n b := by
  refine ⟨rk_lt h ha hIa, fun hr => ?_⟩
  by_cases e : a = b
  · subst e; omega
  · rcases h.2.2 a b e with q | q
    · exact q
    · have := rk_lt h hb hIb q
      omega
theorem rk_inj {I : Nat → Bool} {R : Nat → Nat → Bool} (h : Ord R) {n a b : Nat} (ha : a < n) (hb : b < n) (hIa : I a = true) (hIb : I b = true) (e : rk I R n a = rk I R n b) : a = b := by
  apply Classical.byContradiction
  intro ne
  rcases h.2.2 a b ne with q | q
  · have := rk_lt h ha hIa q; omega
  · have := rk_lt h hb hIb q; omega
/-- who stands at a place -/
theorem rk_at {I : Nat → Bool} {R : Nat → Nat → Bool} (h : Ord R) {n i : Nat} (hi : i < fb_ct I n) : ∃ k, k < n ∧ I k = true ∧ rk I R n k = i := by
  have he : ∀ j : Nat, ∃ k, j < fb_ct I n → (k < n ∧ I k = true ∧ fb_ct I k = j) := by
    intro j
    by_cases hj : j < fb_ct I n
    · obtain ⟨k, h1, h2, h3⟩ := fb_ct_kth hj
      exact ⟨k, fun _ => ⟨h1, h2, h3⟩⟩
    · exact ⟨0, fun q => absurd q hj⟩
  obtain ⟨e, he⟩ := Classical.axiomOfChoice he
  obtain ⟨j, hj, hr⟩ := fb_onto (n := fb_ct I n) (f := fun j => rk I R n (e j)) (fun j hj => rk_bd h (he j hj).1 (he j hj).2.1) (fun a b hab hb q => by
    have h1 := he a (by omega)
    have h2 := he b hb
    have := rk_inj h h1.1 h2.1 h1.2.1 h2.2.1 q
    rw [this] at h1
    omega) hi
  exact ⟨e j, (he j hj).1, (he j hj).2.1, hr⟩
theorem rk_cong {I I' : Nat → Bool} {R R' : Nat → Nat → Bool} {n k : Nat} (h : ∀ o, o < n → I o = I' o) (h2 : ∀ o, o < n → I' o = true → R o k = R' o k) : rk I R n k = rk I' R' n k := by
  refine fb_ct_cong (fun o ho => ?_)
  rw [h o ho]
  cases hI : I' o with
  | false => rfl
  | true => rw [h2 o ho hI]
