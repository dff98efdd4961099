/-! heaviest: chains of spans that don't meet -/
def Ch (s : SS) : Nat → Int → Int → Int → Prop
  | 0, p, q, v => p ≤ q ∧ v = 0
  | n + 1, p, q, v => ∃ k, k < 30 ∧ sI s k ∧ p ≤ sL s k ∧ Ch s n (sH s k + 1) q (v - sW s k)
theorem Ch_mono {s : SS} : ∀ {n : Nat} {p q q' v : Int}, Ch s n p q v → q ≤ q' → Ch s n p q' v
  | 0, p, q, q', v, h, hq => ⟨by have := h.1; omega, h.2⟩
  | n + 1, p, q, q', v, ⟨k, hk, ik, h1, h2⟩, hq => ⟨k, hk, ik, h1, Ch_mono h2 hq⟩
theorem Ch_app {s : SS} {k : Nat} (hk : k < 30) (ik : sI s k) {q : Int} (hq : sH s k + 1 ≤ q) : ∀ {n : Nat} {p v : Int}, Ch s n p (sL s k) v → Ch s (n + 1) p q (v + sW s k)
  | 0, p, v, h => ⟨k, hk, ik, h.1, hq, by have := h.2; omega⟩
  | n + 1, p, v, ⟨j, hj, ij, h1, h2⟩ => ⟨j, hj, ij, h1, by
    have := Ch_app hk ik hq h2
    rw [show v + sW s k - sW s j = v - sW s j + sW s k by omega]
    exact this⟩
theorem Ch_last {s : SS} : ∀ {n : Nat} {p q v : Int}, Ch s (n + 1) p q v → ∃ k, k < 30 ∧ sI s k ∧ sH s k + 1 ≤ q ∧ Ch s n p (sL s k) (v - sW s k)
  | 0, p, q, v, ⟨k, hk, ik, h1, h2⟩ => ⟨k, hk, ik, h2.1, h1, h2.2⟩
  | n + 1, p, q, v, ⟨j, hj, ij, h1, h2⟩ => by
    obtain ⟨k, hk, ik, h3, h4⟩ := Ch_last h2
    refine ⟨k, hk, ik, h3, j, hj, ij, h1, ?_⟩
    rw [show v - sW s k - sW s j = v - sW s j - sW s k by omega]
    exact h4
def OA (s : SS) (q v : Int) : Prop := (∃ n, Ch s n 0 q v) ∧ (∀ n v', Ch s n 0 q v' → v' ≤ v)
noncomputable abbrev w0 (s : SS) (i : Nat) : Int := sW s (e0 s i)
def OB (s : SS) (k : Nat) (v : Int) : Prop := (∃ n, ∀ p : Int, p ≤ 1000 → (∀ j, k ≤ j → j < sN s → p ≤ (l0 s j : Int)) → Ch s n p 1000 v) ∧ (∀ n j v', k ≤ j → j < sN s → Ch s n ((h0 s j : Int) + 1) 1000 (v' - w0 s j) → v' ≤ v) ∧ 0 ≤ v ∧ v + 99 * (k : Int) ≤ 99 * (sN s : Int)
theorem OA_OB {s : SS} (ok : sOK s) {a b : Int} (ha : OA s 1000 a) (hb : OB s 0 b) : b = a := by
  obtain ⟨⟨n, h1⟩, h2⟩ := ha
  obtain ⟨⟨n', h3⟩, h4, h5, -⟩ := hb
  have g1 : b ≤ a := h2 n' b (h3 0 (by omega) (fun j _ _ => by omega))
  have g2 : a ≤ b := by
    cases n with
    | zero =>
      have := h1.2
      omega
    | succ n =>
      obtain ⟨k, hk, ik, c1, c2⟩ := h1
      have hr : rq s (yl s) 0 30 k < sN s := rk_bd (I := sC s) (RR_ord s (yl s) 0) hk ik
      have e : e0 s (rq s (yl s) 0 30 k) = k := en_rk hk ik
      have o := (e0_ok ok hr).2.2.2.2.1
      refine h4 n (rq s (yl s) 0 30 k) a (by omega) hr ?_
      rw [← o]
      show Ch s n (sH s (e0 s _) + 1) 1000 (a - sW s (e0 s _))
      rw [e]
      exact c2
  omega
theorem OB_N (s : SS) : OB s (sN s) 0 := ⟨⟨0, fun p hp _ => ⟨hp, rfl⟩⟩, fun n j v' h1 h2 => absurd h1 (by omega), by omega, by omega⟩
theorem OB_step {s : SS} (ok : sOK s) {k b : Nat} (hk : k < sN s) (hb : k < b) (hbN : b ≤ sN s) (g1 : ∀ t, k < t → t < b → l0 s t ≤ h0 s k) (g2 : b < sN s → h0 s k < l0 s b) {v1 vb x : Int} (o1 : OB s (k + 1) v1) (ob : OB s b vb) (hx : (v1 < w0 s k + vb ∧ x = w0 s k + vb) ∨ (w0 s k + vb ≤ v1 ∧ x = v1)) : OB s k x := by
  have ek := e0_ok ok hk
  have wk := ok _ ek.1 ek.2.1
  have wk1 : w0 s k ≤ 99 := wk.2.2.2.2
  refine ⟨?_, fun n j v' hj hjN h => ?_, ?_, ?_⟩
  · rcases hx with ⟨-, rfl⟩ | ⟨-, rfl⟩
    · obtain ⟨n, hn⟩ := ob.1
      refine ⟨n + 1, fun p hp h => ⟨e0 s k, ek.1, ek.2.1, by rw [ek.2.2.2.1]; exact h k (by omega) hk, ?_⟩⟩
      rw [show w0 s k + vb - sW s (e0 s k) = vb by show sW s (e0 s k) + vb - sW s (e0 s k) = vb; omega]
      refine hn _ (by rw [ek.2.2.2.2.1]; omega) (fun j h1 h2 => ?_)
      have a := g2 (by omega)
      have c := l0_le ok h1 h2
      rw [ek.2.2.2.2.1]
      omega
    · obtain ⟨n, hn⟩ := o1.1
      exact ⟨n, fun p hp h => hn p hp (fun j h1 h2 => h j (by omega) h2)⟩
  · by_cases e : j = k
    · subst e
      have : v' - w0 s j ≤ vb := by
        cases n with
        | zero =>
          have := h.2
          have := ob.2.2.1
          omega
        | succ n =>
          obtain ⟨o, ho, io, c1, c2⟩ := h
          have hr : rq s (yl s) 0 30 o < sN s := rk_bd (I := sC s) (RR_ord s (yl s) 0) ho io
          have e : e0 s (rq s (yl s) 0 30 o) = o := en_rk ho io
          have q := e0_ok ok hr
          have q1 := q.2.2.2.1
          have q2 := q.2.2.2.2.1
          refine ob.2.1 n (rq s (yl s) 0 30 o) _ ?_ hr ?_
          · apply Classical.byContradiction
            intro z
            rw [e] at q1
            by_cases t1 : rq s (yl s) 0 30 o ≤ j
            · have := l0_le ok t1 hk
              omega
            · have := g1 _ (by omega) (Nat.lt_of_not_le z)
              omega
          · rw [← q2]
            show Ch s n (sH s (e0 s _) + 1) 1000 (v' - w0 s j - sW s (e0 s _))
            rw [e]
            exact c2
      omega
    · have := o1.2.1 n j v' (by omega) hjN h
      omega
  · have := o1.2.2.1
    omega
  · have a := o1.2.2.2
    have c := ob.2.2.2
    omega
section HV
variable {μ : sl_M} {s : SS} {Q : Int32 → sl_M → Prop} {P : sl_M → Prop}
theorem co_heaviestOf_s (ci : CInv s μ) (hQ : ∀ m v, Fr fC μ m → CInv s m → OB s 0 v → Q (i3 v) m) : co_heaviestOf μ Q := by
  unfold co_heaviestOf
  refine ix_sort_c ci (q := 0) (by omega) (fun m5 hf5 cm5 hs => ⟨vp_in_nI (by have := sN_le s; omega) (by decide), ?_⟩)
  have hN := sN_le s
  have ok := ci.1
  rintro m7 rfl
  rw [nI_clamp (show sN s < 2 ^ 31 by omega)]
  refine lq2 (fun n x3 m => co_heaviestOf_L17 Q n (nI (sN s)) x3 m) (fun j x3 m => x3 = i3 ((sN s : Int) - 1 - j) ∧ Fr (fun o _ => o = 41) m5 m ∧ ∀ i, sN s ≤ i + j → i ≤ sN s → ∃ v, m 41 i = i3 v ∧ OB s i v) (sN s) _ _ ⟨by rw [i3_n, i3_1, i3_sub]; congr 1; omega, Fr.rfl'.up rfl, fun i h1 h2 => ⟨0, by rw [show i = sN s by omega, pl_up_s]; rfl, by rw [show i = sN s by omega]; exact OB_N s⟩⟩ ?_ ?_
  · rintro n x3 m ⟨rfl, hf, hv⟩
    obtain ⟨v, v1, v2⟩ := hv 0 (by omega) (by omega)
    refine ⟨fun _ => ⟨vp_in_nI (n := 0) (by omega) (by decide), ?_⟩, fun z => absurd (by rw [i3_0, i3_lt (pl_B (by omega) (by omega)) (pl_B (by omega) (by omega))]; omega) z⟩
    show Q (m 41 0) m
    rw [v1]
    exact hQ m v (hf5.tr (hf.mono (fun o k z => by omega))) (cm5.fr hf (fun o k h1 h2 z => by omega)) v2
  · rintro n j x3 m hj ⟨rfl, hf, hv⟩ ih
    obtain ⟨k, hk⟩ : ∃ k, sN s = k + 1 + j := ⟨sN s - 1 - j, by omega⟩
    have ek : ((sN s : Int) - 1 - j) = (k : Int) := by omega
    rw [ek, ← i3_n]
    have dec : nI k + (-1 : Int32) = i3 ((sN s : Int) - 1 - (j + 1 : Nat)) := by
      rw [i3_n, i3_m1, i3_add]
      congr 1
      omega
    have cm := cm5.fr hf (fun o k h1 h2 z => by omega)
    have at' : ∀ i, i < sN s → (m 3 i).toNatClampNeg = 4 + e0 s i ∧ m (4 + e0 s i) 2 = nI (l0 s i) ∧ m (4 + e0 s i) 3 = nI (h0 s i) ∧ m (4 + e0 s i) 4 = i3 (w0 s i) := fun i hi => by
      have ei := e0_ok ok hi
      refine ⟨by rw [hf 3 i (by omega), hs i hi]; exact cl4 ei.1, by rw [(cm.2.1 _ ei.1).2.2.1, ei.2.2.2.1, i3_n], by rw [(cm.2.1 _ ei.1).2.2.2.1, ei.2.2.2.2.1, i3_n], (cm.2.1 _ ei.1).2.2.2.2⟩
    have hkN : k < sN s := by omega
    have okk := e0_ok ok hkN
    have ak := at' k hkN
    have kk := kd9 _ okk.1
    refine ⟨fun z => absurd z (by rw [i3_n, i3_0, i3_lt (pl_B (by omega) (by omega)) (pl_B (by omega) (by omega))]; omega), fun _ => ?_⟩
    -- what stands behind
    have hB : ∀ b, k < b → b ≤ sN s → (∀ t, k < t → t < b → l0 s t ≤ h0 s k) → (b < sN s → h0 s k < l0 s b) → co_heaviestOf_B60 Q (co_heaviestOf_L17 Q n) (nI (sN s)) (nI k) (nI b) m := by
      intro b b1 b2 g1 g2
      obtain ⟨v1, c1, o1⟩ := hv (k + 1) (by omega) (by omega)
      obtain ⟨vb, cb, ob⟩ := hv b (by omega) (by omega)
      have r1 := o1.2.2
      have rb := ob.2.2
      have wk := ok _ okk.1 okk.2.1
      have wk1 : -99 ≤ w0 s k ∧ w0 s k ≤ 99 := wk.2.2.2
      refine ⟨by rw [pl_inc]; exact vp_in_nI (by omega) (by decide), pl_in (by omega), ?_⟩
      rw [pl_inc, pl_cl (show k < 30 by omega), ak.1, ak.2.2.2, nI_clamp (show b < 2 ^ 31 by omega), nI_clamp (show k + 1 < 2 ^ 31 by omega), c1, cb, i3_add]
      refine ⟨kk, vp_in_nI (by omega) (by decide), ?_⟩
      have fin : ∀ x : Int, (v1 < w0 s k + vb ∧ x = w0 s k + vb) ∨ (w0 s k + vb ≤ v1 ∧ x = v1) → vp_in (nI k) 31 ∧ ∀ m4, m4 = sl_up m 41 k (i3 x) → co_heaviestOf_L17 Q n (nI (sN s)) (nI k + (-1 : Int32)) m4 := by
        intro x hx
        refine ⟨vp_in_nI (by omega) (by decide), ?_⟩
        rintro m4 rfl
        rw [dec]
        refine ih _ _ ⟨rfl, hf.up rfl, fun i h1 h2 => ?_⟩
        by_cases e : i = k
        · subst e
          exact ⟨x, pl_up_s, OB_step ok hkN b1 b2 g1 g2 o1 ob hx⟩
        · rw [pl_up_k e]
          exact hv i (by omega) h2
      unfold ma_max
      rw [i3_lt (pl_B (by omega) (by omega)) (pl_B (by omega) (by omega))]
      exact ⟨fun c => fin _ (Or.inl ⟨c, rfl⟩), fun c => fin _ (Or.inr ⟨by omega, rfl⟩)⟩
    refine lp0 (fun n' x4 => co_heaviestOf_L26 Q (co_heaviestOf_L17 Q n) n' (nI (sN s)) (nI k) x4 m) (fun i x4 => x4 = nI (k + 1 + i) ∧ ∀ t, k < t → t < k + 1 + i → l0 s t ≤ h0 s k) (sN s - (k + 1)) _ ⟨by rw [pl_inc], fun t h1 h2 => absurd h1 (by omega)⟩ ?_ ?_
    · rintro n' x4 ⟨rfl, g⟩
      rw [show k + 1 + (sN s - (k + 1)) = sN s by omega] at *
      exact ⟨fun z => absurd z (by rw [nI_ltI (by omega) (by omega)]; omega), fun _ => hB _ (by omega) (by omega) g (fun z => absurd z (by omega))⟩
    · rintro n' i x4 hi ⟨rfl, g⟩ ih2
      have ai := at' (k + 1 + i) (by omega)
      have oi := e0_ok ok (i := k + 1 + i) (by omega)
      refine ⟨fun _ => ⟨pl_in (by omega), ?_⟩, fun z => absurd (by rw [nI_ltI (by omega) (by omega)]; omega) z⟩
      rw [pl_cl (show k + 1 + i < 30 by omega), pl_cl (show k < 30 by omega), ai.1, ak.1, ai.2.1, ak.2.2.1, nI_leI (by omega) (by omega)]
      refine ⟨kd9 _ oi.1, pl_in (by omega), kk, fun c => ih2 _ ⟨by rw [pl_inc]; congr 1, fun t h1 h2 => ?_⟩, fun c => hB _ (by omega) (by omega) g (fun _ => by omega)⟩
      by_cases e : t = k + 1 + i
      · rw [e]
        exact c
      · exact g t h1 (by omega)
theorem up_id {o k : Nat} {v : Int32} (e : μ o k = v) : sl_up μ o k v = μ := by
  funext o' k'
  rw [pl_up]
  by_cases h : o' = o ∧ k' = k
  · rw [if_pos h, h.1, h.2, e]
  · rw [if_neg h]
abbrev fB : Nat → Nat → Prop := fun o k => o = 120 ∧ k ≠ 0
theorem OA_step (ok : sOK s) {q : Nat} {v0 x : Int} (h0 : OA s (q : Int) v0) (p0 : 0 ≤ v0) (hx : v0 ≤ x) (hc : ∃ n, Ch s n 0 ((q + 1 : Nat) : Int) x) (hk : ∀ k, k < 30 → sI s k → sH s k = (q : Int) → ∃ a, OA s (sL s k) a ∧ a + sW s k ≤ x) : OA s ((q + 1 : Nat) : Int) x := by
  refine ⟨hc, fun n v' h => ?_⟩
  cases n with
  | zero =>
    have := h.2
    omega
  | succ n =>
    obtain ⟨k, hk1, ik, h1, h2⟩ := Ch_last h
    by_cases e : sH s k = (q : Int)
    · obtain ⟨a, a1, a2⟩ := hk k hk1 ik e
      have := a1.2 n _ h2
      omega
    · have h3 := Ch_app hk1 ik (q := (q : Int)) (by omega) h2
      have := h0.2 _ _ h3
      omega
theorem mo_heaviest_s (h : MR μ s) (ok : sOK s) (z0 : μ 120 0 = 0) (hQ : ∀ m v, Fr fN μ m → MR m s → OA s 1000 v → Q (i3 v) m) : mo_heaviest μ Q := by
  unfold mo_heaviest
  rintro m5 rfl
  refine lq2 (fun n x1 m => mo_heaviest_L7 Q n x1 m) (fun p x1 m => x1 = nI p ∧ Fr fB (sl_up μ 104 5 0) m ∧ ∀ q, q ≤ p → ∃ v, m 120 q = i3 v ∧ OA s (q : Int) v ∧ 0 ≤ v ∧ v ≤ 99 * (q : Int)) 1000 _ _ ⟨rfl, Fr.rfl', fun q hq => ⟨0, ?_, ?_, by omega, by omega⟩⟩ ?_ ?_
  · rw [show q = 0 by omega, pl_up_o (by omega), z0]
    rfl
  · rw [show q = 0 by omega]
    refine ⟨⟨0, by show (0 : Int) ≤ 0; omega, rfl⟩, fun n v' hc => ?_⟩
    cases n with
    | zero =>
      have := hc.2
      omega
    | succ n =>
      obtain ⟨k, hk, ik, h1, h2⟩ := Ch_last hc
      have := ok k hk ik
      omega
  · rintro n x1 m ⟨rfl, hf, hv⟩
    obtain ⟨v, v1, v2, -⟩ := hv 1000 (by omega)
    refine ⟨fun z => absurd z (by decide), fun _ => ⟨vp_in_nI (n := 1000) (by omega) (by decide), ?_⟩⟩
    show Q (m 120 1000) m
    rw [v1]
    have F : Fr fN μ m := Fr.th.tr (hf.mono (fun o k z => by omega))
    exact hQ m v F (h.fr (p := fun o k => fB o k ∨ (o = 104 ∧ k = 5)) ((Fr.rfl'.up (by omega)).tr (hf.mono (fun o k z => by omega))) (fun o k h1 h2 z => by omega)) v2
  · rintro n p x1 m hp ⟨rfl, hf, hv⟩ ih
    have hM : MR m s := h.th.fr hf (fun o k h1 h2 z => by omega)
    obtain ⟨v0, c0, o0, p0, b0⟩ := hv p (Nat.le_refl _)
    have i1 : vp_in (nI (p + 1)) 1001 := vp_in_nI (by omega) (by decide)
    have cl1 : (nI (p + 1)).toNatClampNeg = p + 1 := nI_clamp (by omega)
    refine ⟨fun _ => ⟨vp_in_nI (by omega) (by decide), by rw [pl_inc]; exact i1, ?_⟩, fun z => absurd (nI_lt hp (by decide)) z⟩
    rw [pl_inc, cl1, nI_clamp (show p < 2 ^ 31 by omega), c0]
    rintro m1 rfl
    refine lq2 (fun n' x2 m => mo_heaviest_L30 Q (mo_heaviest_L7 Q n) n' (nI p) x2 m) (fun k x2 m' => x2 = nI k ∧ Fr (fun o k => o = 120 ∧ k = p + 1) m m' ∧ ∃ x, m' 120 (p + 1) = i3 x ∧ v0 ≤ x ∧ x ≤ 99 * ((p : Int) + 1) ∧ (∃ n, Ch s n 0 ((p + 1 : Nat) : Int) x) ∧ ∀ j, j < k → sI s j → sH s j = (p : Int) → ∃ a, OA s (sL s j) a ∧ a + sW s j ≤ x) 30 _ _ ⟨rfl, Fr.rfl'.up ⟨rfl, rfl⟩, v0, pl_up_s, by omega, by omega, ?_, fun j hj => absurd hj (by omega)⟩ ?_ ?_
    · obtain ⟨n1, hn1⟩ := o0.1
      exact ⟨n1, Ch_mono hn1 (by omega)⟩
    · rintro n' x2 m' ⟨rfl, hf', x, x1, x2, x3, x4, x5⟩
      refine ⟨fun z => absurd z pl_nlt, fun _ => ?_⟩
      rw [pl_inc]
      refine ih _ _ ⟨rfl, hf.tr (hf'.mono (fun o k z => by omega)), fun q hq => ?_⟩
      by_cases e : q = p + 1
      · subst e
        exact ⟨x, x1, OA_step ok o0 p0 x2 x4 x5, by omega, by omega⟩
      · rw [hf' _ _ (by omega)]
        exact hv q (by omega)
    · rintro n' k x2 m' hk ⟨rfl, hf', x, x1, x2, x3, x4, x5⟩ ih2
      have hM' : MR m' s := hM.fr hf' (fun o k h1 h2 z => by omega)
      obtain ⟨d1, d2, d3, d4⟩ := hM' k hk
      -- the better of both is kept
      have hB : ∀ (y : Int), i3B y → (y ≤ x → mo_heaviest_L30 Q (mo_heaviest_L7 Q n) n' (nI p) (nI (k + 1)) m') → (x < y → mo_heaviest_L30 Q (mo_heaviest_L7 Q n) n' (nI p) (nI (k + 1)) (sl_up m' 120 (p + 1) (i3 y))) → mo_heaviest_B79 Q (mo_heaviest_L7 Q n) (mo_heaviest_L30 Q (mo_heaviest_L7 Q n) n') (nI p) (nI k) (i3 y) m' := by
        intro y by' f1 f2
        refine ⟨by rw [pl_inc]; exact i1, ?_⟩
        rw [pl_inc, cl1, x1, pl_inc, i3_le by' (pl_B (by omega) (by omega))]
        refine ⟨fun c => ⟨i1, i1, ?_⟩, fun c => ⟨i1, ?_⟩⟩
        · rintro m3 rfl
          rw [up_id x1]
          exact f1 c
        · rintro m4 rfl
          exact f2 (by omega)
      have keep : (∀ a, sI s k → sH s k = (p : Int) → OA s (sL s k) a → a + sW s k ≤ x) → mo_heaviest_L30 Q (mo_heaviest_L7 Q n) n' (nI p) (nI (k + 1)) m' := by
        intro hh
        refine ih2 _ _ ⟨rfl, hf', x, x1, x2, x3, x4, fun j hj ij ej => ?_⟩
        by_cases e : j = k
        · subst e
          have oj := ok j hk ij
          obtain ⟨a, a1, a2, -⟩ := hv (sL s j).toNat (by omega)
          rw [show (((sL s j).toNat : Nat) : Int) = sL s j by omega] at a2
          exact ⟨a, a2, hh a ij ej a2⟩
        · exact x5 j (by omega) ij ej
      refine ⟨fun _ => ⟨pl_in hk, ?_⟩, fun z => absurd (pl_lt hk) z⟩
      rw [pl_cl hk, d1, d2, d3, d4, pl_b1]
      have no : ((sI s k ∧ sH s k = (p : Int)) → False) → mo_heaviest_B79 Q (mo_heaviest_L7 Q n) (mo_heaviest_L30 Q (mo_heaviest_L7 Q n) n') (nI p) (nI k) 0 m' := fun hh => by
        have := hB 0 (pl_B (by omega) (by omega)) (fun _ => keep (fun a ia ea _ => absurd ⟨ia, ea⟩ hh)) (fun c => absurd c (by omega))
        exact this
      refine ⟨fun ik => ⟨pl_in hk, ?_⟩, fun ik => no (fun z => ik z.1)⟩
      have o := ok k hk ik
      rw [i3_n p, i3_eq (ok.B hk ik).2.1 (pl_B (by omega) (by omega)), ← i3_n]
      refine ⟨fun c => ?_, fun c => no (fun z => c z.2)⟩
      have eL : sL s k = (((sL s k).toNat : Nat) : Int) := by omega
      obtain ⟨a, a1, a2, a3, a4⟩ := hv (sL s k).toNat (by omega)
      rw [← eL] at a2 a4
      have aL : m' 120 (sL s k).toNat = i3 a := by rw [hf' _ _ (by omega), a1]
      have cL : (i3 (sL s k)).toNatClampNeg = (sL s k).toNat := by
        rw [eL, ← i3_n, nI_clamp (by omega)]
        omega
      have iL : vp_in (i3 (sL s k)) 1001 := by
        rw [eL, ← i3_n]
        exact vp_in_nI (by omega) (by decide)
      rw [cL, aL, i3_add]
      refine ⟨pl_in hk, iL, pl_in hk, hB _ (pl_B (by omega) (by omega)) (fun c1 => keep (fun a' _ _ oa => ?_)) (fun c1 => ?_)⟩
      · obtain ⟨nn, hn⟩ := oa.1
        have := a2.2 _ _ hn
        omega
      · refine ih2 _ _ ⟨rfl, hf'.up ⟨rfl, rfl⟩, _, pl_up_s, by omega, by omega, ?_, fun j hj ij ej => ?_⟩
        · obtain ⟨nn, hn⟩ := a2.1
          exact ⟨nn + 1, Ch_app hk ik (by omega) hn⟩
        · by_cases e : j = k
          · subst e
            exact ⟨a, a2, by omega⟩
          · obtain ⟨b, b1, b2⟩ := x5 j (by omega) ij ej
            exact ⟨b, b1, by omega⟩
theorem op_heaviest : Opp sx_heaviest mo_heaviest := by
  rintro μ ⟨⟨s, ci, mr⟩, ri⟩
  unfold sx_heaviest
  refine co_heaviestOf_s ci (fun m v hf cm ob => ?_)
  have mrm := mr.fr hf (fun o k h1 h2 q => by omega)
  obtain ⟨n, p1, p2, p3, p4, p5⟩ := ri.2.2.2.1
  refine mo_heaviest_s mrm ci.1 (by rw [hf _ _ (by omega)]; exact p5) (fun m2 v2 hf2 mr2 oa => ⟨?_, inv2 mr ri hf cm hf2 mr2⟩)
  rw [OA_OB ci.1 oa ob]
end HV
