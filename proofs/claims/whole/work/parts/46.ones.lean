/-! how many bits -/
theorem ct_sh (p : Nat → Bool) (n : Nat) : fb_ct p (n + 1) = (if p 0 then 1 else 0) + fb_ct (fun k => p (k + 1)) n := by
  have h := fb_ct_split p 1 n
  rw [Nat.add_comm 1 n] at h
  rw [h]
  have e : fb_ct p 1 = (if p 0 then 1 else 0) := by
    rw [fb_ct_succ]
    exact Nat.zero_add _
  rw [e]
  exact congrArg _ (fb_ct_cong (fun k _ => by rw [Nat.add_comm 1 k]))
theorem ct_pred : ∀ (n X : Nat), 0 < X → X < 2 ^ n → fb_ct (fun i => X.testBit i && (X - 1).testBit i) n + 1 = fb_ct (fun i => X.testBit i) n
  | 0, X, h0, h => by
    have : X < 1 := h
    omega
  | n + 1, X, h0, h => by
    rw [ct_sh, ct_sh]
    have h2 : X < 2 * 2 ^ n := by
      rw [Nat.pow_succ] at h
      omega
    simp only [Nat.testBit_succ, Nat.testBit_zero]
    by_cases c : X % 2 = 1
    · have c2 : ¬ (X - 1) % 2 = 1 := by omega
      have e : (X - 1) / 2 = X / 2 := by omega
      rw [e]
      simp [c, c2]
      omega
    · have e : (X - 1) / 2 = X / 2 - 1 := by omega
      rw [e]
      have ih := ct_pred n (X / 2) (by omega) (by omega)
      simp [c]
      exact ih
def bn (p : Nat → Bool) : Nat → Nat
  | 0 => 0
  | n + 1 => bn p n + (if p n then 2 ^ n else 0)
theorem bn_lt (p : Nat → Bool) : ∀ n, bn p n < 2 ^ n
  | 0 => Nat.zero_lt_one
  | n + 1 => by
    have := bn_lt p n
    show bn p n + _ < _
    rw [Nat.pow_succ]
    split <;> omega
theorem one_sh : ∀ n, n < 31 → (1 : Int32) <<< (nI n &&& 31) = nI (2 ^ n) := by decide +kernel
theorem bs_bn (p : Nat → Bool) : ∀ n, n ≤ 31 → bs p n = nI (bn p n)
  | 0, _ => rfl
  | n + 1, h => by
    have ih := bs_bn p n (by omega)
    cases hp : p n with
    | false =>
      rw [bs_no hp, ih]
      show _ = nI (bn p n + (if p n then 2 ^ n else 0))
      rw [hp]
      simp
    | true =>
      rw [bs_yes hp, ih, one_sh n (by omega)]
      show _ = nI (bn p n + (if p n then 2 ^ n else 0))
      rw [hp, if_pos rfl]
      have h2 := fa_or_sum (a := bn p n) (k := n) 1 (bn_lt p n)
      rw [Nat.mul_one] at h2
      rw [Nat.add_comm, ← h2]
      exact b_ext (fun i _ => by rw [b_or, b_or, Bool.or_comm])
theorem bn_bit (p : Nat → Bool) : ∀ n i, (bn p n).testBit i = (decide (i < n) && p i)
  | 0, i => by
    show (0 : Nat).testBit i = _
    simp
  | n + 1, i => by
    show (bn p n + (if p n then 2 ^ n else 0)).testBit i = _
    have ih := bn_bit p n
    cases hp : p n with
    | false =>
      rw [if_neg (by decide), Nat.add_zero, ih]
      by_cases e : i = n
      · subst e
        simp [hp]
      · have : (i < n + 1) ↔ (i < n) := by omega
        simp [this]
    | true =>
      rw [if_pos rfl, Nat.add_comm]
      by_cases e : i = n
      · subst e
        rw [Nat.testBit_two_pow_add_eq, ih]
        simp [hp]
      · by_cases e2 : i < n
        · rw [Nat.testBit_two_pow_add_gt e2, ih]
          have : i < n + 1 := by omega
          simp [e2, this]
        · have : 2 ^ n + bn p n < 2 ^ i := by
            have h1 := bn_lt p n
            have h2 : 2 ^ (n + 1) ≤ 2 ^ i := Nat.pow_le_pow_right (by decide) (by omega)
            rw [Nat.pow_succ] at h2
            omega
          rw [Nat.testBit_lt_two_pow this]
          have : ¬ i < n + 1 := by omega
          simp [this]
theorem bn_ct (p : Nat → Bool) : fb_ct (fun i => (bn p 30).testBit i) 30 = fb_ct p 30 := fb_ct_cong (fun k hk => by rw [bn_bit]; simp [hk])
theorem mo_onesOf_s {p : Nat → Bool} {μ : sl_M} {Q : Int32 → sl_M → Prop} (hQ : Q (nI (fb_ct p 30)) μ) : mo_onesOf (bs p 30) μ Q := by
  refine lq2 (fun n x2 x3 => mo_onesOf_L4 (bs p 30) Q n x2 x3 μ) (fun k x2 x3 => ∃ Y, Y < 2 ^ 30 ∧ x3 = nI Y ∧ x2 = nI k ∧ k + fb_ct (fun i => Y.testBit i) 30 = fb_ct p 30) (fb_ct p 30) 0 (bs p 30) ⟨bn p 30, bn_lt p 30, bs_bn p 30 (by omega), rfl, by rw [bn_ct, Nat.zero_add]⟩ ?_ ?_
  · rintro n x2 x3 ⟨Y, hY, rfl, rfl, he⟩
    have h0 : Y = 0 := by
      apply Classical.byContradiction
      intro ne
      have := ct_pred 30 Y (by omega) hY
      omega
    subst h0
    exact ⟨fun _ => hQ, fun z => absurd rfl z⟩
  · rintro n k x2 x3 hk ⟨Y, hY, rfl, rfl, he⟩ ih
    have h0 : 0 < Y := by
      apply Classical.byContradiction
      intro ne
      obtain rfl : Y = 0 := by omega
      have : fb_ct (fun i => (0 : Nat).testBit i) 30 = 0 := fb_ct_zero.mpr (fun k _ => by simp)
      omega
    refine ⟨fun z => absurd z (nI_ne0 h0 (by omega)), fun _ v hv => ?_⟩
    have hp := ct_pred 30 Y h0 hY
    have e : fb_ct (fun i => (Y &&& (Y - 1)).testBit i) 30 = fb_ct (fun i => Y.testBit i && (Y - 1).testBit i) 30 := fb_ct_cong (fun i _ => by rw [Nat.testBit_and])
    rw [nI_sub1 h0, fa_and] at hv
    exact ih _ _ ⟨Y &&& (Y - 1), Nat.lt_of_le_of_lt Nat.and_le_left hY, hv, pl_inc k, by omega⟩
