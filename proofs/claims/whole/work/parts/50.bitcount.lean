/-! Integer.bitCount, by bytes -/
theorem bt_nI (X : Nat) {i : Nat} (hi : i < 32) : bt (nI X) i = X.testBit i := by
  show (BitVec.ofNat 32 X).getLsbD i = _
  rw [BitVec.getLsbD_ofNat]
  simp [hi]
theorem nI_ush {X n : Nat} (hn : n < 32) (hX : X < 2 ^ 32) : ((nI X).toUInt32 >>> ((nI n).toUInt32 &&& Int32.toUInt32 31)).toInt32 = nI (X / 2 ^ n) := by
  refine b_ext (fun i hi => ?_)
  rw [b_ushr n hn, bt_nI (X / 2 ^ n) hi, Nat.testBit_div_two_pow]
  by_cases h : n + i < 32
  · rw [bt_nI X h, Nat.add_comm]
  · rw [b_big (by omega), Nat.testBit_lt_two_pow]
    exact Nat.lt_of_lt_of_le hX (Nat.pow_le_pow_right (by decide) (by omega))
theorem nI_mns {a b : Nat} (h : b ≤ a) : nI a - nI b = nI (a - b) := by
  rw [i3_n, i3_n, i3_n, i3_sub]
  congr 1
  omega
theorem and_256 {a b c d : Nat} (hb : b < 256) (hd : d < 256) : (256 * a + b) &&& (256 * c + d) = 256 * (a &&& c) + (b &&& d) := by
  have hbd : b &&& d < 256 := Nat.lt_of_le_of_lt Nat.and_le_left hb
  refine Nat.eq_of_testBit_eq (fun i => ?_)
  have e := fun (x y : Nat) (hy : y < 2 ^ 8) => Nat.testBit_two_pow_mul_add (i := 8) x hy
  rw [Nat.testBit_and, e a b hb i, e c d hd i, e (a &&& c) (b &&& d) hbd i]
  by_cases h : i < 8
  · simp [h]
  · simp [h]
def b4 (a b c d : Nat) : Nat := 256 * (256 * (256 * d + c) + b) + a
theorem and_b4 {a b c d a' b' c' d' : Nat} (h1 : a < 256) (h2 : b < 256) (h3 : c < 256) (g1 : a' < 256) (g2 : b' < 256) (g3 : c' < 256) : b4 a b c d &&& b4 a' b' c' d' = b4 (a &&& a') (b &&& b') (c &&& c') (d &&& d') := by
  unfold b4
  rw [and_256 h1 g1, and_256 h2 g2, and_256 h3 g3]
theorem c_1 : ∀ b, b < 256 → ∀ c, c < 2 → (b / 2 + 128 * c) &&& 85 = (b / 2) &&& 85 := by decide +kernel
theorem c_1b : ∀ b, b < 256 → (b / 2) &&& 85 ≤ b := by decide +kernel
def y1 (b : Nat) : Nat := b - (b / 2 &&& 85)
theorem c_2 : ∀ b, b < 256 → ∀ c, c < 4 → (y1 b / 4 + 64 * c) &&& 51 = (y1 b / 4) &&& 51 := by decide +kernel
def y2 (b : Nat) : Nat := (y1 b &&& 51) + (y1 b / 4 &&& 51)
theorem c_2b : ∀ b, b < 256 → y2 b % 16 ≤ 4 ∧ y2 b / 16 ≤ 4 := by decide +kernel
theorem c_3 : ∀ b, b < 256 → ∀ c, c < 5 → (y2 b + y2 b / 16 + 16 * c) &&& 15 = fb_ct (fun i => b.testBit i) 8 := by decide +kernel
theorem and_b4' {a b c d a' b' c' d' : Nat} (h1 : a < 256) (h2 : b < 256) (h3 : c < 256) (g1 : a' < 256) (g2 : b' < 256) (g3 : c' < 256) {X M Y : Nat} (hX : X = b4 a b c d) (hM : M = b4 a' b' c' d') (hY : Y = b4 (a &&& a') (b &&& b') (c &&& c') (d &&& d')) : nI X &&& nI M = nI Y := by
  rw [fa_and, hX, hM, hY, and_b4 h1 h2 h3 g1 g2 g3]
theorem bc_1 {a b c d : Nat} (h1 : a < 256) (h2 : b < 256) (h3 : c < 256) (h4 : d < 128) : nI (b4 a b c d / 2 ^ 1) &&& 1431655765 = nI (b4 (a / 2 &&& 85) (b / 2 &&& 85) (c / 2 &&& 85) (d / 2 &&& 85)) := by
  refine and_b4' (a := a / 2 + 128 * (b % 2)) (b := b / 2 + 128 * (c % 2)) (c := c / 2 + 128 * (d % 2)) (d := d / 2) (a' := 85) (b' := 85) (c' := 85) (d' := 85) (by omega) (by omega) (by omega) (by omega) (by omega) (by omega) (M := 1431655765) ?_ rfl ?_
  · unfold b4
    omega
  · rw [c_1 a h1 _ (by omega), c_1 b h2 _ (by omega), c_1 c h3 _ (by omega)]
theorem bc_2 {a b c d : Nat} (h1 : a < 256) (h2 : b < 256) (h3 : c < 256) (h4 : d < 128) : b4 a b c d - b4 (a / 2 &&& 85) (b / 2 &&& 85) (c / 2 &&& 85) (d / 2 &&& 85) = b4 (y1 a) (y1 b) (y1 c) (y1 d) ∧ b4 (a / 2 &&& 85) (b / 2 &&& 85) (c / 2 &&& 85) (d / 2 &&& 85) ≤ b4 a b c d ∧ y1 a < 256 ∧ y1 b < 256 ∧ y1 c < 256 ∧ y1 d < 128 := by
  have e1 := c_1b a h1
  have e2 := c_1b b h2
  have e3 := c_1b c h3
  have e4 := c_1b d (by omega)
  unfold b4 y1
  omega
theorem bc_3 {a b c d : Nat} (h1 : a < 256) (h2 : b < 256) (h3 : c < 256) (h4 : d < 128) : (nI (b4 (y1 a) (y1 b) (y1 c) (y1 d)) &&& 858993459) + (nI (b4 (y1 a) (y1 b) (y1 c) (y1 d) / 2 ^ 2) &&& 858993459) = nI (b4 (y2 a) (y2 b) (y2 c) (y2 d)) := by
  obtain ⟨-, -, k1, k2, k3, k4⟩ := bc_2 h1 h2 h3 h4
  rw [show (858993459 : Int32) = nI 858993459 from rfl, and_b4' (a := y1 a) (b := y1 b) (c := y1 c) (d := y1 d) (a' := 51) (b' := 51) (c' := 51) (d' := 51) k1 k2 k3 (by omega) (by omega) (by omega) (M := 858993459) rfl rfl rfl, and_b4' (a := y1 a / 4 + 64 * (y1 b % 4)) (b := y1 b / 4 + 64 * (y1 c % 4)) (c := y1 c / 4 + 64 * (y1 d % 4)) (d := y1 d / 4) (a' := 51) (b' := 51) (c' := 51) (d' := 51) (by omega) (by omega) (by omega) (by omega) (by omega) (by omega) (M := 858993459) (Y := b4 (y1 a / 4 &&& 51) (y1 b / 4 &&& 51) (y1 c / 4 &&& 51) (y1 d / 4 &&& 51)) ?_ rfl ?_, nI_add]
  · congr 1
    unfold b4 y2
    omega
  · unfold b4
    omega
  · rw [c_2 a h1 _ (by omega), c_2 b h2 _ (by omega), c_2 c h3 _ (by omega)]
abbrev c8 (b : Nat) : Nat := fb_ct (fun i => b.testBit i) 8
theorem bc_4 {a b c d : Nat} (h1 : a < 256) (h2 : b < 256) (h3 : c < 256) (h4 : d < 128) : nI (b4 (y2 a) (y2 b) (y2 c) (y2 d) + b4 (y2 a) (y2 b) (y2 c) (y2 d) / 2 ^ 4) &&& 252645135 = nI (b4 (c8 a) (c8 b) (c8 c) (c8 d)) := by
  have k1 := c_2b a h1
  have k2 := c_2b b h2
  have k3 := c_2b c h3
  have k4 := c_2b d (by omega)
  refine and_b4' (a := y2 a + y2 a / 16 + 16 * (y2 b % 16)) (b := y2 b + y2 b / 16 + 16 * (y2 c % 16)) (c := y2 c + y2 c / 16 + 16 * (y2 d % 16)) (d := y2 d + y2 d / 16 + 16 * 0) (a' := 15) (b' := 15) (c' := 15) (d' := 15) (by omega) (by omega) (by omega) (by omega) (by omega) (by omega) (M := 252645135) ?_ rfl ?_
  · unfold b4
    omega
  · rw [c_3 a h1 _ (by omega), c_3 b h2 _ (by omega), c_3 c h3 _ (by omega), c_3 d (by omega) 0 (by omega)]
theorem bc_5 {a b c d : Nat} : c8 a ≤ 8 ∧ c8 b ≤ 8 ∧ c8 c ≤ 8 ∧ c8 d ≤ 8 := ⟨fb_ct_le _ 8, fb_ct_le _ 8, fb_ct_le _ 8, fb_ct_le _ 8⟩
theorem it_bc {a b c d : Nat} (h1 : a < 256) (h2 : b < 256) (h3 : c < 256) (h4 : d < 128) {μ : sl_M} {Q : Int32 → sl_M → Prop} (hQ : Q (nI (c8 a + c8 b + c8 c + c8 d)) μ) : it_bitCount (nI (b4 a b c d)) μ Q := by
  obtain ⟨e1, e2, k1, k2, k3, k4⟩ := bc_2 h1 h2 h3 h4
  have l1 := c_2b a h1
  have l2 := c_2b b h2
  have l3 := c_2b c h3
  have l4 := c_2b d (by omega)
  have m := bc_5 (a := a) (b := b) (c := c) (d := d)
  unfold it_bitCount
  rw [show ((1 : Int32).toUInt32 &&& Int32.toUInt32 31) = ((nI 1).toUInt32 &&& Int32.toUInt32 31) from rfl, nI_ush (by omega) (by unfold b4; omega), bc_1 h1 h2 h3 h4, nI_mns e2, e1]
  rw [it_bitCount_B10]
  rw [show ((2 : Int32).toUInt32 &&& Int32.toUInt32 31) = ((nI 2).toUInt32 &&& Int32.toUInt32 31) from rfl, nI_ush (by omega) (by unfold b4; omega), bc_3 h1 h2 h3 h4]
  rw [it_bitCount_B24]
  rw [show ((4 : Int32).toUInt32 &&& Int32.toUInt32 31) = ((nI 4).toUInt32 &&& Int32.toUInt32 31) from rfl, nI_ush (by omega) (by unfold b4; omega), nI_add, bc_4 h1 h2 h3 h4]
  generalize c8 a = w at *
  generalize c8 b = x at *
  generalize c8 c = y at *
  generalize c8 d = z at *
  rw [it_bitCount_B34]
  rw [show ((8 : Int32).toUInt32 &&& Int32.toUInt32 31) = ((nI 8).toUInt32 &&& Int32.toUInt32 31) from rfl, nI_ush (by omega) (by unfold b4; omega), nI_add]
  rw [it_bitCount_B41]
  rw [show ((16 : Int32).toUInt32 &&& Int32.toUInt32 31) = ((nI 16).toUInt32 &&& Int32.toUInt32 31) from rfl, nI_ush (by omega) (by unfold b4; omega), nI_add]
  rw [it_bitCount_B48]
  have f := fa_mask (b4 w x y z + b4 w x y z / 2 ^ 8 + (b4 w x y z + b4 w x y z / 2 ^ 8) / 2 ^ 16) 6
  rw [show (63 : Int32) = nI (2 ^ 6 - 1) from rfl, f]
  have g : (b4 w x y z + b4 w x y z / 2 ^ 8 + (b4 w x y z + b4 w x y z / 2 ^ 8) / 2 ^ 16) % 2 ^ 6 = w + x + y + z := by
    clear f hQ e1 e2 k1 k2 k3 k4 l1 l2 l3 l4
    have g1 : b4 w x y z / 2 ^ 8 = 256 * (256 * z + y) + x := by
      unfold b4
      omega
    rw [g1]
    have g2 : (b4 w x y z + (256 * (256 * z + y) + x)) / 2 ^ 16 = 256 * z + y + z := by
      unfold b4
      omega
    rw [g2]
    unfold b4
    omega
  rw [g]
  exact hQ
theorem ct_30 (X : Nat) : fb_ct (fun i => X.testBit i) 32 = c8 (X % 256) + c8 (X / 256 % 256) + c8 (X / 65536 % 256) + c8 (X / 16777216 % 256) := by
  have e := fun (Y : Nat) => fb_ct_cong (p := fun i => Y.testBit i) (q := fun i => (Y % 256).testBit i) (n := 8) (fun k hk => by
    show Y.testBit k = (Y % 2 ^ 8).testBit k
    rw [Nat.testBit_mod_two_pow]
    simp [hk])
  have s := fun (Y : Nat) (n : Nat) => (fb_ct_split (fun i => Y.testBit i) 8 n).trans (congrArg (fb_ct (fun i => Y.testBit i) 8 + ·) (fb_ct_cong (p := fun k => Y.testBit (8 + k)) (q := fun k => (Y / 256).testBit k) (n := n) (fun k _ => by
    show Y.testBit (8 + k) = (Y / 2 ^ 8).testBit k
    rw [Nat.testBit_div_two_pow, Nat.add_comm])))
  have s1 : fb_ct (fun i => X.testBit i) 32 = _ := s X 24
  have s2 : fb_ct (fun i => (X / 256).testBit i) 24 = _ := s (X / 256) 16
  have s3 : fb_ct (fun i => (X / 256 / 256).testBit i) 16 = _ := s (X / 256 / 256) 8
  have d1 : X / 256 / 256 = X / 65536 := by omega
  have d2 : X / 256 / 256 / 256 = X / 16777216 := by omega
  rw [s1, s2, s3, e X, e (X / 256), e (X / 256 / 256), e (X / 256 / 256 / 256), d2, d1, Nat.add_assoc, Nat.add_assoc]
theorem it_bitCount_s {p : Nat → Bool} {μ : sl_M} {Q : Int32 → sl_M → Prop} (hQ : Q (nI (fb_ct p 30)) μ) : it_bitCount (bs p 30) μ Q := by
  have hX := bn_lt p 30
  rw [bs_bn p 30 (by omega)]
  have e : bn p 30 = b4 (bn p 30 % 256) (bn p 30 / 256 % 256) (bn p 30 / 65536 % 256) (bn p 30 / 16777216 % 256) := by
    unfold b4
    omega
  have c : fb_ct p 30 = c8 (bn p 30 % 256) + c8 (bn p 30 / 256 % 256) + c8 (bn p 30 / 65536 % 256) + c8 (bn p 30 / 16777216 % 256) := by
    rw [← ct_30, ← bn_ct p]
    have z : fb_ct (fun i => (bn p 30).testBit i) 32 = fb_ct (fun i => (bn p 30).testBit i) 30 + (if (bn p 30).testBit 30 then 1 else 0) + (if (bn p 30).testBit 31 then 1 else 0) := rfl
    rw [z, bn_bit, bn_bit]
    simp
  rw [c] at hQ
  have := it_bc (a := bn p 30 % 256) (b := bn p 30 / 256 % 256) (c := bn p 30 / 65536 % 256) (d := bn p 30 / 16777216 % 256) (by omega) (by omega) (by omega) (by omega) hQ
  rw [← e] at this
  exact this
