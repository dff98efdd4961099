/-! conditions: one reader for both sides; the class -/
abbrev VV : Type := Nat → Bool
abbrev V2 : Type := VV × St
def nb (s : SS) (w : Int32) (k : Nat) : Int32 := if w = 0 then i3 (sL s k) else if w = 1 then i3 (sH s k) else if w = 2 then i3 (sW s k) else if w = 3 then wL s k else if w = 4 then nI k else nI (ly s k)
def tst (s : SS) (x : Int32 × Int32 × Int32) (k : Nat) : Bool := if x.2.1 = 60 then decide (nb s x.1 k < x.2.2) else if x.2.1 = 62 then decide (¬ nb s x.1 k ≤ x.2.2) else decide (nb s x.1 k = x.2.2)
def sn (n : Nat) (t : Nat → Nat) (st : St) : Int32 × St := if (sk n t 60 st).1 then (60, (sk n t 60 st).2) else if (sk n t 62 st).1 then (62, (sk n t 62 st).2) else (61, ex n t 61 st)
def tT (n : Nat) (t : Nat → Nat) (st : St) : (Int32 × Int32 × Int32) × St := (((wd n t 0 st).1, (sn n t (wd n t 0 st).2).1, i3 (sg n t 3 (sn n t (wd n t 0 st).2).2).1), (sg n t 3 (sn n t (wd n t 0 st).2).2).2)
def rT (s : SS) (n : Nat) (t : Nat → Nat) (st : St) : V2 := (tst s (tT n t st).1, (tT n t st).2)
def rP (s : SS) (n : Nat) (t : Nat → Nat) (E : St → V2) (d : Nat) (st : St) : V2 := if d < 5 ∧ (sk n t 40 st).1 = true then ((E (sk n t 40 st).2).1, ex n t 41 (E (sk n t 40 st).2).2) else rT s n t st
def rF (s : SS) (n : Nat) (t : Nat → Nat) (E : St → V2) (d : Nat) (st : St) : V2 := if (sk n t 33 st).1 = true then (fun k => !(rP s n t E d (sk n t 33 st).2).1 k, (rP s n t E d (sk n t 33 st).2).2) else rP s n t E d st
def rBL (s : SS) (n : Nat) (t : Nat → Nat) (E : St → V2) (d : Nat) : Nat → VV → St → V2
  | 0, b, st => (b, st)
  | r + 1, b, st => if (sk n t 38 st).1 = true then rBL s n t E d r (fun k => b k && (rF s n t E d (sk n t 38 st).2).1 k) (rF s n t E d (sk n t 38 st).2).2 else (b, st)
def rB (s : SS) (n : Nat) (t : Nat → Nat) (E : St → V2) (d : Nat) (st : St) : V2 := rBL s n t E d 80 (rF s n t E d st).1 (rF s n t E d st).2
def rEL (s : SS) (n : Nat) (t : Nat → Nat) (E : St → V2) (d : Nat) : Nat → VV → St → V2
  | 0, b, st => (b, st)
  | r + 1, b, st => if (sk n t 124 st).1 = true then rEL s n t E d r (fun k => b k || (rB s n t E d (sk n t 124 st).2).1 k) (rB s n t E d (sk n t 124 st).2).2 else (b, st)
def rEi (s : SS) (n : Nat) (t : Nat → Nat) (E : St → V2) (d : Nat) (st : St) : V2 := rEL s n t E d 80 (rB s n t E d st).1 (rB s n t E d st).2
def rE (s : SS) (n : Nat) (t : Nat → Nat) : Nat → St → V2
  | 0, st => (fun _ => false, st)
  | f + 1, st => rEi s n t (rE s n t f) (5 - f) st
def bV (s : SS) (v : VV) : Int32 := bs (fun k => sC s k && v k) 30
section RDp
variable {s : SS} {n : Nat} {t : Nat → Nat} {E : St → V2} {d : Nat} {st : St}
theorem bV_b (v : VV) {i : Nat} (hi : i < 32) : bt (bV s v) i = (decide (i < 30) && (sC s i && v i)) := b_bs _ hi 30 (by omega)
theorem bV_and (a b : VV) : bV s a &&& bV s b = bV s (fun k => a k && b k) := b_ext (fun i hi => by
  rw [b_and, bV_b a hi, bV_b b hi, bV_b _ hi]
  cases decide (i < 30) <;> cases sC s i <;> cases a i <;> cases b i <;> rfl)
theorem bV_or (a b : VV) : bV s a ||| bV s b = bV s (fun k => a k || b k) := b_ext (fun i hi => by
  rw [b_or, bV_b a hi, bV_b b hi, bV_b _ hi]
  cases decide (i < 30) <;> cases sC s i <;> cases a i <;> cases b i <;> rfl)
theorem bV_not (ok : sOK s) (v : VV) : bs (mt s 0 999) 30 &&& (bV s v ^^^ (-1)) = bV s (fun k => !v k) := b_ext (fun i hi => by
  rw [b_and, b_xor, bV_b v hi, bV_b _ hi, b_bs _ hi 30 (by omega), b_m1 i hi]
  by_cases c : i < 30
  · have e : mt s 0 999 i = sC s i := by
      by_cases ii : sI s i
      · have o := ok i c ii
        rw [show mt s 0 999 i = true from decide_eq_true ⟨ii, by omega, by omega⟩]
        exact ii.symm
      · rw [show mt s 0 999 i = false from decide_eq_false (fun z => ii z.1)]
        cases h : sC s i with
        | false => rfl
        | true => exact absurd h ii
    rw [e]
    cases decide (i < 30) <;> cases sC s i <;> cases v i <;> rfl
  · rw [decide_eq_false c]
    rfl)
end RDp
section CNs
variable {μ : sl_M} {s : SS} {Q : Int32 → sl_M → Prop} {n : Nat} {t : Nat → Nat} {st : St}
theorem cn_readSign_s (tx : TX n t) (h : TC n t st μ) (hQ : ∀ m, Fr f43 μ m → TC n t (sn n t st).2 m → Q (sn n t st).1 m) : cn_readSign μ Q := by
  unfold cn_readSign
  unfold sn at hQ
  refine tp_skip_s tx h (by decide) (fun m1 f1 h1 => pl_bb (fun z => ?_) (fun z => ?_))
  · rw [if_neg z] at hQ
    rw [sk_f z] at h1
    refine tp_skip_s tx h1 (by decide) (fun m3 f3 h3 => pl_bb (fun y => ?_) (fun y => ?_))
    · rw [if_neg y] at hQ
      rw [sk_f y] at h3
      have q : tp_expect 61 m3 (fun m => Q 61 m) := tp_expect_s tx h3 (by decide) (fun m5 f5 h5 => hQ m5 ((f1.tr f3).tr f5) h5)
      exact q
    · rw [if_pos y] at hQ
      exact hQ m3 (f1.tr f3) h3
  · rw [if_pos z] at hQ
    exact hQ m1 f1 h1
theorem cn_isSo_s {x : Int32 × Int32 × Int32} {k : Nat} (hQ : Q (pl_b (tst s x k = true)) μ) : cn_isSo (nb s x.1 k) x.2.1 x.2.2 μ Q := by
  unfold tst at hQ
  refine ⟨fun c => ?_, fun c => ⟨fun d => ?_, fun d => ?_⟩⟩
  · rw [if_pos c] at hQ
    refine ⟨fun e => ⟨rfl, ?_⟩, fun e => ⟨rfl, ?_⟩⟩
    · rw [pl_bt (decide_eq_true e)] at hQ
      exact hQ
    · rw [pl_bf (fun z => e (of_decide_eq_true z))] at hQ
      exact hQ
  · rw [if_neg c, if_pos d] at hQ
    refine ⟨fun e => ⟨rfl, ?_⟩, fun e => ⟨rfl, ?_⟩⟩
    · rw [pl_bf (fun z => (of_decide_eq_true z : ¬ nb s x.1 k ≤ x.2.2) e)] at hQ
      exact hQ
    · rw [pl_bt (decide_eq_true e)] at hQ
      exact hQ
  · rw [if_neg c, if_neg d] at hQ
    refine ⟨fun e => ⟨rfl, ?_⟩, fun e => ⟨rfl, ?_⟩⟩
    · rw [pl_bt (decide_eq_true e)] at hQ
      exact hQ
    · rw [pl_bf (fun z => e (of_decide_eq_true z))] at hQ
      exact hQ
theorem sp_valueOf_s (ci : CInv s μ) {k : Nat} (hk : k < 30) (ik : sI s k) {w : Int32} (hQ : Q (nb s w k) μ) : sp_valueOf (4 + k) w μ Q := by
  obtain ⟨d0, d1, d2, d3, d4⟩ := ci.2.1 k hk
  unfold nb at hQ
  unfold sp_valueOf sp_length
  rw [d0, d2, d3, d4, ci.2.2.1 k hk ik]
  refine ⟨fun c => ?_, fun c0 => ⟨fun c => ?_, fun c1 => ⟨fun c => ?_, fun c2 => ⟨fun c => ?_, fun c3 => ⟨fun c => ?_, fun c4 => ?_⟩⟩⟩⟩⟩
  · rw [if_pos c] at hQ
    exact hQ
  · rw [if_neg c0, if_pos c] at hQ
    exact hQ
  · rw [if_neg c0, if_neg c1, if_pos c] at hQ
    exact hQ
  · rw [if_neg c0, if_neg c1, if_neg c2, if_pos c] at hQ
    exact hQ
  · rw [if_neg c0, if_neg c1, if_neg c2, if_neg c3, if_pos c] at hQ
    exact hQ
  · rw [if_neg c0, if_neg c1, if_neg c2, if_neg c3, if_neg c4] at hQ
    exact hQ
theorem cn_readTest_s (tx : TX n t) (ci : CInv s μ) (h : TC n t st μ) (hQ : ∀ m, Fr f43 μ m → TC n t (rT s n t st).2 m → Q (bV s (rT s n t st).1) m) : cn_readTest μ Q := by
  unfold cn_readTest
  refine tp_readOneOf_s tx h (by omega) (fun m6 f6 h6 => cn_readSign_s tx h6 (fun m8 f8 h8 => tp_readSigned_s (most := 3) tx h8 (by omega) (by omega) (fun m10 f10 h10 => ?_)))
  have F := (f6.tr f8).tr f10
  have c10 := ci.fr F (fun o k h1 h2 z => by omega)
  have hq := hQ m10 F h10
  show ∃ n12, cn_readTest_L25 Q n12 (tT n t st).1.1 (tT n t st).1.2.1 (tT n t st).1.2.2 0 0 m10
  have e : (rT s n t st).1 = tst s (tT n t st).1 := rfl
  rw [e] at hq
  generalize (tT n t st).1 = x at *
  refine up_0 (fun k' c a => cn_readTest_L25 Q k' x.1 x.2.1 x.2.2 a c m10) (fun k => bs (fun k => sC s k && tst s x k) k) 30 (fun k => ⟨fun z => absurd z pl_nlt, fun _ => hq⟩) (fun k' k hk ih => ?_)
  refine ⟨fun _ => ⟨pl_in hk, ?_⟩, fun z => absurd (pl_lt hk) z⟩
  rw [pl_cl hk, (c10.2.1 k hk).2.1, pl_bz, pl_inc]
  refine pl_bb (fun ik => ?_) (fun ik => ?_)
  · have e0 : (sC s k && tst s x k) = false := by
      cases hh : sC s k with
      | false => rfl
      | true => exact absurd hh ik
    rw [bs_no e0] at ih
    exact ih
  · refine sp_valueOf_s c10 hk ik (cn_isSo_s (pl_bb (fun c => ?_) (fun c v hv => ?_)))
    · have e0 : (sC s k && tst s x k) = false := by
        cases hh : tst s x k with
        | false => cases sC s k <;> rfl
        | true => exact absurd hh c
      rw [bs_no e0] at ih
      exact ih
    · have e0 : (sC s k && tst s x k) = true := by
        rw [c, show sC s k = true from ik]
        rfl
      rw [bs_yes e0, ← hv] at ih
      exact ih
abbrev EOK (s : SS) (n : Nat) (t : Nat → Nat) (d : Nat) (E : sl_ET) (Ep : St → V2) : Prop := ∀ (st : St) (μ : sl_M) (Q : Int32 → sl_M → Prop), CInv s μ → TC n t st μ → (∀ m, Fr f43 μ m → TC n t (Ep st).2 m → Q (bV s (Ep st).1) m) → E (nI d) μ Q
theorem cn_readFactor_s (tx : TX n t) {E : sl_ET} {Ep : St → V2} {d : Nat} (hd : d ≤ 5) (hE : d < 5 → EOK s n t (d + 1) E Ep) (ci : CInv s μ) (h : TC n t st μ) (hQ : ∀ m, Fr f43 μ m → TC n t (rF s n t Ep d st).2 m → Q (bV s (rF s n t Ep d st).1) m) : cn_readFactor E (nI d) μ Q := by
  unfold cn_readFactor
  unfold rF at hQ
  refine tp_skip_s tx h (by decide) (fun m1 f1 h1 => ?_)
  have c1 := ci.fr f1 (fun o k h1 h2 z => by omega)
  -- turned round or not
  have fin : ∀ m, Fr f43 μ m → TC n t (rP s n t Ep d (sk n t 33 st).2).2 m → cn_readFactor_B49 (nI d) E Q (pl_b ((sk n t 33 st).1 = true)) (bV s (rP s n t Ep d (sk n t 33 st).2).1) m := by
    intro m hf hm
    unfold cn_readFactor_B49
    refine pl_bb (fun z => ?_) (fun z => ?_)
    · rw [if_neg z] at hQ
      rw [sk_f z] at hm ⊢
      exact hQ m hf hm
    · rw [if_pos z] at hQ
      have cm := ci.fr hf (fun o k h1 h2 z => by omega)
      refine ix_bitsMeeting_s (x := 0) (y := 999) cm.2.1 cm.1 (pl_B (by omega) (by omega)) (pl_B (by omega) (by omega)) ?_
      show Q (bs (mt s 0 999) 30 &&& (bV s (rP s n t Ep d (sk n t 33 st).2).1 ^^^ (-1))) m
      rw [bV_not ci.1]
      exact hQ m hf hm
  unfold rP at fin
  rw [show (5 : Int32) = nI 5 from rfl, nI_ltI (by omega) (by omega)]
  refine ⟨fun c => tp_skip_s tx h1 (by decide) (fun m2 f2 h2 => pl_bb (fun z => ?_) (fun z => ?_)), fun c => ?_⟩
  · rw [if_neg (fun y => z y.2)] at fin
    rw [sk_f z] at h2
    exact cn_readTest_s tx (c1.fr f2 (fun o k h1 h2 z => by omega)) h2 (fun m3 f3 h3 => fin m3 ((f1.tr f2).tr f3) h3)
  · rw [if_pos ⟨c, z⟩] at fin
    rw [pl_inc]
    exact hE c _ m2 _ (c1.fr f2 (fun o k h1 h2 z => by omega)) h2 (fun m5 f5 h5 => tp_expect_s tx h5 (by decide) (fun m7 f7 h7 => fin m7 (((f1.tr f2).tr f5).tr f7) h7))
  · rw [if_neg (fun y => c y.1)] at fin
    exact cn_readTest_s tx c1 h1 (fun m3 f3 h3 => fin m3 (f1.tr f3) h3)
theorem cn_readBoth_s (tx : TX n t) {E : sl_ET} {Ep : St → V2} {d : Nat} (hd : d ≤ 5) (hE : d < 5 → EOK s n t (d + 1) E Ep) (ci : CInv s μ) (h : TC n t st μ) (hQ : ∀ m, Fr f43 μ m → TC n t (rB s n t Ep d st).2 m → Q (bV s (rB s n t Ep d st).1) m) : cn_readBoth E (nI d) μ Q := by
  unfold cn_readBoth
  unfold rB at hQ
  have loop : ∀ r p b st m, p + r = 80 → CInv s m → TC n t st m → (∀ m', Fr f43 m m' → TC n t (rBL s n t Ep d r b st).2 m' → Q (bV s (rBL s n t Ep d r b st).1) m') → cn_readBoth_L12 (nI d) E Q (r + 1) (bV s b) (nI p) m := by
    intro r
    induction r with
    | zero =>
      intro p b st m hp cm hm hq
      exact ⟨fun z => absurd z (by rw [show (80 : Int32) = nI 80 from rfl, nI_ltI (by omega) (by omega)]; omega), fun _ => hq m Fr.rfl' hm⟩
    | succ r ih =>
      intro p b st m hp cm hm hq
      unfold rBL at hq
      refine ⟨fun _ => tp_skip_s tx hm (by decide) (fun m1 f1 h1 => ?_), fun z => absurd (by rw [show (80 : Int32) = nI 80 from rfl, nI_ltI (by omega) (by omega)]; omega) z⟩
      have c1 := cm.fr f1 (fun o k h1 h2 z => by omega)
      refine pl_bb (fun z => ?_) (fun z => ?_)
      · rw [if_neg z] at hq
        rw [sk_f z] at h1
        exact hq m1 f1 h1
      · rw [if_pos z] at hq
        refine cn_readFactor_s tx hd hE c1 h1 (fun m3 f3 h3 => ?_)
        rintro v5 rfl
        rw [bV_and, pl_inc]
        exact ih (p + 1) _ _ m3 (by omega) (c1.fr f3 (fun o k h1 h2 z => by omega)) h3 (fun m' f' h' => hq m' ((f1.tr f3).tr f') h')
  exact cn_readFactor_s tx hd hE ci h (fun m6 f6 h6 => ⟨_, loop 80 0 _ _ m6 rfl (ci.fr f6 (fun o k h1 h2 z => by omega)) h6 (fun m' f' h' => hQ m' (f6.tr f') h')⟩)
theorem cn_readEither_s (tx : TX n t) {E : sl_ET} {Ep : St → V2} {d : Nat} (hd : d ≤ 5) (hE : d < 5 → EOK s n t (d + 1) E Ep) (ci : CInv s μ) (h : TC n t st μ) (hQ : ∀ m, Fr f43 μ m → TC n t (rEi s n t Ep d st).2 m → Q (bV s (rEi s n t Ep d st).1) m) : cn_readEither E (nI d) μ Q := by
  unfold cn_readEither
  unfold rEi at hQ
  have loop : ∀ r p b st m, p + r = 80 → CInv s m → TC n t st m → (∀ m', Fr f43 m m' → TC n t (rEL s n t Ep d r b st).2 m' → Q (bV s (rEL s n t Ep d r b st).1) m') → cn_readEither_L12 (nI d) E Q (r + 1) (bV s b) (nI p) m := by
    intro r
    induction r with
    | zero =>
      intro p b st m hp cm hm hq
      exact ⟨fun z => absurd z (by rw [show (80 : Int32) = nI 80 from rfl, nI_ltI (by omega) (by omega)]; omega), fun _ => hq m Fr.rfl' hm⟩
    | succ r ih =>
      intro p b st m hp cm hm hq
      unfold rEL at hq
      refine ⟨fun _ => tp_skip_s tx hm (by decide) (fun m1 f1 h1 => ?_), fun z => absurd (by rw [show (80 : Int32) = nI 80 from rfl, nI_ltI (by omega) (by omega)]; omega) z⟩
      have c1 := cm.fr f1 (fun o k h1 h2 z => by omega)
      refine pl_bb (fun z => ?_) (fun z => ?_)
      · rw [if_neg z] at hq
        rw [sk_f z] at h1
        exact hq m1 f1 h1
      · rw [if_pos z] at hq
        refine cn_readBoth_s tx hd hE c1 h1 (fun m3 f3 h3 => ?_)
        rintro v5 rfl
        rw [bV_or, pl_inc]
        exact ih (p + 1) _ _ m3 (by omega) (c1.fr f3 (fun o k h1 h2 z => by omega)) h3 (fun m' f' h' => hq m' ((f1.tr f3).tr f') h')
  exact cn_readBoth_s tx hd hE ci h (fun m6 f6 h6 => ⟨_, loop 80 0 _ _ m6 rfl (ci.fr f6 (fun o k h1 h2 z => by omega)) h6 (fun m' f' h' => hQ m' (f6.tr f') h')⟩)
theorem cn_E_s (tx : TX n t) : ∀ f, f ≤ 6 → 1 ≤ f → EOK s n t (6 - f) (cn_E f) (rE s n t f)
  | 0, _, h => absurd h (by omega)
  | f + 1, h6, _ => by
    intro st μ Q ci h hQ
    show cn_readEither (cn_E f) (nI (6 - (f + 1))) μ Q
    rw [show 6 - (f + 1) = 5 - f by omega]
    refine cn_readEither_s tx (by omega) (fun c => ?_) ci h hQ
    have := cn_E_s tx f (by omega) (by omega)
    rw [show 6 - f = 5 - f + 1 by omega] at this
    exact this
end CNs
