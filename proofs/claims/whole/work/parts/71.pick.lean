/-! pick, many, cull -/
section PI
variable {μ : sl_M} {Q : Int32 → sl_M → Prop} {P : sl_M → Prop} {s : SS} {n : Nat} {t : Nat → Nat}
theorem mo_numberOf_s (h : MR μ s) (hl : ∀ k, k < 30 → μ 109 k = nI (ly s k)) {k : Nat} (hk : k < 30) {w : Int32} (hQ : Q (nb s w k) μ) : mo_numberOf (nI k) w μ Q := by
  obtain ⟨d1, d2, d3, d4⟩ := h k hk
  unfold nb at hQ
  unfold mo_numberOf mo_lengthOf
  rw [pl_cl hk, d2, d3, d4, hl k hk]
  refine ⟨fun c => ⟨pl_in hk, ?_⟩, fun c0 => ⟨fun c => ⟨pl_in hk, ?_⟩, fun c1 => ⟨fun c => ⟨pl_in hk, ?_⟩, fun c2 => ⟨fun c => ⟨pl_in hk, pl_in hk, ?_⟩, fun c3 => ⟨fun c => ?_, fun c4 => ⟨pl_in hk, ?_⟩⟩⟩⟩⟩⟩
  · rw [if_pos c] at hQ
    exact hQ
  · rw [if_neg c0, if_pos c] at hQ
    exact hQ
  · rw [if_neg c0, if_neg c1, if_pos c] at hQ
    exact hQ
  · rw [if_neg c0, if_neg c1, if_neg c2, if_pos c] at hQ
    exact hQ
  · rw [if_neg c0, if_neg c1, if_neg c2, if_neg c3, if_pos c] at hQ
    exact hQ
  · rw [if_neg c0, if_neg c1, if_neg c2, if_neg c3, if_neg c4] at hQ
    exact hQ
theorem mo_isTest_s (h : MR μ s) (hl : ∀ k, k < 30 → μ 109 k = nI (ly s k)) {k j : Nat} (hk : k < 30) (hj : j < 90) {x : Int32 × Int32 × Int32} (e1 : μ 123 j = x.1) (e2 : μ 124 j = x.2.1) (e3 : μ 125 j = x.2.2) (hQ : Q (pl_b (tst s x k = true)) μ) : mo_isTest (nI k) (nI j) μ Q := by
  have jin : vp_in (nI j) 90 := vp_in_nI hj (by decide)
  unfold mo_isTest
  rw [nI_clamp (show j < 2 ^ 31 by omega), e1]
  refine ⟨jin, mo_numberOf_s h hl hk ⟨jin, ?_⟩⟩
  rw [e2, e3]
  unfold tst at hQ
  refine ⟨fun c => ⟨jin, fun e => ⟨rfl, ?_⟩, fun e => ⟨rfl, ?_⟩⟩, fun c => ⟨jin, fun d => ⟨jin, fun e => ⟨rfl, ?_⟩, fun e => ⟨rfl, ?_⟩⟩, fun d => ⟨jin, fun e => ⟨rfl, ?_⟩, fun e => ⟨rfl, ?_⟩⟩⟩⟩
  · rw [if_pos c, pl_bt (decide_eq_true e)] at hQ
    exact hQ
  · rw [if_pos c, pl_bf (fun z => e (of_decide_eq_true z))] at hQ
    exact hQ
  · rw [if_neg c, if_pos d, pl_bf (fun z => (of_decide_eq_true z : ¬ nb s x.1 k ≤ x.2.2) e)] at hQ
    exact hQ
  · rw [if_neg c, if_pos d, pl_bt (decide_eq_true e)] at hQ
    exact hQ
  · rw [if_neg c, if_neg d, pl_bt (decide_eq_true e)] at hQ
    exact hQ
  · rw [if_neg c, if_neg d, pl_bf (fun z => e (of_decide_eq_true z))] at hQ
    exact hQ
/-- the row of truths: the top stands last -/
def HL (vs : List VV) (k : Nat) (m : sl_M) : Prop := ∀ r v rest pre, vs = pre ++ v :: rest → r = rest.length → m 127 r = pl_b (v k = true)
theorem HL.top {vs : List VV} {v : VV} {k : Nat} {m : sl_M} (h : HL (v :: vs) k m) : m 127 vs.length = pl_b (v k = true) := h vs.length v vs [] rfl rfl
theorem HL.tail {vs : List VV} {v : VV} {k : Nat} {m : sl_M} (h : HL (v :: vs) k m) : HL vs k m := fun r w rest pre e er => h r w rest (v :: pre) (by rw [e]; rfl) er
theorem HL.put {vs : List VV} {v : VV} {k : Nat} {m : sl_M} (h : HL vs k m) {x : Int32} (e : x = pl_b (v k = true)) : HL (v :: vs) k (sl_up m 127 vs.length x) := by
  intro r w rest pre ev er
  cases pre with
  | nil =>
    have e1 : v = w ∧ vs = rest := by simpa using ev
    rw [er, ← e1.2, pl_up_s, e, e1.1]
  | cons p pre =>
    have e1 : v = p ∧ vs = pre ++ w :: rest := by simpa using ev
    have hl : vs.length = pre.length + (rest.length + 1) := by rw [e1.2]; simp
    rw [pl_up_k (by omega)]
    exact h r w rest pre e1.2 er
theorem pl_bn {b : Bool} : pl_b ((!b) = true) = (if b then 0 else 1) := by cases b <;> rfl
theorem mo_holds_loop (h : MR μ s) (hl : ∀ k, k < 30 → μ 109 k = nI (ly s k)) {D : List It} (hD : DM D μ) (hD80 : D.length ≤ 80) {k : Nat} (hk : k < 30) {v : VV} (hQ : ∀ m, Fr (fun o _ => o = 127) μ m → Q (pl_b (v k = true)) m) : ∀ (D2 D1 : List It) (vs : List VV) (m : sl_M), D = D1 ++ D2 → evs s D2 vs = some [v] → vs.length ≤ D1.length → Fr (fun o _ => o = 127) μ m → HL vs k m → mo_holds_L4 (nI k) Q (D2.length + 1) (nI vs.length) (nI D1.length) m
  | [], D1, vs, m, e, ev, hv, hf, hh => by
    have e1 : vs = [v] := Option.some.inj ev
    have e2 : D.length = D1.length := by rw [e]; simp
    subst e1
    have t := hh.top
    refine ⟨fun z => ?_, fun _ => ⟨vp_in_nI (n := 0) (by omega) (by decide), ?_⟩⟩
    · rw [hf _ _ (by omega), hD.1, nI_ltI (by omega) (by omega)] at z
      omega
    · have t' : m 127 (0 : Int32).toNatClampNeg = pl_b (v k = true) := t
      rw [t', pl_bz, pl_bz]
      exact ⟨rfl, hQ m hf⟩
  | x :: D2, D1, vs, m, e, ev, hv, hf, hh => by
    have e2 : D.length = D1.length + (D2.length + 1) := by rw [e]; simp
    have hj : D1.length < D.length := by omega
    have gx : D.getD D1.length it0 = x := by rw [e]; simp
    have jin : vp_in (nI D1.length) 90 := vp_in_nI (by omega) (by decide)
    obtain ⟨w1, w2⟩ := hD.2 _ hj
    rw [gx] at w1 w2
    have hM := h.fr hf (fun o k h1 h2 z => by omega)
    have hl' : ∀ k, k < 30 → m 109 k = nI (ly s k) := fun k hk => by rw [hf _ _ (by omega)]; exact hl k hk
    have ev' : (match stx s x vs with | some ws => evs s D2 ws | none => none) = some [v] := ev
    have e' : D = (D1 ++ [x]) ++ D2 := by rw [e]; simp
    have hl1 : (D1 ++ [x]).length = D1.length + 1 := by simp
    -- go on with a new row
    have go : ∀ (ws : List VV) (l : Nat) (m' : sl_M), stx s x vs = some ws → ws.length = l → l ≤ D1.length + 1 → Fr (fun o _ => o = 127) m m' → HL ws k m' → mo_holds_L4 (nI k) Q (D2.length + 1) (nI l) (nI D1.length + 1) m' := by
      rintro ws l m' es rfl hw f' h'
      rw [es] at ev'
      have := mo_holds_loop h hl hD hD80 hk hQ D2 (D1 ++ [x]) ws m' e' ev' (by omega) (hf.tr f') h'
      rw [hl1] at this
      rw [pl_inc]
      exact this
    show mo_holds_L4 (nI k) Q (D2.length + 1 + 1) (nI vs.length) (nI D1.length) m
    refine ⟨fun _ => ⟨jin, ?_⟩, fun z => absurd (by rw [hf _ _ (by omega), hD.1, nI_ltI (by omega) (by omega)]; exact hj) z⟩
    rw [nI_clamp (show D1.length < 2 ^ 31 by omega), hf 122 _ (by omega), w1]
    refine ⟨fun c => ?_, fun c0 => ⟨jin, fun c => ?_, fun c1 => ⟨jin, fun c => ?_, fun c2 => ?_⟩⟩⟩
    · obtain ⟨y1, y2, y3⟩ := w2 c
      refine mo_isTest_s hM hl' hk (by omega) (by rw [hf _ _ (by omega)]; exact y1) (by rw [hf _ _ (by omega)]; exact y2) (by rw [hf _ _ (by omega)]; exact y3) ⟨vp_in_nI (by omega) (by decide), by rw [pl_bz], ?_⟩
      rintro m3 rfl
      rw [nI_clamp (show vs.length < 2 ^ 31 by omega), pl_inc vs.length]
      have es : stx s x vs = some (tst s x.2 :: vs) := by
        unfold stx
        rw [if_pos c]
      exact go (tst s x.2 :: vs) (vs.length + 1) _ es rfl (by omega) (Fr.rfl'.up rfl) (hh.put rfl)
    · cases vs with
      | nil =>
        unfold stx at ev'
        rw [if_neg c0, if_pos c] at ev'
        exact absurd ev' (by simp)
      | cons b r =>
        have es : stx s x (b :: r) = some ((fun k => !b k) :: r) := by
          unfold stx
          rw [if_neg c0, if_pos c]
        have hlen : (b :: r).length = r.length + 1 := rfl
        have rin : vp_in (nI r.length) 90 := vp_in_nI (by omega) (by decide)
        rw [hlen, nI_sub1 (by omega), show r.length + 1 - 1 = r.length from rfl, nI_clamp (show r.length < 2 ^ 31 by omega), hh.top, pl_bz]
        have fin : ∀ y : Int32, y = pl_b ((!b k) = true) → ∀ m4, m4 = sl_up m 127 r.length y → mo_holds_L4 (nI k) Q (D2.length + 1) (nI (r.length + 1)) (nI D1.length + 1) m4 := by
          rintro y ey m4 rfl
          exact go ((fun k => !b k) :: r) (r.length + 1) _ es rfl (by omega) (Fr.rfl'.up rfl) (hh.tail.put ey)
        refine ⟨rin, pl_bb (fun z => ⟨rin, rfl, fin _ ?_⟩) (fun z => ⟨rin, rfl, fin _ ?_⟩)⟩
        · have b0 : b k = false := by simpa using z
          rw [b0]
          rfl
        · rw [z]
          rfl
    · cases vs with
      | nil =>
        unfold stx at ev'
        rw [if_neg c0, if_neg c1, if_pos c] at ev'
        exact absurd ev' (by simp)
      | cons b r0 =>
        cases r0 with
        | nil =>
          unfold stx at ev'
          rw [if_neg c0, if_neg c1, if_pos c] at ev'
          exact absurd ev' (by simp)
        | cons a r =>
          have es : stx s x (b :: a :: r) = some ((fun k => a k && b k) :: r) := by
            unfold stx
            rw [if_neg c0, if_neg c1, if_pos c]
          have hlen : (b :: a :: r).length = r.length + 1 + 1 := rfl
          have rin : vp_in (nI r.length) 90 := vp_in_nI (by omega) (by decide)
          have rin1 : vp_in (nI (r.length + 1)) 90 := vp_in_nI (by omega) (by decide)
          have tb : m 127 (r.length + 1) = pl_b (b k = true) := hh.top
          have ta := hh.tail.top
          have hr := hh.tail.tail
          rw [hlen, nI_dec (by omega), show r.length + 1 + 1 - 1 = r.length + 1 from rfl, nI_sub1 (by omega), show r.length + 1 - 1 = r.length from rfl, nI_clamp (show r.length < 2 ^ 31 by omega), nI_clamp (show r.length + 1 < 2 ^ 31 by omega), ta, tb, pl_bz, pl_bz]
          have fin : ∀ y : Int32, y = pl_b ((a k && b k) = true) → ∀ m4, m4 = sl_up m 127 r.length y → mo_holds_L4 (nI k) Q (D2.length + 1) (nI (r.length + 1)) (nI D1.length + 1) m4 := by
            rintro y ey m4 rfl
            exact go ((fun k => a k && b k) :: r) (r.length + 1) _ es rfl (by omega) (Fr.rfl'.up rfl) (hr.put ey)
          refine ⟨rin, pl_bb (fun z => ⟨rin, rfl, fin _ ?_⟩) (fun z => ⟨rin1, pl_bb (fun y => ⟨rin, rfl, fin _ ?_⟩) (fun y => ⟨rin, rfl, fin _ ?_⟩)⟩)⟩
          · have a0 : a k = false := by simpa using z
            rw [a0]
            rfl
          · have b0 : b k = false := by simpa using y
            rw [z, b0]
            rfl
          · rw [z, y]
            rfl
    · cases vs with
      | nil =>
        unfold stx at ev'
        rw [if_neg c0, if_neg c1, if_neg c2] at ev'
        exact absurd ev' (by simp)
      | cons b r0 =>
        cases r0 with
        | nil =>
          unfold stx at ev'
          rw [if_neg c0, if_neg c1, if_neg c2] at ev'
          exact absurd ev' (by simp)
        | cons a r =>
          have es : stx s x (b :: a :: r) = some ((fun k => a k || b k) :: r) := by
            unfold stx
            rw [if_neg c0, if_neg c1, if_neg c2]
          have hlen : (b :: a :: r).length = r.length + 1 + 1 := rfl
          have rin : vp_in (nI r.length) 90 := vp_in_nI (by omega) (by decide)
          have rin1 : vp_in (nI (r.length + 1)) 90 := vp_in_nI (by omega) (by decide)
          have tb : m 127 (r.length + 1) = pl_b (b k = true) := hh.top
          have ta := hh.tail.top
          have hr := hh.tail.tail
          rw [hlen, nI_dec (by omega), show r.length + 1 + 1 - 1 = r.length + 1 from rfl, nI_sub1 (by omega), show r.length + 1 - 1 = r.length from rfl, nI_clamp (show r.length < 2 ^ 31 by omega), nI_clamp (show r.length + 1 < 2 ^ 31 by omega), ta, tb, pl_bz, pl_bz]
          have fin : ∀ y : Int32, y = pl_b ((a k || b k) = true) → ∀ m4, m4 = sl_up m 127 r.length y → mo_holds_L4 (nI k) Q (D2.length + 1) (nI (r.length + 1)) (nI D1.length + 1) m4 := by
            rintro y ey m4 rfl
            exact go ((fun k => a k || b k) :: r) (r.length + 1) _ es rfl (by omega) (Fr.rfl'.up rfl) (hr.put ey)
          refine ⟨rin, pl_bb (fun z => ⟨rin1, pl_bb (fun y => ⟨rin, rfl, fin _ ?_⟩) (fun y => ⟨rin, rfl, fin _ ?_⟩)⟩) (fun z => ⟨rin, rfl, fin _ ?_⟩)⟩
          · have a0 : a k = false := by simpa using z
            have b0 : b k = false := by simpa using y
            rw [a0, b0]
            rfl
          · have a0 : a k = false := by simpa using z
            rw [a0, y]
            rfl
          · rw [z]
            rfl
theorem mo_heldBits_s (h : MR μ s) (ok : sOK s) {D : List It} (hD : DM D μ) (hD80 : D.length ≤ 80) {v : VV} (ev : evs s D [] = some [v]) (hQ : ∀ m, Fr (fun o _ => o = 109 ∨ o = 127) μ m → Q (bV s v) m) : mo_heldBits μ Q := by
  unfold mo_heldBits
  refine mo_layLayers_s h ok (fun m6 f6 hl => ?_)
  have h6 := h.f9 f6
  have D6 : DM D m6 := hD.fr f6 ⟨by omega, fun o i _ _ => by omega⟩
  refine lq3 (fun k' x1 x2 m => mo_heldBits_L8 Q k' x1 x2 m) (fun k x1 x2 m => x1 = bs (fun k => sC s k && v k) k ∧ x2 = nI k ∧ Fr (fun o _ => o = 127) m6 m) 30 _ _ _ ⟨rfl, rfl, Fr.rfl'⟩ ?_ ?_
  · rintro k' x1 x2 m ⟨rfl, rfl, hf⟩
    exact ⟨fun z => absurd z pl_nlt, fun _ => hQ m ((f6.mono (fun o k z => by omega)).tr (hf.mono (fun o k z => by omega)))⟩
  · rintro k' k x1 x2 m hk ⟨rfl, rfl, hf⟩ ih
    have hM := h6.fr hf (fun o k h1 h2 z => by omega)
    refine ⟨fun _ => ⟨pl_in hk, ?_⟩, fun z => absurd (pl_lt hk) z⟩
    rw [pl_cl hk, (hM k hk).1, pl_b1, pl_inc]
    refine ⟨fun ik => ?_, fun ik v5 hv5 => ?_⟩
    · refine ⟨_, mo_holds_loop hM (fun k hk => by rw [hf _ _ (by omega)]; exact hl k hk) (D6.fr hf ⟨by omega, fun o i _ _ => by omega⟩) hD80 hk (fun m1 f1 => ?_) D [] [] m rfl ev (Nat.le_refl _) Fr.rfl' (fun r w rest pre e er => absurd e (by simp))⟩
      have F1 := hf.tr f1
      refine pl_bb (fun c v3 hv3 => ih _ _ _ ⟨?_, rfl, F1⟩) (fun c v4 hv4 => ih _ _ _ ⟨?_, rfl, F1⟩)
      · have e0 : (sC s k && v k) = false := by
          cases hh : v k with
          | false => cases sC s k <;> rfl
          | true => exact absurd hh c
        rw [hv3, b_or0, bs_no e0]
      · have e0 : (sC s k && v k) = true := by
          rw [c, show sC s k = true from ik]
          rfl
        rw [hv4, bs_yes e0]
    · refine ih _ _ _ ⟨?_, rfl, hf⟩
      have e0 : (sC s k && v k) = false := by
        cases hh : sC s k with
        | false => rfl
        | true => exact absurd hh ik
      rw [hv5, b_or0, bs_no e0]
/-- what a condition's call does on both sides -/
theorem cond2 {C : Int32 → sl_M → (Int32 → sl_M → Prop) → Prop} {R : Int32 → sl_M → (Int32 → sl_M → Prop) → Prop} (hI : Inv μ)
    (hC : ∀ (s : SS) (v : VV) (m2 : sl_M), CInv s m2 → MR m2 s → ∀ K : Int32 → sl_M → Prop, (∀ r m4 s', Fr fC m2 m4 → CInv s' m4 → (∀ m5, MR m5 s → ∀ K2 : Int32 → sl_M → Prop, (∀ m6, Fr fN m5 m6 → MR m6 s' → K2 r m6) → R (bV s v) m5 K2) → K r m4) → C (bV s v) m2 K) :
    cn_E 6 (0 : Int32) μ (fun r2 m1 => tp_finish m1 (fun r4 m3 => (r4 < (0 : Int32) → C r2 m3 (fun r μ1 => ∀ m1, m1 = sl_up μ1 104 5 (0 : Int32) → mo_readCondition m1 (fun r3 m2 => (r3 < (0 : Int32) → (r = r3 ∧ Inv m2)) ∧ (¬ r3 < (0 : Int32) → mo_heldBits m2 (fun r5 m4 => R r5 m4 (fun r2 μ2 => r = r2 ∧ Inv μ2)))))) ∧ (¬ r4 < (0 : Int32) → ∀ m1, m1 = sl_up m3 104 5 (0 : Int32) → mo_readCondition m1 (fun r3 m2 => (r3 < (0 : Int32) → ((-100 : Int32) - r4 = r3 ∧ Inv m2)) ∧ (¬ r3 < (0 : Int32) → mo_heldBits m2 (fun r5 m4 => R r5 m4 (fun r2 μ2 => (-100 : Int32) - r4 = r2 ∧ Inv μ2))))))) := by
  obtain ⟨⟨s, ci, mr⟩, ri⟩ := hI
  obtain ⟨n, t, tp⟩ := ri.2.2.1
  obtain ⟨tx, tc⟩ := tp.tx
  have n80 := tx.1
  refine cn_E_s (s := s) tx 6 (by omega) (by omega) (false, 0) μ _ ci tc (fun m0 f0 h0 => tp_finish_s tx h0 (fun m2 f2 z1 z2 z3 el => ?_))
  have F2 : Fr f43 μ m2 := f0.tr f2
  have mr2 := mr.fr F2 (fun o k h1 h2 z => by omega)
  have ci2 := ci.fr F2 (fun o k h1 h2 z => by omega)
  have e20 : m2 104 20 = nI n := by rw [F2 _ _ (by omega)]; exact tp.2.2.1
  have e121 : ∀ i, i < n → m2 121 i = nI (t i) := fun i hi => by rw [F2 _ _ (by omega)]; exact (tp.2.2.2.2.2 i hi).2.1
  have tape : ∀ m, Fr (fun o k => fC o k ∨ fN o k ∨ (o = 104 ∧ k = 20)) m2 m → m 104 20 = 0 → ∃ n t, TapeR m n t := fun m hf e => ⟨0, t, by omega, by rw [hf _ _ (by omega), z1]; rfl, by rw [e]; rfl, by rw [hf _ _ (by omega), z2], by rw [hf _ _ (by omega), z3], fun i hi => absurd hi (by omega)⟩
  have toF : ∀ m, Fr (fun o k => fC o k ∨ fN o k ∨ (o = 104 ∧ k = 20)) m2 m → Fr (fun o k => fC o k ∨ fN o k ∨ fT o k) μ m := fun m hf => (F2.mono (fun o k z => by omega)).tr (hf.mono (fun o k z => by omega))
  cases hb : (eE n (rE s n t 6 (false, 0)).2).1 with
  | true =>
    rw [if_pos rfl]
    refine ⟨fun z => absurd z (nI_pos (by omega)), fun _ => ?_⟩
    rintro m3 rfl
    refine mo_readCondition_s (s := s) tx (by rw [pl_up_k (by omega)]; exact e20) (fun i hi => by rw [pl_up_o (by omega)]; exact e121 i hi) (fun m f cc _ => ⟨fun _ => ⟨rfl, ⟨s, ?_, ?_⟩, ?_⟩, fun z => absurd (flt_neg (by omega)) z⟩) (fun m D f cc z => by rw [hb] at z; exact Bool.noConfusion z)
    · exact (ci2.fr Fr.th (fun o k h1 h2 z => by omega)).fr f (fun o k h1 h2 z => by omega)
    · exact mr2.th.fr f (fun o k h1 h2 z => by omega)
    · have f' : Fr (fun o k => fC o k ∨ fN o k ∨ (o = 104 ∧ k = 20)) m2 m := ((Fr.th (μ := m2)).mono (fun o k z => by omega)).tr (f.mono (fun o k z => by omega))
      exact ri.tp (toF m f') (fun o k z => z) (tape m f' cc)
  | false =>
    rw [if_neg (by decide)]
    refine ⟨fun _ => ?_, fun z => absurd (by decide) z⟩
    refine hC s _ m2 ci2 mr2 _ (fun r m4 s' f4 c4 hR => ?_)
    have mr4 := mr2.fr f4 (fun o k h1 h2 z => by omega)
    rintro m3 rfl
    refine mo_readCondition_s (s := s) tx (by rw [pl_up_k (by omega), f4 _ _ (by omega)]; exact e20) (fun i hi => by rw [pl_up_o (by omega), f4 _ _ (by omega)]; exact e121 i hi) (fun m f cc z => by rw [hb] at z; exact Bool.noConfusion z) (fun m D f cc _ dm d80 ev => ⟨fun z => absurd z (by decide), fun _ => ?_⟩)
    have mrm := mr4.th.fr f (fun o k h1 h2 z => by omega)
    refine mo_heldBits_s mrm ci.1 dm d80 ev (fun m5 f5 => hR m5 (mrm.fr f5 (fun o k h1 h2 z => by omega)) _ (fun m6 f6 mr6 => ⟨rfl, ⟨s', ?_, mr6⟩, ?_⟩))
    · exact (((c4.fr Fr.th (fun o k h1 h2 z => by omega)).fr f (fun o k h1 h2 z => by omega)).fr f5 (fun o k h1 h2 z => by omega)).fr f6 (fun o k h1 h2 z => by omega)
    · have f' : Fr (fun o k => fC o k ∨ fN o k ∨ (o = 104 ∧ k = 20)) m2 m6 := ((((f4.mono (fun o k z => by omega)).tr ((Fr.th (μ := m4)).mono (fun o k z => by omega))).tr (f.mono (fun o k z => by omega))).tr (f5.mono (fun o k z => by omega))).tr (f6.mono (fun o k z => by omega))
      exact ri.tp (toF m6 f') (fun o k z => z) (tape m6 f' (by rw [f6 _ _ (by omega), f5 _ _ (by omega)]; exact cc))
theorem op_pick : Opp sx_pick mo_pick := by
  intro μ hI
  refine cond2 (C := fun r m K => K r m) (R := fun r m K => K r m) hI (fun s v m2 c2 mr2 K hK => ?_)
  exact hK _ m2 s Fr.rfl' c2 (fun m5 mr5 K2 h2 => h2 m5 Fr.rfl' mr5)
theorem op_many : Opp sx_many mo_many := by
  intro μ hI
  refine cond2 (C := fun r m K => it_bitCount r m (fun r6 m5 => K r6 m5)) (R := fun r m K => mo_onesOf r m (fun r7 m6 => K r7 m6)) hI (fun s v m2 c2 mr2 K hK => ?_)
  exact it_bitCount_s (hK _ m2 s Fr.rfl' c2 (fun m5 mr5 K2 h2 => mo_onesOf_s (h2 m5 Fr.rfl' mr5)))
theorem mo_cull_L (h : MR μ s) {x : Int32} (hQ : ∀ m, Fr fM μ m → MR m (outs s (bt x)) → mo_onesOf x m (fun r4 m3 => Q r4 m3)) : ∃ k, mo_cull_L23 Q k x 0 μ := by
  refine lq2 (fun k' x3 m => mo_cull_L23 Q k' x x3 m) (fun k x3 m => x3 = nI k ∧ Fr fM μ m ∧ MR m (outs s (fun j => decide (j < k) && bt x j))) 30 _ _ ⟨rfl, Fr.rfl', ?_⟩ ?_ ?_
  · have : outs s (fun j => decide (j < 0) && bt x j) = s := by
      funext j
      exact outs_f (by simp)
    rw [this]
    exact h
  · rintro k' x3 m ⟨rfl, hf, hm⟩
    refine ⟨fun z => absurd z pl_nlt, fun _ => hQ m hf (fun k hk => ?_)⟩
    have e : outs s (fun j => decide (j < 30) && bt x j) k = outs s (bt x) k := by
      unfold outs
      simp [hk]
    have q := hm k hk
    simp only [sI, sL, sH, sW, e] at q ⊢
    exact q
  · rintro k' k x3 m hk ⟨rfl, hf, hm⟩ ih
    refine ⟨fun _ => ?_, fun z => absurd (pl_lt hk) z⟩
    rw [b_test1 (by omega), pl_cl hk, pl_inc]
    have ok : outs s (fun j => decide (j < k) && bt x j) k = s k := outs_f (by simp)
    refine ⟨fun c => ⟨pl_in hk, ?_⟩, fun c => ⟨pl_in hk, pl_in hk, ?_⟩⟩
    · rintro m1 rfl
      refine ih _ _ ⟨rfl, hf.up (by omega), fun j hj => ?_⟩
      by_cases e : j = k
      · subst e
        have e1 : outs s (fun i => decide (i < j + 1) && bt x i) j = (false, (s j).2) := outs_t (by simp [c])
        have q := hm j hj
        simp only [sI, sL, sH, sW, ok] at q
        simp only [sI, sL, sH, sW, e1]
        rw [pl_up_s, pl_up_o (by omega), pl_up_o (by omega), pl_up_o (by omega)]
        exact ⟨rfl, q.2.1, q.2.2.1, q.2.2.2⟩
      · have e1 : outs s (fun i => decide (i < k + 1) && bt x i) j = outs s (fun i => decide (i < k) && bt x i) j := by
          unfold outs
          have : (j < k + 1) ↔ (j < k) := by omega
          simp [this]
        have q := hm j hj
        simp only [sI, sL, sH, sW] at q
        simp only [sI, sL, sH, sW, e1]
        rw [pl_up_k e, pl_up_o (by omega), pl_up_o (by omega), pl_up_o (by omega)]
        exact q
    · rintro m2 rfl
      rw [up_id rfl]
      refine ih _ _ ⟨rfl, hf, ?_⟩
      have e1 : outs s (fun i => decide (i < k + 1) && bt x i) = outs s (fun i => decide (i < k) && bt x i) := by
        funext j
        unfold outs
        by_cases e : j = k
        · subst e
          have c0 : bt x j = false := by simpa using c
          simp [c0]
        · have : (j < k + 1) ↔ (j < k) := by omega
          simp [this]
      rw [e1]
      exact hm
theorem op_cull : Opp sx_cull mo_cull := by
  intro μ hI
  refine cond2 (C := fun r m K => ix_takeOut r m (fun m5 => it_bitCount r m5 (fun r7 m6 => K r7 m6))) (R := fun r m K => ∃ n10, mo_cull_L23 (fun r4 m3 => K r4 m3) n10 r (0 : Int32) m) hI (fun s v m2 c2 mr2 K hK => ?_)
  refine ix_takeOut_c c2.pre _ (fun m4 f4 c4 => it_bitCount_s (hK _ m4 _ f4 c4 (fun m5 mr5 K2 h2 => ?_)))
  exact mo_cull_L mr5 (fun m6 f6 mr6 => mo_onesOf_s (h2 m6 (f6.mono (fun o k z => by omega)) mr6))
end PI
