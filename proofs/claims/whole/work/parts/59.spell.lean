/-! spell -/
abbrev fPp : Nat → Nat → Prop := fun o k => o = 54 ∨ o = 55 ∨ o = 134 ∨ (o = 104 ∧ k = 44)
theorem RInv.pp {p : Nat → Nat → Prop} {μ μ' : sl_M} (h : RInv μ) (hf : Fr p μ μ') (hp : ∀ o k, p o k → fC o k ∨ fN o k ∨ fPp o k) (h4 : PapR μ') : RInv μ' := by
  obtain ⟨⟨im, h1⟩, h2, ⟨n, t, h3⟩, -, h5⟩ := h
  refine ⟨⟨im, h1.fr hf (fun o k hh q => ?_)⟩, fun c hc => (h2 c hc).fr hf (fun o k hh q => ?_), ⟨n, t, h3.fr hf (fun o k hh q => ?_)⟩, h4, h5.fr hf (fun o k hh q => ?_)⟩
  all_goals
    have := hp o k q
    omega
/-- what stands on a paper -/
def PS (bc sc sj : Nat) (t : List Int32) (m : sl_M) : Prop := m sc sj = nI t.length ∧ ∀ i, i < t.length → m bc i = t.getD i 0
theorem PS.put {bc sc sj : Nat} {t : List Int32} {m : sl_M} {c : Int32} (h : PS bc sc sj t m) (hne : bc ≠ sc) : PS bc sc sj (t ++ [c]) (sl_up (sl_up m bc t.length c) sc sj (nI (t.length + 1))) := by
  refine ⟨by rw [pl_up_s, List.length_append]; rfl, fun i hi => ?_⟩
  rw [List.length_append] at hi
  have hi : i < t.length + 1 := hi
  rw [pl_up_o hne]
  by_cases e : i = t.length
  · subst e
    rw [pl_up_s]
    simp
  · rw [pl_up_k e, h.2 i (by omega)]
    simp [List.getD, List.getElem?_append_left (show i < t.length by omega)]
def dB (v : Nat) : List Int32 := (if 10 ≤ v then [nI (48 + v / 10 % 10)] else []) ++ [nI (48 + v % 10)]
def dg (v : Nat) : List Int32 := (if 100 ≤ v then [nI (48 + v / 100)] else []) ++ dB v
def nt (v : Int) : List Int32 := (if v < 0 then [45] else []) ++ dg v.natAbs
def pt (l h w : Int) : List Int32 := nt l ++ [45] ++ nt h ++ (if w = 1 then [] else [58] ++ nt w)
theorem dB_len (v : Nat) : (dB v).length ≤ 2 := by
  unfold dB
  split <;> simp
theorem dB_s {v : Nat} (h : v < 10) : (dB v).length = 1 := by
  unfold dB
  rw [if_neg (by omega)]
  rfl
theorem dg_len (v : Nat) : (dg v).length ≤ 3 := by
  have := dB_len v
  unfold dg
  rw [List.length_append]
  split
  · show 1 + _ ≤ 3
    omega
  · show 0 + _ ≤ 3
    omega
theorem dg_len2 {v : Nat} (h : v < 100) : (dg v).length ≤ 2 := by
  have := dB_len v
  unfold dg
  rw [if_neg (by omega), List.nil_append]
  exact this
theorem nt_pos {v : Int} (h : 0 ≤ v) : (nt v).length ≤ 3 := by
  have := dg_len v.natAbs
  unfold nt
  rw [if_neg (by omega), List.nil_append]
  exact this
theorem nt_w {v : Int} (h1 : -99 ≤ v) (h2 : v ≤ 99) : (nt v).length ≤ 3 := by
  have := dg_len2 (v := v.natAbs) (by omega)
  unfold nt
  rw [List.length_append]
  split
  · show 1 + _ ≤ 3
    omega
  · show 0 + _ ≤ 3
    omega
theorem pt_len {l h w : Int} (hv : vS l h w) : (pt l h w).length ≤ 11 := by
  have h1 := nt_pos (v := l) (by omega)
  have h2 := nt_pos (v := h) (by omega)
  have h3 := nt_w (v := w) (by omega) (by omega)
  unfold pt
  rw [List.length_append, List.length_append, List.length_append]
  have e1 : ([45] : List Int32).length = 1 := rfl
  split
  · show _ + _ + _ + 0 ≤ 11
    omega
  · rw [List.length_append]
    have e2 : ([58] : List Int32).length = 1 := rfl
    omega
section SPW
variable {μ : sl_M} {s : SS} {Q : Int32 → sl_M → Prop} {P : sl_M → Prop}
abbrev f5 : Nat → Nat → Prop := fun o k => (o = 54 ∧ k = 1) ∨ o = 55
abbrev f6 : Nat → Nat → Prop := fun o k => (o = 104 ∧ k = 44) ∨ o = 134
theorem pp_write_s {t : List Int32} {c : Int32} (h : PS 55 54 1 t μ) (ht : t.length + 1 ≤ 360) (hP : ∀ m, Fr f5 μ m → PS 55 54 1 (t ++ [c]) m → P m) : pp_write c μ P := by
  unfold pp_write
  rw [h.1, show (360 : Int32) = nI 360 from rfl, nI_ltI (by omega) (by omega), nI_clamp (by omega)]
  refine ⟨fun _ => ⟨vp_in_nI (by omega) (by decide), ?_⟩, fun z => absurd (by omega) z⟩
  rintro m1 rfl m2 rfl
  rw [pl_up_o (show (54 : Nat) ≠ 55 by omega), h.1, nI_1]
  exact hP _ ((Fr.rfl'.up (by omega)).up (by omega)) (h.put (by omega))
theorem mo_writes_s {t : List Int32} {c : Int32} (h : PS 134 104 44 t μ) (ht : t.length + 1 ≤ 360) (hP : ∀ m, Fr f6 μ m → PS 134 104 44 (t ++ [c]) m → P m) : mo_writes c μ P := by
  unfold mo_writes
  rw [h.1, nI_clamp (by omega)]
  refine ⟨vp_in_nI (by omega) (by decide), ?_⟩
  rintro m1 rfl m2 rfl
  rw [pl_up_o (show (104 : Nat) ≠ 134 by omega), h.1, nI_1]
  exact hP _ ((Fr.rfl'.up (by omega)).up (by omega)) (h.put (by omega))
theorem d_rem {v : Nat} (h : v < 1000) : (48 : Int32) + (nI v - nI v / 10 * 10) = nI (48 + v % 10) := by
  rw [show (10 : Int32) = nI 10 from rfl, pk_rem (by omega) (by omega) (by omega), show (48 : Int32) = nI 48 from rfl, nI_add]
theorem d_ten {v : Nat} (h : v < 1000) : (48 : Int32) + ((nI v / 10) - (nI v / 10) / 10 * 10) = nI (48 + v / 10 % 10) := by
  rw [show (10 : Int32) = nI 10 from rfl, pk_div (by omega) (by omega) (by omega), pk_rem (by omega) (by omega) (by omega), show (48 : Int32) = nI 48 from rfl, nI_add]
theorem d_hun {v : Nat} (h : v < 1000) : (48 : Int32) + ((nI v / 100) - (nI v / 100) / 10 * 10) = nI (48 + v / 100) := by
  rw [show (10 : Int32) = nI 10 from rfl, show (100 : Int32) = nI 100 from rfl, pk_div (by omega) (by omega) (by omega), pk_rem (by omega) (by omega) (by omega), show (48 : Int32) = nI 48 from rfl, nI_add]
  congr 1
  omega
theorem d_hun2 {v : Nat} (h : v < 1000) : (48 : Int32) + (nI v / 100) = nI (48 + v / 100) := by
  rw [show (100 : Int32) = nI 100 from rfl, pk_div (by omega) (by omega) (by omega), show (48 : Int32) = nI 48 from rfl, nI_add]
theorem pp_B35 {t : List Int32} {v : Nat} (hv : v < 1000) {a : Int32} (h : PS 55 54 1 t μ) (ht : t.length + (dB v).length ≤ 360) (hP : ∀ m, Fr f5 μ m → PS 55 54 1 (t ++ dB v) m → P m) : pp_writeNumber_B35 a P (nI v) μ := by
  unfold dB at ht hP
  rw [List.length_append] at ht
  have e1 : ∀ x : Int32, ([x] : List Int32).length = 1 := fun _ => rfl
  refine ⟨fun c => ⟨by decide, ?_⟩, fun c => ⟨by decide, by decide, ?_⟩⟩
  · rw [show (10 : Int32) = nI 10 from rfl, nI_ltI (by omega) (by omega)] at c
    rw [if_neg (by omega)] at hP ht
    rw [List.nil_append] at hP
    rw [d_rem hv]
    exact pp_write_s h (by rw [e1] at ht; omega) hP
  · rw [show (10 : Int32) = nI 10 from rfl, nI_ltI (by omega) (by omega)] at c
    rw [if_pos (by omega)] at hP ht
    rw [e1, e1] at ht
    rw [d_ten hv]
    refine pp_write_s h (by omega) (fun m1 f1 p1 => ⟨by decide, ?_⟩)
    rw [d_rem hv]
    refine pp_write_s p1 (by rw [List.length_append, e1]; omega) (fun m2 f2 p2 => hP m2 (f1.tr f2) ?_)
    rw [← List.append_assoc]
    exact p2
theorem mo_B32 {t : List Int32} {v : Nat} (hv : v < 1000) {a : Int32} (h : PS 134 104 44 t μ) (ht : t.length + (dB v).length ≤ 360) (hP : ∀ m, Fr f6 μ m → PS 134 104 44 (t ++ dB v) m → P m) : mo_writesNumber_B32 a P (nI v) μ := by
  unfold dB at ht hP
  rw [List.length_append] at ht
  have e1 : ∀ x : Int32, ([x] : List Int32).length = 1 := fun _ => rfl
  refine ⟨fun c => ⟨by decide, ?_⟩, fun c => ⟨by decide, by decide, ?_⟩⟩
  · rw [show (9 : Int32) = nI 9 from rfl, nI_leI (by omega) (by omega)] at c
    rw [if_neg (by omega)] at hP ht
    rw [List.nil_append] at hP
    rw [d_rem hv]
    exact mo_writes_s h (by rw [e1] at ht; omega) hP
  · rw [show (9 : Int32) = nI 9 from rfl, nI_leI (by omega) (by omega)] at c
    rw [if_pos (by omega)] at hP ht
    rw [e1, e1] at ht
    rw [d_ten hv]
    refine mo_writes_s h (by omega) (fun m1 f1 p1 => ⟨by decide, ?_⟩)
    rw [d_rem hv]
    refine mo_writes_s p1 (by rw [List.length_append, e1]; omega) (fun m2 f2 p2 => hP m2 (f1.tr f2) ?_)
    rw [← List.append_assoc]
    exact p2
theorem pp_B15 {t : List Int32} {v : Nat} (hv : v < 1000) {a : Int32} (h : PS 55 54 1 t μ) (ht : t.length + (dg v).length ≤ 360) (hP : ∀ m, Fr f5 μ m → PS 55 54 1 (t ++ dg v) m → P m) : pp_writeNumber_B15 a P (nI v) μ := by
  unfold dg at ht hP
  rw [List.length_append] at ht
  have e1 : ∀ x : Int32, ([x] : List Int32).length = 1 := fun _ => rfl
  refine ⟨fun c => ?_, fun c => ⟨by decide, by decide, ?_⟩⟩
  · rw [show (100 : Int32) = nI 100 from rfl, nI_ltI (by omega) (by omega)] at c
    rw [if_neg (by omega)] at hP ht
    rw [List.nil_append] at hP
    exact pp_B35 hv h (by have : ([] : List Int32).length = 0 := rfl; omega) hP
  · rw [show (100 : Int32) = nI 100 from rfl, nI_ltI (by omega) (by omega)] at c
    rw [if_pos (by omega)] at hP ht
    rw [e1] at ht
    rw [d_hun hv]
    refine pp_write_s h (by omega) (fun m1 f1 p1 => ?_)
    refine pp_B35 hv p1 (by rw [List.length_append, e1]; omega) (fun m2 f2 p2 => hP m2 (f1.tr f2) ?_)
    rw [← List.append_assoc]
    exact p2
theorem mo_B15 {t : List Int32} {v : Nat} (hv : v < 1000) {a : Int32} (h : PS 134 104 44 t μ) (ht : t.length + (dg v).length ≤ 360) (hP : ∀ m, Fr f6 μ m → PS 134 104 44 (t ++ dg v) m → P m) : mo_writesNumber_B15 a P (nI v) μ := by
  unfold dg at ht hP
  rw [List.length_append] at ht
  have e1 : ∀ x : Int32, ([x] : List Int32).length = 1 := fun _ => rfl
  refine ⟨fun c => ?_, fun c => ⟨by decide, ?_⟩⟩
  · rw [show (99 : Int32) = nI 99 from rfl, nI_leI (by omega) (by omega)] at c
    rw [if_neg (by omega)] at hP ht
    rw [List.nil_append] at hP
    exact mo_B32 hv h (by have : ([] : List Int32).length = 0 := rfl; omega) hP
  · rw [show (99 : Int32) = nI 99 from rfl, nI_leI (by omega) (by omega)] at c
    rw [if_pos (by omega)] at hP ht
    rw [e1] at ht
    rw [d_hun2 hv]
    refine mo_writes_s h (by omega) (fun m1 f1 p1 => ?_)
    refine mo_B32 hv p1 (by rw [List.length_append, e1]; omega) (fun m2 f2 p2 => hP m2 (f1.tr f2) ?_)
    rw [← List.append_assoc]
    exact p2
theorem pp_writeNumber_s {t : List Int32} {v : Int} (h1 : -1000 < v) (h2 : v < 1000) (h : PS 55 54 1 t μ) (ht : t.length + (nt v).length ≤ 360) (hP : ∀ m, Fr f5 μ m → PS 55 54 1 (t ++ nt v) m → P m) : pp_writeNumber (i3 v) μ P := by
  unfold nt at ht hP
  rw [List.length_append] at ht
  have e1 : ∀ x : Int32, ([x] : List Int32).length = 1 := fun _ => rfl
  have b : i3B v := pl_B (by omega) (by omega)
  unfold pp_writeNumber ma_abs
  rw [i3_0, i3_le (pl_B (by omega) (by omega)) b, i3_lt b (pl_B (by omega) (by omega)), i3_sub]
  refine ⟨fun c => ⟨fun z => absurd z (by omega), fun _ => ?_⟩, fun c => ⟨fun _ => ?_, fun z => absurd (by omega) z⟩⟩
  · rw [if_neg (by omega)] at hP ht
    rw [List.nil_append] at hP
    have := pp_B15 (a := i3 v) (v := v.natAbs) (by omega) h (by have : ([] : List Int32).length = 0 := rfl; omega) hP
    rw [i3_n, show ((v.natAbs : Nat) : Int) = v by omega] at this
    exact this
  · rw [if_pos (by omega)] at hP ht
    rw [e1] at ht
    refine pp_write_s h (by omega) (fun m1 f1 p1 => ?_)
    have := pp_B15 (P := P) (a := i3 v) (v := v.natAbs) (by omega) p1 (by rw [List.length_append, e1]; omega) (fun m2 f2 p2 => hP m2 (f1.tr f2) (by rw [← List.append_assoc]; exact p2))
    rw [i3_n, show ((v.natAbs : Nat) : Int) = 0 - v by omega] at this
    exact this
theorem mo_writesNumber_s {t : List Int32} {v : Int} (h1 : -1000 < v) (h2 : v < 1000) (h : PS 134 104 44 t μ) (ht : t.length + (nt v).length ≤ 360) (hP : ∀ m, Fr f6 μ m → PS 134 104 44 (t ++ nt v) m → P m) : mo_writesNumber (i3 v) μ P := by
  unfold nt at ht hP
  rw [List.length_append] at ht
  have e1 : ∀ x : Int32, ([x] : List Int32).length = 1 := fun _ => rfl
  have b : i3B v := pl_B (by omega) (by omega)
  unfold mo_writesNumber
  rw [i3_0, i3_lt b (pl_B (by omega) (by omega)), i3_neg]
  refine ⟨fun c => ?_, fun c => ?_⟩
  · rw [if_pos (by omega)] at hP ht
    rw [e1] at ht
    refine mo_writes_s h (by omega) (fun m1 f1 p1 => ?_)
    have := mo_B15 (P := P) (a := i3 v) (v := v.natAbs) (by omega) p1 (by rw [List.length_append, e1]; omega) (fun m2 f2 p2 => hP m2 (f1.tr f2) (by rw [← List.append_assoc]; exact p2))
    rw [i3_n, show ((v.natAbs : Nat) : Int) = -v by omega] at this
    exact this
  · rw [if_neg (by omega)] at hP ht
    rw [List.nil_append] at hP
    have := mo_B15 (a := i3 v) (v := v.natAbs) (by omega) h (by have : ([] : List Int32).length = 0 := rfl; omega) hP
    rw [i3_n, show ((v.natAbs : Nat) : Int) = v by omega] at this
    exact this
theorem pp_writePart_s {t : List Int32} {c : Nat} {l g w : Int} (hv : vS l g w) (hc : c < 34) (d2 : μ c 2 = i3 l) (d3 : μ c 3 = i3 g) (d4 : μ c 4 = i3 w) (h : PS 55 54 1 t μ) (ht : t.length + (pt l g w).length ≤ 360) (hP : ∀ m, Fr f5 μ m → PS 55 54 1 (t ++ pt l g w) m → P m) : pp_writePart c μ P := by
  have e1 : ∀ x : Int32, ([x] : List Int32).length = 1 := fun _ => rfl
  unfold pt at ht hP
  rw [List.length_append, List.length_append, List.length_append, e1] at ht
  unfold pp_writePart
  rw [d2]
  refine pp_writeNumber_s (by omega) (by omega) h (by omega) (fun m1 f1 p1 => ?_)
  refine pp_write_s p1 (by rw [List.length_append]; omega) (fun m2 f2 p2 => ?_)
  rw [(f1.tr f2) c 3 (by omega), d3]
  refine pp_writeNumber_s (by omega) (by omega) p2 (by rw [List.length_append, List.length_append, e1]; omega) (fun m3 f3 p3 => ?_)
  have F := (f1.tr f2).tr f3
  rw [F c 4 (by omega), d4, i3_1, i3_eq (pl_B (by omega) (by omega)) (pl_B (by omega) (by omega))]
  refine ⟨fun e => hP m3 F ?_, fun e => ?_⟩
  · rw [if_pos e, List.append_nil]
    simpa [List.append_assoc] using p3
  · rw [if_neg e] at hP ht
    rw [List.length_append, e1] at ht
    refine pp_write_s p3 (by rw [List.length_append, List.length_append, List.length_append, e1]; omega) (fun m4 f4 p4 => ?_)
    rw [f4 c 4 (by omega), F c 4 (by omega), d4]
    refine pp_writeNumber_s (by omega) (by omega) p4 (by rw [List.length_append, List.length_append, List.length_append, List.length_append, e1, e1]; omega) (fun m5 f5 p5 => hP m5 ((F.tr f4).tr f5) ?_)
    simpa [List.append_assoc] using p5
noncomputable def tx (s : SS) (q : Int) : Nat → List Int32
  | 0 => []
  | k + 1 => tx s q k ++ ((if k = 0 then [] else [59]) ++ pt (sL s (en s (yl s) q k)) (sH s (en s (yl s) q k)) (sW s (en s (yl s) q k)))
theorem tx_len (ok : sOK s) {q : Int} : ∀ k, k ≤ sN s → (tx s q k).length + 1 ≤ 12 * k + (if k = 0 then 1 else 0)
  | 0, _ => by show 0 + 1 ≤ _; simp
  | k + 1, h => by
    have ih := tx_len ok (q := q) k (by omega)
    have e := en_ok (s := s) (y := yl s) (q := q) (i := k) (by omega)
    have := pt_len (ok _ e.1 e.2.1)
    unfold tx
    rw [List.length_append, List.length_append]
    have e1 : ([59] : List Int32).length = 1 := rfl
    have e2 : ([] : List Int32).length = 0 := rfl
    by_cases c : k = 0
    · subst c
      rw [if_pos rfl, e2, if_neg (by omega)]
      rw [if_pos rfl] at ih
      omega
    · rw [if_neg c, e1, if_neg (by omega)]
      rw [if_neg c] at ih
      omega
theorem pp_writeAll_s (ci : CInv s μ) {q : Int} (hq : 0 ≤ q ∧ q ≤ 4) (hP : ∀ m, Fr (fun o k => fC o k ∨ f5 o k) μ m → CInv s m → PS 55 54 1 (tx s q (sN s)) m → P m) : pp_writeAll (i3 q) μ P := by
  unfold pp_writeAll
  refine ix_sort_c ci hq (fun m4 hf4 cm4 hs => ?_)
  rintro m6 rfl
  have hN := sN_le s
  have ok := ci.1
  refine lq2 (fun n x4 m => pp_writeAll_L14 (i3 q) P n (nI (sN s)) x4 m) (fun k x4 m => x4 = nI k ∧ Fr f5 m4 m ∧ PS 55 54 1 (tx s q k) m) (sN s) _ _ ⟨rfl, Fr.rfl'.up (by omega), ⟨pl_up_s, fun i hi => absurd hi (Nat.not_lt_zero _)⟩⟩ ?_ ?_
  · rintro n x4 m ⟨rfl, hf, ps⟩
    exact ⟨fun z => absurd z (by rw [nI_ltI (by omega) (by omega)]; omega), fun _ => hP m ((hf4.mono (fun o k z => Or.inl z)).tr (hf.mono (fun o k z => Or.inr z))) (cm4.fr hf (fun o k h1 h2 z => by omega)) ps⟩
  · rintro n k x4 m hk ⟨rfl, hf, ps⟩ ih
    have e := en_ok (s := s) (y := yl s) (q := q) hk
    have cm := cm4.fr hf (fun o k h1 h2 z => by omega)
    have hv := ok _ e.1 e.2.1
    have pl := pt_len hv
    have tl := tx_len ok (q := q) k (by omega)
    have e1 : ([59] : List Int32).length = 1 := rfl
    have part : ∀ m1 t, Fr f5 m m1 → PS 55 54 1 t m1 → t.length + 11 ≤ 360 → tx s q (k + 1) = t ++ pt (sL s (en s (yl s) q k)) (sH s (en s (yl s) q k)) (sW s (en s (yl s) q k)) → vp_in (nI k) 30 ∧ sl_kd (m1 3 k).toNatClampNeg = 9 ∧ pp_writePart ((m1 3 k).toNatClampNeg) m1 (fun m3 => pp_writeAll_L14 (i3 q) P n (nI (sN s)) (nI k + 1) m3) := by
      intro m1 t f1 p1 ht et
      have es : (m1 3 k).toNatClampNeg = 4 + en s (yl s) q k := by
        rw [f1 3 k (by omega), hf 3 k (by omega), hs k hk]
        exact cl4 e.1
      have cm1 := cm.fr f1 (fun o k h1 h2 z => by omega)
      obtain ⟨-, -, d2, d3, d4⟩ := cm1.2.1 _ e.1
      rw [es]
      refine ⟨pl_in (by omega), kd9 _ e.1, pp_writePart_s hv (by omega) d2 d3 d4 p1 (by omega) (fun m3 f3 p3 => ?_)⟩
      rw [pl_inc]
      exact ih _ _ ⟨rfl, (hf.tr f1).tr f3, by rw [et]; exact p3⟩
    refine ⟨fun _ => ?_, fun z => absurd (by rw [nI_ltI (by omega) (by omega)]; omega) z⟩
    rw [pl_cl (show k < 30 by omega), show ((0 : Int32) = nI 0) from rfl, nI_leI (by omega) (by omega)]
    refine ⟨fun c => ?_, fun c => ?_⟩
    · obtain rfl : k = 0 := by omega
      exact part m _ Fr.rfl' ps (by rw [if_pos rfl] at tl; omega) (by show _ ++ ([] ++ _) = _; rw [List.nil_append])
    · rw [if_neg (by omega)] at tl
      refine pp_write_s ps (by omega) (fun m1 f1 p1 => part m1 _ f1 p1 (by rw [List.length_append, e1]; omega) ?_)
      show _ ++ ((if k = 0 then [] else [59]) ++ _) = _
      rw [if_neg (by omega), List.append_assoc]
theorem mo_B56 {t : List Int32} {a1 x2 : Int32} {K : Int32 → sl_M → Prop} {c : Nat} (hM : MR μ s) (ok : sOK s) (hc : c < 30) (ic : sI s c) (h : PS 134 104 44 t μ) (ht : t.length + (pt (sL s c) (sH s c) (sW s c)).length ≤ 360) (hK : ∀ m, Fr f6 μ m → PS 134 104 44 (t ++ pt (sL s c) (sH s c) (sW s c)) m → K (x2 + 1) m) : mo_spell_B56 a1 Q K x2 (nI c) μ := by
  have e1 : ∀ x : Int32, ([x] : List Int32).length = 1 := fun _ => rfl
  have hv := ok c hc ic
  unfold pt at ht hK
  rw [List.length_append, List.length_append, List.length_append, e1] at ht
  have d := hM c hc
  refine ⟨pl_in hc, ?_⟩
  rw [pl_cl hc, d.2.1]
  refine mo_writesNumber_s (by omega) (by omega) h (by omega) (fun m1 f1 p1 => ?_)
  refine mo_writes_s p1 (by rw [List.length_append]; omega) (fun m2 f2 p2 => ⟨pl_in hc, ?_⟩)
  rw [(f1.tr f2) 106 c (by omega), d.2.2.1]
  refine mo_writesNumber_s (by omega) (by omega) p2 (by rw [List.length_append, List.length_append, e1]; omega) (fun m3 f3 p3 => ⟨pl_in hc, ?_⟩)
  have F := (f1.tr f2).tr f3
  rw [F 107 c (by omega), d.2.2.2, i3_1, i3_eq (pl_B (by omega) (by omega)) (pl_B (by omega) (by omega))]
  refine ⟨fun e => hK m3 F ?_, fun e => ?_⟩
  · rw [if_pos e, List.append_nil]
    simpa [List.append_assoc] using p3
  · rw [if_neg e] at hK ht
    rw [List.length_append, e1] at ht
    refine mo_writes_s p3 (by rw [List.length_append, List.length_append, List.length_append, e1]; omega) (fun m4 f4 p4 => ⟨pl_in hc, ?_⟩)
    rw [f4 107 c (by omega), F 107 c (by omega), d.2.2.2]
    refine mo_writesNumber_s (by omega) (by omega) p4 (by rw [List.length_append, List.length_append, List.length_append, List.length_append, e1, e1]; omega) (fun m5 f5 p5 => hK m5 ((F.tr f4).tr f5) ?_)
    simpa [List.append_assoc] using p5
theorem op_spell (a1 : Int32) : Opp (sx_spell a1) (mo_spell a1) := by
  rintro μ ⟨⟨s, ci, mr⟩, ri⟩
  by_cases h1 : 0 ≤ a1 ∧ a1 < 5
  · unfold sx_spell
    rw [sx_isBelow_i]
    refine pl_bb (fun z => absurd h1 z) (fun _ => ?_)
    have h1' := h1
    obtain ⟨q, hq, rfl⟩ := pl_ord h1
    have ok := ci.1
    have hN := sN_le s
    refine pp_writeAll_s ci hq (fun m3 hf3 cm3 ps3 => ?_)
    unfold mo_spell
    rintro m10 rfl
    rw [mo_in_0, pl_bcong pl_le4]
    refine pl_bb (fun z => absurd h1' z) (fun _ => ?_)
    have mr3 := (mr.fr hf3 (fun o k h1 h2 z => by omega)).th
    refine mo_layOrder_s mr3 ok hq (fun m13 hf13 hl ho => ?_)
    rintro m14 rfl
    have mr13 := mr3.f10 hf13
    refine lq2 (fun n x2 m => mo_spell_L31 (i3 q) (fun r2 μ2 => m3 54 1 = r2 ∧ Inv μ2) n x2 m) (fun k x2 m => x2 = nI k ∧ Fr f6 m13 m ∧ PS 134 104 44 (tx s q k) m) (sN s) _ _ ⟨rfl, Fr.rfl'.up (by omega), ⟨pl_up_s, fun i hi => absurd hi (Nat.not_lt_zero _)⟩⟩ ?_ ?_
    · rintro n x2 m ⟨rfl, hf, ps⟩
      have mrm := mr13.fr hf (fun o k h1 h2 z => by omega)
      refine mo_manyIn_s mrm ⟨fun z => absurd z (by rw [nI_ltI (by omega) (by omega)]; omega), fun _ => ⟨by rw [ps3.1, ps.1], ?_⟩⟩
      have F : Fr (fun o k => fC o k ∨ fN o k ∨ fPp o k) μ m := (((hf3.mono (fun o k z => by omega)).tr ((Fr.th (μ := m3)).mono (fun o k z => by omega))).tr (hf13.mono (fun o k z => by omega))).tr (hf.mono (fun o k z => by omega))
      have F3 : Fr (fun o k => fN o k ∨ f6 o k) m3 m := (((Fr.th (μ := m3)).mono (fun o k z => by omega)).tr (hf13.mono (fun o k z => by omega))).tr (hf.mono (fun o k z => by omega))
      obtain ⟨n0, p1, p2, p3, p4, p5⟩ := ri.2.2.2.1
      have tl := tx_len ok (q := q) (sN s) (Nat.le_refl _)
      refine ⟨⟨s, cm3.fr F3 (fun o k h1 h2 z => by omega), mrm⟩, ri.pp F (fun o k z => z) ⟨(tx s q (sN s)).length, ?_, by rw [F3 54 1 (by omega)]; exact ps3.1, ps.1, fun i hi => ?_, by rw [F 120 0 (by omega)]; exact p5⟩⟩
      · split at tl <;> omega
      · rw [F3 55 i (by omega), ps3.2 i hi, ps.2 i hi]
    · rintro n k x2 m hk ⟨rfl, hf, ps⟩ ih
      have mrm := mr13.fr hf (fun o k h1 h2 z => by omega)
      have e := en_ok (s := s) (y := yl s) (q := q) hk
      have pl := pt_len (ok _ e.1 e.2.1)
      have tl := tx_len ok (q := q) k (by omega)
      have e1 : ([59] : List Int32).length = 1 := rfl
      refine mo_manyIn_s mrm ⟨fun _ => ⟨pl_in (by omega), ?_⟩, fun z => absurd (by rw [nI_ltI (by omega) (by omega)]; omega) z⟩
      rw [pl_cl (show k < 30 by omega), hf 110 k (by omega), ho k hk, show ((0 : Int32) = nI 0) from rfl, nI_leI (by omega) (by omega)]
      rintro v3 rfl
      refine ⟨fun c => ?_, fun c => ?_⟩
      · obtain rfl : k = 0 := by omega
        refine mo_B56 mrm ok e.1 e.2.1 ps (by rw [if_pos rfl] at tl; omega) (fun m5 f5 p5 => ?_)
        exact ih _ _ ⟨rfl, hf.tr f5, by show PS _ _ _ (_ ++ ([] ++ _)) _; rw [List.nil_append]; exact p5⟩
      · rw [if_neg (by omega)] at tl
        refine mo_writes_s ps (by omega) (fun m1 f1 p1 => ?_)
        refine mo_B56 (mrm.fr f1 (fun o k h1 h2 z => by omega)) ok e.1 e.2.1 p1 (by rw [List.length_append, e1]; omega) (fun m5 f5 p5 => ?_)
        rw [pl_inc]
        refine ih _ _ ⟨rfl, (hf.tr f1).tr f5, ?_⟩
        show PS _ _ _ (_ ++ ((if k = 0 then [] else [59]) ++ _)) _
        rw [if_neg (by omega), ← List.append_assoc]
        exact p5
  · refine op2 (v := -1) (s' := s) ci mr ri (fun Q hQ => ?_) (fun μ1 mr1 Q hQ => ?_)
    · unfold sx_spell
      rw [sx_isBelow_i]
      exact pl_bb (fun _ => hQ _ Fr.rfl' ci) (fun z => absurd z h1)
    · unfold mo_spell
      rintro m10 rfl
      rw [mo_in_0, pl_bcong pl_le4]
      exact pl_bb (fun _ => hQ _ Fr.th mr1.th) (fun z => absurd z h1)
end SPW
