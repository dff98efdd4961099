/-! SOUNDNESS of the small machine's wp over the machine itself -/
def sl_sl : List Nat := [36, 34]
def sl_sb : List (List Int32) := [[108, 111, 119, 32, 104, 105, 103, 104, 32, 119, 101, 105, 103, 104, 116, 32, 108, 101, 110, 103, 116, 104, 32, 110, 117, 109, 98, 101, 114, 32, 108, 97, 121, 101, 114, 32], [115, 104, 105, 102, 116, 32, 103, 114, 111, 119, 32, 99, 108, 105, 112, 32, 109, 105, 114, 114, 111, 114, 32, 116, 105, 109, 101, 115, 32, 104, 101, 97, 112, 32]]
def sl_s0 : String := "low high weight length number layer "
def sl_s1 : String := "shift grow clip mirror times heap "
def sl_own (o : Nat) : String := if o = 0 then sl_R2 else sl_R0
def sl_six (o : Nat) : Nat := if o = 0 then 41 else 35
def sl_stx (o : Nat) : String := if o = 0 then sl_s0 else sl_s1
/-- what lies outside the world: the two texts, a static of String's -/
def sl_Z (g : sl_G) (U : State) : Prop := vk_S 2 sl_sl sl_sb (sl_gs g 90) (sl_gs g 92) (sl_A g) U U.heap ∧ (∀ o, o < 2 → vk_R (sl_own o) (sl_six o) (sl_stx o) (sl_gs g 90 o) U) ∧ va_Z "java/lang/String" "COMPACT_STRINGS" "Z" (.int 1) (sl_A g) U U.heap ∧ va_Zq "jdk/internal/util/Preconditions" "SIOOBE_FORMATTER" "Ljava/util/function/BiFunction;" (sl_A g) U U.heap ∧ ∀ q ∈ sl_nest, va_Nw (.methodLinkNest q.1 q.2.1 q.2.2.1 q.2.2.2) U
def sl_K (g : sl_G) (U : State) : Prop := va_K (sl_gD g) sl_cl (sl_tys g) U ∧ sl_Z g U
theorem sl_K.go {g : sl_G} {s U : State} {locs : List Loc} (h : sl_K g s) (hS : va_S (sl_A g) s.heap U.heap locs) (hW : s.WarmedH U.vm) : sl_K g U :=
  ⟨va_K.moved hW.alike h.1, vk_S.moved hW.alike (h.2.1.kept hS.2.1), fun o ho => vk_R.warm hW (h.2.2.1 o ho), va_Z.moved hW.alike (h.2.2.2.1.kept hS.2.1), va_Zq.moved hW.alike (h.2.2.2.2.1.kept hS.2.1), fun q hq => va_Nw.warmM hW (h.2.2.2.2.2 q hq)⟩
abbrev sl_X : Type := Program × Env × Room × State × MethodId × Array Value × List Frame × Method × Code × Nat × Nat × (State → Prop)
def sl_Vw (g : sl_G) (X : sl_X) (nL : Nat) (cst : sl_L) (pc : Nat) (lv : sl_L) (st : List sl_V) (μ : sl_M) : Prop := match X with
  | (p, e, R, s, m, args, below, meth, c, cells, slots, Qp) => ∀ (H : Heap) (locs : List Loc) (ls : Array Slot), sl_Wd g μ H → va_S (sl_A g) s.heap H locs → sl_lh g ls nL cst lv → W p g.1 e R s m args below meth c H locs cells slots Qp (F0 m pc ls (st.map (sl_tv g)))
def sl_rmok (R : Room) (h cells slots : Nat) : Prop := h ≤ R.frames ∧ 64 * h ≤ R.locals ∧ cells ≤ R.cells ∧ slots ≤ R.slots
def sl_Fx (g : sl_G) (X : sl_X) (own : String) (cc : ByteArray) (nL h : Nat) : Prop := match X with
  | (p, _, R, s, m, args, _, _, c, cells, slots, _) => p.tables.exec = Jvm.exec ∧ c.code = cc ∧ c.maxLocals = nL ∧ s.vm.findClass own = some m.cls ∧ (∀ w ∈ sl_T0, w.before args s = true) ∧ sl_K g s ∧ sl_rmok R h cells slots
def sl_Qc (g : sl_G) (Q : sl_Qt) : Array Value → State → Outcome → State → Prop := fun _ st oc t => (∃ (r : Option sl_V) (μ' : sl_M), oc = .returned (r.map (sl_tv g)) ∧ (∀ v, r = some v → sl_wk v) ∧ Q r μ' ∧ sl_Wd g μ' t.heap) ∧ va_F (sl_A g) st t
def sl_Rt (g : sl_G) (X : sl_X) (rt : Option FieldType) (Q : sl_Qt) : Prop := match X with
  | (_, _, _, s, _, args, below, meth, _, cells, slots, Qp) => meth.sig.returnType = rt ∧ meth.locks = false ∧ Qp = MQ below (sl_Qc g Q) args s cells slots (sl_A g)
def sl_rm (h : Nat) : Room := { frames := h, cells := 0, slots := 0, locals := 64 * h }
def sl_Met (g : sl_G) (y : MethodName) (bytes : ByteArray) (maxL : Nat) (ret : Option FieldType) (h : Nat) (As : List sl_V) (μ : sl_M) (Q : sl_Qt) : Prop :=
  Met g.1 y (Cond.code y bytes maxL ret :: sl_T0) (sl_rm h) (va_Pc (As.map (sl_tv g)) (fun U => sl_Wd g μ U.heap ∧ sl_K g U)) (sl_Qc g Q) 0 0 (sl_A g)
def sl_Snd (g : sl_G) (y : MethodName) (bytes : ByteArray) (maxL : Nat) (ret : Option FieldType) (h : Nat) (pt : sl_PT) : Prop := ∀ (As : List sl_V) (μ : sl_M) (Q : sl_Qt), (∀ v ∈ As, sl_wk v) → pt As μ Q → sl_Met g y bytes maxL ret h As μ Q
def sl_ins (kind idx : Nat) : Instr := match kind with
  | 0 => .invokevirtual idx
  | _ => .invokestatic idx
def sl_CallS (g : sl_G) (own : String) (idx kind ci h n : Nat) (pt : sl_PT) : Prop :=
  ∀ (p : Program) (e : Env) (R : Room) (s : State) (m : MethodId) (args : Array Value) (below : List Frame) (meth : Method) (c : Code) (cells slots : Nat) (Qp : State → Prop) (cc : ByteArray) (nL : Nat), sl_Fx g (p, e, R, s, m, args, below, meth, c, cells, slots, Qp) own cc nL h →
  ∀ (pc : Nat), decode cc pc = .ok (sl_ins kind idx, 3) → ∀ (μ : sl_M) (H : Heap) (locs : List Loc) (ls : Array Slot) (As : List sl_V) (rest : List Value) (Q' : sl_Qt), As.length = n → (∀ v ∈ As, sl_wk v) → sl_recv kind ci As = true → sl_Wd g μ H → va_S (sl_A g) s.heap H locs → ls.size = nL → (rest.map fun v => v.category).sum ≤ 8 → pt As μ Q' →
  (∀ (r : Option sl_V) (μ' : sl_M) (H1 : Heap) (locs1 : List Loc), Q' r μ' → (∀ v, r = some v → sl_wk v) → sl_Wd g μ' H1 → va_S (sl_A g) s.heap H1 locs1 → W p g.1 e R s m args below meth c H1 locs1 cells slots Qp (F0 m (pc + 3) ls ((r.map (sl_tv g)).toList ++ rest))) →
  W p g.1 e R s m args below meth c H locs cells slots Qp (F0 m pc ls ((As.map (sl_tv g)).reverse ++ rest))
/-- a call goes on: from its run, by its contract -/
theorem sl_goes {g : sl_G} {p : Program} {e : Env} {R : Room} {s : State} {m : MethodId} {args : Array Value} {below : List Frame} {meth : Method} {c : Code} {H : Heap} {locs : List Loc} {cells slots : Nat} {Qp : State → Prop} {pc : Nat} {ls : Array Slot} {st0 rest : List Value} {a : Array Value} {Q' : sl_Qt}
    (hr : va_Run p g.1 e R s m args below meth c H locs cells slots 0 0 (F0 m pc ls st0) rest (sl_Qc g Q' a) (sl_A g)) (hS : va_S (sl_A g) s.heap H locs)
    (kk : ∀ (r : Option sl_V) (μ' : sl_M) (H1 : Heap) (locs1 : List Loc), Q' r μ' → (∀ v, r = some v → sl_wk v) → sl_Wd g μ' H1 → va_S (sl_A g) s.heap H1 locs1 → W p g.1 e R s m args below meth c H1 locs1 cells slots Qp (F0 m (pc + 3) ls ((r.map (sl_tv g)).toList ++ rest))) : W p g.1 e R s m args below meth c H locs cells slots Qp (F0 m pc ls st0) := by
  intro T hT X
  obtain ⟨v, st₀, t, T', L, h0, X', hL, e1, e2, ⟨⟨r, μ', hv, hw, hq, hd⟩, hz, hk⟩, st⟩ := hr T hT X
  cases hv
  rw [h0] at hz hk
  obtain ⟨t2, a1, b1⟩ := kk r μ' T'.heap (locs ++ L) hq hw (by rw [e1]; exact hd)
    ⟨Nat.le_trans hS.1 (by rw [e1]; exact hz), fun q h1 h2 => by rw [e1, hk q (Nat.lt_of_lt_of_le h1 hS.1) h2]; exact hS.2.1 q h1 h2, fun q hq => by
      rcases List.mem_append.mp hq with h | h
      · exact hS.2.2 q h
      · exact hL q h⟩ T' rfl X'
  exact ⟨t2, st t2 a1, b1⟩
theorem sl_blind {g : sl_G} {av : List Value} {μ : sl_M} : FrameBlind (va_Pc av (fun U => sl_Wd g μ U.heap ∧ sl_K g U)) := by
  intro a U gg mk q
  obtain ⟨q1, q2, q3, q4, q5, q6, q7, q8⟩ := q
  exact ⟨q1, q2, va_K.moved (u := U) (U := U.calling gg mk a) (Vm.Alike.refl U.vm) q3, vk_S.moved (u := U) (U := U.calling gg mk a) (Vm.Alike.refl U.vm) q4, fun o ho => vk_R.same (u := U) (U := U.calling gg mk a) rfl (q5 o ho), va_Z.moved (u := U) (U := U.calling gg mk a) (Vm.Alike.refl U.vm) q6, va_Zq.moved (u := U) (U := U.calling gg mk a) (Vm.Alike.refl U.vm) q7, fun z hz => va_Nw.same (u := U) (U := U.calling gg mk a) rfl rfl (q8 z hz)⟩
theorem sl_goodIn {y : MethodName} {bytes : ByteArray} {maxL : Nat} {ret : Option FieldType} (h : Cond.code y bytes maxL ret ∈ sl_T0) : GoodIn sl_T0 (Cond.code y bytes maxL ret :: sl_T0) := by
  intro w hw
  rcases List.mem_cons.mp hw with rfl | hw
  · exact ⟨h, good_of_word (sl_T0_good h)⟩
  · exact ⟨hw, good_of_word (sl_T0_good hw)⟩
theorem sl_callV {g : sl_G} {own : String} {idx ci h h' n N maxL : Nat} {T : u_T} {y : MethodName} {bytes : ByteArray} {ret : Option FieldType} {pt : sl_PT} (hs : sl_Snd g y bytes maxL ret h' pt) (hh : h' + 1 ≤ h) (hm : maxL ≤ 40)
    (w1 : Cond.methodLink own idx y ∈ sl_T0) (w2 : Cond.instanceMethod y ∈ sl_T0) (w3 : Cond.selects y.cls y y ∈ sl_T0) (w4 : Cond.initialized y.cls ∈ sl_T0) (w5 : Cond.code y bytes maxL ret ∈ sl_T0)
    (hd : y.cls ≠ "java/lang/invoke/MethodHandle" ∧ y.cls ≠ "java/lang/invoke/VarHandle" ∧ (parseMethodDescriptor y.desc).map (fun d => d.parameters.length) = some n) (hcl : sl_cl[ci]? = some (y.cls, T, N)) (hci : ci < 20) : sl_CallS g own idx 0 ci h (n + 1) pt := by
  intro p e R s m args below meth c cells slots Qp cc nL F pc hdec μ H locs ls As rest Q' hn hw hrc hWd hS hsz hcat hpt kk
  obtain ⟨hx, hb, hml, hown, hts, hK, hf, hl, hc, hsl⟩ := F
  match As, hn, hw, hrc, hpt with
  | .inr (.inr (some q)) :: As', hn, hw, hrc, hpt =>
    obtain ⟨c0, o⟩ := q
    have hc0 : c0 = ci := by simpa [sl_recv] using hrc
    subst hc0
    have hkd : sl_kd o = c0 := hw _ List.mem_cons_self (show c0 < 90 by omega)
    have ho : o < sl_N := sl_kd_lt (by rw [hkd]; omega)
    have had : sl_tv g (.inr (.inr (some (c0, o)))) = .ref (sl_b g + o) := by
      show Value.ref (sl_ad g c0 o) = _
      unfold sl_ad
      rw [if_pos (show c0 < 90 by omega)]
    have hE : sl_E g μ o = .inr (c0, (List.range (sl_nf c0)).map (sl_fv g μ c0 o)) := by
      unfold sl_E
      rw [hkd]
      have h20 : c0 ≠ 20 := by omega
      have h21 : c0 ≠ 21 := by omega
      have h22 : c0 ≠ 22 := by omega
      have h23 : c0 ≠ 23 := by omega
      have h24 : c0 ≠ 24 := by omega
      have h25 : c0 ≠ 25 := by omega
      split <;> first | (exact absurd rfl ‹_›) | contradiction | rfl
    have hget := sl_wl_get g μ ho
    rw [hE] at hget
    have hcw : CallW R s args own y.cls idx y bytes maxL ret (Cond.code y bytes maxL ret :: sl_T0) (sl_rm h') 0 0 n := by
      refine ⟨callB_of n hts (sl_goodIn w5) rfl rfl rfl (hts _ w4) (hts _ w1) hd ⟨?_, ?_⟩, hts _ w2, hts _ w3⟩
      · show h' + 1 ≤ R.frames
        omega
      · show 8 + (maxL + 11) + 64 * h' ≤ R.locals
        omega
    have hstk : ((.inr (.inr (some (c0, o))) :: As').map (sl_tv g)).reverse ++ rest = (As'.map (sl_tv g)).reverse ++ .ref (sl_b g + o) :: rest := by
      rw [List.map_cons, List.reverse_cons, had, List.append_assoc]
      rfl
    rw [hstk]
    refine sl_goes (va_runV (As := As'.map (sl_tv g)) (rest := rest) (C := y.cls) ⟨hx, hb, hml, hown, hts⟩ (hs _ μ Q' hw hpt) hcw ⟨sl_blind, va_recv hK.1 hWd hcl hget, fun U hU hWm => ⟨by rw [List.map_cons, had], by rw [hU]; exact hWd, sl_K.go (U := U) (locs := locs) hK (by rw [hU]; exact hS) hWm⟩⟩ rfl (by rw [List.length_map]; exact Nat.succ.inj hn) hsz rfl (lv_room hcat) hdec ⟨hc, hsl⟩) hS kk
  | [], hn, hw, hrc, hpt => cases hrc
  | .inl _ :: _, hn, hw, hrc, hpt => cases hrc
  | .inr (.inl _) :: _, hn, hw, hrc, hpt => cases hrc
  | .inr (.inr none) :: _, hn, hw, hrc, hpt => cases hrc
theorem sl_callS {g : sl_G} {own : String} {idx h h' n maxL : Nat} {y : MethodName} {bytes : ByteArray} {ret : Option FieldType} {pt : sl_PT} (hs : sl_Snd g y bytes maxL ret h' pt) (hh : h' + 1 ≤ h) (hm : maxL ≤ 40)
    (w1 : Cond.methodLink own idx y ∈ sl_T0) (w2 : Cond.static y ∈ sl_T0) (w4 : Cond.initialized y.cls ∈ sl_T0) (w5 : Cond.code y bytes maxL ret ∈ sl_T0)
    (hd : y.cls ≠ "java/lang/invoke/MethodHandle" ∧ y.cls ≠ "java/lang/invoke/VarHandle" ∧ (parseMethodDescriptor y.desc).map (fun d => d.parameters.length) = some n) : sl_CallS g own idx 1 0 h n pt := by
  intro p e R s m args below meth c cells slots Qp cc nL F pc hdec μ H locs ls As rest Q' hn hw hrc hWd hS hsz hcat hpt kk
  obtain ⟨hx, hb, hml, hown, hts, hK, hf, hl, hc, hsl⟩ := F
  have hcw : CallB R s args own idx y bytes maxL ret (Cond.code y bytes maxL ret :: sl_T0) (sl_rm h') 0 0 n ∧ (Cond.static y).before args s = true := by
    refine ⟨callB_of n hts (sl_goodIn w5) rfl rfl rfl (hts _ w4) (hts _ w1) hd ⟨?_, ?_⟩, hts _ w2⟩
    · show h' + 1 ≤ R.frames
      omega
    · show 8 + (maxL + 11) + 64 * h' ≤ R.locals
      omega
  refine sl_goes (va_runS (As := As.map (sl_tv g)) (rest := rest) ⟨hx, hb, hml, hown, hts⟩ (hs _ μ Q' hw hpt) hcw ⟨sl_blind, fun U hU hWm => ⟨rfl, by rw [hU]; exact hWd, sl_K.go (U := U) (locs := locs) hK (by rw [hU]; exact hS) hWm⟩⟩ rfl (by rw [List.length_map]; exact hn) hsz rfl (lv_room hcat) hdec ⟨hc, hsl⟩) hS kk
theorem sl_callN {g : sl_G} {own host : String} {idx h h' n maxL : Nat} {y : MethodName} {bytes : ByteArray} {ret : Option FieldType} {pt : sl_PT} (hs : sl_Snd g y bytes maxL ret h' pt) (hh : h' + 1 ≤ h) (hm : maxL ≤ 40)
    (w1 : (own, idx, y, host) ∈ sl_nest) (w2 : Cond.static y ∈ sl_T0) (w4 : Cond.initialized y.cls ∈ sl_T0) (w5 : Cond.code y bytes maxL ret ∈ sl_T0)
    (hd : y.cls ≠ "java/lang/invoke/MethodHandle" ∧ y.cls ≠ "java/lang/invoke/VarHandle" ∧ (parseMethodDescriptor y.desc).map (fun d => d.parameters.length) = some n) : sl_CallS g own idx 1 0 h n pt := by
  intro p e R s m args below meth c cells slots Qp cc nL F pc hdec μ H locs ls As rest Q' hn hw hrc hWd hS hsz hcat hpt kk
  obtain ⟨hx, hb, hml, hown, hts, hK, hf, hl, hc, hsl⟩ := F
  have hcw : va_CN R s args own idx y host bytes maxL ret (Cond.code y bytes maxL ret :: sl_T0) (sl_rm h') 0 0 n ∧ (Cond.static y).before args s = true ∧ True := by
    refine ⟨va_cnB n hts (sl_goodIn w5) rfl rfl rfl (hK.2.2.2.2.2 _ w1) (hts _ w4) hd ⟨?_, ?_⟩, hts _ w2, trivial⟩
    · show h' + 1 ≤ R.frames
      omega
    · show 8 + (maxL + 11) + 64 * h' ≤ R.locals
      omega
  refine sl_goes (va_runSN (As := As.map (sl_tv g)) (rest := rest) ⟨hx, hb, hml, hown, hts⟩ (hs _ μ Q' hw hpt) hcw ⟨sl_blind, fun U hU hWm => ⟨rfl, by rw [hU]; exact hWd, sl_K.go (U := U) (locs := locs) hK (by rw [hU]; exact hS) hWm⟩⟩ rfl (by rw [List.length_map]; exact hn) hsz rfl (lv_room hcat) hdec ⟨hc, hsl⟩) hS kk
/-- a private method of a class of the nest is called -/
theorem sl_callVN {g : sl_G} {own host : String} {idx ci h h' n N maxL : Nat} {T : u_T} {y : MethodName} {bytes : ByteArray} {ret : Option FieldType} {pt : sl_PT} (hs : sl_Snd g y bytes maxL ret h' pt) (hh : h' + 1 ≤ h) (hm : maxL ≤ 40)
    (w1 : (own, idx, y, host) ∈ sl_nest) (w2 : Cond.instanceMethod y ∈ sl_T0) (w3 : Cond.selects y.cls y y ∈ sl_T0) (w4 : Cond.initialized y.cls ∈ sl_T0) (w5 : Cond.code y bytes maxL ret ∈ sl_T0)
    (hd : y.cls ≠ "java/lang/invoke/MethodHandle" ∧ y.cls ≠ "java/lang/invoke/VarHandle" ∧ (parseMethodDescriptor y.desc).map (fun d => d.parameters.length) = some n) (hcl : sl_cl[ci]? = some (y.cls, T, N)) (hci : ci < 20) : sl_CallS g own idx 0 ci h (n + 1) pt := by
  intro p e R s m args below meth c cells slots Qp cc nL F pc hdec μ H locs ls As rest Q' hn hw hrc hWd hS hsz hcat hpt kk
  obtain ⟨hx, hb, hml, hown, hts, hK, hf, hl, hc, hsl⟩ := F
  match As, hn, hw, hrc, hpt with
  | .inr (.inr (some q)) :: As', hn, hw, hrc, hpt =>
    obtain ⟨c0, o⟩ := q
    have hc0 : c0 = ci := by simpa [sl_recv] using hrc
    subst hc0
    have hkd : sl_kd o = c0 := hw _ List.mem_cons_self (show c0 < 90 by omega)
    have ho : o < sl_N := sl_kd_lt (by rw [hkd]; omega)
    have had : sl_tv g (.inr (.inr (some (c0, o)))) = .ref (sl_b g + o) := by
      show Value.ref (sl_ad g c0 o) = _
      unfold sl_ad
      rw [if_pos (show c0 < 90 by omega)]
    have hE : sl_E g μ o = .inr (c0, (List.range (sl_nf c0)).map (sl_fv g μ c0 o)) := by
      unfold sl_E
      rw [hkd]
      have h20 : c0 ≠ 20 := by omega
      have h21 : c0 ≠ 21 := by omega
      have h22 : c0 ≠ 22 := by omega
      have h23 : c0 ≠ 23 := by omega
      have h24 : c0 ≠ 24 := by omega
      have h25 : c0 ≠ 25 := by omega
      split <;> first | (exact absurd rfl ‹_›) | contradiction | rfl
    have hget := sl_wl_get g μ ho
    rw [hE] at hget
    have hcw : va_CN R s args own idx y host bytes maxL ret (Cond.code y bytes maxL ret :: sl_T0) (sl_rm h') 0 0 n ∧ (Cond.instanceMethod y).before args s = true ∧ (Cond.selects y.cls y y).before args s = true := by
      refine ⟨va_cnB n hts (sl_goodIn w5) rfl rfl rfl (hK.2.2.2.2.2 _ w1) (hts _ w4) hd ⟨?_, ?_⟩, hts _ w2, hts _ w3⟩
      · show h' + 1 ≤ R.frames
        omega
      · show 8 + (maxL + 11) + 64 * h' ≤ R.locals
        omega
    have hstk : ((.inr (.inr (some (c0, o))) :: As').map (sl_tv g)).reverse ++ rest = (As'.map (sl_tv g)).reverse ++ .ref (sl_b g + o) :: rest := by
      rw [List.map_cons, List.reverse_cons, had, List.append_assoc]
      rfl
    rw [hstk]
    refine sl_goes (va_runVN (As := As'.map (sl_tv g)) (rest := rest) (C := y.cls) ⟨hx, hb, hml, hown, hts⟩ (hs _ μ Q' hw hpt) hcw ⟨sl_blind, va_recv hK.1 hWd hcl hget, fun U hU hWm => ⟨by rw [List.map_cons, had], by rw [hU]; exact hWd, sl_K.go (U := U) (locs := locs) hK (by rw [hU]; exact hS) hWm⟩⟩ rfl (by rw [List.length_map]; exact Nat.succ.inj hn) hsz rfl (lv_room hcat) hdec ⟨hc, hsl⟩) hS kk
  | [], hn, hw, hrc, hpt => cases hrc
  | .inl _ :: _, hn, hw, hrc, hpt => cases hrc
  | .inr (.inl _) :: _, hn, hw, hrc, hpt => cases hrc
  | .inr (.inr none) :: _, hn, hw, hrc, hpt => cases hrc
