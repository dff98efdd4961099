/-! the growing world: fields and places are written -/
section GW2
variable {p : Program} {g : sl_G} {e0 : Env} {R : Room} {s : State} {m : MethodId} {args : Array Value} {below : List Frame} {meth : Method} {c : Code} {H : Heap} {locs : List Loc} {cells slots : Nat} {Q : State → Prop}
variable {cc : ByteArray} {pc nL : Nat} {ls : Array Slot} {rest : List Value} {e : Nat → va_E} {N : Nat} {own : String}
/-- a cell is written -/
theorem gw_wrote (hG : sl_Gw g e N H) {o : Nat} (ho : o < N) {H1 : Heap} {E : va_E} (hE : va_at (sl_gD g) sl_cl (sl_b g + o, E) H1) (z : H1.size = H.size) (oq : ∀ q, q ≠ sl_b g + o → H1[q]? = H[q]?) : sl_Gw g (fu e o E) N H1 := by
  refine ⟨?_, z.trans hG.2⟩
  rw [← gw_set]
  exact hG.1.set (gw_D g e N) (gw_at g e ho) hE oq
theorem gw_wroteS (hS : va_S (sl_A g) s.heap H locs) {o k : Nat} {H1 : Heap} (z : H1.size = H.size) (oq : ∀ q, q ≠ sl_b g + o → H1[q]? = H[q]?) : va_S (sl_A g) s.heap H1 (locs ++ [⟨sl_b g + o, k⟩]) := hS.put z oq (Nat.le_add_right _ _)
theorem gw_putF (F : gx g p s m args c own cc nL) (hinit : meth.name = "<init>") {C : String} {T : u_T} {NF ci index k o : Nat} (hin : ∀ w ∈ u_ws C T NF, w ∈ sl_T0) (ty0 : Nat → FieldType) (hty : ∀ k, k < NF → parseFieldDescriptor (T k).2.2.1 = some (ty0 k)) (hnm : ∀ a, a < NF → ∀ b, b < NF → a ≠ b → (T a).2.1 ≠ (T b).2.1) (hc : sl_cl[ci]? = some (C, T, NF)) (hk : k < NF) (hlink : Cond.fieldLink own index (T k).1 (T k).2.1 (T k).2.2.1 ∈ sl_T0) (hfin : (T k).2.2.2 = true) (hdecl : (T k).1 = own) {ty : FieldType} {v : Value} (hd : parseFieldDescriptor (T k).2.2.1 = some ty) (hn : narrow ty v = v) (hfit : fits ty v = true) (hdg : decode cc pc = .ok (.putfield index, 3)) (ho : o < N) {fs : List Value} (he : e o = .inr (ci, fs)) (hl : k < fs.length) (hG : sl_Gw g e N H) (hS : va_S (sl_A g) s.heap H locs)
    (kk : ∀ (H1 : Heap) (locs1 : List Loc), sl_Gw g (fu e o (.inr (ci, fs.set k v))) N H1 → va_S (sl_A g) s.heap H1 locs1 → W p g.1 e0 R s m args below meth c H1 locs1 cells slots Q (F0 m (pc + 3) ls rest)) : W p g.1 e0 R s m args below meth c H locs cells slots Q (F0 m pc ls (v :: .ref (sl_b g + o) :: rest)) := by
  obtain ⟨hx, hb, hml, hown, hts, hK, -⟩ := id F
  have hget := gw_at g e ho
  rw [he] at hget
  have hap := va_apart (own := own) hts hin ty0 hty hnm hK.1.1 hc
  obtain ⟨r, h1, cell, q1, q2, q3, q4⟩ := hG.1 o _ hget
  obtain rfl : r = (C, T, NF) := Option.some.inj (h1.symm.trans hc)
  obtain ⟨hSl, hfc, kC, hkC, hkind⟩ := hK.1.1.1 ci _ hc
  obtain ⟨cf, kf, fi, f, hi, hsl⟩ := hSl k hk
  have hlay := hts _ (hin _ (u_in_lay hk))
  unfold u_lay at hlay
  rw [if_pos hfin] at hlay
  have hst := (u_facts hfc hkC (u_lays hts hin hk) hi).1
  have hcf : m.cls = cf := by
    obtain ⟨_, _, c', _, _, _, -, -, hf', -, -, -, hown2, -⟩ := Cond.laysFinal_spec hlay
    have e1 : c' = cf := by
      have := hi.symm.trans hf'
      simp at this
      exact this.1.symm
    rw [hdecl] at hown2
    rw [← e1]
    exact Option.some.inj (hown.symm.trans hown2)
  refine W.putFinK hx hb hown (hts _ hlink) hi hst hcf hinit (by rw [q2]; exact u_fits hfc hkC hkind (Or.inr hlay) hi hd hn hfit) q1 q3 (by rw [hsl]; exact k2_hasslot (q4 k hk)) rfl rfl hdg fun H' e1 e2 e3 => ?_
  rw [hsl] at e1 ⊢
  exact kk H' _ (gw_wrote hG ho ⟨_, hc, t_OB.to (V := updV (vp_V fs) k v) ⟨_, e1, q2, q3, t_set q4 hap hk v⟩ (fun j _ => vp_updV_set hl v j)⟩ e2 e3) (gw_wroteS hS e2 e3)
theorem gw_put (F : gx g p s m args c own cc nL) {C : String} {T : u_T} {NF ci index k o : Nat} (hin : ∀ w ∈ u_ws C T NF, w ∈ sl_T0) (ty0 : Nat → FieldType) (hty : ∀ k, k < NF → parseFieldDescriptor (T k).2.2.1 = some (ty0 k)) (hnm : ∀ a, a < NF → ∀ b, b < NF → a ≠ b → (T a).2.1 ≠ (T b).2.1) (hc : sl_cl[ci]? = some (C, T, NF)) (hk : k < NF) (hlink : Cond.fieldLink own index (T k).1 (T k).2.1 (T k).2.2.1 ∈ sl_T0) (hfin : (T k).2.2.2 = false) {ty : FieldType} {v : Value} (hd : parseFieldDescriptor (T k).2.2.1 = some ty) (hn : narrow ty v = v) (hfit : fits ty v = true) (hdg : decode cc pc = .ok (.putfield index, 3)) (ho : o < N) {fs : List Value} (he : e o = .inr (ci, fs)) (hl : k < fs.length) (hG : sl_Gw g e N H) (hS : va_S (sl_A g) s.heap H locs)
    (kk : ∀ (H1 : Heap) (locs1 : List Loc), sl_Gw g (fu e o (.inr (ci, fs.set k v))) N H1 → va_S (sl_A g) s.heap H1 locs1 → W p g.1 e0 R s m args below meth c H1 locs1 cells slots Q (F0 m (pc + 3) ls rest)) : W p g.1 e0 R s m args below meth c H locs cells slots Q (F0 m pc ls (v :: .ref (sl_b g + o) :: rest)) := by
  obtain ⟨hx, hb, hml, hown, hts, hK, -⟩ := id F
  have hget := gw_at g e ho
  rw [he] at hget
  have hap := va_apart (own := own) hts hin ty0 hty hnm hK.1.1 hc
  obtain ⟨r, h1, cell, q1, q2, q3, q4⟩ := hG.1 o _ hget
  obtain rfl : r = (C, T, NF) := Option.some.inj (h1.symm.trans hc)
  obtain ⟨hSl, hfc, kC, hkC, hkind⟩ := hK.1.1.1 ci _ hc
  obtain ⟨cf, kf, fi, f, hi, hsl⟩ := hSl k hk
  have hlay := hts _ (hin _ (u_in_lay hk))
  unfold u_lay at hlay
  rw [if_neg (by rw [hfin]; decide)] at hlay
  have hst := (u_facts hfc hkC (u_lays hts hin hk) hi).1
  have h6 := u_store hfc hkC hkind hlay hi hd hn hfit
  refine W.putK hx hb (f := f) ⟨hown, hts _ hlink, ⟨_, _, _, hi⟩, hst⟩ (by rw [q2]; exact h6) q1 q3 (by rw [hsl]; exact k2_hasslot (q4 k hk)) rfl rfl hdg fun H' e1 e2 e3 => ?_
  rw [hsl] at e1 ⊢
  exact kk H' _ (gw_wrote hG ho ⟨_, hc, t_OB.to (V := updV (vp_V fs) k v) ⟨_, e1, q2, q3, t_set q4 hap hk v⟩ (fun j _ => vp_updV_set hl v j)⟩ e2 e3) (gw_wroteS hS e2 e3)
theorem gw_get (F : gx g p s m args c own cc nL) {C : String} {T : u_T} {NF ci index k o : Nat} (hin : ∀ w ∈ u_ws C T NF, w ∈ sl_T0) (hc : sl_cl[ci]? = some (C, T, NF)) (hk : k < NF) (hlink : Cond.fieldLink own index (T k).1 (T k).2.1 (T k).2.2.1 ∈ sl_T0) (hdg : decode cc pc = .ok (.getfield index, 3)) (ho : o < N) {fs : List Value} (he : e o = .inr (ci, fs)) {v : Value} (hv : fs[k]? = some v) (hG : sl_Gw g e N H)
    (kk : W p g.1 e0 R s m args below meth c H locs cells slots Q (F0 m (pc + 3) ls (v :: rest))) : W p g.1 e0 R s m args below meth c H locs cells slots Q (F0 m pc ls (.ref (sl_b g + o) :: rest)) := by
  obtain ⟨hx, hb, hml, hown, hts, hK, -⟩ := id F
  have hget := gw_at g e ho
  rw [he] at hget
  exact va_get hx hb hts hin hown hK.1.1 hG.1 o hget hc k hk (hts _ hlink) (fun _ h9 => h9) hv hdg kk
theorem gw_iast (F : gx g p s m args c own cc nL) {o n : Nat} {f : Nat → Int32} {i : Nat} {x : Int32} (hi : i < n) (hn : n < 100000) (hdg : decode cc pc = .ok (.iastore, 1)) (ho : o < N) (he : e o = .inl (sl_ca g 0, n, .inl f)) (hG : sl_Gw g e N H) (hS : va_S (sl_A g) s.heap H locs)
    (kk : ∀ (H1 : Heap) (locs1 : List Loc), sl_Gw g (fu e o (.inl (sl_ca g 0, n, .inl (upd f i x)))) N H1 → va_S (sl_A g) s.heap H1 locs1 → W p g.1 e0 R s m args below meth c H1 locs1 cells slots Q (F0 m (pc + 1) ls rest)) : W p g.1 e0 R s m args below meth c H locs cells slots Q (F0 m pc ls (.int x :: .int (nI i) :: .ref (sl_b g + o) :: rest)) := by
  obtain ⟨hx, hb, hml, hown, hts, hK, -⟩ := id F
  have hget := gw_at g e ho
  rw [he] at hget
  have icl : (nI i).toNatClampNeg = i := nI_clamp (by omega)
  refine W.iast hx hb (hG.1 o _ hget) ((hK.1.1.2 0 _ rfl).1 n (fun j => .int (f j))) (fun q => by cases q) (by show ¬ (nI i < 0 ∨ (arrV _ _ _).slots.size ≤ _); rw [arrV_size]; exact (show vp_in (nI i) n from vp_in_nI hi (by omega))) rfl rfl hdg fun H1 e1 z oq => ?_
  refine kk H1 _ (gw_wrote hG ho ?_ z oq) (gw_wroteS hS z oq)
  show H1[sl_b g + o]? = some (vp_cell _ _)
  rw [e1, vp_cell_i, vp_cell_i, arrV_store, icl]
  congr 2
  funext q
  by_cases hq : q = i
  · subst hq
    simp [updV, upd]
  · simp [updV, upd, hq]
theorem gw_aast (F : gx g p s m args c own cc nL) {o t0 qk ci n i : Nat} {r : vw_C} {vs : List Value} {f : Nat → Option Nat} (hc : sl_cl[ci]? = some r) (ht : (sl_tys g)[t0]? = some (sl_ca g t0, .object r.1)) (hi : i < n) (hn : n < 100000) (hdg : decode cc pc = .ok (.aastore, 1)) (ho : o < N) (he : e o = .inl (sl_ca g t0, n, sl_rf f)) (hq : qk < N) (hv : e qk = .inr (ci, vs)) (hG : sl_Gw g e N H) (hS : va_S (sl_A g) s.heap H locs)
    (kk : ∀ (H1 : Heap) (locs1 : List Loc), sl_Gw g (fu e o (.inl (sl_ca g t0, n, sl_rf (va_up f i (some (sl_b g + qk)))))) N H1 → va_S (sl_A g) s.heap H1 locs1 → W p g.1 e0 R s m args below meth c H1 locs1 cells slots Q (F0 m (pc + 1) ls rest)) : W p g.1 e0 R s m args below meth c H locs cells slots Q (F0 m pc ls (.ref (sl_b g + qk) :: .int (nI i) :: .ref (sl_b g + o) :: rest)) := by
  obtain ⟨hx, hb, hml, hown, hts, hK, -⟩ := id F
  have hget := gw_at g e ho
  rw [he] at hget
  have hgv := gw_at g e hq
  rw [hv] at hgv
  have icl : (nI i).toNatClampNeg = i := nI_clamp (by omega)
  obtain ⟨r', hr', cellV, g1, g2, g3, -⟩ := hG.1 qk _ hgv
  have hcls := (hK.1.1.1 ci r hc).2
  obtain ⟨kA, comp, k1, k2, k3, -⟩ := (hK.1.1.2 t0 _ ht).2
  have hcomp : comp = (sl_gD g).1 ci := Option.some.inj (k3.symm.trans hcls.1)
  subst hcomp
  obtain ⟨kC, hkC, -⟩ := hcls.2
  refine W.aast hx hb (hG.1 o _ hget) (fun q h => by cases h) (fun h => by cases h) k1 k2 rfl hkC ⟨nI_pos (by omega), by show _ < (arrV _ _ _).slots.size; rw [arrV_size, icl]; exact hi⟩ g1 (fun q h => by rw [g3] at h; cases h) (by rw [g2]; exact hkC) (by rw [g2]; exact va_assign hcls) rfl rfl hdg fun H1 e1 z oq => ?_
  refine kk H1 _ (gw_wrote hG ho ?_ z oq) (gw_wroteS hS z oq)
  show H1[sl_b g + o]? = some (vp_cell _ _)
  rw [e1]
  unfold sl_rf
  rw [vp_cell_q, vp_cell_q, arrV_store, icl]
  congr 2
  funext q
  by_cases hq : q = i
  · subst hq
    simp [updV, va_up, va_rf]
  · simp [updV, va_up, hq]
/-! contracts of constructors -/
def gw_rm (h mc ms : Nat) : Room := { frames := h, cells := mc, slots := ms, locals := 64 * h }
def gw_Met (g : sl_G) (y : MethodName) (bytes : ByteArray) (maxL h : Nat) (As : List Value) (e : Nat → va_E) (N : Nat) (e' : Nat → va_E) (N' mc ms : Nat) : Prop :=
  Met g.1 y (Cond.code y bytes maxL none :: sl_T0) (gw_rm h mc ms) (va_Pc As (fun U => sl_Gw g e N U.heap ∧ KK g U)) (va_Qv (fun _ : Unit => True) (fun _ t => sl_Gw g e' N' t.heap) (sl_A g)) mc ms (sl_A g)
theorem gw_blind {av : List Value} : FrameBlind (va_Pc av (fun U => sl_Gw g e N U.heap ∧ KK g U)) := by
  intro a U gg mk q
  obtain ⟨q1, q2, q3, q4, q5, q6⟩ := q
  exact ⟨q1, q2, ⟨va_K.moved (u := U) (U := U.calling gg mk a) (Vm.Alike.refl U.vm) q3.1, vk_S.moved (u := U) (U := U.calling gg mk a) (Vm.Alike.refl U.vm) q3.2.1, fun o ho => vk_R.same (u := U) (U := U.calling gg mk a) rfl (q3.2.2.1 o ho), va_Z.moved (u := U) (U := U.calling gg mk a) (Vm.Alike.refl U.vm) q3.2.2.2.1, va_Zq.moved (u := U) (U := U.calling gg mk a) (Vm.Alike.refl U.vm) q3.2.2.2.2.1, fun z hz => va_Nw.same (u := U) (U := U.calling gg mk a) rfl rfl (q3.2.2.2.2.2 z hz)⟩, va_AO.moved (u := U) (U := U.calling gg mk a) (Vm.Alike.refl U.vm) q4, va_AO.moved (u := U) (U := U.calling gg mk a) (Vm.Alike.refl U.vm) q5, va_AO.moved (u := U) (U := U.calling gg mk a) (Vm.Alike.refl U.vm) q6⟩
/-- a constructor is called, by a plain link -/
theorem gw_callI (F : gx g p s m args c own cc nL) {y : MethodName} {bytes : ByteArray} {maxL h n index o N' mc ms : Nat} {As : List Value} {e' : Nat → va_E} (hM : gw_Met g y bytes maxL h (.ref (sl_b g + o) :: As) e N e' N' mc ms) (w1 : Cond.methodLink own index y ∈ sl_T0) (w2 : Cond.instanceMethod y ∈ sl_T0) (w4 : Cond.initialized y.cls ∈ sl_T0) (w5 : Cond.code y bytes maxL none ∈ sl_T0) (hd : y.cls ≠ "java/lang/invoke/MethodHandle" ∧ y.cls ≠ "java/lang/invoke/VarHandle" ∧ (parseMethodDescriptor y.desc).map (fun d => d.parameters.length) = some n) (hi : y.name = "<init>") (hn : As.length = n) (hm : maxL ≤ 40) (hh : h + 1 ≤ R.frames) (hl : 64 * (h + 1) ≤ R.locals) (hdg : decode cc pc = .ok (.invokespecial index, 3)) (hsz : ls.size = nL) (hcat : (rest.map fun v => v.category).sum ≤ 8) (hc : cells + mc ≤ R.cells) (hs : slots + ms ≤ R.slots) (hmc : mc ≤ R.cells) (hms : ms ≤ R.slots) (hG : sl_Gw g e N H) (hS : va_S (sl_A g) s.heap H locs)
    (kk : ∀ (H1 : Heap) (locs1 : List Loc), sl_Gw g e' N' H1 → va_S (sl_A g) s.heap H1 locs1 → W p g.1 e0 R s m args below meth c H1 locs1 (cells + mc) (slots + ms) Q (F0 m (pc + 3) ls rest)) : W p g.1 e0 R s m args below meth c H locs cells slots Q (F0 m pc ls (As.reverse ++ .ref (sl_b g + o) :: rest)) := by
  obtain ⟨hx, hb, hml, hown, hts, hK, hbs⟩ := id F
  have hcw : CallB R s args own index y bytes maxL none (Cond.code y bytes maxL none :: sl_T0) (gw_rm h mc ms) mc ms n := by
    refine callB_of n hts (sl_goodIn w5) rfl rfl rfl (hts _ w4) (hts _ w1) hd ⟨hh, ?_⟩
    show 8 + (maxL + 11) + 64 * h ≤ R.locals
    omega
  exact va_callv (va_runI (As := As) (rest := rest) ⟨hx, hb, hml, hown, hts⟩ hM ⟨hcw, hi, hts _ w2⟩ ⟨gw_blind, fun U hU hWm => ⟨rfl, by rw [hU]; exact hG, KK.go (U := U) (locs := locs) hK (by rw [hU]; exact hS) hWm⟩⟩ rfl hn hsz rfl (lv_room hcat) hdg ⟨hc, hs⟩) hS (fun q _ h => h) (fun q h => h) (fun u t H1 locs1 ht hvm _ hB hz1 hk1 hS1 => kk H1 locs1 (by rw [← ht]; exact hB) hS1)
theorem gw_callN (F : gx g p s m args c own cc nL) {y : MethodName} {bytes : ByteArray} {host : String} {maxL h n index o N' mc ms : Nat} {As : List Value} {e' : Nat → va_E} (hM : gw_Met g y bytes maxL h (.ref (sl_b g + o) :: As) e N e' N' mc ms) (w1 : (own, index, y, host) ∈ sl_nest) (w2 : Cond.instanceMethod y ∈ sl_T0) (w4 : Cond.initialized y.cls ∈ sl_T0) (w5 : Cond.code y bytes maxL none ∈ sl_T0) (hd : y.cls ≠ "java/lang/invoke/MethodHandle" ∧ y.cls ≠ "java/lang/invoke/VarHandle" ∧ (parseMethodDescriptor y.desc).map (fun d => d.parameters.length) = some n) (hi : y.name = "<init>") (hn : As.length = n) (hm : maxL ≤ 40) (hh : h + 1 ≤ R.frames) (hl : 64 * (h + 1) ≤ R.locals) (hdg : decode cc pc = .ok (.invokespecial index, 3)) (hsz : ls.size = nL) (hcat : (rest.map fun v => v.category).sum ≤ 8) (hc : cells + mc ≤ R.cells) (hs : slots + ms ≤ R.slots) (hmc : mc ≤ R.cells) (hms : ms ≤ R.slots) (hG : sl_Gw g e N H) (hS : va_S (sl_A g) s.heap H locs)
    (kk : ∀ (H1 : Heap) (locs1 : List Loc), sl_Gw g e' N' H1 → va_S (sl_A g) s.heap H1 locs1 → W p g.1 e0 R s m args below meth c H1 locs1 (cells + mc) (slots + ms) Q (F0 m (pc + 3) ls rest)) : W p g.1 e0 R s m args below meth c H locs cells slots Q (F0 m pc ls (As.reverse ++ .ref (sl_b g + o) :: rest)) := by
  obtain ⟨hx, hb, hml, hown, hts, hK, hbs⟩ := id F
  have hcw : va_CN R s args own index y host bytes maxL none (Cond.code y bytes maxL none :: sl_T0) (gw_rm h mc ms) mc ms n := by
    refine va_cnB n hts (sl_goodIn w5) rfl rfl rfl (hK.1.2.2.2.2.2 _ w1) (hts _ w4) hd ⟨hh, ?_⟩
    show 8 + (maxL + 11) + 64 * h ≤ R.locals
    omega
  exact va_callv (va_runIN (As := As) (rest := rest) ⟨hx, hb, hml, hown, hts⟩ hM ⟨hcw, hi, hts _ w2⟩ ⟨gw_blind, fun U hU hWm => ⟨rfl, by rw [hU]; exact hG, KK.go (U := U) (locs := locs) hK (by rw [hU]; exact hS) hWm⟩⟩ rfl hn hsz rfl (lv_room hcat) hdg ⟨hc, hs⟩) hS (fun q _ h => h) (fun q h => h) (fun u t H1 locs1 ht hvm _ hB hz1 hk1 hS1 => kk H1 locs1 (by rw [← ht]; exact hB) hS1)
end GW2
