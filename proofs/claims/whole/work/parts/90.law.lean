/-! THE CLAIM OUT OF ONE WALK OF THE LAW'S BODY. Your part is whole_start (and what it stands on); all else here is the same for every law, but numbers. -/
def R_law : String := "SpanLayersLaw"
def lw_P (b : Addr) (xs : List Int32) (args : Array Value) (s : State) : Prop := args = #[.ref b] ∧ s.IntsAt b xs ∧ xs.length ≤ 2560 ∧ (Jvm.Cond.and given_1 narrow_1).before args s = true
def lw_Q (_ : Array Value) (s : State) (o : Outcome) (t : State) : Prop := o = .returned (some (.int 1)) ∧ Framed s o t [] 600000 7302249
def lw_Z (below : List Frame) (a : Array Value) (s : State) : State → Prop := fun t => ∃ o, t.status = .running ∧ Ended t below o ∧ lw_Q a s o t
/-- the law's own end, with 1 on the stack, nothing written that was there before, its room as the claim has it -/
theorem lw_ret {p : Program} {l : Launch} {e : Env} {s : State} {m : MethodId} {below : List Frame} {meth : Method} {c : Code} {b : Nat} (hx : p.tables.exec = Jvm.exec) (hb : c.code = code) (hr : meth.sig.returnType = ret) (hlocks : meth.locks = false) {pc : Nat} {H : Heap} {ls : Array Slot} (hdg : decode code pc = .ok (.ireturn, 1)) : W p l e room_1 s m #[Value.ref b] below meth c H [] 600000 7302249 (lw_Z below #[Value.ref b] s) (F0 m pc ls [.int 1]) := by
  intro T hT X
  obtain ⟨fs, hret, hrun, hended, hW, hframe⟩ := X.leave (v := some (.int 1)) (hlocks := hlocks) (fun h => by rw [hr] at h; cases h)
  have hmeth' : T.vm.method? m = some meth := X.method'
  refine ⟨T.setFrames fs, ?_, .returned (some (.int 1)), hrun, hended, rfl, ⟨_, rfl⟩, hW, hframe⟩
  jvm_step X.here [X.here.top, hx, hb, hdg, hmeth', hr, ret, narrow_b1]
  (try refine ⟨rfl, ?_⟩); (try refine ⟨rfl, ?_⟩)
  first | (intro acts; rw [hret _ acts rfl rfl rfl]) | rw [hret _ _ rfl rfl rfl]
  exact Steps.refl _
/-- what holds at the law's entry: the machine, the code, the tables' words (any of lw_tbl by 'hts w (by decide +kernel)'), the script of L ints xs at the cell b, what the Statement gives of the start (any of its parts by flat_of_before) -/
def lw_At (p : Program) (s : State) (m : MethodId) (meth : Method) (c : Code) (b L : Nat) (xs : Nat → Int32) : Prop :=
  p.tables.exec = Jvm.exec ∧ c.code = code ∧ meth.sig.returnType = ret ∧ c.maxLocals = 4 ∧ s.vm.findClass R_law = some m.cls ∧ (∀ w ∈ lw_tbl, w.before #[Value.ref b] s = true) ∧ va_X b L xs s s.heap ∧ b < s.heap.size ∧ meth.locks = false ∧ (Jvm.Cond.and given_1 narrow_1).before #[Value.ref b] s = true
/-- what stands through the law's loop -/
def lwD (g : sl_G) (p : Program) (e : Env) (s : State) (m : MethodId) (below : List Frame) (meth : Method) (c : Code) (b L : Nat) (xs : Nat → Int32) : Prop := sl_Fx g (p, e, room_1, s, m, #[Value.ref b], below, meth, c, 600000, 7302249, lw_Z below #[Value.ref b] s) R_law code 4 60 ∧ va_X b L xs s s.heap ∧ b < s.heap.size ∧ ¬ sl_A g b ∧ L ≤ 2560
section LAW
variable {p : Program} {g : sl_G} {e : Env} {s : State} {m : MethodId} {below : List Frame} {meth : Method} {c : Code} {b L i : Nat} {xs : Nat → Int32} {μ : sl_M} {H : Heap} {locs : List Loc} {ls : Array Slot}
/-- a place of the script is read -/
theorem lw_rd (D : lwD g p e s m below meth c b L xs) (hl : lv_has ls 4 [(3, .int (nI i)), (2, .ref (sl_b g + 104)), (1, .ref (sl_b g + 0)), (0, .ref b)]) (hS : va_S (sl_A g) s.heap H locs) (hi : i + 5 ≤ L) {pc j : Nat} {n : Int} {v : Int32} {rest : List Value} (hj : j < 5) (hv : Int32.ofInt n = v) (hv2 : v = nI j) (d0 : decode code pc = .ok (.aload_n 0, 1)) (d1 : decode code (pc + 1) = .ok (.iload_n 3, 1)) (d2 : decode code (pc + 2) = .ok (.iconst n, 1)) (d3 : decode code (pc + 3) = .ok (.iadd, 1)) (d4 : decode code (pc + 4) = .ok (.iaload, 1))
    (kk : W p g.1 e room_1 s m #[Value.ref b] below meth c H locs 600000 7302249 (lw_Z below #[Value.ref b] s) (F0 m (pc + 5) ls (.int (xs (i + j)) :: rest))) : W p g.1 e room_1 s m #[Value.ref b] below meth c H locs 600000 7302249 (lw_Z below #[Value.ref b] s) (F0 m pc ls rest) := by
  obtain ⟨F, hX, hbl, hbA, hL⟩ := id D
  obtain ⟨hx, hb, -⟩ := id F
  refine lv_aload_n hx hb d0 rfl (lv_at hl 3 rfl) ?_
  refine lv_iload_n hx hb d1 rfl (lv_at hl 0 rfl) ?_
  refine lv_iconst (v := v) hx hb d2 hv ?_
  refine lv_iadd hx hb d3 ?_
  rw [hv2, nI_add]
  refine va_sld hx hb hX hbl hbA hS (vp_in_nI (by omega) (by omega)) d4 ?_
  rw [nI_clamp (by omega)]
  exact kk
theorem lc_1 (D : lwD g p e s m below meth c b L xs) {pc idx n : Nat} {pt : sl_PT} {A B : sl_M → (Int32 → sl_M → Prop) → Prop} (C1 : sl_CallS g R_law idx 0 11 60 (n + 1) pt) (hd : decode code pc = .ok (.invokevirtual idx, 3)) (hop : Opp A B) (as : List Int32) (hn : as.length = n) (hp : ∀ (μ : sl_M) (Q : sl_Qt), A μ (fun r μ' => Q (some (.inl r)) μ') → pt (.inr (.inr (some (11, 0))) :: as.map .inl) μ Q) (hV : Inv μ) (hW : sl_Wd g μ H) (hS : va_S (sl_A g) s.heap H locs) (hsz : ls.size = 4)
    (kk : ∀ (r : Int32) (μ1 : sl_M) (H1 : Heap) (locs1 : List Loc), B μ1 (fun r2 μ2 => r = r2 ∧ Inv μ2) → sl_Wd g μ1 H1 → va_S (sl_A g) s.heap H1 locs1 → W p g.1 e room_1 s m #[Value.ref b] below meth c H1 locs1 600000 7302249 (lw_Z below #[Value.ref b] s) (F0 m (pc + 3) ls [.int r])) : W p g.1 e room_1 s m #[Value.ref b] below meth c H locs 600000 7302249 (lw_Z below #[Value.ref b] s) (F0 m pc ls (((.inr (.inr (some (11, 0))) :: as.map .inl).map (sl_tv g)).reverse ++ [])) := by
  refine C1 _ _ _ _ _ _ _ _ _ _ _ _ _ _ D.1 pc hd μ H locs ls _ [] (fun r μ1 => match r with
    | some (.inl v) => B μ1 (fun r2 μ2 => v = r2 ∧ Inv μ2)
    | _ => False) (by rw [List.length_cons, List.length_map, hn]) (List.forall_mem_cons.mpr ⟨fun _ => rfl, fun v hv => by
      obtain ⟨x, -, rfl⟩ := List.mem_map.mp hv
      trivial⟩) rfl hW hS hsz (Nat.zero_le _) (hp _ _ (hop μ hV)) (fun r μ1 H1 locs1 hq _ hW1 hS1 => ?_)
  match r, hq with
  | some (.inl v), hq => exact kk v μ1 H1 locs1 hq hW1 hS1
theorem lc_2 (D : lwD g p e s m below meth c b L xs) {pc idx n : Nat} {pt : sl_PT} {B : sl_M → (Int32 → sl_M → Prop) → Prop} {r : Int32} (C1 : sl_CallS g R_law idx 0 12 60 (n + 1) pt) (hd : decode code pc = .ok (.invokevirtual idx, 3)) (as : List Int32) (hn : as.length = n) (hp : ∀ (μ : sl_M) (Q : sl_Qt), B μ (fun r μ' => Q (some (.inl r)) μ') → pt (.inr (.inr (some (12, 104))) :: as.map .inl) μ Q) (hV : B μ (fun r2 μ2 => r = r2 ∧ Inv μ2)) (hW : sl_Wd g μ H) (hS : va_S (sl_A g) s.heap H locs) (hsz : ls.size = 4)
    (kk : ∀ (μ1 : sl_M) (H1 : Heap) (locs1 : List Loc), Inv μ1 → sl_Wd g μ1 H1 → va_S (sl_A g) s.heap H1 locs1 → W p g.1 e room_1 s m #[Value.ref b] below meth c H1 locs1 600000 7302249 (lw_Z below #[Value.ref b] s) (F0 m (pc + 3) ls [.int r, .int r])) : W p g.1 e room_1 s m #[Value.ref b] below meth c H locs 600000 7302249 (lw_Z below #[Value.ref b] s) (F0 m pc ls (((.inr (.inr (some (12, 104))) :: as.map .inl).map (sl_tv g)).reverse ++ [.int r])) := by
  refine C1 _ _ _ _ _ _ _ _ _ _ _ _ _ _ D.1 pc hd μ H locs ls _ [.int r] (fun r2 μ1 => match r2 with
    | some (.inl v) => r = v ∧ Inv μ1
    | _ => False) (by rw [List.length_cons, List.length_map, hn]) (List.forall_mem_cons.mpr ⟨fun _ => rfl, fun v hv => by
      obtain ⟨x, -, rfl⟩ := List.mem_map.mp hv
      trivial⟩) rfl hW hS hsz (Nat.le_of_ble_eq_true rfl) (hp _ _ hV) (fun r2 μ1 H1 locs1 hq _ hW1 hS1 => ?_)
  match r2, hq with
  | some (.inl v), hq =>
    obtain ⟨rfl, hq⟩ := hq
    exact kk μ1 H1 locs1 hq hW1 hS1
end LAW
