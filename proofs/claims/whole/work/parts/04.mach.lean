/-! THE WP OF A METHOD'S CODE over the small machine: what must hold at an instruction so that the method comes to Q -/
def sl_pop : Nat → List sl_V → List sl_V → Option (List sl_V × List sl_V)
  | 0, acc, st => some (acc, st)
  | n + 1, acc, v :: st => sl_pop n (v :: acc) st
  | _ + 1, _, [] => none
def sl_ctg : sl_V → Nat
  | .inr (.inl _) => 2
  | _ => 1
def sl_cat : List sl_V → Nat
  | [] => 0
  | v :: l => sl_ctg v + sl_cat l
def sl_recv (kind ci : Nat) (as : List sl_V) : Bool := match kind with
  | 0 => (match as with
    | .inr (.inr (some q)) :: _ => q.1 == ci
    | _ => false)
  | _ => true
def sl_ifc (c : ClassFile.Cond) (x y : Int32) (A B : Prop) : Prop := match c with
  | .eq => (x = y → A) ∧ (¬ x = y → B)
  | .ne => (x = y → B) ∧ (¬ x = y → A)
  | .lt => (x < y → A) ∧ (¬ x < y → B)
  | .ge => (x < y → B) ∧ (¬ x < y → A)
  | .gt => (x ≤ y → B) ∧ (¬ x ≤ y → A)
  | .le => (x ≤ y → A) ∧ (¬ x ≤ y → B)
def sl_sw (v : Int32) (D : Prop) (J : Nat → Prop) : List (Int32 × Nat) → Prop
  | [] => D
  | q :: r => (v = q.1 → J q.2) ∧ (¬ v = q.1 → sl_sw v D J r)
def sl_look (pc : Nat) : List (Nat × sl_It) → Option sl_It
  | [] => none
  | q :: r => if q.1 = pc then some q.2 else sl_look pc r
def sl_find (t : Nat) : List sl_Ent → List sl_Ent
  | [] => []
  | e :: r => if e.1 = t then e :: r else sl_find t r
def sl_ldr (cst lv : sl_L) (i : Nat) (K : sl_V → Prop) : Prop := match sl_get cst lv i with
  | some (.inr (.inr r)) => K (.inr (.inr r))
  | _ => False
def sl_ldi (cst lv : sl_L) (i : Nat) (K : sl_V → Prop) : Prop := match sl_get cst lv i with
  | some (.inl r) => K (.inl r)
  | _ => False
def sl_ldj (cst lv : sl_L) (i : Nat) (K : sl_V → Prop) : Prop := match sl_get cst lv i with
  | some (.inr (.inl r)) => K (.inr (.inl r))
  | _ => False
def sl_sti (cst lv : sl_L) (i : Nat) (nm : List Nat) (st : List sl_V) (K : sl_L → List sl_V → Prop) : Prop := match st with
  | .inl v :: st' => if sl_wr cst i = true then (match nm with
    | [] => K (sl_sto lv i (some (.inl v))) st'
    | _ => ∀ v', v' = v → K (sl_sto lv i (some (.inl v'))) st') else False
  | _ => False
def sl_str (cst lv : sl_L) (i : Nat) (st : List sl_V) (K : sl_L → List sl_V → Prop) : Prop := match st with
  | .inr (.inr v) :: st' => if sl_wr cst i = true then K (sl_sto lv i (some (.inr (.inr v)))) st' else False
  | _ => False
def sl_stj (cst lv : sl_L) (i : Nat) (st : List sl_V) (K : sl_L → List sl_V → Prop) : Prop := match st with
  | .inr (.inl v) :: st' => if sl_wr cst i = true then (if (sl_nth cst (i + 1)).isNone = true then K (sl_set (sl_sto lv i (some (.inr (.inl v)))) (i + 1) none) st' else False) else False
  | _ => False
def sl_bin (f : Int32 → Int32 → Int32) (st : List sl_V) (K : List sl_V → Prop) : Prop := match st with
  | .inl y :: .inl x :: st' => K (.inl (f x y) :: st')
  | _ => False
def sl_bij (f : Int64 → Int64 → Int64) (st : List sl_V) (K : List sl_V → Prop) : Prop := match st with
  | .inr (.inl y) :: .inr (.inl x) :: st' => K (.inr (.inl (f x y)) :: st')
  | _ => False
def sl_call (ct : List sl_Ct) (j : Nat) (st : List sl_V) (μ : sl_M) (K : List sl_V → sl_M → Prop) : Prop := match ct[j]? with
  | some q => (match sl_pop q.1 [] st with
    | some w => if sl_cat w.2 ≤ 8 then (if sl_recv q.2.1 q.2.2.1 w.1 = true then q.2.2.2 w.1 μ (fun r μ' => K (r.toList ++ w.2) μ') else False) else False
    | none => False)
  | none => False
def sl_getf (d : List Nat) (st : List sl_V) (μ : sl_M) (K : List sl_V → Prop) : Prop := match d, st with
  | [c, k, ty, rc, off], .inr (.inr (some q)) :: st' => if q.1 = c then (match ty with
    | 0 => K (.inl (μ q.2 k) :: st')
    | 1 => K (.inl (sl_bz (μ q.2 k)) :: st')
    | _ => K (.inr (.inr (some (rc, q.2 + off))) :: st')) else False
  | _, _ => False
def sl_putf (d : List Nat) (st : List sl_V) (μ : sl_M) (K : List sl_V → sl_M → Prop) : Prop := match d, st with
  | [c, k, ty], .inl v :: .inr (.inr (some q)) :: st' => if q.1 = c then (match ty with
    | 0 => ∀ μ', μ' = sl_up μ q.2 k v → K st' μ'
    | _ => sl_bz v = v ∧ ∀ μ', μ' = sl_up μ q.2 k v → K st' μ') else False
  | _, _ => False
def sl_ald (st : List sl_V) (μ : sl_M) (K : List sl_V → Prop) : Prop := match st with
  | .inl i :: .inr (.inr (some q)) :: st' => if q.1 = 20 then vp_in i (sl_len q.2) ∧ K (.inl (μ q.2 i.toNatClampNeg) :: st') else False
  | _ => False
def sl_ast (st : List sl_V) (μ : sl_M) (K : List sl_V → sl_M → Prop) : Prop := match st with
  | .inl v :: .inl i :: .inr (.inr (some q)) :: st' => if q.1 = 20 then vp_in i (sl_len q.2) ∧ ∀ μ', μ' = sl_up μ q.2 i.toNatClampNeg v → K st' μ' else False
  | _ => False
def sl_zld (st : List sl_V) (μ : sl_M) (K : List sl_V → Prop) : Prop := match st with
  | .inl i :: .inr (.inr (some q)) :: st' => if q.1 = 21 then vp_in i (sl_len q.2) ∧ K (.inl (sl_bz (μ q.2 i.toNatClampNeg)) :: st') else False
  | _ => False
def sl_zst (st : List sl_V) (μ : sl_M) (K : List sl_V → sl_M → Prop) : Prop := match st with
  | .inl v :: .inl i :: .inr (.inr (some q)) :: st' => if q.1 = 21 then vp_in i (sl_len q.2) ∧ sl_bz v = v ∧ ∀ μ', μ' = sl_up μ q.2 i.toNatClampNeg v → K st' μ' else False
  | _ => False
def sl_rld (st : List sl_V) (μ : sl_M) (K : List sl_V → Prop) : Prop := match st with
  | .inl i :: .inr (.inr (some q)) :: st' => (match q.1 with
    | 22 => vp_in i (sl_len q.2) ∧ K (.inr (.inr (some (9, q.2 + 2 + i.toNatClampNeg))) :: st')
    | 23 => vp_in i (sl_len q.2) ∧ sl_kd (μ q.2 i.toNatClampNeg).toNatClampNeg = 9 ∧ K (.inr (.inr (some (9, (μ q.2 i.toNatClampNeg).toNatClampNeg))) :: st')
    | 24 => vp_in i (sl_len q.2) ∧ K (.inr (.inr (some (4, q.2 + 48 + 2 * i.toNatClampNeg))) :: st')
    | 25 => vp_in i (sl_len q.2) ∧ K (.inr (.inr (some (8, q.2 + 40 + 2 * i.toNatClampNeg))) :: st')
    | _ => False)
  | _ => False
def sl_rst (st : List sl_V) (μ : sl_M) (K : List sl_V → sl_M → Prop) : Prop := match st with
  | .inr (.inr (some w)) :: .inl i :: .inr (.inr (some q)) :: st' => if q.1 = 23 then (if w.1 = 9 then vp_in i (sl_len q.2) ∧ ∀ μ', μ' = sl_up μ q.2 i.toNatClampNeg (nI w.2) → K st' μ' else False) else False
  | _ => False
def sl_nul (st : List sl_V) (A B : List sl_V → Prop) : Prop := match st with
  | .inr (.inr none) :: st' => A st'
  | .inr (.inr (some _)) :: st' => B st'
  | _ => False
def sl_step (Q : sl_Qt) (ct : List sl_Ct) (cst : sl_L) (ins : Instr) (x : Int32) (d : List Nat) (sw : List (Int32 × Nat)) (K : sl_It) (J : Nat → sl_It) : sl_It := fun lv st μ => match ins with
  | .iconst _ => K lv (.inl x :: st) μ
  | .bipush _ => K lv (.inl x :: st) μ
  | .sipush _ => K lv (.inl x :: st) μ
  | .ldc _ => (match d with
    | [] => K lv (.inl x :: st) μ
    | o :: _ => K lv (.inr (.inr (some (90, o))) :: st) μ)
  | .ldc_w _ => K lv (.inl x :: st) μ
  | .lconst _ => K lv (.inr (.inl x.toInt64) :: st) μ
  | .ldc2_w _ => K lv (.inr (.inl x.toInt64) :: st) μ
  | .aconst_null => K lv (.inr (.inr none) :: st) μ
  | .iload i => sl_ldi cst lv i (fun v => K lv (v :: st) μ)
  | .iload_n _ => sl_ldi cst lv (d.headD 0) (fun v => K lv (v :: st) μ)
  | .lload i => sl_ldj cst lv i (fun v => K lv (v :: st) μ)
  | .lload_n _ => sl_ldj cst lv (d.headD 0) (fun v => K lv (v :: st) μ)
  | .aload i => sl_ldr cst lv i (fun v => K lv (v :: st) μ)
  | .aload_n _ => sl_ldr cst lv (d.headD 0) (fun v => K lv (v :: st) μ)
  | .istore i => sl_sti cst lv i d.tail st (fun lv st => K lv st μ)
  | .istore_n _ => sl_sti cst lv (d.headD 0) d.tail st (fun lv st => K lv st μ)
  | .lstore i => sl_stj cst lv i st (fun lv st => K lv st μ)
  | .lstore_n _ => sl_stj cst lv (d.headD 0) st (fun lv st => K lv st μ)
  | .astore i => sl_str cst lv i st (fun lv st => K lv st μ)
  | .astore_n _ => sl_str cst lv (d.headD 0) st (fun lv st => K lv st μ)
  | .iinc i _ => sl_ldi cst lv i (fun v => sl_bin (· + ·) [.inl x, v] (fun w => sl_sti cst lv i [] w (fun lv _ => K lv st μ)))
  | .iadd => sl_bin (· + ·) st (fun st => K lv st μ)
  | .isub => sl_bin (· - ·) st (fun st => K lv st μ)
  | .imul => sl_bin (· * ·) st (fun st => K lv st μ)
  | .iand => sl_bin (· &&& ·) st (fun st => K lv st μ)
  | .ior => sl_bin (· ||| ·) st (fun st => K lv st μ)
  | .ixor => sl_bin (· ^^^ ·) st (fun st => K lv st μ)
  | .ishl => sl_bin (fun x y => x <<< (y &&& 31)) st (fun st => K lv st μ)
  | .ishr => sl_bin (fun x y => x >>> (y &&& 31)) st (fun st => K lv st μ)
  | .iushr => sl_bin (fun x y => (x.toUInt32 >>> (y.toUInt32 &&& Int32.toUInt32 31)).toInt32) st (fun st => K lv st μ)
  | .idiv => (match st with
    | .inl y :: .inl x :: st' => ¬ y = 0 ∧ K lv (.inl (x / y) :: st') μ
    | _ => False)
  | .irem => (match st with
    | .inl y :: .inl x :: st' => ¬ y = 0 ∧ K lv (.inl (x - x / y * y) :: st') μ
    | _ => False)
  | .ineg => (match st with
    | .inl x :: st' => K lv (.inl (-x) :: st') μ
    | _ => False)
  | .ladd => sl_bij (· + ·) st (fun st => K lv st μ)
  | .lsub => sl_bij (· - ·) st (fun st => K lv st μ)
  | .lmul => sl_bij (· * ·) st (fun st => K lv st μ)
  | .i2l => (match st with
    | .inl x :: st' => K lv (.inr (.inl x.toInt64) :: st') μ
    | _ => False)
  | .lcmp => (match st with
    | .inr (.inl y) :: .inr (.inl x) :: st' => K lv (.inl (lg_cmp x y) :: st') μ
    | _ => False)
  | .dup => (match st with
    | .inl v :: st' => K lv (.inl v :: .inl v :: st') μ
    | .inr (.inr v) :: st' => K lv (.inr (.inr v) :: .inr (.inr v) :: st') μ
    | _ => False)
  | .dup2 => (match st with
    | .inl v :: .inr (.inr w) :: st' => K lv (.inl v :: .inr (.inr w) :: .inl v :: .inr (.inr w) :: st') μ
    | _ => False)
  | .pop => (match st with
    | .inl _ :: st' => K lv st' μ
    | _ => False)
  | .ifCond c _ => (match st with
    | .inl v :: st' => sl_ifc c v 0 (J (d.headD 0) lv st' μ) (K lv st' μ)
    | _ => False)
  | .if_icmp c _ => (match st with
    | .inl w :: .inl v :: st' => sl_ifc c v w (J (d.headD 0) lv st' μ) (K lv st' μ)
    | _ => False)
  | .ifnull _ => sl_nul st (fun st => J (d.headD 0) lv st μ) (fun st => K lv st μ)
  | .ifnonnull _ => sl_nul st (fun st => K lv st μ) (fun st => J (d.headD 0) lv st μ)
  | .goto _ => J (d.headD 0) lv st μ
  | .tableswitch _ _ _ _ => (match st with
    | .inl v :: st' => sl_sw v (J (d.headD 0) lv st' μ) (fun t => J t lv st' μ) sw
    | _ => False)
  | .lookupswitch _ _ => (match st with
    | .inl v :: st' => sl_sw v (J (d.headD 0) lv st' μ) (fun t => J t lv st' μ) sw
    | _ => False)
  | .ireturn => (match d, st with
    | [], [.inl v] => Q (some (.inl v)) μ
    | _ :: _, [.inl v] => sl_bz v = v ∧ Q (some (.inl v)) μ
    | _, _ => False)
  | .lreturn => (match st with
    | [.inr (.inl v)] => Q (some (.inr (.inl v))) μ
    | _ => False)
  | .areturn => (match st with
    | [.inr (.inr v)] => Q (some (.inr (.inr v))) μ
    | _ => False)
  | .return_ => (match st with
    | [] => Q none μ
    | _ => False)
  | .getfield _ => sl_getf d st μ (fun st => K lv st μ)
  | .putfield _ => sl_putf d st μ (fun st μ => K lv st μ)
  | .iaload => sl_ald st μ (fun st => K lv st μ)
  | .iastore => sl_ast st μ (fun st μ => K lv st μ)
  | .baload => sl_zld st μ (fun st => K lv st μ)
  | .bastore => sl_zst st μ (fun st μ => K lv st μ)
  | .aaload => sl_rld st μ (fun st => K lv st μ)
  | .aastore => sl_rst st μ (fun st μ => K lv st μ)
  | .invokevirtual _ => sl_call ct (d.headD 0) st μ (fun st μ => K lv st μ)
  | .invokestatic _ => sl_call ct (d.headD 0) st μ (fun st μ => K lv st μ)
  | _ => False
def sl_wp (cd : List sl_Ent) (ct : List sl_Ct) (cst : sl_L) (Q : sl_Qt) (cuts : List (Nat × sl_It)) : Nat → Bool → List sl_Ent → sl_It
  | 0, _, _ => fun _ _ _ => False
  | _ + 1, _, [] => fun _ _ _ => False
  | n + 1, chk, e :: es => fun lv st μ => match (if (chk && e.2.2.2.2.2.2) = true then sl_look e.1 cuts else none) with
    | some I => I lv st μ
    | none => sl_step Q ct cst e.2.1 e.2.2.2.1 e.2.2.2.2.1 e.2.2.2.2.2.1 (sl_wp cd ct cst Q cuts n true es) (fun t => sl_wp cd ct cst Q cuts n true (sl_find t cd)) lv st μ
