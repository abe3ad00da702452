/-! A SMALL MACHINE over numbers, told once for all methods: instructions by 'decode', made plain by the tables; a heap by its operations. What it answers, the machine answers (part 04). -/
def ax_lk {α : Type} : List (Nat × α × Nat) → Nat → Option (α × Nat)
  | [], _ => none
  | q :: r, k => if q.1 = k then some q.2 else ax_lk r k
theorem ax_lk_mem {α : Type} : ∀ {l : List (Nat × α × Nat)} {k : Nat} {v : α × Nat}, ax_lk l k = some v → (k, v) ∈ l
  | [], _, _, h => by cases h
  | q :: r, k, v, h => by
    rw [ax_lk] at h
    split at h
    · rename_i e
      cases h
      subst e
      exact List.mem_cons_self
    · exact List.mem_cons_of_mem _ (ax_lk_mem h)
def ax_lq {α : Type} (l : List (Nat × α × Nat)) (oc i : Nat) : Option (α × Nat) := if i < 2048 then ax_lk l (oc * 2048 + i) else none
/-- an instruction made plain: whose it is (oc), where it stands (pc); jumps by their targets, fields by class and slot, methods by their places in ax_M -/
def ax_nrm (oc pc : Nat) (I : Instr) : Option Instr := match I with
  | .iconst n => some (.iconst n)
  | .bipush n => some (.iconst (Int8.ofInt n).toInt32.toInt)
  | .sipush n => some (.iconst (Int16.ofInt n).toInt32.toInt)
  | .ldc i => match ax_lq ax_Tc oc i with
    | some q => some (.iconst q.1)
    | none => (ax_lq ax_Ts oc i).map fun q => .ldc q.1
  | .ldc_w i => (ax_lq ax_Tc oc i).map fun q => .iconst q.1
  | .ldc2_w i => (ax_lq ax_Tl oc i).map fun q => .ldc2_w q.1
  | .lconst n => some (.lconst n)
  | .iload k => some (.iload k)
  | .iload_n k => some (.iload k)
  | .lload k => some (.lload k)
  | .lload_n k => some (.lload k)
  | .aload k => some (.aload k)
  | .aload_n k => some (.aload k)
  | .istore k => some (.istore k)
  | .istore_n k => some (.istore k)
  | .lstore k => some (.lstore k)
  | .lstore_n k => some (.lstore k)
  | .astore k => some (.astore k)
  | .astore_n k => some (.astore k)
  | .iinc k n => some (.iinc k n)
  | .if_icmp c o => some (.if_icmp c (pc + o))
  | .ifCond c o => some (.ifCond c (pc + o))
  | .goto o => some (.goto (pc + o))
  | .tableswitch d lo hi os => some (.tableswitch (pc + d) lo hi (os.map fun o => pc + o))
  | .getfield i => match ax_lq ax_Tf oc i with
    | some q => some (.getfield q.1)
    | none => match ax_lq ax_Tg oc i with
      | some q => some (.getfield q.1)
      | none => (ax_lq ax_Tx oc i).bind fun q => if q.1 ≤ 1 then some (.getfield (4096 + q.1)) else none
  | .getstatic i => (ax_lq ax_Tx oc i).bind fun q => if q.1 = 2 ∨ q.1 = 3 then some (.getstatic q.1) else none
  | .putfield i => (ax_lq ax_Tf oc i).map fun q => .putfield q.1
  | .invokevirtual i => (ax_lq ax_Tm oc i).map fun q => .invokevirtual q.1
  | .invokestatic i => match ax_lq ax_Tm oc i with
    | some q => some (.invokestatic q.1)
    | none => match ax_lq ax_Tn oc i with
      | some q => some (.invokestatic q.1)
      | none => (ax_lq ax_Ti oc i).bind fun q => if q.1 ≤ 3 then some (.invokedynamic q.1) else none
  | .invokespecial i => match ax_lq ax_Tm oc i with
    | some q => some (.invokespecial q.1)
    | none => match ax_lq ax_Tn oc i with
      | some q => some (.invokespecial q.1)
      | none => (ax_lq ax_Ti oc i).bind fun q => if q.1 = 6 then some (.invokedynamic q.1) else none
  | .new i => (ax_lq ax_To oc i).map fun q => .new q.1
  | .newarray t => some (.newarray t)
  | .iadd => some .iadd
  | .isub => some .isub
  | .imul => some .imul
  | .idiv => some .idiv
  | .irem => some .irem
  | .ineg => some .ineg
  | .iand => some .iand
  | .ior => some .ior
  | .ixor => some .ixor
  | .ishl => some .ishl
  | .ishr => some .ishr
  | .iushr => some .iushr
  | .ladd => some .ladd
  | .lsub => some .lsub
  | .lmul => some .lmul
  | .land => some .land
  | .lor => some .lor
  | .lshl => some .lshl
  | .lshr => some .lshr
  | .i2l => some .i2l
  | .l2i => some .l2i
  | .i2b => some .i2b
  | .i2s => some .i2s
  | .i2c => some .i2c
  | .lcmp => some .lcmp
  | .iaload => some .iaload
  | .baload => some .baload
  | .iastore => some .iastore
  | .bastore => some .bastore
  | .arraylength => some .arraylength
  | .dup => some .dup
  | .dup2 => some .dup2
  | .pop => some .pop
  | .ireturn => some .ireturn
  | .lreturn => some .lreturn
  | .areturn => some .areturn
  | .return_ => some .return_
  | _ => none
def ax_row (m : Nat) : Option ax_R := if m = ax_law then some (x, code, maxLocals, ret, 12, true, 1, 0, 0, 0, 0) else ax_M[m]?
/-- how long an instruction is (0: told elsewhere) -/
def ax_ln (I : Instr) : Nat := match I with
  | .bipush _ => 2
  | .sipush _ => 3
  | .ldc _ => 2
  | .ldc_w _ => 3
  | .ldc2_w _ => 3
  | .iload _ => 2
  | .lload _ => 2
  | .aload _ => 2
  | .istore _ => 2
  | .lstore _ => 2
  | .astore _ => 2
  | .iinc _ _ => 3
  | .if_icmp _ _ => 3
  | .ifCond _ _ => 3
  | .goto _ => 3
  | .tableswitch _ _ _ _ => 0
  | .getfield _ => 3
  | .getstatic _ => 3
  | .putfield _ => 3
  | .invokevirtual _ => 3
  | .invokestatic _ => 3
  | .invokespecial _ => 3
  | .new _ => 3
  | .newarray _ => 2
  | _ => 1
/-- a field that is final is written in its class's constructor alone -/
def ax_fin (r : ax_R) (J : Instr) : Bool := match J with
  | .putfield z => match vwCl[z / 64]? with
    | some q => !(q.2.1 (z % 64)).2.2.2 || (decide (r.1.name = "<init>") && decide (q.1 = ax_cn r.2.2.2.2.1))
    | none => false
  | _ => true
/-- the plain instruction of method m at pc, and where the next one stands -/
def ax_code (m pc : Nat) : Option (Instr × Nat) := match ax_row m with
  | none => none
  | some r => match decode r.2.1 pc with
    | .ok q => if ax_ln q.1 = 0 ∨ ax_ln q.1 = q.2 then (match ax_nrm r.2.2.2.2.1 pc q.1 with
      | some J => if ax_fin r J = true then some (J, pc + q.2) else none
      | none => none) else none
    | .error _ => none
/-- what a heap of kind H can do: field (class*64+slot) read, written; array read (0 ints, 1 bytes), written; length; a new object; a new array; a stretch copied; whose an object is -/
abbrev ax_O (H : Type) : Type := (H → Nat → Nat → Option Value) × (H → Nat → Nat → Value → Option H) × (H → Nat → Nat → Int32 → Option Int32) × (H → Nat → Nat → Int32 → Int32 → Option H) × (H → Nat → Option Int32) × (H → Nat → Option (Nat × H)) × (H → ArrayType → Int32 → Option (Nat × H)) × (H → Nat → Int32 → Nat → Int32 → Int32 → Option H) × (H → Nat → Option Nat)
def ax_ri {α : Type} (st : List Value) (k : Int32 → List Value → Option α) : Option α := match st with
  | .int x :: r => k x r
  | _ => none
def ax_rl {α : Type} (st : List Value) (k : Int64 → List Value → Option α) : Option α := match st with
  | .long x :: r => k x r
  | _ => none
def ax_ra {α : Type} (st : List Value) (k : Nat → List Value → Option α) : Option α := match st with
  | .ref x :: r => k x r
  | _ => none
def ax_rv {α : Type} (st : List Value) (k : Value → List Value → Option α) : Option α := match st with
  | x :: r => k x r
  | _ => none
def ax_cnd (c : ClassFile.Cond) (x y : Int32) : Bool := match c with
  | .eq => decide (x = y)
  | .ne => decide (x ≠ y)
  | .lt => decide (x < y)
  | .ge => decide (y ≤ x)
  | .gt => decide (y < x)
  | .le => decide (x ≤ y)
/-- a store drops a long's second half, and a long whose second half it takes -/
def ax_drp (L : List Value) (k : Nat) : List Value := match k with
  | 0 => L
  | j + 1 => match L[j]? with
    | some v => if v.category = 2 then L.set j .null else L
    | none => L
def ax_st1 (L : List Value) (k : Nat) (v : Value) : List Value := (ax_drp L k).set k v
def ax_st2 (L : List Value) (k : Nat) (v : Value) : List Value := ((ax_drp L k).set k v).set (k + 1) .null
def ax_swt (d lo hi : Int) (os : Array Int) (x : Int32) : Int := if x.toInt < lo ∨ hi < x.toInt then d else os.getD (x.toInt - lo).toNat d
/-- one instruction that neither calls nor returns -/
def ax_step {H : Type} (O : ax_O H) (J : Instr) (pc : Nat) (L st : List Value) (h : H) : Option (Nat × List Value × List Value × H) := match J with
  | .iconst n => some (pc, L, .int (Int32.ofInt n) :: st, h)
  | .lconst n => some (pc, L, .long (Int64.ofNat n) :: st, h)
  | .ldc2_w j => some (pc, L, .long (ax_LC.getD j 0) :: st, h)
  | .ldc j => some (pc, L, .ref (1001 + j) :: st, h)
  | .iload k => ax_ri (L[k]?.toList) fun x _ => some (pc, L, .int x :: st, h)
  | .lload k => ax_rl (L[k]?.toList) fun x _ => some (pc, L, .long x :: st, h)
  | .aload k => ax_ra (L[k]?.toList) fun x _ => if x < 2000 then some (pc, L, .ref x :: st, h) else none
  | .istore k => ax_ri st fun x r => if k < L.length then some (pc, ax_st1 L k (.int x), r, h) else none
  | .astore k => ax_ra st fun x r => if k < L.length ∧ x < 2000 then some (pc, ax_st1 L k (.ref x), r, h) else none
  | .lstore k => ax_rl st fun x r => if k + 1 < L.length then some (pc, ax_st2 L k (.long x), r, h) else none
  | .iinc k n => ax_ri (L[k]?.toList) fun x _ => some (pc, ax_st1 L k (.int (x + Int32.ofInt n)), st, h)
  | .iadd => ax_ri st fun y r => ax_ri r fun x r => some (pc, L, .int (x + y) :: r, h)
  | .isub => ax_ri st fun y r => ax_ri r fun x r => some (pc, L, .int (x - y) :: r, h)
  | .imul => ax_ri st fun y r => ax_ri r fun x r => some (pc, L, .int (x * y) :: r, h)
  | .idiv => ax_ri st fun y r => ax_ri r fun x r => if y = 0 then none else some (pc, L, .int (x / y) :: r, h)
  | .irem => ax_ri st fun y r => ax_ri r fun x r => if y = 0 then none else some (pc, L, .int (x - x / y * y) :: r, h)
  | .ineg => ax_ri st fun x r => some (pc, L, .int (-x) :: r, h)
  | .iand => ax_ri st fun y r => ax_ri r fun x r => some (pc, L, .int (x &&& y) :: r, h)
  | .ior => ax_ri st fun y r => ax_ri r fun x r => some (pc, L, .int (x ||| y) :: r, h)
  | .ixor => ax_ri st fun y r => ax_ri r fun x r => some (pc, L, .int (x ^^^ y) :: r, h)
  | .ishl => ax_ri st fun y r => ax_ri r fun x r => some (pc, L, .int (x <<< (y &&& 31)) :: r, h)
  | .ishr => ax_ri st fun y r => ax_ri r fun x r => some (pc, L, .int (x >>> (y &&& 31)) :: r, h)
  | .iushr => ax_ri st fun y r => ax_ri r fun x r => some (pc, L, .int (x.toUInt32 >>> (y.toUInt32 &&& Int32.toUInt32 31)).toInt32 :: r, h)
  | .ladd => ax_rl st fun y r => ax_rl r fun x r => some (pc, L, .long (x + y) :: r, h)
  | .lsub => ax_rl st fun y r => ax_rl r fun x r => some (pc, L, .long (x - y) :: r, h)
  | .lmul => ax_rl st fun y r => ax_rl r fun x r => some (pc, L, .long (x * y) :: r, h)
  | .land => ax_rl st fun y r => ax_rl r fun x r => some (pc, L, .long (x &&& y) :: r, h)
  | .lor => ax_rl st fun y r => ax_rl r fun x r => some (pc, L, .long (x ||| y) :: r, h)
  | .lshl => ax_ri st fun y r => ax_rl r fun x r => some (pc, L, .long (x <<< (y.toInt64 &&& 63)) :: r, h)
  | .lshr => ax_ri st fun y r => ax_rl r fun x r => some (pc, L, .long (x >>> (y.toInt64 &&& 63)) :: r, h)
  | .lcmp => ax_rl st fun y r => ax_rl r fun x r => some (pc, L, .int (lg_cmp x y) :: r, h)
  | .i2l => ax_ri st fun x r => some (pc, L, .long x.toInt64 :: r, h)
  | .l2i => ax_rl st fun x r => some (pc, L, .int x.toInt32 :: r, h)
  | .i2b => ax_ri st fun x r => some (pc, L, .int x.toInt8.toInt32 :: r, h)
  | .i2s => ax_ri st fun x r => some (pc, L, .int x.toInt16.toInt32 :: r, h)
  | .i2c => ax_ri st fun x r => some (pc, L, .int (x.toUInt32 % 65536).toInt32 :: r, h)
  | .getstatic j => match j with
    | 2 => some (pc, L, .int 1 :: st, h)
    | 3 => some (pc, L, .ref 2000 :: st, h)
    | _ => none
  | .dup => ax_rv st fun v r => if v.category = 1 then some (pc, L, v :: v :: r, h) else none
  | .dup2 => ax_rv st fun v r => ax_rv r fun w r => if v.category = 1 ∧ w.category = 1 then some (pc, L, v :: w :: v :: w :: r, h) else none
  | .pop => ax_rv st fun v r => if v.category = 1 then some (pc, L, r, h) else none
  | .goto t => if 0 ≤ t then some (t.toNat, L, st, h) else none
  | .if_icmp c t => ax_ri st fun y r => ax_ri r fun x r => if 0 ≤ t then some (if ax_cnd c x y = true then t.toNat else pc, L, r, h) else none
  | .ifCond c t => ax_ri st fun x r => if 0 ≤ t then some (if ax_cnd c x 0 = true then t.toNat else pc, L, r, h) else none
  | .tableswitch d lo hi os => ax_ri st fun x r => if 0 ≤ ax_swt d lo hi os x ∧ (hi - lo).toNat < os.size then some ((ax_swt d lo hi os x).toNat, L, r, h) else none
  | .getfield z => ax_ra st fun a r => (O.1 h a z).map fun v => (pc, L, v :: r, h)
  | .putfield z => ax_rv st fun v r => ax_ra r fun a r => (O.2.1 h a z v).map fun h' => (pc, L, r, h')
  | .iaload => ax_ri st fun i r => ax_ra r fun a r => (O.2.2.1 h a 0 i).map fun x => (pc, L, .int x :: r, h)
  | .baload => ax_ri st fun i r => ax_ra r fun a r => (O.2.2.1 h a 1 i).map fun x => (pc, L, .int x :: r, h)
  | .iastore => ax_ri st fun x r => ax_ri r fun i r => ax_ra r fun a r => (O.2.2.2.1 h a 0 i x).map fun h' => (pc, L, r, h')
  | .bastore => ax_ri st fun x r => ax_ri r fun i r => ax_ra r fun a r => (O.2.2.2.1 h a 1 i x).map fun h' => (pc, L, r, h')
  | .arraylength => ax_ra st fun a r => (O.2.2.2.2.1 h a).map fun x => (pc, L, .int x :: r, h)
  | .new ci => (O.2.2.2.2.2.1 h ci).map fun q => (pc, L, .ref q.1 :: st, q.2)
  | .newarray t => ax_ri st fun n r => (O.2.2.2.2.2.2.1 h t n).map fun q => (pc, L, .ref q.1 :: r, q.2)
  | .invokedynamic j => match j with
    | 0 => ax_ri st fun y r => ax_ri r fun x r => if (r.map fun v => v.category).sum ≤ 8 then some (pc, L, .int (if x < y then y else x) :: r, h) else none
    | 1 => ax_ri st fun y r => ax_ri r fun x r => if (r.map fun v => v.category).sum ≤ 8 then some (pc, L, .int (if y < x then y else x) :: r, h) else none
    | 2 => ax_ri st fun x r => if (r.map fun v => v.category).sum ≤ 8 then some (pc, L, .int (if 0 ≤ x then x else 0 - x) :: r, h) else none
    | 3 => ax_ri st fun n r => ax_ri r fun dp r => ax_ra r fun a r => ax_ri r fun sp r => ax_ra r fun a0 r => if (r.map fun v => v.category).sum ≤ 8 then (O.2.2.2.2.2.2.2.1 h a0 sp a dp n).map fun h' => (pc, L, r, h') else none
    | 6 => ax_ra st fun a r => if (r.map fun v => v.category).sum ≤ 8 ∧ a < 2000 then some (pc, L, r, h) else none
    | _ => none
  | _ => none
/-- how a method ends: what it answers -/
def ax_ret (rt : Option FieldType) (J : Instr) (st : List Value) : Option (Option Value) := match J with
  | .ireturn => match rt with
    | some .int => ax_ri st fun x r => if r = [] then some (some (.int x)) else none
    | some .boolean => ax_ri st fun x r => if r = [] then some (some (.int (x &&& 1))) else none
    | some .byte => ax_ri st fun x r => if r = [] then some (some (.int x.toInt8.toInt32)) else none
    | some .char => ax_ri st fun x r => if r = [] then some (some (.int x.toUInt32.toUInt16.toUInt32.toInt32)) else none
    | _ => none
  | .lreturn => match rt with
    | some .long => ax_rl st fun x r => if r = [] then some (some (.long x)) else none
    | _ => none
  | .areturn => match rt with
    | some (.object _) => ax_ra st fun x r => if r = [] ∧ x < 1000 then some (some (.ref x)) else none
    | _ => none
  | .return_ => match rt with
    | none => if st = [] then some none else none
    | _ => none
  | _ => none
/-- a call's method, its arguments (the receiver first), the stack below -/
def ax_cal {H : Type} (O : ax_O H) (J : Instr) (st : List Value) (h : H) : Option (Nat × List Value × List Value) := match J with
  | .invokestatic M => match ax_M[M]? with
    | none => none
    | some r => if r.2.2.2.2.2.1 = true ∧ r.2.2.2.2.2.2.1 ≤ st.length then some (M, (st.take r.2.2.2.2.2.2.1).reverse, st.drop r.2.2.2.2.2.2.1) else none
  | .invokevirtual M => match ax_M[M]? with
    | none => none
    | some r => ax_ra (st.drop r.2.2.2.2.2.2.1) fun a b => if r.2.2.2.2.2.1 = false ∧ r.2.2.2.2.2.2.1 ≤ st.length ∧ O.2.2.2.2.2.2.2.2 h a = some r.2.2.2.2.1 ∧ r.1.name ≠ "<init>" then some (M, .ref a :: (st.take r.2.2.2.2.2.2.1).reverse, b) else none
  | .invokespecial M => match ax_M[M]? with
    | none => none
    | some r => ax_ra (st.drop r.2.2.2.2.2.2.1) fun a b => if r.2.2.2.2.2.1 = false ∧ r.2.2.2.2.2.2.1 ≤ st.length ∧ r.1.name = "<init>" ∧ r.2.2.2.1 = none ∧ a < 2000 then some (M, .ref a :: (st.take r.2.2.2.2.2.2.1).reverse, b) else none
  | _ => none
def ax_sl : List Value → List Value
  | [] => []
  | v :: r => if v.category = 2 then v :: .null :: ax_sl r else v :: ax_sl r
/-- the places with which a method begins -/
def ax_ent (as : List Value) (n : Nat) : List Value := ax_sl as ++ List.replicate (n - (ax_sl as).length) .null
/-- 1: an end, 2: a call, 0: all others -/
def ax_kd (J : Instr) : Nat := match J with
  | .ireturn => 1
  | .lreturn => 1
  | .areturn => 1
  | .return_ => 1
  | .invokestatic _ => 2
  | .invokevirtual _ => 2
  | .invokespecial _ => 2
  | _ => 0
def ax_run {H : Type} (O : ax_O H) : Nat → Nat → Nat → Nat → List Value → List Value → H → Option (Option Value × H)
  | 0, _, _, _, _, _, _ => none
  | n + 1, d, m, pc, L, st, h => match ax_code m pc with
    | none => none
    | some q => match ax_kd q.1 with
      | 1 => ((ax_row m).bind fun r => ax_ret r.2.2.2.1 q.1 st).map fun v => (v, h)
      | 2 => match d with
        | 0 => none
        | d' + 1 => match ax_cal O q.1 st h with
          | none => none
          | some c => if (c.2.2.map fun v => v.category).sum ≤ 8 ∧ (ax_sl c.2.1).length ≤ (ax_M[c.1]?.map fun r => r.2.2.1).getD 0 then (match ax_run O n d' c.1 0 (ax_ent c.2.1 ((ax_M[c.1]?.map fun r => r.2.2.1).getD 0)) [] h with
            | none => none
            | some u => ax_run O n (d' + 1) m q.2 L (u.1.toList ++ c.2.2) u.2) else none
      | _ => match ax_step O q.1 q.2 L st h with
        | none => none
        | some u => ax_run O n d m u.1 u.2.1 u.2.2.1 u.2.2.2
