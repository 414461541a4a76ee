/-! A SMALL MACHINE OF OUR OWN, over numbered cells: what it comes to, the real one comes to (part 05) -/
/-- a cell's shape: (0, class, fields) an object; (1, type, length) an array (types 0 int, 1 byte, 2 boolean) -/
abbrev vm_Sh : Type := Nat × Nat × Nat
abbrev vm_St : Type := List vm_Sh × (Nat → Nat → Option Nat) × (Nat → Nat → Int32)
def vm_prog (k : Nat) : List vm_En := vm_progs.getD k []
def vm_find : List vm_En → Nat → Option (Instr × Nat × Nat × Nat × Nat × Nat × Int)
  | [], _ => none
  | e :: l, pc => if e.1 = pc then some e.2 else vm_find l pc
def vm_ins (k pc : Nat) : Option (Instr × Nat × Nat × Nat × Nat × Nat × Int) := vm_find (vm_prog k) pc
def vm_y (k : Nat) : MethodName := vm_ys.getD k yL_law
def vm_b (k : Nat) : ByteArray := vm_bs.getD k code
def vm_ml (k : Nat) : Nat := vm_mls.getD k 0
def vm_ret (k : Nat) : Option FieldType := vm_rets.getD k none
def vm_kind (k : Nat) : Nat := vm_kinds.getD k 0
def vm_np (k : Nat) : Nat := vm_nps.getD k 0
def vm_own (k : Nat) : String := vm_owns.getD k ""
def vm_rf (k : Nat) : Nat := vm_rfs.getD k 0
def vm_rl (k : Nat) : Nat := vm_rls.getD k 0
def vm_mc (k : Nat) : Nat := vm_mcs.getD k 0
def vm_ms (k : Nat) : Nat := vm_mss.getD k 0
def vm_ci (k : Nat) : Nat := vm_cis.getD k 0
def vm_ty (ci : Nat) : Nat → FieldType := match ci with
  | 0 => tyX0
  | 1 => tyX1
  | 2 => tyX2
  | 3 => tyX3
  | 4 => tyX4
  | 5 => tyX5
  | 6 => tyX6
  | _ => tyX7
def vm_isI (ci j : Nat) : Bool := match vm_ty ci j with
  | .int => true
  | _ => false
def vm_rv (r : Option Nat) : Value := match r with
  | none => .null
  | some i => .ref i
/-- what a field holds -/
def vm_fv (σ : vm_St) (i ci j : Nat) : Value := if vm_isI ci j = true then .int (σ.2.2 i j) else vm_rv (σ.2.1 i j)
def vm_u2 {α : Type} (M : Nat → Nat → α) (i j : Nat) (v : α) : Nat → Nat → α := fun a b => if a = i ∧ b = j then v else M a b
def vm_lg (L : List Value) (i : Nat) : Value := L.getD i .null
/-- a value into a local; a long that loses its second half is lost -/
def vm_ls (L : List Value) (i : Nat) (v : Value) : List Value := match i with
  | 0 => L.set 0 v
  | j + 1 => match vm_lg L j with
    | .long _ => (L.set j .null).set (j + 1) v
    | .double _ => (L.set j .null).set (j + 1) v
    | _ => L.set (j + 1) v
def vm_ls2 (L : List Value) (i : Nat) (v : Value) : List Value := (vm_ls L i v).set (i + 1) .null
def vm_strN (i : Nat) : Nat := (vm_strB.getD i []).length
/-- an element that is read: the array of cell r at i -/
def vm_ald (X : Nat × (Nat → Int32)) (σ : vm_St) (t r : Nat) (i : Int32) : Option Int32 :=
  if r < 1000 then match σ.1[r]? with
    | some (1, t', n) => if t' = t ∨ (t = 1 ∧ t' = 2) then (if i < 0 ∨ n ≤ i.toNatClampNeg then none else some (σ.2.2 r i.toNatClampNeg)) else none
    | _ => none
  else if r = 2000 then (if t = 0 then (if i < 0 ∨ X.1 ≤ i.toNatClampNeg then none else some (X.2 i.toNatClampNeg)) else none)
  else if r % 2 = 1 ∧ r < 1016 then (if t = 1 then (if i < 0 ∨ vm_strN ((r - 1000) / 2) ≤ i.toNatClampNeg then none else some ((vm_strB.getD ((r - 1000) / 2) []).getD i.toNatClampNeg 0)) else none)
  else none
def vm_aln (X : Nat × (Nat → Int32)) (σ : vm_St) (r : Nat) : Option Nat :=
  if r < 1000 then match σ.1[r]? with
    | some (1, _, n) => some n
    | _ => none
  else if r = 2000 then some X.1
  else if r % 2 = 1 ∧ r < 1016 then some (vm_strN ((r - 1000) / 2))
  else none
def vm_cond (c : ClassFile.Cond) (x y : Int32) : Prop := match c with
  | .eq => x = y
  | .ne => ¬ x = y
  | .lt => x < y
  | .ge => y ≤ x
  | .gt => y < x
  | .le => x ≤ y
/-- one plain instruction -/
def vm_act (X : Nat × (Nat → Int32)) (i : Instr) (a b d : Nat) (z : Int) (pc : Nat) (L S : List Value) (σ : vm_St) : Option (Nat × List Value × List Value × vm_St) :=
  match i with
  | .iconst n => some (pc + 1, L, .int (Int32.ofInt n) :: S, σ)
  | .bipush n => some (pc + 2, L, .int (Int8.ofInt n).toInt32 :: S, σ)
  | .sipush n => some (pc + 3, L, .int (Int16.ofInt n).toInt32 :: S, σ)
  | .lconst n => some (pc + 1, L, .long (Int64.ofNat n) :: S, σ)
  | .ldc _ => if a = 0 then some (pc + 2, L, .int (Int32.ofInt z) :: S, σ) else some (pc + 2, L, .ref (1000 + 2 * b) :: S, σ)
  | .ldc2_w _ => some (pc + 3, L, .long (Int64.ofInt z) :: S, σ)
  | .iload_n n => match vm_lg L n with
    | .int x => some (pc + 1, L, .int x :: S, σ)
    | _ => none
  | .iload n => match vm_lg L n with
    | .int x => some (pc + 2, L, .int x :: S, σ)
    | _ => none
  | .lload_n n => match vm_lg L n with
    | .long x => some (pc + 1, L, .long x :: S, σ)
    | _ => none
  | .lload n => match vm_lg L n with
    | .long x => some (pc + 2, L, .long x :: S, σ)
    | _ => none
  | .aload_n n => match vm_lg L n with
    | .ref x => if x = 3000 then none else some (pc + 1, L, .ref x :: S, σ)
    | _ => none
  | .aload n => match vm_lg L n with
    | .ref x => if x = 3000 then none else some (pc + 2, L, .ref x :: S, σ)
    | _ => none
  | .istore_n n => match S with
    | .int x :: S => if (n : Nat) < L.length then some (pc + 1, vm_ls L n (.int x), S, σ) else none
    | _ => none
  | .istore n => match S with
    | .int x :: S => if n < L.length then some (pc + 2, vm_ls L n (.int x), S, σ) else none
    | _ => none
  | .lstore_n n => match S with
    | .long x :: S => if (n : Nat) + 1 < L.length then some (pc + 1, vm_ls2 L n (.long x), S, σ) else none
    | _ => none
  | .lstore n => match S with
    | .long x :: S => if n + 1 < L.length then some (pc + 2, vm_ls2 L n (.long x), S, σ) else none
    | _ => none
  | .astore_n n => match S with
    | .ref x :: S => if (n : Nat) < L.length ∧ x ≠ 3000 then some (pc + 1, vm_ls L n (.ref x), S, σ) else none
    | _ => none
  | .astore n => match S with
    | .ref x :: S => if n < L.length ∧ x ≠ 3000 then some (pc + 2, vm_ls L n (.ref x), S, σ) else none
    | _ => none
  | .iinc n m => match vm_lg L n with
    | .int x => if n < L.length then some (pc + 3, vm_ls L n (.int (x + Int32.ofInt m)), S, σ) else none
    | _ => none
  | .iadd => match S with
    | .int y :: .int x :: S => some (pc + 1, L, .int (x + y) :: S, σ)
    | _ => none
  | .isub => match S with
    | .int y :: .int x :: S => some (pc + 1, L, .int (x - y) :: S, σ)
    | _ => none
  | .imul => match S with
    | .int y :: .int x :: S => some (pc + 1, L, .int (x * y) :: S, σ)
    | _ => none
  | .idiv => match S with
    | .int y :: .int x :: S => if y = 0 then none else some (pc + 1, L, .int (x / y) :: S, σ)
    | _ => none
  | .irem => match S with
    | .int y :: .int x :: S => if y = 0 then none else some (pc + 1, L, .int (x - x / y * y) :: S, σ)
    | _ => none
  | .ineg => match S with
    | .int x :: S => some (pc + 1, L, .int (-x) :: S, σ)
    | _ => none
  | .iand => match S with
    | .int y :: .int x :: S => some (pc + 1, L, .int (x &&& y) :: S, σ)
    | _ => none
  | .ior => match S with
    | .int y :: .int x :: S => some (pc + 1, L, .int (x ||| y) :: S, σ)
    | _ => none
  | .ishl => match S with
    | .int y :: .int x :: S => some (pc + 1, L, .int (x <<< (y &&& 31)) :: S, σ)
    | _ => none
  | .ishr => match S with
    | .int y :: .int x :: S => some (pc + 1, L, .int (x >>> (y &&& 31)) :: S, σ)
    | _ => none
  | .ladd => match S with
    | .long y :: .long x :: S => some (pc + 1, L, .long (x + y) :: S, σ)
    | _ => none
  | .land => match S with
    | .long y :: .long x :: S => some (pc + 1, L, .long (x &&& y) :: S, σ)
    | _ => none
  | .lor => match S with
    | .long y :: .long x :: S => some (pc + 1, L, .long (x ||| y) :: S, σ)
    | _ => none
  | .lshl => match S with
    | .int y :: .long x :: S => some (pc + 1, L, .long (x <<< (y.toInt64 &&& 63)) :: S, σ)
    | _ => none
  | .lshr => match S with
    | .int y :: .long x :: S => some (pc + 1, L, .long (x >>> (y.toInt64 &&& 63)) :: S, σ)
    | _ => none
  | .lushr => match S with
    | .int y :: .long x :: S => some (pc + 1, L, .long (x.toUInt64 >>> (y.toInt64.toUInt64 &&& Int64.toUInt64 63)).toInt64 :: S, σ)
    | _ => none
  | .lcmp => match S with
    | .long y :: .long x :: S => some (pc + 1, L, .int (lg_cmp x y) :: S, σ)
    | _ => none
  | .i2l => match S with
    | .int x :: S => some (pc + 1, L, .long x.toInt64 :: S, σ)
    | _ => none
  | .l2i => match S with
    | .long x :: S => some (pc + 1, L, .int x.toInt32 :: S, σ)
    | _ => none
  | .i2b => match S with
    | .int x :: S => some (pc + 1, L, .int x.toInt8.toInt32 :: S, σ)
    | _ => none
  | .i2s => match S with
    | .int x :: S => some (pc + 1, L, .int x.toInt16.toInt32 :: S, σ)
    | _ => none
  | .i2c => match S with
    | .int x :: S => some (pc + 1, L, .int (x.toUInt32 % 65536).toInt32 :: S, σ)
    | _ => none
  | .dup => match S with
    | .ref x :: S => if x = 3000 then none else some (pc + 1, L, .ref x :: .ref x :: S, σ)
    | .int x :: S => some (pc + 1, L, .int x :: .int x :: S, σ)
    | _ => none
  | .dup2 => match S with
    | .int x :: .ref y :: S => if y = 3000 then none else some (pc + 1, L, .int x :: .ref y :: .int x :: .ref y :: S, σ)
    | _ => none
  | .pop => match S with
    | .int _ :: S => some (pc + 1, L, S, σ)
    | _ => none
  | .goto _ => some (a, L, S, σ)
  | .ifCond c _ => match S with
    | .int x :: S => match c with
      | .eq => some (if x = 0 then a else pc + 3, L, S, σ)
      | .ne => some (if x = 0 then pc + 3 else a, L, S, σ)
      | .lt => some (if x < 0 then a else pc + 3, L, S, σ)
      | .ge => some (if x < 0 then pc + 3 else a, L, S, σ)
      | .gt => some (if 0 < x then a else pc + 3, L, S, σ)
      | .le => some (if 0 < x then pc + 3 else a, L, S, σ)
    | _ => none
  | .if_icmp c _ => match S with
    | .int y :: .int x :: S => match c with
      | .eq => some (if x = y then a else pc + 3, L, S, σ)
      | .ne => some (if x = y then pc + 3 else a, L, S, σ)
      | .lt => some (if x < y then a else pc + 3, L, S, σ)
      | .ge => some (if x < y then pc + 3 else a, L, S, σ)
      | .gt => some (if y < x then a else pc + 3, L, S, σ)
      | .le => some (if y < x then pc + 3 else a, L, S, σ)
    | _ => none
  | .tableswitch df lo hi offs => match S with
    | .int x :: S => if x.toInt < lo ∨ hi < x.toInt then some (((pc : Int) + df).toNat, L, S, σ) else match offs[(x.toInt - lo).toNat]? with
      | some off => some (((pc : Int) + off).toNat, L, S, σ)
      | none => none
    | _ => none
  | .iaload => match S with
    | .int i :: .ref r :: S => match vm_ald X σ 0 r i with
      | some v => some (pc + 1, L, .int v :: S, σ)
      | none => none
    | _ => none
  | .baload => match S with
    | .int i :: .ref r :: S => match vm_ald X σ 1 r i with
      | some v => some (pc + 1, L, .int v :: S, σ)
      | none => none
    | _ => none
  | .arraylength => match S with
    | .ref r :: S => match vm_aln X σ r with
      | some n => some (pc + 1, L, .int (Int32.ofNat n) :: S, σ)
      | none => none
    | _ => none
  | .iastore => match S with
    | .int x :: .int i :: .ref r :: S => match σ.1[r]? with
      | some (1, 0, n) => if i < 0 ∨ n ≤ i.toNatClampNeg then none else some (pc + 1, L, S, (σ.1, σ.2.1, vm_u2 σ.2.2 r i.toNatClampNeg x))
      | _ => none
    | _ => none
  | .bastore => match S with
    | .int x :: .int i :: .ref r :: S => match σ.1[r]? with
      | some (1, 2, n) => if i < 0 ∨ n ≤ i.toNatClampNeg then none else some (pc + 1, L, S, (σ.1, σ.2.1, vm_u2 σ.2.2 r i.toNatClampNeg (vp_nar .boolean x)))
      | some (1, 1, n) => if i < 0 ∨ n ≤ i.toNatClampNeg then none else some (pc + 1, L, S, (σ.1, σ.2.1, vm_u2 σ.2.2 r i.toNatClampNeg (vp_nar .byte x)))
      | _ => none
    | _ => none
  | .getstatic _ => if a = 0 then some (pc + 3, L, .int 1 :: S, σ) else some (pc + 3, L, .ref 3000 :: S, σ)
  | .getfield _ => match S with
    | .ref r :: S =>
      if a = 100 then (if 1000 ≤ r ∧ r < 1016 ∧ r % 2 = 0 then some (pc + 3, L, .ref (r + 1) :: S, σ) else none)
      else if a = 101 then (if 1000 ≤ r ∧ r < 1016 ∧ r % 2 = 0 then some (pc + 3, L, .int 0 :: S, σ) else none)
      else match σ.1[r]? with
        | some (0, ci, n) => if ci = a ∧ b < n then some (pc + 3, L, vm_fv σ r a b :: S, σ) else none
        | _ => none
    | _ => none
  | .putfield _ => match S with
    | .int x :: .ref r :: S => match σ.1[r]? with
      | some (0, ci, n) => if ci = a ∧ b < n ∧ vm_isI a b = true then some (pc + 3, L, S, (σ.1, σ.2.1, vm_u2 σ.2.2 r b x)) else none
      | _ => none
    | .ref x :: .ref r :: S => match σ.1[r]? with
      | some (0, ci, n) => if ci = a ∧ b < n ∧ vm_isI a b = false ∧ x < 1000 then some (pc + 3, L, S, (σ.1, vm_u2 σ.2.1 r b (some x), σ.2.2)) else none
      | _ => none
    | _ => none
  | _ => none
/-- what a method answers, by its kind of return -/
def vm_rt (k : Nat) (i : Instr) (S : List Value) : Option (Option Value) := match i with
  | .return_ => match S, vm_ret k with
    | [], none => some none
    | _, _ => none
  | .lreturn => match S, vm_ret k with
    | [.long x], some .long => some (some (.long x))
    | _, _ => none
  | .areturn => match S, vm_ret k with
    | [.ref r], some (.object _) => if r < 1000 then some (some (.ref r)) else none
    | _, _ => none
  | .ireturn => match S, vm_ret k with
    | [.int x], some .int => some (some (.int x))
    | [.int x], some .boolean => if x = 0 ∨ x = 1 then some (some (.int x)) else none
    | [.int x], some .byte => if x.toInt8.toInt32 = x then some (some (.int x)) else none
    | [.int x], some .char => if (x.toUInt32 % 65536).toInt32 = x then some (some (.int x)) else none
    | _, _ => none
  | _ => none
def vm_sl : List Value → List Value
  | [] => []
  | v :: l => if v.category = 2 then v :: .null :: vm_sl l else v :: vm_sl l
def vm_entry (k : Nat) (args : List Value) : List Value := vm_sl args ++ List.replicate (vm_ml k - (vm_sl args).length) .null
def vm_wt (S : List Value) : Nat := (S.map fun v => v.category).sum
/-- the receiver is an object of the method's class -/
def vm_rc (σ : vm_St) (k : Nat) (v : Value) : Bool := match v with
  | .ref r => if r < 1000 then (match σ.1[r]? with
    | some (0, ci, _) => ci == vm_ci k
    | _ => false) else (vm_ci k == 100 && (decide (r < 1016) && r % 2 == 0))
  | _ => false
def vm_arr (t : ArrayType) : Option Nat := match t with
  | .int => some 0
  | .byte => some 1
  | .boolean => some 2
  | _ => none
def vm_new (σ : vm_St) (s : vm_Sh) : vm_St := (σ.1 ++ [s], (fun i j => if i = σ.1.length then none else σ.2.1 i j), (fun i j => if i = σ.1.length then 0 else σ.2.2 i j))
def vm_cpy (f g : Nat → Int32) (sp dp n : Nat) : Nat → Int32 := va_cpy f g sp dp n
/-- which kind of step: 0 plain, 1 end, 2 call, 3 new, 4 newarray -/
def vm_kd (i : Instr) : Nat := match i with
  | .ireturn => 1
  | .lreturn => 1
  | .areturn => 1
  | .return_ => 1
  | .invokevirtual _ => 2
  | .invokespecial _ => 2
  | .invokestatic _ => 2
  | .new _ => 3
  | .newarray _ => 4
  | _ => 0
/-- a step, and what comes behind it ('rn') -/
def vm_step (X : Nat × (Nat → Int32)) (rn : Nat → Nat → List Value → List Value → Nat → Nat → vm_St → Option (Option Value × vm_St)) (k pc : Nat) (L S : List Value) (bc bs : Nat) (σ : vm_St) : Option (Option Value × vm_St) :=
  match vm_ins k pc with
    | none => none
    | some (i, _, a, b, _, d, z) => match vm_kd i with
      | 0 => match vm_act X i a b d z pc L S σ with
        | none => none
        | some (pc', L', S', σ') => rn k pc' L' S' bc bs σ'
      | 1 => match vm_rt k i S with
        | none => none
        | some r => some (r, σ)
      | 2 =>
        if a = 1001 then match S with
          | .ref r :: S => if r = 3000 ∨ 8 < vm_wt S then none else rn k (pc + 3) L S bc bs σ
          | _ => none
        else if a = 1000 then match S with
          | .int m :: .int dp :: .ref r :: .int sp :: .ref q :: S => match σ.1[q]?, σ.1[r]? with
            | some (1, 0, n0), some (1, 0, n1) =>
              if (¬ sp < 0 ∧ ¬ dp < 0 ∧ ¬ m < 0) ∧ (sp.toNatClampNeg + m.toNatClampNeg ≤ n0 ∧ dp.toNatClampNeg + m.toNatClampNeg ≤ n1) ∧ vm_wt S ≤ 8 then
                rn k (pc + 3) L S bc bs (σ.1, σ.2.1, fun i => if i = r then va_cpy (σ.2.2 q) (σ.2.2 r) sp.toNatClampNeg dp.toNatClampNeg m.toNatClampNeg else σ.2.2 i)
              else none
            | _, _ => none
          | _ => none
        else if a = 1002 ∨ a = 1003 then match S with
          | .int y :: .int x :: S => if 8 < vm_wt S then none else rn k (pc + 3) L (.int (if a = 1002 then (if x < y then y else x) else (if y < x then y else x)) :: S) bc bs σ
          | _ => none
        else
          let na := if vm_kind a = 1 then vm_np a else vm_np a + 1
          let as := (S.take na).reverse
          let rest := S.drop na
          if as.length = na ∧ (vm_kind a = 1 ∨ vm_rc σ a (vm_lg as 0) = true) ∧ vm_mc a ≤ bc ∧ vm_ms a ≤ bs ∧ vm_wt rest ≤ 8 ∧ (vm_sl as).length ≤ vm_ml a then
            match rn a 0 (vm_entry a as) [] (vm_mc a) (vm_ms a) σ with
            | none => none
            | some (r, σ') => rn k (pc + 3) L (r.toList ++ rest) (bc - vm_mc a) (bs - vm_ms a) σ'
          else none
      | 3 => if 1 ≤ bc ∧ b ≤ bs ∧ σ.1.length < 1000 then rn k (pc + 3) L (.ref σ.1.length :: S) (bc - 1) (bs - b) (vm_new σ (0, a, b)) else none
      | _ => match i with
        | .newarray t => match vm_arr t with
          | none => none
          | some ti => match S with
            | .int x :: S => if ¬ x < 0 ∧ 1 ≤ bc ∧ x.toNatClampNeg ≤ bs ∧ x.toNatClampNeg ≤ 10000 ∧ σ.1.length < 1000 then rn k (pc + 2) L (.ref σ.1.length :: S) (bc - 1) (bs - x.toNatClampNeg) (vm_new σ (1, ti, x.toNatClampNeg)) else none
            | _ => none
        | _ => none
def vm_run (X : Nat × (Nat → Int32)) : Nat → Nat → Nat → List Value → List Value → Nat → Nat → vm_St → Option (Option Value × vm_St)
  | 0 => fun _ _ _ _ _ _ _ => none
  | n + 1 => vm_step X (vm_run X n)
