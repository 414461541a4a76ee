/-! THE PROGRAM'S DATA IS THE PROGRAM: every entry is decoded so; every link's word stands in the tables at its place -/
def vm_cls (ci : Nat) : String × u_T × Nat := vwCl.getD ci (RX0, TX0, 0)
def vm_wd (c : Nat) (w : Cond) : Bool := if c < 240 then decide (tables_1_1[c - 0]? = some w) else if c < 480 then decide (tables_1_2[c - 240]? = some w) else if c < 720 then decide (tables_1_3[c - 480]? = some w) else if c < 960 then decide (tables_1_4[c - 720]? = some w) else decide (tables_1_5[c - 960]? = some w)
/-- how many bytes an instruction has (0: not said) -/
def vm_len (i : Instr) : Nat := match i with
  | .tableswitch .. => 0
  | .bipush _ => 2
  | .ldc _ => 2
  | .iload _ => 2
  | .lload _ => 2
  | .aload _ => 2
  | .istore _ => 2
  | .lstore _ => 2
  | .astore _ => 2
  | .newarray _ => 2
  | .sipush _ => 3
  | .ldc2_w _ => 3
  | .iinc .. => 3
  | .goto _ => 3
  | .ifCond .. => 3
  | .if_icmp .. => 3
  | .getstatic _ => 3
  | .getfield _ => 3
  | .putfield _ => 3
  | .invokevirtual _ => 3
  | .invokespecial _ => 3
  | .invokestatic _ => 3
  | .new _ => 3
  | _ => 1
def vm_chk (k : Nat) (e : vm_En) : Bool :=
  decide (decode (vm_b k) e.1 = .ok (e.2.1, e.2.2.1)) && ((vm_len e.2.1 == 0 || e.2.2.1 == vm_len e.2.1) &&
  match e with
  | (pc, i, len, a, b, c, d, z) => match i with
    | .getfield idx => if a = 100 then vm_wd c (.fieldLink (vm_own k) idx "java/lang/String" "value" "[B")
      else if a = 101 then vm_wd c (.fieldLink (vm_own k) idx "java/lang/String" "coder" "B")
      else decide (a < 8) && (decide (b < (vm_cls a).2.2) && (if d = 0 then vm_wd c (.fieldLink (vm_own k) idx ((vm_cls a).2.1 b).1 ((vm_cls a).2.1 b).2.1 ((vm_cls a).2.1 b).2.2.1)
        else vm_wd c (.fieldLinkNest (vm_own k) idx ((vm_cls a).2.1 b).1 ((vm_cls a).2.1 b).2.1 ((vm_cls a).2.1 b).2.2.1 "BirchLeaf")))
    | .putfield idx => decide (a < 8) && (decide (b < (vm_cls a).2.2) && (if d = 0 then vm_wd c (.fieldLink (vm_own k) idx ((vm_cls a).2.1 b).1 ((vm_cls a).2.1 b).2.1 ((vm_cls a).2.1 b).2.2.1) && ((vm_cls a).2.1 b).2.2.2 == false
        else if d = 1 then vm_wd c (.fieldLinkNest (vm_own k) idx ((vm_cls a).2.1 b).1 ((vm_cls a).2.1 b).2.1 ((vm_cls a).2.1 b).2.2.1 "BirchLeaf") && ((vm_cls a).2.1 b).2.2.2 == false
        else vm_wd c (.fieldLink (vm_own k) idx ((vm_cls a).2.1 b).1 ((vm_cls a).2.1 b).2.1 ((vm_cls a).2.1 b).2.2.1) && (((vm_cls a).2.1 b).2.2.2 == true && (decide ((vm_y k).name = "<init>") && decide (((vm_cls a).2.1 b).1 = vm_own k)))))
    | .getstatic idx => if a = 0 then vm_wd c (.fieldLink (vm_own k) idx "java/lang/String" "COMPACT_STRINGS" "Z") else decide (a = 1) && vm_wd c (.fieldLink (vm_own k) idx "jdk/internal/util/Preconditions" "SIOOBE_FORMATTER" "Ljava/util/function/BiFunction;")
    | .ldc idx => if a = 0 then vm_wd c (.constant (vm_own k) idx (Int32.ofInt z)) else decide (b < 8) && (decide (vm_strO.getD b 0 = idx) && (decide (vm_own k = RX5) && vm_wd c (.stringRef RX5 idx (vm_strT.getD b ""))))
    | .ldc2_w idx => vm_wd c (.constantLong (vm_own k) idx (Int64.ofInt z))
    | .goto off => decide ((pc : Int) + off = a)
    | .ifCond _ off => decide ((pc : Int) + off = a)
    | .if_icmp _ off => decide ((pc : Int) + off = a)
    | .tableswitch df _ _ offs => decide (0 ≤ (pc : Int) + df) && offs.all (fun o => decide (0 ≤ (pc : Int) + o))
    | .new idx => decide (a < 8) && (decide (b = (vm_cls a).2.2) && vm_wd c (.classLink (vm_own k) idx (vm_cls a).1))
    | .newarray _ => decide (len = 2)
    | .invokespecial idx => if a = 1001 then vm_wd c (.methodLink (vm_own k) idx objectInit) && (decide (1 ≤ vm_rf k) && decide (20 ≤ vm_rl k))
      else decide (a < 180) && (decide (vm_kind a = 2) && (decide (vm_rf a + 1 ≤ vm_rf k) && (decide (8 + (vm_ml a + 11) + vm_rl a ≤ vm_rl k) && (if d = 0 then vm_wd c (.methodLink (vm_own k) idx (vm_y a)) else vm_wd c (.methodLinkNest (vm_own k) idx (vm_y a) "BirchLeaf")))))
    | .invokevirtual idx => decide (a < 180) && (decide (vm_kind a = 0) && (decide (vm_rf a + 1 ≤ vm_rf k) && (decide (8 + (vm_ml a + 11) + vm_rl a ≤ vm_rl k) && vm_wd c (.methodLink (vm_own k) idx (vm_y a)))))
    | .invokestatic idx => if a = 1000 then vm_wd c (.methodLink (vm_own k) idx arraycopyName) && (decide (1 ≤ vm_rf k) && decide (8 + (nativeFrameWords "java/lang/System" "arraycopy" 5 + 11) ≤ vm_rl k))
      else if a = 1002 then vm_wd c (.methodLink (vm_own k) idx Lib.Math.max.name) && (decide (1 ≤ vm_rf k) && decide (21 ≤ vm_rl k))
      else if a = 1003 then vm_wd c (.methodLink (vm_own k) idx Lib.Math.min.name) && (decide (1 ≤ vm_rf k) && decide (21 ≤ vm_rl k))
      else decide (a < 180) && (decide (vm_kind a = 1) && (decide (vm_rf a + 1 ≤ vm_rf k) && (decide (8 + (vm_ml a + 11) + vm_rl a ≤ vm_rl k) && (if d = 0 then vm_wd c (.methodLink (vm_own k) idx (vm_y a)) else vm_wd c (.methodLinkNest (vm_own k) idx (vm_y a) "BirchLeaf")))))
    | _ => true)
def vm_chkR (lo n : Nat) : Bool := (List.range n).all (fun j => (vm_prog (lo + j)).all (vm_chk (lo + j)))
theorem vm_chkR_at {lo n k : Nat} (h : vm_chkR lo n = true) (h1 : lo ≤ k) (h2 : k < lo + n) {e : vm_En} (he : e ∈ vm_prog k) : vm_chk k e = true := by
  have h3 := List.all_eq_true.mp h (k - lo) (List.mem_range.mpr (by omega))
  rw [show lo + (k - lo) = k by omega] at h3
  exact List.all_eq_true.mp h3 e he
def vm_wdg (c : Nat) : Option Cond := if c < 240 then tables_1_1[c - 0]? else if c < 480 then tables_1_2[c - 240]? else if c < 720 then tables_1_3[c - 480]? else if c < 960 then tables_1_4[c - 720]? else tables_1_5[c - 960]?
/-- the callee's own words, at their places (its code word apart: its bytes are compared by name, below) -/
def vm_wd2 (c : Nat) (w : Cond) : Bool := if c < 58 then decide ((k2_sels lw_privs)[c]? = some w) else vm_wd (c - 58) w
def vm_chk3 (k : Nat) : Bool := vm_wd (vm_pinst.getD k 9999) (if vm_kind k = 1 then .static (vm_y k) else .instanceMethod (vm_y k)) && (vm_wd (vm_pini.getD k 9999) (.initialized (vm_own k)) &&
  (decide ((vm_y k).cls = vm_own k) && (decide ((vm_y k).cls ≠ "java/lang/invoke/MethodHandle" ∧ (vm_y k).cls ≠ "java/lang/invoke/VarHandle") && (decide ((parseMethodDescriptor (vm_y k).desc).map (fun d => d.parameters.length) = some (vm_np k)) && (plainName (vm_y k).cls &&
  ((if vm_kind k = 0 then vm_wd2 (vm_psel.getD k 9999) (.selects (vm_y k).cls (vm_y k) (vm_y k)) else true) && ((if vm_kind k = 2 then decide ((vm_y k).name = "<init>") else true) && ((if vm_kind k = 1 then true else if vm_ci k = 100 then decide (vm_own k = "java/lang/String") else decide (vm_ci k < 8) && decide (vm_own k = (vm_cls (vm_ci k)).1)) &&
  (if vm_kind k = 2 then decide (vm_ret k = none) else true)))))))))
def vm_cdP (k : Nat) : Prop := vm_wdg (vm_pcode.getD k 9999) = some (Cond.code (vm_y k) (vm_b k) (vm_ml k) (vm_ret k))
