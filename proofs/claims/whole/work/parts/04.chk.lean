/-! THE PROGRAM'S DATA IS THE PROGRAM: every entry is decoded so; every link's word stands in the tables at its place -/
def vm_cls (ci : Nat) : String × u_T × Nat := vwCl.getD ci (RX0, TX0, 0)
def vm_wd (c : Nat) (w : Cond) : Bool := decide (tables_1[c]? = some w)
def vm_chk (k : Nat) (e : vm_En) : Bool :=
  decide (decode (vm_b k) e.1 = .ok (e.2.1, e.2.2.1)) &&
  match e with
  | (pc, i, len, a, b, c, d, z) => match i with
    | .getfield idx => if a = 100 then vm_wd c (.fieldLink (vm_own k) idx "java/lang/String" "value" "[B")
      else if a = 101 then vm_wd c (.fieldLink (vm_own k) idx "java/lang/String" "coder" "B")
      else decide (a < 8) && (decide (b < (vm_cls a).2.2) && (if d = 0 then vm_wd c (.fieldLink (vm_own k) idx ((vm_cls a).2.1 b).1 ((vm_cls a).2.1 b).2.1 ((vm_cls a).2.1 b).2.2.1)
        else vm_wd c (.fieldLinkNest (vm_own k) idx ((vm_cls a).2.1 b).1 ((vm_cls a).2.1 b).2.1 ((vm_cls a).2.1 b).2.2.1 "BirchLeaf")))
    | .putfield idx => decide (a < 8) && (decide (b < (vm_cls a).2.2) && (if d = 0 then vm_wd c (.fieldLink (vm_own k) idx ((vm_cls a).2.1 b).1 ((vm_cls a).2.1 b).2.1 ((vm_cls a).2.1 b).2.2.1) && ((vm_cls a).2.1 b).2.2.2 == false
        else if d = 1 then vm_wd c (.fieldLinkNest (vm_own k) idx ((vm_cls a).2.1 b).1 ((vm_cls a).2.1 b).2.1 ((vm_cls a).2.1 b).2.2.1 "BirchLeaf") && ((vm_cls a).2.1 b).2.2.2 == false
        else vm_wd c (.fieldLink (vm_own k) idx ((vm_cls a).2.1 b).1 ((vm_cls a).2.1 b).2.1 ((vm_cls a).2.1 b).2.2.1) && (((vm_cls a).2.1 b).2.2.2 == true && (decide ((vm_y k).name = "<init>") && decide (((vm_cls a).2.1 b).1 = vm_own k)))))
    | .getstatic idx => if a = 0 then vm_wd c (.fieldLink (vm_own k) idx "java/lang/String" "COMPACT_STRINGS" "Z") else decide (a = 1) && vm_wd c (.fieldLink (vm_own k) idx "jdk/internal/util/Preconditions" "SIOOBE_FORMATTER" "Ljava/util/function/BiFunction;")
    | .ldc idx => if a = 0 then vm_wd c (.constant (vm_own k) idx (Int32.ofInt z)) else decide (b < 8) && (decide (vm_strO.getD b 0 = idx) && (decide (vm_own k = RX5) && vm_wd c (.stringRef RX5 idx (vm_strT.getD b ""))))
    | .ldc2_w idx => vm_wd c (.constantLong (vm_own k) idx (Int64.ofInt z))
    | .goto off => decide ((pc : Int) + off = a)
    | .ifCond _ off => decide ((pc : Int) + off = a)
    | .if_icmp _ off => decide ((pc : Int) + off = a)
    | .tableswitch df _ _ offs => decide (0 ≤ (pc : Int) + df) && offs.all (fun o => decide (0 ≤ (pc : Int) + o))
    | .new idx => decide (a < 8) && (decide (b = (vm_cls a).2.2) && vm_wd c (.classLink (vm_own k) idx (vm_cls a).1))
    | .newarray _ => decide (len = 2)
    | .invokespecial idx => if a = 1001 then vm_wd c (.methodLink (vm_own k) idx objectInit) && (decide (1 ≤ vm_rf k) && decide (20 ≤ vm_rl k))
      else decide (a < 182) && (decide (vm_kind a = 2) && (decide (vm_rf a + 1 ≤ vm_rf k) && (decide (8 + (vm_ml a + 11) + vm_rl a ≤ vm_rl k) && (if d = 0 then vm_wd c (.methodLink (vm_own k) idx (vm_y a)) else vm_wd c (.methodLinkNest (vm_own k) idx (vm_y a) "BirchLeaf")))))
    | .invokevirtual idx => decide (a < 182) && (decide (vm_kind a = 0) && (decide (vm_rf a + 1 ≤ vm_rf k) && (decide (8 + (vm_ml a + 11) + vm_rl a ≤ vm_rl k) && (if d = 0 then vm_wd c (.methodLink (vm_own k) idx (vm_y a)) else vm_wd c (.methodLinkNest (vm_own k) idx (vm_y a) "BirchLeaf")))))
    | .invokestatic idx => if a = 1000 then vm_wd c (.methodLink (vm_own k) idx arraycopyName) && (decide (1 ≤ vm_rf k) && decide (8 + (nativeFrameWords "java/lang/System" "arraycopy" 5 + 11) ≤ vm_rl k))
      else decide (a < 182) && (decide (vm_kind a = 1) && (decide (vm_rf a + 1 ≤ vm_rf k) && (decide (8 + (vm_ml a + 11) + vm_rl a ≤ vm_rl k) && (if d = 0 then vm_wd c (.methodLink (vm_own k) idx (vm_y a)) else vm_wd c (.methodLinkNest (vm_own k) idx (vm_y a) "BirchLeaf")))))
    | _ => true
set_option maxRecDepth 100000 in
theorem vm_chk_t0 : ((List.range 10)).all (fun k => (vm_prog k).all (vm_chk k)) = true := by decide +kernel
