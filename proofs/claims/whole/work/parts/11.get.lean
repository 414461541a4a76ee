/-! A PLAIN STEP OF OURS IS A STEP OF THE MACHINE -/
section VMA
variable {p : Program} {l : Launch} {e : Env} {R : Room} {s : State} {m : MethodId} {args : Array Value} {below : List Frame} {meth : Method} {c : Code} {H : Heap} {locs : List Loc} {cells slots : Nat} {Q : State → Prop}
variable {G : vm_G} {X : Nat × (Nat → Int32)} {k : Nat}
def vm_C (G : vm_G) (X : Nat × (Nat → Int32)) (k : Nat) (p : Program) (s : State) (m : MethodId) (args : Array Value) (meth : Method) (c : Code) : Prop :=
  p.tables.exec = Jvm.exec ∧ c.code = vm_b k ∧ c.maxLocals = vm_ml k ∧ s.vm.findClass (vm_own k) = some m.cls ∧ (∀ w ∈ vm_TG, w.before args s = true) ∧ ((vm_y k).name = "<init>" → meth.name = "<init>") ∧ vm_KW G s ∧ vm_XW G X s s.heap ∧ k < 181
theorem vm_ce_o (G : vm_G) (σ : vm_St) (r ci n : Nat) : vm_ce G σ r (0, ci, n) = .inr (ci, (List.range n).map (fun j => vm_v G (vm_fv σ r ci j))) := rfl
theorem vm_ce_a (G : vm_G) (σ : vm_St) (r t n : Nat) : vm_ce G σ r (1, t, n) = .inl (vm_cA G t, n, .inl (σ.2.2 r)) := rfl
theorem vm_stk_ref {G : vm_G} {r : Nat} {σ : vm_St} {H : Heap} (hP : vm_PW G σ H) {s : vm_Sh} (h : σ.1[r]? = some s) : vm_v G (.ref r) = .ref (G.1 + r) := by
  have h1 : r < σ.1.length := (List.getElem?_eq_some_iff.mp h).1
  have h2 := hP.2.2.1
  exact vm_mp_lt G (by omega)
theorem vm_getf (C : vm_C G X k p s m args meth c) {σ : vm_St} (hP : vm_PW G σ H) {pc r a b len cx d idx : Nat} {z : Int} {ls : Array Slot} {rest : List Value} (ha1 : ¬ a = 100) (ha2 : ¬ a = 101)
    (hck : vm_chk k (pc, .getfield idx, len, a, b, cx, d, z) = true) {n : Nat} (hr : σ.1[r]? = some (0, a, n)) (hb : b < n)
    (kk : W p l e R s m args below meth c H locs cells slots Q (F0 m (pc + 3) ls (vm_v G (vm_fv σ r a b) :: rest))) : W p l e R s m args below meth c H locs cells slots Q (F0 m pc ls (vm_v G (.ref r) :: rest)) := by
  obtain ⟨hx, hbc, hml, hown, hts, hin, hK, hX, hk⟩ := C
  simp only [vm_chk, vm_len, Bool.and_eq_true, decide_eq_true_eq, Bool.or_eq_true, beq_iff_eq, if_neg ha1, if_neg ha2] at hck
  obtain ⟨hd, hlen, ha, hbn, hw⟩ := hck
  have hlen : len = 3 := by omega
  subst hlen
  rw [vm_stk_ref hP hr]
  have hat := vm_ws_at G hr
  rw [vm_ce_o] at hat
  by_cases hd0 : d = 0
  · rw [if_pos hd0] at hw
    exact va_get (D := vm_D G) (ci := a) (v := vm_v G (vm_fv σ r a b)) (C := (vm_cls a).1) (T := (vm_cls a).2.1) (N := (vm_cls a).2.2) hx hbc hts (vm_ws_in ha) hown hK.1 hP.1 r hat (vm_cl_at ha) b hbn (hts _ (vm_wd_g hw (by first | rfl | simp [goodWord, Cond.onTables, Cond.keeps, Cond.steady]))) (fun _ h9 => h9) (by simp [hb]) hd kk
  · rw [if_neg hd0] at hw
    exact va_getN (D := vm_D G) (ci := a) (v := vm_v G (vm_fv σ r a b)) (C := (vm_cls a).1) (T := (vm_cls a).2.1) (N := (vm_cls a).2.2) hx hbc hts (vm_ws_in ha) hown hK.1 hP.1 r hat (vm_cl_at ha) b hbn (va_Nw.use rfl (hK.2.1 _ (vm_wd_t hw) rfl)) (fun _ h9 => h9) (by simp [hb]) hd kk
end VMA
