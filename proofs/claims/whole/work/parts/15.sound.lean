section VME
variable {p : Program} {l : Launch} {e : Env} {R : Room} {s : State} {m : MethodId} {args : Array Value} {below : List Frame} {meth : Method} {c : Code} {H : Heap} {locs : List Loc} {cells slots : Nat} {Q : State → Prop}
variable {G : vm_G} {X : Nat × (Nat → Int32)} {k : Nat}
theorem vm_find_mem : ∀ {l : List vm_En} {pc : Nat} {q : Instr × Nat × Nat × Nat × Nat × Nat × Int}, vm_find l pc = some q → (pc, q) ∈ l
  | [], _, _, h => by cases h
  | e :: l, pc, q, h => by
    unfold vm_find at h
    split at h
    · next he => cases h; rw [← he]; exact List.mem_cons_self
    · exact List.mem_cons_of_mem _ (vm_find_mem h)
theorem vm_ins_ck {k pc : Nat} (hk : k < 181) {i : Instr} {len a b cx d : Nat} {z : Int} (h : vm_ins k pc = some (i, len, a, b, cx, d, z)) : vm_chk k (pc, i, len, a, b, cx, d, z) = true := vm_chk_all hk (vm_find_mem h)
theorem vm_sl_get (hf : vm_fm G = .null ∨ ∃ a, vm_fm G = .ref a) : ∀ (as : List Value) (o i : Nat) (w : Value), (vm_sl as)[i]? = some w → w ≠ .null → (o + i, vm_v G w) ∈ lv_args o (as.map (vm_v G))
  | [], _, _, _, h, _ => by simp [vm_sl] at h
  | v :: vs, o, i, w, h, hw => by
    unfold vm_sl at h
    rw [List.map_cons, lv_args, vm_v_cat G hf]
    split at h
    · next hc =>
      rw [if_pos hc]
      match i, h with
      | 0, h => cases h; exact List.mem_cons_self
      | 1, h => cases h; exact absurd rfl hw
      | i + 2, h =>
        have := vm_sl_get hf vs (o + 2) i w h hw
        rw [show o + (i + 2) = o + 2 + i by omega]
        exact List.mem_cons_of_mem _ this
    · next hc =>
      rw [if_neg hc]
      match i, h with
      | 0, h => cases h; exact List.mem_cons_self
      | i + 1, h =>
        have := vm_sl_get hf vs (o + 1) i w h hw
        rw [show o + (i + 1) = o + 1 + i by omega]
        exact List.mem_cons_of_mem _ this
theorem vm_sl_len (hf : vm_fm G = .null ∨ ∃ a, vm_fm G = .ref a) : ∀ (as : List Value), (lg_sl (as.map (vm_v G))).length = (vm_sl as).length
  | [] => rfl
  | v :: vs => by
    have h := vm_sl_len hf vs
    unfold lg_sl at h ⊢
    unfold vm_sl
    rw [List.map_cons, List.flatMap_cons, vm_v_cat G hf, List.length_append, h]
    split
    · simp; omega
    · simp; omega
theorem vm_entry_LV (hf : vm_fm G = .null ∨ ∃ a, vm_fm G = .ref a) {ls : Array Slot} {as : List Value} (hle : (vm_sl as).length ≤ vm_ml k) (h : lv_has ls (vm_ml k) (lv_args 0 (as.map (vm_v G)))) : vm_LV G ls (vm_ml k) (vm_entry k as) := by
  refine ⟨h.1, h.2.1, by simp [vm_entry]; omega, fun i v hi hv => ?_⟩
  unfold vm_entry at hi
  by_cases hl : i < (vm_sl as).length
  · rw [List.getElem?_append_left hl] at hi
    have h1 := vm_sl_get hf as 0 i v hi hv
    rw [Nat.zero_add] at h1
    exact h.2.2 _ h1
  · rw [List.getElem?_append_right (by omega)] at hi
    rw [List.getElem?_replicate] at hi
    split at hi
    · cases hi; exact absurd rfl hv
    · cases hi
/-- what a run of our machine promises of the real one -/
def vm_OK (l : Launch) (G : vm_G) (X : Nat × (Nat → Int32)) (n : Nat) : Prop :=
  ∀ (k pc : Nat) (L S : List Value) (bc bs : Nat) (σ σ' : vm_St) (r : Option Value), vm_run X n k pc L S bc bs σ = some (r, σ') →
  ∀ (p : Program) (e : Env) (R : Room) (s : State) (m : MethodId) (args : Array Value) (below : List Frame) (meth : Method) (c : Code) (H : Heap) (locs : List Loc) (cells slots : Nat) (Q : State → Prop) (ls : Array Slot),
    vm_C G X k p s m args meth c → vm_rf k ≤ R.frames → vm_rl k ≤ R.locals → vm_PW G σ H → va_S (vm_A G) s.heap H locs → vm_LV G ls (vm_ml k) L → cells + bc ≤ R.cells → slots + bs ≤ R.slots →
    (∀ (i : Instr) (len a b cx d : Nat) (z : Int) (pc' : Nat) (S' : List Value) (H' : Heap) (locs' : List Loc) (ls' : Array Slot) (cells' slots' : Nat), vm_chk k (pc', i, len, a, b, cx, d, z) = true → vm_rt k i S' = some r → vm_PW G σ' H' → va_S (vm_A G) s.heap H' locs' → cells' ≤ cells + bc → slots' ≤ slots + bs →
      W p l e R s m args below meth c H' locs' cells' slots' Q (F0 m pc' ls' (S'.map (vm_v G)))) →
    W p l e R s m args below meth c H locs cells slots Q (F0 m pc ls (S.map (vm_v G)))
theorem vm_len_ret {i : Instr} {k : Nat} {S : List Value} {r : Option Value} (h : vm_rt k i S = some r) : vm_len i = 1 := by
  cases i <;> first | rfl | (simp [vm_rt] at h; done)
/-- the end of a method -/
theorem vm_leave (hx : p.tables.exec = Jvm.exec) (hb : c.code = vm_b k) (hr : meth.sig.returnType = vm_ret k) (hlocks : meth.locks = false) {r : Option Value} {Qc : Array Value → State → Outcome → State → Prop} {free : Addr → Prop}
    {i : Instr} {len a b cx d pc : Nat} {z : Int} {S : List Value} {ls : Array Slot} (hck : vm_chk k (pc, i, len, a, b, cx, d, z) = true) (hrt : vm_rt k i S = some r)
    (hq : ∀ t : State, t.heap = H → s.WarmedH t.vm → Qc args s (.returned (r.map (vm_v G))) t) (hf : ∀ q ∈ locs, free q.base) :
    W p l e R s m args below meth c H locs cells slots (MQ below Qc args s cells slots free) (F0 m pc ls (S.map (vm_v G))) := by
  have hd := vm_dec hck (vm_len_ret hrt) (by decide)
  cases i with
  | ireturn =>
    simp only [vm_rt] at hrt
    split at hrt
    · next x he => cases hrt; exact W.iret hx hb (by rw [hr, he]) hq hf hd
    · next x he =>
      split at hrt
      · next h01 => cases hrt; exact W.zret hx hb (ty := .boolean) (by rw [hr, he]) (by rcases h01 with rfl | rfl <;> rfl) hq hf hd
      · cases hrt
    · next x he =>
      split at hrt
      · next h01 => cases hrt; exact W.zret hx hb (ty := .byte) (by rw [hr, he]) (by first | (rw [vm_nary]; done) | (rw [vm_nary]; congr 1; done) | (rw [vm_nary]; congr 1; rw [← h01]; exact pk_vb _)) hq hf hd
      · cases hrt
    · next x he =>
      split at hrt
      · next h01 => cases hrt; exact W.zret hx hb (ty := .char) (by rw [hr, he]) (by rw [← h01]; exact pk_nc _) hq hf hd
      · cases hrt
    · cases hrt
  | lreturn =>
    simp only [vm_rt] at hrt
    split at hrt
    · next x he => cases hrt; exact W.lret hx hb (by rw [hr, he]) hq hf hd
    · cases hrt
  | areturn =>
    simp only [vm_rt] at hrt
    split at hrt
    · next x nn he =>
      split at hrt
      · next hlt =>
        cases hrt
        exact W.aret hx hb (rt := .object nn) (by rw [hr, he]) (Or.inl ⟨_, rfl⟩) (Or.inr ⟨_, vm_mp_lt G hlt⟩) hq hf hd
      · cases hrt
    · cases hrt
  | return_ =>
    simp only [vm_rt] at hrt
    split at hrt
    · next he => cases hrt; exact W.vret hx hb (by rw [hr, he]) hq hf hd
    · cases hrt
  | _ => exact absurd hrt (by simp [vm_rt])
/-- the contract of a method, out of its run -/
theorem vm_met {n : Nat} (ih : vm_OK l G X n) {a : Nat} (ha : a < 180) {as : List Value} (hle : (vm_sl as).length ≤ vm_ml a) {σ σ' : vm_St} {r : Option Value} (hrun : vm_run X n a 0 (vm_entry a as) [] (vm_mc a) (vm_ms a) σ = some (r, σ')) :
    Met l (vm_y a) (vm_wsK a) (vm_rm a) (va_Pc (as.map (vm_v G)) (vm_B G X σ)) (vm_Qp G r σ') (vm_mc a) (vm_ms a) (vm_A G) := by
  have h2 := vm_chk3_all ha
  unfold vm_chk3 at h2
  simp only [Bool.and_eq_true, decide_eq_true_eq] at h2
  obtain ⟨w2, w3, w4, w5, w6, w7, w8⟩ := h2
  refine Met.ofW (cc := vm_b a) (maxL := vm_ml a) (ret := vm_ret a) w7 rfl ?_
  intro p e s m args below meth c s₁ B hml hv
  obtain ⟨rfl, hK, hX, hP⟩ := hv
  have hx := B.exec
  have hb := B.bytes
  have hr := B.returns
  have hts0 := atoms_spec (ws := vm_wsK a) B.pre
  have hts : ∀ w ∈ vm_TG, w.before _ s = true := fun w hw => hts0 w (List.mem_cons_of_mem _ hw)
  have hown : s.vm.findClass (vm_y a).cls = some m.cls := findClass_of_methodNamed B.named
  rw [w4] at hown
  have hlocks := B.notSynchronized
  have hnm : meth.name = (vm_y a).name := (name_of_methodNamed B.named B.method).1
  have hf := hX.2.2.2.2.2
  have hl := lv_entry (as.map (vm_v G)) (n := vm_ml a) (by rw [vm_sl_len hf]; exact hle)
  rw [lg_entry_eq]
  generalize (lg_sl (as.map (vm_v G)) ++ List.replicate (vm_ml a - (lg_sl (as.map (vm_v G))).length) Slot.unset).toArray = ls at hl ⊢
  have C : vm_C G X a p s m _ meth c := ⟨hx, hb, hml, hown, hts, (fun h => hnm.trans h), hK, hX, by omega⟩
  refine ih a 0 (vm_entry a as) [] (vm_mc a) (vm_ms a) σ σ' r hrun p e _ s m _ below meth c s.heap [] 0 0 _ ls C (Nat.le_refl _) (Nat.le_refl _) hP va_S.rf (vm_entry_LV hf hle hl) (by rw [Nat.zero_add]; exact Nat.le_refl _) (by rw [Nat.zero_add]; exact Nat.le_refl _) ?_
  intro i len a' b cx d z pc' S' H' locs' ls' cells' slots' hck hrt hP' hS' h1 h2
  refine W.widen (k := vm_mc a) (n := vm_ms a) (by omega) (by omega) ?_
  exact vm_leave hx hb hr hlocks hck hrt (fun t ht hW => ⟨⟨rfl, by rw [ht]; exact hP'⟩, hS'.F ht⟩) (fun q hq => hS'.2.2 q hq)
end VME
