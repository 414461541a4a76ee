/-! (the words of the skeleton, and whole_start) -/
/-! THE CLAIM OUT OF ONE WALK OF THE LAW'S BODY. Your part is whole_start (and what it stands on); all else here is the same for every law, but numbers. -/
def R_law : String := "BirchLeafLaw"
def lw_P (b : Addr) (xs : List Int32) (args : Array Value) (s : State) : Prop := args = #[.ref b] ∧ s.IntsAt b xs ∧ xs.length ≤ 3072 ∧ (Jvm.Cond.and given_1 narrow_1).before args s = true
def lw_Q (_ : Array Value) (s : State) (o : Outcome) (t : State) : Prop := o = .returned (some (.int 1)) ∧ Framed s o t [] 65 6545
def lw_Z (below : List Frame) (a : Array Value) (s : State) : State → Prop := fun t => ∃ o, t.status = .running ∧ Ended t below o ∧ lw_Q a s o t
/-- the law's own end, with 1 on the stack, nothing written that was there before, its room as the claim has it -/
theorem lw_ret {p : Program} {l : Launch} {e : Env} {s : State} {m : MethodId} {below : List Frame} {meth : Method} {c : Code} {b : Nat} (hx : p.tables.exec = Jvm.exec) (hb : c.code = code) (hr : meth.sig.returnType = ret) (hlocks : meth.locks = false) {pc : Nat} {H : Heap} {ls : Array Slot} (hdg : decode code pc = .ok (.ireturn, 1)) : W p l e room_1 s m #[Value.ref b] below meth c H [] 65 6545 (lw_Z below #[Value.ref b] s) (F0 m pc ls [.int 1]) := by
  intro T hT X
  obtain ⟨fs, hret, hrun, hended, hW, hframe⟩ := X.leave (v := some (.int 1)) (hlocks := hlocks) (fun h => by rw [hr] at h; cases h)
  have hmeth' : T.vm.method? m = some meth := X.method'
  refine ⟨T.setFrames fs, ?_, .returned (some (.int 1)), hrun, hended, rfl, ⟨_, rfl⟩, hW, hframe⟩
  jvm_step X.here [X.here.top, hx, hb, hdg, hmeth', hr, ret, narrow_b1]
  (try refine ⟨rfl, ?_⟩); (try refine ⟨rfl, ?_⟩)
  first | (intro acts; rw [hret _ acts rfl rfl rfl]) | rw [hret _ _ rfl rfl rfl]
  exact Steps.refl _
/-- what holds at the law's entry: the machine, the code, the tables' words (any of lw_tbl by 'hts w (by decide +kernel)'), the script of L ints xs at the cell b, what the Statement gives of the start (any of its parts by flat_of_before) -/
def lw_At (p : Program) (s : State) (m : MethodId) (meth : Method) (c : Code) (b L : Nat) (xs : Nat → Int32) : Prop :=
  p.tables.exec = Jvm.exec ∧ c.code = code ∧ meth.sig.returnType = ret ∧ c.maxLocals = 4 ∧ s.vm.findClass R_law = some m.cls ∧ (∀ w ∈ lw_tbl, w.before #[Value.ref b] s = true) ∧ va_X b L xs s s.heap ∧ b < s.heap.size ∧ meth.locks = false ∧ (Jvm.Cond.and given_1 narrow_1).before #[Value.ref b] s = true
theorem lw_in {w : Cond} (h : w ∈ tables_1) : w ∈ lw_tbl := List.mem_append_right _ h
def lw_F : List Cond := flatC (Jvm.Cond.and given_1 narrow_1)
def lw_tm (i : Nat) : Term := Term.string RX5 (vm_strO.getD i 0)
theorem lw_hex : ∀ i, i < 8 → Cond.exactly (lw_tm i) "java/lang/String" ∈ lw_F := by decide +kernel
theorem lw_hco : ∀ i, i < 8 → Cond.eq (.field (lw_tm i) "java/lang/String" "coder" "B") (.int 0) ∈ lw_F := by decide +kernel
theorem lw_har : ∀ i, i < 8 → Cond.arrayOf (.field (lw_tm i) "java/lang/String" "value" "[B") .byte ∈ lw_F := by decide +kernel
theorem lw_hle : ∀ i, i < 8 → Cond.eq (.length (.field (lw_tm i) "java/lang/String" "value" "[B")) (.int (Int32.ofNat ((vm_strB.map List.length).getD i 0))) ∈ lw_F := by decide +kernel
theorem lw_hel : ∀ i, i < 8 → ∀ j, j < (vm_strB.map List.length).getD i 0 → Cond.eq (.elem (.field (lw_tm i) "java/lang/String" "value" "[B") (.int (Int32.ofNat j))) (.int ((vm_strB.getD i []).getD j 0)) ∈ lw_F := by decide +kernel
theorem lw_hne : ∀ i, i < 8 → ∀ j, j < 8 → i ≠ j → (Cond.not (Cond.eq (lw_tm i) (lw_tm j)) ∈ lw_F ∨ Cond.not (Cond.eq (lw_tm j) (lw_tm i)) ∈ lw_F) := by decide +kernel
theorem lw_hsr : ∀ i, i < 8 → Cond.stringRef RX5 (vm_strO.getD i 0) (vm_strT.getD i "") ∈ tables_1 := by decide +kernel
theorem lw_hz1 : Cond.laysStatic "java/lang/String" "COMPACT_STRINGS" "Z" ∈ tables_1 ∧ Cond.initialized "java/lang/String" ∈ tables_1 ∧ Cond.eq (.static "java/lang/String" "COMPACT_STRINGS" "Z") (.int 1) ∈ lw_F := by decide +kernel
theorem lw_hz2 : Cond.laysStatic "jdk/internal/util/Preconditions" "SIOOBE_FORMATTER" "Ljava/util/function/BiFunction;" ∈ tables_1 ∧ Cond.initialized "jdk/internal/util/Preconditions" ∈ tables_1 ∧ Cond.isRef (.static "jdk/internal/util/Preconditions" "SIOOBE_FORMATTER" "Ljava/util/function/BiFunction;") ∈ lw_F := by decide +kernel
theorem lw_nw {w : Cond} {A : Array Value} {s : State} (hn : vm_nw w = true) (h : w.before A s = true) : va_Nw w s := by
  cases w <;> first | (cases hn; done) | exact va_Nw.of rfl h
theorem lw_180 : vm_b 180 = code ∧ vm_ml 180 = 4 ∧ vm_own 180 = R_law ∧ vm_ret 180 = some .boolean ∧ vm_rf 180 ≤ room_1.frames ∧ vm_rl 180 ≤ room_1.locals ∧ ¬ (vm_y 180).name = "<init>" := ⟨rfl, rfl, rfl, rfl, by decide, by decide, by decide +kernel⟩
theorem lw_rt {i : Instr} {S : List Value} (h : vm_rt 180 i S = some (some (.int (nI 1)))) : i = .ireturn ∧ S = [.int (nI 1)] := by
  have hv := lw_180.2.2.2.1
  cases i with
  | ireturn =>
    refine ⟨rfl, ?_⟩
    simp only [vm_rt, hv] at h
    split at h
    · next he => cases he
    · next x he =>
      split at h
      · cases h; rfl
      · cases h
    · next he => cases he
    · next he => cases he
    · cases h
  | return_ =>
    simp only [vm_rt, hv] at h
    cases h
  | lreturn =>
    simp only [vm_rt, hv] at h
    cases h
  | areturn =>
    simp only [vm_rt, hv] at h
    cases h
  | _ => exact absurd h (by simp [vm_rt])
theorem whole_start {p : Program} {e : Env} {s : State} {m : MethodId} {below : List Frame} {meth : Method} {c : Code} (l : Launch) (hflags : l.flags = flags0) {b L : Nat} {xs : Nat → Int32} (hL : L ≤ 3072) (C0 : lw_At p s m meth c b L xs) : W p l e room_1 s m #[Value.ref b] below meth c s.heap [] 0 0 (lw_Z below #[Value.ref b] s) (entryFrame m ([Value.ref b] : List Value).toArray 4) := by
  obtain ⟨hx, hb, hr, hml, hown, hts, hX, hbl, hlocks, hgv⟩ := id C0
  have hA : ∀ a : Nat, a < s.heap.size → ¬ (fun q : Nat => s.heap.size ≤ q) a := fun a h => Nat.not_le.mpr h
  have hs : ∀ w ∈ lw_F, w.before #[Value.ref b] s = true := flat_of_before _ hgv
  have ht1 : ∀ w ∈ tables_1, w.before #[Value.ref b] s = true := fun w hw => hts w (lw_in hw)
  -- the classes
  have hcls : ∀ k : Nat, ∃ q : ClassId × (Nat → Nat), k < 8 → u_Kn s (vm_cls k).1 (vm_cls k).2.1 (vm_cls k).2.2 q.1 q.2 := by
    intro k
    by_cases hk : k < 8
    · obtain ⟨cC, iS, h⟩ := u_known (C := (vm_cls k).1) (T := (vm_cls k).2.1) (N := (vm_cls k).2.2) (n := (vm_cls k).2.2) hts (fun w hw => lw_in (vm_TG_ws k hk w hw).1) (ht1 _ (vm_cl_words k hk).1.1)
      exact ⟨(cC, iS), fun _ => h⟩
    · exact ⟨(0, fun _ => 0), fun h => absurd h hk⟩
  obtain ⟨D, hD⟩ := Classical.axiomOfChoice hcls
  have harr : ∀ t : Nat, ∃ cA : ClassId, t < 3 → ArrOfT s cA (vm_tyA t) ∧ s.vm.findClass ("[" ++ (vm_tyA t).toString) = some cA := by
    intro t
    by_cases ht : t < 3
    · have hw : Cond.arrayClass (vm_tyA t) ∈ vm_TG := by
        match t, ht with
        | 0, _ => exact vm_words3 _ (by simp [vm_tyA])
        | 1, _ => exact vm_words3 _ (by simp [vm_tyA])
        | 2, _ => exact vm_words3 _ (by simp [vm_tyA])
      obtain ⟨cA, kA, comp, h1, h2, h3⟩ := Cond.arrayClass_spec (hts _ (List.mem_filter.mp hw).1)
      exact ⟨cA, fun _ => ⟨fun n z => ⟨fun k h => (by cases h), kA, h2, comp, h3⟩, h1⟩⟩
    · exact ⟨0, fun h => absurd h ht⟩
  obtain ⟨cA, hcA⟩ := Classical.axiomOfChoice harr
  obtain ⟨aK, aV, hSt, hEv⟩ := vk_Sof (args := #[Value.ref b]) (s := s) (N := 8) (tm := lw_tm) (len := vm_strB.map List.length) (byt := vm_strB) (A := fun q : Nat => s.heap.size ≤ q) (by decide) (fun i hi => hs _ (lw_hex i hi)) (fun i hi => hs _ (lw_hco i hi)) (fun i hi => hs _ (lw_har i hi)) (fun i hi => hs _ (lw_hle i hi)) (fun i hi j hj => hs _ (lw_hel i hi j hj))
    (fun i j hi hj hij => (lw_hne i hi j hj hij).imp (fun h => hs _ h) (fun h => hs _ h)) hA
  have hZ1 : va_Z "java/lang/String" "COMPACT_STRINGS" "Z" (.int 1) (fun q : Nat => s.heap.size ≤ q) s s.heap := va_Zof (ht1 _ lw_hz1.1) (ht1 _ lw_hz1.2.1) (va_eqi (hs _ lw_hz1.2.2)) hA
  obtain ⟨v, hv, hvr⟩ := Cond.isRef_spec (hs _ lw_hz2.2.2)
  have hZ2 : va_Z "jdk/internal/util/Preconditions" "SIOOBE_FORMATTER" "Ljava/util/function/BiFunction;" v (fun q : Nat => s.heap.size ≤ q) s s.heap := va_Zof (ht1 _ lw_hz2.1) (ht1 _ lw_hz2.2.1) hv hA
  have hvn : v = .null ∨ ∃ a, v = .ref a := by
    cases v with
    | null => exact Or.inl rfl
    | ref a => exact Or.inr ⟨a, rfl⟩
    | _ => cases hvr
  let G : vm_G := (s.heap.size, ((fun k => (D k).1), (fun k => (D k).2)), cA, aK, aV, b, v)
  have hKW : vm_KW G s := by
    refine ⟨⟨fun k q hq => ?_, fun k q hq => ?_⟩, fun w hw hn => lw_nw hn (ht1 w hw), fun i hi => vk_R.of (ht1 _ (lw_hsr i hi)) (hEv i hi)⟩
    · have hk : k < 8 := (List.getElem?_eq_some_iff.mp hq).1
      have hq2 := (vm_cl_at hk).symm.trans hq
      cases hq2
      exact hD k hk
    · have hk : k < 3 := (List.getElem?_eq_some_iff.mp hq).1
      match k, hk, hq with
      | 0, _, hq => cases hq; exact ⟨(hcA 0 (by omega)).1, (hcA 0 (by omega)).2⟩
      | 1, _, hq => cases hq; exact ⟨(hcA 1 (by omega)).1, (hcA 1 (by omega)).2⟩
      | 2, _, hq => cases hq; exact ⟨(hcA 2 (by omega)).1, (hcA 2 (by omega)).2⟩
  have hXW : vm_XW G (L, xs) s s.heap := ⟨hX, hbl, hSt, hZ1, hZ2, hvn⟩
  obtain ⟨w1, w2, w3, w4, w5, w6, w7⟩ := lw_180
  have hC : vm_C G (L, xs) 180 p s m #[Value.ref b] meth c := ⟨hx, hb.trans w1.symm, hml.trans w2.symm, by rw [w3]; exact hown, fun w hw => hts w (List.mem_filter.mp hw).1, fun h => absurd h w7, hKW, hXW, by decide⟩
  have hP : vm_PW G (vm_SH.take 0, (fun _ _ => none), (fun _ _ => 0)) s.heap := by
    refine ⟨fun k q h => ?_, rfl, Nat.zero_le _, fun r sh h => ?_⟩
    · cases h
    · cases h
  have hl := lv_entry ([Value.ref b]) (n := 4) (Nat.le_of_ble_eq_true rfl)
  rw [lg_entry_eq]
  generalize (lg_sl ([Value.ref b]) ++ List.replicate (4 - (lg_sl ([Value.ref b])).length) Slot.unset).toArray = ls at hl ⊢
  have hLV : vm_LV G ls (vm_ml 180) [.ref 2000, .null, .null, .null] := vm_entry_LV (k := 180) (as := [.ref 2000]) hvn (by decide) hl
  obtain ⟨n, r, σ', h1, h2⟩ := law_runs (X := (L, xs)) hL
  subst h2
  refine vm_run_ok l G (L, xs) n 180 0 _ [] 65 6545 _ σ' _ h1 p e room_1 s m _ below meth c s.heap [] 0 0 _ ls hC w5 w6 hP va_S.rf hLV (by decide) (by decide) ?_
  intro i len a b' cx d z pc' S' H' locs' ls' cells' slots' hck hrt hP' hS' hc1 hs1
  have hd := vm_dec hck (vm_len_ret hrt) (by decide)
  obtain ⟨e1, e2⟩ := lw_rt hrt
  subst e1
  subst e2
  refine va_forget (fun q hq => hS'.2.2 q hq) ?_
  refine W.widen (k := 65) (n := 6545) (by omega) (by omega) ?_
  rw [w1] at hd
  exact lw_ret hx hb hr hlocks hd
