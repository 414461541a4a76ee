/-! what makes cells, and the row that copies a stretch of an array -/
section VMF
variable {p : Program} {l : Launch} {e : Env} {R : Room} {s : State} {m : MethodId} {args : Array Value} {below : List Frame} {meth : Method} {c : Code} {H : Heap} {locs : List Loc} {cells slots : Nat} {Q : State → Prop}
variable {G : vm_G} {X : Nat × (Nat → Int32)} {k : Nat}
theorem vm_cl_words : ∀ c, c < 8 → (Cond.instantiable (vm_cls c).1 (vm_cls c).2.2 ∈ tables_1 ∧ goodWord (Cond.instantiable (vm_cls c).1 (vm_cls c).2.2) = true) ∧ (Cond.initialized (vm_cls c).1 ∈ tables_1 ∧ goodWord (Cond.initialized (vm_cls c).1) = true) := by
  have h : (List.range 8).all (fun c => (decide (Cond.instantiable (vm_cls c).1 (vm_cls c).2.2 ∈ tables_1) && goodWord (Cond.instantiable (vm_cls c).1 (vm_cls c).2.2)) && (decide (Cond.initialized (vm_cls c).1 ∈ tables_1) && goodWord (Cond.initialized (vm_cls c).1))) = true := by decide +kernel
  intro c hc
  have h1 := List.all_eq_true.mp h c (List.mem_range.mpr hc)
  simp only [Bool.and_eq_true, decide_eq_true_eq] at h1
  exact h1
theorem vm_words3 : ∀ w ∈ [Cond.arrayClass .int, Cond.arrayClass .byte, Cond.arrayClass .boolean, Cond.instanceMethod objectInit, Cond.native arraycopyName, Cond.static arraycopyName, Cond.initialized "java/lang/System"], w ∈ vm_TG := by
  have h : [Cond.arrayClass .int, Cond.arrayClass .byte, Cond.arrayClass .boolean, Cond.instanceMethod objectInit, Cond.native arraycopyName, Cond.static arraycopyName, Cond.initialized "java/lang/System"].all (fun w => decide (w ∈ tables_1) && goodWord w) = true := by decide +kernel
  intro w hw
  have h1 := List.all_eq_true.mp h w hw
  simp only [Bool.and_eq_true, decide_eq_true_eq] at h1
  exact vm_TG_in (List.mem_append_right _ h1.1) h1.2
theorem vm_words4 : Cond.code objectInit ⟨#[0xb1]⟩ 1 none ∈ vm_TG := by
  have h : decide (Cond.code objectInit ⟨#[0xb1]⟩ 1 none ∈ tables_1) = true := by decide +kernel
  exact vm_TG_in (List.mem_append_right _ (of_decide_eq_true h)) vm_good_code
theorem vm_words5 : ∀ w ∈ [Cond.static Lib.Math.max.name, Cond.static Lib.Math.min.name, Cond.initialized "java/lang/Math"], w ∈ vm_TG := by
  have h : [Cond.static Lib.Math.max.name, Cond.static Lib.Math.min.name, Cond.initialized "java/lang/Math"].all (fun w => decide (w ∈ tables_1) && goodWord w) = true := by decide +kernel
  intro w hw
  have h1 := List.all_eq_true.mp h w hw
  simp only [Bool.and_eq_true, decide_eq_true_eq] at h1
  exact vm_TG_in (List.mem_append_right _ h1.1) h1.2
theorem vm_words6 : Cond.code Lib.Math.max.name Lib.Math.max.code 2 (some .int) ∈ vm_TG ∧ Cond.code Lib.Math.min.name Lib.Math.min.code 2 (some .int) ∈ vm_TG := by
  have h : decide (Cond.code Lib.Math.max.name Lib.Math.max.code 2 (some .int) ∈ tables_1) && decide (Cond.code Lib.Math.min.name Lib.Math.min.code 2 (some .int) ∈ tables_1) = true := by decide +kernel
  simp only [Bool.and_eq_true, decide_eq_true_eq] at h
  exact ⟨vm_TG_in (List.mem_append_right _ h.1) vm_good_code, vm_TG_in (List.mem_append_right _ h.2) vm_good_code⟩
theorem vm_ws_new (G : vm_G) (σ : vm_St) (sh : vm_Sh) : vm_ws G (vm_new σ sh) = vm_ws G σ ++ [(G.1 + σ.1.length, vm_ce G (vm_new σ sh) σ.1.length sh)] := by
  apply List.ext_getElem?
  intro i
  by_cases hl : i < σ.1.length
  · rw [List.getElem?_append_left (by rw [vm_ws_len]; exact hl)]
    have h1 : (vm_new σ sh).1[i]? = some σ.1[i] := by
      show (σ.1 ++ [sh])[i]? = _
      rw [List.getElem?_append_left hl, List.getElem?_eq_getElem hl]
    rw [vm_ws_at G h1, vm_ws_at G (List.getElem?_eq_getElem hl)]
    have e : vm_ce G (vm_new σ sh) i σ.1[i] = vm_ce G σ i σ.1[i] := vm_ce_same G (by funext j; simp [vm_new, Nat.ne_of_lt hl]) (by funext j; simp [vm_new, Nat.ne_of_lt hl]) _
    rw [e]
  · rw [List.getElem?_append_right (by rw [vm_ws_len]; omega), vm_ws_len]
    by_cases he : i = σ.1.length
    · subst he
      have h1 : (vm_new σ sh).1[σ.1.length]? = some sh := by
        show (σ.1 ++ [sh])[_]? = _
        rw [List.getElem?_append_right (Nat.le_refl _), Nat.sub_self]
        rfl
      rw [vm_ws_at G h1, Nat.sub_self]
      rfl
    · rw [List.getElem?_eq_none (by rw [vm_ws_len]; show (σ.1 ++ [sh]).length ≤ i; rw [List.length_append]; simp; omega), List.getElem?_eq_none (by simp; omega)]
/-- the world behind a new cell -/
theorem vm_grown {σ : vm_St} (hP : vm_PW G σ H) (hS : va_S (vm_A G) s.heap H locs) {sh : vm_Sh} (hlt : σ.1.length < 1000) (hok : (sh.1 = 0 ∧ sh.2.1 < 8 ∧ sh.2.2 = (vm_cls sh.2.1).2.2) ∨ (sh.1 = 1 ∧ sh.2.1 < 3)) {H' : Heap}
    (e1 : va_at (vm_D G) vwCl (H.size, vm_ce G (vm_new σ sh) σ.1.length sh) H') (e2 : H'.size = H.size + 1) (e3 : ∀ q, q < H.size → H'[q]? = H[q]?) : vm_PW G (vm_new σ sh) H' ∧ va_S (vm_A G) s.heap H' locs := by
  refine ⟨⟨?_, ?_, ?_, ?_⟩, Nat.le_trans hS.1 (by omega), fun x h1 h2 => (e3 x (Nat.lt_of_lt_of_le h1 hS.1)).trans (hS.2.1 x h1 h2), hS.2.2⟩
  · rw [vm_ws_new]
    refine (hP.1.kept (fun k x hx => e3 x.1 ((hP.1 k x hx).lt))).app (fun k x hx => ?_)
    have hz : k < 1 := (List.getElem?_eq_some_iff.mp hx).1
    rw [show k = 0 by omega] at hx
    cases hx
    rw [hP.2.1]
    exact e1
  · show G.1 + (σ.1 ++ [sh]).length = _
    rw [e2, ← hP.2.1, List.length_append]
    rfl
  · show (σ.1 ++ [sh]).length ≤ 1000
    rw [List.length_append]
    show σ.1.length + 1 ≤ 1000
    omega
  · intro r s' hr
    by_cases hl : r < σ.1.length
    · have h1 : σ.1[r]? = some s' := by
        rw [← hr]
        show _ = (σ.1 ++ [sh])[r]?
        rw [List.getElem?_append_left hl]
      exact hP.2.2.2 r s' h1
    · have h1 : (σ.1 ++ [sh])[r]? = some s' := hr
      rw [List.getElem?_append_right (by omega)] at h1
      have hz : r - σ.1.length < 1 := (List.getElem?_eq_some_iff.mp h1).1
      rw [show r - σ.1.length = 0 by omega] at h1
      cases h1
      exact hok
theorem vm_newO (C : vm_C G X k p s m args meth c) {σ : vm_St} (hP : vm_PW G σ H) (hS : va_S (vm_A G) s.heap H locs) {ls : Array Slot} {pc len a b cx d idx : Nat} {z : Int} {rest : List Value} (hck : vm_chk k (pc, .new idx, len, a, b, cx, d, z) = true)
    (hlt : σ.1.length < 1000) (hc : cells + 1 ≤ R.cells) (hs : slots + b ≤ R.slots)
    (kk : ∀ (H' : Heap), vm_PW G (vm_new σ (0, a, b)) H' → va_S (vm_A G) s.heap H' locs → W p l e R s m args below meth c H' locs (cells + 1) (slots + b) Q (F0 m (pc + 3) ls (vm_v G (.ref σ.1.length) :: rest))) : W p l e R s m args below meth c H locs cells slots Q (F0 m pc ls rest) := by
  obtain ⟨hx, hbc, hml, hown, hts, hin, hK, hX, hk⟩ := C
  have hd := vm_dec hck (n := 3) rfl (by decide)
  simp only [vm_chk, Bool.and_eq_true, decide_eq_true_eq] at hck
  obtain ⟨-, -, ha, hb, hw⟩ := hck
  subst hb
  have hw2 := vm_cl_words a ha
  have hKn := hK.1.1 a _ (vm_cl_at ha)
  refine W.newcK hx hbc hown (hts _ (vm_wd_g hw (by first | rfl | simp [goodWord, Cond.onTables, Cond.keeps, Cond.steady]))) (hts _ (vm_TG_in (List.mem_append_right _ hw2.1.1) hw2.1.2)) (hts _ (vm_TG_in (List.mem_append_right _ hw2.2.1) hw2.2.2)) rfl hd hc hs hKn.2.1 rfl fun H1 kC hkC e1 z1 o1 => ?_
  have hg := vm_grown (s := s) (locs := locs) (sh := (0, a, (vm_cls a).2.2)) hP hS hlt (Or.inl ⟨rfl, ha, rfl⟩) (H' := H1) (by
    rw [vm_ce_o]
    refine ⟨_, vm_cl_at ha, (u_born (vm_ty a) hts (vm_ws_in ha) hKn hkC e1 (vm_ty_ok a ha)).to (fun j hj => ?_)⟩
    have hj' : j < (vm_cls a).2.2 := hj
    have e : vp_V ((List.range (vm_cls a).2.2).map (fun j => vm_v G (vm_fv (vm_new σ (0, a, (vm_cls a).2.2)) σ.1.length a j))) j = vm_v G (vm_fv (vm_new σ (0, a, (vm_cls a).2.2)) σ.1.length a j) := by
      unfold vp_V
      simp [List.getD, hj']
    rw [e]
    unfold vm_fv
    rcases vm_ty_kind a ha j hj' with h | ⟨h, h'⟩
    · rw [if_pos (by unfold vm_isI; rw [h]), h]
      simp [vm_new, vm_v, defaultValue]
    · rw [if_neg (by rw [h]; decide)]
      rcases h' with ⟨n, h'⟩ | ⟨n, h'⟩ <;> rw [h'] <;> simp [vm_new, vm_v, vm_rv, defaultValue]) z1 o1
  have h9 := kk H1 hg.1 hg.2
  rw [show vm_v G (.ref σ.1.length) = .ref H.size by rw [← hP.2.1]; exact vm_mp_lt G hlt] at h9
  exact h9
theorem vm_newA (C : vm_C G X k p s m args meth c) {σ : vm_St} (hP : vm_PW G σ H) (hS : va_S (vm_A G) s.heap H locs) {ls : Array Slot} {pc len a b cx d ti : Nat} {t : ArrayType} {z : Int} {rest : List Value} {x : Int32} (hck : vm_chk k (pc, .newarray t, len, a, b, cx, d, z) = true)
    (hti : vm_arr t = some ti) (hx0 : ¬ x < 0) (hxb : x.toNatClampNeg ≤ 10000) (hlt : σ.1.length < 1000) (hc : cells + 1 ≤ R.cells) (hs : slots + x.toNatClampNeg ≤ R.slots)
    (kk : ∀ (H' : Heap), vm_PW G (vm_new σ (1, ti, x.toNatClampNeg)) H' → va_S (vm_A G) s.heap H' locs → W p l e R s m args below meth c H' locs (cells + 1) (slots + x.toNatClampNeg) Q (F0 m (pc + 2) ls (vm_v G (.ref σ.1.length) :: rest))) : W p l e R s m args below meth c H locs cells slots Q (F0 m pc ls (.int x :: rest)) := by
  obtain ⟨hx, hbc, hml, hown, hts, hin, hK, hX, hk⟩ := C
  have hd := vm_dec hck (n := 2) rfl (by decide)
  have key : ∀ (ty : FieldType), newarray.typeOf t = ty → ty = vm_tyA ti → ti < 3 → defaultValue ty = .int 0 → componentBytes ty ≤ 8 → (Cond.arrayClass ty ∈ vm_TG) → (∀ cA, s.vm.findClass ("[" ++ ty.toString) = some cA → cA = vm_cA G ti) → W p l e R s m args below meth c H locs cells slots Q (F0 m pc ls (.int x :: rest)) := by
    intro ty hty h1 h3 h0 hcb hw hca
    refine va_newaK hx hbc (by rw [hty]; exact hts _ hw) rfl hd rfl hx0 rfl (by
      rw [hty]
      calc x.toNatClampNeg * componentBytes ty ≤ 10000 * 8 := Nat.mul_le_mul hxb hcb
        _ ≤ 536870912 := by decide) hc hs rfl fun H1 cA e1 z1 o1 hAr hNm => ?_
    rw [hty] at e1 hNm
    have hcA := hca cA hNm
    subst hcA
    have hg := vm_grown (s := s) (locs := locs) (sh := (1, ti, x.toNatClampNeg)) hP hS hlt (Or.inr ⟨rfl, h3⟩) (H' := H1) (by
      rw [vm_ce_a]
      show H1[H.size]? = some (vp_cell _ _)
      rw [e1, vp_cell_i, h0]
      congr 2
      funext j
      simp [vm_new]) z1 o1
    have h9 := kk H1 hg.1 hg.2
    rw [show vm_v G (.ref σ.1.length) = .ref H.size by rw [← hP.2.1]; exact vm_mp_lt G hlt] at h9
    exact h9
  cases t with
  | int => cases hti; exact key .int rfl rfl (by decide) rfl (by decide) (vm_words3 _ (by simp)) (fun cA h => Option.some.inj (h.symm.trans (hK.1.2 0 _ rfl).2))
  | byte => cases hti; exact key .byte rfl rfl (by decide) rfl (by decide) (vm_words3 _ (by simp)) (fun cA h => Option.some.inj (h.symm.trans (hK.1.2 1 _ rfl).2))
  | boolean => cases hti; exact key .boolean rfl rfl (by decide) rfl (by decide) (vm_words3 _ (by simp)) (fun cA h => Option.some.inj (h.symm.trans (hK.1.2 2 _ rfl).2))
  | _ => cases hti
theorem vm_nn (z : Int32) (hz : ¬ z < 0) : z.toInt = (z.toNatClampNeg : Int) := by
  have hz0 : (0 : Int) ≤ z.toInt := by
    have := Int32.not_lt.mp hz
    simpa using Int32.le_iff_toInt_le.mp this
  show z.toInt = ((z.toInt.toNat : Nat) : Int)
  omega
theorem vm_copy (C : vm_C G X k p s m args meth c) {σ : vm_St} (hP : vm_PW G σ H) (hS : va_S (vm_A G) s.heap H locs) {ls : Array Slot} (hls : ls.size = vm_ml k) {pc idx q r n0 n1 : Nat} {rest : List Value} {sp dp n : Int32}
    (hlink : (Cond.methodLink (vm_own k) idx arraycopyName).before args s = true) (hq : σ.1[q]? = some (1, 0, n0)) (hr : σ.1[r]? = some (1, 0, n1)) (h1 : ¬ sp < 0) (h2 : ¬ dp < 0) (h3 : ¬ n < 0) (h4 : sp.toNatClampNeg + n.toNatClampNeg ≤ n0) (h5 : dp.toNatClampNeg + n.toNatClampNeg ≤ n1)
    (hR1 : 1 ≤ R.frames) (hR2 : vm_wt rest + (nativeFrameWords "java/lang/System" "arraycopy" 5 + 11) ≤ R.locals) (hdg : decode (vm_b k) pc = .ok (.invokestatic idx, 3))
    (kk : ∀ (H' : Heap) (locs' : List Loc), vm_PW G (σ.1, σ.2.1, fun i => if i = r then va_cpy (σ.2.2 q) (σ.2.2 r) sp.toNatClampNeg dp.toNatClampNeg n.toNatClampNeg else σ.2.2 i) H' → va_S (vm_A G) s.heap H' locs' → W p l e R s m args below meth c H' locs' cells slots Q (F0 m (pc + 3) ls (rest.map (vm_v G)))) :
    W p l e R s m args below meth c H locs cells slots Q (F0 m pc ls ((Value.int n :: .int dp :: .ref r :: .int sp :: .ref q :: rest).map (vm_v G))) := by
  have hf := vm_own_f C
  obtain ⟨hx, hbc, hml, hown, hts, hin, hK, hX, hk⟩ := C
  have eq : vm_v G (.ref q) = .ref (G.1 + q) := vm_stk_ref hP hq
  have er : vm_v G (.ref r) = .ref (G.1 + r) := vm_stk_ref hP hr
  have est : (Value.int n :: .int dp :: .ref r :: .int sp :: .ref q :: rest).map (vm_v G) = Value.int n :: .int dp :: .ref (G.1 + r) :: .int sp :: .ref (G.1 + q) :: rest.map (vm_v G) := by
    simp only [List.map_cons, eq, er]
    rfl
  rw [est]
  have hatq := vm_ws_at G hq
  have hatr := vm_ws_at G hr
  rw [vm_ce_a] at hatq hatr
  have hc0 : H[G.1 + q]? = some (vp_cell (vm_cA G 0) (n0, .inl (σ.2.2 q))) := hP.1 q _ hatq
  have hc1 : H[G.1 + r]? = some (vp_cell (vm_cA G 0) (n1, .inl (σ.2.2 r))) := hP.1 r _ hatr
  intro T hT X9
  obtain ⟨-, k0, hk0, cm0, hkk0⟩ := (hK.1.2 0 _ rfl).1 n0 (fun j => .int (σ.2.2 q j))
  obtain ⟨-, k1, hk1, cm1, hkk1⟩ := (hK.1.2 0 _ rfl).1 n1 (fun j => .int (σ.2.2 r j))
  obtain ⟨vm', X', step⟩ := X9.arraycopy hx hown hlink (hts _ (vm_words3 _ (by simp))) (hts _ (vm_words3 _ (by simp))) (hts _ (vm_words3 _ (by simp))) (src := G.1 + q) (dst := G.1 + r) (cs := vp_cell (vm_cA G 0) (n0, .inl (σ.2.2 q))) (cd := vp_cell (vm_cA G 0) (n1, .inl (σ.2.2 r))) (srcPos := sp) (destPos := dp) (n := n) (by rw [hT]; exact hc0) (by rw [hT]; exact hc1)
    (fun _ h => by cases h) (fun _ h => by cases h) (fun h => by cases h) (fun h => by cases h) hk0 hk1 hkk0 hkk1 (by simp [refKind]) h1 h2 h3
    (by rw [vm_nn sp h1, vm_nn n h3]; show ¬ _ > ((arrV (vm_cA G 0) n0 (fun j => .int (σ.2.2 q j))).slots.size : Int); rw [arrV_size]; omega)
    (by rw [vm_nn dp h2, vm_nn n h3]; show ¬ _ > ((arrV (vm_cA G 0) n1 (fun j => .int (σ.2.2 r j))).slots.size : Int); rw [arrV_size]; omega)
    (fun vm₁ _ i hi => by
      have e9 : (vp_cell (vm_cA G 0) (n0, .inl (σ.2.2 q))).slots.getD (sp.toNatClampNeg + i) .null = .int (σ.2.2 q (sp.toNatClampNeg + i)) := by
        show (arrV (vm_cA G 0) n0 (fun j => .int (σ.2.2 q j))).slots.getD _ _ = _
        rw [Array.getD_eq_getD_getElem?, arrV_read _ _ (by omega)]
        rfl
      rw [e9]
      exact ⟨rfl, trivial⟩)
    (g := F0 m pc ls (Value.int n :: .int dp :: .ref (G.1 + r) :: .int sp :: .ref (G.1 + q) :: rest.map (vm_v G))) rfl (by rw [hml]; exact hls) (rest := rest.map (vm_v G)) rfl (by rw [hbc]; exact hdg) hR1 (by rw [vm_wt_map hf]; show 2 * 0 + _ + _ ≤ _; omega)
  have ecp : copied (vp_cell (vm_cA G 0) (n0, .inl (σ.2.2 q))) (vp_cell (vm_cA G 0) (n1, .inl (σ.2.2 r))) sp dp n = vp_cell (vm_cA G 0) (n1, .inl (va_cpy (σ.2.2 q) (σ.2.2 r) sp.toNatClampNeg dp.toNatClampNeg n.toNatClampNeg)) := va_copied (fun z => .int z) (vm_cA G 0) (vm_cA G 0) (σ.2.2 q) (σ.2.2 r) h4
  rw [ecp] at X' step
  have hlr : G.1 + r < H.size := (Array.getElem?_eq_some_iff.mp hc1).1
  generalize hnc : vp_cell (vm_cA G 0) (n1, .inl (va_cpy (σ.2.2 q) (σ.2.2 r) sp.toNatClampNeg dp.toNatClampNeg n.toNatClampNeg)) = nc at X' step
  have hheap : ((T.setVm vm').setCell (G.1 + r) nc).heap = H.setIfInBounds (G.1 + r) nc := by rw [← hT]; rfl
  have oq : ∀ x : Nat, x ≠ G.1 + r → (H.setIfInBounds (G.1 + r) nc)[x]? = H[x]? := fun x hxr => by simp [Array.getElem?_setIfInBounds, Ne.symm hxr]
  have hnew : (H.setIfInBounds (G.1 + r) nc)[G.1 + r]? = some nc := by simp [Array.getElem?_setIfInBounds, hlr]
  obtain ⟨t, a1, b1⟩ := kk (H.setIfInBounds (G.1 + r) nc) _ ⟨by
      rw [vm_ws_set G (σ' := (σ.1, σ.2.1, fun i => if i = r then va_cpy (σ.2.2 q) (σ.2.2 r) sp.toNatClampNeg dp.toNatClampNeg n.toNatClampNeg else σ.2.2 i)) hr rfl (fun _ _ => rfl) (fun i hi => by simp [hi]), vm_ce_a]
      refine hP.1.set (vm_ws_D G σ) hatr ?_ oq
      show (H.setIfInBounds (G.1 + r) nc)[G.1 + r]? = some (vp_cell _ _)
      rw [hnew, ← hnc]
      simp, by simp; exact hP.2.1, hP.2.2⟩ ⟨by simp; exact hS.1, fun x g1 g2 => by
      rw [oq x (fun e9 => g2 (by rw [e9]; exact Nat.le_add_right _ _))]
      exact hS.2.1 x g1 g2, fun x hx9 => by
      rcases List.mem_append.mp hx9 with h | h
      · exact hS.2.2 x h
      · obtain ⟨z, -, hz⟩ := List.mem_map.mp h
        rw [← hz]
        exact Nat.le_add_right _ _⟩ _ hheap X'
  exact ⟨t, step t a1, b1⟩
end VMF
