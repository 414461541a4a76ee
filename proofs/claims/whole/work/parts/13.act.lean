section VMC
variable {p : Program} {l : Launch} {e : Env} {R : Room} {s : State} {m : MethodId} {args : Array Value} {below : List Frame} {meth : Method} {c : Code} {H : Heap} {locs : List Loc} {cells slots : Nat} {Q : State → Prop}
variable {G : vm_G} {X : Nat × (Nat → Int32)} {k : Nat}
theorem vm_dec {k pc len a b cx d : Nat} {i : Instr} {z : Int} (h : vm_chk k (pc, i, len, a, b, cx, d, z) = true) {n : Nat} (hl : vm_len i = n) (hn : n ≠ 0) : decode (vm_b k) pc = .ok (i, n) := by
  unfold vm_chk at h
  simp only [Bool.and_eq_true, decide_eq_true_eq, Bool.or_eq_true, beq_iff_eq] at h
  obtain ⟨h1, h2, -⟩ := h
  rw [h1]
  have : len = n := by rcases h2 with h2 | h2 <;> omega
  rw [this]
theorem vm_g1 {k pc len a b cx d : Nat} {off : Int} {z : Int} (h : vm_chk k (pc, .goto off, len, a, b, cx, d, z) = true) : (pc : Int) + off = a := by
  simp only [vm_chk, Bool.and_eq_true, decide_eq_true_eq] at h
  exact h.2.2
theorem vm_g2 {k pc len a b cx d : Nat} {off : Int} {z : Int} {q : ClassFile.Cond} (h : vm_chk k (pc, .ifCond q off, len, a, b, cx, d, z) = true) : (pc : Int) + off = a := by
  simp only [vm_chk, Bool.and_eq_true, decide_eq_true_eq] at h
  exact h.2.2
theorem vm_g3 {k pc len a b cx d : Nat} {off : Int} {z : Int} {q : ClassFile.Cond} (h : vm_chk k (pc, .if_icmp q off, len, a, b, cx, d, z) = true) : (pc : Int) + off = a := by
  simp only [vm_chk, Bool.and_eq_true, decide_eq_true_eq] at h
  exact h.2.2
theorem vm_in_of {i : Int32} {n : Nat} (h : ¬ (i < 0 ∨ n ≤ i.toNatClampNeg)) : vp_in i n := h
theorem vm_strN_len {j : Nat} : (vm_strB.map List.length).getD j 0 = vm_strN j := by
  unfold vm_strN
  simp only [List.getD_eq_getElem?_getD, List.getElem?_map]
  cases vm_strB[j]? <;> rfl
theorem vm_o1 {r : Nat} (h1 : ¬ r < 1000) (h2 : r % 2 = 1 ∧ r < 1016) : (r - 1000) / 2 < 8 := by omega
theorem vm_o2 {r : Nat} (h1 : ¬ r < 1000) (h2 : r % 2 = 1 ∧ r < 1016) (G : vm_G) : vm_v G (.ref r) = .ref (vm_aV G ((r - 1000) / 2)) := by
  show vm_mp G r = _
  unfold vm_mp
  rw [if_neg h1, if_neg (by omega), if_neg (by omega), if_neg (by omega)]
theorem vm_o3 {r : Nat} (h : 1000 ≤ r ∧ r < 1016 ∧ r % 2 = 0) (G : vm_G) : (r - 1000) / 2 < 8 ∧ vm_v G (.ref r) = .ref (vm_aK G ((r - 1000) / 2)) ∧ vm_v G (.ref (r + 1)) = .ref (vm_aV G ((r - 1000) / 2)) := by
  refine ⟨by omega, ?_, ?_⟩
  · show vm_mp G r = _
    unfold vm_mp
    rw [if_neg (by omega), if_neg (by omega), if_neg (by omega), if_pos (by omega)]
  · show vm_mp G (r + 1) = _
    unfold vm_mp
    rw [if_neg (by omega), if_neg (by omega), if_neg (by omega), if_neg (by omega), show (r + 1 - 1000) / 2 = (r - 1000) / 2 by omega]
theorem vm_own_f (C : vm_C G X k p s m args meth c) : vm_fm G = .null ∨ ∃ a, vm_fm G = .ref a := C.2.2.2.2.2.2.2.1.2.2.2.2.2
theorem vm_narb (x : Int32) : narrow .boolean (.int x) = .int (vp_nar .boolean x) := by first | rfl | simp [vp_nar, narrow]
theorem vm_nary (x : Int32) : narrow .byte (.int x) = .int (vp_nar .byte x) := by first | rfl | simp [vp_nar, narrow]
set_option maxHeartbeats 4000000 in
theorem vm_act_ok (C : vm_C G X k p s m args meth c) {σ σ' : vm_St} (hP : vm_PW G σ H) (hS : va_S (vm_A G) s.heap H locs) {ls : Array Slot} {L L' S S' : List Value} (hL : vm_LV G ls (vm_ml k) L)
    {i : Instr} {len a b cx d pc pc' : Nat} {z : Int} (hck : vm_chk k (pc, i, len, a, b, cx, d, z) = true) (hrun : vm_act X i a b d z pc L S σ = some (pc', L', S', σ'))
    (kk : ∀ (H' : Heap) (locs' : List Loc) (ls' : Array Slot), vm_PW G σ' H' → va_S (vm_A G) s.heap H' locs' → vm_LV G ls' (vm_ml k) L' → W p l e R s m args below meth c H' locs' cells slots Q (F0 m pc' ls' (S'.map (vm_v G)))) :
    W p l e R s m args below meth c H locs cells slots Q (F0 m pc ls (S.map (vm_v G))) := by
  have hf := vm_own_f C
  obtain ⟨hx, hbc, hml, hown, hts, hin, hK, hX, hk⟩ := id C
  have hLl := hL.2.2.1
  cases i with
  | iconst n =>
    simp only [vm_act] at hrun
    simp only [Option.some.injEq, Prod.mk.injEq] at hrun; obtain ⟨rfl, rfl, rfl, rfl⟩ := hrun
    exact lv_iconst hx hbc (vm_dec hck rfl (by decide)) rfl (kk H locs ls hP hS hL)
  | bipush n =>
    simp only [vm_act] at hrun
    simp only [Option.some.injEq, Prod.mk.injEq] at hrun; obtain ⟨rfl, rfl, rfl, rfl⟩ := hrun
    exact lv_bipush hx hbc (vm_dec hck rfl (by decide)) rfl (kk H locs ls hP hS hL)
  | sipush n =>
    simp only [vm_act] at hrun
    simp only [Option.some.injEq, Prod.mk.injEq] at hrun; obtain ⟨rfl, rfl, rfl, rfl⟩ := hrun
    exact lv_sipush hx hbc (vm_dec hck rfl (by decide)) rfl (kk H locs ls hP hS hL)
  | lconst n =>
    simp only [vm_act] at hrun
    simp only [Option.some.injEq, Prod.mk.injEq] at hrun; obtain ⟨rfl, rfl, rfl, rfl⟩ := hrun
    exact lv_lconst hx hbc (vm_dec hck rfl (by decide)) rfl (kk H locs ls hP hS hL)
  | ldc idx =>
    simp only [vm_act] at hrun
    simp only [vm_chk, Bool.and_eq_true, decide_eq_true_eq] at hck
    have hd := hck.1
    have hd2 : len = 2 := by have := hck.2.1; simp [vm_len] at this; exact this
    subst hd2
    have hw := hck.2.2
    split at hrun
    · next ha => simp only [Option.some.injEq, Prod.mk.injEq] at hrun; obtain ⟨rfl, rfl, rfl, rfl⟩ := hrun; rw [if_pos ha] at hw; exact lv_ldc hx hbc hown (hts _ (vm_wd_g hw (by first | rfl | simp [goodWord, Cond.onTables, Cond.keeps, Cond.steady]))) hd (kk H locs ls hP hS hL)
    · next ha =>
      simp only [Option.some.injEq, Prod.mk.injEq] at hrun; obtain ⟨rfl, rfl, rfl, rfl⟩ := hrun
      rw [if_neg ha] at hw
      simp only [Bool.and_eq_true, decide_eq_true_eq] at hw
      obtain ⟨hb8, hix, how, -⟩ := hw
      have h9 := kk H locs ls hP hS hL
      rw [List.map_cons, show vm_v G (.ref (1000 + 2 * b)) = .ref (vm_aK G b) from vm_mp_str G hb8] at h9
      have hR := hK.2.2 b hb8
      rw [hix] at hR
      exact va_ldcS hx hbc (by rw [← how]; exact hown) hR hd h9
  | ldc2_w idx =>
    simp only [vm_act] at hrun
    simp only [Option.some.injEq, Prod.mk.injEq] at hrun; obtain ⟨rfl, rfl, rfl, rfl⟩ := hrun
    have hd := vm_dec (n := 3) hck rfl (by decide)
    simp only [vm_chk, Bool.and_eq_true, decide_eq_true_eq] at hck
    exact lv_ldc2 hx hbc hown (hts _ (vm_wd_g hck.2.2 (by first | rfl | simp [goodWord, Cond.onTables, Cond.keeps, Cond.steady]))) hd (kk H locs ls hP hS hL)
  | iload_n n =>
    simp only [vm_act] at hrun
    split at hrun
    · next x hv => simp only [Option.some.injEq, Prod.mk.injEq] at hrun; obtain ⟨rfl, rfl, rfl, rfl⟩ := hrun; exact lv_iload_n hx hbc (vm_dec hck rfl (by decide)) rfl (hL.at hv (fun h => by cases h)) (kk H locs ls hP hS hL)
    · cases hrun
  | iload n =>
    simp only [vm_act] at hrun
    split at hrun
    · next x hv => simp only [Option.some.injEq, Prod.mk.injEq] at hrun; obtain ⟨rfl, rfl, rfl, rfl⟩ := hrun; exact lv_iload hx hbc (vm_dec hck rfl (by decide)) (hL.at hv (fun h => by cases h)) (kk H locs ls hP hS hL)
    · cases hrun
  | lload_n n =>
    simp only [vm_act] at hrun
    split at hrun
    · next x hv => simp only [Option.some.injEq, Prod.mk.injEq] at hrun; obtain ⟨rfl, rfl, rfl, rfl⟩ := hrun; exact lv_lload_n hx hbc (vm_dec hck rfl (by decide)) rfl (hL.at hv (fun h => by cases h)) (kk H locs ls hP hS hL)
    · cases hrun
  | lload n =>
    simp only [vm_act] at hrun
    split at hrun
    · next x hv => simp only [Option.some.injEq, Prod.mk.injEq] at hrun; obtain ⟨rfl, rfl, rfl, rfl⟩ := hrun; exact lv_lload hx hbc (vm_dec hck rfl (by decide)) (hL.at hv (fun h => by cases h)) (kk H locs ls hP hS hL)
    · cases hrun
  | aload_n n =>
    simp only [vm_act] at hrun
    split at hrun
    · next x hv =>
      split at hrun
      · cases hrun
      · next hne =>
        simp only [Option.some.injEq, Prod.mk.injEq] at hrun; obtain ⟨rfl, rfl, rfl, rfl⟩ := hrun
        obtain ⟨q, hq⟩ := vm_mp_ref G hne
        have h1 := hL.at hv (fun h => by cases h)
        have h9 := kk H locs ls hP hS hL
        rw [show vm_v G (.ref x) = .ref q from hq] at h1
        rw [List.map_cons, show vm_v G (.ref x) = .ref q from hq] at h9
        exact lv_aload_n hx hbc (vm_dec hck rfl (by decide)) rfl h1 h9
    · cases hrun
  | aload n =>
    simp only [vm_act] at hrun
    split at hrun
    · next x hv =>
      split at hrun
      · cases hrun
      · next hne =>
        simp only [Option.some.injEq, Prod.mk.injEq] at hrun; obtain ⟨rfl, rfl, rfl, rfl⟩ := hrun
        obtain ⟨q, hq⟩ := vm_mp_ref G hne
        have h1 := hL.at hv (fun h => by cases h)
        have h9 := kk H locs ls hP hS hL
        rw [show vm_v G (.ref x) = .ref q from hq] at h1
        rw [List.map_cons, show vm_v G (.ref x) = .ref q from hq] at h9
        exact lv_aload hx hbc (vm_dec hck rfl (by decide)) h1 h9
    · cases hrun
  | istore_n n =>
    simp only [vm_act] at hrun
    split at hrun
    · split at hrun
      · next x S hlt => simp only [Option.some.injEq, Prod.mk.injEq] at hrun; obtain ⟨rfl, rfl, rfl, rfl⟩ := hrun; exact lv_istore_n hx hbc (vm_dec hck rfl (by decide)) rfl hL.has (by rw [← hLl]; exact hlt) rfl (fun ls2 h2 => kk H locs ls2 hP hS (vm_LV.st1 (v := .int x) hf hL hlt h2))
      · cases hrun
    · cases hrun
  | istore n =>
    simp only [vm_act] at hrun
    split at hrun
    · split at hrun
      · next x S hlt => simp only [Option.some.injEq, Prod.mk.injEq] at hrun; obtain ⟨rfl, rfl, rfl, rfl⟩ := hrun; exact lv_istore hx hbc (vm_dec hck rfl (by decide)) hL.has (by rw [← hLl]; exact hlt) rfl (fun ls2 h2 => kk H locs ls2 hP hS (vm_LV.st1 (v := .int x) hf hL hlt h2))
      · cases hrun
    · cases hrun
  | lstore_n n =>
    simp only [vm_act] at hrun
    split at hrun
    · split at hrun
      · next x S hlt => simp only [Option.some.injEq, Prod.mk.injEq] at hrun; obtain ⟨rfl, rfl, rfl, rfl⟩ := hrun; exact lv_lstore_n hx hbc (vm_dec hck rfl (by decide)) rfl hL.has (by rw [← hLl]; exact hlt) rfl (fun ls2 h2 => kk H locs ls2 hP hS (vm_LV.st2 (v := .long x) hf hL hlt h2))
      · cases hrun
    · cases hrun
  | lstore n =>
    simp only [vm_act] at hrun
    split at hrun
    · split at hrun
      · next x S hlt => simp only [Option.some.injEq, Prod.mk.injEq] at hrun; obtain ⟨rfl, rfl, rfl, rfl⟩ := hrun; exact lv_lstore hx hbc (vm_dec hck rfl (by decide)) hL.has (by rw [← hLl]; exact hlt) rfl (fun ls2 h2 => kk H locs ls2 hP hS (vm_LV.st2 (v := .long x) hf hL hlt h2))
      · cases hrun
    · cases hrun
  | astore_n n =>
    simp only [vm_act] at hrun
    split at hrun
    · split at hrun
      · next x S hlt =>
        simp only [Option.some.injEq, Prod.mk.injEq] at hrun; obtain ⟨rfl, rfl, rfl, rfl⟩ := hrun
        obtain ⟨q, hq⟩ := vm_mp_ref G hlt.2
        rw [List.map_cons, show vm_v G (.ref x) = .ref q from hq]
        exact lv_astore_n hx hbc (vm_dec hck rfl (by decide)) rfl hL.has (by rw [← hLl]; exact hlt.1) rfl (fun ls2 h2 => kk H locs ls2 hP hS (vm_LV.st1 (v := .ref x) hf hL hlt.1 (by rw [show vm_v G (.ref x) = .ref q from hq]; exact h2)))
      · cases hrun
    · cases hrun
  | astore n =>
    simp only [vm_act] at hrun
    split at hrun
    · split at hrun
      · next x S hlt =>
        simp only [Option.some.injEq, Prod.mk.injEq] at hrun; obtain ⟨rfl, rfl, rfl, rfl⟩ := hrun
        obtain ⟨q, hq⟩ := vm_mp_ref G hlt.2
        rw [List.map_cons, show vm_v G (.ref x) = .ref q from hq]
        exact lv_astore hx hbc (vm_dec hck rfl (by decide)) hL.has (by rw [← hLl]; exact hlt.1) rfl (fun ls2 h2 => kk H locs ls2 hP hS (vm_LV.st1 (v := .ref x) hf hL hlt.1 (by rw [show vm_v G (.ref x) = .ref q from hq]; exact h2)))
      · cases hrun
    · cases hrun
  | iinc n j =>
    simp only [vm_act] at hrun
    split at hrun
    · next x hv =>
      split at hrun
      · next hlt =>
        simp only [Option.some.injEq, Prod.mk.injEq] at hrun; obtain ⟨rfl, rfl, rfl, rfl⟩ := hrun
        obtain ⟨q, hq⟩ := List.getElem?_of_mem (vm_ll_mem.mpr ⟨.int x, vm_lg_get hv (fun h => by cases h), (fun h => by cases h), rfl⟩ : (n, vm_v G (.int x)) ∈ vm_ll G L)
        exact lv_iinc (k := q) hx hbc (vm_dec hck rfl (by decide)) hL.has hq rfl (by rw [← hLl]; exact hlt) rfl (fun ls2 h2 => kk H locs ls2 hP hS (vm_LV.st1 (v := .int (x + Int32.ofInt j)) hf hL hlt h2))
      · cases hrun
    · cases hrun
  | iadd =>
    simp only [vm_act] at hrun
    split at hrun
    · simp only [Option.some.injEq, Prod.mk.injEq] at hrun; obtain ⟨rfl, rfl, rfl, rfl⟩ := hrun; exact lv_iadd hx hbc (vm_dec hck rfl (by decide)) (kk H locs ls hP hS hL)
    · cases hrun
  | isub =>
    simp only [vm_act] at hrun
    split at hrun
    · simp only [Option.some.injEq, Prod.mk.injEq] at hrun; obtain ⟨rfl, rfl, rfl, rfl⟩ := hrun; exact lv_isub hx hbc (vm_dec hck rfl (by decide)) (kk H locs ls hP hS hL)
    · cases hrun
  | imul =>
    simp only [vm_act] at hrun
    split at hrun
    · simp only [Option.some.injEq, Prod.mk.injEq] at hrun; obtain ⟨rfl, rfl, rfl, rfl⟩ := hrun; exact lv_imul hx hbc (vm_dec hck rfl (by decide)) (kk H locs ls hP hS hL)
    · cases hrun
  | ineg =>
    simp only [vm_act] at hrun
    split at hrun
    · simp only [Option.some.injEq, Prod.mk.injEq] at hrun; obtain ⟨rfl, rfl, rfl, rfl⟩ := hrun; exact lv_ineg hx hbc (vm_dec hck rfl (by decide)) (kk H locs ls hP hS hL)
    · cases hrun
  | iand =>
    simp only [vm_act] at hrun
    split at hrun
    · simp only [Option.some.injEq, Prod.mk.injEq] at hrun; obtain ⟨rfl, rfl, rfl, rfl⟩ := hrun; exact lv_iand hx hbc (vm_dec hck rfl (by decide)) (kk H locs ls hP hS hL)
    · cases hrun
  | ior =>
    simp only [vm_act] at hrun
    split at hrun
    · simp only [Option.some.injEq, Prod.mk.injEq] at hrun; obtain ⟨rfl, rfl, rfl, rfl⟩ := hrun; exact lv_ior hx hbc (vm_dec hck rfl (by decide)) (kk H locs ls hP hS hL)
    · cases hrun
  | ishl =>
    simp only [vm_act] at hrun
    split at hrun
    · simp only [Option.some.injEq, Prod.mk.injEq] at hrun; obtain ⟨rfl, rfl, rfl, rfl⟩ := hrun; exact lv_ishl hx hbc (vm_dec hck rfl (by decide)) (kk H locs ls hP hS hL)
    · cases hrun
  | ishr =>
    simp only [vm_act] at hrun
    split at hrun
    · simp only [Option.some.injEq, Prod.mk.injEq] at hrun; obtain ⟨rfl, rfl, rfl, rfl⟩ := hrun; exact lv_ishr hx hbc (vm_dec hck rfl (by decide)) (kk H locs ls hP hS hL)
    · cases hrun
  | ladd =>
    simp only [vm_act] at hrun
    split at hrun
    · simp only [Option.some.injEq, Prod.mk.injEq] at hrun; obtain ⟨rfl, rfl, rfl, rfl⟩ := hrun; exact lv_ladd hx hbc (vm_dec hck rfl (by decide)) (kk H locs ls hP hS hL)
    · cases hrun
  | land =>
    simp only [vm_act] at hrun
    split at hrun
    · simp only [Option.some.injEq, Prod.mk.injEq] at hrun; obtain ⟨rfl, rfl, rfl, rfl⟩ := hrun; exact lv_land hx hbc (vm_dec hck rfl (by decide)) (kk H locs ls hP hS hL)
    · cases hrun
  | lor =>
    simp only [vm_act] at hrun
    split at hrun
    · simp only [Option.some.injEq, Prod.mk.injEq] at hrun; obtain ⟨rfl, rfl, rfl, rfl⟩ := hrun; exact lv_lor hx hbc (vm_dec hck rfl (by decide)) (kk H locs ls hP hS hL)
    · cases hrun
  | lcmp =>
    simp only [vm_act] at hrun
    split at hrun
    · simp only [Option.some.injEq, Prod.mk.injEq] at hrun; obtain ⟨rfl, rfl, rfl, rfl⟩ := hrun; exact W.lcmp hx hbc (vm_dec hck rfl (by decide)) (kk H locs ls hP hS hL)
    · cases hrun
  | lshl =>
    simp only [vm_act] at hrun
    split at hrun
    · simp only [Option.some.injEq, Prod.mk.injEq] at hrun; obtain ⟨rfl, rfl, rfl, rfl⟩ := hrun; exact lv_lshl hx hbc (vm_dec hck rfl (by decide)) rfl (kk H locs ls hP hS hL)
    · cases hrun
  | lshr =>
    simp only [vm_act] at hrun
    split at hrun
    · simp only [Option.some.injEq, Prod.mk.injEq] at hrun; obtain ⟨rfl, rfl, rfl, rfl⟩ := hrun; exact lv_lshr hx hbc (vm_dec hck rfl (by decide)) rfl (kk H locs ls hP hS hL)
    · cases hrun
  | lushr =>
    simp only [vm_act] at hrun
    split at hrun
    · simp only [Option.some.injEq, Prod.mk.injEq] at hrun; obtain ⟨rfl, rfl, rfl, rfl⟩ := hrun; exact lv_lushr hx hbc (vm_dec hck rfl (by decide)) rfl (kk H locs ls hP hS hL)
    · cases hrun
  | i2l =>
    simp only [vm_act] at hrun
    split at hrun
    · simp only [Option.some.injEq, Prod.mk.injEq] at hrun; obtain ⟨rfl, rfl, rfl, rfl⟩ := hrun; exact lv_i2l hx hbc (vm_dec hck rfl (by decide)) rfl (kk H locs ls hP hS hL)
    · cases hrun
  | l2i =>
    simp only [vm_act] at hrun
    split at hrun
    · simp only [Option.some.injEq, Prod.mk.injEq] at hrun; obtain ⟨rfl, rfl, rfl, rfl⟩ := hrun; exact lv_l2i hx hbc (vm_dec hck rfl (by decide)) rfl (kk H locs ls hP hS hL)
    · cases hrun
  | i2b =>
    simp only [vm_act] at hrun
    split at hrun
    · simp only [Option.some.injEq, Prod.mk.injEq] at hrun; obtain ⟨rfl, rfl, rfl, rfl⟩ := hrun; exact lv_i2b hx hbc (vm_dec hck rfl (by decide)) rfl (kk H locs ls hP hS hL)
    · cases hrun
  | i2s =>
    simp only [vm_act] at hrun
    split at hrun
    · simp only [Option.some.injEq, Prod.mk.injEq] at hrun; obtain ⟨rfl, rfl, rfl, rfl⟩ := hrun; exact lv_i2s hx hbc (vm_dec hck rfl (by decide)) rfl (kk H locs ls hP hS hL)
    · cases hrun
  | i2c =>
    simp only [vm_act] at hrun
    split at hrun
    · simp only [Option.some.injEq, Prod.mk.injEq] at hrun; obtain ⟨rfl, rfl, rfl, rfl⟩ := hrun; exact lv_i2c hx hbc (vm_dec hck rfl (by decide)) rfl (kk H locs ls hP hS hL)
    · cases hrun
  | idiv =>
    simp only [vm_act] at hrun
    split at hrun
    · split at hrun
      · cases hrun
      · next hne => simp only [Option.some.injEq, Prod.mk.injEq] at hrun; obtain ⟨rfl, rfl, rfl, rfl⟩ := hrun; exact lv_idiv hx hbc (vm_dec hck rfl (by decide)) hne (kk H locs ls hP hS hL)
    · cases hrun
  | irem =>
    simp only [vm_act] at hrun
    split at hrun
    · split at hrun
      · cases hrun
      · next hne => simp only [Option.some.injEq, Prod.mk.injEq] at hrun; obtain ⟨rfl, rfl, rfl, rfl⟩ := hrun; exact lv_irem hx hbc (vm_dec hck rfl (by decide)) hne (kk H locs ls hP hS hL)
    · cases hrun
  | dup =>
    simp only [vm_act] at hrun
    split at hrun
    · split at hrun
      · cases hrun
      · next x S hne => simp only [Option.some.injEq, Prod.mk.injEq] at hrun; obtain ⟨rfl, rfl, rfl, rfl⟩ := hrun; exact lv_dup hx hbc (vm_dec hck rfl (by decide)) (by rw [vm_v_cat G hf]; rfl) (kk H locs ls hP hS hL)
    · simp only [Option.some.injEq, Prod.mk.injEq] at hrun; obtain ⟨rfl, rfl, rfl, rfl⟩ := hrun; exact lv_dup hx hbc (vm_dec hck rfl (by decide)) rfl (kk H locs ls hP hS hL)
    · cases hrun
  | dup2 =>
    simp only [vm_act] at hrun
    split at hrun
    · split at hrun
      · cases hrun
      · next x y S hne => simp only [Option.some.injEq, Prod.mk.injEq] at hrun; obtain ⟨rfl, rfl, rfl, rfl⟩ := hrun; exact lv_dup2_11 hx hbc (vm_dec hck rfl (by decide)) rfl (by rw [vm_v_cat G hf]; rfl) (kk H locs ls hP hS hL)
    · cases hrun
  | pop =>
    simp only [vm_act] at hrun
    split at hrun
    · simp only [Option.some.injEq, Prod.mk.injEq] at hrun; obtain ⟨rfl, rfl, rfl, rfl⟩ := hrun; exact lv_pop hx hbc (vm_dec hck rfl (by decide)) rfl (kk H locs ls hP hS hL)
    · cases hrun
  | goto off =>
    simp only [vm_act] at hrun
    simp only [Option.some.injEq, Prod.mk.injEq] at hrun; obtain ⟨rfl, rfl, rfl, rfl⟩ := hrun
    exact lv_goto hx hbc (vm_dec hck rfl (by decide)) (vm_g1 hck) (kk H locs ls hP hS hL)
  | ifCond q off =>
    simp only [vm_act] at hrun
    split at hrun
    · cases q with
      | eq => simp only at hrun; simp only [Option.some.injEq, Prod.mk.injEq] at hrun; obtain ⟨rfl, rfl, rfl, rfl⟩ := hrun; exact lv_if_eq hx hbc (vm_dec hck rfl (by decide)) (vm_g2 hck) (fun h => by have h9 := kk H locs ls hP hS hL; rw [if_pos h] at h9; exact h9) (fun h => by have h9 := kk H locs ls hP hS hL; rw [if_neg h] at h9; exact h9)
      | ne => simp only at hrun; simp only [Option.some.injEq, Prod.mk.injEq] at hrun; obtain ⟨rfl, rfl, rfl, rfl⟩ := hrun; exact lv_if_ne hx hbc (vm_dec hck rfl (by decide)) (vm_g2 hck) (fun h => by have h9 := kk H locs ls hP hS hL; rw [if_neg h] at h9; exact h9) (fun h => by have h9 := kk H locs ls hP hS hL; rw [if_pos h] at h9; exact h9)
      | lt => simp only at hrun; simp only [Option.some.injEq, Prod.mk.injEq] at hrun; obtain ⟨rfl, rfl, rfl, rfl⟩ := hrun; exact lv_if_lt hx hbc (vm_dec hck rfl (by decide)) (vm_g2 hck) (fun h => by have h9 := kk H locs ls hP hS hL; rw [if_pos h] at h9; exact h9) (fun h => by have h9 := kk H locs ls hP hS hL; rw [if_neg h] at h9; exact h9)
      | ge => simp only at hrun; simp only [Option.some.injEq, Prod.mk.injEq] at hrun; obtain ⟨rfl, rfl, rfl, rfl⟩ := hrun; exact lv_if_ge hx hbc (vm_dec hck rfl (by decide)) (vm_g2 hck) (fun h => by have h9 := kk H locs ls hP hS hL; rw [if_neg (Int32.not_lt.mpr h)] at h9; exact h9) (fun h => by have h9 := kk H locs ls hP hS hL; rw [if_pos (Int32.not_le.mp h)] at h9; exact h9)
      | gt => simp only at hrun; simp only [Option.some.injEq, Prod.mk.injEq] at hrun; obtain ⟨rfl, rfl, rfl, rfl⟩ := hrun; exact lv_if_gt hx hbc (vm_dec hck rfl (by decide)) (vm_g2 hck) (fun h => by have h9 := kk H locs ls hP hS hL; rw [if_pos h] at h9; exact h9) (fun h => by have h9 := kk H locs ls hP hS hL; rw [if_neg h] at h9; exact h9)
      | le => simp only at hrun; simp only [Option.some.injEq, Prod.mk.injEq] at hrun; obtain ⟨rfl, rfl, rfl, rfl⟩ := hrun; exact lv_if_le hx hbc (vm_dec hck rfl (by decide)) (vm_g2 hck) (fun h => by have h9 := kk H locs ls hP hS hL; rw [if_neg (Int32.not_lt.mpr h)] at h9; exact h9) (fun h => by have h9 := kk H locs ls hP hS hL; rw [if_pos (Int32.not_le.mp h)] at h9; exact h9)
    · cases hrun
  | if_icmp q off =>
    simp only [vm_act] at hrun
    split at hrun
    · cases q with
      | eq => simp only at hrun; simp only [Option.some.injEq, Prod.mk.injEq] at hrun; obtain ⟨rfl, rfl, rfl, rfl⟩ := hrun; exact lv_icmp_eq hx hbc (vm_dec hck rfl (by decide)) (vm_g3 hck) (fun h => by have h9 := kk H locs ls hP hS hL; rw [if_pos h] at h9; exact h9) (fun h => by have h9 := kk H locs ls hP hS hL; rw [if_neg h] at h9; exact h9)
      | ne => simp only at hrun; simp only [Option.some.injEq, Prod.mk.injEq] at hrun; obtain ⟨rfl, rfl, rfl, rfl⟩ := hrun; exact lv_icmp_ne hx hbc (vm_dec hck rfl (by decide)) (vm_g3 hck) (fun h => by have h9 := kk H locs ls hP hS hL; rw [if_neg h] at h9; exact h9) (fun h => by have h9 := kk H locs ls hP hS hL; rw [if_pos h] at h9; exact h9)
      | lt => simp only at hrun; simp only [Option.some.injEq, Prod.mk.injEq] at hrun; obtain ⟨rfl, rfl, rfl, rfl⟩ := hrun; exact lv_icmp_lt hx hbc (vm_dec hck rfl (by decide)) (vm_g3 hck) (fun h => by have h9 := kk H locs ls hP hS hL; rw [if_pos h] at h9; exact h9) (fun h => by have h9 := kk H locs ls hP hS hL; rw [if_neg h] at h9; exact h9)
      | ge => simp only at hrun; simp only [Option.some.injEq, Prod.mk.injEq] at hrun; obtain ⟨rfl, rfl, rfl, rfl⟩ := hrun; exact lv_icmp_ge hx hbc (vm_dec hck rfl (by decide)) (vm_g3 hck) (fun h => by have h9 := kk H locs ls hP hS hL; rw [if_neg (Int32.not_lt.mpr h)] at h9; exact h9) (fun h => by have h9 := kk H locs ls hP hS hL; rw [if_pos (Int32.not_le.mp h)] at h9; exact h9)
      | gt => simp only at hrun; simp only [Option.some.injEq, Prod.mk.injEq] at hrun; obtain ⟨rfl, rfl, rfl, rfl⟩ := hrun; exact lv_icmp_gt hx hbc (vm_dec hck rfl (by decide)) (vm_g3 hck) (fun h => by have h9 := kk H locs ls hP hS hL; rw [if_pos h] at h9; exact h9) (fun h => by have h9 := kk H locs ls hP hS hL; rw [if_neg h] at h9; exact h9)
      | le => simp only at hrun; simp only [Option.some.injEq, Prod.mk.injEq] at hrun; obtain ⟨rfl, rfl, rfl, rfl⟩ := hrun; exact lv_icmp_le hx hbc (vm_dec hck rfl (by decide)) (vm_g3 hck) (fun h => by have h9 := kk H locs ls hP hS hL; rw [if_neg (Int32.not_lt.mpr h)] at h9; exact h9) (fun h => by have h9 := kk H locs ls hP hS hL; rw [if_pos (Int32.not_le.mp h)] at h9; exact h9)
    · cases hrun
  | tableswitch df lo hi offs =>
    simp only [vm_act] at hrun
    simp only [vm_chk, Bool.and_eq_true, decide_eq_true_eq] at hck
    obtain ⟨hd, -, h1, h2⟩ := hck
    split at hrun
    · split at hrun
      · next x S hout => simp only [Option.some.injEq, Prod.mk.injEq] at hrun; obtain ⟨rfl, rfl, rfl, rfl⟩ := hrun; exact lv_tableOut hx hbc hd hout (by omega) (kk H locs ls hP hS hL)
      · next x S hout =>
        split at hrun
        · next off hoff =>
          simp only [Option.some.injEq, Prod.mk.injEq] at hrun; obtain ⟨rfl, rfl, rfl, rfl⟩ := hrun
          have h3 : 0 ≤ (pc : Int) + off := by
            have h4 := Array.all_eq_true'.mp h2 off (Array.mem_of_getElem? hoff)
            exact of_decide_eq_true h4
          exact lv_tableIn hx hbc hd (fun q => hout (Or.inl q)) (fun q => hout (Or.inr q)) hoff (by omega) (kk H locs ls hP hS hL)
        · cases hrun
    · cases hrun
  | iaload =>
    simp only [vm_act] at hrun
    split at hrun
    · next j r S =>
      split at hrun
      · next v hv =>
        simp only [Option.some.injEq, Prod.mk.injEq] at hrun; obtain ⟨rfl, rfl, rfl, rfl⟩ := hrun
        unfold vm_ald at hv
        split at hv
        · next hlt =>
          split at hv
          · next t n hr =>
            split at hv
            · next ht =>
              split at hv
              · cases hv
              · next hin =>
                cases hv
                have hat := vm_ws_at G hr
                rw [vm_ce_a] at hat
                rw [List.map_cons, List.map_cons, vm_stk_ref hP hr]
                rcases ht with rfl | ⟨h, -⟩
                · exact va_iald hx hbc hK.1 hP.1 r 0 hat rfl hin (vm_dec hck rfl (by decide)) (kk H locs ls hP hS hL)
                · exact absurd h (by decide)
            · cases hv
          · cases hv
        · rename_i hlt; split at hv
          · next h20 =>
            subst h20
            rw [if_pos rfl] at hv
            split at hv
            · cases hv
            · next hin => cases hv; exact va_sld hx hbc hX.1 hX.lt (Nat.not_le.mpr hX.2.1) hS hin (vm_dec hck rfl (by decide)) (kk H locs ls hP hS hL)
          · split at hv
            · next h => rw [if_neg (by decide)] at hv; cases hv
            · cases hv
      · cases hrun
    · cases hrun
  | baload =>
    simp only [vm_act] at hrun
    split at hrun
    · next j r S =>
      split at hrun
      · next v hv =>
        simp only [Option.some.injEq, Prod.mk.injEq] at hrun; obtain ⟨rfl, rfl, rfl, rfl⟩ := hrun
        unfold vm_ald at hv
        split at hv
        · next hlt =>
          split at hv
          · next t n hr =>
            split at hv
            · next ht =>
              split at hv
              · cases hv
              · next hin =>
                cases hv
                have hat := vm_ws_at G hr
                rw [vm_ce_a] at hat
                rw [List.map_cons, List.map_cons, vm_stk_ref hP hr]
                rcases ht with rfl | ⟨-, rfl⟩
                · exact va_bald hx hbc hK.1 hP.1 r 1 hat rfl hin (vm_dec hck rfl (by decide)) (kk H locs ls hP hS hL)
                · exact va_zald hx hbc hK.1 hP.1 r 2 hat rfl hin (vm_dec hck rfl (by decide)) (kk H locs ls hP hS hL)
            · cases hv
          · cases hv
        · rename_i hlt; split at hv
          · rw [if_neg (by decide)] at hv; cases hv
          · split at hv
            · next hodd =>
              rw [if_pos rfl] at hv
              split at hv
              · cases hv
              · next hin =>
                cases hv
                have hj8 := vm_o1 hlt hodd
                rw [List.map_cons, List.map_cons, vm_o2 hlt hodd G]
                have hE := (hX.2.2.1.1 _ hj8).2.2.2
                rw [vm_strN_len] at hE
                exact va_tb hx hbc hE hS hin rfl (vm_dec hck rfl (by decide)) (kk H locs ls hP hS hL)
            · cases hv
      · cases hrun
    · cases hrun
  | arraylength =>
    simp only [vm_act] at hrun
    split at hrun
    · next r S =>
      split at hrun
      · next n hv =>
        simp only [Option.some.injEq, Prod.mk.injEq] at hrun; obtain ⟨rfl, rfl, rfl, rfl⟩ := hrun
        unfold vm_aln at hv
        split at hv
        · next hlt =>
          split at hv
          · next t n hr =>
            cases hv
            have hat := vm_ws_at G hr
            rw [vm_ce_a] at hat
            rw [List.map_cons, vm_stk_ref hP hr]
            have ht : t < 3 := by
              rcases hP.2.2.2 r _ hr with h | h
              · exact absurd h.1 (by show ¬ (1 : Nat) = 0; decide)
              · exact h.2
            match t, ht with
            | 0, _ => exact va_alen hx hbc hK.1 hP.1 r 0 hat rfl rfl (vm_dec hck rfl (by decide)) (kk H locs ls hP hS hL)
            | 1, _ => exact va_alen hx hbc hK.1 hP.1 r 1 hat rfl rfl (vm_dec hck rfl (by decide)) (kk H locs ls hP hS hL)
            | 2, _ => exact va_alen hx hbc hK.1 hP.1 r 2 hat rfl rfl (vm_dec hck rfl (by decide)) (kk H locs ls hP hS hL)
          · cases hv
        · rename_i hlt; split at hv
          · next h20 => cases hv; subst h20; exact va_slen hx hbc hX.1 hX.lt (Nat.not_le.mpr hX.2.1) hS (vm_dec hck rfl (by decide)) (kk H locs ls hP hS hL)
          · split at hv
            · next hodd =>
              cases hv
              have hj8 := vm_o1 hlt hodd
              rw [List.map_cons, vm_o2 hlt hodd G]
              have hE := (hX.2.2.1.1 _ hj8).2.2.2
              rw [vm_strN_len] at hE
              exact va_tlen hx hbc hE hS rfl (vm_dec hck rfl (by decide)) (kk H locs ls hP hS hL)
            · cases hv
      · cases hrun
    · cases hrun
  | iastore =>
    simp only [vm_act] at hrun
    split at hrun
    · next x j r S =>
      split at hrun
      · next n hr =>
        split at hrun
        · cases hrun
        · next hin =>
          simp only [Option.some.injEq, Prod.mk.injEq] at hrun; obtain ⟨rfl, rfl, rfl, rfl⟩ := hrun
          have hat := vm_ws_at G hr
          rw [vm_ce_a] at hat
          rw [List.map_cons, List.map_cons, List.map_cons, vm_stk_ref hP hr]
          refine W.iast hx hbc (hP.1 r _ hat) ((hK.1.2 0 _ rfl).1 n (fun j => .int (σ.2.2 r j))) (fun q => by cases q) (by show ¬ (j < 0 ∨ (arrV _ _ _).slots.size ≤ _); rw [arrV_size]; exact hin) rfl rfl (vm_dec hck rfl (by decide)) fun H1 e1 e2 e3 => ?_
          obtain ⟨g1, g2⟩ := vm_ast hP hS hr rfl e1 e2 e3
          exact kk H1 _ ls g1 g2 hL
      · cases hrun
    · cases hrun
  | bastore =>
    simp only [vm_act] at hrun
    split at hrun
    · next x j r S =>
      split at hrun
      · next n hr =>
        split at hrun
        · cases hrun
        · next hin =>
          simp only [Option.some.injEq, Prod.mk.injEq] at hrun; obtain ⟨rfl, rfl, rfl, rfl⟩ := hrun
          have hat := vm_ws_at G hr
          rw [vm_ce_a] at hat
          rw [List.map_cons, List.map_cons, List.map_cons, vm_stk_ref hP hr]
          refine W.zast hx hbc (hP.1 r _ hat) ((hK.1.2 2 _ rfl).1 n (fun j => .int (σ.2.2 r j))) (fun q => by cases q) (by show ¬ (j < 0 ∨ (arrV _ _ _).slots.size ≤ _); rw [arrV_size]; exact hin) rfl rfl (vm_dec hck rfl (by decide)) fun H1 e1 e2 e3 => ?_
          rw [vm_narb] at e1
          obtain ⟨g1, g2⟩ := vm_ast hP hS hr rfl e1 e2 e3
          exact kk H1 _ ls g1 g2 hL
      · next n hr =>
        split at hrun
        · cases hrun
        · next hin =>
          simp only [Option.some.injEq, Prod.mk.injEq] at hrun; obtain ⟨rfl, rfl, rfl, rfl⟩ := hrun
          have hat := vm_ws_at G hr
          rw [vm_ce_a] at hat
          rw [List.map_cons, List.map_cons, List.map_cons, vm_stk_ref hP hr]
          refine W.bast hx hbc (hP.1 r _ hat) ((hK.1.2 1 _ rfl).1 n (fun j => .int (σ.2.2 r j))) (fun q => by cases q) (by show ¬ (j < 0 ∨ (arrV _ _ _).slots.size ≤ _); rw [arrV_size]; exact hin) rfl rfl (vm_dec hck rfl (by decide)) fun H1 e1 e2 e3 => ?_
          rw [vm_nary] at e1
          obtain ⟨g1, g2⟩ := vm_ast hP hS hr rfl e1 e2 e3
          exact kk H1 _ ls g1 g2 hL
      · cases hrun
    · cases hrun
  | getstatic idx =>
    simp only [vm_act] at hrun
    have hd := vm_dec (n := 3) hck rfl (by decide)
    simp only [vm_chk, Bool.and_eq_true, decide_eq_true_eq] at hck
    have hw := hck.2.2
    split at hrun
    · next ha => simp only [Option.some.injEq, Prod.mk.injEq] at hrun; obtain ⟨rfl, rfl, rfl, rfl⟩ := hrun; rw [if_pos ha] at hw; exact va_gets hx hbc hX.2.2.2.1 hS hown (hts _ (vm_wd_g hw (by first | rfl | simp [goodWord, Cond.onTables, Cond.keeps, Cond.steady]))) (fun _ h9 => h9) hd (kk H locs ls hP hS hL)
    · next ha =>
      simp only [Option.some.injEq, Prod.mk.injEq] at hrun; obtain ⟨rfl, rfl, rfl, rfl⟩ := hrun
      rw [if_neg ha] at hw
      simp only [Bool.and_eq_true, decide_eq_true_eq] at hw
      exact va_gets hx hbc hX.2.2.2.2.1 hS hown (hts _ (vm_wd_g hw.2 (by first | rfl | simp [goodWord, Cond.onTables, Cond.keeps, Cond.steady]))) (fun _ h9 => h9) hd (kk H locs ls hP hS hL)
  | getfield idx =>
    simp only [vm_act] at hrun
    split at hrun
    · next r S =>
      split at hrun
      · next ha =>
        split at hrun
        · next hr =>
          simp only [Option.some.injEq, Prod.mk.injEq] at hrun; obtain ⟨rfl, rfl, rfl, rfl⟩ := hrun
          have hd := vm_dec (n := 3) hck rfl (by decide)
          simp only [vm_chk, Bool.and_eq_true, decide_eq_true_eq, if_pos ha] at hck
          obtain ⟨hj8, e1, e2⟩ := vm_o3 hr G
          have h9 := kk H locs ls hP hS hL
          rw [List.map_cons, e2] at h9
          rw [List.map_cons, e1]
          exact vk_getf hx hbc (hX.2.2.1.1 _ hj8).2.2.1 hS hown (hts _ (vm_wd_g hck.2.2 (by first | rfl | simp [goodWord, Cond.onTables, Cond.keeps, Cond.steady]))) (fun _ h9 => h9) hd h9
        · cases hrun
      · next ha =>
        split at hrun
        · next ha1 =>
          split at hrun
          · next hr =>
            simp only [Option.some.injEq, Prod.mk.injEq] at hrun; obtain ⟨rfl, rfl, rfl, rfl⟩ := hrun
            have hd := vm_dec (n := 3) hck rfl (by decide)
            simp only [vm_chk, Bool.and_eq_true, decide_eq_true_eq, if_neg ha, if_pos ha1] at hck
            obtain ⟨hj8, e1, e2⟩ := vm_o3 hr G
            rw [List.map_cons, e1]
            exact vk_getf hx hbc (hX.2.2.1.1 _ hj8).2.1 hS hown (hts _ (vm_wd_g hck.2.2 (by first | rfl | simp [goodWord, Cond.onTables, Cond.keeps, Cond.steady]))) (fun _ h9 => h9) hd (kk H locs ls hP hS hL)
          · cases hrun
        · next ha1 =>
          split at hrun
          · next ci n hr =>
            split at hrun
            · next hcb =>
              simp only [Option.some.injEq, Prod.mk.injEq] at hrun; obtain ⟨rfl, rfl, rfl, rfl⟩ := hrun
              obtain ⟨rfl, hb⟩ := hcb
              exact vm_getf C hP ha ha1 hck hr hb (kk H locs ls hP hS hL)
            · cases hrun
          · cases hrun
    · cases hrun
  | putfield idx =>
    simp only [vm_act] at hrun
    split at hrun
    · next x r S =>
      split at hrun
      · next ci n hr =>
        split at hrun
        · next hcb =>
          simp only [Option.some.injEq, Prod.mk.injEq] at hrun; obtain ⟨rfl, rfl, rfl, rfl⟩ := hrun
          obtain ⟨rfl, hb, hI⟩ := hcb
          have hty : vm_ty ci b = .int := by
            unfold vm_isI at hI
            split at hI
            · assumption
            · cases hI
          exact vm_putf C hP hS hck hr hb (σ' := (σ.1, σ.2.1, vm_u2 σ.2.2 r b x)) (v := .int x) rfl (fun _ _ => rfl) (fun i hi => by funext j; simp [vm_u2, hi])
            (fun j hj => by
              by_cases hjb : j = b
              · subst hjb; simp [vm_fv, hI, vm_u2, vm_v]
              · rw [if_neg hjb]; unfold vm_fv; simp [vm_u2, hjb]) (by rw [hty]; rfl) (by rw [hty]; rfl) (fun H' locs' h1 h2 => kk H' locs' ls h1 h2 hL)
        · cases hrun
      · cases hrun
    · next x r S =>
      split at hrun
      · next ci n hr =>
        split at hrun
        · next hcb =>
          simp only [Option.some.injEq, Prod.mk.injEq] at hrun; obtain ⟨rfl, rfl, rfl, rfl⟩ := hrun
          obtain ⟨rfl, hb, hI, hx1⟩ := hcb
          have hck2 := hck
          simp only [vm_chk, Bool.and_eq_true, decide_eq_true_eq] at hck2
          have hty := vm_ty_kind ci hck2.2.2.1 b hck2.2.2.2.1
          have hty2 : (∃ n, vm_ty ci b = .object n) ∨ ∃ t, vm_ty ci b = .array t := by
            rcases hty with h | h
            · exact absurd hI (by unfold vm_isI; rw [h]; decide)
            · exact h.2
          exact vm_putf C hP hS hck hr hb (σ' := (σ.1, vm_u2 σ.2.1 r b (some x), σ.2.2)) (v := vm_v G (.ref x)) rfl (fun i hi => by funext j; simp [vm_u2, hi]) (fun _ _ => rfl)
            (fun j hj => by
              by_cases hjb : j = b
              · subst hjb; simp [vm_fv, hI, vm_u2, vm_rv]
              · rw [if_neg hjb]; unfold vm_fv; simp [vm_u2, hjb])
            (by rw [show vm_v G (.ref x) = .ref (G.1 + x) from vm_mp_lt G hx1]; rcases hty2 with ⟨n, h⟩ | ⟨t, h⟩ <;> rw [h] <;> rfl) (by rw [show vm_v G (.ref x) = .ref (G.1 + x) from vm_mp_lt G hx1]; rcases hty2 with ⟨n, h⟩ | ⟨t, h⟩ <;> rw [h] <;> rfl) (fun H' locs' h1 h2 => kk H' locs' ls h1 h2 hL)
        · cases hrun
      · cases hrun
    · cases hrun
  | _ => exact absurd hrun (by simp [vm_act])
end VMC
