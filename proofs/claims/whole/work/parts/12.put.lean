section VMB
variable {p : Program} {l : Launch} {e : Env} {R : Room} {s : State} {m : MethodId} {args : Array Value} {below : List Frame} {meth : Method} {c : Code} {H : Heap} {locs : List Loc} {cells slots : Nat} {Q : State → Prop}
variable {G : vm_G} {X : Nat × (Nat → Int32)} {k : Nat}
theorem vm_map_set {n b : Nat} (hb : b < n) {f g : Nat → Value} {v : Value} (h : ∀ j, j < n → g j = if j = b then v else f j) : (List.range n).map g = ((List.range n).map f).set b v := by
  apply List.ext_getElem?
  intro i
  by_cases hi : i = b
  · subst hi
    rw [List.getElem?_set_self (by simp; exact hb)]
    simp [hb, h i hb]
  · rw [List.getElem?_set_ne (Ne.symm hi)]
    by_cases hl : i < n
    · simp [hl, h i hl, hi]
    · simp [hl]
theorem vm_WF_same {σ σ' : vm_St} (h : vm_WF σ) (h0 : σ'.1 = σ.1) : vm_WF σ' := by unfold vm_WF; rw [h0]; exact h
theorem vm_putf (C : vm_C G X k p s m args meth c) {σ σ' : vm_St} (hP : vm_PW G σ H) (hS : va_S (vm_A G) s.heap H locs) {pc r a b len cx d idx : Nat} {z : Int} {ls : Array Slot} {rest : List Value}
    (hck : vm_chk k (pc, .putfield idx, len, a, b, cx, d, z) = true) {n : Nat} (hr : σ.1[r]? = some (0, a, n)) (hb : b < n) {v : Value} (h0 : σ'.1 = σ.1) (h1 : ∀ i, i ≠ r → σ'.2.1 i = σ.2.1 i) (h2 : ∀ i, i ≠ r → σ'.2.2 i = σ.2.2 i)
    (hfs : ∀ j, j < n → vm_v G (vm_fv σ' r a j) = if j = b then v else vm_v G (vm_fv σ r a j)) (hn : narrow (vm_ty a b) v = v) (hfit : fits (vm_ty a b) v = true)
    (kk : ∀ (H' : Heap) (locs' : List Loc), vm_PW G σ' H' → va_S (vm_A G) s.heap H' locs' → W p l e R s m args below meth c H' locs' cells slots Q (F0 m (pc + 3) ls rest)) : W p l e R s m args below meth c H locs cells slots Q (F0 m pc ls (v :: vm_v G (.ref r) :: rest)) := by
  obtain ⟨hx, hbc, hml, hown, hts, hin, hK, hX, hk⟩ := C
  simp only [vm_chk, vm_len, Bool.and_eq_true, decide_eq_true_eq, Bool.or_eq_true, beq_iff_eq] at hck
  obtain ⟨hd, hlen, ha, hbn, hw⟩ := hck
  have hlen : len = 3 := by omega
  subst hlen
  rw [vm_stk_ref hP hr]
  have hat := vm_ws_at G hr
  rw [vm_ce_o] at hat
  have hin8 := vm_ws_in ha
  have hap := va_apart (own := vm_own k) (s := s) (args := args) hts hin8 (vm_ty a) (vm_ty_ok a ha) (vm_nm_ok a ha) hK.1 (vm_cl_at ha)
  obtain ⟨r', hr1, cell, q1, q2, q3, q4⟩ := hP.1 r _ hat
  have hre : r' = ((vm_cls a).1, (vm_cls a).2.1, (vm_cls a).2.2) := Option.some.inj (hr1.symm.trans (vm_cl_at ha))
  subst hre
  obtain ⟨hSl, hfc, kC, hkC, hkind⟩ := hK.1.1 a _ (vm_cl_at ha)
  obtain ⟨cf, kf, fi, f, hi, hsl⟩ := hSl b hbn
  have hst := (u_facts hfc hkC (u_lays hts hin8 hbn) hi).1
  have hlay := hts _ (hin8 _ (u_in_lay hbn))
  unfold u_lay at hlay
  have hset : vm_ws G σ' = (vm_ws G σ).set r (G.1 + r, .inr (a, ((List.range n).map (fun j => vm_v G (vm_fv σ r a j))).set b v)) := by
    rw [vm_ws_set G hr h0 h1 h2, vm_ce_o, vm_map_set hb hfs]
  have fin : ∀ (H' : Heap), H'[G.1 + r]? = some (cell.setSlot f.slot v) → H'.size = H.size → (∀ q, q ≠ G.1 + r → H'[q]? = H[q]?) → vm_PW G σ' H' ∧ va_S (vm_A G) s.heap H' (locs ++ [⟨G.1 + r, f.slot⟩]) := by
    intro H' e1 e2 e3
    rw [hsl] at e1
    refine ⟨⟨?_, by rw [h0, e2]; exact hP.2.1, vm_WF_same hP.2.2 h0⟩, hS.put e2 e3 (Nat.le_add_right _ _)⟩
    rw [hset]
    exact hP.1.set (vm_ws_D G σ) hat ⟨_, vm_cl_at ha, t_OB.to (V := updV (vp_V _) b v) ⟨_, e1, q2, q3, t_set q4 hap hbn v⟩ (fun j _ => vp_updV_set (by simp; exact hb) v j)⟩ e3
  by_cases hd0 : d = 0
  · rw [if_pos hd0] at hw
    simp only [Bool.and_eq_true, beq_iff_eq] at hw
    obtain ⟨hw, hfin⟩ := hw
    rw [if_neg (by rw [hfin]; decide)] at hlay
    have h6 := u_store hfc hkC hkind hlay hi (vm_ty_ok a ha b hbn) hn hfit
    refine W.putK hx hbc (f := f) ⟨hown, hts _ (vm_wd_g hw (by first | rfl | simp [goodWord, Cond.onTables, Cond.keeps, Cond.steady])), ⟨_, _, _, hi⟩, hst⟩ (by rw [q2]; exact h6) q1 q3 (by rw [hsl]; exact k2_hasslot (q4 b hbn)) rfl rfl hd fun H' e1 e2 e3 => ?_
    exact kk H' _ (fin H' e1 e2 e3).1 (fin H' e1 e2 e3).2
  · rw [if_neg hd0] at hw
    by_cases hd1 : d = 1
    · rw [if_pos hd1] at hw
      simp only [Bool.and_eq_true, beq_iff_eq] at hw
      obtain ⟨hw, hfin⟩ := hw
      rw [if_neg (by rw [hfin]; decide)] at hlay
      have h6 := u_store hfc hkC hkind hlay hi (vm_ty_ok a ha b hbn) hn hfit
      refine va_WputK hx hbc (f := f) hown (va_Nw.use rfl (hK.2.1 _ (vm_wd_t hw) rfl)) hi hst (by rw [q2]; exact h6) q1 q3 (by rw [hsl]; exact k2_hasslot (q4 b hbn)) rfl rfl hd fun H' e1 e2 e3 => ?_
      exact kk H' _ (fin H' e1 e2 e3).1 (fin H' e1 e2 e3).2
    · rw [if_neg hd1] at hw
      simp only [Bool.and_eq_true, beq_iff_eq, decide_eq_true_eq] at hw
      obtain ⟨hw, hfin, hnm, hdecl⟩ := hw
      rw [if_pos hfin] at hlay
      have hcf : m.cls = cf := by
        obtain ⟨_, _, c', _, _, _, -, -, hf', -, -, -, hown2, -⟩ := Cond.laysFinal_spec hlay
        have e1 : c' = cf := by have := hi.symm.trans hf'; simp at this; exact this.1.symm
        rw [hdecl] at hown2
        rw [← e1]; exact Option.some.inj (hown.symm.trans hown2)
      have h6 := u_fits hfc hkC hkind (Or.inr hlay) hi (vm_ty_ok a ha b hbn) hn hfit
      refine W.putFinK hx hbc hown (hts _ (vm_wd_g hw (by first | rfl | simp [goodWord, Cond.onTables, Cond.keeps, Cond.steady]))) hi hst hcf (hin hnm) (by rw [q2]; exact h6) q1 q3 (by rw [hsl]; exact k2_hasslot (q4 b hbn)) rfl rfl hd fun H' e1 e2 e3 => ?_
      exact kk H' _ (fin H' e1 e2 e3).1 (fin H' e1 e2 e3).2
theorem vm_upd_up (f : Nat → Int32) (j : Nat) (x : Int32) : (fun q => updV (fun j => Value.int (f j)) j (.int x) q) = fun q => Value.int (upd f j x q) := by
  funext q
  by_cases hq : q = j
  · subst hq; simp [updV, upd]
  · simp [updV, upd, hq]
/-- what an array's store does to the world -/
theorem vm_ast {σ σ' : vm_St} (hP : vm_PW G σ H) (hS : va_S (vm_A G) s.heap H locs) {r t n j : Nat} {x : Int32} (hr : σ.1[r]? = some (1, t, n)) (hσ : σ' = (σ.1, σ.2.1, vm_u2 σ.2.2 r j x)) {H' : Heap}
    (e1 : H'[G.1 + r]? = some ((arrV (vm_cA G t) n (fun j => .int (σ.2.2 r j))).setSlot j (.int x))) (e2 : H'.size = H.size) (e3 : ∀ q, q ≠ G.1 + r → H'[q]? = H[q]?) :
    vm_PW G σ' H' ∧ va_S (vm_A G) s.heap H' (locs ++ [⟨G.1 + r, j⟩]) := by
  subst hσ
  have hat := vm_ws_at G hr
  rw [vm_ce_a] at hat
  refine ⟨⟨?_, by rw [e2]; exact hP.2.1, hP.2.2⟩, hS.put e2 e3 (Nat.le_add_right _ _)⟩
  rw [vm_ws_set G (σ' := (σ.1, σ.2.1, vm_u2 σ.2.2 r j x)) hr rfl (fun _ _ => rfl) (fun i hi => by funext b; simp [vm_u2, hi]), vm_ce_a]
  refine hP.1.set (vm_ws_D G σ) hat ?_ e3
  show H'[G.1 + r]? = some (vp_cell _ _)
  rw [e1, vp_cell_i, arrV_store]
  congr 2
  funext q
  by_cases hq : q = j
  · subst hq; simp [updV, vm_u2]
  · simp [updV, vm_u2, hq]
end VMB
