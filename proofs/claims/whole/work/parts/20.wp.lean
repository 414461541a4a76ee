/-! RUNS, SAID BACKWARDS -/
section VMW
variable {X : Nat × (Nat → Int32)}
theorem vm_step_mono {rn rn' : Nat → Nat → List Value → List Value → Nat → Nat → vm_St → Option (Option Value × vm_St)} (h : ∀ k pc L S bc bs σ x, rn k pc L S bc bs σ = some x → rn' k pc L S bc bs σ = some x) {k pc : Nat} {L S : List Value} {bc bs : Nat} {σ : vm_St} {x : Option Value × vm_St}
    (hs : vm_step X rn k pc L S bc bs σ = some x) : vm_step X rn' k pc L S bc bs σ = some x := by
  unfold vm_step at hs ⊢
  cases hi : vm_ins k pc with
  | none => rw [hi] at hs; cases hs
  | some q =>
    obtain ⟨i, len, a, b, cx, d, z⟩ := q
    rw [hi] at hs
    dsimp only at hs ⊢
    split at hs
    · split at hs
      · cases hs
      · next hkd pc' L' S' σ1 hact => exact h _ _ _ _ _ _ _ _ hs
    · exact hs
    · by_cases ha1 : a = 1001
      · rw [if_pos ha1] at hs ⊢
        split at hs
        · split at hs
          · cases hs
          · next hno => rw [if_neg hno]; exact h _ _ _ _ _ _ _ _ hs
        · cases hs
      · rw [if_neg ha1] at hs ⊢
        by_cases ha2 : a = 1000
        · rw [if_pos ha2] at hs ⊢
          split at hs
          · split at hs
            · next h1 h2 =>
              split at hs
              · next hc => rw [if_pos hc]; exact h _ _ _ _ _ _ _ _ hs
              · cases hs
            · cases hs
          · cases hs
        · rw [if_neg ha2] at hs ⊢
          by_cases ha3 : a = 1002 ∨ a = 1003
          · rw [if_pos ha3] at hs ⊢
            split at hs
            · split at hs
              · cases hs
              · next hno => rw [if_neg hno]; exact h _ _ _ _ _ _ _ _ hs
            · cases hs
          rw [if_neg ha3] at hs ⊢
          generalize hna : (if vm_kind a = 1 then vm_np a else vm_np a + 1) = na at hs ⊢
          split at hs
          · next hc =>
            rw [if_pos hc]
            split at hs
            · cases hs
            · next r1 σ1 hcall =>
              rw [h _ _ _ _ _ _ _ _ hcall]
              exact h _ _ _ _ _ _ _ _ hs
          · cases hs
    · split at hs
      · next hc => rw [if_pos hc]; exact h _ _ _ _ _ _ _ _ hs
      · cases hs
    · split at hs
      · split at hs
        · cases hs
        · split at hs
          · split at hs
            · next hc => rw [if_pos hc]; exact h _ _ _ _ _ _ _ _ hs
            · cases hs
          · cases hs
      · cases hs
theorem vm_run_mono1 : ∀ (n k pc : Nat) (L S : List Value) (bc bs : Nat) (σ : vm_St) (x : Option Value × vm_St), vm_run X n k pc L S bc bs σ = some x → vm_run X (n + 1) k pc L S bc bs σ = some x := by
  intro n
  induction n with
  | zero => intro k pc L S bc bs σ x h; cases h
  | succ n ih => intro k pc L S bc bs σ x h; exact vm_step_mono ih h
theorem vm_run_mono {n m k pc : Nat} {L S : List Value} {bc bs : Nat} {σ : vm_St} {x : Option Value × vm_St} (hnm : n ≤ m) (h : vm_run X n k pc L S bc bs σ = some x) : vm_run X m k pc L S bc bs σ = some x := by
  obtain ⟨d, rfl⟩ := Nat.exists_eq_add_of_le hnm
  induction d with
  | zero => exact h
  | succ d ih => exact vm_run_mono1 _ _ _ _ _ _ _ _ _ (ih (Nat.le_add_right _ _))
def vm_WP (X : Nat × (Nat → Int32)) (k pc : Nat) (L S : List Value) (bc bs : Nat) (σ : vm_St) (Q : Option Value → vm_St → Prop) : Prop := ∃ (n : Nat) (r : Option Value) (σ' : vm_St), vm_run X n k pc L S bc bs σ = some (r, σ') ∧ Q r σ'
theorem vm_WP.mono {k pc : Nat} {L S : List Value} {bc bs : Nat} {σ : vm_St} {Q Q' : Option Value → vm_St → Prop} (h : vm_WP X k pc L S bc bs σ Q) (hq : ∀ r σ', Q r σ' → Q' r σ') : vm_WP X k pc L S bc bs σ Q' := by
  obtain ⟨n, r, σ', h1, h2⟩ := h
  exact ⟨n, r, σ', h1, hq _ _ h2⟩
theorem vm_find_of : ∀ {l : List vm_En} (_ : vm_nd l = true) {j : Nat} {e : vm_En}, l[j]? = some e → vm_find l e.1 = some e.2
  | [], _, j, e, h => by simp at h
  | q :: l, hn, 0, e, h => by
    cases h
    unfold vm_find
    rw [if_pos rfl]
  | q :: l, hn, j + 1, e, h => by
    unfold vm_nd at hn
    simp only [Bool.and_eq_true] at hn
    have h1 : l[j]? = some e := h
    have h2 := List.all_eq_true.mp hn.1 e (List.mem_of_getElem? h1)
    have h3 : e.1 ≠ q.1 := of_decide_eq_true h2
    unfold vm_find
    rw [if_neg (Ne.symm h3)]
    exact vm_find_of hn.2 h1
theorem vm_ins_of {k j : Nat} {e : vm_En} (h : (vm_prog k)[j]? = some e) : vm_ins k e.1 = some e.2 := by
  by_cases hk : k < 181
  · exact vm_find_of (List.all_eq_true.mp vm_nd_all k (List.mem_range.mpr hk)) h
  · have hl : vm_progs.length = 181 := rfl
    unfold vm_prog at h
    have hn : vm_progs[k]? = none := List.getElem?_eq_none (by rw [hl]; omega)
    rw [List.getD_eq_getElem?_getD, hn] at h
    simp at h
/-- a stretch of plain instructions -/
def vm_seq (X : Nat × (Nat → Int32)) : List vm_En → Nat → List Value → List Value → vm_St → Option (Nat × List Value × List Value × vm_St)
  | [], pc, L, S, σ => some (pc, L, S, σ)
  | (p, i, _, a, b, _, d, z) :: l, pc, L, S, σ => if p = pc ∧ vm_kd i = 0 then match vm_act X i a b d z pc L S σ with
      | some (pc', L', S', σ') => vm_seq X l pc' L' S' σ'
      | none => none
    else none
theorem vm_WP.act {k pc pc' : Nat} {L S L' S' : List Value} {bc bs : Nat} {σ σ' : vm_St} {Q : Option Value → vm_St → Prop} {i : Instr} {len a b cx d : Nat} {z : Int} (hi : vm_ins k pc = some (i, len, a, b, cx, d, z)) (hk : vm_kd i = 0)
    (ha : vm_act X i a b d z pc L S σ = some (pc', L', S', σ')) (h : vm_WP X k pc' L' S' bc bs σ' Q) : vm_WP X k pc L S bc bs σ Q := by
  obtain ⟨n, r, σ2, h1, h2⟩ := h
  refine ⟨n + 1, r, σ2, ?_, h2⟩
  show vm_step X (vm_run X n) k pc L S bc bs σ = _
  unfold vm_step
  rw [hi]
  (try dsimp only)
  rw [hk]
  (try dsimp only)
  rw [ha]
  exact h1
theorem vm_WP.seqL {k : Nat} {bc bs : Nat} {Q : Option Value → vm_St → Prop} : ∀ (l : List vm_En) (_ : ∀ e ∈ l, vm_ins k e.1 = some e.2) {pc pc' : Nat} {L S L' S' : List Value} {σ σ' : vm_St}, vm_seq X l pc L S σ = some (pc', L', S', σ') → vm_WP X k pc' L' S' bc bs σ' Q → vm_WP X k pc L S bc bs σ Q
  | [], _, pc, pc', L, S, L', S', σ, σ', hs, h => by cases hs; exact h
  | (p, i, len, a, b, cx, d, z) :: l, hl, pc, pc', L, S, L', S', σ, σ', hs, h => by
    unfold vm_seq at hs
    split at hs
    · next hc =>
      obtain ⟨rfl, hk⟩ := hc
      split at hs
      · next pc1 L1 S1 σ1 hact =>
        exact vm_WP.act (hl _ List.mem_cons_self) hk hact (vm_WP.seqL l (fun e he => hl e (List.mem_cons_of_mem _ he)) hs h)
      · cases hs
    · cases hs
theorem vm_WP.seq (j n : Nat) {k : Nat} {bc bs : Nat} {Q : Option Value → vm_St → Prop} {pc pc' : Nat} {L S L' S' : List Value} {σ σ' : vm_St} (hs : vm_seq X (((vm_prog k).drop j).take n) pc L S σ = some (pc', L', S', σ')) (h : vm_WP X k pc' L' S' bc bs σ' Q) : vm_WP X k pc L S bc bs σ Q := by
  refine vm_WP.seqL _ (fun e he => ?_) hs h
  obtain ⟨i, hi⟩ := List.getElem?_of_mem (List.mem_of_mem_drop (List.mem_of_mem_take he))
  exact vm_ins_of hi
theorem vm_WP.if (j : Nat) {k : Nat} {bc bs : Nat} {Q : Option Value → vm_St → Prop} {pc t1 t2 : Nat} {L S S' : List Value} {σ : vm_St} {i : Instr} {len a b cx d : Nat} {z : Int} {c : Prop} [Decidable c] (hj : (vm_prog k)[j]? = some (pc, i, len, a, b, cx, d, z)) (hk : vm_kd i = 0)
    (ha : vm_act X i a b d z pc L S σ = some (if c then t1 else t2, L, S', σ)) (h1 : c → vm_WP X k t1 L S' bc bs σ Q) (h2 : ¬ c → vm_WP X k t2 L S' bc bs σ Q) : vm_WP X k pc L S bc bs σ Q := by
  refine vm_WP.act (vm_ins_of hj) hk ha ?_
  by_cases hc : c
  · rw [if_pos hc]; exact h1 hc
  · rw [if_neg hc]; exact h2 hc
theorem vm_WP.ret (j : Nat) {k : Nat} {bc bs : Nat} {Q : Option Value → vm_St → Prop} {pc : Nat} {L S : List Value} {σ : vm_St} {i : Instr} {len a b cx d : Nat} {z : Int} {r : Option Value} (hj : (vm_prog k)[j]? = some (pc, i, len, a, b, cx, d, z)) (hk : vm_kd i = 1)
    (hr : vm_rt k i S = some r) (h : Q r σ) : vm_WP X k pc L S bc bs σ Q := by
  refine ⟨1, r, σ, ?_, h⟩
  show vm_step X (vm_run X 0) k pc L S bc bs σ = _
  unfold vm_step
  rw [vm_ins_of hj]
  (try dsimp only)
  rw [hk]
  (try dsimp only)
  rw [hr]
  rfl
theorem vm_WP.call (j : Nat) {k : Nat} {bc bs : Nat} {Q : Option Value → vm_St → Prop} {pc : Nat} {L S : List Value} {σ : vm_St} {i : Instr} {len a b cx d : Nat} {z : Int} (as rest L0 : List Value) (hj : (vm_prog k)[j]? = some (pc, i, len, a, b, cx, d, z)) (hk : vm_kd i = 2) (ha : a < 1000)
    (has : (S.take (if vm_kind a = 1 then vm_np a else vm_np a + 1)).reverse = as) (hrest : S.drop (if vm_kind a = 1 then vm_np a else vm_np a + 1) = rest)
    (hc : as.length = (if vm_kind a = 1 then vm_np a else vm_np a + 1) ∧ (vm_kind a = 1 ∨ vm_rc σ a (vm_lg as 0) = true) ∧ vm_mc a ≤ bc ∧ vm_ms a ≤ bs ∧ vm_wt rest ≤ 8 ∧ (vm_sl as).length ≤ vm_ml a) (hL : vm_entry a as = L0)
    (h : vm_WP X a 0 L0 [] (vm_mc a) (vm_ms a) σ (fun r σ' => vm_WP X k (pc + 3) L (r.toList ++ rest) (bc - vm_mc a) (bs - vm_ms a) σ' Q)) : vm_WP X k pc L S bc bs σ Q := by
  subst hL
  obtain ⟨n, r, σ1, h1, m, r2, σ2, h2, h3⟩ := h
  refine ⟨max n m + 1, r2, σ2, ?_, h3⟩
  show vm_step X (vm_run X (max n m)) k pc L S bc bs σ = _
  unfold vm_step
  rw [vm_ins_of hj]
  (try dsimp only)
  rw [hk]
  (try dsimp only)
  rw [if_neg (by omega), if_neg (by omega), if_neg (by omega), has, hrest, if_pos hc, vm_run_mono (Nat.le_max_left n m) h1]
  exact vm_run_mono (Nat.le_max_right n m) h2
theorem vm_WP.ald (j : Nat) {k : Nat} {bc bs : Nat} {Q : Option Value → vm_St → Prop} {pc : Nat} {L S : List Value} {σ : vm_St} {i : Instr} {len a b cx d : Nat} {z : Int} {r t n : Nat} {x : Int32} (hj : (vm_prog k)[j]? = some (pc, i, len, a, b, cx, d, z)) (hi : (i = .iaload ∧ t = 0) ∨ (i = .baload ∧ (t = 1 ∨ t = 2))) (hr : r < 1000) (hs : σ.1[r]? = some (1, t, n)) (hx : vp_in x n)
    (h : vm_WP X k (pc + 1) L (.int (σ.2.2 r x.toNatClampNeg) :: S) bc bs σ Q) : vm_WP X k pc L (.int x :: .ref r :: S) bc bs σ Q := by
  rcases hi with ⟨rfl, rfl⟩ | ⟨rfl, ht⟩
  · refine vm_WP.act (vm_ins_of hj) rfl ?_ h
    simp only [vm_act, vm_ald]
    rw [if_pos hr, hs]
    simp only [true_or, if_true]
    rw [if_neg hx]
  · refine vm_WP.act (vm_ins_of hj) rfl ?_ h
    simp only [vm_act, vm_ald]
    rw [if_pos hr, hs]
    unfold vp_in at hx
    rcases ht with rfl | rfl
    · simp [hx]
    · simp [hx]
theorem vm_WP.ast (j : Nat) {k : Nat} {bc bs : Nat} {Q : Option Value → vm_St → Prop} {pc : Nat} {L S : List Value} {σ : vm_St} {len a b cx d : Nat} {z : Int} {r n : Nat} {x v : Int32} (hj : (vm_prog k)[j]? = some (pc, .iastore, len, a, b, cx, d, z)) (hs : σ.1[r]? = some (1, 0, n)) (hx : vp_in x n)
    (h : vm_WP X k (pc + 1) L S bc bs (σ.1, σ.2.1, vm_u2 σ.2.2 r x.toNatClampNeg v) Q) : vm_WP X k pc L (.int v :: .int x :: .ref r :: S) bc bs σ Q := by
  refine vm_WP.act (vm_ins_of hj) rfl ?_ h
  unfold vp_in at hx
  simp [vm_act, hs, hx]
theorem vm_WP.bst (j : Nat) {k : Nat} {bc bs : Nat} {Q : Option Value → vm_St → Prop} {pc : Nat} {L S : List Value} {σ : vm_St} {len a b cx d : Nat} {z : Int} {r n : Nat} {x v w : Int32} (hj : (vm_prog k)[j]? = some (pc, .bastore, len, a, b, cx, d, z)) {t : Nat} (ht : t = 1 ∨ t = 2) (hs : σ.1[r]? = some (1, t, n)) (hx : vp_in x n) (hw : vp_nar (vm_tyA t) v = w)
    (h : vm_WP X k (pc + 1) L S bc bs (σ.1, σ.2.1, vm_u2 σ.2.2 r x.toNatClampNeg w) Q) : vm_WP X k pc L (.int v :: .int x :: .ref r :: S) bc bs σ Q := by
  subst hw
  refine vm_WP.act (vm_ins_of hj) rfl ?_ h
  unfold vp_in at hx
  rcases ht with rfl | rfl
  · simp [vm_act, hs, hx, vm_tyA]
  · simp [vm_act, hs, hx, vm_tyA]
theorem vm_WP.copy (j : Nat) {k : Nat} {bc bs : Nat} {Q : Option Value → vm_St → Prop} {pc : Nat} {L S : List Value} {σ : vm_St} {i : Instr} {len b cx d : Nat} {z : Int} {q r n0 n1 : Nat} {sp dp m : Int32} (hj : (vm_prog k)[j]? = some (pc, i, len, 1000, b, cx, d, z)) (hk : vm_kd i = 2) (hq : σ.1[q]? = some (1, 0, n0)) (hr : σ.1[r]? = some (1, 0, n1))
    (h1 : ¬ sp < 0) (h2 : ¬ dp < 0) (h3 : ¬ m < 0) (h4 : sp.toNatClampNeg + m.toNatClampNeg ≤ n0) (h5 : dp.toNatClampNeg + m.toNatClampNeg ≤ n1) (h6 : vm_wt S ≤ 8)
    (h : vm_WP X k (pc + 3) L S bc bs (σ.1, σ.2.1, fun i => if i = r then va_cpy (σ.2.2 q) (σ.2.2 r) sp.toNatClampNeg dp.toNatClampNeg m.toNatClampNeg else σ.2.2 i) Q) : vm_WP X k pc L (.int m :: .int dp :: .ref r :: .int sp :: .ref q :: S) bc bs σ Q := by
  obtain ⟨n, r2, σ2, g1, g2⟩ := h
  refine ⟨n + 1, r2, σ2, ?_, g2⟩
  show vm_step X (vm_run X n) k pc L _ bc bs σ = _
  unfold vm_step
  rw [vm_ins_of hj]
  (try dsimp only)
  rw [hk]
  (try dsimp only)
  rw [if_neg (by decide), if_pos rfl]
  (try dsimp only)
  rw [hq, hr]
  (try dsimp only)
  exact (if_pos (show (¬ sp < 0 ∧ ¬ dp < 0 ∧ ¬ m < 0) ∧ (sp.toNatClampNeg + m.toNatClampNeg ≤ n0 ∧ dp.toNatClampNeg + m.toNatClampNeg ≤ n1) ∧ vm_wt S ≤ 8 from ⟨⟨h1, h2, h3⟩, ⟨h4, h5⟩, h6⟩)).trans g1
theorem vm_WP.mm (j : Nat) {k : Nat} {bc bs : Nat} {Q : Option Value → vm_St → Prop} {pc : Nat} {L S : List Value} {σ : vm_St} {i : Instr} {len a b cx d : Nat} {z : Int} {x y w : Int32} (hj : (vm_prog k)[j]? = some (pc, i, len, a, b, cx, d, z)) (hk : vm_kd i = 2) (ha : a = 1002 ∨ a = 1003) (hw : (if a = 1002 then (if x < y then y else x) else (if y < x then y else x)) = w) (h6 : vm_wt S ≤ 8)
    (h : vm_WP X k (pc + 3) L (.int w :: S) bc bs σ Q) : vm_WP X k pc L (.int y :: .int x :: S) bc bs σ Q := by
  subst hw
  obtain ⟨n, r2, σ2, g1, g2⟩ := h
  refine ⟨n + 1, r2, σ2, ?_, g2⟩
  show vm_step X (vm_run X n) k pc L _ bc bs σ = _
  unfold vm_step
  rw [vm_ins_of hj]
  (try dsimp only)
  rw [hk]
  (try dsimp only)
  rw [if_neg (by omega), if_neg (by omega), if_pos ha]
  (try dsimp only)
  rw [if_neg (by omega)]
  exact g1
end VMW
