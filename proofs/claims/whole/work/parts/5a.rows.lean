/-! rows -/
theorem vR.rows {M M' : vm_M} (hR : vR M) (hr : vR_rows M') (h2 : M' 48 1 = M' 0 9) (he : ∀ r j, vm_dead r j = false → ¬ (r = 0 ∧ j = 9) → ¬ (r = 48 ∧ j = 1) → ¬ (2 ≤ r ∧ r ≤ 4) → ¬ (49 ≤ r ∧ r ≤ 51) → M' r j = M r j) : vR M' := by
  obtain ⟨h1', h2', h3, ⟨f, w, h4, h5⟩, h6, h7, h8⟩ := hR
  refine ⟨hr, h2, h3.of (fun r j g => he r j (vm_live (by omega)) (by omega) (by omega) (by omega) (by omega)), ⟨f, w, h4.of (fun r j g => he r j (vm_live (by omega)) (by omega) (by omega) (by omega) (by omega)), h5.of (fun r j g => he r j (vm_live (by omega)) (by omega) (by omega) (by omega) (by omega))⟩, h6.of (fun r j g => he r j (vm_live (by omega)) (by omega) (by omega) (by omega) (by omega)), h7.of (fun r j g => he r j (vm_live (by omega)) (by omega) (by omega) (by omega) (by omega)), h8.of (fun r j g => he r j (vm_live (by omega)) (by omega) (by omega) (by omega) (by omega))⟩
section VH
variable {X : Nat × (Nat → Int32)} {M : vm_M}
theorem s_make19 {P : vm_M → Prop} {a : Nat} {x2 x3 : Int32} (ha : a < 8) (h : ∀ M', (∀ r j, r ≠ 4 → M' r j = M r j) → (∀ j, M' 4 j = if a * 40 ≤ j ∧ j < a * 40 + 40 then nI 0 else M 4 j) → P M') : C_Rows_make_19 X (nI a) x2 x3 (nI 0) M P := by
  have loop : ∀ (n i : Nat) (M' : vm_M), i + n = 40 → (∀ r j, r ≠ 4 → M' r j = M r j) → (∀ j, M' 4 j = if a * 40 ≤ j ∧ j < a * 40 + i then nI 0 else M 4 j) → C_Rows_make_19 X (nI a) x2 x3 (nI i) M' P := by
    intro n
    induction n with
    | zero =>
      intro i M' hi hM' hI
      have hi : i = 40 := by omega
      subst hi
      apply v_Rows_make_19
      rw [nI_ltI (by omega) (by omega)]
      exact ⟨fun q => absurd q (by omega), fun _ => h M' hM' hI⟩
    | succ n ih =>
      intro i M' hi hM' hI
      apply v_Rows_make_19
      simp (disch := omega) only [nI_ltI, vm_mul, vm_add, vm_ex]
      refine ⟨fun _ => ih (i + 1) _ (by omega) (fun r j hr => ?_) (fun j => ?_), fun q => absurd (by omega) q⟩
      · rw [vm_u2_r hr]; exact hM' r j hr
      · by_cases hji : j = a * 40 + i
        · subst hji; rw [vm_u2_eq, if_pos (by omega)]
        · rw [vm_u2_ne (by omega), hI j]
          by_cases hc : a * 40 ≤ j ∧ j < a * 40 + i
          · rw [if_pos hc, if_pos (by omega)]
          · rw [if_neg hc, if_neg (by omega)]
  exact loop 40 0 M (by omega) (fun _ _ _ => rfl) (fun j => by rw [if_neg (by omega)])
theorem s_row65 {P : Int32 → vm_M → Prop} {a : Nat} {x2 x3 : Int32} (ha : a < 8) (h : ∀ M', (∀ r j, r ≠ 51 → M' r j = M r j) → (∀ j, M' 51 j = if a * 40 ≤ j ∧ j < a * 40 + 40 then nI 0 else M 51 j) → P x3 M') : C_M_row_65 X (nI a) x2 x3 (nI 0) M P := by
  have loop : ∀ (n i : Nat) (M' : vm_M), i + n = 40 → (∀ r j, r ≠ 51 → M' r j = M r j) → (∀ j, M' 51 j = if a * 40 ≤ j ∧ j < a * 40 + i then nI 0 else M 51 j) → C_M_row_65 X (nI a) x2 x3 (nI i) M' P := by
    intro n
    induction n with
    | zero =>
      intro i M' hi hM' hI
      have hi : i = 40 := by omega
      subst hi
      apply v_M_row_65
      rw [nI_ltI (by omega) (by omega)]
      exact ⟨fun q => absurd q (by omega), fun _ => h M' hM' hI⟩
    | succ n ih =>
      intro i M' hi hM' hI
      apply v_M_row_65
      simp (disch := omega) only [nI_ltI, vm_mul, vm_add, vm_ex]
      refine ⟨fun _ => ih (i + 1) _ (by omega) (fun r j hr => ?_) (fun j => ?_), fun q => absurd (by omega) q⟩
      · rw [vm_u2_r hr]; exact hM' r j hr
      · by_cases hji : j = 40 * a + i
        · subst hji; rw [vm_u2_eq, if_pos (by omega)]
        · rw [vm_u2_ne (by omega), hI j]
          by_cases hc : a * 40 ≤ j ∧ j < a * 40 + i
          · rw [if_pos hc, if_pos (by omega)]
          · rw [if_neg hc, if_neg (by omega)]
  exact loop 40 0 M (by omega) (fun _ _ _ => rfl) (fun j => by rw [if_neg (by omega)])
theorem vm_row8 {x : Int32} (h : x < 0 ∨ ¬ x < nI 8) {A B : Prop} (hA : A) : (x < 0 → A) ∧ (¬ x < 0 → (x < nI 8 → B) ∧ (¬ x < nI 8 → A)) := by
  rcases h with h | h
  · exact ⟨fun _ => hA, fun q => absurd h q⟩
  · exact ⟨fun _ => hA, fun _ => ⟨fun q => absurd q h, fun _ => hA⟩⟩
theorem op_row (hR : vR M) (x l n : Int32) : E_B_row X x l n M (fun v M1 => E_M_row X x l n M1 (fun v' M2 => v = v' ∧ vR M2)) := by
  apply v_B_row
  rcases vm_one x (T := 8) (by omega) with ⟨a, ha, rfl⟩ | ⟨hno, hx⟩
  · rcases vm_one l (T := 3) (by omega) with ⟨b, hb, rfl⟩ | ⟨hno, hl⟩
    · have fin : ∀ M1 v, (nI 40 < n → M1 = M ∧ v = cBAD) → (¬ nI 40 < n → n < 0 → M1 = vm_u2 M 0 9 (nI 4) ∧ v = Int32.ofInt (-1000010) - nI 4) → (¬ nI 40 < n → ¬ n < 0 → v = n ∧ (∀ r j, r ≠ 4 → ¬ (r = 0 ∧ j = 9) → ¬ (r = 2 ∧ j = a) → ¬ (r = 3 ∧ j = a) → M1 r j = M r j) ∧ M1 0 9 = nI 0 ∧ M1 2 a = nI (b + 1) ∧ M1 3 a = n ∧ (∀ j, M1 4 j = if a * 40 ≤ j ∧ j < a * 40 + 40 then nI 0 else M 4 j)) → E_M_row X (nI a) (nI b) n M1 (fun v' M2 => v = v' ∧ vR M2) := by
        intro M1 v g1 g2 g3
        apply v_M_row
        refine s_M_isRow (fun k hk e => ⟨fun q => absurd q (by decide), fun _ => ?_⟩) (fun h => absurd rfl (h a ha))
        refine s_M_rng (T := 3) (by decide) (by decide) (by omega) (fun k hk e => ⟨fun q => absurd q (by decide), fun _ => ?_⟩) (fun h => absurd rfl (h b hb))
        refine ⟨fun h40 => ?_, fun h40 => ⟨fun h0 => ?_, fun h0 => ?_⟩⟩
        · obtain ⟨rfl, rfl⟩ := g1 h40
          exact ⟨rfl, hR.thrown⟩
        · obtain ⟨rfl, rfl⟩ := g2 h40 h0
          refine ⟨rfl, hR.found (v := nI 4) ?_ vm_u2_eq (fun r j hd h1 h2 => ?_)⟩
          · rw [vm_u2_ne (by omega), vm_u2_ne (by omega), vm_u2_ne (by omega), vm_u2_eq]
          · have := vm_dead_ne hd
            rw [vm_u2_ne (by omega), vm_u2_ne (by omega), vm_u2_ne (by omega), vm_u2_ne h1]
        · obtain ⟨rfl, o, e9, e2, e3, e4⟩ := g3 h40 h0
          rw [vm_ex ha (by omega), vm_ex ha (by omega)]
          have hnn : ∃ m, m ≤ 40 ∧ v = nI m := by
            rcases vm_one v (T := 41) (by omega) with ⟨m, hm, e⟩ | ⟨hno, h⟩
            · exact ⟨m, by omega, e⟩
            · exfalso
              rcases h with h | h
              · exact h0 h
              · refine h40 (Int32.lt_iff_toInt_lt.mpr ?_)
                have q1 := vm_sw (T := 40) (by omega) hno
                rw [nI_toInt (by omega)]
                rcases q1 with q1 | q1
                · exact absurd (Int32.lt_iff_toInt_lt.mpr q1) h0
                · exact q1
          obtain ⟨m, hm, rfl⟩ := hnn
          refine s_row65 ha (fun M' a1 a2 => ⟨rfl, hR.rows ⟨fun r hr => ?_, fun i hi => ?_⟩ ?_ (fun r j hd h1 h2 h3 h4 => ?_)⟩)
          · by_cases hra : r = a
            · subst hra
              refine ⟨b + 1, m, by omega, hm, ?_, ?_, ?_, ?_⟩
              · rw [a1 2 _ (by omega), vm_u2_ne (by omega), vm_u2_ne (by omega), vm_u2_ne (by omega), vm_u2_ne (by omega)]; exact e2
              · rw [a1 49 _ (by omega), vm_u2_ne (by omega), vm_u2_eq]; exact (if_neg (by omega)).symm
              · rw [a1 3 _ (by omega), vm_u2_ne (by omega), vm_u2_ne (by omega), vm_u2_ne (by omega), vm_u2_ne (by omega)]; exact e3
              · rw [a1 50 _ (by omega), vm_u2_eq]
            · obtain ⟨s, k, b1, b2, b3, b4, b5, b6⟩ := hR.1.1 r hr
              refine ⟨s, k, b1, b2, ?_, ?_, ?_, ?_⟩
              · rw [a1 2 _ (by omega), vm_u2_ne (by omega), vm_u2_ne (by omega), vm_u2_ne (by omega), vm_u2_ne (by omega), o 2 _ (by omega) (by omega) (by omega) (by omega)]; exact b3
              · rw [a1 49 _ (by omega), vm_u2_ne (by omega), vm_u2_ne (by omega), vm_u2_ne (by omega), vm_u2_ne (by omega), o 49 _ (by omega) (by omega) (by omega) (by omega)]; exact b4
              · rw [a1 3 _ (by omega), vm_u2_ne (by omega), vm_u2_ne (by omega), vm_u2_ne (by omega), vm_u2_ne (by omega), o 3 _ (by omega) (by omega) (by omega) (by omega)]; exact b5
              · rw [a1 50 _ (by omega), vm_u2_ne (by omega), vm_u2_ne (by omega), vm_u2_ne (by omega), vm_u2_ne (by omega), o 50 _ (by omega) (by omega) (by omega) (by omega)]; exact b6
          · rw [a2 i, a1 4 i (by omega), vm_u2_ne (by omega), vm_u2_ne (by omega), vm_u2_ne (by omega), vm_u2_ne (by omega), vm_u2_ne (by omega), vm_u2_ne (by omega), vm_u2_ne (by omega), vm_u2_ne (by omega), o 51 i (by omega) (by omega) (by omega) (by omega), e4 i, hR.1.2 i hi]
          · rw [a1 48 1 (by omega), a1 0 9 (by omega), vm_u2_ne (by omega), vm_u2_ne (by omega), vm_u2_eq, vm_u2_ne (by omega), vm_u2_ne (by omega), vm_u2_ne (by omega), vm_u2_ne (by omega), e9]
          · have := vm_dead_ne hd
            rw [a1 r j (by omega), vm_u2_ne (by omega), vm_u2_ne (by omega), vm_u2_ne (by omega), vm_u2_ne (by omega), o r j (by omega) h1 (by omega) (by omega)]
      simp (disch := omega) only [vm_nneg, nI_ltI, vm_fa, vm_tr, not_true, not_false_eq_true, true_and, and_true]
      refine ⟨fun _ => ⟨fun _ => ⟨fun h40 => ?_, fun h40 => ⟨fun h0 => ?_, fun h0 => ?_⟩⟩, fun q => absurd hb q⟩, fun q => absurd ha q⟩
      · exact fin M _ (fun _ => ⟨rfl, rfl⟩) (fun q => absurd h40 q) (fun q => absurd h40 q)
      · exact fin _ _ (fun q => absurd q h40) (fun _ _ => ⟨rfl, rfl⟩) (fun _ q => absurd h0 q)
      · apply v_Rows_make
        rw [vm_ex ha (by omega), vm_ex ha (by omega)]
        refine s_make19 ha (fun M' a1 a2 => fin M' _ (fun q => absurd q h40) (fun _ q => absurd q h0) (fun _ _ => ⟨rfl, fun r j g1 g2 g3 g4 => ?_, ?_, ?_, ?_, fun j => ?_⟩))
        · rw [a1 r j g1, vm_u2_ne g4, vm_u2_ne g3, vm_u2_ne g2]
        · rw [a1 0 9 (by omega), vm_u2_ne (by omega), vm_u2_ne (by omega), vm_u2_eq]
        · rw [a1 2 a (by omega), vm_u2_ne (by omega), vm_u2_eq, vm_add]
        · rw [a1 3 a (by omega), vm_u2_eq]
        · rw [a2 j, vm_u2_ne (by omega), vm_u2_ne (by omega), vm_u2_ne (by omega)]
    · have hb : E_M_row X (nI a) l n M (fun v' M2 => cBAD = v' ∧ vR M2) := by
        apply v_M_row
        refine s_M_isRow (fun k hk e => ⟨fun q => absurd q (by decide), fun _ => ?_⟩) (fun h => absurd rfl (h a ha))
        exact s_M_rng (T := 3) (by decide) (by decide) (by omega) (fun k hk e => absurd e (hno k hk)) (fun _ => ⟨fun _ => ⟨rfl, hR.thrown⟩, fun q => absurd rfl q⟩)
      simp (disch := omega) only [vm_nneg, nI_ltI, vm_fa, vm_tr, not_true, not_false_eq_true, true_and, and_true]
      refine ⟨fun _ => ⟨fun _ => hb, fun h => ⟨fun q => ?_, fun _ => hb⟩⟩, fun q => absurd ha q⟩
      exfalso
      rcases hl with hl | hl
      · exact h hl
      · exact hl q
  · have hb : E_M_row X x l n M (fun v' M2 => cBAD = v' ∧ vR M2) := by
      apply v_M_row
      exact s_M_isRow (fun k hk e => absurd e (hno k hk)) (fun _ => ⟨fun _ => ⟨rfl, hR.thrown⟩, fun q => absurd rfl q⟩)
    exact vm_row8 hx hb
theorem op_drop (hR : vR M) (x : Int32) : E_B_drop X x M (fun v M1 => E_M_drop X x M1 (fun v' M2 => v = v' ∧ vR M2)) := by
  apply v_B_drop
  rcases vm_one x (T := 8) (by omega) with ⟨a, ha, rfl⟩ | ⟨hno, hx⟩
  · obtain ⟨s, n, b1, b2, b3, b4, b5, b6⟩ := hR.1.1 a ha
    simp (disch := omega) only [vm_nneg, nI_ltI, vm_fa, vm_tr, not_true, not_false_eq_true, true_and, and_true, vm_ex]
    refine ⟨fun _ => ?_, fun q => absurd ha q⟩
    rw [b3, vm_n0 (by omega)]
    have hm : ∀ z M1 v, (s = 0 → v = Int32.ofInt (-1000010) - nI 1 ∧ z = 1 ∧ M1 = vm_u2 M 0 9 (nI 1)) → (s ≠ 0 → v = nI n ∧ z = 0 ∧ M1 = vm_u2 (vm_u2 M 0 9 (nI 0)) 2 a (nI 0)) → E_M_drop X (nI a) M1 (fun v' M2 => v = v' ∧ vR M2) := by
      intro z M1 v g0 g1
      apply v_M_drop
      refine s_M_isRow (fun k hk e => ⟨fun q => absurd q (by decide), fun _ => ?_⟩) (fun h => absurd rfl (h a ha))
      simp (disch := omega) only [vm_ex]
      by_cases hs : s = 0
      · obtain ⟨rfl, rfl, rfl⟩ := g0 hs
        have e49 : (vm_u2 (vm_u2 (vm_u2 M 0 9 (nI 1)) 48 0 (nI 0)) 48 1 (nI 0)) 49 a = Int32.ofInt (-1) := by
          rw [vm_u2_ne (by omega), vm_u2_ne (by omega), vm_u2_ne (by omega), b4]; exact if_pos hs
        rw [e49]
        refine ⟨fun _ => ⟨rfl, hR.found (v := nI 1) ?_ vm_u2_eq (fun r j hd h1 h2 => ?_)⟩, fun q => absurd (by decide) q⟩
        · rw [vm_u2_ne (by omega), vm_u2_ne (by omega), vm_u2_ne (by omega), vm_u2_eq]
        · have := vm_dead_ne hd
          rw [vm_u2_ne (by omega), vm_u2_ne (by omega), vm_u2_ne (by omega), vm_u2_ne h1]
      · obtain ⟨rfl, rfl, rfl⟩ := g1 hs
        have e49 : (vm_u2 (vm_u2 (vm_u2 (vm_u2 M 0 9 (nI 0)) 2 a (nI 0)) 48 0 (nI 0)) 48 1 (nI 0)) 49 a = nI (s - 1) := by
          rw [vm_u2_ne (by omega), vm_u2_ne (by omega), vm_u2_ne (by omega), vm_u2_ne (by omega), b4]; exact if_neg hs
        rw [e49]
        refine ⟨fun q => absurd q (nI_pos (by omega)), fun _ => ⟨?_, hR.rows ⟨fun r hr => ?_, fun i hi => ?_⟩ ?_ (fun r j hd h1 h2 h3 h4 => ?_)⟩⟩
        · rw [vm_u2_ne (by omega), vm_u2_ne (by omega), vm_u2_ne (by omega), vm_u2_ne (by omega), vm_u2_ne (by omega)]; exact b6.symm
        · obtain ⟨s', k, c1, c2, c3, c4, c5, c6⟩ := hR.1.1 r hr
          by_cases hra : r = a
          · subst hra
            refine ⟨0, n, by omega, b2, ?_, ?_, ?_, ?_⟩
            · rw [vm_u2_ne (by omega), vm_u2_ne (by omega), vm_u2_ne (by omega), vm_u2_eq]
            · rw [vm_u2_eq]; rfl
            · rw [vm_u2_ne (by omega), vm_u2_ne (by omega), vm_u2_ne (by omega), vm_u2_ne (by omega), vm_u2_ne (by omega)]; exact b5
            · rw [vm_u2_ne (by omega), vm_u2_ne (by omega), vm_u2_ne (by omega), vm_u2_ne (by omega), vm_u2_ne (by omega)]; exact b6
          · refine ⟨s', k, c1, c2, ?_, ?_, ?_, ?_⟩
            · rw [vm_u2_ne (by omega), vm_u2_ne (by omega), vm_u2_ne (by omega), vm_u2_ne (by omega), vm_u2_ne (by omega)]; exact c3
            · rw [vm_u2_ne (by omega), vm_u2_ne (by omega), vm_u2_ne (by omega), vm_u2_ne (by omega), vm_u2_ne (by omega)]; exact c4
            · rw [vm_u2_ne (by omega), vm_u2_ne (by omega), vm_u2_ne (by omega), vm_u2_ne (by omega), vm_u2_ne (by omega)]; exact c5
            · rw [vm_u2_ne (by omega), vm_u2_ne (by omega), vm_u2_ne (by omega), vm_u2_ne (by omega), vm_u2_ne (by omega)]; exact c6
        · simp (disch := omega) only [vm_u2_ne]; exact hR.1.2 i hi
        · rw [vm_u2_ne (by omega), vm_u2_eq, vm_u2_ne (by omega), vm_u2_ne (by omega), vm_u2_ne (by omega), vm_u2_ne (by omega), vm_u2_eq]
        · have := vm_dead_ne hd
          rw [vm_u2_ne (by omega), vm_u2_ne (by omega), vm_u2_ne (by omega), vm_u2_ne (by omega), vm_u2_ne h1]
    refine ⟨fun hs => hm 1 _ _ (fun _ => ⟨rfl, rfl, rfl⟩) (fun q => absurd hs q), fun hs => ?_⟩
    apply v_Rows_remove
    rw [vm_ex ha (by omega), vm_ex ha (by omega)]
    refine hm 0 _ _ (fun q => absurd q hs) (fun _ => ⟨?_, rfl, rfl⟩)
    rw [vm_u2_ne (by omega), vm_u2_ne (by omega)]; exact b5
  · have hb : E_M_drop X x M (fun v' M2 => cBAD = v' ∧ vR M2) := by
      apply v_M_drop
      exact s_M_isRow (fun k hk e => absurd e (hno k hk)) (fun _ => ⟨fun _ => ⟨rfl, hR.thrown⟩, fun q => absurd rfl q⟩)
    exact vm_row8 hx hb
end VH
