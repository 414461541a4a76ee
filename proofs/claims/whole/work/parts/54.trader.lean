section VO
variable {X : Nat × (Nat → Int32)} {M : vm_M}
theorem vm_sw {x : Int32} {T : Nat} (hT : T < 2 ^ 30) (h : ∀ n, n < T + 1 → x ≠ nI n) : x.toInt < 0 ∨ (T : Int) < x.toInt := by
  by_cases h0 : x.toInt < 0
  · exact Or.inl h0
  · refine Or.inr (Decidable.byContradiction fun hc => ?_)
    refine h x.toInt.toNat (by omega) (Int32.toInt_inj.mp ?_)
    rw [nI_toInt (by omega)]
    omega
theorem op_trader (hR : vR M) (x y : Int32) : E_B_trader X x y M (fun v M1 => E_M_trader X x y M1 (fun v' M2 => v = v' ∧ vR M2)) := by
  obtain ⟨f, w, hH, hA, hT, e7, e52⟩ := hR.traders
  have e52' : (vm_u2 M 48 0 (nI 0)) 52 2 = nI (f 2) := e52
  have hH' := vm_hit (v := nI 0) hH
  apply v_B_trader
  rw [e7]
  rcases vm_one x (T := f 2) (by omega) with ⟨n, hn, rfl⟩ | ⟨hno, hx⟩
  · have hk := hH.2.1.2.2.2.2.2.2.1 n hn
    have k7 := hH'.2.2.1 (7 + 4 * n) (by omega) (by omega)
    have k8 := hH'.2.2.1 (8 + 4 * n) (by omega) (by omega)
    have k9 := hH'.2.2.2 n (by omega)
    rw [Nat.zero_add] at k7 k8 k9
    have e9 : M 9 n = nI (f (7 + 4 * n)) := hk.2.1
    have e10 : M 10 n = nI (f (8 + 4 * n)) := hk.2.2.1
    have e11 : M 11 n = w n := hk.2.2.2
    simp (disch := omega) only [vm_nneg, nI_ltI, hn, vm_fa, vm_tr, not_true, not_false_eq_true, true_and, and_true, vm_ex]
    rcases vm_one y (T := 4) (by omega) with ⟨m, hm, rfl⟩ | ⟨hno, hy⟩
    · have hin : ∀ v : Int32, ((nI m = nI 2 → E_M_priceOf X (nI n) (vm_u2 M 48 0 (nI 0)) (fun v' M2 => v = v' ∧ vR M2)) ∧ (¬ nI m = nI 2 → (nI m = nI 3 → (vm_u2 M 48 0 (nI 0)) 52 (9 + 4 * n) = v) ∧ (¬ nI m = nI 3 → (vm_u2 M 48 0 (nI 0)) 52 (7 + 4 * n + m) = v))) → E_M_trader X (nI n) (nI m) M (fun v' M2 => v = v' ∧ vR M2) := by
        intro v hv
        apply v_M_trader
        refine s_M_isTrader hT e52' (fun k hk e => ⟨fun q => absurd q (by decide), fun _ => ?_⟩) (fun h => absurd rfl (h n hn))
        refine s_M_rng (T := 4) (by decide) (by decide) (by omega) (fun k hk e => ⟨fun q => absurd q (by decide), fun _ => ?_⟩) (fun h => absurd rfl (h m hm))
        refine ⟨hv.1, fun q => ⟨fun q2 => ?_, fun q2 => ?_⟩⟩
        · simp (disch := omega) only [vm_mul, vm_add, vm_ex]
          rw [show 6 + 4 * n + 3 = 9 + 4 * n by omega]
          exact ⟨((hv.2 q).1 q2).symm, hR.thrown⟩
        · have hm2 : m < 2 := by
            rw [nI_eq (by omega) (by omega)] at q q2
            omega
          simp (disch := omega) only [vm_mul, vm_add, vm_ex]
          rw [show 6 + 4 * n + (1 + m) = 7 + 4 * n + m by omega]
          exact ⟨((hv.2 q).2 q2).symm, hR.thrown⟩
      simp (disch := omega) only [nI_toInt, nI_eq] at hin ⊢
      refine ⟨fun q => absurd q (by omega), fun q => ?_, fun q => ?_, fun q => ?_, fun q => ?_⟩
      · subst q
        refine hin _ ⟨fun q => absurd q (by decide), fun _ => ⟨fun q => absurd q (by decide), fun _ => ?_⟩⟩
        rw [e9]; exact k7
      · subst q
        refine hin _ ⟨fun q => absurd q (by decide), fun _ => ⟨fun q => absurd q (by decide), fun _ => ?_⟩⟩
        rw [e10, show 7 + 4 * n + 1 = 8 + 4 * n by omega]; exact k8
      · subst q
        refine s_price7 hH.2.1 hH.1 hn ?_
        refine hin _ ⟨fun _ => ?_, fun q => absurd rfl q⟩
        exact s_priceM hH'.2.2 hH.1 hn ⟨rfl, hR.thrown⟩
      · subst q
        refine hin _ ⟨fun q => absurd q (by decide), fun _ => ⟨fun _ => ?_, fun q => absurd rfl q⟩⟩
        rw [e11]; exact k9
    · have hb : E_M_trader X (nI n) y M (fun v' M2 => cBAD = v' ∧ vR M2) := by
        apply v_M_trader
        refine s_M_isTrader hT e52' (fun k hk e => ⟨fun q => absurd q (by decide), fun _ => ?_⟩) (fun h => absurd rfl (h n hn))
        exact s_M_rng (T := 4) (by decide) (by decide) (by omega) (fun k hk e => absurd e (hno k hk)) (fun _ => ⟨fun _ => ⟨rfl, hR.thrown⟩, fun q => absurd rfl q⟩)
      exact ⟨fun _ => hb, fun q => absurd q (hno 0 (by omega)), fun q => absurd q (hno 1 (by omega)), fun q => absurd q (hno 2 (by omega)), fun q => absurd q (hno 3 (by omega))⟩
  · have hb : E_M_trader X x y M (fun v' M2 => cBAD = v' ∧ vR M2) := by
      apply v_M_trader
      exact s_M_isTrader hT e52' (fun m hm e => absurd e (hno m hm)) (fun _ => ⟨fun _ => ⟨rfl, hR.thrown⟩, fun q => absurd rfl q⟩)
    rcases hx with hx | hx
    · exact ⟨fun _ => hb, fun q => absurd hx q⟩
    · exact ⟨fun _ => hb, fun _ => ⟨fun q => absurd q hx, fun _ => hb⟩⟩
def vm_isOne (k a : Nat) : Bool := a == 0 || k == a || (a == 1 && k < 4) || (a == 4 && k == 5)
theorem s_isOne {P : Int32 → vm_M → Prop} {k a : Nat} (h1 : 1 ≤ k) (h5 : k ≤ 5) (ha : a ≤ 5) (h : P (if vm_isOne k a = true then nI 1 else nI 0) M) : E_B_isOne X (nI k) (nI a) M P := by
  apply v_B_isOne
  simp (disch := omega) only [nI_toInt, nI_eq]
  unfold vm_isOne at h
  simp only [Bool.or_eq_true, Bool.and_eq_true, beq_iff_eq, decide_eq_true_eq] at h
  by_cases q : a = 0 ∨ k = a ∨ (a = 1 ∧ k < 4) ∨ (a = 4 ∧ k = 5)
  · rw [if_pos (by omega)] at h
    refine ⟨fun _ => ⟨fun _ => h, fun _ => absurd q (by omega)⟩, fun _ => h, fun _ => ⟨fun _ => h, fun _ => ⟨fun _ => h, fun _ => ⟨fun _ => h, fun _ => absurd q (by omega)⟩⟩⟩, fun _ => ⟨fun _ => h, fun _ => absurd q (by omega)⟩, fun _ => ⟨fun _ => h, fun _ => absurd q (by omega)⟩, fun _ => ⟨fun _ => h, fun _ => ⟨fun _ => h, fun _ => absurd q (by omega)⟩⟩⟩
  · rw [if_neg (by omega)] at h
    refine ⟨fun _ => ⟨fun _ => absurd q (by omega), fun _ => h⟩, fun _ => absurd q (by omega), fun _ => ⟨fun _ => absurd q (by omega), fun _ => ⟨fun _ => absurd q (by omega), fun _ => ⟨fun _ => absurd q (by omega), fun _ => h⟩⟩⟩, fun _ => ⟨fun _ => absurd q (by omega), fun _ => h⟩, fun _ => ⟨fun _ => absurd q (by omega), fun _ => h⟩, fun _ => ⟨fun _ => absurd q (by omega), fun _ => ⟨fun _ => absurd q (by omega), fun _ => h⟩⟩⟩
theorem s_M_isOf {P : Int32 → vm_M → Prop} {k a : Nat} (h1 : 1 ≤ k) (h5 : k ≤ 5) (ha : a ≤ 5) (h : P (if vm_isOne k a = true then nI 1 else nI 0) M) : E_M_isOf X (nI k) (nI a) M P := by
  apply v_M_isOf
  simp (disch := omega) only [vm_n0, nI_eq, nI_ltI]
  unfold vm_isOne at h
  simp only [Bool.or_eq_true, Bool.and_eq_true, beq_iff_eq, decide_eq_true_eq] at h
  by_cases q : a = 0 ∨ k = a ∨ (a = 1 ∧ k < 4) ∨ (a = 4 ∧ k = 5)
  · rw [if_pos (by omega)] at h
    refine ⟨fun _ => h, fun _ => ⟨fun _ => h, fun _ => ⟨fun _ => ⟨fun _ => h, fun _ => ⟨fun _ => ⟨fun _ => h, fun _ => absurd q (by omega)⟩, fun _ => absurd q (by omega)⟩⟩, fun _ => ⟨fun _ => ⟨fun _ => h, fun _ => absurd q (by omega)⟩, fun _ => absurd q (by omega)⟩⟩⟩⟩
  · rw [if_neg (by omega)] at h
    refine ⟨fun _ => absurd q (by omega), fun _ => ⟨fun _ => absurd q (by omega), fun _ => ⟨fun _ => ⟨fun _ => absurd q (by omega), fun _ => ⟨fun _ => ⟨fun _ => absurd q (by omega), fun _ => h⟩, fun _ => h⟩⟩, fun _ => ⟨fun _ => ⟨fun _ => absurd q (by omega), fun _ => h⟩, fun _ => h⟩⟩⟩⟩
/-- both set down what was found -/
theorem vR.found {M M' : vm_M} {v : Int32} (hR : vR M) (h9 : M' 0 9 = v) (h1 : M' 48 1 = v) (he : ∀ r j, vm_dead r j = false → ¬ (r = 0 ∧ j = 9) → ¬ (r = 48 ∧ j = 1) → M' r j = M r j) : vR M' := by
  obtain ⟨h1', h2, h3, ⟨f, w, h4, h5⟩, h6, h7, h8⟩ := hR
  refine ⟨h1'.of (fun r j g => he r j (vm_live (by omega)) (by omega) (by omega)), by rw [h9, h1], h3.of (fun r j g => he r j (vm_live (by omega)) (by omega) (by omega)), ⟨f, w, h4.of (fun r j g => he r j (vm_live (by omega)) (by omega) (by omega)), h5.of (fun r j g => he r j (vm_live (by omega)) (by omega) (by omega))⟩, h6.of (fun r j g => he r j (vm_live (by omega)) (by omega) (by omega)), h7.of (fun r j g => he r j (vm_live (by omega)) (by omega) (by omega)), h8.of (fun r j g => he r j (vm_live (by omega)) (by omega) (by omega))⟩
theorem vm_dead_ne {r j : Nat} (h : vm_dead r j = false) : ¬ (r = 48 ∧ j = 0) := by
  rintro ⟨rfl, rfl⟩
  exact absurd h (by decide)
theorem op_as (hR : vR M) (x y : Int32) : E_B_as X x y M (fun v M1 => E_M_as X x y M1 (fun v' M2 => v = v' ∧ vR M2)) := by
  obtain ⟨f, w, hH, hA, hT, e7, e52⟩ := hR.traders
  apply v_B_as
  rw [e7]
  rcases vm_one x (T := f 2) (by omega) with ⟨n, hn, rfl⟩ | ⟨hno, hx⟩
  · have hk := hH.2.1.2.2.2.2.2.2.1 n hn
    have ho := hH.1.2.2.2.2.2.2.2.1 n hn
    simp (disch := omega) only [vm_nneg, nI_ltI, hn, vm_fa, vm_tr, not_true, not_false_eq_true, true_and, and_true, vm_ex]
    rcases vm_one y (T := 6) (by omega) with ⟨m, hm, rfl⟩ | ⟨hno, hy⟩
    · simp (disch := omega) only [vm_nneg, nI_ltI, vm_fa, vm_tr, not_true, not_false_eq_true, true_and, and_true]
      refine ⟨fun q => absurd q (by omega), fun _ => ?_⟩
      have e8 : M 8 n = nI (f (6 + 4 * n)) := hk.1
      rw [e8]
      have hM : ∀ (z : Nat) (M1 : vm_M) (v : Int32), M1 = vm_u2 M 0 9 (nI z) → (vm_isOne (f (6 + 4 * n)) m = true → z = 0 ∧ v = nI n) → (¬ vm_isOne (f (6 + 4 * n)) m = true → z = 3 ∧ v = Int32.ofInt (-1000010) - nI 3) → E_M_as X (nI n) (nI m) M1 (fun v' M2 => v = v' ∧ vR M2) := by
        intro z M1 v hM1 hy hn'
        have o : ∀ r j, ¬ (r = 0 ∧ j = 9) → M1 r j = M r j := fun r j h => by rw [hM1, vm_u2_ne h]
        have e52' : (vm_u2 M1 48 0 (nI 0)) 52 2 = nI (f 2) := by rw [vm_u2_r (by omega), o 52 2 (by omega)]; exact e52
        have k6 := hH.2.2.1 (6 + 4 * n) (by omega) (by omega)
        rw [Nat.zero_add] at k6
        have h09 : M1 0 9 = nI z := by rw [hM1, vm_u2_eq]
        apply v_M_as
        refine s_M_isTrader hT e52' (fun k hk e => ⟨fun q => absurd q (by decide), fun _ => ?_⟩) (fun h => absurd rfl (h n hn))
        refine s_M_rng (T := 6) (by decide) (by decide) (by omega) (fun k hk e => ⟨fun q => absurd q (by decide), fun _ => ?_⟩) (fun h => absurd rfl (h m hm))
        simp (disch := omega) only [vm_mul, vm_add, vm_ex]
        rw [Nat.add_zero, vm_u2_r (by omega), vm_u2_r (by omega), o 52 _ (by omega), k6]
        refine s_M_isOf ho.1 ho.2.1 (by omega) ?_
        by_cases hb : vm_isOne (f (6 + 4 * n)) m = true
        · obtain ⟨rfl, rfl⟩ := hy hb
          rw [if_pos hb]
          refine ⟨fun q => absurd q (by decide), fun _ => ⟨rfl, hR.found (v := nI 0) ?_ ?_ ?_⟩⟩
          · rw [vm_u2_ne (by omega), vm_u2_ne (by omega)]; exact h09
          · rw [vm_u2_eq]
          · intro r j hd h1 h2
            have := vm_dead_ne hd
            rw [vm_u2_ne (by omega), vm_u2_ne (by omega), o r j (by omega)]
        · obtain ⟨rfl, rfl⟩ := hn' hb
          rw [if_neg hb]
          refine ⟨fun _ => ⟨rfl, hR.found (v := nI 3) ?_ ?_ ?_⟩, fun q => absurd rfl q⟩
          · rw [vm_u2_ne (by omega), vm_u2_ne (by omega), vm_u2_ne (by omega)]; exact h09
          · rw [vm_u2_eq]
          · intro r j hd h1 h2
            have := vm_dead_ne hd
            rw [vm_u2_ne (by omega), vm_u2_ne (by omega), vm_u2_ne (by omega), o r j (by omega)]
      refine s_isOne ho.1 ho.2.1 (by omega) ?_
      by_cases hb : vm_isOne (f (6 + 4 * n)) m = true
      · rw [if_pos hb]
        exact ⟨fun q => absurd q (by decide), fun _ => hM 0 _ _ rfl (fun _ => ⟨rfl, rfl⟩) (fun q => absurd hb q)⟩
      · rw [if_neg hb]
        exact ⟨fun _ => hM 3 _ _ rfl (fun q => absurd q hb) (fun _ => ⟨rfl, rfl⟩), fun q => absurd rfl q⟩
    · have e52' : (vm_u2 M 48 0 (nI 0)) 52 2 = nI (f 2) := e52
      have hb : E_M_as X (nI n) y M (fun v' M2 => cBAD = v' ∧ vR M2) := by
        apply v_M_as
        refine s_M_isTrader hT e52' (fun k hk e => ⟨fun q => absurd q (by decide), fun _ => ?_⟩) (fun h => absurd rfl (h n hn))
        exact s_M_rng (T := 6) (by decide) (by decide) (by omega) (fun k hk e => absurd e (hno k hk)) (fun _ => ⟨fun _ => ⟨rfl, hR.thrown⟩, fun q => absurd rfl q⟩)
      have hy' := vm_sw (T := 5) (by omega) hno
      have e5 := nI_toInt (n := 5) (by omega)
      refine ⟨fun _ => hb, fun q => ⟨fun _ => hb, fun q2 => ?_⟩⟩
      exfalso
      rcases hy' with h | h
      · exact q (Int32.lt_iff_toInt_lt.mpr h)
      · refine q2 (Int32.lt_iff_toInt_lt.mpr ?_)
        rw [e5]
        omega
  · have e52' : (vm_u2 M 48 0 (nI 0)) 52 2 = nI (f 2) := e52
    have hb : E_M_as X x y M (fun v' M2 => cBAD = v' ∧ vR M2) := by
      apply v_M_as
      exact s_M_isTrader hT e52' (fun m hm e => absurd e (hno m hm)) (fun _ => ⟨fun _ => ⟨rfl, hR.thrown⟩, fun q => absurd rfl q⟩)
    rcases hx with hx | hx
    · exact ⟨fun _ => hb, fun q => absurd hx q⟩
    · exact ⟨fun _ => hb, fun _ => ⟨fun q => absurd q hx, fun _ => hb⟩⟩
def vm_pres (M : vm_M) : Nat → Nat
  | 0 => 0
  | k + 1 => vm_pres M k + if M 2 k = 0 then 0 else 1
theorem op_count (hR : vR M) (x : Int32) : E_B_count X x M (fun v M1 => E_M_count X x M1 (fun v' M2 => v = v' ∧ vR M2)) := by
  obtain ⟨f, w, hH, hA, hT, e7, e52⟩ := hR.traders
  obtain ⟨nt, ht0, ht1, ht2, ht3, ht4⟩ := hR.2.2.1
  obtain ⟨na, q, F, W, hna, hq, a1, a2, a8, hF, hW, hall⟩ := hA
  apply v_B_count
  rcases vm_one x (T := 8) (by omega) with ⟨n, hn, rfl⟩ | ⟨hno, hy⟩
  · have hz := hR.thrown (v := nI 0)
    have g : ∀ (k : Nat) (v : Int32), n = k → (k = 1 → (vm_u2 M 48 0 (nI 0)) 52 2 = v) → (k = 2 → (vm_u2 M 48 0 (nI 0)) 52 3 = v) → (k = 3 → (vm_u2 M 48 0 (nI 0)) 52 4 = v) → (k = 4 → (vm_u2 M 48 0 (nI 0)) 48 8 = v) → (k = 5 → (vm_u2 M 48 0 (nI 0)) 52 0 = v) → (k = 6 → (vm_u2 M 48 0 (nI 0)) 52 5 = v) → (k = 7 → (vm_u2 M 48 0 (nI 0)) 48 10 = v) → (k = 0 → C_M_count_58 X (nI n) (nI 0) (nI 0) (vm_u2 M 48 0 (nI 0)) (fun v' M2 => v = v' ∧ vR M2)) → E_M_count X (nI n) M (fun v' M2 => v = v' ∧ vR M2) := by
      intro k v hk g1 g2 g3 g4 g5 g6 g7 g0
      subst hk
      apply v_M_count
      simp (disch := omega) only [nI_toInt, nI_eq]
      refine ⟨fun q => absurd q (by omega), g0, fun q => ⟨(g1 q).symm, hz⟩, fun q => ⟨(g2 q).symm, hz⟩, fun q => ⟨(g3 q).symm, hz⟩, fun q => ⟨(g4 q).symm, hz⟩, fun q => ⟨(g5 q).symm, hz⟩, fun q => ⟨(g6 q).symm, hz⟩, fun q => ⟨(g7 q).symm, hz⟩⟩
    have hMM := hH.2.2.1
    have c0 := hMM 0 (by omega) (by omega)
    have c2 := hMM 2 (by omega) (by omega)
    have c3 := hMM 3 (by omega) (by omega)
    have c4 := hMM 4 (by omega) (by omega)
    have c5 := hMM 5 (by omega) (by omega)
    simp only [Nat.zero_add] at c0 c2 c3 c4 c5
    have hC := hH.2.1
    have no : ∀ {p : Prop} (k : Nat), n = k → k ≠ n → p := fun k h1 h2 => absurd h1.symm h2
    simp (disch := omega) only [nI_toInt, nI_eq]
    refine ⟨fun q => absurd q (by omega), fun q => ?_, fun q => ?_, fun q => ?_, fun q => ?_, fun q => ?_, fun q => ?_, fun q => ?_, fun q => ?_⟩
    · have hr := hR.1.1
      have hpl : ∀ k, vm_pres M k ≤ k := by
        intro k
        induction k with
        | zero => exact Nat.le_refl _
        | succ k ih => unfold vm_pres; split <;> omega
      apply v_Rows_present
      have lm : ∀ (i k : Nat), k + i = 8 → C_M_count_58 X (nI n) (nI (vm_pres M k)) (nI k) (vm_u2 M 48 0 (nI 0)) (fun v' M2 => nI (vm_pres M 8) = v' ∧ vR M2) := by
        intro i
        induction i with
        | zero =>
          intro k hk
          have hk : k = 8 := by omega
          subst hk
          apply v_M_count_58
          rw [nI_ltI (by omega) (by omega)]
          exact ⟨fun q => absurd q (by omega), fun _ => ⟨rfl, hz⟩⟩
        | succ i ih =>
          intro k hk
          have nx := ih (k + 1) (by omega)
          obtain ⟨s, m, hs, hm, r1, r2, r3, r4⟩ := hr k (by omega)
          apply v_M_count_58
          rw [nI_ltI (by omega) (by omega)]
          simp (disch := omega) only [vm_ex, vm_add]
          refine ⟨fun _ => ?_, fun q => absurd (by omega) q⟩
          rw [vm_u2_r (by omega), r2]
          have hs0 : nI s = 0 ↔ s = 0 := vm_n0 (by omega)
          rw [vm_pres, r1] at nx
          unfold vr_l
          by_cases h0 : s = 0
          · rw [if_pos (hs0.mpr h0)] at nx
            rw [if_pos h0]
            exact ⟨fun _ => nx, fun q => absurd (by decide) q⟩
          · rw [if_neg (fun q => h0 (hs0.mp q))] at nx
            rw [if_neg h0]
            exact ⟨fun q => absurd q (nI_pos (by omega)), fun _ => nx⟩
      have lb : ∀ (i k : Nat), k + i = 8 → C_Rows_present_4 X (nI (vm_pres M k)) (nI k) M (fun v M1 => E_M_count X (nI n) M1 (fun v' M2 => v = v' ∧ vR M2)) := by
        intro i
        induction i with
        | zero =>
          intro k hk
          have hk : k = 8 := by omega
          subst hk
          apply v_Rows_present_4
          rw [nI_ltI (by omega) (by omega)]
          refine ⟨fun q => absurd q (by omega), fun _ => ?_⟩
          exact g 0 _ q (fun h => absurd h (by omega)) (fun h => absurd h (by omega)) (fun h => absurd h (by omega)) (fun h => absurd h (by omega)) (fun h => absurd h (by omega)) (fun h => absurd h (by omega)) (fun h => absurd h (by omega)) (fun _ => lm 8 0 (by omega))
        | succ i ih =>
          intro k hk
          have nx := ih (k + 1) (by omega)
          apply v_Rows_present_4
          rw [nI_ltI (by omega) (by omega)]
          simp (disch := omega) only [vm_ex, vm_add]
          refine ⟨fun _ => ?_, fun q => absurd (by omega) q⟩
          rw [vm_pres] at nx
          by_cases h0 : M 2 k = 0
          · rw [if_pos h0] at nx
            exact ⟨fun _ => nx, fun q => absurd h0 q⟩
          · rw [if_neg h0] at nx
            exact ⟨fun q => absurd q h0, fun _ => nx⟩
      exact lb 8 0 (by omega)
    · exact g 1 _ q (fun _ => (c2.trans e7.symm)) (fun h => absurd h (by omega)) (fun h => absurd h (by omega)) (fun h => absurd h (by omega)) (fun h => absurd h (by omega)) (fun h => absurd h (by omega)) (fun h => absurd h (by omega)) (fun h => absurd h (by omega))
    · exact g 2 _ q (fun h => absurd h (by omega)) (fun _ => c3.trans hC.2.1.symm) (fun h => absurd h (by omega)) (fun h => absurd h (by omega)) (fun h => absurd h (by omega)) (fun h => absurd h (by omega)) (fun h => absurd h (by omega)) (fun h => absurd h (by omega))
    · exact g 3 _ q (fun h => absurd h (by omega)) (fun h => absurd h (by omega)) (fun _ => c4.trans hC.2.2.2.2.1.symm) (fun h => absurd h (by omega)) (fun h => absurd h (by omega)) (fun h => absurd h (by omega)) (fun h => absurd h (by omega)) (fun h => absurd h (by omega))
    · exact g 4 _ q (fun h => absurd h (by omega)) (fun h => absurd h (by omega)) (fun h => absurd h (by omega)) (fun _ => by rw [vm_u2_ne (by omega)]; exact a8.trans a1.symm) (fun h => absurd h (by omega)) (fun h => absurd h (by omega)) (fun h => absurd h (by omega)) (fun h => absurd h (by omega))
    · exact g 5 _ q (fun h => absurd h (by omega)) (fun h => absurd h (by omega)) (fun h => absurd h (by omega)) (fun h => absurd h (by omega)) (fun _ => c0.trans hC.2.2.1.symm) (fun h => absurd h (by omega)) (fun h => absurd h (by omega)) (fun h => absurd h (by omega))
    · exact g 6 _ q (fun h => absurd h (by omega)) (fun h => absurd h (by omega)) (fun h => absurd h (by omega)) (fun h => absurd h (by omega)) (fun h => absurd h (by omega)) (fun _ => c5.trans hC.2.2.2.2.2.1.symm) (fun h => absurd h (by omega)) (fun h => absurd h (by omega))
    · exact g 7 _ q (fun h => absurd h (by omega)) (fun h => absurd h (by omega)) (fun h => absurd h (by omega)) (fun h => absurd h (by omega)) (fun h => absurd h (by omega)) (fun h => absurd h (by omega)) (fun _ => by rw [vm_u2_ne (by omega)]; exact ht2.trans ht1.symm) (fun h => absurd h (by omega))
  · have hb : E_M_count X x M (fun v' M2 => cBAD = v' ∧ vR M2) := by
      apply v_M_count
      exact ⟨fun _ => ⟨rfl, hR.thrown⟩, fun q => absurd q (hno 0 (by omega)), fun q => absurd q (hno 1 (by omega)), fun q => absurd q (hno 2 (by omega)), fun q => absurd q (hno 3 (by omega)), fun q => absurd q (hno 4 (by omega)), fun q => absurd q (hno 5 (by omega)), fun q => absurd q (hno 6 (by omega)), fun q => absurd q (hno 7 (by omega))⟩
    exact ⟨fun _ => hb, fun q => absurd q (hno 0 (by omega)), fun q => absurd q (hno 1 (by omega)), fun q => absurd q (hno 2 (by omega)), fun q => absurd q (hno 3 (by omega)), fun q => absurd q (hno 4 (by omega)), fun q => absurd q (hno 5 (by omega)), fun q => absurd q (hno 6 (by omega)), fun q => absurd q (hno 7 (by omega))⟩
end VO
