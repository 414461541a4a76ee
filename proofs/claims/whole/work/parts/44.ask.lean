/-! calls that read the hill alone -/
section VO
variable {X : Nat × (Nat → Int32)} {M : vm_M}
theorem s_M_in {P : Int32 → vm_M → Prop} {v lo hi : Int64} (h1 : lo.toInt ≤ v.toInt ∧ v.toInt ≤ hi.toInt → P (nI 1) M) (h0 : ¬ (lo.toInt ≤ v.toInt ∧ v.toInt ≤ hi.toInt) → P (nI 0) M) : E_M_in X v lo hi M P := by
  have key : ∀ a b : Int64, (lg_cmp a b < 0 ↔ a.toInt < b.toInt) ∧ (0 < lg_cmp a b ↔ b.toInt < a.toInt) := by
    intro a b
    unfold lg_cmp
    have e1 : a > b ↔ b.toInt < a.toInt := Int64.lt_iff_toInt_lt
    have e2 : a = b ↔ a.toInt = b.toInt := Int64.toInt_inj.symm
    by_cases g1 : a > b
    · rw [if_pos g1]
      have := e1.mp g1
      exact ⟨⟨fun q => absurd q (by decide), fun q => by omega⟩, ⟨fun _ => this, fun _ => by decide⟩⟩
    · rw [if_neg g1]
      have t1 : ¬ b.toInt < a.toInt := fun q => g1 (e1.mpr q)
      by_cases g2 : a = b
      · rw [if_pos g2]
        have := e2.mp g2
        exact ⟨⟨fun q => absurd q (by decide), fun q => by omega⟩, ⟨fun q => absurd q (by decide), fun q => by omega⟩⟩
      · rw [if_neg g2]
        have t2 : ¬ a.toInt = b.toInt := fun q => g2 (e2.mpr q)
        exact ⟨⟨fun _ => by omega, fun _ => by decide⟩, ⟨fun q => absurd q (by decide), fun q => by omega⟩⟩
  apply v_M_in
  rw [(key v lo).1, (key v hi).2]
  refine ⟨fun q => h0 (by omega), fun q => ⟨fun q2 => h0 (by omega), fun q2 => h1 (by omega)⟩⟩
theorem vm_i64 (x : Int32) : x.toInt64.toInt = x.toInt := Int32.toInt_toInt64 x
theorem s_M_rng {P : Int32 → vm_M → Prop} {x : Int32} {lo hi : Int64} {T : Nat} (hlo : lo.toInt = 0) (hhi : hi.toInt = (T : Int) - 1) (hT : T < 2 ^ 31) (h1 : ∀ n, n < T → x = nI n → P (nI 1) M) (h0 : (∀ n, n < T → x ≠ nI n) → P (nI 0) M) : E_M_in X x.toInt64 lo hi M P := by
  refine s_M_in (fun q => ?_) (fun q => ?_)
  · rw [hlo, hhi, vm_i64] at q
    refine h1 x.toInt.toNat (by omega) (Int32.toInt_inj.mp ?_)
    rw [nI_toInt (by omega)]
    omega
  · rw [hlo, hhi, vm_i64] at q
    refine h0 (fun n hn e => q ?_)
    rw [e, nI_toInt (by omega)]
    omega
theorem s_M_isTrader {P : Int32 → vm_M → Prop} {x : Int32} {T : Nat} (hT : T ≤ 6) (hM : M 52 2 = nI T) (h1 : ∀ n, n < T → x = nI n → P (nI 1) M) (h0 : (∀ n, n < T → x ≠ nI n) → P (nI 0) M) : E_M_isTrader X x M P := by
  apply v_M_isTrader
  rw [hM]
  refine s_M_rng (T := T) (by decide) ?_ (by omega) (fun n hn e => ⟨Or.inr rfl, h1 n hn e⟩) (fun h => ⟨Or.inl rfl, h0 h⟩)
  rw [vm_i64]
  match T, hT with
  | 0, _ => decide
  | T + 1, hT => rw [show nI (T + 1) - nI 1 = nI T from pk_sub (by omega), nI_toInt (by omega)]; omega
theorem s_M_isRow {P : Int32 → vm_M → Prop} {x : Int32} (h1 : ∀ n, n < 8 → x = nI n → P (nI 1) M) (h0 : (∀ n, n < 8 → x ≠ nI n) → P (nI 0) M) : E_M_isRow X x M P := by
  apply v_M_isRow
  exact s_M_rng (T := 8) (by decide) (by decide) (by omega) (fun n hn e => ⟨Or.inr rfl, h1 n hn e⟩) (fun h => ⟨Or.inl rfl, h0 h⟩)
theorem s_M_isMinute {P : Int32 → vm_M → Prop} {x : Int32} (h1 : ∀ n, n < 61 → x = nI n → P (nI 1) M) (h0 : (∀ n, n < 61 → x ≠ nI n) → P (nI 0) M) : E_M_isMinute X x M P := by
  apply v_M_isMinute
  exact s_M_rng (T := 61) (by decide) (by decide) (by omega) (fun n hn e => ⟨Or.inr rfl, h1 n hn e⟩) (fun h => ⟨Or.inl rfl, h0 h⟩)
/-- an int is one of 0 .. T - 1, or not -/
theorem vm_one (x : Int32) {T : Nat} (hT : T < 2 ^ 31) : (∃ n, n < T ∧ x = nI n) ∨ ((∀ n, n < T → x ≠ nI n) ∧ (x < 0 ∨ ¬ x < nI T)) := by
  rcases pk_ix x hT with h | h | ⟨n, hn, e⟩
  · refine Or.inr ⟨fun n hn e => ?_, Or.inl h⟩
    rw [e] at h
    exact nI_pos (by omega) h
  · refine Or.inr ⟨fun n hn e => ?_, Or.inr (Int32.not_lt.mpr h)⟩
    rw [e] at h
    exact nI_ge hn hT h
  · exact Or.inl ⟨n, hn, e⟩
theorem vm_nneg {n : Nat} (h : n < 2 ^ 31) : nI n < 0 ↔ False := ⟨fun q => nI_pos h q, False.elim⟩
theorem vm_n0 {n : Nat} (h : n < 2 ^ 31) : nI n = 0 ↔ n = 0 := nI_eq (b := 0) h (by omega)
theorem vm_0n {n : Nat} (h : n < 2 ^ 31) : 0 < nI n ↔ 0 < n := nI_ltI (a := 0) (by omega) h
theorem vm_u2_ne {M : vm_M} {r j r' j' : Nat} {v : Int32} (h : ¬ (r' = r ∧ j' = j)) : vm_u2 M r j v r' j' = M r' j' := if_neg h
theorem vm_u2_r {M : vm_M} {r j r' : Nat} {v : Int32} (h : r' ≠ r) (j' : Nat) : vm_u2 M r j v r' j' = M r' j' := if_neg (fun q => h q.1)
theorem vm_u2_eq {M : vm_M} {r j : Nat} {v : Int32} : vm_u2 M r j v r j = v := if_pos ⟨rfl, rfl⟩
/-- a call of both, with one answer, and the relation behind it -/
theorem vR.traders (hR : vR M) : ∃ f w, vR_hill M f w ∧ vR_acts M f w ∧ f 2 ≤ 6 ∧ M 7 0 = nI (f 2) ∧ M 52 2 = nI (f 2) := by
  obtain ⟨h1, h2, h3, ⟨f, w, h4, h5⟩, h6, h7, h8⟩ := hR
  exact ⟨f, w, h4, h5, h4.1.1, h4.2.1.1, h4.2.2.1 2 (by omega) (by omega)⟩
theorem vm_hit {M : vm_M} {f : Nat → Nat} {w : Nat → Int32} {v : Int32} (h : vR_hill M f w) : vR_hill (vm_u2 M 48 0 v) f w := h.of (fun r j g => vm_u2_r (by omega) j)
theorem op_kind (hR : vR M) (x : Int32) : E_B_kind X x M (fun v M1 => E_M_kind X x M1 (fun v' M2 => v = v' ∧ vR M2)) := by
  obtain ⟨f, w, hH, hA, hT, e7, e52⟩ := hR.traders
  have e52' : (vm_u2 M 48 0 (nI 0)) 52 2 = nI (f 2) := e52
  apply v_B_kind
  rw [e7]
  rcases vm_one x (T := f 2) (by omega) with ⟨n, hn, rfl⟩ | ⟨hno, hx⟩
  · have hk := hH.2.1.2.2.2.2.2.2.1 n hn
    have hmm := hH.2.2.1 (6 + 4 * n) (by omega) (by omega)
    simp (disch := omega) only [vm_nneg, vm_ex, nI_ltI, hn]
    simp only [not_true, not_false_eq_true, false_implies, true_implies, true_and, and_true]
    apply v_M_kind
    refine s_M_isTrader hT e52' (fun m hm e => ?_) (fun h => absurd rfl (h n hn))
    refine ⟨fun q => absurd q (by decide), fun _ => ?_⟩
    simp (disch := omega) only [vm_mul, vm_add, vm_ex]
    refine ⟨?_, hR.thrown⟩
    rw [vm_u2_r (by omega)]
    exact hk.1.trans (by rw [Nat.zero_add] at hmm; exact hmm.symm)
  · have hb : E_M_kind X x M (fun v' M2 => Int32.ofInt (-1000001) = v' ∧ vR M2) := by
      apply v_M_kind
      exact s_M_isTrader hT e52' (fun m hm e => absurd e (hno m hm)) (fun _ => ⟨fun _ => ⟨rfl, hR.thrown⟩, fun q => absurd rfl q⟩)
    rcases hx with hx | hx
    · exact ⟨fun _ => hb, fun q => absurd hx q⟩
    · exact ⟨fun _ => hb, fun _ => ⟨fun q => absurd q hx, fun _ => hb⟩⟩
theorem op_fault (hR : vR M) : E_B_fault X M (fun v M1 => E_M_fault X M1 (fun v' M2 => v = v' ∧ vR M2)) := by
  apply v_B_fault
  apply v_M_fault
  obtain ⟨n, h1, h2, h3, h4, h5⟩ := hR.2.2.1
  exact ⟨h5, hR.thrown⟩
theorem op_status (hR : vR M) : E_B_status X M (fun v M1 => E_M_status X M1 (fun v' M2 => v = v' ∧ vR M2)) := by
  apply v_B_status
  apply v_M_status
  exact ⟨hR.2.1.symm, hR.thrown⟩
end VO
