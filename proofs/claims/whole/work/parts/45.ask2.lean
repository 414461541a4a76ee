section VO
variable {X : Nat × (Nat → Int32)} {M : vm_M}
abbrev cBAD : Int32 := Int32.ofInt (-1000001)
theorem vm_tr (q : Prop) : (True → q) ↔ q := ⟨fun h => h trivial, fun h _ => h⟩
theorem vm_fa (q : Prop) : (False → q) ↔ True := ⟨fun _ => trivial, fun _ h => h.elim⟩
theorem op_takes (hR : vR M) (x t : Int32) : E_B_takes X x t M (fun v M1 => E_M_takes X x t M1 (fun v' M2 => v = v' ∧ vR M2)) := by
  obtain ⟨f, w, hH, hA, hT, e7, e52⟩ := hR.traders
  have e52' : (vm_u2 M 48 0 (nI 0)) 52 2 = nI (f 2) := e52
  have hH' := vm_hit (v := nI 0) hH
  apply v_B_takes
  rw [e7]
  rcases vm_one x (T := f 2) (by omega) with ⟨n, hn, rfl⟩ | ⟨hno, hx⟩
  · rcases vm_one t (T := 61) (by omega) with ⟨m, hm, rfl⟩ | ⟨hno, ht⟩
    · have hk := hH.2.1.2.2.2.2.2.2.1 n hn
      have ho := hH.1.2.2.2.2.2.2.2.1 n hn
      have hd := hH.1.2.2.1
      have k6 := hH'.2.2.1 (6 + 4 * n) (by omega) (by omega)
      have k8 := hH'.2.2.1 (8 + 4 * n) (by omega) (by omega)
      have k0 := hH'.2.2.1 0 (by omega) (by omega)
      rw [Nat.zero_add] at k6 k8
      simp (disch := omega) only [vm_nneg, nI_ltI, hn, vm_fa, vm_tr, not_true, not_false_eq_true, true_and, and_true]
      rw [show (60 < m) ↔ False from ⟨fun h => by omega, False.elim⟩]
      simp only [vm_fa, vm_tr, not_false_eq_true, true_and]
      refine s_Hill_accepts (by omega) hk.1 ho.1 ho.2.1 ?_
      have e2 : M 7 2 = nI (f 0) := hH.2.1.2.2.1
      have e10 : M 10 n = nI (f (8 + 4 * n)) := hk.2.2.1
      rw [e2, e10, vf_acc_eq (by omega) (by omega) (by omega)]
      have key : ∀ v : Int32, (v = nI 0 ∨ v = nI 1) → vf_acc (f (6 + 4 * n)) (nI (f (8 + 4 * n))) (nI m) (nI (f 0)) = v → E_M_takes X (nI n) (nI m) M (fun v' M2 => v = v' ∧ vR M2) := by
        intro v hv he
        apply v_M_takes
        refine s_M_isTrader hT e52' (fun k hk e => ⟨fun q => absurd q (by decide), fun _ => ?_⟩) (fun h => absurd rfl (h n hn))
        refine s_M_isMinute (fun k hk e => ⟨fun q => absurd q (by decide), fun _ => ?_⟩) (fun h => absurd rfl (h m hm))
        refine s_M_isTaken (by omega) k6 ho.1 ho.2.1 ?_
        rw [k8, k0, he]
        rcases hv with rfl | rfl
        · exact ⟨fun _ => ⟨rfl, hR.thrown⟩, fun q => absurd rfl q⟩
        · exact ⟨fun q => absurd q (by decide), fun _ => ⟨rfl, hR.thrown⟩⟩
      rw [← vf_acc_eq (q := f (6 + 4 * n)) (tl := f (8 + 4 * n)) (t := m) (d := f 0) (by omega) (by omega) (by omega)]
      have hv : vf_acc (f (6 + 4 * n)) (nI (f (8 + 4 * n))) (nI m) (nI (f 0)) = nI 0 ∨ vf_acc (f (6 + 4 * n)) (nI (f (8 + 4 * n))) (nI m) (nI (f 0)) = nI 1 := by
        rw [vf_acc_eq (by omega) (by omega) (by omega)]
        split
        · exact Or.inr rfl
        · exact Or.inl rfl
      rcases hv with hv | hv
      · rw [hv]
        exact ⟨fun _ => key _ (Or.inl rfl) hv, fun q => absurd rfl q⟩
      · rw [hv]
        exact ⟨fun q => absurd q (by decide), fun _ => key _ (Or.inr rfl) hv⟩
    · have hb : E_M_takes X (nI n) t M (fun v' M2 => cBAD = v' ∧ vR M2) := by
        apply v_M_takes
        refine s_M_isTrader hT e52' (fun k hk e => ⟨fun q => absurd q (by decide), fun _ => ?_⟩) (fun h => absurd rfl (h n hn))
        exact s_M_isMinute (fun k hk e => absurd e (hno k hk)) (fun _ => ⟨fun _ => ⟨rfl, hR.thrown⟩, fun q => absurd rfl q⟩)
      have h60 : t < 0 ∨ nI 60 < t := by
        rcases ht with h | h
        · exact Or.inl h
        · refine Or.inr (Int32.lt_iff_toInt_lt.mpr ?_)
          have h1 := Int32.not_lt.mp h
          have h2 := Int32.le_iff_toInt_le.mp h1
          have e1 := nI_toInt (n := 61) (by omega)
          have e2 := nI_toInt (n := 60) (by omega)
          omega
      simp (disch := omega) only [vm_nneg, nI_ltI, hn, vm_fa, vm_tr, not_true, not_false_eq_true, true_and, and_true]
      rcases h60 with h | h
      · exact ⟨fun _ => hb, fun q => absurd h q⟩
      · exact ⟨fun _ => hb, fun _ => ⟨fun _ => hb, fun q => absurd h q⟩⟩
  · have hb : E_M_takes X x t M (fun v' M2 => cBAD = v' ∧ vR M2) := by
      apply v_M_takes
      exact s_M_isTrader hT e52' (fun m hm e => absurd e (hno m hm)) (fun _ => ⟨fun _ => ⟨rfl, hR.thrown⟩, fun q => absurd rfl q⟩)
    rcases hx with hx | hx
    · exact ⟨fun _ => hb, fun q => absurd hx q⟩
    · exact ⟨fun _ => hb, fun _ => ⟨fun q => absurd q hx, fun _ => hb⟩⟩
theorem vm_60 {t : Int32} (ht : t < 0 ∨ ¬ t < nI 61) : t < 0 ∨ nI 60 < t := by
  rcases ht with h | h
  · exact Or.inl h
  · refine Or.inr (Int32.lt_iff_toInt_lt.mpr ?_)
    have h1 := Int32.not_lt.mp h
    have h2 := Int32.le_iff_toInt_le.mp h1
    have e1 := nI_toInt (n := 61) (by omega)
    have e2 := nI_toInt (n := 60) (by omega)
    omega
theorem vm_n60 {m : Nat} (h : m < 61) : nI 60 < nI m ↔ False := by
  rw [nI_ltI (by omega) (by omega)]
  exact ⟨fun h => by omega, False.elim⟩
theorem op_there (hR : vR M) (x y t : Int32) : E_B_there X x y t M (fun v M1 => E_M_there X x y t M1 (fun v' M2 => v = v' ∧ vR M2)) := by
  obtain ⟨f, w, hH, hA, hT, e7, e52⟩ := hR.traders
  have e52' : (vm_u2 M 48 0 (nI 0)) 52 2 = nI (f 2) := e52
  have hH' := vm_hit (v := nI 0) hH
  apply v_B_there
  rw [e7]
  rcases vm_one x (T := f 2) (by omega) with ⟨n, hn, rfl⟩ | ⟨hno, hx⟩
  · rcases vm_one y (T := f 2) (by omega) with ⟨m, hm, rfl⟩ | ⟨hno, hy⟩
    · simp (disch := omega) only [vm_nneg, nI_ltI, nI_eq, hn, hm, vm_fa, vm_tr, not_true, not_false_eq_true, true_and, and_true]
      by_cases hnm : n = m
      · have hb : E_M_there X (nI n) (nI m) t M (fun v' M2 => cBAD = v' ∧ vR M2) := by
          apply v_M_there
          refine s_M_isTrader hT e52' (fun k hk e => ⟨fun q => absurd q (by decide), fun _ => ?_⟩) (fun h => absurd rfl (h n hn))
          refine s_M_isTrader hT e52' (fun k hk e => ⟨fun q => absurd q (by decide), fun _ => ?_⟩) (fun h => absurd rfl (h m hm))
          exact ⟨fun _ => ⟨rfl, hR.thrown⟩, fun q => absurd (by rw [hnm]) q⟩
        exact ⟨fun _ => hb, fun q => absurd hnm q⟩
      · refine ⟨fun q => absurd q hnm, fun _ => ?_⟩
        rcases vm_one t (T := 61) (by omega) with ⟨u, hu, rfl⟩ | ⟨hno, ht⟩
        · simp (disch := omega) only [vm_nneg, vm_n60, vm_fa, vm_tr, not_false_eq_true, true_and, and_true]
          refine s_Hill_arrival hH.2.1 hH.1 (by omega) (by omega) (by omega) ?_
          apply v_M_there
          refine s_M_isTrader hT e52' (fun k hk e => ⟨fun q => absurd q (by decide), fun _ => ?_⟩) (fun h => absurd rfl (h n hn))
          refine s_M_isTrader hT e52' (fun k hk e => ⟨fun q => absurd q (by decide), fun _ => ?_⟩) (fun h => absurd rfl (h m hm))
          refine ⟨fun q => absurd ((nI_eq (by omega) (by omega)).mp q) hnm, fun _ => ?_⟩
          refine s_M_isMinute (fun k hk e => ⟨fun q => absurd q (by decide), fun _ => ?_⟩) (fun h => absurd rfl (h u hu))
          exact s_M_thereIn hH'.2.2 hH.1 (by omega) (by omega) (by omega) ⟨rfl, hR.thrown⟩
        · have hb : E_M_there X (nI n) (nI m) t M (fun v' M2 => cBAD = v' ∧ vR M2) := by
            apply v_M_there
            refine s_M_isTrader hT e52' (fun k hk e => ⟨fun q => absurd q (by decide), fun _ => ?_⟩) (fun h => absurd rfl (h n hn))
            refine s_M_isTrader hT e52' (fun k hk e => ⟨fun q => absurd q (by decide), fun _ => ?_⟩) (fun h => absurd rfl (h m hm))
            refine ⟨fun q => absurd ((nI_eq (by omega) (by omega)).mp q) hnm, fun _ => ?_⟩
            exact s_M_isMinute (fun k hk e => absurd e (hno k hk)) (fun _ => ⟨fun _ => ⟨rfl, hR.thrown⟩, fun q => absurd rfl q⟩)
          rcases vm_60 ht with h | h
          · exact ⟨fun _ => hb, fun q => absurd h q⟩
          · exact ⟨fun _ => hb, fun _ => ⟨fun _ => hb, fun q => absurd h q⟩⟩
    · have hb : E_M_there X (nI n) y t M (fun v' M2 => cBAD = v' ∧ vR M2) := by
        apply v_M_there
        refine s_M_isTrader hT e52' (fun k hk e => ⟨fun q => absurd q (by decide), fun _ => ?_⟩) (fun h => absurd rfl (h n hn))
        exact s_M_isTrader hT e52' (fun m hm e => absurd e (hno m hm)) (fun _ => ⟨fun _ => ⟨rfl, hR.thrown⟩, fun q => absurd rfl q⟩)
      simp (disch := omega) only [vm_nneg, nI_ltI, nI_eq, hn, vm_fa, vm_tr, not_true, not_false_eq_true, true_and, and_true]
      rcases hy with hy | hy
      · exact ⟨fun _ => hb, fun q => absurd hy q⟩
      · exact ⟨fun _ => hb, fun _ => ⟨fun q => absurd q hy, fun _ => hb⟩⟩
  · have hb : E_M_there X x y t M (fun v' M2 => cBAD = v' ∧ vR M2) := by
      apply v_M_there
      exact s_M_isTrader hT e52' (fun m hm e => absurd e (hno m hm)) (fun _ => ⟨fun _ => ⟨rfl, hR.thrown⟩, fun q => absurd rfl q⟩)
    rcases hx with hx | hx
    · exact ⟨fun _ => hb, fun q => absurd hx q⟩
    · exact ⟨fun _ => hb, fun _ => ⟨fun q => absurd q hx, fun _ => hb⟩⟩
theorem op_trace (hR : vR M) (x : Int32) : E_B_trace X x M (fun v M1 => E_M_trace X x M1 (fun v' M2 => v = v' ∧ vR M2)) := by
  obtain ⟨n, hn, e46, e48, hall⟩ := hR.2.2.2.2.2.2
  have e48' : (vm_u2 M 48 0 (nI 0)) 48 29 = nI n := e48
  have hhi : ((nI n - nI 1).toInt64).toInt = (n : Int) - 1 := by
    rw [vm_i64]
    match n, hn with
    | 0, _ => decide
    | T + 1, hT => rw [show nI (T + 1) - nI 1 = nI T from pk_sub (by omega), nI_toInt (by omega)]; omega
  apply v_B_trace
  rw [e46]
  rcases vm_one x (T := n) (by omega) with ⟨i, hi, rfl⟩ | ⟨hno, hx⟩
  · have h16 : i < 16 := by omega
    simp (disch := omega) only [vm_nneg, nI_ltI, hi, h16, vm_ex, vm_fa, vm_tr, not_true, not_false_eq_true, true_and, and_true]
    apply v_M_trace
    rw [e48']
    refine s_M_rng (T := n) (by decide) hhi (by omega) (fun k hk e => ⟨fun q => absurd q (by decide), fun _ => ?_⟩) (fun h => absurd rfl (h i hi))
    simp (disch := omega) only [vm_ex]
    exact ⟨hall i hi, hR.thrown⟩
  · have hb : E_M_trace X x M (fun v' M2 => cNONE = v' ∧ vR M2) := by
      apply v_M_trace
      rw [e48']
      exact s_M_rng (T := n) (by decide) hhi (by omega) (fun k hk e => absurd e (hno k hk)) (fun _ => ⟨fun _ => ⟨rfl, hR.thrown⟩, fun q => absurd rfl q⟩)
    rcases hx with hx | hx
    · exact ⟨fun _ => hb, fun q => absurd hx q⟩
    · exact ⟨fun _ => hb, fun _ => ⟨fun q => absurd q hx, fun _ => hb⟩⟩
end VO
