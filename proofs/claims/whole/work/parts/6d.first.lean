/-! THE START: what the two constructors leave -/
def vn_T0 : Nat → Nat → Option Nat := vn_T107_48_49 (vn_nT 48 (vn_T73_0_1 (vn_nT 0 (fun _ _ => none))))
def vn_M0 : vm_M := vn_M107_48_49 (vn_nM 48 (vn_M73_0_1 (vn_nM 0 (fun _ _ => 0))))
def vn_N (T : Nat → Nat → Option Nat) : Prop := ∀ i j, 65 ≤ i ∨ 30 ≤ j → T i j = none
theorem vn_N.new {n : Nat} {T : Nat → Nat → Option Nat} (h : vn_N T) : vn_N (vn_nT n T) := by
  intro i j hij
  unfold vn_nT
  split
  · rfl
  · exact h i j hij
theorem vn_N.u2 {r b x : Nat} {T : Nat → Nat → Option Nat} (hr : r < 65 ∧ b < 30) (h : vn_N T) : vn_N (vm_u2 T r b (some x)) := by
  intro i j hij
  unfold vm_u2
  rw [if_neg (by omega)]
  exact h i j hij
set_option maxRecDepth 100000 in
theorem vn_T0_N : vn_N vn_T0 := by
  have h0 : vn_N (fun _ _ => none) := fun _ _ _ => rfl
  unfold vn_T0 vn_T107_48_49 vn_T73_0_1
  simp only [vn_T36_7_8, vn_T36_14_15, vn_T36_21_22, vn_T36_28_29, vn_T47_1_2, vn_T58_5_6, vn_T0_35_36, vn_T17_41_42, vn_T8_46_47]
  repeat (first | exact h0 | refine vn_N.new ?_ | refine vn_N.u2 (by decide) ?_)
theorem vm_RT_N : vn_N vm_RT := by
  intro i j hij
  have hl : vm_RTl.length = 65 := rfl
  unfold vm_RT
  rw [List.getD_eq_getElem?_getD, List.getD_eq_getElem?_getD]
  cases hx : vm_RTl[i]? with
  | none => simp
  | some row =>
    have hi : i < 65 := by
      have := (List.getElem?_eq_some_iff.mp hx).1
      omega
    have hrow : row.length ≤ 30 := of_decide_eq_true (List.all_eq_true.mp (show vm_RTl.all (fun row => decide (row.length ≤ 30)) = true by decide +kernel) row (List.mem_of_getElem? hx))
    rw [Option.getD_some, List.getElem?_eq_none (by omega)]
    rfl
theorem vn_T0_eq : vn_T0 = vm_RT := by
  have h : ∀ i, i < 65 → ∀ j, j < 30 → vn_T0 i j = vm_RT i j := by decide +kernel
  funext i j
  by_cases hij : 65 ≤ i ∨ 30 ≤ j
  · rw [vn_T0_N i j hij, vm_RT_N i j hij]
  · exact h i (by omega) j (by omega)
theorem vn_M0_R : vR vn_M0 := by
  have h1 : ∀ r, r < 8 → vn_M0 2 r = nI 0 ∧ vn_M0 49 r = vr_l 0 ∧ vn_M0 3 r = nI 0 ∧ vn_M0 50 r = nI 0 := by decide +kernel
  have h2 : ∀ i, i < 320 → vn_M0 51 i = vn_M0 4 i := by decide +kernel
  have h3 : vn_M0 48 1 = vn_M0 0 9 ∧ vn_M0 5 1 = nI 0 ∧ vn_M0 48 10 = nI 0 ∧ vn_M0 5 7 = vn_M0 48 11 := by decide +kernel
  have h4 : vn_M0 7 0 = nI 0 ∧ vn_M0 7 1 = nI 0 ∧ vn_M0 7 2 = nI 0 ∧ vn_M0 7 3 = nI 0 ∧ vn_M0 7 4 = nI 0 ∧ vn_M0 7 5 = nI 0 := by decide +kernel
  have h5 : ∀ j, j < 36 → vn_M0 12 j = nI 0 ∧ vn_M0 13 j = nI 0 := by decide +kernel
  have h6 : ∀ j, j < 70 → vn_M0 52 j = nI 0 := by decide +kernel
  have h7 : vn_M0 35 1 = nI 0 ∧ vn_M0 35 2 = nI 0 ∧ vn_M0 48 8 = nI 0 := by decide +kernel
  have h8 : vn_M0 62 0 = nI 0 ∧ vn_M0 21 0 = nI 0 ∧ vn_M0 62 1 = nI 0 ∧ vn_M0 28 0 = nI 0 ∧ vn_M0 46 2 = nI 0 ∧ vn_M0 48 29 = nI 0 := by decide +kernel
  refine ⟨⟨fun r hr => ⟨0, 0, by omega, by omega, (h1 r hr).1, (h1 r hr).2.1, (h1 r hr).2.2.1, (h1 r hr).2.2.2⟩, h2⟩, h3.1, ⟨0, by omega, h3.2.1, h3.2.2.1, fun i hi => absurd hi (by omega), h3.2.2.2⟩, ⟨fun _ => 0, fun _ => nI 0, ⟨?_, ⟨h4.1, h4.2.1, h4.2.2.1, h4.2.2.2.1, h4.2.2.2.2.1, h4.2.2.2.2.2, fun x hx => absurd hx (Nat.not_lt_zero _), fun a b ha hb => h5 _ (by omega)⟩, ⟨fun j hj _ => ?_, fun x hx => h6 _ (by omega)⟩⟩, ⟨0, 0, fun _ _ => 0, fun _ _ => nI 0, by omega, by omega, h7.1, h7.2.1, h7.2.2, rfl, rfl, fun i hi => absurd hi (by omega)⟩⟩, Or.inl ⟨h8.1, h8.2.1⟩, Or.inl ⟨h8.2.2.1, h8.2.2.2.1⟩, ⟨0, by omega, h8.2.2.2.2.1, h8.2.2.2.2.2, fun i hi => absurd hi (by omega)⟩⟩
  · refine ⟨Nat.zero_le _, Nat.zero_le _, Nat.zero_le _, Nat.zero_le _, Nat.zero_le _, fun q => absurd q (Nat.not_lt_zero _), fun _ => ⟨rfl, rfl, rfl, rfl⟩, fun x hx => absurd hx (Nat.not_lt_zero _), fun k hk => absurd hk (Nat.not_lt_zero _)⟩
  · rw [Nat.zero_add]; exact h6 j hj
/-- the whole law, over our machine -/
theorem law_runs {X : Nat × (Nat → Int32)} (hX : X.1 ≤ 3072) : vm_WP X 180 0 [.ref 2000, .null, .null, .null] [] 65 6545 (vm_SH.take 0, (fun _ _ => none), (fun _ _ => 0)) (fun r _ => r = some (.int (nI 1))) := by
  have hl : C_L_18 X (nI 0) vn_M0 (fun v _ => v = nI 1) := law_loop hX 600 0 vn_M0 (by omega) (by omega) vn_M0_R
  have hw : vm_WP X 180 18 [.ref 2000, .ref 0, .ref 48, .int (nI 0)] [] 0 0 (vm_SH.take 65, vn_T0, vn_M0) (fun r _ => r = some (.int (nI 1))) := by
    rw [vn_T0_eq]
    exact vm_WP.mono hl (fun r σ' ⟨M', e, v, hv, h1⟩ => by rw [hv, h1])
  refine vn_newO 0 rfl rfl (by decide) (by decide) ?_
  refine vm_WP.seq 1 1 (pc' := 4) (L' := [.ref 2000, .null, .null, .null]) (S' := [.ref 0, .ref 0]) (σ' := (vm_SH.take 1, vn_nT 0 (fun _ _ => none), vn_nM 0 (fun _ _ => 0))) rfl ?_
  refine vm_WP.call (a := 73) 2 [.ref 0] [.ref 0] [.ref 0] rfl rfl (by decide) rfl rfl ⟨rfl, Or.inr rfl, by decide, by decide, Nat.le_of_ble_eq_true rfl, Nat.le_of_ble_eq_true rfl⟩ rfl (vn_c73_0_1 ?_)
  show vm_WP X 180 7 [.ref 2000, .null, .null, .null] [.ref 0] (65 - 1 - vm_mc 73) (6545 - 10 - vm_ms 73) (vm_SH.take 48, vn_T73_0_1 (vn_nT 0 (fun _ _ => none)), vn_M73_0_1 (vn_nM 0 (fun _ _ => 0))) _
  refine vm_WP.seq 3 1 (pc' := 8) (L' := [.ref 2000, .ref 0, .null, .null]) (S' := []) (σ' := (vm_SH.take 48, vn_T73_0_1 (vn_nT 0 (fun _ _ => none)), vn_M73_0_1 (vn_nM 0 (fun _ _ => 0)))) rfl ?_
  refine vn_newO 4 rfl rfl (by decide) (by decide) ?_
  refine vm_WP.seq 5 1 (pc' := 12) (L' := [.ref 2000, .ref 0, .null, .null]) (S' := [.ref 48, .ref 48]) (σ' := (vm_SH.take 49, vn_nT 48 (vn_T73_0_1 (vn_nT 0 (fun _ _ => none))), vn_nM 48 (vn_M73_0_1 (vn_nM 0 (fun _ _ => 0))))) rfl ?_
  refine vm_WP.call (a := 107) 6 [.ref 48] [.ref 48] [.ref 48] rfl rfl (by decide) rfl rfl ⟨rfl, Or.inr rfl, by decide, by decide, Nat.le_of_ble_eq_true rfl, Nat.le_of_ble_eq_true rfl⟩ rfl (vn_c107_48_49 ?_)
  show vm_WP X 180 15 [.ref 2000, .ref 0, .null, .null] [.ref 48] (65 - 1 - vm_mc 73 - 1 - vm_mc 107) (6545 - 10 - vm_ms 73 - 30 - vm_ms 107) (vm_SH.take 65, vn_T0, vn_M0) _
  rw [show 65 - 1 - vm_mc 73 - 1 - vm_mc 107 = 0 by decide, show 6545 - 10 - vm_ms 73 - 30 - vm_ms 107 = 0 by decide]
  exact vm_WP.seq 7 3 (pc' := 18) (L' := [.ref 2000, .ref 0, .ref 48, .int (nI 0)]) (S' := []) (σ' := (vm_SH.take 65, vn_T0, vn_M0)) rfl hw
