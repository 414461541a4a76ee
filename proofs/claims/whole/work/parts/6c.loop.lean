/-! THE LAW: every call is alike, to the script's end -/
theorem wq {X : Nat × (Nat → Int32)} {k pc : Nat} {L S : List Value} {M : vm_M} {P P' : Int32 → vm_M → Prop} (h : vm_WM X k pc L S M (vm_qi P)) (hp : ∀ v M', P v M' → P' v M') : vm_WM X k pc L S M (vm_qi P') :=
  h.mono (fun _ M' ⟨v, e, hv⟩ => ⟨v, e, hp v M' hv⟩)
theorem law_loop {X : Nat × (Nat → Int32)} (hX : X.1 ≤ 3072) : ∀ (n i : Nat) (M : vm_M), X.1 ≤ i + 6 * n → i ≤ 4000 → vR M → C_L_18 X (nI i) M (fun v _ => v = nI 1) := by
  have hX' : X.1 < 10000 := by omega
  have e0 : Int32.ofNat X.1 = nI X.1 := rfl
  have cond : ∀ i, i ≤ 4000 → ((Int32.ofNat X.1 - nI 6) < nI i ↔ X.1 < i + 6) := by
    intro i hi
    rw [e0, Int32.lt_iff_toInt_lt, pk_sub_toInt (by omega) (by omega), nI_toInt (by omega)]
    omega
  intro n
  induction n with
  | zero =>
    intro i M hn hi hR
    apply v_L_18 hX'
    rw [cond i hi]
    exact ⟨fun _ => rfl, fun q => absurd (by omega) q⟩
  | succ n ih =>
    intro i M hn hi hR
    apply v_L_18 hX'
    rw [cond i hi]
    refine ⟨fun _ => rfl, fun q => ⟨i, rfl, by omega, ?_⟩⟩
    have nx : ∀ M2, vR M2 → C_L_1014 X (nI i) M2 (fun v _ => v = nI 1) := by
      intro M2 h2
      apply v_L_1014 hX'
      rw [vm_add]
      exact ih (i + 6) M2 (by omega) (by omega) h2
    have fin : ∀ (v v' : Int32) (M2 : vm_M), v = v' ∧ vR M2 → (v = v' → C_L_1014 X (nI i) M2 (fun v _ => v = nI 1)) ∧ (¬ v = v' → nI 0 = nI 1) := fun v v' M2 h2 => ⟨fun _ => nx M2 h2.2, fun q => absurd h2.1 q⟩
    have c160 : C_L_160 X (nI i) M (fun v _ => v = nI 1) := by
      apply v_L_160 hX'
      simp (disch := omega) only [vm_add, vm_ex]
      exact wq (op_row hR _ _ _) (fun v M1 h1 => wq h1 (fun v' M2 h2 => fin v v' M2 h2))
    have c203 : C_L_203 X (nI i) M (fun v _ => v = nI 1) := by
      apply v_L_203 hX'
      simp (disch := omega) only [vm_add, vm_ex]
      exact wq (op_set hR _ _ _) (fun v M1 h1 => wq h1 (fun v' M2 h2 => fin v v' M2 h2))
    have c246 : C_L_246 X (nI i) M (fun v _ => v = nI 1) := by
      apply v_L_246 hX'
      simp (disch := omega) only [vm_add, vm_ex]
      exact wq (op_copy hR _ _ _ _ _) (fun v M1 h1 => wq h1 (fun v' M2 h2 => fin v v' M2 h2))
    have c309 : C_L_309 X (nI i) M (fun v _ => v = nI 1) := by
      apply v_L_309 hX'
      simp (disch := omega) only [vm_add, vm_ex]
      exact wq (op_drop hR _) (fun v M1 h1 => wq h1 (fun v' M2 h2 => fin v v' M2 h2))
    have c332 : C_L_332 X (nI i) M (fun v _ => v = nI 1) := by
      apply v_L_332 hX'
      simp (disch := omega) only [vm_add, vm_ex]
      exact wq (op_feed hR _ _) (fun v M1 h1 => wq h1 (fun v' M2 h2 => fin v v' M2 h2))
    have c395 : C_L_395 X (nI i) M (fun v _ => v = nI 1) := by
      apply v_L_395 hX'
      exact wq (op_hill hR) (fun v M1 h1 => wq h1 (fun v' M2 h2 => fin v v' M2 h2))
    have c408 : C_L_408 X (nI i) M (fun v _ => v = nI 1) := by
      apply v_L_408 hX'
      exact wq (op_fault hR) (fun v M1 h1 => wq h1 (fun v' M2 h2 => fin v v' M2 h2))
    have c421 : C_L_421 X (nI i) M (fun v _ => v = nI 1) := by
      apply v_L_421 hX'
      simp (disch := omega) only [vm_add, vm_ex]
      exact wq (op_pass hR _) (fun v M1 h1 => wq h1 (fun v' M2 h2 => fin v v' M2 h2))
    have c444 : C_L_444 X (nI i) M (fun v _ => v = nI 1) := by
      apply v_L_444 hX'
      simp (disch := omega) only [vm_add, vm_ex]
      exact wq (op_waits hR _) (fun v M1 h1 => wq h1 (fun v' M2 h2 => fin v v' M2 h2))
    have c467 : C_L_467 X (nI i) M (fun v _ => v = nI 1) := by
      apply v_L_467 hX'
      simp (disch := omega) only [vm_add, vm_ex]
      exact wq (op_bribe hR _) (fun v M1 h1 => wq h1 (fun v' M2 h2 => fin v v' M2 h2))
    have c490 : C_L_490 X (nI i) M (fun v _ => v = nI 1) := by
      apply v_L_490 hX'
      exact wq (op_undo hR) (fun v M1 h1 => wq h1 (fun v' M2 h2 => fin v v' M2 h2))
    have c503 : C_L_503 X (nI i) M (fun v _ => v = nI 1) := by
      apply v_L_503 hX'
      simp (disch := omega) only [vm_add, vm_ex]
      exact wq (op_trader hR _ _) (fun v M1 h1 => wq h1 (fun v' M2 h2 => fin v v' M2 h2))
    have c536 : C_L_536 X (nI i) M (fun v _ => v = nI 1) := by
      apply v_L_536 hX'
      simp (disch := omega) only [vm_add, vm_ex]
      exact wq (op_takes hR _ _) (fun v M1 h1 => wq h1 (fun v' M2 h2 => fin v v' M2 h2))
    have c569 : C_L_569 X (nI i) M (fun v _ => v = nI 1) := by
      apply v_L_569 hX'
      simp (disch := omega) only [vm_add, vm_ex]
      exact wq (op_there hR _ _ _) (fun v M1 h1 => wq h1 (fun v' M2 h2 => fin v v' M2 h2))
    have c612 : C_L_612 X (nI i) M (fun v _ => v = nI 1) := by
      apply v_L_612 hX'
      simp (disch := omega) only [vm_add, vm_ex]
      exact wq (op_worth hR _ _) (fun v M1 h1 => wq h1 (fun v' M2 h2 => fin v v' M2 h2))
    have c645 : C_L_645 X (nI i) M (fun v _ => v = nI 1) := by
      apply v_L_645 hX'
      simp (disch := omega) only [vm_add, vm_ex]
      exact wq (op_sure hR _ _) (fun v M1 h1 => wq h1 (fun v' M2 h2 => fin v v' M2 h2))
    have c678 : C_L_678 X (nI i) M (fun v _ => v = nI 1) := by
      apply v_L_678 hX'
      simp (disch := omega) only [vm_add, vm_ex]
      exact wq (op_most hR _ _ _) (fun v M1 h1 => wq h1 (fun v' M2 h2 => fin v v' M2 h2))
    have c721 : C_L_721 X (nI i) M (fun v _ => v = nI 1) := by
      apply v_L_721 hX'
      simp (disch := omega) only [vm_add, vm_ex]
      exact wq (op_last hR _) (fun v M1 h1 => wq h1 (fun v' M2 h2 => fin v v' M2 h2))
    have c744 : C_L_744 X (nI i) M (fun v _ => v = nI 1) := by
      apply v_L_744 hX'
      simp (disch := omega) only [vm_add, vm_ex]
      exact wq (op_crow hR _) (fun v M1 h1 => wq h1 (fun v' M2 h2 => fin v v' M2 h2))
    have c767 : C_L_767 X (nI i) M (fun v _ => v = nI 1) := by
      apply v_L_767 hX'
      simp (disch := omega) only [vm_add, vm_ex]
      exact wq (op_where hR _ _ _ _) (fun v M1 h1 => wq h1 (fun v' M2 h2 => fin v v' M2 h2))
    have c820 : C_L_820 X (nI i) M (fun v _ => v = nI 1) := by
      apply v_L_820 hX'
      simp (disch := omega) only [vm_add, vm_ex]
      exact wq (op_image hR _) (fun v M1 h1 => wq h1 (fun v' M2 h2 => fin v v' M2 h2))
    have c843 : C_L_843 X (nI i) M (fun v _ => v = nI 1) := by
      apply v_L_843 hX'
      simp (disch := omega) only [vm_add, vm_ex]
      exact wq (op_restore hR _) (fun v M1 h1 => wq h1 (fun v' M2 h2 => fin v v' M2 h2))
    have c866 : C_L_866 X (nI i) M (fun v _ => v = nI 1) := by
      apply v_L_866 hX'
      simp (disch := omega) only [vm_add, vm_ex]
      exact wq (op_kind hR _) (fun v M1 h1 => wq h1 (fun v' M2 h2 => fin v v' M2 h2))
    have c889 : C_L_889 X (nI i) M (fun v _ => v = nI 1) := by
      apply v_L_889 hX'
      simp (disch := omega) only [vm_add, vm_ex]
      exact wq (op_as hR _ _) (fun v M1 h1 => wq h1 (fun v' M2 h2 => fin v v' M2 h2))
    have c922 : C_L_922 X (nI i) M (fun v _ => v = nI 1) := by
      apply v_L_922 hX'
      simp (disch := omega) only [vm_add, vm_ex]
      exact wq (op_ask hR _ _) (fun v M1 h1 => wq h1 (fun v' M2 h2 => fin v v' M2 h2))
    have c955 : C_L_955 X (nI i) M (fun v _ => v = nI 1) := by
      apply v_L_955 hX'
      simp (disch := omega) only [vm_add, vm_ex]
      exact wq (op_trace hR _) (fun v M1 h1 => wq h1 (fun v' M2 h2 => fin v v' M2 h2))
    have c978 : C_L_978 X (nI i) M (fun v _ => v = nI 1) := by
      apply v_L_978 hX'
      simp (disch := omega) only [vm_add, vm_ex]
      exact wq (op_count hR _) (fun v M1 h1 => wq h1 (fun v' M2 h2 => fin v v' M2 h2))
    have c1001 : C_L_1001 X (nI i) M (fun v _ => v = nI 1) := by
      apply v_L_1001 hX'
      exact wq (op_status hR) (fun v M1 h1 => wq h1 (fun v' M2 h2 => fin v v' M2 h2))
    exact ⟨fun _ => nx M hR, fun _ => c160, fun _ => c203, fun _ => c246, fun _ => c309, fun _ => c332, fun _ => c395, fun _ => c408, fun _ => c421, fun _ => c444, fun _ => c467, fun _ => c490, fun _ => c503, fun _ => c536, fun _ => c569, fun _ => c612, fun _ => c645, fun _ => c678, fun _ => c721, fun _ => c744, fun _ => c767, fun _ => c820, fun _ => c843, fun _ => c866, fun _ => c889, fun _ => c922, fun _ => c955, fun _ => c978, fun _ => c1001⟩
