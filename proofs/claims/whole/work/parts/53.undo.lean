section VH
variable {X : Nat × (Nat → Int32)} {M : vm_M}
def vh_F1 (F : Nat → Nat → Nat) (f : Nat → Nat) : Nat → Nat → Nat
  | 0 => fun j => if j < 70 then F 1 j else f j
  | i + 1 => F (i + 2)
theorem op_undo (hR : vR M) : E_B_undo X M (fun v M1 => E_M_undo X M1 (fun v' M2 => v = v' ∧ vR M2)) := by
  obtain ⟨h1, h2, h3, ⟨f, w, hH, hA⟩, h6, h7, h8⟩ := id hR
  obtain ⟨n, q, F, W, hn, hq, e1, e2, e8, hF, hW, hall⟩ := hA
  have hT := hH.1.1
  apply v_B_undo
  apply v_Acts_takeBack
  rw [e1, vm_n0 (by omega)]
  refine ⟨fun hz => ⟨fun _ => ?_, fun q => absurd rfl q⟩, fun hz => ?_⟩
  · apply v_M_undo
    have g8 : (vm_u2 M 48 0 (nI 0)) 48 8 = nI n := by rw [vm_u2_ne (by omega)]; exact e8
    rw [g8, vm_n0 (by omega)]
    exact ⟨fun _ => ⟨rfl, hR.thrown⟩, fun q => absurd hz q⟩
  · obtain ⟨ok1, vM1, tk, s1, s2, s3, s4, s5, s6, s7, s8, s9⟩ := hall 0 (by omega)
    rw [Nat.zero_add] at ok1 vM1 s2 s3 s4 s5 s6 s7 s9
    rw [hF] at s1 s2 s3 s4
    rw [hW] at s9
    have okd := (ok1.2.2.2.2.2.1 (by omega)).2
    have key : ∀ (p : Nat), p = (q + 23) % 24 → ∀ Mq : vm_M, (∀ r j, r ≠ 35 → Mq r j = M r j) → Mq 35 1 = nI (n - 1) → Mq 35 2 = nI p → ∀ M4 : vm_M, vm_u2 (vm_u2 (vm_u2 (vm_u2 (vm_u2 Mq 11 (F 1 5) (M 11 (F 1 5) - M 40 p)) 11 tk ((vm_u2 Mq 11 (F 1 5) (M 11 (F 1 5) - M 40 p)) 11 tk + M 40 p)) 7 4 (nI (F 1 4))) 7 2 (nI (F 1 0))) 7 5 (nI (F 1 5)) = M4 →
        (nI 1 = 0 → E_M_undo X M4 (fun v' M2 => Int32.ofInt (-1000002) = v' ∧ vR M2)) ∧ (¬ nI 1 = 0 → E_M_undo X M4 (fun v' M2 => Mq 35 1 = v' ∧ vR M2)) := by
      intro p hp Mq oq q1 q2 M4 hM4
      refine ⟨fun q => absurd q (by decide), fun _ => ?_⟩
      have o4 : ∀ r j, r ≠ 35 → r ≠ 11 → ¬ (r = 7 ∧ (j = 2 ∨ j = 4 ∨ j = 5)) → M4 r j = M r j := by
        intro r j a b c
        rw [← hM4, vm_u2_ne (by omega), vm_u2_ne (by omega), vm_u2_ne (by omega), vm_u2_r b, vm_u2_r b, oq r j a]
      have m351 : M4 35 1 = nI (n - 1) := by rw [← hM4, vm_u2_r (by omega), vm_u2_r (by omega), vm_u2_r (by omega), vm_u2_r (by omega), vm_u2_r (by omega)]; exact q1
      have m352 : M4 35 2 = nI p := by rw [← hM4, vm_u2_r (by omega), vm_u2_r (by omega), vm_u2_r (by omega), vm_u2_r (by omega), vm_u2_r (by omega)]; exact q2
      have m72 : M4 7 2 = nI (F 1 0) := by rw [← hM4, vm_u2_ne (by omega), vm_u2_eq]
      have m74 : M4 7 4 = nI (F 1 4) := by rw [← hM4, vm_u2_ne (by omega), vm_u2_ne (by omega), vm_u2_eq]
      have m75 : M4 7 5 = nI (F 1 5) := by rw [← hM4, vm_u2_eq]
      have cw : ∀ x, x < f 2 → M 11 x = w x := fun x hx => (hH.2.1.2.2.2.2.2.2.1 x hx).2.2.2
      have m11 : ∀ x, x < f 2 → M4 11 x = W 1 x := by
        intro x hx
        have hs := s9 x (by omega)
        rw [show (q + 23 - 0) % 24 = p by omega] at hs
        rw [hs, ← hM4, vm_u2_ne (by omega), vm_u2_ne (by omega), vm_u2_ne (by omega), ← cw x hx]
        by_cases hxt : x = tk
        · subst hxt
          rw [vm_u2_eq, if_pos rfl]
          by_cases hx5 : x = F 1 5
          · rw [← hx5, vm_u2_eq, if_pos rfl]
          · rw [vm_u2_ne (by omega), if_neg hx5, oq 11 x (by omega)]
        · rw [vm_u2_ne (by omega), if_neg hxt]
          by_cases hx5 : x = F 1 5
          · rw [← hx5, vm_u2_eq, if_pos rfl]
          · rw [vm_u2_ne (by omega), if_neg hx5, oq 11 x (by omega)]
      have m0 : (vm_u2 M4 48 0 (nI 0)) 48 8 = nI n := by rw [vm_u2_ne (by omega), o4 48 8 (by omega) (by omega) (by omega)]; exact e8
      apply v_M_undo
      rw [m0, vm_n0 (by omega), pk_sub (by omega)]
      refine ⟨fun q => absurd q hz, fun _ => ?_⟩
      -- the copy
      generalize hM5 : vm_u2 (vm_u2 M4 48 0 (nI 0)) 48 8 (nI (n - 1)) = M5
      have o5 : ∀ r j, r ≠ 35 → r ≠ 11 → ¬ (r = 7 ∧ (j = 2 ∨ j = 4 ∨ j = 5)) → ¬ (r = 48 ∧ (j = 0 ∨ j = 8)) → M5 r j = M r j := by
        intro r j a b c d
        rw [← hM5, vm_u2_ne (by omega), vm_u2_ne (by omega), o4 r j a b c]
      have p5 : ∀ r j, r ≠ 48 → M5 r j = M4 r j := fun r j a => by rw [← hM5, vm_u2_r a, vm_u2_r a]
      have m5 : M5 48 8 = nI (n - 1) := by rw [← hM5, vm_u2_eq]
      have loop : ∀ (i k : Nat), k + i = 70 → C_M_undo_27 X (nI k) (fun r j => if r = 52 ∧ j < k then M5 54 (70 * (n - 1) + j) else M5 r j) (fun v' M2 => Mq 35 1 = v' ∧ vR M2) := by
        intro i
        induction i with
        | zero =>
          intro k hk
          have hk : k = 70 := by omega
          subst hk
          apply v_M_undo_27
          rw [nI_ltI (by omega) (by omega)]
          refine ⟨fun q => absurd q (by omega), fun _ => ⟨?_, ?_⟩⟩
          · rw [if_neg (by omega), m5]; exact q1
          · have o6 : ∀ r j, r ≠ 52 → (fun r j => if r = 52 ∧ j < 70 then M5 54 (70 * (n - 1) + j) else M5 r j : vm_M) r j = M5 r j := fun r j a => if_neg (by omega)
            generalize hM6 : (fun r j => if r = 52 ∧ j < 70 then M5 54 (70 * (n - 1) + j) else M5 r j : vm_M) = M6 at o6
            have o7 : ∀ r j, r ≠ 35 → r ≠ 11 → r ≠ 52 → ¬ (r = 7 ∧ (j = 2 ∨ j = 4 ∨ j = 5)) → ¬ (r = 48 ∧ (j = 0 ∨ j = 8)) → M6 r j = M r j := fun r j a b c d e => (o6 r j c).trans (o5 r j a b d e)
            have o8 : ∀ r j, r ≠ 52 → r ≠ 48 → M6 r j = M4 r j := fun r j a b => (o6 r j a).trans (p5 r j b)
            have heq : vh_eqv f (fun j => if j < 70 then F 1 j else f j) := by
              intro j a b c
              show (if j < 70 then F 1 j else f j) = f j
              by_cases hj : j < 70
              · rw [if_pos hj]; exact s4 j hj a b c
              · rw [if_neg hj]
            refine ⟨h1.of (fun r j g => o7 r j (by omega) (by omega) (by omega) (by omega) (by omega)), ?_, h3.of (fun r j g => o7 r j (by omega) (by omega) (by omega) (by omega) (by omega)), ⟨fun j => if j < 70 then F 1 j else f j, W 1, ⟨hH.1.mv heq (by omega) okd ok1.2.2.1 ok1.2.2.2.2.1 s3, hH.2.1.mv heq ?_ ?_ ?_ ?_ ?_, ?_⟩, ?_⟩, h6.of (fun r j g => o7 r j (by omega) (by omega) (by omega) (by omega) (by omega)), h7.of (fun r j g => o7 r j (by omega) (by omega) (by omega) (by omega) (by omega)), h8.of (fun r j g => o7 r j (by omega) (by omega) (by omega) (by omega) (by omega))⟩
            · rw [o7 48 1 (by omega) (by omega) (by omega) (by omega) (by omega), o7 0 9 (by omega) (by omega) (by omega) (by omega) (by omega)]; exact h2
            · rw [o8 7 2 (by omega) (by omega)]; exact m72
            · rw [o8 7 4 (by omega) (by omega)]; exact m74
            · rw [o8 7 5 (by omega) (by omega)]; exact m75
            · intro x hx; rw [o8 11 x (by omega) (by omega)]; exact m11 x hx
            · intro r j a b c d; exact o7 r j (by omega) c (by omega) d (by omega)
            · have c54 : ∀ j, j < 70 → M6 52 j = M 54 (70 * (n - 1) + j) := by
                intro j hj
                rw [← hM6]
                show (if 52 = 52 ∧ j < 70 then M5 54 (70 * (n - 1) + j) else M5 52 j) = _
                rw [if_pos ⟨rfl, hj⟩, o5 54 _ (by omega) (by omega) (by omega) (by omega)]
              refine ⟨fun j hj hnw => ?_, fun x hx => ?_⟩
              · rw [Nat.zero_add, c54 j hj]
                show _ = nI (if j < 70 then F 1 j else f j)
                rw [if_pos hj]
                have := vM1.1 j hj hnw
                rwa [Nat.sub_zero] at this
              · rw [Nat.zero_add, c54 _ (by omega)]
                have := vM1.2 x hx
                rwa [Nat.sub_zero, Nat.add_assoc] at this
            · refine ⟨n - 1, p, vh_F1 F f, fun i => W (i + 1), by omega, by omega, ?_, ?_, ?_, rfl, rfl, fun i hi => ?_⟩
              · rw [o8 35 1 (by omega) (by omega)]; exact m351
              · rw [o8 35 2 (by omega) (by omega)]; exact m352
              · rw [o6 48 8 (by omega)]; exact m5
              · obtain ⟨a1, a2, a3⟩ := hall (i + 1) (by omega)
                refine ⟨a1, ?_, ?_⟩
                · show vh_M M6 54 (70 * (n - 1 - 1 - i)) (F (i + 2)) (W (i + 2))
                  rw [show n - 1 - 1 - i = n - 1 - (i + 1) by omega]
                  exact a2.of (fun j _ => o7 54 _ (by omega) (by omega) (by omega) (by omega) (by omega))
                · obtain ⟨t2, k1, k2, k3, k4, k5, k6, k7, k8, k9⟩ := a3
                  have eix : (p + 23 - i) % 24 = (q + 23 - (i + 1)) % 24 := by omega
                  have ering : ∀ r j, 36 ≤ r → r ≤ 40 → M6 r j = M r j := fun r j a b => o7 r j (by omega) (by omega) (by omega) (by omega) (by omega)
                  have efi : ∀ j, j < 70 → vh_F1 F f i j = F (i + 1) j := by
                    intro j hj
                    cases i with
                    | zero => exact if_pos hj
                    | succ i => rfl
                  refine ⟨t2, ?_, ?_, ?_, ?_, ?_, ?_, ?_, ?_, ?_⟩
                  · rw [efi 2 (by omega)]; exact k1
                  · rw [efi 2 (by omega)]; exact k2
                  · rw [efi 2 (by omega)]; exact k3
                  · intro j a b c d; show F (i + 2) j = vh_F1 F f i j; rw [efi j a]; exact k4 j a b c d
                  · rw [eix, ering 36 _ (by omega) (by omega)]; exact k5
                  · rw [eix, ering 37 _ (by omega) (by omega)]; exact k6
                  · rw [eix, ering 38 _ (by omega) (by omega)]; exact k7
                  · rw [eix, ering 39 _ (by omega) (by omega)]; exact k8
                  · rw [eix, ering 40 _ (by omega) (by omega)]; exact k9
        | succ i ih =>
          intro k hk
          have nx := ih (k + 1) (by omega)
          apply v_M_undo_27
          rw [nI_ltI (by omega) (by omega)]
          refine ⟨fun _ => ?_, fun q => absurd (by omega) q⟩
          have e48 : (fun r j => if r = 52 ∧ j < k then M5 54 (70 * (n - 1) + j) else M5 r j : vm_M) 48 8 = nI (n - 1) := by
            show (if 48 = 52 ∧ 8 < k then M5 54 (70 * (n - 1) + 8) else M5 48 8) = _
            rw [if_neg (by omega)]; exact m5
          simp only [e48]
          simp (disch := omega) only [vm_mul, vm_add, vm_ex]
          refine Eq.mp (congrArg (fun z => C_M_undo_27 X (nI (k + 1)) z _) ?_) nx
          funext r j
          unfold vm_u2
          by_cases h52 : r = 52
          · subst h52
            by_cases hj : j = k
            · subst hj
              rw [if_pos (by omega), if_pos ⟨rfl, rfl⟩]
              exact (if_neg (by omega)).symm
            · by_cases hr : j < k
              · rw [if_pos (by omega), if_neg (by omega)]
                exact (if_pos (by omega)).symm
              · rw [if_neg (by omega), if_neg (by omega)]
                exact (if_neg (by omega)).symm
          · rw [if_neg (by omega), if_neg (by omega)]
            exact (if_neg (by omega)).symm
      have l0 := loop 70 0 (by omega)
      have e00 : (fun r j => if r = 52 ∧ j < 0 then M5 54 (70 * (n - 1) + j) else M5 r j : vm_M) = M5 := by
        funext r j
        exact if_neg (by omega)
      rw [e00] at l0
      exact l0
    have hq35 : (vm_u2 M 35 1 (nI n - nI 1)) 35 2 = nI q := by rw [vm_u2_ne (by omega)]; exact e2
    rw [hq35, vm_0n (by omega)]
    refine ⟨fun hq0 => ?_, fun hq0 => ?_⟩
    · have hp : (q + 23 - 0) % 24 = q - 1 := by omega
      simp (disch := omega) only [vm_u2_ne, vm_u2_r, vm_u2_eq, e1, e2, pk_sub, vm_ex]
      have r36 := s5; have r37 := s6; have r38 := s7; have r39 := s8
      rw [hp] at r36 r37 r38 r39
      rw [r38, r39]
      refine s_Acts_pay (by omega) (by omega) ?_
      have ep : nI (n - 1) = nI (n - 1) := rfl
      generalize hMq : vm_u2 (vm_u2 M 35 1 (nI (n - 1))) 35 2 (nI (q - 1)) = Mq
      have q35 : Mq 35 2 = nI (q - 1) := by rw [← hMq, vm_u2_eq]
      simp (disch := omega) only [vm_u2_ne, vm_u2_r, vm_u2_eq, q35, vm_ex]
      have oq : ∀ r j, r ≠ 35 → Mq r j = M r j := fun r j h => by rw [← hMq, vm_u2_r h, vm_u2_r h]
      rw [oq 36 _ (by omega), oq 37 _ (by omega), oq 38 _ (by omega), r36, r37, r38]
      rw [oq 11 _ (by omega)]
      generalize hM4 : vm_u2 (vm_u2 (vm_u2 (vm_u2 (vm_u2 Mq 11 (F 1 5) (M 11 (F 1 5) - M 40 (q - 1))) 11 tk ((vm_u2 Mq 11 (F 1 5) (M 11 (F 1 5) - M 40 (q - 1))) 11 tk + M 40 (q - 1))) 7 4 (nI (F 1 4))) 7 2 (nI (F 1 0))) 7 5 (nI (F 1 5)) = M4
      exact key (q - 1) (by omega) Mq oq (by rw [← hMq, vm_u2_ne (by omega), vm_u2_eq]) q35 M4 hM4
    · have hp : (q + 23 - 0) % 24 = 23 := by omega
      simp (disch := omega) only [vm_u2_ne, vm_u2_r, vm_u2_eq, e1, e2, pk_sub, vm_ex]
      have r36 := s5; have r37 := s6; have r38 := s7; have r39 := s8
      rw [hp] at r36 r37 r38 r39
      rw [r38, r39]
      refine s_Acts_pay (by omega) (by omega) ?_
      have ep : nI (n - 1) = nI (n - 1) := rfl
      generalize hMq : vm_u2 (vm_u2 M 35 1 (nI (n - 1))) 35 2 (nI 23) = Mq
      have q35 : Mq 35 2 = nI 23 := by rw [← hMq, vm_u2_eq]
      simp (disch := omega) only [vm_u2_ne, vm_u2_r, vm_u2_eq, q35, vm_ex]
      have oq : ∀ r j, r ≠ 35 → Mq r j = M r j := fun r j h => by rw [← hMq, vm_u2_r h, vm_u2_r h]
      rw [oq 36 _ (by omega), oq 37 _ (by omega), oq 38 _ (by omega), r36, r37, r38]
      rw [oq 11 _ (by omega)]
      generalize hM4 : vm_u2 (vm_u2 (vm_u2 (vm_u2 (vm_u2 Mq 11 (F 1 5) (M 11 (F 1 5) - M 40 23)) 11 tk ((vm_u2 Mq 11 (F 1 5) (M 11 (F 1 5) - M 40 23)) 11 tk + M 40 23)) 7 4 (nI (F 1 4))) 7 2 (nI (F 1 0))) 7 5 (nI (F 1 5)) = M4
      exact key 23 (by omega) Mq oq (by rw [← hMq, vm_u2_ne (by omega), vm_u2_eq]) q35 M4 hM4
end VH
