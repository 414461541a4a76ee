section CO
variable {X : Nat × (Nat → Int32)} {M : vm_M} {b : Nat → Nat} {L : Nat}
def tcZ (M : vm_M) : Prop := (∀ j, j < 6 → M 14 j = nI 0) ∧ ∀ j, j < 36 → M 19 j = nI 0 ∧ M 20 j = nI 0
theorem s_clear {P : vm_M → Prop} (h : ∀ M', (∀ r j, ¬ (14 ≤ r ∧ r ≤ 20) → M' r j = M r j) → tcZ M' → P M') : E_Hill_clear_14 X M P := by
  have loop : ∀ (n k : Nat) (M' : vm_M), k + n = 36 → (∀ r j, ¬ (14 ≤ r ∧ r ≤ 20) → M' r j = M r j) → (∀ j, j < 6 → M' 14 j = nI 0) → (∀ j, j < k → M' 19 j = nI 0 ∧ M' 20 j = nI 0) → C_Hill_clear_14_32 X (nI k) M' P := by
    intro n
    induction n with
    | zero =>
      intro k M' hk h1 h2 h3
      apply v_Hill_clear_14_32
      rw [nI_ltI (by omega) (by omega)]
      exact ⟨fun q => absurd q (by omega), fun _ => h M' h1 ⟨h2, fun j hj => h3 j (by omega)⟩⟩
    | succ n ih =>
      intro k M' hk h1 h2 h3
      apply v_Hill_clear_14_32
      simp (disch := omega) only [nI_ltI, vm_ex, vm_add]
      refine ⟨fun _ => ih (k + 1) _ (by omega) (fun r j hr => ?_) (fun j hj => ?_) (fun j hj => ?_), fun q => absurd (by omega) q⟩
      · rw [vm_u2_r (by omega), vm_u2_r (by omega)]; exact h1 r j hr
      · rw [vm_u2_r (by omega), vm_u2_r (by omega)]; exact h2 j hj
      · by_cases hjk : j = k
        · subst hjk
          rw [vm_u2_r (by omega), vm_u2_eq, vm_u2_eq]
          exact ⟨rfl, rfl⟩
        · rw [vm_u2_ne (by omega), vm_u2_ne (by omega), vm_u2_ne (by omega), vm_u2_ne (by omega)]
          exact h3 j (by omega)
  apply v_Hill_clear_14
  refine loop 36 0 _ (by omega) (fun r j hr => ?_) (fun j hj => ?_) (fun j hj => absurd hj (by omega))
  · rw [vm_u2_r (by omega), vm_u2_r (by omega), vm_u2_r (by omega), vm_u2_r (by omega), vm_u2_r (by omega), vm_u2_r (by omega)]
  · match j, hj with
    | 0, _ => simp only [vm_u2]; simp
    | 1, _ => simp only [vm_u2]; simp
    | 2, _ => simp only [vm_u2]; simp
    | 3, _ => simp only [vm_u2]; simp
    | 4, _ => simp only [vm_u2]; simp
    | 5, _ => simp only [vm_u2]; simp
theorem s_T_night {P : vm_M → Prop} {R : hR} {e : Nat} {k : Nat → (Nat → Nat) → hR} (hR : R = hp_night b L k e) (hA : tcA b L e M) (hZ : tcZ M)
    (h1 : ∀ e' f' M', R = k e' f' → frD M M' → M' 5 7 = M 5 7 → tcA b L e' M' → tcD f' M' → e < e' → P M')
    (h2 : ∀ s n M', R = .inl (s, n) → frD M M' → tcB b L s n M' → P M') : E_Tape_readNight_14 X M P := by
  unfold hp_night at hR
  apply v_Tape_readNight_14
  refine s_T_nextA hA (fun M1 f1 l1 a1 k1 s1 => ?_)
  have n1 : ∀ {c d : Prop}, d → ((nI 1 = 0 → c) ∧ (¬ nI 1 = 0 → d)) := fun hd => ⟨fun q => absurd q (by decide), fun _ => hd⟩
  have n0 : ∀ {c d : Prop}, c → ((nI 0 = 0 → c) ∧ (¬ nI 0 = 0 → d)) := fun hc => ⟨fun _ => hc, fun q => absurd rfl q⟩
  have bB : ∀ {M : vm_M} {s n r j : Nat} {v : Int32}, tcB b L s n M → 14 ≤ r ∧ r ≤ 20 → tcB b L s n (vm_u2 M r j v) := fun hb hr => hb.of (fun r' j' h => vm_u2_r (by omega) _)
  have bA : ∀ {M : vm_M} {e r j : Nat} {v : Int32}, tcA b L e M → 14 ≤ r ∧ r ≤ 20 → tcA b L e (vm_u2 M r j v) := fun hb hr => hb.of (fun r' j' h => vm_u2_r (by omega) _)
  refine s_isWord0 a1.1 s1 k1 (fun w => n1 ?_) (fun w => n0 ?_)
  · rw [if_pos w] at hR
    refine s_T_num (by omega) (by omega) hR a1 (fun d e2 M2 r2 d1 d6 f2 l2 a2 _ x2 => ?_) (fun s n v M2 r2 f2 b2 => ?_)
    · refine s_T_num (by omega) (by omega) r2 (bA a2 (by omega)) (fun wt e3 M3 r3 w0 w6 f3 l3 a3 _ x3 => ?_) (fun s n v M3 r3 f3 b3 => ?_)
      · refine s_T_sign r3 (bA a3 (by omega)) (fun e4 M4 r4 f4 l4 a4 x4 => ?_) (fun s n M4 r4 f4 b4 => ?_)
        · refine h1 _ _ M4 r4 ?_ ?_ a4 ⟨?_, hp_dw_ok ⟨d1, d6⟩ w6⟩ (by have := tkS_ge b L e; have := tkE_ge b L (tkS b L e); omega)
          · exact ((((f1.tr f2).D.tr (frD.u2 (by omega))).tr f3.D).tr (frD.u2 (by omega))).tr f4.D
          · rw [l4, vm_u2_r (by omega), l3, vm_u2_r (by omega), l2, l1]
          · have g : ∀ r j, 14 ≤ r → r ≤ 20 → M4 r j = (vm_u2 (vm_u2 M 14 2 (nI d)) 14 3 (nI wt)) r j := by
              intro r j hr hr2
              rw [f4 r j (by omega)]
              by_cases q : r = 14 ∧ j = 3
              · rw [q.1, q.2, vm_u2_eq, vm_u2_eq]
              · rw [vm_u2_ne q, vm_u2_ne q, f3 r j (by omega)]
                by_cases q2 : r = 14 ∧ j = 2
                · rw [q2.1, q2.2, vm_u2_eq, vm_u2_eq]
                · rw [vm_u2_ne q2, vm_u2_ne q2, f2 r j (by omega), f1 r j (by omega)]
            have z : ∀ j, j < 6 → j ≠ 2 → j ≠ 3 → M4 14 j = nI 0 := by
              intro j hj h2 h3
              rw [g _ _ (by omega) (by omega), vm_u2_ne (by omega), vm_u2_ne (by omega)]
              exact hZ.1 j hj
            refine ⟨?_, ?_, ?_, ?_, ?_, ?_, fun x hx => absurd hx (Nat.not_lt_zero _), fun x y hx hy => ?_⟩
            · exact z 0 (by omega) (by omega) (by omega)
            · exact z 1 (by omega) (by omega) (by omega)
            · rw [g _ _ (by omega) (by omega), vm_u2_ne (by omega), vm_u2_eq]; rfl
            · rw [g _ _ (by omega) (by omega), vm_u2_eq]; rfl
            · exact z 4 (by omega) (by omega) (by omega)
            · exact z 5 (by omega) (by omega) (by omega)
            · have := hZ.2 (x * 6 + y) (by omega)
              rw [g _ _ (by omega) (by omega), vm_u2_r (by omega), vm_u2_r (by omega), g _ _ (by omega) (by omega), vm_u2_r (by omega), vm_u2_r (by omega)]
              exact this
        · exact h2 _ _ M4 r4 (((((f1.tr f2).D.tr (frD.u2 (by omega))).tr f3.D).tr (frD.u2 (by omega))).tr f4.D) b4
      · refine f_sign (bB b3 (by omega)) (fun M4 f4 b4 => ?_)
        exact h2 _ _ M4 r3 (((((f1.tr f2).D.tr (frD.u2 (by omega))).tr f3.D).tr (frD.u2 (by omega))).tr f4.D) b4
    · refine f_num (bB b2 (by omega)) (fun v3 M3 f3 b3 => f_sign (bB b3 (by omega)) (fun M4 f4 b4 => ?_))
      exact h2 _ _ M4 r2 (((((f1.tr f2).D.tr (frD.u2 (by omega))).tr f3.D).tr (frD.u2 (by omega))).tr f4.D) b4
  · rw [if_neg w] at hR
    refine s_T_fail a1 s1 k1.1 (fun Mx fx bx => f_num bx (fun v2 M2 f2 b2 => f_num (bB b2 (by omega)) (fun v3 M3 f3 b3 => f_sign (bB b3 (by omega)) (fun M4 f4 b4 => ?_))))
    exact h2 _ _ M4 hR ((((((f1.tr fx).tr f2).D.tr (frD.u2 (by omega))).tr f3.D).tr (frD.u2 (by omega))).tr f4.D) b4
theorem s_T_loop {P : Int32 → vm_M → Prop} {R : hR}
    (h1 : ∀ f M', R = .inr f → 0 < f 2 → frD M M' → M' 5 7 = M 5 7 → M' 5 6 = cM1 → tcD f M' → P cM1 (vm_u2 M' 5 1 (nI 0)))
    (h2 : ∀ s n M', R = .inl (s, n) → frD M M' → s ≤ L → M' 5 6 = nI s → M' 5 7 = nI n → P (nI s) (vm_u2 M' 5 1 (nI 0))) :
    ∀ (n k e : Nat) (f : Nat → Nat) (M' : vm_M), k + n = 400 → k < e → R = hp_loop b L n e f → frD M M' → M' 5 7 = M 5 7 → tcA b L e M' → tcD f M' → C_Tape_readOnto_14_34 X (nI 1) (nI k) M' P := by
  intro n
  induction n with
  | zero =>
    intro k e f M' hk he hR hf hl hA hD
    have := hA.1.1
    have := hA.2.1
    omega
  | succ n ih =>
    intro k e f M' hk he hR hf hl hA hD
    have stop : ∀ {n2 : Nat} {M2 : vm_M}, P (M2 5 6) (vm_u2 M2 5 1 (nI 0)) → C_Tape_readOnto_14_34 X (nI 0) (nI n2) M2 P := by
      intro n2 M2 hp
      apply v_Tape_readOnto_14_34
      refine ⟨fun _ => ?_, fun q => absurd rfl q⟩
      rw [vm_u2_ne (by omega)]
      exact hp
    apply v_Tape_readOnto_14_34
    rw [nI_ltI (by omega) (by omega), vm_add]
    refine ⟨fun q => absurd q (by decide), fun _ => ⟨fun _ => ?_, fun q => absurd (by omega) q⟩⟩
    refine s_T_part hR hA hD (fun e' M2 r2 f0 f2 l2 a2 d2 => stop ?_) (fun e' f' M2 r2 f2 l2 a2 d2 x2 => ?_) (fun s n M2 r2 f2 b2 => stop ?_)
    · have := h1 f M2 r2 f0 (hf.tr f2) (l2.trans hl) a2.2.2.2 d2
      rwa [a2.2.2.2]
    · exact ih (k + 1) e' f' M2 (by omega) (by omega) r2 (hf.tr f2) (l2.trans hl) a2 d2
    · have := h2 s n M2 r2 (hf.tr f2) b2.2.2.1 b2.2.2.2.1 b2.2.2.2.2
      rwa [b2.2.2.2.1]
theorem s_readOnto {P : Int32 → vm_M → Prop} (hT : tcT b L M)
    (h1 : ∀ f M', hp_hill b L = .inr f → 0 < f 2 → frD M M' → M' 5 7 = M 5 7 → tcD f M' → P cM1 (vm_u2 M' 5 1 (nI 0)))
    (h2 : ∀ s n M', hp_hill b L = .inl (s, n) → frD M M' → s ≤ L → M' 5 7 = nI n → P (nI s) (vm_u2 M' 5 1 (nI 0))) : E_Tape_readOnto_14 X M P := by
  apply v_Tape_readOnto_14
  refine s_clear (fun M1 f1 z1 => ?_)
  have g1 : frD M M1 := fun r j hr hr2 => by rw [f1 r j hr2, vm_u2_ne (by omega), vm_u2_ne (by omega)]
  have l1 : M1 5 7 = M 5 7 := by rw [f1 _ _ (by omega), vm_u2_ne (by omega), vm_u2_ne (by omega)]
  have a1 : tcA b L 0 M1 := by
    refine ⟨hT.of (fun r j g => ?_), Nat.zero_le _, ?_, ?_⟩
    · rw [f1 _ _ (by omega), vm_u2_ne (by omega), vm_u2_ne (by omega)]
    · rw [f1 _ _ (by omega), vm_u2_ne (by omega), vm_u2_eq]
    · rw [f1 _ _ (by omega), vm_u2_eq]
  refine s_T_night (R := hp_hill b L) rfl a1 z1 (fun e f M2 r2 f2 l2 a2 d2 x2 => ?_) (fun s n M2 r2 f2 b2 => ?_)
  · refine ⟨fun _ => ?_, fun q => absurd (tcA_lt a2) q⟩
    exact s_T_loop (M := M2) (fun f M' r0 p0 f0 l0 _ d0 => h1 f M' r0 p0 ((g1.tr f2).tr f0) (l0.trans (l2.trans l1)) d0) (fun s n M' r0 f0 s0 _ n0 => h2 s n M' r0 ((g1.tr f2).tr f0) s0 n0) 400 0 e f M2 (by omega) (by omega) r2 frD.rfl' rfl a2 d2
  · refine ⟨fun q => absurd q (tcB_lt b2), fun _ => ?_⟩
    apply v_Tape_readOnto_14_34
    refine ⟨fun _ => ?_, fun q => absurd rfl q⟩
    rw [vm_u2_ne (by omega), b2.2.2.2.1]
    exact h2 _ _ M2 r2 (g1.tr f2) b2.2.2.1 b2.2.2.2.2
end CO
