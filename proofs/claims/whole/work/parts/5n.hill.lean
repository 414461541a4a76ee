/-! hill -/
section HL
variable {X : Nat × (Nat → Int32)} {M : vm_M} {b : Nat → Nat} {L : Nat}
def frK (M M' : vm_M) : Prop := ∀ r j, ¬ (r = 48 ∧ (j = 0 ∨ (10 ≤ j ∧ j ≤ 18))) → r ≠ 53 → M' r j = M r j
theorem frF.K {M M' : vm_M} (h : frF M M') : frK M M' := fun r j h1 h2 => h r j (by omega) h2
theorem frK.tr {M M' M'' : vm_M} (h : frK M M') (h' : frK M' M'') : frK M M'' := fun r j hr h2 => (h' r j hr h2).trans (h r j hr h2)
theorem s_M_hill {P : Int32 → vm_M → Prop} (e10 : M 48 10 = nI L) (hL : L ≤ 400) (hb : ∀ i, i < L → b i < 256 ∧ M 55 i = nI (b i))
    (h1 : ∀ f M', hp_hill b L = .inr f → 0 < f 2 → hp_ok f → frH M M' → M' 48 8 = nI 0 → M' 48 10 = nI 0 → M' 48 11 = M 48 11 → vh_M M' 52 0 f (fun _ => nI 0) → P (nI (f 2)) M')
    (h2 : ∀ s n M', hp_hill b L = .inl (s, n) → frK M M' → M' 48 10 = nI 0 → M' 48 11 = nI n → P (Int32.ofInt (-1000100) - nI s) M') : E_M_hill X M P := by
  apply v_M_hill
  apply v_M_begin
  have eA : (vm_u2 M 48 0 (nI 0)) 48 10 = nI L := by rw [vm_u2_ne (by omega)]; exact e10
  rw [eA]
  generalize hM1 : vm_u2 (vm_u2 (vm_u2 (vm_u2 (vm_u2 M 48 0 (nI 0)) 48 12 (nI L)) 48 10 (nI 0)) 48 13 (nI 0)) 48 17 (nI 0) = M1
  have g1 : ∀ r j, ¬ (r = 48 ∧ (j = 0 ∨ j = 10 ∨ j = 12 ∨ j = 13 ∨ j = 17)) → M1 r j = M r j := by
    intro r j h
    rw [← hM1, vm_u2_ne (by omega), vm_u2_ne (by omega), vm_u2_ne (by omega), vm_u2_ne (by omega), vm_u2_ne (by omega)]
  have z10 : M1 48 10 = nI 0 := by rw [← hM1, vm_u2_ne (by omega), vm_u2_ne (by omega), vm_u2_eq]
  have z13 : M1 48 13 = nI 0 := by rw [← hM1, vm_u2_ne (by omega), vm_u2_eq]
  have z17 : M1 48 17 = nI 0 := by rw [← hM1, vm_u2_eq]
  have hT1 : tmT b L M1 := ⟨hL, by rw [← hM1, vm_u2_ne (by omega), vm_u2_ne (by omega), vm_u2_ne (by omega), vm_u2_eq], fun i hi => ⟨(hb i hi).1, by rw [g1 _ _ (by omega)]; exact (hb i hi).2⟩⟩
  have k1 : frK M M1 := fun r j h _ => g1 r j (by omega)
  clear hM1
  show C_M_next_0 X .null M1 _
  refine s_M_next L 0 M1 (by omega) hT1 z13 (fun M2 f2 k2 => ?_)
  have a2 : tmA b L 0 M2 := ⟨hT1.of (fun r j h => f2 r j (by omega)), Nat.zero_le _, k2, by rw [f2 _ _ (by omega)]; exact z17⟩
  have fr2 : frF M1 M2 := fun r j h _ => f2 r j (by omega)
  have k3 : frK M M2 := k1.tr fr2.K
  have y10 : M2 48 10 = nI 0 := by rw [f2 _ _ (by omega)]; exact z10
  have y11 : M2 48 11 = M 48 11 := by rw [f2 _ _ (by omega), g1 _ _ (by omega)]
  clear f2 k2 fr2 hT1 z10 z13 z17 g1 k1 eA
  -- what a fault comes to
  have hF : ∀ s n M', hp_hill b L = .inl (s, n) → frF M2 M' → P (Int32.ofInt (-1000100) - nI s) (vm_u2 M' 48 11 (nI n)) := by
    intro s n M' r f
    refine h2 s n _ r (fun r j q1 q2 => ?_) ?_ vm_u2_eq
    · rw [vm_u2_ne (by omega), f r j (by omega) q2]; exact k3 r j q1 q2
    · rw [vm_u2_ne (by omega), f _ _ (by omega) (by omega)]; exact y10
  have hS : ∀ f M', hp_hill b L = .inr f → 0 < f 2 → hp_ok f → (∀ r j, ¬ (r = 48 ∧ (j = 8 ∨ (13 ≤ j ∧ j ≤ 18))) → r ≠ 52 → r ≠ 53 → M' r j = M2 r j) → M' 48 8 = nI 0 → vh_M M' 52 0 f (fun _ => nI 0) → P (nI (f 2)) M' := by
    intro f M' r p o fr e8 v
    refine h1 f M' r p o (fun r j q1 q2 q3 => ?_) e8 ?_ ?_ v
    · rw [fr r j (by omega) q2 q3]; exact k3 r j (by omega) q3
    · rw [fr _ _ (by omega) (by omega) (by omega)]; exact y10
    · rw [fr _ _ (by omega) (by omega) (by omega)]; exact y11
  have main : ∀ (x : Int32) (M3 : vm_M), frF M2 M3 → tmA b L 0 M3 → (∀ j, j < 70 → M3 53 j = nI 0) → E_M_name X M3 (fun v2 M3 => ((lg_cmp v2 (Int64.ofInt 474214787188)) = 0 → (E_M_must X (nI 1) M3 (fun M4 => E_M_number X (nI 1) (nI 60) M4 (fun v5 M6 => E_M_number X (nI 0) (nI 60) (vm_u2 M6 53 0 v5) (fun v7 M8 => E_M_mustEnd X  (vm_u2 M8 53 1 v7) (fun M9 => E_M_name X  M9 (fun v10 M11 => ((lg_cmp v10 (Int64.ofInt 128034609063282)) = 0 → (C_M_hill_96 X x M11 P)) ∧ (¬ ((lg_cmp v10 (Int64.ofInt 128034609063282)) = 0) → (E_M_bad X (nI 1) M11 (fun M12 => C_M_hill_96 X x M12 P)))))))))) ∧ (¬ ((lg_cmp v2 (Int64.ofInt 474214787188)) = 0) → (E_M_must X (nI 0) M3 (fun M13 => E_M_number X (nI 1) (nI 60) M13 (fun v14 M15 => E_M_number X (nI 0) (nI 60) (vm_u2 M15 53 0 v14) (fun v16 M17 => E_M_mustEnd X  (vm_u2 M17 53 1 v16) (fun M18 => E_M_name X  M18 (fun v19 M20 => ((lg_cmp v19 (Int64.ofInt 128034609063282)) = 0 → (C_M_hill_96 X x M20 P)) ∧ (¬ ((lg_cmp v19 (Int64.ofInt 128034609063282)) = 0) → (E_M_bad X (nI 1) M20 (fun M21 => C_M_hill_96 X x M21 P))))))))))) := by
    intro x M3 f3 a3 z3
    have bB : ∀ {M : vm_M} {s n j : Nat} {v : Int32}, tmB b L s n M → tmB b L s n (vm_u2 M 53 j v) := fun hb => hb.of (fun r' j' h => vm_u2_r (by omega) _)
    have bA : ∀ {M : vm_M} {e j : Nat} {v : Int32}, tmA b L e M → tmA b L e (vm_u2 M 53 j v) := fun hb => hb.of (fun r' j' h => vm_u2_r (by omega) _)
    have tailB : ∀ {M9 : vm_M} {s n : Nat}, hp_hill b L = .inl (s, n) → frF M2 M9 → tmB b L s n M9 → E_M_name X M9 (fun v10 M11 => ((lg_cmp v10 (Int64.ofInt 128034609063282)) = 0 → (C_M_hill_96 X x M11 P)) ∧ (¬ ((lg_cmp v10 (Int64.ofInt 128034609063282)) = 0) → (E_M_bad X (nI 1) M11 (fun M12 => C_M_hill_96 X x M12 P)))) := by
      intro M9 s n r f b9
      exact g_name b9 ⟨fun q => absurd q tk0_cmp.1, fun _ => g_bad b9 (g_96 b9 (hF s n M9 r f))⟩
    have hRn : hp_hill b L = hp_night b L (hp_loop b L 400) 0 := rfl
    unfold hp_night at hRn
    refine m_name a3 ?_
    rw [tkN_0]
    refine ⟨fun w => ?_, fun w => ?_⟩
    · rw [if_pos w] at hRn
      refine m_must1 a3 (fun M4 f4 a4 => ?_)
      refine m_num (by omega) (by omega) hRn a4 (fun d e5 M5 r5 d1 d6 f5 a5 x5 _ _ => ?_) (fun s n v M5 r5 f5 b5 => ?_)
      · refine m_num (by omega) (by omega) r5 (bA a5) (fun wt e6 M6 r6 w0 w6 f6 a6 x6 _ _ => ?_) (fun s n v M6 r6 f6 b6 => ?_)
        · refine m_sign r6 (bA a6) (fun e7 M7 r7 f7 a7 x7 => ?_) (fun s n M7 r7 f7 b7 => ?_)
          · have fr : frF M2 M7 := (((((f3.tr f4.F).tr f5.F).tr frF.u2).tr f6.F).tr frF.u2).tr f7.F
            have d7 : tmD (hp_dw d wt) M7 := by
              have g : ∀ j, M7 53 j = (vm_u2 (vm_u2 M3 53 0 (nI d)) 53 1 (nI wt)) 53 j := by
                intro j
                rw [f7 53 j (by omega)]
                by_cases q : j = 1
                · rw [q, vm_u2_eq, vm_u2_eq]
                · rw [vm_u2_ne (by omega), vm_u2_ne (by omega), f6 53 j (by omega)]
                  by_cases q2 : j = 0
                  · rw [q2, vm_u2_eq, vm_u2_eq]
                  · rw [vm_u2_ne (by omega), vm_u2_ne (by omega), f5 53 j (by omega), f4 53 j (by omega)]
              have e : ∀ j, hp_dw d wt j = if j = 1 then wt else if j = 0 then d else 0 := fun _ => rfl
              refine ⟨⟨fun j hj hw => ?_, fun y hy => ?_⟩, hp_dw_ok ⟨d1, d6⟩ w6⟩
              · rw [Nat.zero_add, g, e]
                by_cases q : j = 1
                · rw [q, vm_u2_eq, if_pos rfl]
                · rw [vm_u2_ne (by omega), if_neg q]
                  by_cases q2 : j = 0
                  · rw [q2, vm_u2_eq, if_pos rfl]
                  · rw [vm_u2_ne (by omega), if_neg q2]
                    exact z3 j hj
              · rw [g, vm_u2_ne (by omega), vm_u2_ne (by omega)]
                exact z3 _ (by omega)
            refine m_name a7 ?_
            rw [tkN_1]
            have go : (0 < hp_dw d wt 2 ∨ tkI b L (tkS b L e7) tkW1) → C_M_hill_96 X x M7 P := fun h20 =>
              s_M_lt96 (M := M2) hS hF 400 e7 _ M7 (by have := tkE_ge b L (tkS b L 0); omega) h20 rfl r7 fr a7 d7
            refine ⟨fun w2 => go (Or.inr w2), fun w2 => ?_⟩
            refine m_bad (by omega) a7 (fun M8 f8 b8 => g_96 b8 (hF _ _ M8 ?_ (fr.tr f8.F)))
            have r8 : hp_hill b L = hp_step b L (hp_loop b L 399) e7 (hp_dw d wt) := r7
            unfold hp_step at r8
            have e2 : hp_dw d wt 2 = 0 := rfl
            rw [if_neg (by rw [e2]; omega), if_neg (fun q => w2 q.1), if_neg (by rw [e2]; omega)] at r8
            exact r8
          · exact tailB r7 ((((((f3.tr f4.F).tr f5.F).tr frF.u2).tr f6.F).tr frF.u2).tr f7.F) b7
        · exact g_sign (bB b6) (tailB r6 (((((f3.tr f4.F).tr f5.F).tr frF.u2).tr f6.F).tr frF.u2) (bB b6))
      · exact g_num (bB b5) (g_sign (bB (bB b5)) (tailB r5 ((((f3.tr f4.F).tr f5.F).tr frF.u2).tr frF.u2) (bB (bB b5))))
    · rw [if_neg w] at hRn
      refine m_must0 a3 (fun M4 f4 b4 => g_num b4 (g_num (bB b4) (g_sign (bB (bB b4)) (tailB hRn (((f3.tr f4.F).tr frF.u2).tr frF.u2) (bB (bB b4))))))
  have loop : ∀ (n k : Nat) (M' : vm_M), k + n = 70 → (∀ r j, r ≠ 53 → M' r j = M2 r j) → (∀ j, j < k → M' 53 j = nI 0) → C_M_hill_11 X (nI k) M' P := by
    intro n
    induction n with
    | zero =>
      intro k M' hk g1 g2
      apply v_M_hill_11
      rw [nI_ltI (by omega) (by omega)]
      refine ⟨fun q => absurd q (by omega), fun _ => ?_⟩
      exact main (nI k) M' (fun r j _ h => g1 r j h) (a2.of (fun r j h => g1 r j (by omega))) (fun j hj => g2 j (by omega))
    | succ n ih =>
      intro k M' hk g1 g2
      apply v_M_hill_11
      rw [nI_ltI (by omega) (by omega), vm_ex (by omega) (by omega), vm_add]
      refine ⟨fun _ => ih (k + 1) _ (by omega) (fun r j hr => ?_) (fun j hj => ?_), fun q => absurd (by omega) q⟩
      · rw [vm_u2_r hr]; exact g1 r j hr
      · by_cases hjk : j = k
        · subst hjk
          rw [vm_u2_eq]
        · rw [vm_u2_ne (by omega)]; exact g2 j (by omega)
  exact loop 70 0 M2 (by omega) (fun _ _ _ => rfl) (fun j hj => absurd hj (by omega))
theorem op_hill (hR : vR M) : E_B_hill X M (fun v M1 => E_M_hill X M1 (fun v' M2 => v = v' ∧ vR M2)) := by
  obtain ⟨h1, h2, ⟨L, hL, t1, t2, t3, t4⟩, ⟨f0, w0, hH, hA⟩, h6, h7, h8⟩ := id hR
  obtain ⟨n, q, F, W, hn, hq, e1, e2, e8, hF, hW, hall⟩ := hA
  have hbb : ∀ i, i < L → (M 55 i).toInt.toNat < 256 ∧ M 55 i = nI (M 55 i).toInt.toNat ∧ M 6 i = tk_sv (M 55 i).toInt.toNat := by
    intro i hi
    obtain ⟨v, hv, v1, v2⟩ := t3 i hi
    have ev : (M 55 i).toInt.toNat = v := by rw [v1, nI_toInt (by omega)]; omega
    rw [ev]
    exact ⟨hv, v1, v2⟩
  generalize hbg : (fun i => (M 55 i).toInt.toNat) = b at *
  have hb1 : ∀ i, i < L → b i < 256 ∧ M 55 i = nI (b i) ∧ M 6 i = tk_sv (b i) := by
    intro i hi
    rw [← hbg]
    exact hbb i hi
  have hT : tcT b L M := ⟨hL, t1, fun i hi => ⟨(hb1 i hi).1, (hb1 i hi).2.2⟩⟩
  apply v_B_hill
  refine s_readOnto hT (fun f M1 r f0' fr l7 d => ⟨fun _ => ?_, fun q => absurd cM1_lt q⟩) (fun s k M1 r fr hs l7 => ⟨fun q => absurd ((vm_nneg (by omega)).mp q) id, fun _ => ?_⟩)
  · apply v_Hill_become_7_14
    have hok := d.2.done f0'
    have d2 : vh_C (vm_u2 M1 5 1 (nI 0)) 14 f (fun _ => nI 0) := d.1.of (fun r j q1 q2 => vm_u2_r (by omega) _)
    have hC7 := vm_bec_C (c := 7) (by omega) d2 hok.1
    show E_M_hill X (vm_u2 (vm_bec 7 14 (vm_u2 M1 5 1 (nI 0))) 35 1 (nI 0)) (fun v' M2 => (vm_u2 (vm_bec 7 14 (vm_u2 M1 5 1 (nI 0))) 35 1 (nI 0)) 7 0 = v' ∧ vR M2)
    have g0 : ∀ r j, (r < 7 ∨ 13 < r) → vm_bec 7 14 (vm_u2 M1 5 1 (nI 0)) r j = (vm_u2 M1 5 1 (nI 0)) r j := fun r j h => vm_bec_r (by omega) j
    generalize vm_bec 7 14 (vm_u2 M1 5 1 (nI 0)) = Mb at hC7 g0
    have gM : ∀ r j, ¬ (7 ≤ r ∧ r ≤ 20) → ¬ (r = 5 ∧ 1 ≤ j ∧ j ≠ 7) → ¬ (r = 35 ∧ j = 1) → (vm_u2 Mb 35 1 (nI 0)) r j = M r j := by
      intro r j q1 q2 q3
      rw [vm_u2_ne q3, g0 r j (by omega), vm_u2_ne (by omega)]
      by_cases q4 : r = 5 ∧ j = 7
      · rw [q4.1, q4.2]; exact l7
      · exact fr r j (by omega) (by omega)
    have e51 : (vm_u2 Mb 35 1 (nI 0)) 5 1 = nI 0 := by rw [vm_u2_ne (by omega), g0 _ _ (by omega), vm_u2_eq]
    have e351 : (vm_u2 Mb 35 1 (nI 0)) 35 1 = nI 0 := vm_u2_eq
    have hC8 : vh_C (vm_u2 Mb 35 1 (nI 0)) 7 f (fun _ => nI 0) := hC7.of (fun r j q1 q2 => vm_u2_r (by omega) _)
    generalize vm_u2 Mb 35 1 (nI 0) = Mc at gM e51 e351 hC8
    refine s_M_hill (b := b) (L := L) ?_ hL (fun i hi => ⟨(hb1 i hi).1, ?_⟩) (fun f' M2 r' p' o' fr' z8 z10 z11 v' => ?_) (fun s n M2 r' _ _ _ => ?_)
    · rw [gM _ _ (by omega) (by omega) (by omega)]; exact t2
    · rw [gM _ _ (by omega) (by omega) (by omega)]; exact (hb1 i hi).2.1
    · rw [r] at r'
      have ef : f = f' := Sum.inr.inj r'
      subst ef
      have gT : ∀ r j, ¬ (7 ≤ r ∧ r ≤ 20) → ¬ (r = 5 ∧ 1 ≤ j ∧ j ≠ 7) → ¬ (r = 35 ∧ j = 1) → ¬ (r = 48 ∧ (j = 0 ∨ j = 8 ∨ (10 ≤ j ∧ j ≤ 18))) → r ≠ 52 → r ≠ 53 → M2 r j = M r j :=
        fun r j q1 q2 q3 q4 q5 q6 => (fr' r j q4 q5 q6).trans (gM r j q1 q2 q3)
      refine ⟨hC8.1, h1.of (fun r j g => gT r j (by omega) (by omega) (by omega) (by omega) (by omega) (by omega)), ?_, ⟨0, by omega, ?_, z10, fun i hi => absurd hi (by omega), ?_⟩, ⟨f, fun _ => nI 0, ⟨hok, hC8.of (fun r j q1 q2 => fr' r j (by omega) (by omega) (by omega)), v'⟩, ⟨0, q, fun _ => f, fun _ _ => nI 0, by omega, hq, ?_, ?_, z8, rfl, rfl, fun i hi => absurd hi (by omega)⟩⟩, h6.of (fun r j g => gT r j (by omega) (by omega) (by omega) (by omega) (by omega) (by omega)), h7.of (fun r j g => gT r j (by omega) (by omega) (by omega) (by omega) (by omega) (by omega)), h8.of (fun r j g => gT r j (by omega) (by omega) (by omega) (by omega) (by omega) (by omega))⟩
      · rw [gT 48 1 (by omega) (by omega) (by omega) (by omega) (by omega) (by omega), gT 0 9 (by omega) (by omega) (by omega) (by omega) (by omega) (by omega)]; exact h2
      · rw [fr' _ _ (by omega) (by omega) (by omega)]; exact e51
      · rw [gT 5 7 (by omega) (by omega) (by omega) (by omega) (by omega) (by omega), z11, gM _ _ (by omega) (by omega) (by omega)]; exact t4
      · rw [fr' _ _ (by omega) (by omega) (by omega)]; exact e351
      · rw [gT 35 2 (by omega) (by omega) (by omega) (by omega) (by omega) (by omega)]; exact e2
    · rw [r] at r'
      cases r'
  · have gM : ∀ r j, ¬ (14 ≤ r ∧ r ≤ 20) → ¬ (r = 5 ∧ 1 ≤ j) → (vm_u2 M1 5 1 (nI 0)) r j = M r j := by
      intro r j q1 q2
      rw [vm_u2_ne (by omega)]
      exact fr r j (by omega) (by omega)
    have e51 : (vm_u2 M1 5 1 (nI 0)) 5 1 = nI 0 := vm_u2_eq
    have e57 : (vm_u2 M1 5 1 (nI 0)) 5 7 = nI k := by rw [vm_u2_ne (by omega)]; exact l7
    generalize vm_u2 M1 5 1 (nI 0) = Mc at gM e51 e57
    refine s_M_hill (b := b) (L := L) ?_ hL (fun i hi => ⟨(hb1 i hi).1, ?_⟩) (fun f' M2 r' _ _ _ _ _ _ _ => ?_) (fun s' n' M2 r' fr' z10 z11 => ?_)
    · rw [gM _ _ (by omega) (by omega)]; exact t2
    · rw [gM _ _ (by omega) (by omega)]; exact (hb1 i hi).2.1
    · rw [r] at r'
      cases r'
    · rw [r] at r'
      cases r'
      have gT : ∀ r j, ¬ (14 ≤ r ∧ r ≤ 20) → ¬ (r = 5 ∧ 1 ≤ j) → ¬ (r = 48 ∧ (j = 0 ∨ (10 ≤ j ∧ j ≤ 18))) → r ≠ 53 → M2 r j = M r j :=
        fun r j q1 q2 q4 q6 => (fr' r j q4 q6).trans (gM r j q1 q2)
      refine ⟨rfl, h1.of (fun r j g => gT r j (by omega) (by omega) (by omega) (by omega)), ?_, ⟨0, by omega, ?_, z10, fun i hi => absurd hi (by omega), ?_⟩, ⟨f0, w0, hH.of (fun r j g => gT r j (by omega) (by omega) (by omega) (by omega)), vR_acts.of ⟨n, q, F, W, hn, hq, e1, e2, e8, hF, hW, hall⟩ (fun r j g => gT r j (by omega) (by omega) (by omega) (by omega))⟩, h6.of (fun r j g => gT r j (by omega) (by omega) (by omega) (by omega)), h7.of (fun r j g => gT r j (by omega) (by omega) (by omega) (by omega)), h8.of (fun r j g => gT r j (by omega) (by omega) (by omega) (by omega))⟩
      · rw [gT 48 1 (by omega) (by omega) (by omega) (by omega), gT 0 9 (by omega) (by omega) (by omega) (by omega)]; exact h2
      · rw [fr' _ _ (by omega) (by omega)]; exact e51
      · rw [fr' _ _ (by omega) (by omega), z11]; exact e57
end HL
