section MW
variable {X : Nat × (Nat → Int32)} {M : vm_M} {b : Nat → Nat} {L : Nat}
theorem m_way {P : vm_M → Prop} {R : hR} {e : Nat} {f : Nat → Nat} {k : Nat → (Nat → Nat) → hR} (hR : R = if f 3 < 10 then hp_way b L k (tkE b L (tkS b L e)) f else .inl (tkS b L e, 3)) (h20 : 0 < f 2) (hA : tmA b L e M) (hD : tmD f M)
    (h1 : ∀ e' f' M', R = k e' f' → f' 2 = f 2 → f' 3 = f 3 + 1 → frF M M' → tmA b L e' M' → tmD f' M' → e < e' → P M')
    (h2 : ∀ s n M', R = .inl (s, n) → frF M M' → tmB b L s n M' → P M') : E_M_readWay X M P := by
  have ho := hD.2
  have h26 := ho.1
  have h310 := ho.2.1
  have hse := tkS_ge b L e
  have hee := tkE_ge b L (tkS b L e)
  have restB : ∀ {M5 : vm_M} {v2 : Int32} {s n : Nat}, tmB b L s n M5 → P M5 → E_M_number X (nI 0) ((M5 53 2) - (nI 1)) M5 (fun v18 M19 => E_M_number X (nI 1) (nI 30) M19 (fun v20 M21 => E_M_number X (nI 0) (nI 1) M21 (fun v22 M23 => E_M_mustEnd X  M23 (fun M24 => ((M24 48 17) = 0 → (∃ j25 : Nat, ((nI 30) + ((nI 4) * (M24 53 3))) = nI j25 ∧ j25 < 70 ∧ (∃ j26 : Nat, (((nI 30) + ((nI 4) * (M24 53 3))) + (nI 1)) = nI j26 ∧ j26 < 70 ∧ (∃ j27 : Nat, (((nI 30) + ((nI 4) * (M24 53 3))) + (nI 2)) = nI j27 ∧ j27 < 70 ∧ (∃ j28 : Nat, (((nI 30) + ((nI 4) * (M24 53 3))) + (nI 3)) = nI j28 ∧ j28 < 70 ∧ (P  (vm_u2 (vm_u2 (vm_u2 (vm_u2 (vm_u2 M24 53 j25 v2) 53 j26 v18) 53 j27 v20) 53 j28 v22) 53 3 (((vm_u2 (vm_u2 (vm_u2 (vm_u2 M24 53 j25 v2) 53 j26 v18) 53 j27 v20) 53 j28 v22) 53 3) + (nI 1))))))))) ∧ (¬ ((M24 48 17) = 0) → (P  M24)))))) := by
    intro M5 v2 s n b5 hp
    exact g_num b5 (g_num b5 (g_num b5 (g_sign b5 ⟨fun q => absurd q (tmB_ne b5), fun _ => hp⟩)))
  have restA : ∀ {M5 : vm_M} {a e1 : Nat}, f 3 < 10 → frM M M5 → tmA b L e1 M5 → e < e1 → a < f 2 → ¬ (tkK b L (tkS b L e1) = 2 ∧ tkV b L (tkS b L e1) = a) → R = hp_nun b L e1 (f 2 - 1) a (fun c e => hp_num b L e 1 30 fun d e => hp_num b L e 0 1 fun w e => hp_sign b L e fun e => k e (hp_W f a c d w)) → E_M_number X (nI 0) ((M5 53 2) - (nI 1)) M5 (fun v18 M19 => E_M_number X (nI 1) (nI 30) M19 (fun v20 M21 => E_M_number X (nI 0) (nI 1) M21 (fun v22 M23 => E_M_mustEnd X  M23 (fun M24 => ((M24 48 17) = 0 → (∃ j25 : Nat, ((nI 30) + ((nI 4) * (M24 53 3))) = nI j25 ∧ j25 < 70 ∧ (∃ j26 : Nat, (((nI 30) + ((nI 4) * (M24 53 3))) + (nI 1)) = nI j26 ∧ j26 < 70 ∧ (∃ j27 : Nat, (((nI 30) + ((nI 4) * (M24 53 3))) + (nI 2)) = nI j27 ∧ j27 < 70 ∧ (∃ j28 : Nat, (((nI 30) + ((nI 4) * (M24 53 3))) + (nI 3)) = nI j28 ∧ j28 < 70 ∧ (P  (vm_u2 (vm_u2 (vm_u2 (vm_u2 (vm_u2 M24 53 j25 (nI a)) 53 j26 v18) 53 j27 v20) 53 j28 v22) 53 3 (((vm_u2 (vm_u2 (vm_u2 (vm_u2 M24 53 j25 (nI a)) 53 j26 v18) 53 j27 v20) 53 j28 v22) 53 3) + (nI 1))))))))) ∧ (¬ ((M24 48 17) = 0) → (P  M24)))))) := by
    intro M5 a e1 h10 f1 a1 x1 ha hne r1
    unfold hp_nun at r1
    have e53a : M5 53 2 = nI (f 2) := by have := (hD.of f1).1.1 2 (by omega) (by omega); rwa [Nat.zero_add] at this
    rw [e53a, pk_sub (by omega)]
    refine m_num (by omega) (by omega) r1 a1 (fun c e2 M2 r2 c0 c6 f2 a2 x2 k2 v2 => ?_) (fun s n v M2 r2 f2 b2 => ?_)
    · have hac : a ≠ c := fun q => hne ⟨k2, by rw [q, v2]⟩
      rw [if_neg hac] at r2
      refine m_num (by omega) (by omega) r2 a2 (fun d e3 M3 r3 d1 d3 f3 a3 x3 _ _ => ?_) (fun s n v M3 r3 f3 b3 => ?_)
      · refine m_num (by omega) (by omega) r3 a3 (fun w e4 M4 r4 w0 w1 f4 a4 x4 _ _ => ?_) (fun s n v M4 r4 f4 b4 => ?_)
        · refine m_sign r4 a4 (fun e5 M6 r5 f5 a5 x5 => ⟨fun _ => ?_, fun q => absurd a5.2.2.2 q⟩) (fun s n M6 r5 f5 b5 => ⟨fun q => absurd q (tmB_ne b5), fun _ => ?_⟩)
          · have fr : frM M M6 := (((f1.tr f2).tr f3).tr f4).tr f5
            have hD5 := hD.of fr
            have e53 : M6 53 3 = nI (f 3) := by have := hD5.1.1 3 (by omega) (by omega); rwa [Nat.zero_add] at this
            rw [e53, vm_mul, vm_add, vm_add, vm_add, vm_add, show 30 + 4 * f 3 + 1 = 31 + 4 * f 3 by omega, show 30 + 4 * f 3 + 2 = 32 + 4 * f 3 by omega, show 30 + 4 * f 3 + 3 = 33 + 4 * f 3 by omega]
            simp (disch := omega) only [vm_ex]
            have e2 : (vm_u2 (vm_u2 (vm_u2 (vm_u2 M6 53 (30 + 4 * f 3) (nI a)) 53 (31 + 4 * f 3) (nI c)) 53 (32 + 4 * f 3) (nI d)) 53 (33 + 4 * f 3) (nI w)) 53 3 = nI (f 3) := by
              rw [vm_u2_ne (by omega), vm_u2_ne (by omega), vm_u2_ne (by omega), vm_u2_ne (by omega)]; exact e53
            rw [e2, vm_add]
            refine h1 _ _ _ r5 (hp_W_o (by omega) (by omega)) (hp_W_3 _ _ _ _ _) (((((fr.F.tr frF.u2).tr frF.u2).tr frF.u2).tr frF.u2).tr frF.u2) (a5.of (fun r j h => ?_)) (m_storeW hD5 h10 ha (by omega) hac ⟨d1, d3⟩ w1) (by omega)
            rw [vm_u2_r (by omega), vm_u2_r (by omega), vm_u2_r (by omega), vm_u2_r (by omega), vm_u2_r (by omega)]
          · exact h2 _ _ _ r5 (((((f1.tr f2).tr f3).tr f4).tr f5).F) b5
        · refine g_sign b4 ⟨fun q => absurd q (tmB_ne b4), fun _ => ?_⟩
          exact h2 _ _ _ r4 ((((f1.tr f2).tr f3).tr f4).F) b4
      · refine g_num b3 (g_sign b3 ⟨fun q => absurd q (tmB_ne b3), fun _ => ?_⟩)
        exact h2 _ _ _ r3 (((f1.tr f2).tr f3).F) b3
    · refine g_num b2 (g_num b2 (g_sign b2 ⟨fun q => absurd q (tmB_ne b2), fun _ => ?_⟩))
      exact h2 _ _ _ r2 (f1.tr f2).F b2
  apply v_M_readWay
  refine m_begins (f := f) (Or.inr rfl) (by omega) hA hD (by omega) (fun h10 M1 f1 a1 => ?_) (fun h10 M1 f1 b1 => ?_)
  · rw [if_pos (by omega)] at hR
    unfold hp_way at hR
    have e53a : M1 53 2 = nI (f 2) := by have := (hD.of f1).1.1 2 (by omega) (by omega); rwa [Nat.zero_add] at this
    rw [e53a, pk_sub (by omega)]
    refine m_num (by omega) (by omega) hR a1 (fun a e2 M2 r2 a0 a6 f2 a2 x2 _ _ => ⟨fun _ => ?_, fun q => absurd a2.2.2.2 q⟩) (fun s n v M2 r2 f2 b2 => ⟨fun q => absurd q (tmB_ne b2), fun _ => restB b2 ?_⟩)
    · have e14 := tmA_k a2 (c := 2) (by omega)
      refine ⟨fun q => ?_, fun q => restA (by omega) (f1.tr f2) a2 (by omega) (by omega) (fun q2 => q (e14.mpr q2.1)) r2⟩
      have hk := e14.mp q
      refine s_M_figures a2.1 (tmA_s a2) a2.2.2.1 (fun _ => ?_) (fun q2 => absurd hk q2)
      have hv := tkV_lt hk
      rw [nI_eq (by omega) (by omega)]
      refine ⟨fun q2 => ?_, fun q2 => restA (by omega) (f1.tr f2) a2 (by omega) (by omega) (fun q3 => q2 q3.2) r2⟩
      refine m_bad (by omega) a2 (fun M3 f3 b3 => restB b3 ?_)
      refine h2 _ _ _ ?_ ((f1.tr f2).tr f3).F b3
      unfold hp_nun hp_num at r2
      rw [if_pos hk, if_pos (by omega)] at r2
      exact r2.trans (if_pos q2.symm)
    · exact h2 _ _ _ r2 (f1.tr f2).F b2
  · rw [if_neg (by omega)] at hR
    refine g_num b1 ⟨fun q => absurd q (tmB_ne b1), fun _ => restB b1 ?_⟩
    exact h2 _ _ _ hR f1.F b1
theorem tkI_17 {s : Nat} (h : tkI b L s tkW7) : ¬ tkI b L s tkW1 := by
  intro q
  have h1 := h.2.1
  have h2 := q.2.1
  have e1 : tkW7.length = 3 := rfl
  have e2 : tkW1.length = 6 := rfl
  omega
theorem tk0_cmp : ¬ lg_cmp (Int64.ofNat 0) (Int64.ofInt 128034609063282) = 0 ∧ ¬ lg_cmp (Int64.ofNat 0) (Int64.ofInt 7823737) = 0 ∧ ¬ lg_cmp (Int64.ofNat 0) (Int64.ofInt 474214787188) = 0 := by decide
theorem g_114 {P : Int32 → vm_M → Prop} {x : Int32} {s n : Nat} (hB : tmB b L s n M) (h : P (Int32.ofInt (-1000100) - nI s) (vm_u2 M 48 11 (nI n))) : C_M_hill_114 X x M P := by
  apply v_M_hill_114
  refine g_name hB ⟨fun q => absurd q tk0_cmp.2.1, fun _ => ⟨fun q => absurd q (tmB_ne hB), fun _ => ⟨fun _ => ?_, fun q => absurd (tmB_lt hB) q⟩⟩⟩
  rw [hB.2.2.2.2.1, vm_u2_ne (by omega), hB.2.2.2.2.2]
  exact h
theorem g_96 {P : Int32 → vm_M → Prop} {x : Int32} {s n : Nat} (hB : tmB b L s n M) (h : P (Int32.ofInt (-1000100) - nI s) (vm_u2 M 48 11 (nI n))) : C_M_hill_96 X x M P := by
  apply v_M_hill_96
  exact g_name hB ⟨fun q => absurd q tk0_cmp.1, fun _ => g_114 hB h⟩
theorem s_M_182 {P : Int32 → vm_M → Prop} (h : ∀ M', (∀ r j, r ≠ 52 → M' r j = M r j) → (∀ j, j < 70 → M' 52 j = M 53 j) → P (M' 52 2) M') : C_M_hill_182 X (nI 0) M P := by
  have loop : ∀ (n k : Nat) (M' : vm_M), k + n = 70 → (∀ r j, r ≠ 52 → M' r j = M r j) → (∀ j, j < k → M' 52 j = M 53 j) → C_M_hill_182 X (nI k) M' P := by
    intro n
    induction n with
    | zero =>
      intro k M' hk g1 g2
      apply v_M_hill_182
      rw [nI_ltI (by omega) (by omega)]
      exact ⟨fun q => absurd q (by omega), fun _ => h M' g1 (fun j hj => g2 j (by omega))⟩
    | succ n ih =>
      intro k M' hk g1 g2
      apply v_M_hill_182
      simp (disch := omega) only [nI_ltI, vm_ex, vm_add]
      refine ⟨fun _ => ih (k + 1) _ (by omega) (fun r j hr => ?_) (fun j hj => ?_), fun q => absurd (by omega) q⟩
      · rw [vm_u2_r hr]; exact g1 r j hr
      · by_cases hjk : j = k
        · subst hjk
          rw [vm_u2_eq, g1 53 j (by omega)]
        · rw [vm_u2_ne (by omega)]; exact g2 j (by omega)
  exact loop 70 0 M (by omega) (fun _ _ _ => rfl) (fun j hj => absurd hj (by omega))
/-- all but the hill and what the reading uses -/
def frH (M M' : vm_M) : Prop := ∀ r j, ¬ (r = 48 ∧ (j = 0 ∨ j = 8 ∨ (10 ≤ j ∧ j ≤ 18))) → r ≠ 52 → r ≠ 53 → M' r j = M r j
theorem s_M_lw {P : Int32 → vm_M → Prop} {R : hR} {x : Int32}
    (h1 : ∀ f M', R = .inr f → 0 < f 2 → hp_ok f → (∀ r j, ¬ (r = 48 ∧ (j = 8 ∨ (13 ≤ j ∧ j ≤ 18))) → r ≠ 52 → r ≠ 53 → M' r j = M r j) → M' 48 8 = nI 0 → vh_M M' 52 0 f (fun _ => nI 0) → P (nI (f 2)) M')
    (h2 : ∀ s n M', R = .inl (s, n) → frF M M' → P (Int32.ofInt (-1000100) - nI s) (vm_u2 M' 48 11 (nI n))) :
    ∀ (n e : Nat) (f : Nat → Nat) (M' : vm_M), 400 < n + e → 0 < f 2 → (tkI b L (tkS b L e) tkW1 → f 3 ≠ 0) → R = hp_loop b L n e f → frF M M' → tmA b L e M' → tmD f M' → C_M_hill_114 X x M' P := by
  intro n
  induction n with
  | zero =>
    intro e f M' he h20 hnt hR hf hA hD
    have := hA.1.1
    have := hA.2.1
    omega
  | succ n ih =>
    intro e f M' he h20 hnt hR hf hA hD
    have hR0 : R = hp_step b L (hp_loop b L n) e f := hR
    unfold hp_step at hR0
    have hD2 := hD.2
    have e14 := tmA_k hA (c := 0) (by omega)
    apply v_M_hill_114
    refine m_name hA ?_
    rw [tkN_7]
    refine ⟨fun w => ?_, fun w => ⟨fun _ => ⟨fun q => ⟨fun q2 => absurd q2 (tmA_lt hA), fun _ => ?_⟩, fun q => ?_⟩, fun q => absurd hA.2.2.2 q⟩⟩
    · rw [if_neg (fun q => by have := w.1; omega), if_neg (fun q => tkI_17 w q.1), if_pos ⟨w, h20⟩] at hR0
      refine m_way hR0 h20 hA hD (fun e' f' M2 r2 g2 g3 f2 a2 d2 x2 => ?_) (fun s n M2 r2 f2 b2 => ?_)
      · exact ih e' f' M2 (by omega) (by omega) (fun _ => by omega) r2 (hf.tr f2) a2 d2
      · exact g_114 b2 (h2 _ _ M2 r2 (hf.tr f2))
    · rw [if_pos ⟨e14.mp q, h20⟩] at hR0
      refine s_M_182 (fun M2 f2 c2 => ?_)
      have e2 : M2 52 2 = nI (f 2) := by
        rw [c2 2 (by omega), vm_u2_r (by omega)]
        have := hD.1.1 2 (by omega) (by omega)
        rwa [Nat.zero_add] at this
      rw [e2]
      refine h1 f M2 hR0 h20 hD2 (fun r j g1 g2 g3 => ?_) ?_ (hD.1.cp (fun j hj => ?_))
      · rw [f2 r j g2, vm_u2_ne (by omega)]; exact hf r j (by omega) g3
      · rw [f2 _ _ (by omega), vm_u2_eq]
      · rw [Nat.zero_add, c2 j hj, vm_u2_r (by omega)]
    · rw [if_neg (fun q2 => q (e14.mpr q2.1)), if_neg (fun q2 => hnt q2.1 q2.2), if_neg (fun q2 => w q2.1)] at hR0
      refine m_bad (by omega) hA (fun M2 f2 b2 => ⟨fun _ => ?_, fun q => absurd (tmB_lt b2) q⟩)
      rw [b2.2.2.2.2.1, vm_u2_ne (by omega), b2.2.2.2.2.2]
      exact h2 _ _ M2 hR0 (hf.tr f2.F)
theorem s_M_lt96 {P : Int32 → vm_M → Prop} {R : hR} {x : Int32}
    (h1 : ∀ f M', R = .inr f → 0 < f 2 → hp_ok f → (∀ r j, ¬ (r = 48 ∧ (j = 8 ∨ (13 ≤ j ∧ j ≤ 18))) → r ≠ 52 → r ≠ 53 → M' r j = M r j) → M' 48 8 = nI 0 → vh_M M' 52 0 f (fun _ => nI 0) → P (nI (f 2)) M')
    (h2 : ∀ s n M', R = .inl (s, n) → frF M M' → P (Int32.ofInt (-1000100) - nI s) (vm_u2 M' 48 11 (nI n))) :
    ∀ (n e : Nat) (f : Nat → Nat) (M' : vm_M), 400 < n + e → (0 < f 2 ∨ tkI b L (tkS b L e) tkW1) → f 3 = 0 → R = hp_loop b L n e f → frF M M' → tmA b L e M' → tmD f M' → C_M_hill_96 X x M' P := by
  intro n
  induction n with
  | zero =>
    intro e f M' he h20 h30 hR hf hA hD
    have := hA.1.1
    have := hA.2.1
    omega
  | succ n ih =>
    intro e f M' he h20 h30 hR hf hA hD
    have hR0 : R = hp_step b L (hp_loop b L n) e f := hR
    unfold hp_step at hR0
    apply v_M_hill_96
    refine m_name hA ?_
    rw [tkN_1]
    refine ⟨fun w => ?_, fun w => ?_⟩
    · rw [if_neg (fun q => by have := w.1; omega), if_pos ⟨w, h30⟩] at hR0
      refine m_trader hR0 hA hD (fun e' f' M2 r2 g2 g3 f2 a2 d2 x2 => ?_) (fun s n M2 r2 f2 b2 => ?_)
      · exact ih e' f' M2 (by omega) (Or.inl (by omega)) (by omega) r2 (hf.tr f2) a2 d2
      · exact g_96 b2 (h2 _ _ M2 r2 (hf.tr f2))
    · rcases h20 with h20 | h20
      · exact s_M_lw h1 h2 (n + 1) e f M' he h20 (fun q => absurd q w) hR hf hA hD
      · exact absurd h20 w
end MW
