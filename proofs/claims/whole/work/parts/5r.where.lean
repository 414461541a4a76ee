section WH
variable {X : Nat × (Nat → Int32)} {M : vm_M}
theorem vm_dead_ne2 {r j : Nat} (h : vm_dead r j = false) : ¬ (42 ≤ r ∧ r ≤ 45) ∧ ¬ (56 ≤ r ∧ r ≤ 61) := by
  unfold vm_dead at h
  simp only [Bool.or_eq_false_iff, Bool.and_eq_false_iff, beq_eq_false_iff_ne, decide_eq_false_iff_not, Bool.not_eq_false', Bool.or_eq_true, beq_iff_eq] at h
  omega
theorem vm_rng2 {x : Int32} {T : Nat} (hT : T < 1000) (h : x < 0 ∨ ¬ x < nI (T + 1)) {A B : Prop} (hA : A) : (x < 0 → A) ∧ (¬ x < 0 → ((nI T < x → A) ∧ (¬ nI T < x → B))) := by
  refine ⟨fun _ => hA, fun q => ⟨fun _ => hA, fun q2 => ?_⟩⟩
  rw [vm_lt0, Int32.lt_iff_toInt_lt, nI_toInt (by omega)] at h
  rw [vm_lt0] at q
  rw [Int32.lt_iff_toInt_lt, nI_toInt (by omega)] at q2
  omega
theorem s_M_243 {P : Int32 → vm_M → Prop} {K G : Nat → Nat → Bool} {t T : Nat} {x1 x2 x3 x5 : Int32} {w8 : Value} (ht : t ≤ 60) (hT : T ≤ 6) (e : M 52 2 = nI T) (hK : kM K 60 M) (hG : ∀ t x, t ≤ 60 → x < T → M 61 (6 * t + x) = b1 (G t x))
    (h : ∀ s, s < 64 → (∀ x, s.testBit x = (decide (x < T) && (K t x && G t x))) → P (nI s) M) : C_M_where_243 X x1 x2 x3 (nI t) x5 (nI 0) (nI 0) w8 M P := by
  have loop : ∀ (l a s : Nat), a + l = T → s < 64 → (∀ x, s.testBit x = (decide (x < a) && (K t x && G t x))) → C_M_where_243 X x1 x2 x3 (nI t) x5 (nI s) (nI a) w8 M P := by
    intro l
    induction l with
    | zero =>
      intro a s ha hs hb
      have ha : a = T := by omega
      subst ha
      apply v_M_where_243
      rw [e, nI_ltI (by omega) (by omega)]
      exact ⟨fun q => absurd q (by omega), fun _ => h s hs hb⟩
    | succ l ih =>
      intro a s ha hs hb
      apply v_M_where_243
      rw [e, nI_ltI (by omega) (by omega)]
      refine ⟨fun _ => ?_, fun q => absurd (by omega) q⟩
      have z : nI s ||| nI 0 = nI s := by rw [wb_or, Nat.or_zero]
      simp (disch := omega) only [vm_mul, vm_add, vm_ex]
      rw [hK t a ht (by omega), hG t a ht (by omega), b1_0, b1_0, z, wb_sh1 a (by omega), wb_or]
      have no : (K t a && G t a) = false → C_M_where_243 X x1 x2 x3 (nI t) x5 (nI s) (nI (a + 1)) w8 M P := by
        intro q
        refine ih (a + 1) s (by omega) hs (fun x => ?_)
        rw [hb x]
        by_cases q2 : x = a
        · subst q2
          rw [q, Bool.and_false, Bool.and_false]
        · rw [show decide (x < a) = decide (x < a + 1) from decide_eq_decide.mpr (by omega)]
      refine ⟨fun q => no (by rw [q]; rfl), fun q => ⟨fun q2 => no (by rw [q2]; simp), fun q2 => ?_⟩⟩
      rw [Bool.not_eq_false] at q q2
      refine ih (a + 1) _ (by omega) (wb_or64 hs (wb_p2 a (by omega))) (fun x => ?_)
      rw [wb_or_a, hb x]
      by_cases q3 : x = a
      · subst q3
        rw [q, q2, decide_eq_true (rfl : x = x), decide_eq_true (show x < x + 1 by omega), Bool.or_true]; rfl
      · rw [decide_eq_false (show ¬ a = x from fun q4 => q3 q4.symm), Bool.or_false, show decide (x < a) = decide (x < a + 1) from decide_eq_decide.mpr (by omega)]
  exact loop T 0 0 (by omega) (by omega) (fun x => by rw [Nat.zero_testBit, decide_eq_false (by omega)]; rfl)
theorem op_where (hR : vR M) (x i n t : Int32) : E_B_where X x i n t M (fun v M1 => E_M_where X x i n t M1 (fun v' M2 => v = v' ∧ vR M2)) := by
  obtain ⟨h1, h2, h3, ⟨f, w, hH, hA⟩, h6, h7, h8⟩ := id hR
  obtain ⟨ho, hC, hMh⟩ := id hH
  have hT := ho.1
  have hd := ho.2.2.1
  have hth := vh_there ho
  have e70 : M 7 0 = nI (f 2) := hC.1
  have e520 : ∀ y, (vm_u2 M 48 0 y) 52 0 = nI (f 0) := fun y => by rw [vm_u2_ne (by omega)]; have := hMh.1 0 (by omega) (by omega); rwa [Nat.zero_add] at this
  apply v_B_where
  rw [e70, vm_n0 (by omega)]
  refine ⟨fun h20 => ?_, fun h20 => ?_⟩
  · apply v_M_where
    rw [e520, show (0 : Int32) = nI 0 from rfl, nI_ltI (by omega) (by omega)]
    exact ⟨fun q => absurd (hth.mp q) (by omega), fun _ => ⟨rfl, hR.thrown⟩⟩
  have hd0 : 0 < f 0 := hth.mpr (by omega)
  -- the reference, with a hill
  have model : ∀ {M1 : vm_M} {P : Int32 → vm_M → Prop}, M1 52 0 = nI (f 0) → E_M_isRow X x (vm_u2 M1 48 0 (nI 0)) (fun v1 M2 => (v1 = 0 → (P (Int32.ofInt (-1000001)) M2)) ∧ (¬ (v1 = 0) → (E_M_in X ((n).toInt64) (Int64.ofNat 0) (Int64.ofInt 10) M2 (fun v3 M4 => (v3 = 0 → (P (Int32.ofInt (-1000001)) M4)) ∧ (¬ (v3 = 0) → (E_M_isMinute X t M4 (fun v5 M6 => (v5 = 0 → (P (Int32.ofInt (-1000001)) M6)) ∧ (¬ (v5 = 0) → (∃ j7 : Nat, x = nI j7 ∧ j7 < 8 ∧ (((M6 49 j7) < 0 → (P ((Int32.ofInt (-1000010)) - (nI 1)) (vm_u2 M6 48 1 (nI 1)))) ∧ (¬ ((M6 49 j7) < 0) → ((i < 0 → (P ((Int32.ofInt (-1000010)) - (nI 2)) (vm_u2 M6 48 1 (nI 2)))) ∧ (¬ (i < 0) → (∃ j8 : Nat, x = nI j8 ∧ j8 < 8 ∧ ((0 < (lg_cmp (((i).toInt64) + ((((nI 2) * n)).toInt64)) (((M6 50 j8)).toInt64)) → (P ((Int32.ofInt (-1000010)) - (nI 2)) (vm_u2 M6 48 1 (nI 2)))) ∧ (¬ (0 < (lg_cmp (((i).toInt64) + ((((nI 2) * n)).toInt64)) (((M6 50 j8)).toInt64))) → (C_M_where_91 X x i n t (nI 0) (.null) (.null) (.null) M6 P))))))))))))))))) → E_M_where X x i n t M1 P := by
    intro M1 P e hh
    apply v_M_where
    rw [vm_u2_ne (by omega), e, show (0 : Int32) = nI 0 from rfl, nI_ltI (by omega) (by omega)]
    exact ⟨fun _ => hh, fun q => absurd hd0 q⟩
  have e520' : M 52 0 = nI (f 0) := by have := hMh.1 0 (by omega) (by omega); rwa [Nat.zero_add] at this
  rcases vm_one x (T := 8) (by omega) with ⟨a, ha, rfl⟩ | ⟨hno, hx⟩
  rotate_left
  · have hb : E_M_where X x i n t M (fun v' M2 => cBAD = v' ∧ vR M2) :=
      model e520' (s_M_isRow (fun k hk e => absurd e (hno k hk)) (fun _ => ⟨fun _ => ⟨rfl, hR.thrown⟩, fun q => absurd rfl q⟩))
    exact vm_row8 hx hb
  have row : ∀ {M' : vm_M} {P : Int32 → vm_M → Prop} {A : Prop}, P (nI 1) M' → E_M_isRow X (nI a) M' P := fun {M'} {P} {A} hp => s_M_isRow (fun k hk e => hp) (fun hh => absurd rfl (hh a ha))
  have y0 : ∀ {A B : Prop}, B → ((nI 1 = 0 → A) ∧ (¬ nI 1 = 0 → B)) := fun hb => ⟨fun q => absurd q (by decide), fun _ => hb⟩
  have z0 : ∀ {A B : Prop}, A → ((nI 0 = 0 → A) ∧ (¬ nI 0 = 0 → B)) := fun hb => ⟨fun _ => hb, fun q => absurd rfl q⟩
  refine ⟨fun q => absurd q (nI_pos (by omega)), fun _ => ⟨fun _ => ?_, fun q => absurd ((nI_ltI (by omega) (by omega)).mpr ha) q⟩⟩
  rcases vm_one n (T := 11) (by omega) with ⟨k, hk, rfl⟩ | ⟨hno, hx⟩
  rotate_left
  · have hb : E_M_where X (nI a) i n t M (fun v' M2 => cBAD = v' ∧ vR M2) :=
      model e520' (row (A := True) (y0 (s_M_rng (T := 11) (by decide) (by decide) (by omega) (fun k hk e => absurd e (hno k hk)) (fun _ => z0 ⟨rfl, hR.thrown⟩))))
    exact vm_rng2 (T := 10) (by omega) hx hb
  have pairs : ∀ {M' : vm_M} {P : Int32 → vm_M → Prop}, P (nI 1) M' → E_M_in X (nI k).toInt64 (Int64.ofNat 0) (Int64.ofInt 10) M' P := fun hp => s_M_rng (T := 11) (by decide) (by decide) (by omega) (fun _ _ _ => hp) (fun hh => absurd rfl (hh k hk))
  refine ⟨fun q => absurd q (nI_pos (by omega)), fun _ => ⟨fun q => absurd ((nI_ltI (by omega) (by omega)).mp q) (by omega), fun _ => ?_⟩⟩
  rcases vm_one t (T := 61) (by omega) with ⟨m, hm, rfl⟩ | ⟨hno, hx⟩
  rotate_left
  · have hb : E_M_where X (nI a) i (nI k) t M (fun v' M2 => cBAD = v' ∧ vR M2) :=
      model e520' (row (A := True) (y0 (pairs (y0 (s_M_isMinute (fun m hm e => absurd e (hno m hm)) (fun _ => z0 ⟨rfl, hR.thrown⟩))))))
    exact vm_rng2 (T := 60) (by omega) hx hb
  have minute : ∀ {M' : vm_M} {P : Int32 → vm_M → Prop}, P (nI 1) M' → E_M_isMinute X (nI m) M' P := fun hp => s_M_isMinute (fun _ _ _ => hp) (fun hh => absurd rfl (hh m hm))
  refine ⟨fun q => absurd q (nI_pos (by omega)), fun _ => ⟨fun q => absurd ((nI_ltI (by omega) (by omega)).mp q) (by omega), fun _ => ?_⟩⟩
  obtain ⟨s, c, b1', b2, b3, b4, b5, b6⟩ := h1.1 a ha
  have e2k : nI 2 * nI k = nI (2 * k) := vm_mul 2 k
  have hi64 : ∀ (i : Int32), (i.toInt64 + (nI 2 * nI k).toInt64).toInt = i.toInt + 2 * k := by
    intro i
    rw [vm_i64_add, e2k, nI_toInt (by omega)]
    omega
  have hold : vm_hold i (nI 2 * nI k) c ↔ (0 ≤ i.toInt ∧ i.toInt + 2 * k ≤ c) := by
    unfold vm_hold
    rw [e2k, nI_toInt (by omega)]
    omega
  -- what the reference does with a finding
  have found : ∀ z, z ≠ 0 → z < 10 → (s = 0 ∧ z = 1 ∨ s ≠ 0 ∧ z = 2 ∧ ¬ vm_hold i (nI 2 * nI k) c) → E_M_where X (nI a) i (nI k) (nI m) (vm_u2 M 0 9 (nI z)) (fun v' M2 => Int32.ofInt (-1000010) - nI z = v' ∧ vR M2) := by
    intro z hz hz2 hc
    refine model (by rw [vm_u2_ne (by omega)]; exact e520') (row (A := True) (y0 (pairs (y0 (minute (y0 ?_))))))
    have e49 : (vm_u2 (vm_u2 M 0 9 (nI z)) 48 0 (nI 0)) 49 a = vr_l s := by rw [vm_u2_ne (by omega), vm_u2_ne (by omega), b4]
    have e50 : (vm_u2 (vm_u2 M 0 9 (nI z)) 48 0 (nI 0)) 50 a = nI c := by rw [vm_u2_ne (by omega), vm_u2_ne (by omega), b6]
    have hv : vR (vm_u2 (vm_u2 (vm_u2 M 0 9 (nI z)) 48 0 (nI 0)) 48 1 (nI z)) := by
      refine hR.found (v := nI z) ?_ vm_u2_eq (fun r j hd h1 h2 => ?_)
      · rw [vm_u2_ne (by omega), vm_u2_ne (by omega), vm_u2_eq]
      · have := vm_dead_ne hd
        rw [vm_u2_ne (by omega), vm_u2_ne (by omega), vm_u2_ne h1]
    simp (disch := omega) only [vm_ex]
    rw [e49, e50]
    rcases hc with ⟨hs, rfl⟩ | ⟨hs, rfl, hi⟩
    · have : vr_l s < 0 := by rw [hs]; decide
      exact ⟨fun _ => ⟨rfl, hv⟩, fun q => absurd this q⟩
    · have hl : vr_l s = nI (s - 1) := if_neg hs
      rw [hl, vm_cmp, hi64, vm_i64, nI_toInt (by omega), vm_lt0 i]
      rw [hold] at hi
      exact ⟨fun q => absurd q (nI_pos (by omega)), fun _ => ⟨fun _ => ⟨rfl, hv⟩, fun q => ⟨fun _ => ⟨rfl, hv⟩, fun q2 => absurd hi (fun q3 => q3 (by omega))⟩⟩⟩
  refine s_lapse ha (by omega) b1' b3 b5 (fun hs => y0 (found 1 (by omega) (by omega) (Or.inl ⟨hs, rfl⟩))) (fun hs hc => ⟨fun q => absurd q (by decide), fun _ => found 2 (by omega) (by omega) (Or.inr ⟨hs, rfl, hc⟩)⟩) (fun hs hc => z0 ?_)
  have hc' := hold.mp hc
  obtain ⟨p, hp, rfl, hpi⟩ := vm_toNat hc'.1
  have hpc : p + 2 * k ≤ c := by omega
  -- what the reference does with a row that holds them
  have rest : ∀ {M1 : vm_M} {P : Int32 → vm_M → Prop}, (∀ r j, r ≠ 43 → r ≠ 44 → r ≠ 45 → ¬ (r = 0 ∧ j = 9) → M1 r j = M r j) → C_M_where_91 X (nI a) (nI p) (nI k) (nI m) (nI 0) .null .null .null (vm_u2 M1 48 0 (nI 0)) P → E_M_where X (nI a) (nI p) (nI k) (nI m) M1 P := by
    intro M1 P o hh
    refine model (by rw [o _ _ (by omega) (by omega) (by omega) (by omega)]; exact e520') (row (A := True) (y0 (pairs (y0 (minute (y0 ?_))))))
    have e49 : (vm_u2 M1 48 0 (nI 0)) 49 a = nI (s - 1) := by rw [vm_u2_ne (by omega), o _ _ (by omega) (by omega) (by omega) (by omega), b4]; exact if_neg hs
    have e50 : (vm_u2 M1 48 0 (nI 0)) 50 a = nI c := by rw [vm_u2_ne (by omega), o _ _ (by omega) (by omega) (by omega) (by omega), b6]
    simp (disch := omega) only [vm_ex]
    rw [e49, e50, vm_cmp, hi64, vm_i64, nI_toInt (by omega), nI_toInt (by omega)]
    exact ⟨fun q => absurd q (nI_pos (by omega)), fun _ => ⟨fun q => absurd q (nI_pos (by omega)), fun _ => ⟨fun q => absurd q (by omega), fun _ => hh⟩⟩⟩
  refine s_forget (fun Ma ga za => ?_)
  have i51 : ∀ q, q < 320 → M 51 q = M 4 q := h1.2
  have ev : ∀ q, q < k → (wpv (Ma 4) (f 2) (a * 40 + p) q ↔ wpv (M 51) (f 2) (40 * a + p) q) := by
    intro q hq
    unfold wpv
    rw [ga 4 _ (by omega), ga 4 _ (by omega), i51 _ (by omega), i51 _ (by omega), show 40 * a + p = a * 40 + p by omega]
  have eS : ∀ q, q ≤ k → wS (Ma 4) (a * 40 + p) q = wS (M 51) (40 * a + p) q := by
    intro q
    induction q with
    | zero => intro _; rfl
    | succ q ih =>
      intro hq
      funext y
      rw [wS_s, wS_s, ih (by omega)]
      unfold wpm wpw
      rw [ga 4 _ (by omega), ga 4 _ (by omega), i51 _ (by omega), i51 _ (by omega), show 40 * a + p = a * 40 + p by omega]
  have e52a : ∀ {M1 : vm_M}, (∀ r j, r ≠ 43 → r ≠ 44 → r ≠ 45 → ¬ (r = 0 ∧ j = 9) → M1 r j = M r j) → ∀ {M2 : vm_M}, (∀ r j, r ≠ 59 → M2 r j = (vm_u2 M1 48 0 (nI 0)) r j) → M2 52 2 = nI (f 2) ∧ ∀ q, M2 51 q = M 51 q := by
    intro M1 o M2 g
    refine ⟨?_, fun q => ?_⟩
    · rw [g _ _ (by omega), vm_u2_ne (by omega), o _ _ (by omega) (by omega) (by omega) (by omega)]
      have := hMh.1 2 (by omega) (by omega); rwa [Nat.zero_add] at this
    · rw [g _ _ (by omega), vm_u2_ne (by omega), o _ _ (by omega) (by omega) (by omega) (by omega)]
  refine s_B_77 (T := f 2) ha (by omega) hT (by rw [ga _ _ (by omega)]; exact e70) za (fun hall Mb gb zb => ?_) (fun hbad Mb gb => ?_) _ _
  rotate_left
  · have ob : ∀ r j, r ≠ 43 → r ≠ 44 → r ≠ 45 → ¬ (r = 0 ∧ j = 9) → Mb r j = M r j := fun r j q1 q2 q3 q4 => (gb r j q1).trans (ga r j q1)
    refine rest ob (s_M_91 (fun Mc gc zc => ?_))
    obtain ⟨e52, e51⟩ := e52a ob gc
    rw [vm_mul, vm_add]
    refine s_M_124 (i := 0) (T := f 2) (by omega) (by omega) hT e52 zc (fun hall => ?_) (fun _ Md gd => ⟨rfl, ?_⟩) _ _
    · have e4 : Mc 51 = M 51 := funext e51
      rw [e4] at hall
      exact absurd (fun q hq => (ev q hq).mpr (hall q hq)) hbad
    · refine hR.same (fun r j hdd => ?_)
      have q1 := vm_dead_ne hdd
      have q2 := vm_dead_ne2 hdd
      rw [gd r j (by omega), gc r j (by omega), vm_u2_ne (by omega), gb r j (by omega), ga r j (by omega)]
  · generalize hSg : wS (Ma 4) (a * 40 + p) k = S at zb
    have hS8 : ∀ y, S y ≤ 8 := fun y => by rw [← hSg]; exact wS_le hT k hall y
    apply v_Foretold_withWhom
    have hCb : vh_C (vm_u2 Mb 0 9 (nI 0)) 7 f w := hC.of (fun r j q1 q2 => by rw [vm_u2_ne (by omega), gb r j (by omega), ga r j (by omega)])
    refine s_fillCame (S := S) hCb ho (by omega) hS8 (fun y hy => by rw [vm_u2_ne (by omega)]; exact zb y hy) (fun Mc gc kc => ?_)
    refine s_fillGoesOn (S := S) (hCb.of (fun r j q1 q2 => gc r j (by omega))) ho hS8 (fun y hy => by rw [gc _ _ (by omega), vm_u2_ne (by omega)]; exact zb y hy) (fun Md gd kd => ?_)
    simp (disch := omega) only [vm_ex]
    have ob : ∀ r j, r ≠ 43 → r ≠ 44 → r ≠ 45 → ¬ (r = 0 ∧ j = 9) → Md r j = M r j := fun r j q1 q2 q3 q4 => by
      rw [gd r j q3, gc r j q2, vm_u2_ne q4, gb r j q1, ga r j q1]
    obtain ⟨v, v1, v2, v3, v4⟩ := kc m (by omega)
    obtain ⟨u, u1, u2, u3⟩ := kd m (by omega)
    rw [gd 44 m (by omega), v2, u2, wb_and]
    refine rest ob (s_M_91 (fun Me ge ze => ?_))
    obtain ⟨e52, e51⟩ := e52a ob ge
    have e4 : Me 51 = M 51 := funext e51
    rw [vm_mul, vm_add]
    refine s_M_124 (i := 0) (T := f 2) (by omega) (by omega) hT e52 ze (fun hall2 Mf w8 gf zf => ?_) (fun hbad => ?_) _ _
    rotate_left
    · rw [e4] at hbad
      exact absurd (fun q hq => (ev q hq).mp (hall q hq)) hbad
    · rw [e4, ← eS k (Nat.le_refl _), hSg] at zf
      have hMf : vh_M (vm_u2 Mf 48 1 (nI 0)) 52 0 f w := hMh.of (fun j _ => by
        rw [vm_u2_ne (by omega), gf _ _ (by omega), ge _ _ (by omega), vm_u2_ne (by omega), ob _ _ (by omega) (by omega) (by omega) (by omega)])
      refine s_layComes (S := S) hMf ho (by omega) hS8 (fun y hy => by rw [vm_u2_ne (by omega)]; exact zf y hy) (fun Mg gg kg' => ?_)
      refine s_layGoesOn (S := S) (hMf.of (fun j _ => gg _ _ (by omega))) ho hS8 (fun y hy => by rw [gg _ _ (by omega), vm_u2_ne (by omega)]; exact zf y hy) (fun Mh gh kh => ?_)
      have e52h : Mh 52 2 = nI (f 2) := by rw [gh _ _ (by omega), gg _ _ (by omega), vm_u2_ne (by omega), gf _ _ (by omega)]; exact e52
      refine s_M_243 (K := km f S 60) (G := kg f S 61) (T := f 2) (by omega) hT e52h (fun y z hy hz => by rw [gh _ _ (by omega)]; exact kg' y z hy hz) kh (fun s' hs' hb' => ⟨?_, ?_⟩)
      · refine congrArg nI (Nat.eq_of_testBit_eq (fun y => ?_))
        rw [Nat.testBit_and, hb' y]
        by_cases q : y < f 2
        · have := v4 y (by omega)
          rw [if_pos (by omega)] at this
          rw [← this, u3 y q, decide_eq_true q, Bool.true_and]
        · have : v.testBit y = false := by
            cases hv : v.testBit y
            · rfl
            · exact absurd (v3 y hv) q
          rw [this, decide_eq_false q]; rfl
      · refine hR.found (v := nI 0) ?_ ?_ (fun r j hdd q3 q4 => ?_)
        · rw [gh _ _ (by omega), gg _ _ (by omega), vm_u2_ne (by omega), gf _ _ (by omega), ge _ _ (by omega), vm_u2_ne (by omega), gd _ _ (by omega), gc _ _ (by omega), vm_u2_eq]
        · rw [gh _ _ (by omega), gg _ _ (by omega), vm_u2_eq]
        · have q1 := vm_dead_ne hdd
          have q2 := vm_dead_ne2 hdd
          rw [gh _ _ (by omega), gg _ _ (by omega), vm_u2_ne (by omega), gf _ _ (by omega), ge _ _ (by omega), vm_u2_ne (by omega), ob _ _ (by omega) (by omega) (by omega) q3]
end WH
