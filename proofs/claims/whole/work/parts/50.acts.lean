def vh_eqv (f f2 : Nat → Nat) : Prop := ∀ j, j ≠ 0 → j ≠ 4 → j ≠ 5 → f2 j = f j
theorem vh_min_eqv {f f2 : Nat → Nat} (h : vh_eqv f f2) (wet a b : Nat) : ∀ k, vh_min f2 wet a b k = vh_min f wet a b k
  | 0 => rfl
  | k + 1 => by
    have ih := vh_min_eqv h wet a b k
    unfold vh_min vh_j
    rw [ih, h (30 + 4 * k) (by omega) (by omega) (by omega), h (31 + 4 * k) (by omega) (by omega) (by omega), h (32 + 4 * k) (by omega) (by omega) (by omega), h (33 + 4 * k) (by omega) (by omega) (by omega)]
theorem vh_ok.mv {f f2 : Nat → Nat} (ho : vh_ok f) (h : vh_eqv f f2) (h0 : 0 < f 2) (h1 : 1 ≤ f2 0) (h2 : f2 0 ≤ 60) (h3 : f2 4 ≤ 60) (h4 : f2 5 < f 2) : vh_ok f2 := by
  obtain ⟨a1, a2, a3, a4, a5, a6, a7, a8, a9⟩ := ho
  have e2 : f2 2 = f 2 := h 2 (by omega) (by omega) (by omega)
  have e3 : f2 3 = f 3 := h 3 (by omega) (by omega) (by omega)
  have e1 : f2 1 = f 1 := h 1 (by omega) (by omega) (by omega)
  refine ⟨by omega, by omega, h2, by omega, h3, fun _ => ⟨by omega, h1⟩, fun q => by omega, fun x hx => ?_, fun k hk => ?_⟩
  · rw [h (6 + 4 * x) (by omega) (by omega) (by omega), h (7 + 4 * x) (by omega) (by omega) (by omega), h (8 + 4 * x) (by omega) (by omega) (by omega)]
    exact a8 x (by omega)
  · have := a9 k (by omega)
    unfold vh_wok at this ⊢
    rw [h (30 + 4 * k) (by omega) (by omega) (by omega), h (31 + 4 * k) (by omega) (by omega) (by omega), h (32 + 4 * k) (by omega) (by omega) (by omega), h (33 + 4 * k) (by omega) (by omega) (by omega), e2]
    exact this
theorem vh_C.mv {M M2 : vm_M} {f f2 : Nat → Nat} {w w2 : Nat → Int32} (hC : vh_C M 7 f w) (h : vh_eqv f f2) (e2 : M2 7 2 = nI (f2 0)) (e4 : M2 7 4 = nI (f2 4)) (e5 : M2 7 5 = nI (f2 5)) (ew : ∀ x, x < f 2 → M2 11 x = w2 x)
    (he : ∀ r j, 7 ≤ r → r ≤ 13 → r ≠ 11 → ¬ (r = 7 ∧ (j = 2 ∨ j = 4 ∨ j = 5)) → M2 r j = M r j) : vh_C M2 7 f2 w2 := by
  obtain ⟨b0, b1, b2, b3, b4, b5, b6, b7⟩ := hC
  have g2 : f2 2 = f 2 := h 2 (by omega) (by omega) (by omega)
  have g3 : f2 3 = f 3 := h 3 (by omega) (by omega) (by omega)
  have g1 : f2 1 = f 1 := h 1 (by omega) (by omega) (by omega)
  refine ⟨?_, ?_, e2, ?_, e4, e5, fun x hx => ?_, fun a b ha hb => ?_⟩
  · rw [he 7 0 (by omega) (by omega) (by omega) (by omega), g2]; exact b0
  · rw [he 7 1 (by omega) (by omega) (by omega) (by omega), g3]; exact b1
  · rw [he 7 3 (by omega) (by omega) (by omega) (by omega), g1]; exact b3
  · rw [he (7 + 1) _ (by omega) (by omega) (by omega) (by omega), he (7 + 2) _ (by omega) (by omega) (by omega) (by omega), he (7 + 3) _ (by omega) (by omega) (by omega) (by omega), h (6 + 4 * x) (by omega) (by omega) (by omega), h (7 + 4 * x) (by omega) (by omega) (by omega), h (8 + 4 * x) (by omega) (by omega) (by omega)]
    have := b6 x (by omega)
    exact ⟨this.1, this.2.1, this.2.2.1, ew x (by omega)⟩
  · rw [he (7 + 5) _ (by omega) (by omega) (by omega) (by omega), he (7 + 6) _ (by omega) (by omega) (by omega) (by omega), vh_min_eqv h, vh_min_eqv h, g3]
    exact b7 a b ha hb
theorem vh_M.mv {M M2 : vm_M} {f f2 : Nat → Nat} {w w2 : Nat → Int32} (hM : vh_M M 52 0 f w) (h : vh_eqv f f2) (e2 : M2 52 0 = nI (f2 0)) (e4 : M2 52 4 = nI (f2 4)) (e5 : M2 52 5 = nI (f2 5)) (ew : ∀ x, x < 6 → M2 52 (9 + 4 * x) = w2 x)
    (he : ∀ j, j < 70 → j ≠ 0 → j ≠ 4 → j ≠ 5 → ¬ (6 ≤ j ∧ j < 30 ∧ j % 4 = 1) → M2 52 j = M 52 j) : vh_M M2 52 0 f2 w2 := by
  refine ⟨fun j hj hn => ?_, fun x hx => ?_⟩
  · rw [Nat.zero_add]
    by_cases h0 : j = 0
    · subst h0; exact e2
    · by_cases h4 : j = 4
      · subst h4; exact e4
      · by_cases h5 : j = 5
        · subst h5; exact e5
        · rw [he j hj h0 h4 h5 hn, h j h0 h4 h5]
          have := hM.1 j hj hn
          rwa [Nat.zero_add] at this
  · rw [Nat.zero_add]; exact ew x hx
section VH
variable {X : Nat × (Nat → Int32)} {M : vm_M}
/-- the relation behind an act: what must be looked at -/
theorem vR.act {M M2 : vm_M} {f f2 : Nat → Nat} {w w2 : Nat → Int32} {n q tk : Nat} {F : Nat → Nat → Nat} {W : Nat → Nat → Int32}
    (h1 : vR_rows M) (h2 : M 48 1 = M 0 9) (h3 : vR_tape M) (hH : vR_hill M f w) (h6 : vR_img M 21 0) (h7 : vR_img M 28 1) (h8 : vR_trace M) (h0 : 0 < f 2)
    (hn : n ≤ 24) (hq : q < 24) (hF : F 0 = f) (hW : W 0 = w) (hall : ∀ i, i < n → vh_ok (F (i + 1)) ∧ vh_M M 54 (70 * (n - 1 - i)) (F (i + 1)) (W (i + 1)) ∧ vR_step M q i (F i) (F (i + 1)) (W i) (W (i + 1)))
    (hfr : ∀ r j, ¬ (35 ≤ r ∧ r ≤ 40) → r ≠ 54 → r ≠ 11 → ¬ (r = 7 ∧ (j = 2 ∨ j = 4 ∨ j = 5)) → ¬ (r = 48 ∧ (j = 0 ∨ j = 8)) → ¬ (r = 52 ∧ (j = 0 ∨ j = 4 ∨ j = 5 ∨ (6 ≤ j ∧ j < 30 ∧ j % 4 = 1))) → M2 r j = M r j)
    (he : vh_eqv f f2) (b1 : 1 ≤ f2 0) (b2 : f2 0 ≤ 60) (b3 : f2 4 ≤ 60) (b4 : f2 5 < f 2) (c2 : M2 7 2 = nI (f2 0)) (c4 : M2 7 4 = nI (f2 4)) (c5 : M2 7 5 = nI (f2 5)) (cw : ∀ x, x < f 2 → M2 11 x = w2 x)
    (m2 : M2 52 0 = nI (f2 0)) (m4 : M2 52 4 = nI (f2 4)) (m5 : M2 52 5 = nI (f2 5)) (mw : ∀ x, x < 6 → M2 52 (9 + 4 * x) = w2 x)
    (g1 : M2 35 1 = nI (min (n + 1) 24)) (g2 : M2 35 2 = nI ((q + 1) % 24)) (g8 : M2 48 8 = nI (min (n + 1) 24))
    (htop : ∀ j, j < 70 → M2 54 (70 * (min (n + 1) 24 - 1) + j) = M 52 j) (hold : ∀ i j, i + 1 < min (n + 1) 24 → j < 70 → M2 54 (70 * (min (n + 1) 24 - 1 - (i + 1)) + j) = M 54 (70 * (n - 1 - i) + j))
    (hring : ∀ r j, 36 ≤ r → r ≤ 40 → j ≠ q → M2 r j = M r j) (htk : tk < f 2)
    (r36 : M2 36 q = nI (f 4)) (r37 : M2 37 q = nI (f 0)) (r38 : M2 38 q = nI (f 5)) (r39 : M2 39 q = nI tk)
    (hw : ∀ x, x < 6 → w x = (if x = tk then (if x = f 5 then w2 x - M2 40 q else w2 x) + M2 40 q else if x = f 5 then w2 x - M2 40 q else w2 x)) : vR M2 := by
  have e2 : f2 2 = f 2 := he 2 (by omega) (by omega) (by omega)
  have h5 := (hH.1.2.2.2.2.2.1 h0).1
  refine ⟨h1.of (fun r j g => hfr r j (by omega) (by omega) (by omega) (by omega) (by omega) (by omega)), ?_, h3.of (fun r j g => hfr r j (by omega) (by omega) (by omega) (by omega) (by omega) (by omega)), ⟨f2, w2, ⟨hH.1.mv he h0 b1 b2 b3 b4, hH.2.1.mv he c2 c4 c5 cw (fun r j g g' g'' g3 => hfr r j (by omega) (by omega) (by omega) (by omega) (by omega) (by omega)), hH.2.2.mv he m2 m4 m5 mw (fun j g g' g'' g3 g4 => hfr 52 j (by omega) (by omega) (by omega) (by omega) (by omega) (by omega))⟩, ?_⟩, h6.of (fun r j g => hfr r j (by omega) (by omega) (by omega) (by omega) (by omega) (by omega)), h7.of (fun r j g => hfr r j (by omega) (by omega) (by omega) (by omega) (by omega) (by omega)), h8.of (fun r j g => hfr r j (by omega) (by omega) (by omega) (by omega) (by omega) (by omega))⟩
  · rw [hfr 48 1 (by omega) (by omega) (by omega) (by omega) (by omega) (by omega), hfr 0 9 (by omega) (by omega) (by omega) (by omega) (by omega) (by omega)]
    exact h2
  · exact vR_acts.more (f := f) (w := w) (tk := tk) hn hq hF hW hall hH.1 hH.2.2 g1 g2 g8 htop hold hring (by omega) (by omega) (by omega) (fun j _ a b c => (he j a b c).symm) r36 r37 r38 r39 hw
theorem vm_sw60 {k : Nat} (h : 1 ≤ k ∧ k ≤ 60) : (nI k < nI 1 ↔ False) ∧ (nI 60 < nI k ↔ False) := by
  rw [nI_ltI (by omega) (by omega), nI_ltI (by omega) (by omega)]
  exact ⟨⟨fun h => by omega, False.elim⟩, ⟨fun h => by omega, False.elim⟩⟩
/-- an int is one of 1 .. 60, or not -/
theorem vm_one60 (x : Int32) : (∃ k, 1 ≤ k ∧ k ≤ 60 ∧ x = nI k) ∨ ((∀ k, 1 ≤ k → k ≤ 60 → x ≠ nI k) ∧ (x < nI 1 ∨ nI 60 < x)) := by
  rcases vm_one x (T := 61) (by omega) with ⟨k, hk, rfl⟩ | ⟨hno, hx⟩
  · by_cases h : 1 ≤ k
    · exact Or.inl ⟨k, h, by omega, rfl⟩
    · refine Or.inr ⟨fun m h1 h2 e => ?_, Or.inl ?_⟩
      · have := (nI_eq (by omega) (by omega)).mp e
        omega
      · rw [nI_ltI (by omega) (by omega)]; omega
  · refine Or.inr ⟨fun m h1 h2 e => hno m (by omega) e, ?_⟩
    rcases vm_60 hx with h | h
    · refine Or.inl (Int32.lt_iff_toInt_lt.mpr ?_)
      have h1 := Int32.lt_iff_toInt_lt.mp h
      have e0 : (0 : Int32).toInt = 0 := by decide
      have e1 := nI_toInt (n := 1) (by omega)
      omega
    · exact Or.inr h
theorem s_M_in60 {P : Int32 → vm_M → Prop} {x : Int32} (h1 : ∀ k, 1 ≤ k → k ≤ 60 → x = nI k → P (nI 1) M) (h0 : (∀ k, 1 ≤ k → k ≤ 60 → x ≠ nI k) → P (nI 0) M) : E_M_in X x.toInt64 (Int64.ofNat 1) (Int64.ofInt 60) M P := by
  have e1 : (Int64.ofNat 1).toInt = 1 := by decide
  have e60 : (Int64.ofInt 60).toInt = 60 := by decide
  refine s_M_in (fun q => ?_) (fun q => ?_)
  · rw [e1, e60, vm_i64] at q
    refine h1 x.toInt.toNat (by omega) (by omega) (Int32.toInt_inj.mp ?_)
    rw [nI_toInt (by omega)]
    omega
  · rw [e1, e60, vm_i64] at q
    refine h0 (fun n h1 h2 e => q ?_)
    rw [e, nI_toInt (by omega)]
    omega
theorem op_bribe (hR : vR M) (x : Int32) : E_B_bribe X x M (fun v M1 => E_M_bribe X x M1 (fun v' M2 => v = v' ∧ vR M2)) := by
  obtain ⟨h1, h2, h3, ⟨f, w, hH, hA⟩, h6, h7, h8⟩ := id hR
  obtain ⟨n, q, F, W, hn, hq, e1, e2, e8, hF, hW, hall⟩ := hA
  have hT := hH.1.1
  have e7 : M 7 0 = nI (f 2) := hH.2.1.1
  have hd := hH.1.2.2.1
  have e72 : M 7 2 = nI (f 0) := hH.2.1.2.2.1
  have e74 : M 7 4 = nI (f 4) := hH.2.1.2.2.2.2.1
  have e75 : M 7 5 = nI (f 5) := hH.2.1.2.2.2.2.2.1
  have d0 : M 52 0 = nI (f 0) := hH.2.2.1 0 (by omega) (by omega)
  have d4 : M 52 4 = nI (f 4) := hH.2.2.1 4 (by omega) (by omega)
  have d5 : M 52 5 = nI (f 5) := hH.2.2.1 5 (by omega) (by omega)
  have ed : (vm_u2 M 48 0 (nI 0)) 52 0 = nI (f 0) := d0
  apply v_B_bribe
  rw [e7, vm_n0 (by omega)]
  refine ⟨fun hz => ?_, fun hz => ?_⟩
  · apply v_M_bribe
    rw [ed, vm_0n (by omega)]
    have := hH.1.2.2.2.2.2.2.1 hz
    exact ⟨fun q => absurd q (by omega), fun _ => ⟨rfl, hR.thrown⟩⟩
  · have hd1 := (hH.1.2.2.2.2.2.1 (by omega)).2
    have hf5 := (hH.1.2.2.2.2.2.1 (by omega)).1
    rcases vm_one60 x with ⟨k, hk1, hk2, rfl⟩ | ⟨hno, hx⟩
    · have hs := vm_sw60 ⟨hk1, hk2⟩
      rw [hs.1, hs.2]
      refine ⟨fun q => q.elim, fun _ => ⟨fun q => q.elim, fun _ => ?_⟩⟩
      apply v_Acts_moveDawn
      refine s_Acts_keep hq hn e2 e1 ?_
      rw [e75, e72]
      apply v_M_bribe
      have g0 : (vm_u2 (vm_u2 (vm_kp M q n (nI (f 5)) (nI 0)) 7 2 (nI k)) 48 0 (nI 0)) 52 0 = nI (f 0) := by rw [vm_u2_r (by omega), vm_u2_r (by omega), vm_kp_o (by omega)]; exact d0
      rw [g0, vm_0n (by omega)]
      refine ⟨fun _ => ?_, fun q => absurd (by omega) q⟩
      refine s_M_in60 (fun m a b e => ⟨fun q => absurd q (by decide), fun _ => ?_⟩) (fun h => absurd rfl (h k hk1 hk2))
      have g8 : (vm_u2 (vm_u2 (vm_kp M q n (nI (f 5)) (nI 0)) 7 2 (nI k)) 48 0 (nI 0)) 48 8 = nI n := by rw [vm_u2_ne (by omega), vm_u2_r (by omega), vm_kp_o (by omega)]; exact e8
      refine s_M_keep hn g8 ?_
      generalize hM0 : vm_u2 (vm_u2 (vm_kp M q n (nI (f 5)) (nI 0)) 7 2 (nI k)) 48 0 (nI 0) = M0 at g0 g8
      have o0 : ∀ r j, ¬ (35 ≤ r ∧ r ≤ 40) → ¬ (r = 7 ∧ j = 2) → ¬ (r = 48 ∧ j = 0) → M0 r j = M r j := by
        intro r j a b c
        rw [← hM0, vm_u2_ne c, vm_u2_ne b, vm_kp_o a]
      have o1 : ∀ r j, 35 ≤ r → r ≤ 40 → M0 r j = vm_kp M q n (nI (f 5)) (nI 0) r j := by
        intro r j a b
        rw [← hM0, vm_u2_ne (by omega), vm_u2_ne (by omega)]
      have o3 : ∀ r j, 35 ≤ r → r ≤ 40 → (vm_u2 (vm_kM M0 n) 52 0 (nI k)) r j = vm_kp M q n (nI (f 5)) (nI 0) r j := by
        intro r j a b
        rw [vm_u2_ne (by omega), vm_kM_o (by omega) (by omega), o1 r j a b]
      refine ⟨by rw [vm_kM_o (by omega) (by omega)]; exact g0.symm, ?_⟩
      refine vR.act (f := f) (f2 := fun j => if j = 0 then k else f j) (w := w) (w2 := w) (tk := f 5) h1 h2 h3 hH h6 h7 h8 (by omega) hn hq hF hW hall ?_ (fun j a _ _ => if_neg a) hk1 hk2 hH.1.2.2.2.2.1 hf5 ?_ ?_ ?_ ?_ vm_u2_eq ?_ ?_ ?_ ?_ ?_ ?_ ?_ ?_ ?_ hf5 ?_ ?_ ?_ ?_ ?_
      · intro r j a b c d e' g
        rw [vm_u2_ne (by omega), vm_kM_o b (by omega), o0 r j a (by omega) (by omega)]
      · rw [vm_u2_ne (by omega), vm_kM_o (by omega) (by omega), ← hM0, vm_u2_ne (by omega), vm_u2_eq]; rfl
      · rw [vm_u2_ne (by omega), vm_kM_o (by omega) (by omega), o0 7 4 (by omega) (by omega) (by omega)]; exact e74
      · rw [vm_u2_ne (by omega), vm_kM_o (by omega) (by omega), o0 7 5 (by omega) (by omega) (by omega)]; exact e75
      · intro x hx
        rw [vm_u2_ne (by omega), vm_kM_o (by omega) (by omega), o0 11 x (by omega) (by omega) (by omega)]
        exact (hH.2.1.2.2.2.2.2.2.1 x hx).2.2.2
      · rw [vm_u2_ne (by omega), vm_kM_o (by omega) (by omega), o0 52 4 (by omega) (by omega) (by omega)]; exact d4
      · rw [vm_u2_ne (by omega), vm_kM_o (by omega) (by omega), o0 52 5 (by omega) (by omega) (by omega)]; exact d5
      · intro x hx
        rw [vm_u2_ne (by omega), vm_kM_o (by omega) (by omega), o0 52 _ (by omega) (by omega) (by omega)]
        have := hH.2.2.2 x hx
        rwa [Nat.zero_add] at this
      · rw [o3 35 1 (by omega) (by omega)]; unfold vm_kp; rw [if_pos ⟨rfl, rfl⟩]
      · rw [o3 35 2 (by omega) (by omega)]; unfold vm_kp; rw [if_neg (by omega), if_pos ⟨rfl, rfl⟩]
      · rw [vm_u2_ne (by omega), vm_kM_n hn]
      · intro j hj
        rw [vm_u2_ne (by omega), vm_kM_top hn hj, o0 52 j (by omega) (by omega) (by omega)]
      · intro i j hi hj
        rw [vm_u2_ne (by omega), vm_kM_old hn hi hj, o0 54 _ (by omega) (by omega) (by omega)]
      · intro r j a b c
        rw [o3 r j (by omega) b, vm_kp_j a c]
      · rw [o3 36 q (by omega) (by omega)]; unfold vm_kp; rw [if_neg (by omega), if_neg (by omega), if_neg (by omega), if_neg (by omega), if_neg (by omega), if_neg (by omega), if_pos ⟨rfl, rfl⟩]; exact e74
      · rw [o3 37 q (by omega) (by omega)]; unfold vm_kp; rw [if_neg (by omega), if_neg (by omega), if_neg (by omega), if_neg (by omega), if_neg (by omega), if_pos ⟨rfl, rfl⟩]; exact e72
      · rw [o3 38 q (by omega) (by omega)]; unfold vm_kp; rw [if_neg (by omega), if_neg (by omega), if_neg (by omega), if_neg (by omega), if_pos ⟨rfl, rfl⟩]; exact e75
      · rw [o3 39 q (by omega) (by omega)]; unfold vm_kp; rw [if_neg (by omega), if_neg (by omega), if_neg (by omega), if_pos ⟨rfl, rfl⟩]
      · intro x hx
        have e40 : (vm_u2 (vm_kM M0 n) 52 0 (nI k)) 40 q = nI 0 := by rw [o3 40 q (by omega) (by omega)]; unfold vm_kp; rw [if_neg (by omega), if_neg (by omega), if_pos ⟨rfl, rfl⟩]
        rw [e40]
        have z1 : w x - nI 0 + nI 0 = w x := by show w x - 0 + 0 = w x; simp
        by_cases hxf : x = f 5
        · rw [if_pos hxf, if_pos hxf, z1]
        · rw [if_neg hxf, if_neg hxf]
    · have hb : E_M_bribe X x M (fun v' M2 => cBAD = v' ∧ vR M2) := by
        apply v_M_bribe
        rw [ed, vm_0n (by omega)]
        refine ⟨fun _ => ?_, fun q => absurd (by omega) q⟩
        exact s_M_in60 (fun m a b e => absurd e (hno m a b)) (fun _ => ⟨fun _ => ⟨rfl, hR.thrown⟩, fun q => absurd rfl q⟩)
      rcases hx with h | h
      · exact ⟨fun _ => hb, fun q => absurd h q⟩
      · exact ⟨fun _ => hb, fun _ => ⟨fun _ => hb, fun q => absurd h q⟩⟩
end VH
