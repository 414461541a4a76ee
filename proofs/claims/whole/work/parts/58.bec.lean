/-! one hill becomes another; images -/
def vm_bec6 (c d : Nat) (M : vm_M) : vm_M :=
  let m1 := vm_u2 M c 0 (M d 0)
  let m2 := vm_u2 m1 c 1 (m1 d 1)
  let m3 := vm_u2 m2 c 2 (m2 d 2)
  let m4 := vm_u2 m3 c 3 (m3 d 3)
  let m5 := vm_u2 m4 c 4 (m4 d 4)
  vm_u2 m5 c 5 (m5 d 5)
def vm_bec (c d : Nat) (M : vm_M) : vm_M :=
  vm_cp (vm_cp (vm_cp (vm_cp (vm_cp (vm_cp (vm_bec6 c d M) (d + 1) (c + 1) 0 0 6) (d + 2) (c + 2) 0 0 6) (d + 3) (c + 3) 0 0 6) (d + 4) (c + 4) 0 0 6) (d + 5) (c + 5) 0 0 36) (d + 6) (c + 6) 0 0 36
theorem vm_cp_ne {M : vm_M} {q r sp dp n i j : Nat} (h : i ≠ r) : vm_cp M q r sp dp n i j = M i j := by
  unfold vm_cp; rw [if_neg h]
theorem vm_cp_eq {M : vm_M} {q r n j : Nat} (h : j < n) : vm_cp M q r 0 0 n r j = M q j := by
  unfold vm_cp va_cpy
  rw [if_pos rfl]
  show (if 0 ≤ j ∧ j < 0 + n then M q (0 + (j - 0)) else M r j) = _
  rw [if_pos (by omega), Nat.sub_zero, Nat.zero_add]
theorem vm_bec6_r {c d : Nat} {M : vm_M} {r : Nat} (h : r ≠ c) (j : Nat) : vm_bec6 c d M r j = M r j := by
  unfold vm_bec6
  simp only [vm_u2_r h]
theorem vm_bec6_c {c d : Nat} {M : vm_M} (h : d ≠ c) {j : Nat} (hj : j < 6) : vm_bec6 c d M c j = M d j := by
  unfold vm_bec6
  simp only [vm_u2_r h]
  match j, hj with
  | 0, _ => simp only [vm_u2]; simp
  | 1, _ => simp only [vm_u2]; simp
  | 2, _ => simp only [vm_u2]; simp
  | 3, _ => simp only [vm_u2]; simp
  | 4, _ => simp only [vm_u2]; simp
  | 5, _ => simp only [vm_u2]; simp
theorem vm_bec_r {c d : Nat} {M : vm_M} {r : Nat} (h : r < c ∨ c + 6 < r) (j : Nat) : vm_bec c d M r j = M r j := by
  unfold vm_bec
  rw [vm_cp_ne (by omega), vm_cp_ne (by omega), vm_cp_ne (by omega), vm_cp_ne (by omega), vm_cp_ne (by omega), vm_cp_ne (by omega), vm_bec6_r (by omega)]
theorem vm_bec_C {c d : Nat} {M : vm_M} {f : Nat → Nat} {w : Nat → Int32} (h : c + 6 < d ∨ d + 6 < c) (hC : vh_C M d f w) (hT : f 2 ≤ 6) : vh_C (vm_bec c d M) c f w := by
  have hc : ∀ j, j < 6 → vm_bec c d M c j = M d j := by
    intro j hj
    unfold vm_bec
    rw [vm_cp_ne (by omega), vm_cp_ne (by omega), vm_cp_ne (by omega), vm_cp_ne (by omega), vm_cp_ne (by omega), vm_cp_ne (by omega), vm_bec6_c (by omega) hj]
  have h1 : ∀ x, x < 6 → vm_bec c d M (c + 1) x = M (d + 1) x := by
    intro x hx
    unfold vm_bec
    rw [vm_cp_ne (by omega), vm_cp_ne (by omega), vm_cp_ne (by omega), vm_cp_ne (by omega), vm_cp_ne (by omega), vm_cp_eq hx, vm_bec6_r (by omega)]
  have h2 : ∀ x, x < 6 → vm_bec c d M (c + 2) x = M (d + 2) x := by
    intro x hx
    unfold vm_bec
    rw [vm_cp_ne (by omega), vm_cp_ne (by omega), vm_cp_ne (by omega), vm_cp_ne (by omega), vm_cp_eq hx, vm_cp_ne (by omega), vm_bec6_r (by omega)]
  have h3 : ∀ x, x < 6 → vm_bec c d M (c + 3) x = M (d + 3) x := by
    intro x hx
    unfold vm_bec
    rw [vm_cp_ne (by omega), vm_cp_ne (by omega), vm_cp_ne (by omega), vm_cp_eq hx, vm_cp_ne (by omega), vm_cp_ne (by omega), vm_bec6_r (by omega)]
  have h4 : ∀ x, x < 6 → vm_bec c d M (c + 4) x = M (d + 4) x := by
    intro x hx
    unfold vm_bec
    rw [vm_cp_ne (by omega), vm_cp_ne (by omega), vm_cp_eq hx, vm_cp_ne (by omega), vm_cp_ne (by omega), vm_cp_ne (by omega), vm_bec6_r (by omega)]
  have h5 : ∀ x, x < 36 → vm_bec c d M (c + 5) x = M (d + 5) x := by
    intro x hx
    unfold vm_bec
    rw [vm_cp_ne (by omega), vm_cp_eq hx, vm_cp_ne (by omega), vm_cp_ne (by omega), vm_cp_ne (by omega), vm_cp_ne (by omega), vm_bec6_r (by omega)]
  have h6 : ∀ x, x < 36 → vm_bec c d M (c + 6) x = M (d + 6) x := by
    intro x hx
    unfold vm_bec
    rw [vm_cp_eq hx, vm_cp_ne (by omega), vm_cp_ne (by omega), vm_cp_ne (by omega), vm_cp_ne (by omega), vm_cp_ne (by omega), vm_bec6_r (by omega)]
  obtain ⟨g0, g1, g2, g3, g4, g5, g6, g7⟩ := hC
  refine ⟨(hc 0 (by omega)).trans g0, (hc 1 (by omega)).trans g1, (hc 2 (by omega)).trans g2, (hc 3 (by omega)).trans g3, (hc 4 (by omega)).trans g4, (hc 5 (by omega)).trans g5, fun x hx => ?_, fun a b ha hb => ?_⟩
  · rw [h1 x (by omega), h2 x (by omega), h3 x (by omega), h4 x (by omega)]; exact g6 x hx
  · rw [h5 _ (by omega), h6 _ (by omega)]; exact g7 a b ha hb
theorem vR_img.of2 {M M' : vm_M} {c k : Nat} (h : vR_img M c k) (he : ∀ r j, (c ≤ r ∧ r ≤ c + 6) ∨ (r = 62 ∧ j = k) ∨ (r = 63 ∧ 70 * k ≤ j ∧ j < 70 * k + 70) → M' r j = M r j) : vR_img M' c k := by
  rcases h with ⟨h1, h2⟩ | ⟨h1, f, w, h2, h3, h4, h5⟩
  · exact Or.inl ⟨by rw [he 62 _ (by omega)]; exact h1, by rw [he c _ (by omega)]; exact h2⟩
  · exact Or.inr ⟨by rw [he 62 _ (by omega)]; exact h1, f, w, h2, h3, h4.of (fun r j g1 g2 => he r j (by omega)), h5.of (fun j _ => he 63 _ (by omega))⟩
theorem vh_there {f : Nat → Nat} (ho : vh_ok f) : 0 < f 0 ↔ 0 < f 2 := by
  have h1 := ho.2.2.2.2.2.1
  have h2 := ho.2.2.2.2.2.2.1
  refine ⟨fun h => ?_, fun h => (h1 h).2⟩
  by_cases q : f 2 = 0
  · have := (h2 q).1; omega
  · omega
theorem vh_M.cp {M M' : vm_M} {q q' o o' : Nat} {f : Nat → Nat} {w : Nat → Int32} (h : vh_M M q o f w) (he : ∀ j, j < 70 → M' q' (o' + j) = M q (o + j)) : vh_M M' q' o' f w := by
  refine ⟨fun j hj hn => ?_, fun x hx => ?_⟩
  · rw [he j hj]; exact h.1 j hj hn
  · rw [show o' + 9 + 4 * x = o' + (9 + 4 * x) by omega, he (9 + 4 * x) (by omega), show o + (9 + 4 * x) = o + 9 + 4 * x by omega]
    exact h.2 x hx
section VH
variable {X : Nat × (Nat → Int32)} {M : vm_M}
theorem s_become_21_7 {P : vm_M → Prop} (h : P (vm_bec 21 7 M)) : E_Hill_become_21_7 X M P := v_Hill_become_21_7 h
theorem s_become_28_7 {P : vm_M → Prop} (h : P (vm_bec 28 7 M)) : E_Hill_become_28_7 X M P := v_Hill_become_28_7 h
theorem s_become_7_21 {P : vm_M → Prop} (h : P (vm_bec 7 21 M)) : E_Hill_become_7_21 X M P := v_Hill_become_7_21 h
theorem s_become_7_28 {P : vm_M → Prop} (h : P (vm_bec 7 28 M)) : E_Hill_become_7_28 X M P := v_Hill_become_7_28 h
theorem s_become_7_14 {P : vm_M → Prop} (h : P (vm_bec 7 14 M)) : E_Hill_become_7_14 X M P := v_Hill_become_7_14 h
theorem s_M_image30 {P : Int32 → vm_M → Prop} {k : Nat} (hk : k < 2) (h : ∀ M', (∀ r j, ¬ (r = 63 ∧ 70 * k ≤ j ∧ j < 70 * k + 70) → ¬ (r = 62 ∧ j = k) → M' r j = M r j) → (∀ j, j < 70 → M' 63 (70 * k + j) = M 52 j) → M' 62 k = nI 1 → P (nI 1) M') : C_M_image_30 X (nI k) (nI 0) M P := by
  have loop : ∀ (n i : Nat) (M' : vm_M), i + n = 70 → (∀ r j, ¬ (r = 63 ∧ 70 * k ≤ j ∧ j < 70 * k + 70) → M' r j = M r j) → (∀ j, j < i → M' 63 (70 * k + j) = M 52 j) → C_M_image_30 X (nI k) (nI i) M' P := by
    intro n
    induction n with
    | zero =>
      intro i M' hi hM' hI
      have hi : i = 70 := by omega
      subst hi
      apply v_M_image_30
      rw [nI_ltI (by omega) (by omega), vm_ex hk (by omega)]
      refine ⟨fun q => absurd q (by omega), fun _ => h _ (fun r j h1 h2 => ?_) (fun j hj => ?_) vm_u2_eq⟩
      · rw [vm_u2_ne h2]; exact hM' r j h1
      · rw [vm_u2_ne (by omega)]; exact hI j hj
    | succ n ih =>
      intro i M' hi hM' hI
      apply v_M_image_30
      simp (disch := omega) only [nI_ltI, vm_mul, vm_add, vm_ex]
      refine ⟨fun _ => ih (i + 1) _ (by omega) (fun r j h1 => ?_) (fun j hj => ?_), fun q => absurd (by omega) q⟩
      · rw [vm_u2_ne (by omega)]; exact hM' r j h1
      · by_cases hji : j = i
        · subst hji; rw [vm_u2_eq, hM' 52 _ (by omega)]
        · rw [vm_u2_ne (by omega)]; exact hI j (by omega)
  exact loop 70 0 M (by omega) (fun _ _ _ => rfl) (fun j hj => absurd hj (by omega))
theorem s_M_restore32 {P : Int32 → vm_M → Prop} {k : Nat} (hk : k < 2) (h : ∀ M', (∀ r j, ¬ (r = 52 ∧ j < 70) → ¬ (r = 48 ∧ j = 8) → M' r j = M r j) → (∀ j, j < 70 → M' 52 j = M 63 (70 * k + j)) → M' 48 8 = nI 0 → P (nI 1) M') : C_M_restore_32 X (nI k) (nI 0) M P := by
  have loop : ∀ (n i : Nat) (M' : vm_M), i + n = 70 → (∀ r j, ¬ (r = 52 ∧ j < 70) → M' r j = M r j) → (∀ j, j < i → M' 52 j = M 63 (70 * k + j)) → C_M_restore_32 X (nI k) (nI i) M' P := by
    intro n
    induction n with
    | zero =>
      intro i M' hi hM' hI
      have hi : i = 70 := by omega
      subst hi
      apply v_M_restore_32
      rw [nI_ltI (by omega) (by omega)]
      refine ⟨fun q => absurd q (by omega), fun _ => h _ (fun r j h1 h2 => ?_) (fun j hj => ?_) vm_u2_eq⟩
      · rw [vm_u2_ne h2]; exact hM' r j h1
      · rw [vm_u2_ne (by omega)]; exact hI j hj
    | succ n ih =>
      intro i M' hi hM' hI
      apply v_M_restore_32
      simp (disch := omega) only [nI_ltI, vm_mul, vm_add, vm_ex]
      refine ⟨fun _ => ih (i + 1) _ (by omega) (fun r j h1 => ?_) (fun j hj => ?_), fun q => absurd (by omega) q⟩
      · rw [vm_u2_ne (by omega)]; exact hM' r j h1
      · by_cases hji : j = i
        · subst hji; rw [vm_u2_eq, hM' 63 _ (by omega)]
        · rw [vm_u2_ne (by omega)]; exact hI j (by omega)
  exact loop 70 0 M (by omega) (fun _ _ _ => rfl) (fun j hj => absurd hj (by omega))
theorem vm_2x {y : Int32} (hno : ∀ n, n < 2 → y ≠ nI n) : y < 0 ∨ nI 1 < y := by
  rcases vm_sw (T := 1) (by omega) hno with h | h
  · exact Or.inl (Int32.lt_iff_toInt_lt.mpr h)
  · refine Or.inr (Int32.lt_iff_toInt_lt.mpr ?_)
    rw [nI_toInt (by omega)]
    exact h
abbrev cSTATE : Int32 := Int32.ofInt (-1000002)
theorem op_image (hR : vR M) (y : Int32) : E_B_image X y M (fun v M1 => E_M_image X y M1 (fun v' M2 => v = v' ∧ vR M2)) := by
  obtain ⟨h1, h2, h3, ⟨f, w, hH, hA⟩, h6, h7, h8⟩ := id hR
  have hT := hH.1.1
  have hd := hH.1.2.2.1
  have e7 : M 7 0 = nI (f 2) := hH.2.1.1
  apply v_B_image
  rcases vm_one y (T := 2) (by omega) with ⟨k, hk, rfl⟩ | ⟨hno, hy⟩
  · have fin : ∀ c, c = 21 + 7 * k → (f 2 ≠ 0) → E_M_image X (nI k) (vm_bec c 7 M) (fun v' M2 => nI 1 = v' ∧ vR M2) := by
      intro c hc h0
      have hCc := vm_bec_C (c := c) (by omega) hH.2.1 hT
      generalize hMb : vm_bec c 7 M = Mb at hCc
      have hb : ∀ r j, r < c ∨ c + 6 < r → Mb r j = M r j := fun r j h => by rw [← hMb]; exact vm_bec_r h j
      have e0 : (vm_u2 Mb 48 0 (nI 0)) 52 0 = nI (f 0) := by rw [vm_u2_ne (by omega), hb 52 0 (by omega)]; exact hH.2.2.1 0 (by omega) (by omega)
      have hpos := (vh_there hH.1).mpr (by omega)
      apply v_M_image
      refine s_M_rng (T := 2) (by decide) (by decide) (by omega) (fun i hi e => ⟨fun q => absurd q (by decide), fun _ => ?_⟩) (fun h => absurd rfl (h k hk))
      rw [e0, vm_0n (by omega)]
      refine ⟨fun _ => ?_, fun q => absurd hpos q⟩
      refine s_M_image30 hk (fun M' a1 a2 a3 => ⟨rfl, ?_⟩)
      have a4 : ∀ r j, (r < c ∨ c + 6 < r) → ¬ (r = 63 ∧ 70 * k ≤ j ∧ j < 70 * k + 70) → ¬ (r = 62 ∧ j = k) → ¬ (r = 48 ∧ j = 0) → M' r j = M r j := by
        intro r j b1 b2 b3 b4
        rw [a1 r j b2 b3, vm_u2_ne b4, hb r j b1]
      have him : vR_img M' c k := by
        refine Or.inr ⟨a3, f, w, by omega, hH.1, hCc.of (fun r j b1 b2 => ?_), hH.2.2.cp (fun j hj => ?_)⟩
        · rw [a1 r j (by omega) (by omega), vm_u2_ne (by omega)]
        · rw [a2 j hj, vm_u2_ne (by omega), hb 52 _ (by omega), Nat.zero_add]
      refine ⟨h1.of (fun r j g => a4 r j (by omega) (by omega) (by omega) (by omega)), ?_, h3.of (fun r j g => a4 r j (by omega) (by omega) (by omega) (by omega)), ⟨f, w, hH.of (fun r j g => a4 r j (by omega) (by omega) (by omega) (by omega)), hA.of (fun r j g => a4 r j (by omega) (by omega) (by omega) (by omega))⟩, ?_, ?_, h8.of (fun r j g => a4 r j (by omega) (by omega) (by omega) (by omega))⟩
      · rw [a4 48 1 (by omega) (by omega) (by omega) (by omega), a4 0 9 (by omega) (by omega) (by omega) (by omega)]; exact h2
      · by_cases hk0 : k = 0
        · subst hk0; subst hc; exact him
        · exact h6.of2 (fun r j g => a4 r j (by omega) (by omega) (by omega) (by omega))
      · by_cases hk0 : k = 1
        · subst hk0; subst hc; exact him
        · exact h7.of2 (fun r j g => a4 r j (by omega) (by omega) (by omega) (by omega))
    simp (disch := omega) only [vm_nneg, nI_ltI, vm_fa, vm_tr, not_true, not_false_eq_true, true_and, and_true]
    refine ⟨fun q => absurd q (by omega), fun _ => ?_⟩
    rw [e7]
    simp (disch := omega) only [vm_n0]
    refine ⟨fun h0 => ?_, fun h0 => ⟨fun hk0 => ?_, fun hk0 => ?_⟩⟩
    · have e0 : (vm_u2 M 48 0 (nI 0)) 52 0 = nI (f 0) := by rw [vm_u2_ne (by omega)]; exact hH.2.2.1 0 (by omega) (by omega)
      have hpos := vh_there hH.1
      apply v_M_image
      refine s_M_rng (T := 2) (by decide) (by decide) (by omega) (fun i hi e => ⟨fun q => absurd q (by decide), fun _ => ?_⟩) (fun h => absurd rfl (h k hk))
      rw [e0, vm_0n (by omega)]
      exact ⟨fun q => absurd q (by omega), fun _ => ⟨rfl, hR.thrown⟩⟩
    · exact s_become_21_7 (fin 21 (by omega) h0)
    · exact s_become_28_7 (fin 28 (by omega) h0)
  · have hb : E_M_image X y M (fun v' M2 => cBAD = v' ∧ vR M2) := by
      apply v_M_image
      exact s_M_rng (T := 2) (by decide) (by decide) (by omega) (fun k hk e => absurd e (hno k hk)) (fun _ => ⟨fun _ => ⟨rfl, hR.thrown⟩, fun q => absurd rfl q⟩)
    rcases vm_2x hno with h | h
    · exact ⟨fun _ => hb, fun q => absurd h q⟩
    · exact ⟨fun _ => hb, fun _ => ⟨fun _ => hb, fun q => absurd h q⟩⟩
theorem op_restore (hR : vR M) (y : Int32) : E_B_restore X y M (fun v M1 => E_M_restore X y M1 (fun v' M2 => v = v' ∧ vR M2)) := by
  obtain ⟨h1, h2, h3, ⟨f0, w0, hH, hA⟩, h6, h7, h8⟩ := id hR
  obtain ⟨n, q, F, W, hn, hq, e1, e2, e8, hF, hW, hall⟩ := hA
  apply v_B_restore
  rcases vm_one y (T := 2) (by omega) with ⟨k, hk, rfl⟩ | ⟨hno, hy⟩
  · have hno : M 62 k = nI 0 → E_M_restore X (nI k) M (fun v' M2 => cSTATE = v' ∧ vR M2) := by
      intro h62
      apply v_M_restore
      refine s_M_rng (T := 2) (by decide) (by decide) (by omega) (fun i hi e => ⟨fun q => absurd q (by decide), fun _ => ?_⟩) (fun h => absurd rfl (h k hk))
      rw [vm_ex hk (by omega), vm_u2_ne (by omega), h62]
      exact ⟨fun _ => ⟨rfl, hR.thrown⟩, fun q => absurd rfl q⟩
    have fin : ∀ c, c = 21 + 7 * k → M 62 k = nI 1 → ∀ f w, 0 < f 2 → vh_ok f → vh_C M c f w → vh_M M 63 (70 * k) f w → E_M_restore X (nI k) (vm_u2 (vm_bec 7 c M) 35 1 (nI 0)) (fun v' M2 => nI 1 = v' ∧ vR M2) := by
      intro c hc h62 f w hpos hok hCi hMi
      have hC7 := vm_bec_C (c := 7) (by omega) hCi hok.1
      generalize hMb : vm_bec 7 c M = Mb at hC7
      have hb : ∀ r j, r < 7 ∨ 13 < r → Mb r j = M r j := fun r j h => by rw [← hMb]; exact vm_bec_r (by omega) j
      have e0 : (vm_u2 (vm_u2 Mb 35 1 (nI 0)) 48 0 (nI 0)) 62 k = nI 1 := by rw [vm_u2_ne (by omega), vm_u2_ne (by omega), hb 62 k (by omega)]; exact h62
      apply v_M_restore
      refine s_M_rng (T := 2) (by decide) (by decide) (by omega) (fun i hi e => ⟨fun q => absurd q (by decide), fun _ => ?_⟩) (fun h => absurd rfl (h k hk))
      rw [vm_ex hk (by omega), e0]
      refine ⟨fun q => absurd q (by decide), fun _ => ?_⟩
      refine s_M_restore32 hk (fun M' a1 a2 a3 => ⟨rfl, ?_⟩)
      have a4 : ∀ r j, (r < 7 ∨ 13 < r) → ¬ (r = 52 ∧ j < 70) → ¬ (r = 48 ∧ (j = 0 ∨ j = 8)) → ¬ (r = 35 ∧ j = 1) → M' r j = M r j := by
        intro r j b1 b2 b3 b4
        rw [a1 r j b2 (by omega), vm_u2_ne (by omega), vm_u2_ne b4, hb r j b1]
      refine ⟨h1.of (fun r j g => a4 r j (by omega) (by omega) (by omega) (by omega)), ?_, h3.of (fun r j g => a4 r j (by omega) (by omega) (by omega) (by omega)), ⟨f, w, ⟨hok, hC7.of (fun r j b1 b2 => ?_), hMi.cp (fun j hj => ?_)⟩, ⟨0, q, fun _ => f, fun _ => w, by omega, hq, ?_, ?_, a3, rfl, rfl, fun i hi => absurd hi (by omega)⟩⟩, h6.of (fun r j g => a4 r j (by omega) (by omega) (by omega) (by omega)), h7.of (fun r j g => a4 r j (by omega) (by omega) (by omega) (by omega)), h8.of (fun r j g => a4 r j (by omega) (by omega) (by omega) (by omega))⟩
      · rw [a4 48 1 (by omega) (by omega) (by omega) (by omega), a4 0 9 (by omega) (by omega) (by omega) (by omega)]; exact h2
      · rw [a1 r j (by omega) (by omega), vm_u2_ne (by omega), vm_u2_ne (by omega)]
      · rw [Nat.zero_add, a2 j hj, vm_u2_ne (by omega), vm_u2_ne (by omega), hb 63 _ (by omega)]
      · rw [a1 35 1 (by omega) (by omega), vm_u2_ne (by omega), vm_u2_eq]
      · rw [a4 35 2 (by omega) (by omega) (by omega) (by omega)]; exact e2
    simp (disch := omega) only [vm_nneg, nI_ltI, vm_n0, vm_fa, vm_tr, not_true, not_false_eq_true, true_and, and_true]
    refine ⟨fun q => absurd q (by omega), fun _ => ⟨fun hk0 => ?_, fun hk0 => ?_⟩⟩
    · subst hk0
      rcases h6 with ⟨g1, g2⟩ | ⟨g1, f, w, g2, g3, g4, g5⟩
      · exact ⟨fun _ => hno g1, fun q => absurd g2 q⟩
      · have e0 : M 21 0 = nI (f 2) := g4.1
        have := g3.1
        rw [e0, vm_n0 (by omega)]
        exact ⟨fun q => absurd q (by omega), fun _ => ⟨fun _ => s_become_7_21 (fin 21 rfl g1 f w g2 g3 g4 g5), fun q => absurd rfl q⟩⟩
    · have hk1 : k = 1 := by omega
      subst hk1
      rcases h7 with ⟨g1, g2⟩ | ⟨g1, f, w, g2, g3, g4, g5⟩
      · exact ⟨fun _ => hno g1, fun q => absurd g2 q⟩
      · have e0 : M 28 0 = nI (f 2) := g4.1
        have := g3.1
        rw [e0, vm_n0 (by omega)]
        exact ⟨fun q => absurd q (by omega), fun _ => ⟨fun q => absurd q (by omega), fun _ => s_become_7_28 (fin 28 rfl g1 f w g2 g3 g4 g5)⟩⟩
  · have hb : E_M_restore X y M (fun v' M2 => cBAD = v' ∧ vR M2) := by
      apply v_M_restore
      exact s_M_rng (T := 2) (by decide) (by decide) (by omega) (fun k hk e => absurd e (hno k hk)) (fun _ => ⟨fun _ => ⟨rfl, hR.thrown⟩, fun q => absurd rfl q⟩)
    rcases vm_2x hno with h | h
    · exact ⟨fun _ => hb, fun q => absurd h q⟩
    · exact ⟨fun _ => hb, fun _ => ⟨fun _ => hb, fun q => absurd h q⟩⟩
end VH
