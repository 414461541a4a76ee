/-! asks -/
def vA (c jc t : Nat) (M M0 : vm_M) (l : List Nat) : Prop := M c jc = nI l.length ∧ (∀ i, i < l.length → M t i = nI (l.getD i 0)) ∧ ∀ r j, r ≠ t → ¬ (r = c ∧ j = jc) → M r j = M0 r j
theorem vA.push {c jc t : Nat} {M M0 : vm_M} {l : List Nat} (hct : c ≠ t) (h : vA c jc t M M0 l) (a : Nat) : vA c jc t (vm_u2 (vm_u2 M t l.length (nI a)) c jc ((vm_u2 M t l.length (nI a)) c jc + nI 1)) M0 (l ++ [a]) := by
  obtain ⟨h1, h2, h3⟩ := h
  refine ⟨?_, fun i hi => ?_, fun r j hr hj => ?_⟩
  · rw [vm_u2_eq, vm_u2_r hct, h1, vm_add, List.length_append]; rfl
  · rw [vm_u2_r (by omega)]
    rw [List.length_append] at hi
    simp only [List.length_cons, List.length_nil] at hi
    by_cases hil : i = l.length
    · subst hil
      rw [vm_u2_eq]
      simp [List.getD_eq_getElem?_getD]
    · rw [vm_u2_ne (by omega), h2 i (by omega), List.getD_eq_getElem?_getD, List.getD_eq_getElem?_getD, List.getElem?_append_left (by omega)]
  · rw [vm_u2_ne hj, vm_u2_r hr]; exact h3 r j hr hj
section VH
variable {X : Nat × (Nat → Int32)} {M M0 : vm_M} {l : List Nat}
theorem s_enter {P : vm_M → Prop} {a : Nat} (hA : vA 46 2 47 M M0 l) (hl : l.length < 16) (h : ∀ M', vA 46 2 47 M' M0 (l ++ [a]) → P M') : E_Asks_enter X (nI a) M P := by
  apply v_Asks_enter
  have := hA.push (by omega) a
  rw [hA.1, nI_ltI (by omega) (by omega), vm_ex hl (by omega)]
  exact ⟨fun _ => h _ this, fun q => absurd hl q⟩
theorem s_began {P : vm_M → Prop} {a : Nat} (hA : vA 48 29 64 M M0 l) (hl : l.length < 16) (h : ∀ M', vA 48 29 64 M' M0 (l ++ [a]) → P M') : E_M_began X (nI a) M P := by
  apply v_M_began
  have := hA.push (by omega) a
  rw [hA.1, nI_ltI (by omega) (by omega), vm_ex hl (by omega)]
  exact ⟨fun _ => h _ this, fun q => absurd hl q⟩
def vk_ps (q g : Nat) : Int32 := if q = 5 then nI 2 * (nI g - nI 100) else nI g - nI 100
def vk_psl (q : Nat) : List Nat := if q = 5 then [14, 13, 10] else [13, 10]
def vk_mk (q x g : Nat) (w : Int32) : Int32 := if 4 ≤ q then nI x - vk_ps q g else if q = 2 then nI 2 * (nI x + w) else if q = 3 then nI x + w - nI 1000 else nI x + w
def vk_mkl (q : Nat) : List Nat := if 4 ≤ q then [23, 20] ++ vk_psl q else if q = 2 then [24, 21, 20] else if q = 3 then [22, 21, 20] else [21, 20]
def vk_sz (q x g : Nat) (w : Int32) : Int32 := if 4 ≤ q then vk_ps q g else if q = 2 then nI 0 - (nI g + vk_mk q x g w) else nI g + vk_mk q x g w
def vk_szl (q : Nat) : List Nat := if 4 ≤ q then vk_psl q else if q = 2 then [12, 11, 10] ++ vk_mkl q else [11, 10] ++ vk_mkl q
theorem s_priestSize {P : Int32 → vm_M → Prop} {q x g : Nat} (hA : vA 46 2 47 M M0 l) (hl : l.length < 6) (hx : x < 6) (hq : q ≤ 5) (e8 : M0 8 x = nI q) (e9 : M0 9 x = nI g) (h : ∀ M', vA 46 2 47 M' M0 (l ++ vk_psl q) → P (vk_ps q g) M') : E_Asks_priestSize X (nI x) M P := by
  have o : ∀ {M1 : vm_M} {l1 : List Nat}, vA 46 2 47 M1 M0 l1 → ∀ r j, r < 46 → M1 r j = M0 r j := fun hA1 r j hr => hA1.2.2 r j (by omega) (by omega)
  apply v_Asks_priestSize
  rw [vm_ex hx (by omega), o hA 8 _ (by omega), e8, nI_eq (by omega) (by omega)]
  unfold vk_psl vk_ps at h
  refine ⟨fun h5 => ?_, fun h5 => ?_⟩
  · simp only [if_pos h5] at h
    refine s_enter hA (by omega) (fun M1 A1 => s_enter A1 (by simp; omega) (fun M2 A2 => s_enter A2 (by simp; omega) (fun M3 A3 => ?_)))
    rw [vm_ex hx (by omega), o A3 9 _ (by omega), e9]
    exact h M3 (by simpa using A3)
  · simp only [if_neg h5] at h
    refine s_enter hA (by omega) (fun M1 A1 => s_enter A1 (by simp; omega) (fun M2 A2 => ?_))
    rw [vm_ex hx (by omega), o A2 9 _ (by omega), e9]
    exact h M2 (by simpa using A2)
theorem s_bakerMark {P : Int32 → vm_M → Prop} {q x g : Nat} {w : Int32} (hA : vA 46 2 47 M M0 l) (hl : l.length < 6) (hx : x < 6) (hq : q < 4) (e8 : M0 8 x = nI q) (e11 : M0 11 x = w) (h : ∀ M', vA 46 2 47 M' M0 (l ++ vk_mkl q) → P (vk_mk q x g w) M') : E_Asks_bakerMark X (nI x) M P := by
  have o : ∀ {M1 : vm_M} {l1 : List Nat}, vA 46 2 47 M1 M0 l1 → ∀ r j, r < 46 → M1 r j = M0 r j := fun hA1 r j hr => hA1.2.2 r j (by omega) (by omega)
  apply v_Asks_bakerMark
  simp (disch := omega) only [vm_ex, o hA 8, e8, nI_eq]
  unfold vk_mkl vk_mk at h
  have hn4 : ¬ 4 ≤ q := by omega
  simp only [if_neg hn4] at h
  refine ⟨fun h5 => ⟨fun h6 => absurd h6 (by omega), fun h6 => ?_⟩, fun h5 => ⟨fun h6 => ?_, fun h6 => ?_⟩⟩
  · simp only [if_pos h5] at h
    refine s_enter hA (by omega) (fun M1 A1 => s_enter A1 (by simp; omega) (fun M2 A2 => s_enter A2 (by simp; omega) (fun M3 A3 => ?_)))
    rw [o A3 11 _ (by omega), e11]
    exact h M3 (by simpa using A3)
  · simp only [if_neg h5, if_pos h6] at h
    refine s_enter hA (by omega) (fun M1 A1 => s_enter A1 (by simp; omega) (fun M2 A2 => s_enter A2 (by simp; omega) (fun M3 A3 => ?_)))
    rw [o A3 11 _ (by omega), e11]
    exact h M3 (by simpa using A3)
  · simp only [if_neg h5, if_neg h6] at h
    refine s_enter hA (by omega) (fun M1 A1 => s_enter A1 (by simp; omega) (fun M2 A2 => ?_))
    rw [o A2 11 _ (by omega), e11]
    exact h M2 (by simpa using A2)
theorem s_mark {P : Int32 → vm_M → Prop} {q x g : Nat} {w : Int32} (hA : vA 46 2 47 M M0 []) (hx : x < 6) (hq1 : 1 ≤ q) (hq : q ≤ 5) (e8 : M0 8 x = nI q) (e9 : M0 9 x = nI g) (e11 : M0 11 x = w) (h : ∀ M', vA 46 2 47 M' M0 (vk_mkl q) → P (vk_mk q x g w) M') : E_Asks_mark X (nI x) M P := by
  have o : ∀ {M1 : vm_M} {l1 : List Nat}, vA 46 2 47 M1 M0 l1 → ∀ r j, r < 46 → M1 r j = M0 r j := fun hA1 r j hr => hA1.2.2 r j (by omega) (by omega)
  apply v_Asks_mark
  rw [vm_ex hx (by omega), o hA 8 _ (by omega), e8]
  refine s_isOne hq1 hq (by omega) ?_
  by_cases h4 : 4 ≤ q
  · rw [if_neg (by unfold vm_isOne; simp; omega)]
    refine ⟨fun _ => ?_, fun q => absurd rfl q⟩
    apply v_Asks_priestMark
    refine s_enter hA (by simp) (fun M1 A1 => s_enter A1 (by simp) (fun M2 A2 => s_priestSize A2 (by simp) hx hq e8 e9 (fun M3 A3 => ?_)))
    unfold vk_mkl vk_mk at h
    simp only [if_pos h4] at h
    exact h M3 (by simpa using A3)
  · rw [if_pos (by unfold vm_isOne; simp; omega)]
    refine ⟨fun q => absurd q (by decide), fun _ => ?_⟩
    exact s_bakerMark (g := g) hA (by simp) hx (by omega) e8 e11 (fun M3 A3 => h M3 (by simpa using A3))
theorem s_size {P : Int32 → vm_M → Prop} {q x g : Nat} {w : Int32} (hA : vA 46 2 47 M M0 []) (hx : x < 6) (hq1 : 1 ≤ q) (hq : q ≤ 5) (e8 : M0 8 x = nI q) (e9 : M0 9 x = nI g) (e11 : M0 11 x = w) (h : ∀ M', vA 46 2 47 M' M0 (vk_szl q) → P (vk_sz q x g w) M') : E_Asks_size X (nI x) M P := by
  have o : ∀ {M1 : vm_M} {l1 : List Nat}, vA 46 2 47 M1 M0 l1 → ∀ r j, r < 46 → M1 r j = M0 r j := fun hA1 r j hr => hA1.2.2 r j (by omega) (by omega)
  apply v_Asks_size
  rw [vm_ex hx (by omega), o hA 8 _ (by omega), e8]
  refine s_isOne hq1 hq (by omega) ?_
  unfold vk_szl vk_sz at h
  by_cases h4 : 4 ≤ q
  · rw [if_neg (by unfold vm_isOne; simp; omega)]
    refine ⟨fun _ => ?_, fun q => absurd rfl q⟩
    simp only [if_pos h4] at h
    exact s_priestSize hA (by simp) hx hq e8 e9 (fun M3 A3 => h M3 (by simpa using A3))
  · rw [if_pos (by unfold vm_isOne; simp; omega)]
    refine ⟨fun q => absurd q (by decide), fun _ => ?_⟩
    simp only [if_neg h4] at h
    apply v_Asks_bakerSize
    rw [vm_ex hx (by omega), o hA 8 _ (by omega), e8, nI_eq (by omega) (by omega)]
    refine ⟨fun h2 => ?_, fun h2 => ?_⟩
    · simp only [if_pos h2] at h
      refine s_enter hA (by simp) (fun M1 A1 => s_enter A1 (by simp) (fun M2 A2 => s_enter A2 (by simp) (fun M3 A3 => ?_)))
      rw [vm_ex hx (by omega), o A3 9 _ (by omega), e9]
      exact s_bakerMark (g := g) A3 (by simp) hx (by omega) e8 e11 (fun M4 A4 => h M4 (by simpa using A4))
    · simp only [if_neg h2] at h
      refine s_enter hA (by simp) (fun M1 A1 => s_enter A1 (by simp) (fun M2 A2 => ?_))
      rw [vm_ex hx (by omega), o A2 9 _ (by omega), e9]
      exact s_bakerMark (g := g) A2 (by simp) hx (by omega) e8 e11 (fun M4 A4 => h M4 (by simpa using A4))
theorem s_M_plainSize {P : Int32 → vm_M → Prop} {x g : Nat} (hA : vA 48 29 64 M M0 l) (hl : l.length < 16) (hx : x < 6) (e9 : M0 52 (7 + 4 * x) = nI g) (h : ∀ M', vA 48 29 64 M' M0 (l ++ [10]) → P (nI g) M') : E_M_plainSize X (nI x) M P := by
  apply v_M_plainSize
  refine s_began hA hl (fun M1 A1 => ?_)
  simp (disch := omega) only [vm_mul, vm_add, vm_ex]
  rw [show 6 + 4 * x + 1 = 7 + 4 * x by omega, A1.2.2 52 _ (by omega) (by omega), e9]
  exact h M1 A1
theorem s_M_priestSize {P : Int32 → vm_M → Prop} {q x g : Nat} (hA : vA 48 29 64 M M0 l) (hl : l.length < 6) (hx : x < 6) (hq : q ≤ 5) (e8 : M0 52 (6 + 4 * x) = nI q) (e9 : M0 52 (7 + 4 * x) = nI g) (h : ∀ M', vA 48 29 64 M' M0 (l ++ vk_psl q) → P (vk_ps q g) M') : E_M_priestSize X (nI x) M P := by
  have o : ∀ {M1 : vm_M} {l1 : List Nat}, vA 48 29 64 M1 M0 l1 → ∀ j, M1 52 j = M0 52 j := fun hA1 j => hA1.2.2 52 j (by omega) (by omega)
  apply v_M_priestSize
  simp (disch := omega) only [vm_mul, vm_add, vm_ex, Nat.add_zero]
  rw [o hA, e8, nI_eq (by omega) (by omega)]
  unfold vk_psl vk_ps at h
  refine ⟨fun h5 => ?_, fun h5 => ?_⟩
  · simp only [if_pos h5] at h
    refine s_began hA (by omega) (fun M1 A1 => s_began A1 (by simp; omega) (fun M2 A2 => s_M_plainSize A2 (by simp; omega) hx e9 (fun M3 A3 => ?_)))
    rw [o A3, e8]
    exact ⟨fun _ => h M3 (by simpa using A3), fun q => absurd (by rw [h5]) q⟩
  · simp only [if_neg h5] at h
    refine s_began hA (by omega) (fun M2 A2 => s_M_plainSize A2 (by simp; omega) hx e9 (fun M3 A3 => ?_))
    rw [o A3, e8]
    exact ⟨fun q => absurd ((nI_eq (by omega) (by omega)).mp q) h5, fun _ => h M3 (by simpa using A3)⟩
theorem s_M_mark {P : Int32 → vm_M → Prop} {q x g : Nat} {w : Int32} (hA : vA 48 29 64 M M0 l) (hl : l.length < 4) (hx : x < 6) (hq1 : 1 ≤ q) (hq : q ≤ 5) (e8 : M0 52 (6 + 4 * x) = nI q) (e9 : M0 52 (7 + 4 * x) = nI g) (e11 : M0 52 (9 + 4 * x) = w) (h : ∀ M', vA 48 29 64 M' M0 (l ++ vk_mkl q) → P (vk_mk q x g w) M') : E_M_markOf X (nI x) M P := by
  have o : ∀ {M1 : vm_M} {l1 : List Nat}, vA 48 29 64 M1 M0 l1 → ∀ j, M1 52 j = M0 52 j := fun hA1 j => hA1.2.2 52 j (by omega) (by omega)
  apply v_M_markOf
  simp (disch := omega) only [vm_mul, vm_add, vm_ex, Nat.add_zero]
  rw [o hA, e8]
  simp (disch := omega) only [nI_eq, nI_ltI]
  unfold vk_mkl vk_mk at h
  refine ⟨fun h4 => ⟨fun h1 => ?_, fun h1 => ⟨fun h3 => ?_, fun h3 => ?_⟩⟩, fun h4 => ?_⟩
  · simp only [if_neg (show ¬ 4 ≤ q by omega), if_neg (show ¬ q = 2 by omega), if_neg (show ¬ q = 3 by omega)] at h
    refine s_began hA (by omega) (fun M1 A1 => s_began A1 (by simp; omega) (fun M2 A2 => ?_))
    rw [show 6 + 4 * x + 3 = 9 + 4 * x by omega, o A2, e11]
    exact ⟨fun _ => h M2 (by simpa using A2), fun q => absurd h1 q⟩
  · simp only [if_neg (show ¬ 4 ≤ q by omega), if_neg (show ¬ q = 2 by omega), if_pos h3] at h
    refine s_began hA (by omega) (fun M1 A1 => s_began A1 (by simp; omega) (fun M2 A2 => s_began A2 (by simp; omega) (fun M3 A3 => ?_)))
    rw [show 6 + 4 * x + 3 = 9 + 4 * x by omega, o A3, e11]
    exact ⟨fun q => absurd q h1, fun _ => ⟨fun _ => h M3 (by simpa using A3), fun q => absurd h3 q⟩⟩
  · simp only [if_neg (show ¬ 4 ≤ q by omega), if_pos (show q = 2 by omega)] at h
    refine s_began hA (by omega) (fun M1 A1 => s_began A1 (by simp; omega) (fun M2 A2 => s_began A2 (by simp; omega) (fun M3 A3 => ?_)))
    rw [show 6 + 4 * x + 3 = 9 + 4 * x by omega, o A3, e11]
    exact ⟨fun q => absurd q h1, fun _ => ⟨fun q => absurd q h3, fun _ => h M3 (by simpa using A3)⟩⟩
  · simp only [if_pos (show 4 ≤ q by omega)] at h
    refine s_began hA (by omega) (fun M1 A1 => s_began A1 (by simp; omega) (fun M2 A2 => s_M_priestSize A2 (by simp; omega) hx hq e8 e9 (fun M3 A3 => ?_)))
    exact h M3 (by simpa using A3)
theorem s_M_size {P : Int32 → vm_M → Prop} {q x g : Nat} {w : Int32} (hA : vA 48 29 64 M M0 []) (hx : x < 6) (hq1 : 1 ≤ q) (hq : q ≤ 5) (e8 : M0 52 (6 + 4 * x) = nI q) (e9 : M0 52 (7 + 4 * x) = nI g) (e11 : M0 52 (9 + 4 * x) = w) (h : ∀ M', vA 48 29 64 M' M0 (vk_szl q) → P (vk_sz q x g w) M') : E_M_sizeOf X (nI x) M P := by
  have o : ∀ {M1 : vm_M} {l1 : List Nat}, vA 48 29 64 M1 M0 l1 → ∀ j, M1 52 j = M0 52 j := fun hA1 j => hA1.2.2 52 j (by omega) (by omega)
  apply v_M_sizeOf
  simp (disch := omega) only [vm_mul, vm_add, vm_ex, Nat.add_zero]
  rw [o hA, e8]
  simp (disch := omega) only [nI_eq, nI_ltI]
  unfold vk_szl vk_sz at h
  refine ⟨fun h4 => ⟨fun h2 => ?_, fun h2 => ?_⟩, fun h4 => ?_⟩
  · simp only [if_neg (show ¬ 4 ≤ q by omega), if_pos h2] at h
    refine s_began hA (by simp) (fun M1 A1 => s_began A1 (by simp) (fun M2 A2 => s_M_plainSize A2 (by simp) hx e9 (fun M3 A3 => s_M_mark A3 (by simp) hx hq1 hq e8 e9 e11 (fun M4 A4 => ?_))))
    refine ⟨fun _ => ?_, fun q => absurd h2 q⟩
    rw [show ∀ v : Int32, -v = nI 0 - v from fun v => (Int32.zero_sub v).symm]
    exact h M4 (by simpa using A4)
  · simp only [if_neg (show ¬ 4 ≤ q by omega), if_neg h2] at h
    refine s_began hA (by simp) (fun M1 A1 => s_M_plainSize A1 (by simp) hx e9 (fun M3 A3 => s_M_mark A3 (by simp) hx hq1 hq e8 e9 e11 (fun M4 A4 => ?_)))
    exact ⟨fun q => absurd q h2, fun _ => h M4 (by simpa using A4)⟩
  · simp only [if_pos (show 4 ≤ q by omega)] at h
    exact s_M_priestSize hA (by simp) hx hq e8 e9 (fun M3 A3 => h M3 (by simpa using A3))
theorem op_ask (hR : vR M) (x y : Int32) : E_B_ask X x y M (fun v M1 => E_M_ask X x y M1 (fun v' M2 => v = v' ∧ vR M2)) := by
  obtain ⟨f, w, hH, hA, hT, e7, e52⟩ := hR.traders
  have e52' : (vm_u2 M 48 0 (nI 0)) 52 2 = nI (f 2) := e52
  apply v_B_ask
  rw [e7]
  rcases vm_one x (T := f 2) (by omega) with ⟨n, hn, rfl⟩ | ⟨hno, hx⟩
  · have hk := hH.2.1.2.2.2.2.2.2.1 n hn
    have ho := hH.1.2.2.2.2.2.2.2.1 n hn
    simp (disch := omega) only [vm_nneg, nI_ltI, hn, vm_fa, vm_tr, not_true, not_false_eq_true, true_and, and_true]
    rcases vm_one y (T := 2) (by omega) with ⟨m, hm, rfl⟩ | ⟨hno, hy⟩
    · simp (disch := omega) only [vm_nneg, nI_ltI, vm_n0, vm_fa, vm_tr, not_true, not_false_eq_true, true_and, and_true]
      refine ⟨fun q => absurd q (by omega), fun _ => ?_⟩
      generalize hM0 : vm_u2 M 46 2 (nI 0) = M0
      have o0 : ∀ r j, ¬ (r = 46 ∧ j = 2) → M0 r j = M r j := fun r j h => by rw [← hM0, vm_u2_ne h]
      have A0 : vA 46 2 47 M0 M0 [] := ⟨by rw [← hM0, vm_u2_eq]; rfl, fun i hi => absurd hi (by simp), fun _ _ _ _ => rfl⟩
      have e8 : M0 8 n = nI (f (6 + 4 * n)) := (o0 8 n (by omega)).trans hk.1
      have e9 : M0 9 n = nI (f (7 + 4 * n)) := (o0 9 n (by omega)).trans hk.2.1
      have e11 : M0 11 n = w n := (o0 11 n (by omega)).trans hk.2.2.2
      have fin : ∀ (M1 : vm_M) (L : List Nat) (v : Int32), L.length ≤ 16 → vA 46 2 47 M1 M0 L → (m = 0 → L = vk_szl (f (6 + 4 * n)) ∧ v = vk_sz (f (6 + 4 * n)) n (f (7 + 4 * n)) (w n)) → (¬ m = 0 → L = vk_mkl (f (6 + 4 * n)) ∧ v = vk_mk (f (6 + 4 * n)) n (f (7 + 4 * n)) (w n)) → E_M_ask X (nI n) (nI m) M1 (fun v' M2 => v = v' ∧ vR M2) := by
        intro M1 L v hL A1 hz0 hz1
        have o1 : ∀ r j, r ≠ 47 → ¬ (r = 46 ∧ j = 2) → M1 r j = M r j := fun r j h1 h2 => (A1.2.2 r j h1 h2).trans (o0 r j h2)
        have e53 : (vm_u2 M1 48 0 (nI 0)) 52 2 = nI (f 2) := by rw [vm_u2_ne (by omega), o1 52 2 (by omega) (by omega)]; exact e52
        apply v_M_ask
        refine s_M_isTrader hT e53 (fun k hk e => ⟨fun q => absurd q (by decide), fun _ => ?_⟩) (fun h => absurd rfl (h n hn))
        refine s_M_rng (T := 2) (by decide) (by decide) (by omega) (fun k hk e => ⟨fun q => absurd q (by decide), fun _ => ?_⟩) (fun h => absurd rfl (h m hm))
        rw [vm_n0 (by omega)]
        generalize hM2 : vm_u2 (vm_u2 M1 48 0 (nI 0)) 48 29 (nI 0) = Mx
        have o2 : ∀ r j, ¬ (r = 48 ∧ (j = 0 ∨ j = 29)) → Mx r j = M1 r j := fun r j h => by rw [← hM2, vm_u2_ne (by omega), vm_u2_ne (by omega)]
        have B0 : vA 48 29 64 Mx Mx [] := ⟨by rw [← hM2, vm_u2_eq]; rfl, fun i hi => absurd hi (by simp), fun _ _ _ _ => rfl⟩
        have c8 : Mx 52 (6 + 4 * n) = nI (f (6 + 4 * n)) := by
          rw [o2 52 _ (by omega), o1 52 _ (by omega) (by omega)]
          have := hH.2.2.1 (6 + 4 * n) (by omega) (by omega)
          rwa [Nat.zero_add] at this
        have c9 : Mx 52 (7 + 4 * n) = nI (f (7 + 4 * n)) := by
          rw [o2 52 _ (by omega), o1 52 _ (by omega) (by omega)]
          have := hH.2.2.1 (7 + 4 * n) (by omega) (by omega)
          rwa [Nat.zero_add] at this
        have c11 : Mx 52 (9 + 4 * n) = w n := by
          rw [o2 52 _ (by omega), o1 52 _ (by omega) (by omega)]
          have := hH.2.2.2 n (by omega)
          rwa [Nat.zero_add] at this
        have done : ∀ M3, vA 48 29 64 M3 Mx L → vR M3 := by
          intro M3 B3
          have o3 : ∀ r j, vm_dead r j = false → r ≠ 64 → r ≠ 47 → ¬ (r = 46 ∧ j = 2) → ¬ (r = 48 ∧ j = 29) → M3 r j = M r j := by
            intro r j hd g1 g2 g3 g4
            have h48 := vm_dead_ne hd
            rw [B3.2.2 r j g1 g4, o2 r j (by omega), o1 r j g2 g3]
          obtain ⟨h1, h2, h3, ⟨f, w, h4, h5⟩, h6, h7, h8⟩ := hR
          refine ⟨h1.of (fun r j g => o3 r j (vm_live (by omega)) (by omega) (by omega) (by omega) (by omega)), ?_, h3.of (fun r j g => o3 r j (vm_live (by omega)) (by omega) (by omega) (by omega) (by omega)), ⟨f, w, h4.of (fun r j g => o3 r j (vm_live (by omega)) (by omega) (by omega) (by omega) (by omega)), h5.of (fun r j g => o3 r j (vm_live (by omega)) (by omega) (by omega) (by omega) (by omega))⟩, h6.of (fun r j g => o3 r j (vm_live (by omega)) (by omega) (by omega) (by omega) (by omega)), h7.of (fun r j g => o3 r j (vm_live (by omega)) (by omega) (by omega) (by omega) (by omega)), ⟨L.length, hL, ?_, B3.1, fun i hi => ?_⟩⟩
          · rw [o3 48 1 (vm_live (by omega)) (by omega) (by omega) (by omega) (by omega), o3 0 9 (vm_live (by omega)) (by omega) (by omega) (by omega) (by omega)]; exact h2
          · rw [B3.2.2 46 2 (by omega) (by omega), o2 46 2 (by omega)]; exact A1.1
          · rw [B3.2.1 i hi, B3.2.2 47 i (by omega) (by omega), o2 47 i (by omega)]; exact A1.2.1 i hi
        refine ⟨fun hm0 => ?_, fun hm0 => ?_⟩
        · obtain ⟨rfl, rfl⟩ := hz0 hm0
          exact s_M_size B0 (by omega) ho.1 ho.2.1 c8 c9 c11 (fun M3 A3 => ⟨rfl, done M3 A3⟩)
        · obtain ⟨rfl, rfl⟩ := hz1 hm0
          exact s_M_mark B0 (by simp) (by omega) ho.1 ho.2.1 c8 c9 c11 (fun M3 A3 => ⟨rfl, done M3 (by simpa using A3)⟩)
      have hpl : (vk_psl (f (6 + 4 * n))).length ≤ 3 := by unfold vk_psl; split <;> simp
      have hml : (vk_mkl (f (6 + 4 * n))).length ≤ 5 := by
        unfold vk_mkl
        split
        · simp; omega
        · split
          · simp
          · split <;> simp
      have hsl : (vk_szl (f (6 + 4 * n))).length ≤ 8 := by
        unfold vk_szl
        split
        · omega
        · split
          · simp; omega
          · simp; omega
      refine ⟨fun hm0 => ?_, fun hm0 => ?_⟩
      · exact s_size A0 (by omega) ho.1 ho.2.1 e8 e9 e11 (fun M3 A3 => fin M3 _ _ (by omega) A3 (fun _ => ⟨rfl, rfl⟩) (fun q => absurd hm0 q))
      · exact s_mark A0 (by omega) ho.1 ho.2.1 e8 e9 e11 (fun M3 A3 => fin M3 _ _ (by omega) A3 (fun q => absurd q hm0) (fun _ => ⟨rfl, rfl⟩))
    · have hb : E_M_ask X (nI n) y M (fun v' M2 => cBAD = v' ∧ vR M2) := by
        apply v_M_ask
        refine s_M_isTrader hT e52' (fun k hk e => ⟨fun q => absurd q (by decide), fun _ => ?_⟩) (fun h => absurd rfl (h n hn))
        exact s_M_rng (T := 2) (by decide) (by decide) (by omega) (fun k hk e => absurd e (hno k hk)) (fun _ => ⟨fun _ => ⟨rfl, hR.thrown⟩, fun q => absurd rfl q⟩)
      rcases vm_2x hno with h | h
      · exact ⟨fun _ => hb, fun q => absurd h q⟩
      · exact ⟨fun _ => hb, fun _ => ⟨fun _ => hb, fun q => absurd h q⟩⟩
  · have hb : E_M_ask X x y M (fun v' M2 => cBAD = v' ∧ vR M2) := by
      apply v_M_ask
      exact s_M_isTrader hT e52' (fun m hm e => absurd e (hno m hm)) (fun _ => ⟨fun _ => ⟨rfl, hR.thrown⟩, fun q => absurd rfl q⟩)
    rcases hx with hx | hx
    · exact ⟨fun _ => hb, fun q => absurd hx q⟩
    · exact ⟨fun _ => hb, fun _ => ⟨fun q => absurd q hx, fun _ => hb⟩⟩
end VH
