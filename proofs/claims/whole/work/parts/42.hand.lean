/-- the reference's hill: cell q from o on -/
def vh_M (M : vm_M) (q o : Nat) (f : Nat → Nat) (w : Nat → Int32) : Prop := (∀ j, j < 70 → ¬ (6 ≤ j ∧ j < 30 ∧ j % 4 = 1) → M q (o + j) = nI (f j)) ∧ ∀ x, x < 6 → M q (o + 9 + 4 * x) = w x
/-- the class's hill: object c, its rows behind it -/
def vh_C (M : vm_M) (c : Nat) (f : Nat → Nat) (w : Nat → Int32) : Prop := M c 0 = nI (f 2) ∧ M c 1 = nI (f 3) ∧ M c 2 = nI (f 0) ∧ M c 3 = nI (f 1) ∧ M c 4 = nI (f 4) ∧ M c 5 = nI (f 5) ∧
  (∀ x, x < f 2 → M (c + 1) x = nI (f (6 + 4 * x)) ∧ M (c + 2) x = nI (f (7 + 4 * x)) ∧ M (c + 3) x = nI (f (8 + 4 * x)) ∧ M (c + 4) x = w x) ∧
  ∀ a b, a < 6 → b < 6 → M (c + 5) (a * 6 + b) = nI (vh_min f 0 a b (f 3)) ∧ M (c + 6) (a * 6 + b) = nI (vh_min f 1 a b (f 3))
section VH
variable {X : Nat × (Nat → Int32)} {M : vm_M} {P : Int32 → vm_M → Prop} {f : Nat → Nat} {w : Nat → Int32}
theorem s_thereIn_loop (hM : vh_M M 52 0 f w) (ho : vh_ok f) {a b t : Nat} (ha : a < 6) (hb : b < 6) (ht : t ≤ 100) (h : P (vm_en (vh_arr f a b t)) M) :
    ∀ (n k : Nat) (w6 w7 w8 : Value), k + n = f 3 → C_M_thereIn_7 X (nI a) (nI b) (nI t) (vm_en (vh_far f a b t k)) (nI k) w6 w7 w8 M P := by
  have hW : f 3 ≤ 10 := ho.2.1
  have h3 : M 52 3 = nI (f 3) := hM.1 3 (by omega) (by omega)
  have h1 : M 52 1 = nI (f 1) := hM.1 1 (by omega) (by omega)
  have hwat : f 1 ≤ 60 := ho.2.2.2.1
  intro n
  induction n with
  | zero =>
    intro k w6 w7 w8 hk
    have hk : k = f 3 := by omega
    subst hk
    apply v_M_thereIn_7
    rw [h3]
    refine ⟨fun h9 => absurd ((nI_ltI (by omega) (by omega)).mp h9) (by omega), fun _ => ?_⟩
    unfold vm_en vh_arr at *
    have hfar : vh_far f a b t (f 3) ≤ 30 := by
      rw [vh_far_eq ho a b t _ (Nat.le_refl _)]
      have := vh_min_le ho 0 a b _ (Nat.le_refl _)
      have := vh_min_le ho 1 a b _ (Nat.le_refl _)
      split <;> omega
    by_cases hz : vh_far f a b t (f 3) = 0
    · rw [if_pos hz] at h ⊢
      rw [if_pos rfl] at h
      exact ⟨fun _ => h, fun q => absurd rfl q⟩
    · rw [if_neg hz] at h ⊢
      rw [if_neg (by omega)] at h
      refine ⟨fun q => absurd q (by rw [vm_nI_none (by omega)]; exact id), fun _ => ?_⟩
      rw [vm_add]
      exact h
  | succ n ih =>
    intro k w6 w7 w8 hk
    have hkf : k < f 3 := by omega
    have hw := ho.2.2.2.2.2.2.2.2 k hkf
    unfold vh_wok at hw
    have e0 : M 52 (30 + 4 * k) = nI (f (30 + 4 * k)) := by have := hM.1 (30 + 4 * k) (by omega) (by omega); rwa [Nat.zero_add] at this
    have e1 : M 52 (31 + 4 * k) = nI (f (31 + 4 * k)) := by have := hM.1 (31 + 4 * k) (by omega) (by omega); rwa [Nat.zero_add] at this
    have e2 : M 52 (32 + 4 * k) = nI (f (32 + 4 * k)) := by have := hM.1 (32 + 4 * k) (by omega) (by omega); rwa [Nat.zero_add] at this
    have e3 : M 52 (33 + 4 * k) = nI (f (33 + 4 * k)) := by have := hM.1 (33 + 4 * k) (by omega) (by omega); rwa [Nat.zero_add] at this
    have hT : f 2 ≤ 6 := ho.1
    have hfar : vh_far f a b t k ≤ 30 := by
      rw [vh_far_eq ho a b t _ (by omega)]
      have := vh_min_le ho 0 a b k (by omega)
      have := vh_min_le ho 1 a b k (by omega)
      split <;> omega
    have next : ∀ w6 w7 w8, C_M_thereIn_7 X (nI a) (nI b) (nI t) (vm_en (vh_far f a b t (k + 1))) (nI (k + 1)) w6 w7 w8 M P := fun w6 w7 w8 => ih (k + 1) w6 w7 w8 (by omega)
    have c119 : ∀ (s0 x7 : Nat) (w8 : Value), s0 ≤ 1 → x7 ≤ 1 → (s0 = 1 ↔ vh_j f k a b) → (x7 = 1 ↔ (f (33 + 4 * k) = 0 ∨ t + f (32 + 4 * k) ≤ f 1)) → C_M_thereIn_119 X (nI a) (nI b) (nI t) (vm_en (vh_far f a b t k)) (nI k) (nI (30 + 4 * k)) (nI s0) w8 (nI x7) M P := by
      intro s0 x7 w8 hs hx hj hm
      have e0' : (0 : Int32) = nI 0 := rfl
      have hn : vm_en (vh_far f a b t (k + 1)) = if s0 = 1 ∧ x7 = 1 ∧ (vh_far f a b t k = 0 ∨ f (32 + 4 * k) < vh_far f a b t k) then nI (f (32 + 4 * k)) else vm_en (vh_far f a b t k) := by
        unfold vm_en
        rw [vh_far]
        simp only [hj, hm]
        by_cases hc : vh_j f k a b ∧ (f (33 + 4 * k) = 0 ∨ t + f (32 + 4 * k) ≤ f 1) ∧ (vh_far f a b t k = 0 ∨ f (32 + 4 * k) < vh_far f a b t k)
        · rw [if_pos hc, if_pos hc, if_neg (by omega)]
        · rw [if_neg hc, if_neg hc]
      apply v_M_thereIn_119
      simp (disch := omega) only [vm_mul, vm_add, vm_ex, e0']
      rw [show 30 + 4 * k + 2 = 32 + 4 * k by omega, e2]
      have nx := next
      rw [hn] at nx
      simp (disch := omega) only [nI_eq]
      by_cases hz : vh_far f a b t k = 0
      · have ez : vm_en (vh_far f a b t k) = cNONE := by unfold vm_en; rw [if_pos hz]
        simp only [ez] at nx ⊢
        grind
      · have ez : vm_en (vh_far f a b t k) = nI (vh_far f a b t k) := by unfold vm_en; rw [if_neg hz]
        have en : nI (vh_far f a b t k) = Int32.ofInt (-1000000) ↔ False := vm_nI_none (by omega)
        simp only [ez] at nx ⊢
        simp (disch := omega) only [nI_ltI, en]
        grind
    have c80 : ∀ (s0 : Nat) (w7 w8 : Value), s0 ≤ 1 → (s0 = 1 ↔ vh_j f k a b) → C_M_thereIn_80 X (nI a) (nI b) (nI t) (vm_en (vh_far f a b t k)) (nI k) (nI (30 + 4 * k)) w7 w8 (nI s0) M P := by
      intro s0 w7 w8 hs hj
      apply v_M_thereIn_80
      have e0' : (0 : Int32) = nI 0 := rfl
      simp (disch := omega) only [vm_mul, vm_add, vm_ex, e0']
      rw [show 30 + 4 * k + 3 = 33 + 4 * k by omega, show 30 + 4 * k + 2 = 32 + 4 * k by omega, e2, e3, h1]
      simp (disch := omega) only [vm_add, nI_eq, nI_ltI]
      refine ⟨fun q => c119 s0 1 w8 hs (by omega) hj (by omega), fun q => ⟨fun q2 => c119 s0 0 w8 hs (by omega) hj (by omega), fun q2 => c119 s0 1 w8 hs (by omega) hj (by omega)⟩⟩
    apply v_M_thereIn_7
    rw [h3]
    simp (disch := omega) only [vm_mul, vm_add, vm_ex, nI_ltI]
    rw [show 30 + 4 * k + 1 = 31 + 4 * k by omega, e0, e1]
    simp (disch := omega) only [nI_eq]
    refine ⟨fun _ => ⟨fun q1 => ⟨fun q2 => c80 1 _ _ (by omega) ?_, fun q2 => ⟨fun q3 => ⟨fun q4 => c80 1 _ _ (by omega) ?_, fun q4 => c80 0 _ _ (by omega) ?_⟩, fun q3 => c80 0 _ _ (by omega) ?_⟩⟩, fun q1 => ⟨fun q3 => ⟨fun q4 => c80 1 _ _ (by omega) ?_, fun q4 => c80 0 _ _ (by omega) ?_⟩, fun q3 => c80 0 _ _ (by omega) ?_⟩⟩, fun q => absurd hkf q⟩
    all_goals (unfold vh_j; omega)
theorem s_M_thereIn (hM : vh_M M 52 0 f w) (ho : vh_ok f) {a b t : Nat} (ha : a < 6) (hb : b < 6) (ht : t ≤ 100) (h : P (vm_en (vh_arr f a b t)) M) : E_M_thereIn X (nI a) (nI b) (nI t) M P := by
  apply v_M_thereIn
  exact s_thereIn_loop hM ho ha hb ht h (f 3) 0 _ _ _ (by omega)
theorem vh_arr_le (ho : vh_ok f) {a b t : Nat} (ht : t ≤ 100) : vh_arr f a b t ≤ 130 := by
  unfold vh_arr
  rw [vh_far_eq ho a b t _ (Nat.le_refl _)]
  have := vh_min_le ho 0 a b _ (Nat.le_refl _)
  have := vh_min_le ho 1 a b _ (Nat.le_refl _)
  split <;> (try split) <;> omega
theorem vm_en_none {n : Nat} (h : n < 1000000) : vm_en n = cNONE ↔ n = 0 := by
  unfold vm_en
  by_cases hn : n = 0
  · rw [if_pos hn]; exact ⟨fun _ => hn, fun _ => rfl⟩
  · rw [if_neg hn, vm_nI_none (by omega)]; exact ⟨False.elim, fun h => hn h⟩
theorem s_M_passedIn (hM : vh_M M 52 0 f w) (ho : vh_ok f) {a b t : Nat} (ha : a < 6) (hb : b < f 2) (ht : t ≤ 100) (h : P (vm_en (vh_hand f a b t (f 0))) M) : E_M_passedIn X (nI a) (nI b) (nI t) M P := by
  have hT := ho.1
  have hx := ho.2.2.2.2.2.2.2.1 b hb
  have hd := ho.2.2.1
  apply v_M_passedIn
  simp (disch := omega) only [nI_eq]
  refine ⟨fun hab => ?_, fun hab => ?_⟩
  · subst hab
    have e : vh_hand f a a t (f 0) = 0 := by
      unfold vh_hand vh_arr
      rw [vh_far_eq ho a a t _ (Nat.le_refl _), vh_min_aa ho 0 a _ (Nat.le_refl _), vh_min_aa ho 1 a _ (Nat.le_refl _)]
      simp
    rw [e] at h
    exact h
  · refine s_M_thereIn hM ho ha (by omega) ht ?_
    have hle := vh_arr_le (f := f) ho (a := a) (b := b) ht
    refine ⟨fun hn => ?_, fun hn => ?_⟩
    · have h0 := (vm_en_none (by omega)).mp hn
      have e : vh_hand f a b t (f 0) = 0 := by unfold vh_hand; rw [if_pos h0]
      rw [e] at h
      exact h
    · have h0 : ¬ vh_arr f a b t = 0 := fun q => hn ((vm_en_none (by omega)).mpr q)
      have e6 : M 52 (6 + 4 * b) = nI (f (6 + 4 * b)) := by have := hM.1 (6 + 4 * b) (by omega) (by omega); rwa [Nat.zero_add] at this
      have e8 : M 52 (8 + 4 * b) = nI (f (8 + 4 * b)) := by have := hM.1 (8 + 4 * b) (by omega) (by omega); rwa [Nat.zero_add] at this
      have ed : M 52 0 = nI (f 0) := hM.1 0 (by omega) (by omega)
      have een : vm_en (vh_arr f a b t) = nI (vh_arr f a b t) := by unfold vm_en; rw [if_neg h0]
      refine s_M_isTaken (q := f (6 + 4 * b)) (by omega) e6 hx.1 hx.2.1 ?_
      rw [een, e8, ed, vf_acc_eq (by omega) (by omega) (by omega)]
      unfold vh_hand at h
      rw [if_neg h0] at h
      have e0' : (0 : Int32) = nI 0 := rfl
      by_cases hacc : vh_acc (f (6 + 4 * b)) (f (8 + 4 * b)) (vh_arr f a b t) (f 0) = true
      · rw [if_pos hacc] at h ⊢
        rw [een] at h
        exact ⟨fun q => absurd q (by decide), fun _ => h⟩
      · rw [if_neg hacc] at h ⊢
        exact ⟨fun _ => h, fun q => absurd rfl q⟩
theorem s_Hill_arrival (hC : vh_C M 7 f w) (ho : vh_ok f) {a b t : Nat} (ha : a < 6) (hb : b < 6) (ht : t ≤ 100) (h : P (vm_en (vh_arr f a b t)) M) : E_Hill_arrival_7 X (nI a) (nI b) (nI t) M P := by
  have hmn := hC.2.2.2.2.2.2.2 a b ha hb
  have hwt := hC.2.2.2.1
  have hw60 := ho.2.2.2.1
  have l0 := vh_min_le ho 0 a b _ (Nat.le_refl _)
  have l1 := vh_min_le ho 1 a b _ (Nat.le_refl _)
  unfold vh_arr vm_en at h
  rw [vh_far_eq ho a b t _ (Nat.le_refl _)] at h
  apply v_Hill_arrival_7
  have e0' : (0 : Int32) = nI 0 := rfl
  simp (disch := omega) only [vm_mul, vm_add, vm_ex, e0']
  have hmn1 : M 12 (a * 6 + b) = nI (vh_min f 0 a b (f 3)) := hmn.1
  have hmn2 : M 13 (a * 6 + b) = nI (vh_min f 1 a b (f 3)) := hmn.2
  rw [hmn1, hmn2, hwt]
  generalize vh_min f 0 a b (f 3) = D at *
  generalize vh_min f 1 a b (f 3) = E at *
  simp (disch := omega) only [vm_add, nI_ltI, nI_eq]
  grind
theorem s_Hill_handed (hC : vh_C M 7 f w) (ho : vh_ok f) {a b t d : Nat} (ha : a < 6) (hb : b < f 2) (ht : t ≤ 100) (hd : d ≤ 100) (h : P (vm_en (vh_hand f a b t d)) M) : E_Hill_handed_7 X (nI a) (nI b) (nI t) (nI d) M P := by
  have hT := ho.1
  have hx := ho.2.2.2.2.2.2.2.1 b hb
  have hle := vh_arr_le (f := f) ho (a := a) (b := b) ht
  apply v_Hill_handed_7
  refine s_Hill_arrival hC ho ha (by omega) ht ?_
  refine ⟨fun hn => ?_, fun hn => ?_⟩
  · have h0 := (vm_en_none (by omega)).mp hn
    have e : vh_hand f a b t d = 0 := by unfold vh_hand; rw [if_pos h0]
    rw [e] at h
    exact h
  · have h0 : ¬ vh_arr f a b t = 0 := fun q => hn ((vm_en_none (by omega)).mpr q)
    have hk := hC.2.2.2.2.2.2.1 b hb
    have een : vm_en (vh_arr f a b t) = nI (vh_arr f a b t) := by unfold vm_en; rw [if_neg h0]
    refine s_Hill_accepts (q := f (6 + 4 * b)) (by omega) hk.1 hx.1 hx.2.1 ?_
    have e10 : M 10 b = nI (f (8 + 4 * b)) := hk.2.2.1
    rw [een, e10, vf_acc_eq (by omega) (by omega) (by omega)]
    unfold vh_hand at h
    rw [if_neg h0] at h
    by_cases hacc : vh_acc (f (6 + 4 * b)) (f (8 + 4 * b)) (vh_arr f a b t) d = true
    · rw [if_pos hacc] at h ⊢
      rw [een] at h
      exact ⟨fun q => absurd q (by decide), fun _ => h⟩
    · rw [if_neg hacc] at h ⊢
      exact ⟨fun _ => h, fun q => absurd rfl q⟩
end VH
