/-! the hill as numbers: f is laid as the reference lays it (0 dawn, 1 water, 2 traders, 3 ways, 4 minute, 5 has, 6+4x kind gives till (wins apart: w), 30+4k a b long wet) -/
abbrev vh_j (f : Nat → Nat) (k a b : Nat) : Prop := (f (30 + 4 * k) = a ∧ f (31 + 4 * k) = b) ∨ (f (30 + 4 * k) = b ∧ f (31 + 4 * k) = a)
/-- the shortest of the first k ways that join these two, wet or dry; 0: none -/
def vh_min (f : Nat → Nat) (wet a b : Nat) : Nat → Nat
  | 0 => 0
  | k + 1 => if vh_j f k a b ∧ f (33 + 4 * k) = wet ∧ (vh_min f wet a b k = 0 ∨ f (32 + 4 * k) < vh_min f wet a b k) then f (32 + 4 * k) else vh_min f wet a b k
/-- the shortest of the first k that may be gone in t -/
def vh_far (f : Nat → Nat) (a b t : Nat) : Nat → Nat
  | 0 => 0
  | k + 1 => if vh_j f k a b ∧ (f (33 + 4 * k) = 0 ∨ t + f (32 + 4 * k) ≤ f 1) ∧ (vh_far f a b t k = 0 ∨ f (32 + 4 * k) < vh_far f a b t k) then f (32 + 4 * k) else vh_far f a b t k
def vh_wok (f : Nat → Nat) (k : Nat) : Prop := f (30 + 4 * k) < f 2 ∧ f (31 + 4 * k) < f 2 ∧ f (30 + 4 * k) ≠ f (31 + 4 * k) ∧ 1 ≤ f (32 + 4 * k) ∧ f (32 + 4 * k) ≤ 30 ∧ f (33 + 4 * k) ≤ 1
def vh_ok (f : Nat → Nat) : Prop := f 2 ≤ 6 ∧ f 3 ≤ 10 ∧ f 0 ≤ 60 ∧ f 1 ≤ 60 ∧ f 4 ≤ 60 ∧ (0 < f 2 → f 5 < f 2 ∧ 1 ≤ f 0) ∧ (f 2 = 0 → f 0 = 0 ∧ f 3 = 0 ∧ f 4 = 0 ∧ f 5 = 0) ∧
  (∀ x, x < f 2 → 1 ≤ f (6 + 4 * x) ∧ f (6 + 4 * x) ≤ 5 ∧ f (7 + 4 * x) ≤ 99 ∧ f (8 + 4 * x) ≤ 60) ∧ ∀ k, k < f 3 → vh_wok f k
theorem vh_min_le {f : Nat → Nat} (h : vh_ok f) (wet a b : Nat) : ∀ k, k ≤ f 3 → vh_min f wet a b k ≤ 30
  | 0, _ => Nat.zero_le _
  | k + 1, hk => by
    have ih := vh_min_le h wet a b k (by omega)
    have hw := h.2.2.2.2.2.2.2.2 k (by omega)
    unfold vh_wok at hw
    unfold vh_min
    split <;> omega
theorem vh_min_aa {f : Nat → Nat} (h : vh_ok f) (wet a : Nat) : ∀ k, k ≤ f 3 → vh_min f wet a a k = 0
  | 0, _ => rfl
  | k + 1, hk => by
    have ih := vh_min_aa h wet a k (by omega)
    have hw := h.2.2.2.2.2.2.2.2 k (by omega)
    unfold vh_wok at hw
    unfold vh_min
    rw [ih, if_neg]
    unfold vh_j
    omega
theorem vh_far_eq {f : Nat → Nat} (h : vh_ok f) (a b t : Nat) : ∀ k, k ≤ f 3 → vh_far f a b t k = if 0 < vh_min f 1 a b k ∧ t + vh_min f 1 a b k ≤ f 1 ∧ (vh_min f 0 a b k = 0 ∨ vh_min f 1 a b k < vh_min f 0 a b k) then vh_min f 1 a b k else vh_min f 0 a b k
  | 0, _ => by simp [vh_far, vh_min]
  | k + 1, hk => by
    have ih := vh_far_eq h a b t k (by omega)
    have hw := h.2.2.2.2.2.2.2.2 k (by omega)
    unfold vh_wok at hw
    unfold vh_far vh_min
    rw [ih]
    generalize vh_min f 0 a b k = D at *
    generalize vh_min f 1 a b k = E at *
    generalize f (32 + 4 * k) = n at *
    generalize f (33 + 4 * k) = v at *
    generalize f 1 = wa at *
    by_cases hj : vh_j f k a b
    · have hv : v = 0 ∨ v = 1 := by omega
      rcases hv with rfl | rfl
      · simp only [hj, true_and]
        grind
      · simp only [hj, true_and]
        grind
    · simp only [hj, false_and, if_false]
def vh_arr (f : Nat → Nat) (a b t : Nat) : Nat := if vh_far f a b t (f 3) = 0 then 0 else t + vh_far f a b t (f 3)
def vh_acc (q tl t d : Nat) : Bool := decide (t < d) && (if q = 1 then decide (t ≤ tl) else if q = 2 then decide (t ≤ tl + 5) else if q = 3 then (decide (t ≤ tl) && decide (10 ≤ d - t)) else if q = 4 then true else decide (t % 2 = 0))
def vh_hand (f : Nat → Nat) (a b t d : Nat) : Nat := if vh_arr f a b t = 0 then 0 else if vh_acc (f (6 + 4 * b)) (f (8 + 4 * b)) (vh_arr f a b t) d = true then vh_arr f a b t else 0
abbrev cNONE : Int32 := Int32.ofInt (-1000000)
def vm_en (n : Nat) : Int32 := if n = 0 then cNONE else nI n
theorem vm_nI_none {n : Nat} (h : n < 2 ^ 31) : nI n = cNONE ↔ False := by
  constructor
  · intro e
    have h1 := nI_toInt h
    rw [e] at h1
    have h2 : cNONE.toInt = -1000000 := by decide
    omega
  · exact False.elim
theorem vf_acc_eq {q tl t d : Nat} (h1 : tl ≤ 1000) (h2 : t ≤ 1000) (h3 : d ≤ 1000) : vf_acc q (nI tl) (nI t) (nI d) = if vh_acc q tl t d = true then nI 1 else nI 0 := by
  unfold vf_acc vh_acc
  have e : nI t - nI t / nI 2 * nI 2 = nI (t % 2) := pk_rem (by omega) (by omega) (by omega)
  have e0 : (0 : Int32) = nI 0 := rfl
  rw [e, e0]
  by_cases htd : t < d
  · have e2 : nI d - nI t = nI (d - t) := pk_sub (by omega)
    rw [e2]
    simp (disch := omega) only [vm_add, nI_ltI, nI_eq, htd]
    grind
  · simp (disch := omega) only [nI_ltI, htd]
    simp
