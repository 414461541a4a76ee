/-! MATHEMATICS OVER M: ints that are numbers, the hill's questions -/
theorem vm_add (a b : Nat) : nI a + nI b = nI (a + b) := by
  unfold nI
  exact (Int32.ofNat_add a b).symm
theorem vm_mul (a b : Nat) : nI a * nI b = nI (a * b) := pk_mul a b
theorem vm_ex {n N : Nat} {T : Nat → Prop} (h : n < N) (hN : N < 100000) : (∃ j : Nat, nI n = nI j ∧ j < N ∧ T j) ↔ T n := by
  constructor
  · rintro ⟨j, h1, h2, h3⟩
    have := (nI_eq (a := n) (b := j) (by omega) (by omega)).mp h1
    rw [this]
    exact h3
  · intro h3
    exact ⟨n, rfl, h, h3⟩
def vf_price (kd gv : Int32) : Int32 := if kd = nI 2 then gv / nI 2 else gv
def vf_acc (q : Nat) (tl t d : Int32) : Int32 :=
  if t < d then
    if q = 1 then (if tl < t then nI 0 else nI 1)
    else if q = 2 then (if tl + nI 5 < t then nI 0 else nI 1)
    else if q = 3 then (if tl < t then nI 0 else if d - t < nI 10 then nI 0 else nI 1)
    else if q = 4 then nI 1
    else if t - t / nI 2 * nI 2 = 0 then nI 1 else nI 0
  else nI 0
theorem vm_q5 {q : Nat} (h1 : 1 ≤ q) (h5 : q ≤ 5) : ((nI q).toInt < 1 ∨ 5 < (nI q).toInt) ↔ False := by
  rw [nI_toInt (by omega)]
  exact ⟨fun h => by omega, False.elim⟩
section VH
variable {X : Nat × (Nat → Int32)} {M : vm_M} {P : Int32 → vm_M → Prop}
theorem s_Hill_price {x : Nat} (hx : x < 6) (h : P (vf_price (M 8 x) (M 9 x)) M) : E_Hill_price_7 X (nI x) M P := by
  apply v_Hill_price_7
  unfold vf_price at h
  simp (disch := omega) only [vm_ex]
  grind
theorem s_M_priceOf {x : Nat} (hx : x < 6) (h : P (vf_price (M 52 (6 + 4 * x)) (M 52 (7 + 4 * x))) M) : E_M_priceOf X (nI x) M P := by
  apply v_M_priceOf
  unfold vf_price at h
  simp (disch := omega) only [vm_mul, vm_add, vm_ex]
  rw [show 6 + 4 * x + 0 = 6 + 4 * x by omega, show 6 + 4 * x + 1 = 7 + 4 * x by omega]
  grind
theorem s_Hill_accepts {x q : Nat} (hx : x < 6) (hq : M 8 x = nI q) (h1 : 1 ≤ q) (h5 : q ≤ 5) {t d : Int32} (h : P (vf_acc q (M 10 x) t d) M) : E_Hill_accepts_7 X (nI x) t d M P := by
  apply v_Hill_accepts_7
  unfold vf_acc at h
  simp (disch := omega) only [vm_ex, hq, nI_eq, vm_q5]
  grind
theorem s_M_isTaken {x q : Nat} (hx : x < 6) (hq : M 52 (6 + 4 * x) = nI q) (h1 : 1 ≤ q) (h5 : q ≤ 5) {t : Int32} (h : P (vf_acc q (M 52 (8 + 4 * x)) t (M 52 0)) M) : E_M_isTaken X (nI x) t M P := by
  apply v_M_isTaken
  unfold vf_acc at h
  simp (disch := omega) only [vm_mul, vm_add, vm_ex]
  rw [show 6 + 4 * x + 0 = 6 + 4 * x by omega, show 6 + 4 * x + 2 = 8 + 4 * x by omega]
  simp (disch := omega) only [hq, nI_eq, vm_q5]
  grind
end VH
