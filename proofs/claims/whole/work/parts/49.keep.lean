/-! ACTS: the class keeps what was ahead in a ring, the reference a copy of the hill -/
def vm_kp (M : vm_M) (q n : Nat) (a b : Int32) : vm_M := fun r j =>
  if r = 35 ∧ j = 1 then nI (min (n + 1) 24) else if r = 35 ∧ j = 2 then nI ((q + 1) % 24)
  else if r = 40 ∧ j = q then b else if r = 39 ∧ j = q then a else if r = 38 ∧ j = q then M 7 5 else if r = 37 ∧ j = q then M 7 2 else if r = 36 ∧ j = q then M 7 4 else M r j
theorem vm_kp_o {M : vm_M} {q n : Nat} {a b : Int32} {r j : Nat} (h : ¬ (35 ≤ r ∧ r ≤ 40)) : vm_kp M q n a b r j = M r j := by
  unfold vm_kp
  rw [if_neg (by omega), if_neg (by omega), if_neg (by omega), if_neg (by omega), if_neg (by omega), if_neg (by omega), if_neg (by omega)]
theorem vm_kp_j {M : vm_M} {q n : Nat} {a b : Int32} {r j : Nat} (h : 36 ≤ r) (hj : j ≠ q) : vm_kp M q n a b r j = M r j := by
  unfold vm_kp
  rw [if_neg (by omega), if_neg (by omega), if_neg (by omega), if_neg (by omega), if_neg (by omega), if_neg (by omega), if_neg (by omega)]
/-- the reference's copies, all one nearer -/
def vm_sh (M : vm_M) (k : Nat) : vm_M := fun r i => if r = 54 ∧ i < k then M 54 (i + 70) else M r i
def vm_ap (M : vm_M) (b k : Nat) : vm_M := fun r i => if r = 54 ∧ b ≤ i ∧ i < b + k then M 52 (i - b) else M r i
def vm_kM (M : vm_M) (n : Nat) : vm_M := if n = 24 then vm_u2 (vm_ap (vm_u2 (vm_sh M 1610) 48 8 (nI 23)) 1610 70) 48 8 (nI 24) else vm_u2 (vm_ap M (70 * n) 70) 48 8 (nI (n + 1))
theorem vm_kM_o {M : vm_M} {n r j : Nat} (h : r ≠ 54) (h2 : ¬ (r = 48 ∧ j = 8)) : vm_kM M n r j = M r j := by
  unfold vm_kM
  split
  · rw [vm_u2_ne h2]
    unfold vm_ap
    rw [if_neg (by omega), vm_u2_ne h2]
    unfold vm_sh
    rw [if_neg (by omega)]
  · rw [vm_u2_ne h2]
    unfold vm_ap
    rw [if_neg (by omega)]
theorem vm_kM_n {M : vm_M} {n : Nat} (hn : n ≤ 24) : vm_kM M n 48 8 = nI (min (n + 1) 24) := by
  unfold vm_kM
  split
  · next h => rw [vm_u2_eq, h]; rfl
  · rw [vm_u2_eq, Nat.min_eq_left (by omega)]
theorem vm_kM_top {M : vm_M} {n j : Nat} (hn : n ≤ 24) (hj : j < 70) : vm_kM M n 54 (70 * (min (n + 1) 24 - 1) + j) = M 52 j := by
  unfold vm_kM
  split
  · next h =>
    subst h
    rw [vm_u2_r (by omega)]
    unfold vm_ap
    rw [if_pos (by omega), vm_u2_r (by omega)]
    unfold vm_sh
    rw [if_neg (by omega)]
    exact congrArg (M 52) (by omega)
  · rw [vm_u2_r (by omega), show min (n + 1) 24 - 1 = n by omega]
    unfold vm_ap
    rw [if_pos (by omega)]
    exact congrArg (M 52) (by omega)
theorem vm_kM_old {M : vm_M} {n i j : Nat} (hn : n ≤ 24) (hi : i + 1 < min (n + 1) 24) (hj : j < 70) : vm_kM M n 54 (70 * (min (n + 1) 24 - 1 - (i + 1)) + j) = M 54 (70 * (n - 1 - i) + j) := by
  unfold vm_kM
  split
  · next h =>
    subst h
    rw [vm_u2_r (by omega)]
    unfold vm_ap
    rw [if_neg (by omega), vm_u2_r (by omega)]
    unfold vm_sh
    rw [if_pos (by omega)]
    exact congrArg (M 54) (by omega)
  · rw [vm_u2_r (by omega)]
    unfold vm_ap
    rw [if_neg (by omega)]
    exact congrArg (M 54) (by omega)
section VH
variable {X : Nat × (Nat → Int32)} {M : vm_M} {f : Nat → Nat} {w : Nat → Int32}
theorem s_Acts_keep {P : vm_M → Prop} {q n : Nat} {a b : Int32} (hq : q < 24) (hn : n ≤ 24) (e2 : M 35 2 = nI q) (e1 : M 35 1 = nI n) (h : P (vm_kp M q n a b)) : E_Acts_keep X a b M P := by
  apply v_Acts_keep
  simp (disch := omega) only [vm_u2_r, vm_u2_ne, e2, e1, vm_ex, vm_add, nI_ltI]
  have em : (if 24 < n + 1 then nI 24 else nI (n + 1)) = nI (min (n + 1) 24) := by
    by_cases h9 : 24 < n + 1
    · rw [if_pos h9, Nat.min_eq_right (by omega)]
    · rw [if_neg h9, Nat.min_eq_left (by omega)]
  rw [em]
  refine ⟨fun hlt => ?_, fun hlt => ?_⟩
  · refine Eq.mp (congrArg P ?_) h
    funext r j
    simp only [vm_kp, vm_u2]
    rw [show (q + 1) % 24 = q + 1 by omega]
  · refine Eq.mp (congrArg P ?_) h
    funext r j
    simp only [vm_kp, vm_u2]
    rw [show (q + 1) % 24 = 0 by omega]
theorem s_M_keep {P : vm_M → Prop} {n : Nat} (hn : n ≤ 24) (e : M 48 8 = nI n) (h : P (vm_kM M n)) : E_M_keep X M P := by
  have app : ∀ (m : Nat) (N : vm_M), m ≤ 23 → N 48 8 = nI m → P (vm_u2 (vm_ap N (70 * m) 70) 48 8 (nI (m + 1))) → ∀ (i k : Nat), k + i = 70 → C_M_keep_51 X (nI k) (vm_ap N (70 * m) k) P := by
    intro m N hm e8 hP i
    have e8' : ∀ k, (vm_ap N (70 * m) k) 48 8 = nI m := fun k => by
      unfold vm_ap
      rw [if_neg (by omega)]
      exact e8
    induction i with
    | zero =>
      intro k hk
      apply v_M_keep_51
      have e1 : nI m + nI 1 = nI (m + 1) := vm_add m 1
      rw [e8', nI_ltI (by omega) (by omega), e1]
      rw [show k = 70 by omega]
      exact ⟨fun q => absurd q (by omega), fun _ => hP⟩
    | succ i ih =>
      intro k hk
      have nx := ih (k + 1) (by omega)
      apply v_M_keep_51
      rw [e8', nI_ltI (by omega) (by omega)]
      refine ⟨fun _ => ?_, fun q => absurd (by omega) q⟩
      simp (disch := omega) only [vm_mul, vm_add, vm_ex]
      refine Eq.mp (congrArg (fun z => C_M_keep_51 X (nI (k + 1)) z P) ?_) nx
      funext r j
      unfold vm_ap vm_u2
      by_cases h54 : r = 54
      · subst h54
        by_cases hj : j = 70 * m + k
        · subst hj
          rw [if_pos (by omega), if_pos ⟨rfl, rfl⟩, if_neg (by omega)]
          exact congrArg (N 52) (by omega)
        · by_cases hr : 70 * m ≤ j ∧ j < 70 * m + k
          · rw [if_pos (by omega), if_neg (fun q => hj q.2)]; exact (if_pos (by omega)).symm
          · rw [if_neg (by omega), if_neg (fun q => hj q.2)]; exact (if_neg (by omega)).symm
      · rw [if_neg (by omega), if_neg (by omega)]; exact (if_neg (by omega)).symm
  have e0 : ∀ N : vm_M, ∀ b, vm_ap N b 0 = N := by
    intro N b
    funext r j
    unfold vm_ap
    rw [if_neg (by omega)]
  unfold vm_kM at h
  apply v_M_keep
  rw [e, nI_eq (by omega) (by omega)]
  refine ⟨fun h24 => ?_, fun h24 => ?_⟩
  · rw [if_pos h24] at h
    have sh : ∀ (i k : Nat), k + i = 1610 → C_M_keep_11 X (nI k) (vm_sh M k) P := by
      intro i
      induction i with
      | zero =>
        intro k hk
        have hk : k = 1610 := by omega
        subst hk
        have e8 : (vm_sh M 1610) 48 8 = nI 24 := by
          unfold vm_sh
          rw [if_neg (by omega), e, h24]
        apply v_M_keep_11
        rw [e8, nI_ltI (by omega) (by omega)]
        refine ⟨fun q => absurd q (by omega), fun _ => ?_⟩
        have := app 23 (vm_u2 (vm_sh M 1610) 48 8 (nI 23)) (by omega) vm_u2_eq h 70 0 (by omega)
        rw [e0] at this
        exact this
      | succ i ih =>
        intro k hk
        have nx := ih (k + 1) (by omega)
        apply v_M_keep_11
        rw [nI_ltI (by omega) (by omega)]
        refine ⟨fun _ => ?_, fun q => absurd (by omega) q⟩
        simp (disch := omega) only [vm_add, vm_ex]
        refine Eq.mp (congrArg (fun z => C_M_keep_11 X (nI (k + 1)) z P) ?_) nx
        funext r j
        unfold vm_sh vm_u2
        by_cases h54 : r = 54
        · subst h54
          by_cases hj : j = k
          · subst hj
            rw [if_pos (by omega), if_pos ⟨rfl, rfl⟩, if_neg (by omega)]
          · by_cases hr : j < k
            · rw [if_pos (by omega), if_neg (fun q => hj q.2)]; exact (if_pos (by omega)).symm
            · rw [if_neg (by omega), if_neg (fun q => hj q.2)]; exact (if_neg (by omega)).symm
        · rw [if_neg (by omega), if_neg (by omega)]; exact (if_neg (by omega)).symm
    have := sh 1610 0 (by omega)
    have e00 : vm_sh M 0 = M := by
      funext r j
      unfold vm_sh
      rw [if_neg (by omega)]
    rw [e00] at this
    exact this
  · rw [if_neg h24] at h
    have := app n M (by omega) e h 70 0 (by omega)
    rw [e0] at this
    exact this
/-- the acts behind one more -/
theorem vR_acts.more {M2 : vm_M} {n q : Nat} {F : Nat → Nat → Nat} {W : Nat → Nat → Int32} {f2 : Nat → Nat} {w2 : Nat → Int32} {tk : Nat} (hn : n ≤ 24) (hq : q < 24) (hF : F 0 = f) (hW : W 0 = w)
    (hall : ∀ i, i < n → vh_ok (F (i + 1)) ∧ vh_M M 54 (70 * (n - 1 - i)) (F (i + 1)) (W (i + 1)) ∧ vR_step M q i (F i) (F (i + 1)) (W i) (W (i + 1)))
    (ho : vh_ok f) (hM : vh_M M 52 0 f w) (h1 : M2 35 1 = nI (min (n + 1) 24)) (h2 : M2 35 2 = nI ((q + 1) % 24)) (h8 : M2 48 8 = nI (min (n + 1) 24))
    (htop : ∀ j, j < 70 → M2 54 (70 * (min (n + 1) 24 - 1) + j) = M 52 j) (hold : ∀ i j, i + 1 < min (n + 1) 24 → j < 70 → M2 54 (70 * (min (n + 1) 24 - 1 - (i + 1)) + j) = M 54 (70 * (n - 1 - i) + j))
    (hring : ∀ r j, 36 ≤ r → r ≤ 40 → j ≠ q → M2 r j = M r j) (htk : tk < f2 2) (hf2 : f 2 = f2 2) (hf5 : f 5 < f2 2) (hfj : ∀ j, j < 70 → j ≠ 0 → j ≠ 4 → j ≠ 5 → f j = f2 j)
    (r36 : M2 36 q = nI (f 4)) (r37 : M2 37 q = nI (f 0)) (r38 : M2 38 q = nI (f 5)) (r39 : M2 39 q = nI tk)
    (hw : ∀ x, x < 6 → w x = (if x = tk then (if x = f 5 then w2 x - M2 40 q else w2 x) + M2 40 q else if x = f 5 then w2 x - M2 40 q else w2 x)) : vR_acts M2 f2 w2 := by
  refine ⟨min (n + 1) 24, (q + 1) % 24, fun i => match i with | 0 => f2 | i + 1 => F i, fun i => match i with | 0 => w2 | i + 1 => W i, by omega, by omega, h1, h2, h8, rfl, rfl, fun i hi => ?_⟩
  match i, hi with
  | 0, hi =>
    refine ⟨by show vh_ok (F 0); rw [hF]; exact ho, ?_, ?_⟩
    · show vh_M M2 54 (70 * (min (n + 1) 24 - 1 - 0)) (F 0) (W 0)
      rw [hF, hW, Nat.sub_zero]
      refine ⟨fun j hj hnw => ?_, fun x hx => ?_⟩
      · rw [htop j hj]
        have := hM.1 j hj hnw
        rwa [Nat.zero_add] at this
      · rw [show 70 * (min (n + 1) 24 - 1) + 9 + 4 * x = 70 * (min (n + 1) 24 - 1) + (9 + 4 * x) by omega, htop _ (by omega)]
        have := hM.2 x hx
        rwa [Nat.zero_add] at this
    · show vR_step M2 ((q + 1) % 24) 0 f2 (F 0) w2 (W 0)
      rw [hF, hW]
      have eq : ((q + 1) % 24 + 23 - 0) % 24 = q := by omega
      refine ⟨tk, htk, hf2, hf5, hfj, ?_, ?_, ?_, ?_, ?_⟩
      · rw [eq]; exact r36
      · rw [eq]; exact r37
      · rw [eq]; exact r38
      · rw [eq]; exact r39
      · rw [eq]; exact hw
  | i + 1, hi =>
    obtain ⟨g1, g2, g3⟩ := hall i (by omega)
    refine ⟨g1, ?_, ?_⟩
    · show vh_M M2 54 (70 * (min (n + 1) 24 - 1 - (i + 1))) (F (i + 1)) (W (i + 1))
      refine ⟨fun j hj hnw => ?_, fun x hx => ?_⟩
      · rw [hold i j hi hj]
        exact g2.1 j hj hnw
      · rw [show 70 * (min (n + 1) 24 - 1 - (i + 1)) + 9 + 4 * x = 70 * (min (n + 1) 24 - 1 - (i + 1)) + (9 + 4 * x) by omega, hold i _ hi (by omega), show 70 * (n - 1 - i) + (9 + 4 * x) = 70 * (n - 1 - i) + 9 + 4 * x by omega]
        exact g2.2 x hx
    · show vR_step M2 ((q + 1) % 24) (i + 1) (F i) (F (i + 1)) (W i) (W (i + 1))
      have eq : ((q + 1) % 24 + 23 - (i + 1)) % 24 = (q + 23 - i) % 24 := by omega
      have ne : (q + 23 - i) % 24 ≠ q := by omega
      obtain ⟨t2, k1, k2, k3, k4, k5, k6, k7, k8, k9⟩ := g3
      refine ⟨t2, k1, k2, k3, k4, ?_, ?_, ?_, ?_, ?_⟩
      · rw [eq, hring 36 _ (by omega) (by omega) ne]; exact k5
      · rw [eq, hring 37 _ (by omega) (by omega) ne]; exact k6
      · rw [eq, hring 38 _ (by omega) (by omega) ne]; exact k7
      · rw [eq, hring 39 _ (by omega) (by omega) ne]; exact k8
      · rw [eq, hring 40 _ (by omega) (by omega) ne]; exact k9
end VH
