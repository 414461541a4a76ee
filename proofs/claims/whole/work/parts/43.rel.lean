/-! THE RELATION between the class's cells (0 .. 47) and the reference's (48 .. 64) -/
def vr_l (s : Nat) : Int32 := if s = 0 then Int32.ofInt (-1) else nI (s - 1)
def vR_rows (M : vm_M) : Prop := (∀ r, r < 8 → ∃ s n, s ≤ 3 ∧ n ≤ 40 ∧ M 2 r = nI s ∧ M 49 r = vr_l s ∧ M 3 r = nI n ∧ M 50 r = nI n) ∧ ∀ i, i < 320 → M 51 i = M 4 i
def vR_tape (M : vm_M) : Prop := ∃ n, n ≤ 400 ∧ M 5 1 = nI n ∧ M 48 10 = nI n ∧ (∀ i, i < n → ∃ v, v < 256 ∧ M 55 i = nI v ∧ M 6 i = (nI v).toInt8.toInt32) ∧ M 5 7 = M 48 11
/-- act number i (0 the latest) of n, kept in the ring before q: what it was ahead of it is F' W' -/
def vR_step (M : vm_M) (q i : Nat) (f f' : Nat → Nat) (w w' : Nat → Int32) : Prop := ∃ tk, tk < f 2 ∧ f' 2 = f 2 ∧ f' 5 < f 2 ∧ (∀ j, j < 70 → j ≠ 0 → j ≠ 4 → j ≠ 5 → f' j = f j) ∧
  M 36 ((q + 23 - i) % 24) = nI (f' 4) ∧ M 37 ((q + 23 - i) % 24) = nI (f' 0) ∧ M 38 ((q + 23 - i) % 24) = nI (f' 5) ∧ M 39 ((q + 23 - i) % 24) = nI tk ∧
  ∀ x, x < 6 → w' x = (if x = tk then (if x = f' 5 then w x - M 40 ((q + 23 - i) % 24) else w x) + M 40 ((q + 23 - i) % 24) else if x = f' 5 then w x - M 40 ((q + 23 - i) % 24) else w x)
def vR_acts (M : vm_M) (f : Nat → Nat) (w : Nat → Int32) : Prop := ∃ (n q : Nat) (F : Nat → Nat → Nat) (W : Nat → Nat → Int32), n ≤ 24 ∧ q < 24 ∧ M 35 1 = nI n ∧ M 35 2 = nI q ∧ M 48 8 = nI n ∧ F 0 = f ∧ W 0 = w ∧
  ∀ i, i < n → vh_ok (F (i + 1)) ∧ vh_M M 54 (70 * (n - 1 - i)) (F (i + 1)) (W (i + 1)) ∧ vR_step M q i (F i) (F (i + 1)) (W i) (W (i + 1))
def vR_img (M : vm_M) (c k : Nat) : Prop := (M 62 k = nI 0 ∧ M c 0 = nI 0) ∨ (M 62 k = nI 1 ∧ ∃ f w, 0 < f 2 ∧ vh_ok f ∧ vh_C M c f w ∧ vh_M M 63 (70 * k) f w)
def vR_trace (M : vm_M) : Prop := ∃ n, n ≤ 16 ∧ M 46 2 = nI n ∧ M 48 29 = nI n ∧ ∀ i, i < n → M 47 i = M 64 i
def vR_hill (M : vm_M) (f : Nat → Nat) (w : Nat → Int32) : Prop := vh_ok f ∧ vh_C M 7 f w ∧ vh_M M 52 0 f w
def vR (M : vm_M) : Prop := vR_rows M ∧ M 48 1 = M 0 9 ∧ vR_tape M ∧ (∃ f w, vR_hill M f w ∧ vR_acts M f w) ∧ vR_img M 21 0 ∧ vR_img M 28 1 ∧ vR_trace M
/-- a change of cells that the relation doesn't look at -/
def vm_dead (r j : Nat) : Bool := (r == 48 && !(j == 1 || j == 8 || j == 10 || j == 11 || j == 29)) || (r == 41) || (42 ≤ r && r ≤ 45) || r == 53 || (56 ≤ r && r ≤ 61) || (14 ≤ r && r ≤ 20) || (r == 5 && !(j == 1 || j == 7))
def vm_same (M M' : vm_M) : Prop := ∀ r j, vm_dead r j = false → M' r j = M r j
theorem vm_same.refl (M : vm_M) : vm_same M M := fun _ _ _ => rfl
theorem vm_same.trans {M M' M'' : vm_M} (h : vm_same M M') (h' : vm_same M' M'') : vm_same M M'' := fun r j hr => (h' r j hr).trans (h r j hr)
theorem vm_same.u2 {M : vm_M} {r j : Nat} {v : Int32} (h : vm_dead r j = true) : vm_same M (vm_u2 M r j v) := by
  intro a b hab
  unfold vm_u2
  rw [if_neg]
  rintro ⟨rfl, rfl⟩
  rw [h] at hab
  cases hab
theorem vh_C.of {M M' : vm_M} {c : Nat} {f : Nat → Nat} {w : Nat → Int32} (h : vh_C M c f w) (he : ∀ r j, c ≤ r → r ≤ c + 6 → M' r j = M r j) : vh_C M' c f w := by
  obtain ⟨h0, h1, h2, h3, h4, h5, h6, h7⟩ := h
  refine ⟨by rw [he _ _ (by omega) (by omega)]; exact h0, by rw [he _ _ (by omega) (by omega)]; exact h1, by rw [he _ _ (by omega) (by omega)]; exact h2, by rw [he _ _ (by omega) (by omega)]; exact h3, by rw [he _ _ (by omega) (by omega)]; exact h4, by rw [he _ _ (by omega) (by omega)]; exact h5, fun x hx => ?_, fun a b ha hb => ?_⟩
  · rw [he (c + 1) _ (by omega) (by omega), he (c + 2) _ (by omega) (by omega), he (c + 3) _ (by omega) (by omega), he (c + 4) _ (by omega) (by omega)]
    exact h6 x hx
  · rw [he (c + 5) _ (by omega) (by omega), he (c + 6) _ (by omega) (by omega)]
    exact h7 a b ha hb
theorem vh_M.of {M M' : vm_M} {q o : Nat} {f : Nat → Nat} {w : Nat → Int32} (h : vh_M M q o f w) (he : ∀ j, j < 70 → M' q (o + j) = M q (o + j)) : vh_M M' q o f w := by
  refine ⟨fun j hj hn => ?_, fun x hx => ?_⟩
  · rw [he j hj]; exact h.1 j hj hn
  · rw [show o + 9 + 4 * x = o + (9 + 4 * x) by omega, he (9 + 4 * x) (by omega), show o + (9 + 4 * x) = o + 9 + 4 * x by omega]
    exact h.2 x hx
theorem vR_rows.of {M M' : vm_M} (h : vR_rows M) (he : ∀ r j, r = 2 ∨ r = 3 ∨ r = 4 ∨ r = 49 ∨ r = 50 ∨ r = 51 → M' r j = M r j) : vR_rows M' := by
  refine ⟨fun r hr => ?_, fun i hi => ?_⟩
  · rw [he 2 _ (by omega), he 49 _ (by omega), he 3 _ (by omega), he 50 _ (by omega)]
    exact h.1 r hr
  · rw [he 51 _ (by omega), he 4 _ (by omega)]
    exact h.2 i hi
theorem vR_tape.of {M M' : vm_M} (h : vR_tape M) (he : ∀ r j, (r = 5 ∧ (j = 1 ∨ j = 7)) ∨ r = 6 ∨ r = 55 ∨ (r = 48 ∧ (j = 10 ∨ j = 11)) → M' r j = M r j) : vR_tape M' := by
  obtain ⟨n, h1, h2, h3, h4, h5⟩ := h
  refine ⟨n, h1, by rw [he 5 1 (by omega)]; exact h2, by rw [he 48 10 (by omega)]; exact h3, fun i hi => ?_, by rw [he 5 7 (by omega), he 48 11 (by omega)]; exact h5⟩
  rw [he 55 _ (by omega), he 6 _ (by omega)]
  exact h4 i hi
theorem vR_step.of {M M' : vm_M} {q i : Nat} {f f' : Nat → Nat} {w w' : Nat → Int32} (h : vR_step M q i f f' w w') (he : ∀ r j, 36 ≤ r → r ≤ 40 → M' r j = M r j) : vR_step M' q i f f' w w' := by
  obtain ⟨tk, h1, h2, h3, h4, h5, h6, h7, h8, h9⟩ := h
  refine ⟨tk, h1, h2, h3, h4, ?_, ?_, ?_, ?_, ?_⟩
  · rw [he 36 _ (by omega) (by omega)]; exact h5
  · rw [he 37 _ (by omega) (by omega)]; exact h6
  · rw [he 38 _ (by omega) (by omega)]; exact h7
  · rw [he 39 _ (by omega) (by omega)]; exact h8
  · rw [he 40 _ (by omega) (by omega)]; exact h9
theorem vR_acts.of {M M' : vm_M} {f : Nat → Nat} {w : Nat → Int32} (h : vR_acts M f w) (he : ∀ r j, (35 ≤ r ∧ r ≤ 40) ∨ r = 54 ∨ (r = 48 ∧ j = 8) → M' r j = M r j) : vR_acts M' f w := by
  obtain ⟨n, q, F, W, h1, h2, h3, h4, h5, h6, h7, h8⟩ := h
  refine ⟨n, q, F, W, h1, h2, by rw [he 35 1 (by omega)]; exact h3, by rw [he 35 2 (by omega)]; exact h4, by rw [he 48 8 (by omega)]; exact h5, h6, h7, fun i hi => ?_⟩
  obtain ⟨g1, g2, g3⟩ := h8 i hi
  exact ⟨g1, g2.of (fun j _ => he 54 _ (by omega)), g3.of (fun r j h1 h2 => he r j (by omega))⟩
theorem vR_img.of {M M' : vm_M} {c k : Nat} (h : vR_img M c k) (he : ∀ r j, (c ≤ r ∧ r ≤ c + 6) ∨ r = 62 ∨ r = 63 → M' r j = M r j) : vR_img M' c k := by
  rcases h with ⟨h1, h2⟩ | ⟨h1, f, w, h2, h3, h4, h5⟩
  · exact Or.inl ⟨by rw [he 62 _ (by omega)]; exact h1, by rw [he c _ (by omega)]; exact h2⟩
  · exact Or.inr ⟨by rw [he 62 _ (by omega)]; exact h1, f, w, h2, h3, h4.of (fun r j g1 g2 => he r j (by omega)), h5.of (fun j _ => he 63 _ (by omega))⟩
theorem vR_trace.of {M M' : vm_M} (h : vR_trace M) (he : ∀ r j, (r = 46 ∧ j = 2) ∨ r = 47 ∨ r = 64 ∨ (r = 48 ∧ j = 29) → M' r j = M r j) : vR_trace M' := by
  obtain ⟨n, h1, h2, h3, h4⟩ := h
  refine ⟨n, h1, by rw [he 46 2 (by omega)]; exact h2, by rw [he 48 29 (by omega)]; exact h3, fun i hi => ?_⟩
  rw [he 47 _ (by omega), he 64 _ (by omega)]
  exact h4 i hi
theorem vR_hill.of {M M' : vm_M} {f : Nat → Nat} {w : Nat → Int32} (h : vR_hill M f w) (he : ∀ r j, (7 ≤ r ∧ r ≤ 13) ∨ r = 52 → M' r j = M r j) : vR_hill M' f w :=
  ⟨h.1, h.2.1.of (fun r j g1 g2 => he r j (by omega)), h.2.2.of (fun j _ => he 52 _ (by omega))⟩
theorem vm_live {r j : Nat} (h : ¬ (r = 48 ∧ ¬ (j = 1 ∨ j = 8 ∨ j = 10 ∨ j = 11 ∨ j = 29)) ∧ ¬ (41 ≤ r ∧ r ≤ 45) ∧ r ≠ 53 ∧ ¬ (56 ≤ r ∧ r ≤ 61) ∧ ¬ (14 ≤ r ∧ r ≤ 20) ∧ ¬ (r = 5 ∧ ¬ (j = 1 ∨ j = 7))) : vm_dead r j = false := by
  unfold vm_dead
  simp only [Bool.or_eq_false_iff, Bool.and_eq_false_iff, beq_eq_false_iff_ne, decide_eq_false_iff_not, Bool.not_eq_false', Bool.or_eq_true, beq_iff_eq]
  omega
theorem vR.same {M M' : vm_M} (h : vR M) (he : vm_same M M') : vR M' := by
  obtain ⟨h1, h2, h3, ⟨f, w, h4, h5⟩, h6, h7, h8⟩ := h
  refine ⟨h1.of (fun r j g => he r j (vm_live (by omega))), ?_, h3.of (fun r j g => he r j (vm_live (by omega))), ⟨f, w, h4.of (fun r j g => he r j (vm_live (by omega))), h5.of (fun r j g => he r j (vm_live (by omega)))⟩, h6.of (fun r j g => he r j (vm_live (by omega))), h7.of (fun r j g => he r j (vm_live (by omega))), h8.of (fun r j g => he r j (vm_live (by omega)))⟩
  rw [he 48 1 (by decide), he 0 9 (by decide)]
  exact h2
theorem vR.thrown {M : vm_M} {v : Int32} (h : vR M) : vR (vm_u2 M 48 0 v) := h.same (vm_same.u2 (by decide))
