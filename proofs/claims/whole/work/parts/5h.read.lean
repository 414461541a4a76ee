/-! a hill read from the tape: what it comes to (a fault: its place, its number; or the hill) -/
abbrev hR : Type := Sum (Nat × Nat) (Nat → Nat)
def hp_num (b : Nat → Nat) (L e lo hi : Nat) (k : Nat → Nat → hR) : hR :=
  if tkK b L (tkS b L e) = 2 then (if lo ≤ tkV b L (tkS b L e) ∧ tkV b L (tkS b L e) ≤ hi then k (tkV b L (tkS b L e)) (tkE b L (tkS b L e)) else .inl (tkS b L e, 2)) else .inl (tkS b L e, 1)
/-- a number unlike a -/
def hp_nun (b : Nat → Nat) (L e hi a : Nat) (k : Nat → Nat → hR) : hR := hp_num b L e 0 hi (fun v e' => if a = v then .inl (tkS b L e, 2) else k v e')
def hp_sign (b : Nat → Nat) (L e : Nat) (k : Nat → hR) : hR := if tkK b L (tkS b L e) = 3 then k (tkE b L (tkS b L e)) else .inl (tkS b L e, 1)
def hp_sort (b : Nat → Nat) (L e : Nat) (k : Nat → Nat → hR) : hR :=
  if tkI b L (tkS b L e) tkW2 then k 1 (tkE b L (tkS b L e)) else if tkI b L (tkS b L e) tkW3 then k 2 (tkE b L (tkS b L e)) else if tkI b L (tkS b L e) tkW4 then k 3 (tkE b L (tkS b L e))
  else if tkI b L (tkS b L e) tkW5 then k 4 (tkE b L (tkS b L e)) else if tkI b L (tkS b L e) tkW6 then k 5 (tkE b L (tkS b L e)) else .inl (tkS b L e, 1)
def fu (f : Nat → Nat) (i v : Nat) : Nat → Nat := fun j => if j = i then v else f j
def hp_T (f : Nat → Nat) (q g t : Nat) : Nat → Nat := fu (fu (fu (fu f (6 + 4 * f 2) q) (7 + 4 * f 2) g) (8 + 4 * f 2) t) 2 (f 2 + 1)
def hp_W (f : Nat → Nat) (a c d w : Nat) : Nat → Nat := fu (fu (fu (fu (fu f (30 + 4 * f 3) a) (31 + 4 * f 3) c) (32 + 4 * f 3) d) (33 + 4 * f 3) w) 3 (f 3 + 1)
def hp_trader (b : Nat → Nat) (L : Nat) (k : Nat → (Nat → Nat) → hR) (e : Nat) (f : Nat → Nat) : hR :=
  hp_sort b L e fun q e => hp_num b L e 0 99 fun g e => hp_num b L e 0 60 fun t e => hp_sign b L e fun e => k e (hp_T f q g t)
def hp_way (b : Nat → Nat) (L : Nat) (k : Nat → (Nat → Nat) → hR) (e : Nat) (f : Nat → Nat) : hR :=
  hp_num b L e 0 (f 2 - 1) fun a e => hp_nun b L e (f 2 - 1) a fun c e => hp_num b L e 1 30 fun d e => hp_num b L e 0 1 fun w e => hp_sign b L e fun e => k e (hp_W f a c d w)
def hp_step (b : Nat → Nat) (L : Nat) (k : Nat → (Nat → Nat) → hR) (e : Nat) (f : Nat → Nat) : hR :=
  if tkK b L (tkS b L e) = 0 ∧ 0 < f 2 then .inr f
  else if tkI b L (tkS b L e) tkW1 ∧ f 3 = 0 then (if f 2 < 6 then hp_trader b L k (tkE b L (tkS b L e)) f else .inl (tkS b L e, 3))
  else if tkI b L (tkS b L e) tkW7 ∧ 0 < f 2 then (if f 3 < 10 then hp_way b L k (tkE b L (tkS b L e)) f else .inl (tkS b L e, 3))
  else .inl (tkS b L e, 1)
def hp_loop (b : Nat → Nat) (L : Nat) : Nat → Nat → (Nat → Nat) → hR
  | 0 => fun _ f => .inr f
  | n + 1 => hp_step b L (hp_loop b L n)
def hp_dw (d w : Nat) : Nat → Nat := fu (fu (fun _ => 0) 0 d) 1 w
def hp_night (b : Nat → Nat) (L : Nat) (k : Nat → (Nat → Nat) → hR) (e : Nat) : hR :=
  if tkI b L (tkS b L e) tkW0 then hp_num b L (tkE b L (tkS b L e)) 1 60 fun d e => hp_num b L e 0 60 fun w e => hp_sign b L e fun e => k e (hp_dw d w) else .inl (tkS b L e, 1)
def hp_hill (b : Nat → Nat) (L : Nat) : hR := hp_night b L (hp_loop b L 400) 0
/-- a hill that is being read -/
def hp_ok (f : Nat → Nat) : Prop := f 2 ≤ 6 ∧ f 3 ≤ 10 ∧ 1 ≤ f 0 ∧ f 0 ≤ 60 ∧ f 1 ≤ 60 ∧ f 4 = 0 ∧ f 5 = 0 ∧ (∀ x, x < f 2 → 1 ≤ f (6 + 4 * x) ∧ f (6 + 4 * x) ≤ 5 ∧ f (7 + 4 * x) ≤ 99 ∧ f (8 + 4 * x) ≤ 60) ∧ ∀ k, k < f 3 → vh_wok f k
theorem hp_ok.done {f : Nat → Nat} (h : hp_ok f) (h2 : 0 < f 2) : vh_ok f := by
  obtain ⟨h1, h3, h4, h5, h6, h7, h8, h9, h10⟩ := h
  exact ⟨h1, h3, h5, h6, by omega, fun _ => ⟨by omega, h4⟩, fun q => absurd q (by omega), h9, h10⟩
theorem fu_eq (f : Nat → Nat) (i v : Nat) : fu f i v i = v := if_pos rfl
theorem fu_ne {f : Nat → Nat} {i v j : Nat} (h : j ≠ i) : fu f i v j = f j := if_neg h
theorem hp_T_2 (f : Nat → Nat) (q g t : Nat) : hp_T f q g t 2 = f 2 + 1 := fu_eq _ _ _
theorem hp_T_o {f : Nat → Nat} {q g t j : Nat} (h2 : j ≠ 2) (h : j < 6 + 4 * f 2 ∨ 8 + 4 * f 2 < j) : hp_T f q g t j = f j := by
  unfold hp_T
  rw [fu_ne h2, fu_ne (by omega), fu_ne (by omega), fu_ne (by omega)]
theorem hp_T_n (f : Nat → Nat) (q g t : Nat) : hp_T f q g t (6 + 4 * f 2) = q ∧ hp_T f q g t (7 + 4 * f 2) = g ∧ hp_T f q g t (8 + 4 * f 2) = t := by
  unfold hp_T
  refine ⟨?_, ?_, ?_⟩
  · rw [fu_ne (by omega), fu_ne (by omega), fu_ne (by omega), fu_eq]
  · rw [fu_ne (by omega), fu_ne (by omega), fu_eq]
  · rw [fu_ne (by omega), fu_eq]
theorem hp_W_3 (f : Nat → Nat) (a c d w : Nat) : hp_W f a c d w 3 = f 3 + 1 := fu_eq _ _ _
theorem hp_W_o {f : Nat → Nat} {a c d w j : Nat} (h2 : j ≠ 3) (h : j < 30 + 4 * f 3 ∨ 33 + 4 * f 3 < j) : hp_W f a c d w j = f j := by
  unfold hp_W
  rw [fu_ne h2, fu_ne (by omega), fu_ne (by omega), fu_ne (by omega), fu_ne (by omega)]
theorem hp_W_n (f : Nat → Nat) (a c d w : Nat) : hp_W f a c d w (30 + 4 * f 3) = a ∧ hp_W f a c d w (31 + 4 * f 3) = c ∧ hp_W f a c d w (32 + 4 * f 3) = d ∧ hp_W f a c d w (33 + 4 * f 3) = w := by
  unfold hp_W
  refine ⟨?_, ?_, ?_, ?_⟩
  · rw [fu_ne (by omega), fu_ne (by omega), fu_ne (by omega), fu_ne (by omega), fu_eq]
  · rw [fu_ne (by omega), fu_ne (by omega), fu_ne (by omega), fu_eq]
  · rw [fu_ne (by omega), fu_ne (by omega), fu_eq]
  · rw [fu_ne (by omega), fu_eq]
theorem hp_ok.T {f : Nat → Nat} {q g t : Nat} (h : hp_ok f) (h2 : f 2 < 6) (hq : 1 ≤ q ∧ q ≤ 5) (hg : g ≤ 99) (ht : t ≤ 60) : hp_ok (hp_T f q g t) := by
  obtain ⟨h1, h3, h4, h5, h6, h7, h8, h9, h10⟩ := h
  obtain ⟨n1, n2, n3⟩ := hp_T_n f q g t
  refine ⟨by rw [hp_T_2]; omega, by rw [hp_T_o (by omega) (by omega)]; exact h3, by rw [hp_T_o (by omega) (by omega)]; exact h4, by rw [hp_T_o (by omega) (by omega)]; exact h5, by rw [hp_T_o (by omega) (by omega)]; exact h6, by rw [hp_T_o (by omega) (by omega)]; exact h7, by rw [hp_T_o (by omega) (by omega)]; exact h8, fun x hx => ?_, fun k hk => ?_⟩
  · rw [hp_T_2] at hx
    by_cases hxf : x = f 2
    · subst hxf
      rw [n1, n2, n3]
      omega
    · rw [hp_T_o (by omega) (by omega), hp_T_o (by omega) (by omega), hp_T_o (by omega) (by omega)]
      exact h9 x (by omega)
  · rw [hp_T_o (by omega) (by omega)] at hk
    have := h10 k hk
    unfold vh_wok at this ⊢
    rw [hp_T_2, hp_T_o (by omega) (by omega), hp_T_o (by omega) (by omega), hp_T_o (by omega) (by omega), hp_T_o (by omega) (by omega)]
    omega
theorem hp_ok.W {f : Nat → Nat} {a c d w : Nat} (h : hp_ok f) (h3 : f 3 < 10) (ha : a < f 2) (hc : c < f 2) (hac : a ≠ c) (hd : 1 ≤ d ∧ d ≤ 30) (hw : w ≤ 1) : hp_ok (hp_W f a c d w) := by
  obtain ⟨h1, _, h4, h5, h6, h7, h8, h9, h10⟩ := h
  obtain ⟨n1, n2, n3, n4⟩ := hp_W_n f a c d w
  refine ⟨by rw [hp_W_o (by omega) (by omega)]; exact h1, by rw [hp_W_3]; omega, by rw [hp_W_o (by omega) (by omega)]; exact h4, by rw [hp_W_o (by omega) (by omega)]; exact h5, by rw [hp_W_o (by omega) (by omega)]; exact h6, by rw [hp_W_o (by omega) (by omega)]; exact h7, by rw [hp_W_o (by omega) (by omega)]; exact h8, fun x hx => ?_, fun k hk => ?_⟩
  · rw [hp_W_o (by omega) (by omega)] at hx
    rw [hp_W_o (by omega) (by omega), hp_W_o (by omega) (by omega), hp_W_o (by omega) (by omega)]
    exact h9 x hx
  · rw [hp_W_3] at hk
    unfold vh_wok
    by_cases hkf : k = f 3
    · subst hkf
      rw [n1, n2, n3, n4, hp_W_o (by omega) (by omega)]
      omega
    · have := h10 k (by omega)
      unfold vh_wok at this
      rw [hp_W_o (by omega) (by omega), hp_W_o (by omega) (by omega), hp_W_o (by omega) (by omega), hp_W_o (by omega) (by omega), hp_W_o (by omega) (by omega)]
      exact this
theorem vh_min_cg {f f' : Nat → Nat} (wet a b : Nat) : ∀ k, (∀ j, 30 ≤ j → j < 30 + 4 * k → f' j = f j) → vh_min f' wet a b k = vh_min f wet a b k
  | 0, _ => rfl
  | k + 1, h => by
    have ih := vh_min_cg wet a b k (fun j h1 h2 => h j h1 (by omega))
    unfold vh_min vh_j
    rw [ih, h _ (by omega) (by omega), h _ (by omega) (by omega), h _ (by omega) (by omega), h _ (by omega) (by omega)]
theorem vh_min_sym (f : Nat → Nat) (wet a b : Nat) : ∀ k, vh_min f wet a b k = vh_min f wet b a k
  | 0 => rfl
  | k + 1 => by
    have ih := vh_min_sym f wet a b k
    have ej : vh_j f k a b ↔ vh_j f k b a := by unfold vh_j; omega
    unfold vh_min
    rw [ih]
    simp only [ej]
theorem hp_dw_ok {d w : Nat} (hd : 1 ≤ d ∧ d ≤ 60) (hw : w ≤ 60) : hp_ok (hp_dw d w) := by
  have e2 : hp_dw d w 2 = 0 := rfl
  have e3 : hp_dw d w 3 = 0 := rfl
  have e0 : hp_dw d w 0 = d := rfl
  have e1 : hp_dw d w 1 = w := rfl
  refine ⟨by omega, by omega, by omega, by omega, by omega, rfl, rfl, fun x hx => ?_, fun k hk => ?_⟩
  · rw [e2] at hx
    exact absurd hx (Nat.not_lt_zero _)
  · rw [e3] at hk
    exact absurd hk (Nat.not_lt_zero _)
