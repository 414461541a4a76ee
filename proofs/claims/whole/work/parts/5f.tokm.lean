/-! the reference's next, its names and numbers -/
section TM
variable {X : Nat × (Nat → Int32)} {M : vm_M} {b : Nat → Nat} {L : Nat}
/-- the token that the reference has ahead of it: its place s -/
def tmK (b : Nat → Nat) (L s : Nat) (M : vm_M) : Prop := M 48 15 = nI s ∧ M 48 16 = nI (tkE b L s) ∧ M 48 13 = nI (tkE b L s) ∧ M 48 14 = nI (tkm (tkK b L s))
theorem tmT.of {M M' : vm_M} (h : tmT b L M) (he : ∀ r j, r = 55 ∨ (r = 48 ∧ j = 12) → M' r j = M r j) : tmT b L M' := by
  obtain ⟨hL, e12, hb⟩ := h
  exact ⟨hL, by rw [he _ _ (by omega)]; exact e12, fun i hi => by rw [he _ _ (by omega)]; exact hb i hi⟩
theorem tcT.of {M M' : vm_M} (h : tcT b L M) (he : ∀ r j, r = 6 ∨ (r = 5 ∧ j = 1) → M' r j = M r j) : tcT b L M' := by
  obtain ⟨hL, e12, hb⟩ := h
  exact ⟨hL, by rw [he _ _ (by omega)]; exact e12, fun i hi => by rw [he _ _ (by omega)]; exact hb i hi⟩
theorem s_M_77 {P : vm_M → Prop} {x : Int32} : ∀ (n q : Nat) (M : vm_M), q + n = L → tmT b L M → M 48 13 = nI q → (∀ M', (∀ r j, ¬ (r = 48 ∧ 13 ≤ j ∧ j ≤ 16 ∧ j ≠ 15) → M' r j = M r j) → M' 48 13 = nI (tk_to b L tk_lt q) → M' 48 16 = nI (tk_to b L tk_lt q) → M' 48 14 = nI 2 → P M') → C_M_next_77 X x M P := by
  intro n
  induction n with
  | zero =>
    intro q M hq hT e3 h
    have eq : tk_to b L tk_lt q = q := tk_to_end (by omega)
    rw [eq] at h
    have hL := hT.1
    apply v_M_next_77
    rw [e3]
    refine s_byteAt hT (by omega) (fun g => absurd g (by omega)) (fun _ => s_M_ltN ⟨fun _ => ?_, fun g => absurd rfl g⟩)
    have x3 : (vm_u2 M 48 14 (nI 2)) 48 13 = nI q := by rw [vm_u2_ne (by omega)]; exact e3
    rw [x3]
    exact h _ (fun r j hrj => by rw [vm_u2_ne (by omega), vm_u2_ne (by omega)]) (by rw [vm_u2_ne (by omega)]; exact x3) vm_u2_eq (by rw [vm_u2_ne (by omega), vm_u2_eq])
  | succ n ih =>
    intro q M hq hT e3 h
    obtain ⟨hL, e12, hb⟩ := id hT
    apply v_M_next_77
    rw [e3]
    refine s_byteAt hT (by omega) (fun _ => ?_) (fun g => absurd (by omega) g)
    refine s_M_lt (hb q (by omega)).1 (fun hl => ⟨fun q => absurd q (by decide), fun _ => ?_⟩) (fun hl => ⟨fun _ => ?_, fun g => absurd rfl g⟩)
    · rw [tk_to_s (by omega) hl] at h
      rw [e3, vm_add]
      refine ih (q + 1) _ (by omega) (hT.of (fun r j g => by rw [vm_u2_ne (by omega)])) vm_u2_eq (fun M' h1 h2 h3 h4 => h M' (fun r j hrj => ?_) h2 h3 h4)
      rw [h1 r j hrj, vm_u2_ne (by omega)]
    · have eq : tk_to b L tk_lt q = q := tk_to_n (by omega) hl
      rw [eq] at h
      have x3 : (vm_u2 M 48 14 (nI 2)) 48 13 = nI q := by rw [vm_u2_ne (by omega)]; exact e3
      rw [x3]
      exact h _ (fun r j hrj => by rw [vm_u2_ne (by omega), vm_u2_ne (by omega)]) (by rw [vm_u2_ne (by omega)]; exact x3) vm_u2_eq (by rw [vm_u2_ne (by omega), vm_u2_eq])
theorem s_M_119 {P : vm_M → Prop} {x : Int32} {s : Nat} : ∀ (n q : Nat) (M : vm_M), q + n = L → s ≤ q → tmT b L M → M 48 13 = nI q → M 48 15 = nI s → (∀ M', (∀ r j, ¬ (r = 48 ∧ 13 ≤ j ∧ j ≤ 16 ∧ j ≠ 15) → M' r j = M r j) → M' 48 13 = nI (tk_to b L tk_fg q) → M' 48 16 = nI (tk_to b L tk_fg q) → M' 48 14 = (if 3 < tk_to b L tk_fg q - s then nI 0 else nI 3) → P M') → C_M_next_119 X x M P := by
  intro n
  induction n with
  | zero =>
    intro q M hq hs hT e3 e15 h
    have eq : tk_to b L tk_fg q = q := tk_to_end (by omega)
    rw [eq] at h
    have hL := hT.1
    apply v_M_next_119
    rw [e3]
    refine s_byteAt hT (by omega) (fun g => absurd g (by omega)) (fun _ => s_M_fgN ⟨fun _ => ?_, fun g => absurd rfl g⟩)
    rw [e3, e15, pk_sub hs, nI_ltI (by omega) (by omega)]
    refine ⟨fun g => ?_, fun g => ?_⟩
    · have x3 : (vm_u2 M 48 14 (nI 0)) 48 13 = nI q := by rw [vm_u2_ne (by omega)]; exact e3
      rw [x3]
      exact h _ (fun r j hrj => by rw [vm_u2_ne (by omega), vm_u2_ne (by omega)]) (by rw [vm_u2_ne (by omega)]; exact x3) vm_u2_eq (by rw [vm_u2_ne (by omega), vm_u2_eq, if_pos g])
    · have x3 : (vm_u2 M 48 14 (nI 3)) 48 13 = nI q := by rw [vm_u2_ne (by omega)]; exact e3
      rw [x3]
      exact h _ (fun r j hrj => by rw [vm_u2_ne (by omega), vm_u2_ne (by omega)]) (by rw [vm_u2_ne (by omega)]; exact x3) vm_u2_eq (by rw [vm_u2_ne (by omega), vm_u2_eq, if_neg g])
  | succ n ih =>
    intro q M hq hs hT e3 e15 h
    obtain ⟨hL, e12, hb⟩ := id hT
    apply v_M_next_119
    rw [e3]
    refine s_byteAt hT (by omega) (fun _ => ?_) (fun g => absurd (by omega) g)
    refine s_M_fg (hb q (by omega)).1 (fun hl => ⟨fun q => absurd q (by decide), fun _ => ?_⟩) (fun hl => ⟨fun _ => ?_, fun g => absurd rfl g⟩)
    · rw [tk_to_s (by omega) hl] at h
      rw [e3, vm_add]
      refine ih (q + 1) _ (by omega) (by omega) (hT.of (fun r j g => by rw [vm_u2_ne (by omega)])) vm_u2_eq (by rw [vm_u2_ne (by omega)]; exact e15) (fun M' h1 h2 h3 h4 => h M' (fun r j hrj => ?_) h2 h3 h4)
      rw [h1 r j hrj, vm_u2_ne (by omega)]
    · have eq : tk_to b L tk_fg q = q := tk_to_n (by omega) hl
      rw [eq] at h
      rw [e3, e15, pk_sub hs, nI_ltI (by omega) (by omega)]
      refine ⟨fun g => ?_, fun g => ?_⟩
      · have x3 : (vm_u2 M 48 14 (nI 0)) 48 13 = nI q := by rw [vm_u2_ne (by omega)]; exact e3
        rw [x3]
        exact h _ (fun r j hrj => by rw [vm_u2_ne (by omega), vm_u2_ne (by omega)]) (by rw [vm_u2_ne (by omega)]; exact x3) vm_u2_eq (by rw [vm_u2_ne (by omega), vm_u2_eq, if_pos g])
      · have x3 : (vm_u2 M 48 14 (nI 3)) 48 13 = nI q := by rw [vm_u2_ne (by omega)]; exact e3
        rw [x3]
        exact h _ (fun r j hrj => by rw [vm_u2_ne (by omega), vm_u2_ne (by omega)]) (by rw [vm_u2_ne (by omega)]; exact x3) vm_u2_eq (by rw [vm_u2_ne (by omega), vm_u2_eq, if_neg g])
theorem s_M_next {P : vm_M → Prop} {w : Value} : ∀ (n e : Nat) (M : vm_M), e + n = L → tmT b L M → M 48 13 = nI e → (∀ M', (∀ r j, ¬ (r = 48 ∧ 13 ≤ j ∧ j ≤ 16) → M' r j = M r j) → tmK b L (tkS b L e) M' → P M') → C_M_next_0 X w M P := by
  have tok : ∀ (e : Nat) (M : vm_M), e ≤ L → tmT b L M → M 48 13 = nI e → ¬ (e < L ∧ tk_bl (b e) = true) → (∀ M', (∀ r j, ¬ (r = 48 ∧ 13 ≤ j ∧ j ≤ 16) → M' r j = M r j) → tmK b L e M' → P M') →
      E_M_byteAt X ((vm_u2 M 48 15 (M 48 13)) 48 13) (vm_u2 M 48 15 (M 48 13)) (fun v5 M6 => (v5 = (Int32.ofInt (-1000000)) → (P  (vm_u2 (vm_u2 M6 48 14 (nI 1)) 48 16 ((vm_u2 M6 48 14 (nI 1)) 48 13)))) ∧ (¬ (v5 = (Int32.ofInt (-1000000))) → (E_M_isLetter X v5 M6 (fun v7 M8 => (v7 = 0 → (E_M_isFigure X v5 M8 (fun v9 M10 => (v9 = 0 → ((v5 = (nI 59) → (P  (vm_u2 (vm_u2 (vm_u2 M10 48 13 ((M10 48 13) + (nI 1))) 48 14 (nI 4)) 48 16 ((vm_u2 (vm_u2 M10 48 13 ((M10 48 13) + (nI 1))) 48 14 (nI 4)) 48 13)))) ∧ (¬ (v5 = (nI 59)) → (P  (vm_u2 (vm_u2 (vm_u2 M10 48 13 ((M10 48 13) + (nI 1))) 48 14 (nI 0)) 48 16 ((vm_u2 (vm_u2 M10 48 13 ((M10 48 13) + (nI 1))) 48 14 (nI 0)) 48 13)))))) ∧ (¬ (v9 = 0) → (C_M_next_119 X v5 M10 P))))) ∧ (¬ (v7 = 0) → (C_M_next_77 X v5 M8 P)))))) := by
    intro e M he hT e3 hid h
    obtain ⟨hL, e12, hb⟩ := id hT
    have f3 : (vm_u2 M 48 15 (M 48 13)) 48 13 = nI e := by rw [vm_u2_ne (by omega)]; exact e3
    have f15 : (vm_u2 M 48 15 (M 48 13)) 48 15 = nI e := by rw [vm_u2_eq]; exact e3
    have fr : ∀ r j, ¬ (r = 48 ∧ j = 15) → (vm_u2 M 48 15 (M 48 13)) r j = M r j := fun r j hrj => vm_u2_ne hrj
    generalize hM1 : vm_u2 M 48 15 (M 48 13) = M1 at f3 f15 fr ⊢
    have hT1 : tmT b L M1 := hT.of (fun r j g => fr r j (by omega))
    unfold tmK tkK tkE at h
    rw [f3]
    refine s_byteAt hT1 (by omega) (fun hel => ⟨fun q => absurd ((vm_nI_none (by have := (hb e hel).1; omega)).mp q) id, fun _ => ?_⟩) (fun hel => ⟨fun _ => ?_, fun g => absurd rfl g⟩)
    · have hbe := (hb e hel).1
      refine s_M_lt hbe (fun hl => ⟨fun q => absurd q (by decide), fun _ => ?_⟩) (fun hl => ⟨fun _ => ?_, fun q => absurd rfl q⟩)
      · refine s_M_77 (L - e) e M1 (by omega) hT1 f3 (fun M' g1 g2 g3 g4 => ?_)
        refine h M' (fun r j hrj => ?_) ⟨?_, ?_, ?_, ?_⟩
        · rw [g1 r j (by omega), fr r j (by omega)]
        · rw [g1 _ _ (by omega)]; exact f15
        · rw [if_pos hel, if_pos hl]; exact g3
        · rw [if_pos hel, if_pos hl]; exact g2
        · rw [if_pos hel, if_pos hl]; exact g4
      · refine s_M_fg hbe (fun hf => ⟨fun q => absurd q (by decide), fun _ => ?_⟩) (fun hf => ⟨fun _ => ?_, fun q => absurd rfl q⟩)
        · refine s_M_119 (s := e) (L - e) e M1 (by omega) (Nat.le_refl _) hT1 f3 f15 (fun M' g1 g2 g3 g4 => ?_)
          refine h M' (fun r j hrj => ?_) ⟨?_, ?_, ?_, ?_⟩
          · rw [g1 r j (by omega), fr r j (by omega)]
          · rw [g1 _ _ (by omega)]; exact f15
          · rw [if_pos hel, if_neg hl, if_pos hf]; exact g3
          · rw [if_pos hel, if_neg hl, if_pos hf]; exact g2
          · rw [if_pos hel, if_neg hl, if_pos hf, g4]; split <;> rfl
        · rw [nI_eq (by omega) (by omega), f3, vm_add]
          refine ⟨fun g => ?_, fun g => ?_⟩
          · have x3 : (vm_u2 (vm_u2 M1 48 13 (nI (e + 1))) 48 14 (nI 4)) 48 13 = nI (e + 1) := by rw [vm_u2_ne (by omega), vm_u2_eq]
            rw [x3]
            refine h _ (fun r j hrj => ?_) ⟨?_, ?_, ?_, ?_⟩
            · rw [vm_u2_ne (by omega), vm_u2_ne (by omega), vm_u2_ne (by omega), fr r j (by omega)]
            · rw [vm_u2_ne (by omega), vm_u2_ne (by omega), vm_u2_ne (by omega)]; exact f15
            · rw [vm_u2_eq, if_pos hel, if_neg hl, if_neg hf]
            · rw [vm_u2_ne (by omega), x3, if_pos hel, if_neg hl, if_neg hf]
            · rw [vm_u2_ne (by omega), vm_u2_eq, if_pos hel, if_neg hl, if_neg hf, if_pos g]; rfl
          · have x3 : (vm_u2 (vm_u2 M1 48 13 (nI (e + 1))) 48 14 (nI 0)) 48 13 = nI (e + 1) := by rw [vm_u2_ne (by omega), vm_u2_eq]
            rw [x3]
            refine h _ (fun r j hrj => ?_) ⟨?_, ?_, ?_, ?_⟩
            · rw [vm_u2_ne (by omega), vm_u2_ne (by omega), vm_u2_ne (by omega), fr r j (by omega)]
            · rw [vm_u2_ne (by omega), vm_u2_ne (by omega), vm_u2_ne (by omega)]; exact f15
            · rw [vm_u2_eq, if_pos hel, if_neg hl, if_neg hf]
            · rw [vm_u2_ne (by omega), x3, if_pos hel, if_neg hl, if_neg hf]
            · rw [vm_u2_ne (by omega), vm_u2_eq, if_pos hel, if_neg hl, if_neg hf, if_neg g]; rfl
    · have x3 : (vm_u2 M1 48 14 (nI 1)) 48 13 = nI e := by rw [vm_u2_ne (by omega)]; exact f3
      rw [x3]
      refine h _ (fun r j hrj => ?_) ⟨?_, ?_, ?_, ?_⟩
      · rw [vm_u2_ne (by omega), vm_u2_ne (by omega), fr r j (by omega)]
      · rw [vm_u2_ne (by omega), vm_u2_ne (by omega)]; exact f15
      · rw [vm_u2_eq, if_neg hel]
      · rw [vm_u2_ne (by omega), x3, if_neg hel]
      · rw [vm_u2_ne (by omega), vm_u2_eq, if_neg hel]; rfl
  intro n
  induction n with
  | zero =>
    intro e M he hT e3 h
    have hL := hT.1
    have hid : ¬ (e < L ∧ tk_bl (b e) = true) := by omega
    rw [tkS_id hid] at h
    have t := tok e M (by omega) hT e3 hid h
    apply v_M_next_0
    rw [e3] at t ⊢
    refine s_byteAt hT (by omega) (fun g => absurd g (by omega)) (fun _ => ⟨fun q => absurd q (by decide), fun _ => ?_⟩)
    rw [e3]
    refine s_byteAt hT (by omega) (fun g => absurd g (by omega)) (fun _ => ⟨fun q => absurd q (by decide), fun _ => ?_⟩)
    rw [e3]
    exact t
  | succ n ih =>
    intro e M he hT e3 h
    obtain ⟨hL, e12, hb⟩ := id hT
    have hbe := (hb e (by omega)).1
    have bl : tk_bl (b e) = true → C_M_next_0 X w (vm_u2 M 48 13 (nI (e + 1))) P := by
      intro hbl
      rw [tkS_bl (by omega) hbl] at h
      refine ih (e + 1) _ (by omega) (hT.of (fun r j g => by rw [vm_u2_ne (by omega)])) vm_u2_eq (fun M' g1 g2 => ?_)
      exact h M' (fun r j hrj => by rw [g1 r j hrj, vm_u2_ne (by omega)]) g2
    apply v_M_next_0
    rw [e3]
    refine s_byteAt hT (by omega) (fun _ => ⟨fun q => ?_, fun q1 => ?_⟩) (fun g => absurd (by omega) g)
    · rw [nI_eq (by omega) (by omega)] at q
      rw [e3, vm_add]
      exact bl (by unfold tk_bl; simp [q])
    · rw [nI_eq (by omega) (by omega)] at q1
      rw [e3]
      refine s_byteAt hT (by omega) (fun _ => ⟨fun q => ?_, fun q2 => ?_⟩) (fun g => absurd (by omega) g)
      · rw [nI_eq (by omega) (by omega)] at q
        rw [e3, vm_add]
        exact bl (by unfold tk_bl; simp [q])
      · rw [nI_eq (by omega) (by omega)] at q2
        have hid : ¬ (e < L ∧ tk_bl (b e) = true) := by
          unfold tk_bl
          simp [q1, q2]
        rw [tkS_id hid] at h
        exact tok e M (by omega) hT e3 hid h
end TM
