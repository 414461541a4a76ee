/-! the class reads a hill -/
section CR
variable {X : Nat × (Nat → Int32)} {M : vm_M} {b : Nat → Nat} {L : Nat}
abbrev cM1 : Int32 := Int32.ofInt (-1)
def fr5 (M M' : vm_M) : Prop := ∀ r j, ¬ (r = 5 ∧ 2 ≤ j) → M' r j = M r j
def frD (M M' : vm_M) : Prop := ∀ r j, ¬ (r = 5 ∧ 2 ≤ j) → ¬ (14 ≤ r ∧ r ≤ 20) → M' r j = M r j
theorem fr5.rfl' : fr5 M M := fun _ _ _ => rfl
theorem fr5.tr {M M' M'' : vm_M} (h : fr5 M M') (h' : fr5 M' M'') : fr5 M M'' := fun r j hr => (h' r j hr).trans (h r j hr)
theorem fr5.D {M M' : vm_M} (h : fr5 M M') : frD M M' := fun r j h1 _ => h r j h1
theorem frD.tr {M M' M'' : vm_M} (h : frD M M') (h' : frD M' M'') : frD M M'' := fun r j h1 h2 => (h' r j h1 h2).trans (h r j h1 h2)
theorem frD.rfl' : frD M M := fun _ _ _ _ => rfl
theorem frD.u2 {r j : Nat} {v : Int32} (h : 14 ≤ r ∧ r ≤ 20) : frD M (vm_u2 M r j v) := fun r' j' _ h2 => vm_u2_r (fun q : r' = r => h2 (by rw [q]; exact h)) j'
/-- live, at e; or a fault is found -/
def tcA (b : Nat → Nat) (L e : Nat) (M : vm_M) : Prop := tcT b L M ∧ e ≤ L ∧ M 5 3 = nI e ∧ M 5 6 = cM1
def tcB (b : Nat → Nat) (L s n : Nat) (M : vm_M) : Prop := tcT b L M ∧ (∃ e, e ≤ L ∧ M 5 3 = nI e) ∧ s ≤ L ∧ M 5 6 = nI s ∧ M 5 7 = nI n
theorem tcA.of {M M' : vm_M} {e : Nat} (h : tcA b L e M) (he : ∀ r j, r = 5 ∨ r = 6 → M' r j = M r j) : tcA b L e M' :=
  ⟨h.1.of (fun r j g => he r j (by omega)), h.2.1, by rw [he _ _ (by omega)]; exact h.2.2.1, by rw [he _ _ (by omega)]; exact h.2.2.2⟩
theorem tcB.of {M M' : vm_M} {s n : Nat} (h : tcB b L s n M) (he : ∀ r j, r = 5 ∨ r = 6 → M' r j = M r j) : tcB b L s n M' := by
  obtain ⟨h1, ⟨e, h2, h3⟩, h4, h5, h6⟩ := h
  exact ⟨h1.of (fun r j g => he r j (by omega)), ⟨e, h2, by rw [he _ _ (by omega)]; exact h3⟩, h4, by rw [he _ _ (by omega)]; exact h5, by rw [he _ _ (by omega)]; exact h6⟩
theorem cM1_lt : cM1 < 0 := by decide
/-- in a fault nothing counts -/
theorem f_fail {P : vm_M → Prop} {s n : Nat} {a : Int32} (hB : tcB b L s n M) (h : P M) : E_Tape_fail X a M P := by
  apply v_Tape_fail
  have := hB.1.1
  have := hB.2.2.1
  rw [hB.2.2.2.1, vm_nneg (by omega)]
  exact ⟨fun q => q.elim, fun _ => h⟩
theorem f_next {P : vm_M → Prop} {s n : Nat} (hB : tcB b L s n M) (h : ∀ M' t, fr5 M M' → tcB b L s n M' → t ≤ L → tcK b L t M' → P M') : E_Tape_next X M P := by
  obtain ⟨h1, ⟨e, h2, h3⟩, h4, h5, h6⟩ := id hB
  show C_Tape_next_0 X M P
  refine s_T_next (L - e) e M (by omega) h1 h3 (fun M' g1 g2 => ?_)
  have hs := tkS_le (b := b) h2
  refine h M' _ (fun r j hr => g1 r j (by omega)) ⟨h1.of (fun r j g => g1 r j (by omega)), ⟨_, tkE_le (b := b) hs, g2.2.1⟩, h4, ?_, ?_⟩ hs g2
  · rw [g1 _ _ (by omega)]; exact h5
  · rw [g1 _ _ (by omega)]; exact h6
theorem f_num {P : Int32 → vm_M → Prop} {s n : Nat} {lo hi : Int32} (hB : tcB b L s n M) (h : ∀ v M', fr5 M M' → tcB b L s n M' → P v M') : E_Tape_readNumber X lo hi M P := by
  apply v_Tape_readNumber
  refine f_next hB (fun M' t h1 h2 h3 h4 => ?_)
  have := h (M' 5 5) M' h1 h2
  exact ⟨fun _ => ⟨fun _ => f_fail h2 this, fun _ => ⟨fun _ => f_fail h2 this, fun _ => this⟩⟩, fun _ => f_fail h2 this⟩
theorem f_sign {P : vm_M → Prop} {s n : Nat} (hB : tcB b L s n M) (h : ∀ M', fr5 M M' → tcB b L s n M' → P M') : E_Tape_readSign X M P := by
  apply v_Tape_readSign
  refine f_next hB (fun M' t h1 h2 h3 h4 => ?_)
  have := h M' h1 h2
  exact ⟨fun _ => this, fun _ => f_fail h2 this⟩
/-- live -/
theorem s_T_fail {P : vm_M → Prop} {e s n : Nat} (hA : tcA b L e M) (hs : s ≤ L) (h2 : M 5 2 = nI s) (h : ∀ M', fr5 M M' → tcB b L s n M' → P M') : E_Tape_fail X (nI n) M P := by
  apply v_Tape_fail
  rw [hA.2.2.2]
  refine ⟨fun _ => ?_, fun q => absurd cM1_lt q⟩
  rw [h2]
  refine h _ (fun r j hr => ?_) ⟨hA.1.of (fun r j g => ?_), ⟨e, hA.2.1, ?_⟩, hs, ?_, vm_u2_eq⟩
  · rw [vm_u2_ne (by omega), vm_u2_ne (by omega)]
  · rw [vm_u2_ne (by omega), vm_u2_ne (by omega)]
  · rw [vm_u2_ne (by omega), vm_u2_ne (by omega)]; exact hA.2.2.1
  · rw [vm_u2_ne (by omega), vm_u2_eq]
theorem s_T_nextA {P : vm_M → Prop} {e : Nat} (hA : tcA b L e M) (h : ∀ M', fr5 M M' → M' 5 7 = M 5 7 → tcA b L (tkE b L (tkS b L e)) M' → tcK b L (tkS b L e) M' → tkS b L e ≤ L → P M') : E_Tape_next X M P := by
  obtain ⟨h1, h2, h3, h4⟩ := id hA
  show C_Tape_next_0 X M P
  refine s_T_next (L - e) e M (by omega) h1 h3 (fun M' g1 g2 => ?_)
  have hs := tkS_le (b := b) h2
  refine h M' (fun r j hr => g1 r j (by omega)) (g1 _ _ (by omega)) ⟨h1.of (fun r j g => g1 r j (by omega)), tkE_le hs, g2.2.1, ?_⟩ g2 hs
  rw [g1 _ _ (by omega)]; exact h4
theorem tk_adv {e : Nat} (h : tkK b L (tkS b L e) ≠ 0) : e < tkE b L (tkS b L e) := Nat.lt_of_le_of_lt (tkS_ge b L e) (tkE_gt h)
theorem s_T_num {P : Int32 → vm_M → Prop} {R : hR} {e lo hi : Nat} {k : Nat → Nat → hR} (hhi : hi ≤ 100) (hlo : lo ≤ 100) (hR : R = hp_num b L e lo hi k) (hA : tcA b L e M)
    (h1 : ∀ v e' M', R = k v e' → lo ≤ v → v ≤ hi → fr5 M M' → M' 5 7 = M 5 7 → tcA b L e' M' → M' 5 2 = nI (tkS b L e) → e < e' → P (nI v) M')
    (h2 : ∀ s n v M', R = .inl (s, n) → fr5 M M' → tcB b L s n M' → P v M') : E_Tape_readNumber X (nI lo) (nI hi) M P := by
  apply v_Tape_readNumber
  refine s_T_nextA hA (fun M' g1 g2 g3 g4 g5 => ?_)
  unfold hp_num at hR
  have hkl := tkK_le b L (tkS b L e)
  rw [g4.2.2.1, nI_eq (by omega) (by omega)]
  refine ⟨fun hk => ?_, fun hk => ?_⟩
  · rw [if_pos hk] at hR
    have hv := tkV_lt hk
    rw [g4.2.2.2 hk, nI_ltI (by omega) (by omega), nI_ltI (by omega) (by omega)]
    refine ⟨fun q => ?_, fun q => ⟨fun q2 => ?_, fun q2 => ?_⟩⟩
    · rw [if_neg (by omega)] at hR
      exact s_T_fail g3 g5 g4.1 (fun M2 f1 f2 => h2 _ _ _ _ hR (g1.tr f1) f2)
    · rw [if_neg (by omega)] at hR
      exact s_T_fail g3 g5 g4.1 (fun M2 f1 f2 => h2 _ _ _ _ hR (g1.tr f1) f2)
    · rw [if_pos (by omega)] at hR
      exact h1 _ _ _ hR (by omega) (by omega) g1 g2 g3 g4.1 (tk_adv (by omega))
  · rw [if_neg hk] at hR
    exact s_T_fail g3 g5 g4.1 (fun M2 f1 f2 => h2 _ _ _ _ hR (g1.tr f1) f2)
theorem s_T_sign {P : vm_M → Prop} {R : hR} {e : Nat} {k : Nat → hR} (hR : R = hp_sign b L e k) (hA : tcA b L e M)
    (h1 : ∀ e' M', R = k e' → fr5 M M' → M' 5 7 = M 5 7 → tcA b L e' M' → e < e' → P M')
    (h2 : ∀ s n M', R = .inl (s, n) → fr5 M M' → tcB b L s n M' → P M') : E_Tape_readSign X M P := by
  apply v_Tape_readSign
  refine s_T_nextA hA (fun M' g1 g2 g3 g4 g5 => ?_)
  unfold hp_sign at hR
  have hkl := tkK_le b L (tkS b L e)
  rw [g4.2.2.1, nI_eq (by omega) (by omega)]
  refine ⟨fun hk => ?_, fun hk => ?_⟩
  · rw [if_pos hk] at hR
    exact h1 _ _ hR g1 g2 g3 (tk_adv (by omega))
  · rw [if_neg hk] at hR
    exact s_T_fail g3 g5 g4.1 (fun M2 f1 f2 => h2 _ _ _ hR (g1.tr f1) f2)
theorem s_T_sort {P : Int32 → vm_M → Prop} {R : hR} {e : Nat} {k : Nat → Nat → hR} (hR : R = hp_sort b L e k) (hA : tcA b L e M)
    (h1 : ∀ v e' M', R = k v e' → 1 ≤ v → v ≤ 5 → fr5 M M' → M' 5 7 = M 5 7 → tcA b L e' M' → e < e' → P (nI v) M')
    (h2 : ∀ s n v M', R = .inl (s, n) → fr5 M M' → tcB b L s n M' → P v M') : E_Tape_readSort X M P := by
  apply v_Tape_readSort
  refine s_T_nextA hA (fun M' g1 g2 g3 g4 g5 => ?_)
  unfold hp_sort at hR
  have n1 : ∀ {c d : Prop}, d → ((nI 1 = 0 → c) ∧ (¬ nI 1 = 0 → d)) := fun hd => ⟨fun q => absurd q (by decide), fun _ => hd⟩
  have n0 : ∀ {c d : Prop}, c → ((nI 0 = 0 → c) ∧ (¬ nI 0 = 0 → d)) := fun hc => ⟨fun _ => hc, fun q => absurd rfl q⟩
  refine s_isWord2 g3.1 g5 g4 (fun w => n1 ?_) (fun w => n0 ?_)
  · rw [if_pos w] at hR
    exact h1 _ _ _ hR (by omega) (by omega) g1 g2 g3 (tk_adv (by have := w.1; omega))
  rw [if_neg w] at hR
  refine s_isWord3 g3.1 g5 g4 (fun w => n1 ?_) (fun w => n0 ?_)
  · rw [if_pos w] at hR
    exact h1 _ _ _ hR (by omega) (by omega) g1 g2 g3 (tk_adv (by have := w.1; omega))
  rw [if_neg w] at hR
  refine s_isWord4 g3.1 g5 g4 (fun w => n1 ?_) (fun w => n0 ?_)
  · rw [if_pos w] at hR
    exact h1 _ _ _ hR (by omega) (by omega) g1 g2 g3 (tk_adv (by have := w.1; omega))
  rw [if_neg w] at hR
  refine s_isWord5 g3.1 g5 g4 (fun w => n1 ?_) (fun w => n0 ?_)
  · rw [if_pos w] at hR
    exact h1 _ _ _ hR (by omega) (by omega) g1 g2 g3 (tk_adv (by have := w.1; omega))
  rw [if_neg w] at hR
  refine s_isWord6 g3.1 g5 g4 (fun w => n1 ?_) (fun w => n0 ?_)
  · rw [if_pos w] at hR
    exact h1 _ _ _ hR (by omega) (by omega) g1 g2 g3 (tk_adv (by have := w.1; omega))
  rw [if_neg w] at hR
  exact s_T_fail g3 g5 g4.1 (fun M2 f1 f2 => h2 _ _ _ _ hR (g1.tr f1) f2)
/-- the draft -/
def tcD (f : Nat → Nat) (M : vm_M) : Prop := vh_C M 14 f (fun _ => nI 0) ∧ hp_ok f
theorem tcD.of {M M' : vm_M} {f : Nat → Nat} (h : tcD f M) (he : fr5 M M') : tcD f M' := ⟨h.1.of (fun r j h1 h2 => he r j (by omega)), h.2⟩
theorem s_addTrader {P : vm_M → Prop} {f : Nat → Nat} {q g t : Nat} (hD : tcD f M) (h6 : f 2 < 6) (hq : 1 ≤ q ∧ q ≤ 5) (hg : g ≤ 99) (ht : t ≤ 60)
    (h : ∀ M', (∀ r j, ¬ (14 ≤ r ∧ r ≤ 20) → M' r j = M r j) → tcD (hp_T f q g t) M' → P M') : E_Hill_addTrader_14 X (nI q) (nI g) (nI t) M P := by
  obtain ⟨⟨c0, c1, c2, c3, c4, c5, c6, c7⟩, ho⟩ := id hD
  apply v_Hill_addTrader_14
  rw [c0, nI_ltI (by omega) (by omega)]
  refine ⟨fun _ => ?_, fun q => absurd h6 q⟩
  rw [vm_ex h6 (by omega)]
  have e1 : (vm_u2 M 15 (f 2) (nI q)) 14 0 = nI (f 2) := by rw [vm_u2_r (by omega)]; exact c0
  rw [e1, vm_ex h6 (by omega)]
  have e2 : (vm_u2 (vm_u2 M 15 (f 2) (nI q)) 16 (f 2) (nI g)) 14 0 = nI (f 2) := by rw [vm_u2_r (by omega)]; exact e1
  rw [e2, vm_ex h6 (by omega)]
  have e3 : (vm_u2 (vm_u2 (vm_u2 M 15 (f 2) (nI q)) 16 (f 2) (nI g)) 17 (f 2) (nI t)) 14 0 = nI (f 2) := by rw [vm_u2_r (by omega)]; exact e2
  rw [e3, vm_ex h6 (by omega)]
  have e4 : (vm_u2 (vm_u2 (vm_u2 (vm_u2 M 15 (f 2) (nI q)) 16 (f 2) (nI g)) 17 (f 2) (nI t)) 18 (f 2) (nI 0)) 14 0 = nI (f 2) := by rw [vm_u2_r (by omega)]; exact e3
  rw [e4, vm_add]
  obtain ⟨n1, n2, n3⟩ := hp_T_n f q g t
  refine h _ (fun r j hr => ?_) ⟨⟨?_, ?_, ?_, ?_, ?_, ?_, fun x hx => ?_, fun x y hx hy => ?_⟩, ho.T h6 hq hg ht⟩
  · rw [vm_u2_r (by omega), vm_u2_r (by omega), vm_u2_r (by omega), vm_u2_r (by omega), vm_u2_r (by omega)]
  · rw [vm_u2_eq, hp_T_2]
  · rw [vm_u2_ne (by omega), vm_u2_r (by omega), vm_u2_r (by omega), vm_u2_r (by omega), vm_u2_r (by omega), hp_T_o (by omega) (by omega)]; exact c1
  · rw [vm_u2_ne (by omega), vm_u2_r (by omega), vm_u2_r (by omega), vm_u2_r (by omega), vm_u2_r (by omega), hp_T_o (by omega) (by omega)]; exact c2
  · rw [vm_u2_ne (by omega), vm_u2_r (by omega), vm_u2_r (by omega), vm_u2_r (by omega), vm_u2_r (by omega), hp_T_o (by omega) (by omega)]; exact c3
  · rw [vm_u2_ne (by omega), vm_u2_r (by omega), vm_u2_r (by omega), vm_u2_r (by omega), vm_u2_r (by omega), hp_T_o (by omega) (by omega)]; exact c4
  · rw [vm_u2_ne (by omega), vm_u2_r (by omega), vm_u2_r (by omega), vm_u2_r (by omega), vm_u2_r (by omega), hp_T_o (by omega) (by omega)]; exact c5
  · rw [hp_T_2] at hx
    by_cases hxf : x = f 2
    · subst hxf
      rw [n1, n2, n3]
      refine ⟨?_, ?_, ?_, ?_⟩
      · rw [vm_u2_r (by omega), vm_u2_r (by omega), vm_u2_r (by omega), vm_u2_r (by omega), vm_u2_eq]
      · rw [vm_u2_r (by omega), vm_u2_r (by omega), vm_u2_r (by omega), vm_u2_eq]
      · rw [vm_u2_r (by omega), vm_u2_r (by omega), vm_u2_eq]
      · rw [vm_u2_r (by omega), vm_u2_eq]
    · rw [hp_T_o (by omega) (by omega), hp_T_o (by omega) (by omega), hp_T_o (by omega) (by omega)]
      obtain ⟨d1, d2, d3, d4⟩ := c6 x (by omega)
      refine ⟨?_, ?_, ?_, ?_⟩
      · rw [vm_u2_ne (by omega), vm_u2_ne (by omega), vm_u2_ne (by omega), vm_u2_ne (by omega), vm_u2_ne (by omega)]; exact d1
      · rw [vm_u2_ne (by omega), vm_u2_ne (by omega), vm_u2_ne (by omega), vm_u2_ne (by omega), vm_u2_ne (by omega)]; exact d2
      · rw [vm_u2_ne (by omega), vm_u2_ne (by omega), vm_u2_ne (by omega), vm_u2_ne (by omega), vm_u2_ne (by omega)]; exact d3
      · rw [vm_u2_ne (by omega), vm_u2_ne (by omega), vm_u2_ne (by omega), vm_u2_ne (by omega), vm_u2_ne (by omega)]; exact d4
  · have h3 := ho.2.1
    have e : ∀ wet, vh_min (hp_T f q g t) wet x y (hp_T f q g t 3) = vh_min f wet x y (f 3) := by
      intro wet
      rw [hp_T_o (by omega) (by omega)]
      exact vh_min_cg wet x y _ (fun j h1 h2 => hp_T_o (by omega) (by omega))
    rw [e, e]
    refine ⟨?_, ?_⟩
    · rw [vm_u2_ne (by omega), vm_u2_ne (by omega), vm_u2_ne (by omega), vm_u2_ne (by omega), vm_u2_ne (by omega)]; exact (c7 x y hx hy).1
    · rw [vm_u2_ne (by omega), vm_u2_ne (by omega), vm_u2_ne (by omega), vm_u2_ne (by omega), vm_u2_ne (by omega)]; exact (c7 x y hx hy).2
theorem vh_min_new {f : Nat → Nat} {a c d w wet x y : Nat} : vh_min (hp_W f a c d w) wet x y (f 3 + 1) = if ((a = x ∧ c = y) ∨ (a = y ∧ c = x)) ∧ w = wet ∧ (vh_min f wet x y (f 3) = 0 ∨ d < vh_min f wet x y (f 3)) then d else vh_min f wet x y (f 3) := by
  obtain ⟨n1, n2, n3, n4⟩ := hp_W_n f a c d w
  have e : vh_min (hp_W f a c d w) wet x y (f 3) = vh_min f wet x y (f 3) := vh_min_cg wet x y _ (fun j h1 h2 => hp_W_o (by omega) (by omega))
  rw [vh_min]
  unfold vh_j
  rw [n1, n2, n3, n4, e]
/-- what is kept in one of the two tables -/
theorem s_addW {P : vm_M → Prop} {f : Nat → Nat} {a c d w T : Nat} (hD : tcD f M) (h10 : f 3 < 10) (ha : a < f 2) (hc : c < f 2) (hac : a ≠ c) (hd : 1 ≤ d ∧ d ≤ 30) (hw : w ≤ 1) (hT : T = 19 + w)
    (h : ∀ M', (∀ r j, ¬ (14 ≤ r ∧ r ≤ 20) → M' r j = M r j) → tcD (hp_W f a c d w) M' → P M') :
    ∃ j1 : Nat, ((nI a * nI 6) + nI c) = nI j1 ∧ j1 < 36 ∧ (((M T j1) = 0 → (∃ j2 : Nat, ((nI a * (nI 6)) + nI c) = nI j2 ∧ j2 < 36 ∧ (∃ j3 : Nat, ((nI c * (nI 6)) + nI a) = nI j3 ∧ j3 < 36 ∧ (P  (vm_u2 (vm_u2 (vm_u2 M T j2 (nI d)) T j3 (nI d)) 14 1 (((vm_u2 (vm_u2 M T j2 (nI d)) T j3 (nI d)) 14 1) + (nI 1))))))) ∧ (¬ ((M T j1) = 0) → (∃ j4 : Nat, ((nI a * (nI 6)) + nI c) = nI j4 ∧ j4 < 36 ∧ (∃ j5 : Nat, ((nI c * (nI 6)) + nI a) = nI j5 ∧ j5 < 36 ∧ (P  (vm_u2 (vm_u2 (vm_u2 M T j4 (if nI d < (M T j1) then nI d else (M T j1))) T j5 (if nI d < (M T j1) then nI d else (M T j1))) 14 1 (((vm_u2 (vm_u2 M T j4 (if nI d < (M T j1) then nI d else (M T j1))) T j5 (if nI d < (M T j1) then nI d else (M T j1))) 14 1) + (nI 1)))))))) := by
  obtain ⟨⟨c0, c1, c2, c3, c4, c5, c6, c7⟩, ho⟩ := id hD
  have h26 := ho.1
  simp only [vm_mul, vm_add]
  simp (disch := omega) only [vm_ex]
  have hold : M T (a * 6 + c) = nI (vh_min f w a c (f 3)) := by
    have := c7 a c (by omega) (by omega)
    rcases (show w = 0 ∨ w = 1 by omega) with rfl | rfl
    · rw [hT]; exact this.1
    · rw [hT]; exact this.2
  have hle : vh_min f w a c (f 3) ≤ 30 := by
    have : ∀ k, k ≤ f 3 → vh_min f w a c k ≤ 30 := by
      intro k
      induction k with
      | zero => intro _; exact Nat.zero_le _
      | succ k ih =>
        intro hk
        have := ih (by omega)
        have hw := ho.2.2.2.2.2.2.2.2 k (by omega)
        unfold vh_wok at hw
        unfold vh_min
        split <;> omega
    exact this _ (Nat.le_refl _)
  have fin : ∀ v : Nat, v = (if vh_min f w a c (f 3) = 0 ∨ d < vh_min f w a c (f 3) then d else vh_min f w a c (f 3)) → P (vm_u2 (vm_u2 (vm_u2 M T (a * 6 + c) (nI v)) T (c * 6 + a) (nI v)) 14 1 (((vm_u2 (vm_u2 M T (a * 6 + c) (nI v)) T (c * 6 + a) (nI v)) 14 1) + (nI 1))) := by
    intro v hv
    have e14 : (vm_u2 (vm_u2 M T (a * 6 + c) (nI v)) T (c * 6 + a) (nI v)) 14 1 = nI (f 3) := by rw [vm_u2_r (by omega), vm_u2_r (by omega)]; exact c1
    rw [e14, vm_add]
    refine h _ (fun r j hr => ?_) ⟨⟨?_, ?_, ?_, ?_, ?_, ?_, fun x hx => ?_, fun x y hx hy => ?_⟩, ho.W h10 ha hc hac hd hw⟩
    · rw [vm_u2_r (by omega), vm_u2_r (by omega), vm_u2_r (by omega)]
    · rw [vm_u2_ne (by omega), vm_u2_r (by omega), vm_u2_r (by omega), hp_W_o (by omega) (by omega)]; exact c0
    · rw [vm_u2_eq, hp_W_3]
    · rw [vm_u2_ne (by omega), vm_u2_r (by omega), vm_u2_r (by omega), hp_W_o (by omega) (by omega)]; exact c2
    · rw [vm_u2_ne (by omega), vm_u2_r (by omega), vm_u2_r (by omega), hp_W_o (by omega) (by omega)]; exact c3
    · rw [vm_u2_ne (by omega), vm_u2_r (by omega), vm_u2_r (by omega), hp_W_o (by omega) (by omega)]; exact c4
    · rw [vm_u2_ne (by omega), vm_u2_r (by omega), vm_u2_r (by omega), hp_W_o (by omega) (by omega)]; exact c5
    · rw [hp_W_o (by omega) (by omega)] at hx
      rw [hp_W_o (by omega) (by omega), hp_W_o (by omega) (by omega), hp_W_o (by omega) (by omega)]
      obtain ⟨d1, d2, d3, d4⟩ := c6 x hx
      refine ⟨?_, ?_, ?_, ?_⟩
      · rw [vm_u2_ne (by omega), vm_u2_ne (by omega), vm_u2_ne (by omega)]; exact d1
      · rw [vm_u2_ne (by omega), vm_u2_ne (by omega), vm_u2_ne (by omega)]; exact d2
      · rw [vm_u2_ne (by omega), vm_u2_ne (by omega), vm_u2_ne (by omega)]; exact d3
      · rw [vm_u2_ne (by omega), vm_u2_ne (by omega), vm_u2_ne (by omega)]; exact d4
    · rw [hp_W_3, vh_min_new, vh_min_new]
      have key : ∀ wet, wet ≤ 1 → (vm_u2 (vm_u2 (vm_u2 M T (a * 6 + c) (nI v)) T (c * 6 + a) (nI v)) 14 1 (nI (f 3 + 1))) (19 + wet) (x * 6 + y) = nI (if ((a = x ∧ c = y) ∨ (a = y ∧ c = x)) ∧ w = wet ∧ (vh_min f wet x y (f 3) = 0 ∨ d < vh_min f wet x y (f 3)) then d else vh_min f wet x y (f 3)) := by
        intro wet hwet
        have c7' : M (19 + wet) (x * 6 + y) = nI (vh_min f wet x y (f 3)) := by
          rcases (show wet = 0 ∨ wet = 1 by omega) with rfl | rfl
          · exact (c7 x y hx hy).1
          · exact (c7 x y hx hy).2
        rw [vm_u2_ne (by omega)]
        by_cases hww : w = wet
        · by_cases hj : (a = x ∧ c = y) ∨ (a = y ∧ c = x)
          · have hv2 : v = if vh_min f wet x y (f 3) = 0 ∨ d < vh_min f wet x y (f 3) then d else vh_min f wet x y (f 3) := by
              rcases hj with ⟨rfl, rfl⟩ | ⟨rfl, rfl⟩
              · rw [← hww]; exact hv
              · rw [← hww, vh_min_sym f w c a]; exact hv
            have e9 : (if ((a = x ∧ c = y) ∨ (a = y ∧ c = x)) ∧ w = wet ∧ (vh_min f wet x y (f 3) = 0 ∨ d < vh_min f wet x y (f 3)) then d else vh_min f wet x y (f 3)) = v := by
              rw [hv2]
              simp only [hj, hww, true_and]
            rw [e9, hT, hww]
            by_cases hj1 : x * 6 + y = c * 6 + a
            · rw [hj1, vm_u2_eq]
            · have hj2 : x * 6 + y = a * 6 + c := by omega
              rw [vm_u2_ne (by omega), hj2, vm_u2_eq]
          · have e9 : (if ((a = x ∧ c = y) ∨ (a = y ∧ c = x)) ∧ w = wet ∧ (vh_min f wet x y (f 3) = 0 ∨ d < vh_min f wet x y (f 3)) then d else vh_min f wet x y (f 3)) = vh_min f wet x y (f 3) := if_neg (fun q => hj q.1)
            rw [e9, vm_u2_ne (by omega), vm_u2_ne (by omega)]
            exact c7'
        · have e9 : (if ((a = x ∧ c = y) ∨ (a = y ∧ c = x)) ∧ w = wet ∧ (vh_min f wet x y (f 3) = 0 ∨ d < vh_min f wet x y (f 3)) then d else vh_min f wet x y (f 3)) = vh_min f wet x y (f 3) := if_neg (fun q => hww q.2.1)
          rw [e9, vm_u2_ne (by omega), vm_u2_ne (by omega)]
          exact c7'
      exact ⟨key 0 (by omega), key 1 (by omega)⟩
  rw [hold]
  have e0 : (0 : Int32) = nI 0 := rfl
  rw [e0, nI_eq (by omega) (by omega)]
  have elt : nI d < nI (vh_min f w a c (f 3)) ↔ d < vh_min f w a c (f 3) := nI_ltI (by omega) (by omega)
  refine ⟨fun hz => fin d (by rw [if_pos (Or.inl hz)]), fun hz => ?_⟩
  by_cases hlt : d < vh_min f w a c (f 3)
  · rw [if_pos (elt.mpr hlt)]
    exact fin d (by rw [if_pos (Or.inr hlt)])
  · rw [if_neg (fun q => hlt (elt.mp q))]
    exact fin _ (by rw [if_neg (by omega)])
theorem s_addWay {P : vm_M → Prop} {f : Nat → Nat} {a c d w : Nat} (hD : tcD f M) (h10 : f 3 < 10) (ha : a < f 2) (hc : c < f 2) (hac : a ≠ c) (hd : 1 ≤ d ∧ d ≤ 30) (hw : w ≤ 1)
    (h : ∀ M', (∀ r j, ¬ (14 ≤ r ∧ r ≤ 20) → M' r j = M r j) → tcD (hp_W f a c d w) M' → P M') : E_Hill_addWay_14 X (nI a) (nI c) (nI d) (nI w) M P := by
  have h26 := hD.2.1
  apply v_Hill_addWay_14
  rw [hD.1.1, vm_nneg (by omega), vm_nneg (by omega), nI_ltI (by omega) (by omega), nI_ltI (by omega) (by omega)]
  refine ⟨fun q => q.elim, fun _ => ⟨fun _ => ⟨fun q => q.elim, fun _ => ⟨fun _ => ⟨fun q => ?_, fun q => ?_⟩, fun q => absurd hc q⟩⟩, fun q => absurd ha q⟩⟩
  · have hw0 : w = 0 := (nI_eq (a := w) (b := 0) (by omega) (by omega)).mp q
    exact s_addW (T := 19) hD h10 ha hc hac hd hw (by omega) h
  · have hw0 : w = 1 := by
      rcases (show w = 0 ∨ w = 1 by omega) with rfl | rfl
      · exact absurd rfl q
      · rfl
    exact s_addW (T := 20) hD h10 ha hc hac hd hw (by omega) h
end CR
