/-! tables by the minute, from the last one back -/
section VG
variable {α : Type} (f : Nat → Nat) (z : α) (st : Nat → α → α → α)
def vg_b (S : Nat → Nat → α) (m a : Nat) : Nat → α
  | 0 => S (m + 1) a
  | b + 1 => if vh_hand f a b m (f 0) = 0 then vg_b S m a b else st b (vg_b S m a b) (S (vh_hand f a b m (f 0)) b)
def vg_t : Nat → Nat → Nat → α
  | 0 => fun _ _ => z
  | k + 1 => fun m a => if m + k = 60 then vg_b f st (vg_t k) m a (f 2) else vg_t k m a
theorem vg_t_s (k m a : Nat) : vg_t f z st (k + 1) m a = if m + k = 60 then vg_b f st (vg_t f z st k) m a (f 2) else vg_t f z st k m a := rfl
theorem vg_t_old {k m a : Nat} (h : 61 ≤ m + k) : vg_t f z st (k + 1) m a = vg_t f z st k m a := by
  rw [vg_t_s, if_neg (by omega)]
theorem vg_t_new {k m a : Nat} (h : m + k = 60) : vg_t f z st (k + 1) m a = vg_b f st (vg_t f z st k) m a (f 2) := by
  rw [vg_t_s, if_pos h]
theorem vg_t_61 (k a : Nat) : vg_t f z st k 61 a = z := by
  induction k with
  | zero => rfl
  | succ k ih => rw [vg_t_old _ _ _ (by omega)]; exact ih
end VG
theorem vg_hom {α β : Type} {f : Nat → Nat} (ho : vh_ok f) (en : α → β) (good : Nat → α → Prop) {z1 : α} {z2 : β} {st1 : Nat → α → α → α} {st2 : Nat → β → β → β} (hz : en z1 = z2) (hgz : ∀ m, good m z1) (hmono : ∀ m v, good (m + 1) v → good m v)
    (hst : ∀ b m h cur aft, b < f 2 → m < h → h < 60 → good m cur → good h aft → en (st1 b cur aft) = st2 b (en cur) (en aft) ∧ good m (st1 b cur aft)) :
    ∀ k m a, m ≤ 60 → good m (vg_t f z1 st1 k m a) ∧ en (vg_t f z1 st1 k m a) = vg_t f z2 st2 k m a := by
  intro k
  induction k with
  | zero => intro m a _; exact ⟨hgz m, hz⟩
  | succ k ih =>
    intro m a hm
    rw [vg_t_s, vg_t_s]
    by_cases hk : m + k = 60
    · rw [if_pos hk, if_pos hk]
      have hd := ho.2.2.1
      have : ∀ b, b ≤ f 2 → good m (vg_b f st1 (vg_t f z1 st1 k) m a b) ∧ en (vg_b f st1 (vg_t f z1 st1 k) m a b) = vg_b f st2 (vg_t f z2 st2 k) m a b := by
        intro b
        induction b with
        | zero =>
          intro _
          rw [vg_b, vg_b]
          by_cases h60 : m = 60
          · subst h60
            rw [vg_t_61, vg_t_61]
            exact ⟨hgz _, hz⟩
          · have := ih (m + 1) a (by omega)
            exact ⟨hmono _ _ this.1, this.2⟩
        | succ b ihb =>
          intro hb
          have hb1 := ihb (by omega)
          rw [vg_b, vg_b]
          by_cases hh : vh_hand f a b m (f 0) = 0
          · rw [if_pos hh, if_pos hh]; exact hb1
          · rw [if_neg hh, if_neg hh]
            have hr := vh_hand_rng ho hh
            have h2 := ih (vh_hand f a b m (f 0)) b (by omega)
            have := hst b m (vh_hand f a b m (f 0)) _ _ (by omega) hr.1 (by omega) hb1.1 h2.1
            rw [hb1.2, h2.2] at this
            exact ⟨this.2, this.1⟩
      exact this (f 2) (Nat.le_refl _)
    · rw [if_neg hk, if_neg hk]
      exact ih m a hm
theorem vm_en_lt {m h : Nat} (hm : m < 1000000) (hh : h < 1000000) : nI m < vm_en h ↔ m < h := by
  unfold vm_en
  by_cases h0 : h = 0
  · subst h0
    rw [if_pos rfl]
    refine ⟨fun q => ?_, fun q => absurd q (by omega)⟩
    have := Int32.lt_iff_toInt_lt.mp q
    have e : cNONE.toInt = -1000000 := by decide
    rw [e, nI_toInt (by omega)] at this
    omega
  · rw [if_neg h0, nI_ltI (by omega) (by omega)]
def vb_step (u : Int32) (f : Nat → Nat) (b : Nat) (cur aft : Int32) : Int32 :=
  if u = 0 then (if cur < nI (vh_pr f b * 64) - nI 1 + aft then nI (vh_pr f b * 64) - nI 1 + aft else cur)
  else if aft < nI (vh_pr f b) then (if cur < nI 0 then nI 0 else cur) else if cur < nI (vh_pr f b) then nI (vh_pr f b) else cur
theorem vb_step_0 {u : Int32} (h : u = 0) (f : Nat → Nat) (b : Nat) (cur aft : Int32) : vb_step u f b cur aft = if cur < nI (vh_pr f b * 64) - nI 1 + aft then nI (vh_pr f b * 64) - nI 1 + aft else cur := if_pos h
theorem vb_step_1 {u : Int32} (h : ¬ u = 0) (f : Nat → Nat) (b : Nat) (cur aft : Int32) : vb_step u f b cur aft = if aft < nI (vh_pr f b) then (if cur < nI 0 then nI 0 else cur) else if cur < nI (vh_pr f b) then nI (vh_pr f b) else cur := if_neg h
section VH
variable {X : Nat × (Nat → Int32)} {M : vm_M} {f : Nat → Nat} {w : Nat → Int32}
theorem s_bestOf {P : Int32 → vm_M → Prop} (hC : vh_C M 7 f w) (ho : vh_ok f) {u : Int32} {k a m : Nat} (hk : m + k = 60) (ha : a < f 2)
    (hI : ∀ m a, 61 ≤ m + k → m ≤ 60 → a < f 2 → M 42 (m * 6 + a) = vg_t f (nI 0) (vb_step u f) k m a)
    (h : P (vg_b f (vb_step u f) (vg_t f (nI 0) (vb_step u f) k) m a (f 2)) M) : E_Foretold_bestOf X (nI a) (nI m) u M P := by
  have hd := ho.2.2.1
  have hT := ho.1
  have e7 : M 7 0 = nI (f 2) := hC.1
  have e2 : M 7 2 = nI (f 0) := hC.2.2.1
  have loop : ∀ (i b : Nat) (w6 w7 w8 w9 : Value), b + i = f 2 → C_Foretold_bestOf_28 X (nI a) (nI m) u (vg_b f (vb_step u f) (vg_t f (nI 0) (vb_step u f) k) m a b) (nI b) w6 w7 w8 w9 M P := by
    intro i
    induction i with
    | zero =>
      intro b w6 w7 w8 w9 hb
      have hb : b = f 2 := by omega
      subst hb
      apply v_Foretold_bestOf_28
      rw [e7]
      exact ⟨fun q => absurd ((nI_ltI (by omega) (by omega)).mp q) (by omega), fun _ => h⟩
    | succ i ih =>
      intro b w6 w7 w8 w9 hb
      have hbf : b < f 2 := by omega
      have hhl := vh_hand_le ho (a := a) (b := b) (d := f 0) (t := m) (by omega)
      apply v_Foretold_bestOf_28
      rw [e7]
      refine ⟨fun _ => ?_, fun q => absurd ((nI_ltI (by omega) (by omega)).mpr hbf) q⟩
      rw [e2]
      refine s_Hill_handed hC ho (by omega) hbf (by omega) (by omega) ?_
      rw [vm_en_lt (by omega) (by omega)]
      have nx := fun w6 w7 w8 w9 => ih (b + 1) w6 w7 w8 w9 (by omega)
      simp only [vg_b] at nx
      rw [vm_add]
      by_cases hh : vh_hand f a b m (f 0) = 0
      · rw [if_pos hh] at nx
        exact ⟨fun q => absurd q (by omega), fun _ => nx _ _ _ _⟩
      · have hr := vh_hand_rng ho hh
        rw [if_neg hh] at nx
        have een : vm_en (vh_hand f a b m (f 0)) = nI (vh_hand f a b m (f 0)) := if_neg hh
        rw [een]
        refine ⟨fun _ => ⟨fun q => absurd ((nI_ltI (by omega) (by omega)).mp q) (by omega), fun _ => ?_⟩, fun q => absurd hr.1 q⟩
        simp (disch := omega) only [vm_mul, vm_add, vm_ex]
        refine s_price7 hC ho hbf ?_
        rw [hI _ b (by omega) (by omega) hbf]
        simp only [vm_mul]
        refine ⟨fun hu => ?_, fun hu => ⟨fun hl => ?_, fun hl => ?_⟩⟩
        · rw [vb_step_0 hu] at nx; exact nx _ _ _ _
        · rw [vb_step_1 hu, if_pos hl] at nx; exact nx _ _ _ _
        · rw [vb_step_1 hu, if_neg hl] at nx; exact nx _ _ _ _
  apply v_Foretold_bestOf
  have l0 := loop (f 2) 0 .null .null .null .null (by omega)
  rw [vg_b] at l0
  simp (disch := omega) only [nI_ltI, vm_add, vm_mul, vm_ex]
  refine ⟨fun q => ?_, fun q => ?_⟩
  · rw [vm_ex (by omega) (by omega), hI (m + 1) a (by omega) (by omega) ha]
    exact l0
  · rw [show m = 60 by omega, vg_t_61] at l0
    rw [show m = 60 by omega]
    exact l0
theorem vm_down {k t : Nat} (hk : k ≤ 61) (ht : t ≤ 60) : nI 60 - nI k < nI t ↔ 60 < t + k := by
  by_cases h : k ≤ 60
  · rw [pk_sub h, nI_ltI (by omega) (by omega)]; omega
  · rw [show k = 61 by omega]
    refine ⟨fun _ => by omega, fun _ => ?_⟩
    rw [Int32.lt_iff_toInt_lt, nI_toInt (by omega)]
    have : (nI 60 - nI 61).toInt = -1 := by decide
    omega
theorem vm_down1 (k : Nat) : nI 60 - nI k + Int32.ofInt (-1) = nI 60 - nI (k + 1) := by
  have e : nI (k + 1) = nI k + nI 1 := (vm_add k 1).symm
  rw [e, show Int32.ofInt (-1) = -(nI 1) from rfl]
  simp only [Int32.sub_eq_add_neg, Int32.neg_add, Int32.add_assoc]
theorem s_fillBest {P : vm_M → Prop} (hC : vh_C M 7 f w) (ho : vh_ok f) {u : Int32} {t : Nat} (ht : t ≤ 60)
    (h : ∀ M', (∀ r j, r ≠ 42 → M' r j = M r j) → (∀ m a, t ≤ m → m ≤ 60 → a < f 2 → M' 42 (m * 6 + a) = vg_t f (nI 0) (vb_step u f) (61 - t) m a) → P M') : E_Foretold_fillBest X (nI t) u M P := by
  have hd := ho.2.2.1
  have hT := ho.1
  have outer : ∀ (n k : Nat) (w4 : Value) (M' : vm_M), k + n = 61 - t → (∀ r j, r ≠ 42 → M' r j = M r j) → (∀ m a, 61 ≤ m + k → m ≤ 60 → a < f 2 → M' 42 (m * 6 + a) = vg_t f (nI 0) (vb_step u f) k m a) → C_Foretold_fillBest_3 X (nI t) u (nI 60 - nI k) w4 M' P := by
    intro n
    induction n with
    | zero =>
      intro k w4 M' hk hM' hI
      apply v_Foretold_fillBest_3
      rw [vm_down (by omega) (by omega)]
      refine ⟨fun _ => h M' hM' (fun m a h1 h2 h3 => ?_), fun q => absurd (by omega) q⟩
      rw [show 61 - t = k by omega]
      exact hI m a (by omega) h2 h3
    | succ n ih =>
      intro k w4 M' hk hM' hI
      apply v_Foretold_fillBest_3
      rw [vm_down (by omega) (by omega)]
      refine ⟨fun q => absurd q (by omega), fun _ => ?_⟩
      have inner : ∀ (i a : Nat) (M1 : vm_M), a + i = f 2 → (∀ r j, r ≠ 42 → M1 r j = M r j) → (∀ m a, 61 ≤ m + k → m ≤ 60 → a < f 2 → M1 42 (m * 6 + a) = vg_t f (nI 0) (vb_step u f) k m a) → (∀ a', a' < a → M1 42 ((60 - k) * 6 + a') = vg_t f (nI 0) (vb_step u f) (k + 1) (60 - k) a') → C_Foretold_fillBest_11 X (nI t) u (nI 60 - nI k) (nI a) M1 P := by
        intro i
        induction i with
        | zero =>
          intro a M1 ha hM1 hI1 hJ
          have ha : a = f 2 := by omega
          subst ha
          have e7 : M1 7 0 = nI (f 2) := (hM1 7 0 (by omega)).trans hC.1
          apply v_Foretold_fillBest_11
          rw [e7]
          refine ⟨fun q => absurd ((nI_ltI (by omega) (by omega)).mp q) (by omega), fun _ => ?_⟩
          rw [vm_down1]
          refine ih (k + 1) _ M1 (by omega) hM1 (fun m a h1 h2 h3 => ?_)
          by_cases hm : 61 ≤ m + k
          · rw [vg_t_old _ _ _ hm]; exact hI1 m a hm h2 h3
          · rw [show m = 60 - k by omega]; exact hJ a h3
        | succ i ihi =>
          intro a M1 ha hM1 hI1 hJ
          have e7 : M1 7 0 = nI (f 2) := (hM1 7 0 (by omega)).trans hC.1
          have hC1 : vh_C M1 7 f w := hC.of (fun r j h1 h2 => hM1 r j (by omega))
          apply v_Foretold_fillBest_11
          rw [e7]
          refine ⟨fun _ => ?_, fun q => absurd ((nI_ltI (by omega) (by omega)).mpr (by omega)) q⟩
          rw [pk_sub (by omega)]
          refine s_bestOf hC1 ho (k := k) (by omega) (by omega) hI1 ?_
          rw [← vg_t_new _ _ _ (by omega)]
          simp (disch := omega) only [vm_mul, vm_add, vm_ex]
          rw [← pk_sub (by omega)]
          refine ihi (a + 1) _ (by omega) (fun r j hr => ?_) (fun m a' h1 h2 h3 => ?_) (fun a' h1 => ?_)
          · rw [vm_u2_r hr]; exact hM1 r j hr
          · rw [vm_u2_ne (by omega)]; exact hI1 m a' h1 h2 h3
          · by_cases haa : a' = a
            · subst haa; rw [vm_u2_eq]
            · rw [vm_u2_ne (by omega)]; exact hJ a' (by omega)
      exact inner (f 2) 0 M' (by omega) hM' hI (fun a' h => absurd h (by omega))
  apply v_Foretold_fillBest
  exact outer (61 - t) 0 _ M (by omega) (fun _ _ _ => rfl) (fun m a h1 h2 => absurd h1 (by omega))
def vb_sure (f : Nat → Nat) (b : Nat) (cur aft : Int32) : Int32 := if aft < nI (vh_pr f b) then cur else if cur < nI (vh_pr f b) then nI (vh_pr f b) else cur
theorem s_M_sure25 {P : Int32 → vm_M → Prop} (hM : vh_M M 52 0 f w) (ho : vh_ok f) {t x : Nat} (ht : t ≤ 60) (hx : x < f 2)
    (h : ∀ M', (∀ r j, r ≠ 56 → M' r j = M r j) → P (vg_t f (nI 0) (vb_sure f) (61 - t) t x) M') (w4 w5 w6 w7 w8 : Value) : C_M_sure_25 X (nI x) (nI t) (nI 0) w4 w5 w6 w7 w8 M P := by
  have hd := ho.2.2.1
  have hT := ho.1
  have outer : ∀ (n k : Nat) (w4 w5 w6 w7 w8 : Value) (M' : vm_M), k + n = 61 - t → (∀ r j, r ≠ 56 → M' r j = M r j) → (∀ m a, 61 ≤ m + k → m ≤ 61 → a < f 2 → M' 56 (6 * m + a) = vg_t f (nI 0) (vb_sure f) k m a) → C_M_sure_48 X (nI x) (nI t) (nI 60 - nI k) w4 w5 w6 w7 w8 M' P := by
    intro n
    induction n with
    | zero =>
      intro k w4 w5 w6 w7 w8 M' hk hM' hI
      apply v_M_sure_48
      rw [vm_down (by omega) (by omega)]
      simp (disch := omega) only [vm_mul, vm_add, vm_ex]
      refine ⟨fun _ => ?_, fun q => absurd (by omega) q⟩
      have := h M' hM'
      rw [show 61 - t = k by omega, ← hI t x (by omega) (by omega) hx] at this
      exact this
    | succ n ih =>
      intro k w4 w5 w6 w7 w8 M' hk hM' hI
      apply v_M_sure_48
      rw [vm_down (by omega) (by omega)]
      refine ⟨fun q => absurd q (by omega), fun _ => ?_⟩
      have mid : ∀ (i a : Nat) (w5 w6 w7 w8 : Value) (M1 : vm_M), a + i = f 2 → (∀ r j, r ≠ 56 → M1 r j = M r j) → (∀ m a, 61 ≤ m + k → m ≤ 61 → a < f 2 → M1 56 (6 * m + a) = vg_t f (nI 0) (vb_sure f) k m a) → (∀ a', a' < a → M1 56 (6 * (60 - k) + a') = vg_t f (nI 0) (vb_sure f) (k + 1) (60 - k) a') → C_M_sure_56 X (nI x) (nI t) (nI 60 - nI k) (nI a) w5 w6 w7 w8 M1 P := by
        intro i
        induction i with
        | zero =>
          intro a w5 w6 w7 w8 M1 ha hM1 hI1 hJ
          have ha : a = f 2 := by omega
          subst ha
          have e7 : M1 52 2 = nI (f 2) := (hM1 52 2 (by omega)).trans (hM.1 2 (by omega) (by omega))
          apply v_M_sure_56
          rw [e7]
          refine ⟨fun q => absurd ((nI_ltI (by omega) (by omega)).mp q) (by omega), fun _ => ?_⟩
          rw [vm_down1]
          refine ih (k + 1) _ _ _ _ _ M1 (by omega) hM1 (fun m a h1 h2 h3 => ?_)
          by_cases hm : 61 ≤ m + k
          · rw [vg_t_old _ _ _ hm]; exact hI1 m a hm h2 h3
          · rw [show m = 60 - k by omega]; exact hJ a h3
        | succ i ihi =>
          intro a w5 w6 w7 w8 M1 ha hM1 hI1 hJ
          have e7 : M1 52 2 = nI (f 2) := (hM1 52 2 (by omega)).trans (hM.1 2 (by omega) (by omega))
          have hMM1 : vh_M M1 52 0 f w := hM.of (fun j h1 => hM1 52 _ (by omega))
          apply v_M_sure_56
          rw [e7, pk_sub (by omega)]
          simp (disch := omega) only [vm_mul, vm_add, vm_ex, nI_ltI]
          refine ⟨fun _ => ?_, fun q => absurd (by omega) q⟩
          have inner : ∀ (l b : Nat) (w7 w8 : Value), b + l = f 2 → C_M_sure_86 X (nI x) (nI t) (nI (60 - k)) (nI a) (vg_b f (vb_sure f) (vg_t f (nI 0) (vb_sure f) k) (60 - k) a b) (nI b) w7 w8 M1 P := by
            intro l
            induction l with
            | zero =>
              intro b w7 w8 hb
              have hb : b = f 2 := by omega
              subst hb
              apply v_M_sure_86
              rw [e7]
              simp (disch := omega) only [vm_mul, vm_add, vm_ex, nI_ltI]
              refine ⟨fun q => absurd q (by omega), fun _ => ?_⟩
              rw [← vg_t_new _ _ _ (by omega), ← pk_sub (by omega)]
              refine ihi (a + 1) _ _ _ _ _ (by omega) (fun r j hr => ?_) (fun m a' h1 h2 h3 => ?_) (fun a' h1 => ?_)
              · rw [vm_u2_r hr]; exact hM1 r j hr
              · rw [vm_u2_ne (by omega)]; exact hI1 m a' h1 h2 h3
              · by_cases haa : a' = a
                · subst haa; rw [vm_u2_eq]
                · rw [vm_u2_ne (by omega)]; exact hJ a' (by omega)
            | succ l ihl =>
              intro b w7 w8 hb
              have nx := fun w7 w8 => ihl (b + 1) w7 w8 (by omega)
              have hhl := vh_hand_le ho (a := a) (b := b) (d := f 0) (t := 60 - k) (by omega)
              have hen : vm_en (vh_hand f a b (60 - k) (f 0)) = Int32.ofInt (-1000000) ↔ vh_hand f a b (60 - k) (f 0) = 0 := vm_en_none (by omega)
              simp only [vg_b] at nx
              apply v_M_sure_86
              rw [e7]
              refine ⟨fun _ => ?_, fun q => absurd ((nI_ltI (by omega) (by omega)).mpr (by omega)) q⟩
              refine s_M_passedIn hMM1 ho (by omega) (by omega) (by omega) ?_
              rw [hen, vm_add]
              refine ⟨fun hh => ?_, fun hh => ?_⟩
              · rw [if_pos hh] at nx; exact nx _ _
              · have hr := vh_hand_rng ho hh
                rw [if_neg hh] at nx
                have een : vm_en (vh_hand f a b (60 - k) (f 0)) = nI (vh_hand f a b (60 - k) (f 0)) := if_neg hh
                rw [een]
                simp (disch := omega) only [vm_mul, vm_add, vm_ex]
                refine s_priceM hMM1 ho (by omega) ?_
                rw [hI1 _ b (by omega) (by omega) (by omega)]
                refine ⟨fun hl => ?_, fun hl => ?_⟩
                · rw [show ∀ cur aft, vb_sure f b cur aft = if aft < nI (vh_pr f b) then cur else if cur < nI (vh_pr f b) then nI (vh_pr f b) else cur from fun _ _ => rfl, if_pos hl] at nx
                  exact nx _ _
                · rw [show ∀ cur aft, vb_sure f b cur aft = if aft < nI (vh_pr f b) then cur else if cur < nI (vh_pr f b) then nI (vh_pr f b) else cur from fun _ _ => rfl, if_neg hl] at nx
                  refine s_priceM hMM1 ho (by omega) ⟨fun hl2 => ?_, fun hl2 => ?_⟩
                  · rw [if_pos hl2] at nx
                    exact s_priceM hMM1 ho (by omega) (nx _ _)
                  · rw [if_neg hl2] at nx
                    exact nx _ _
          have l0 := inner (f 2) 0 w7 w8 (by omega)
          rw [vg_b] at l0
          rw [hI1 _ a (by omega) (by omega) (by omega)]
          exact l0
      exact mid (f 2) 0 _ _ _ _ M' (by omega) hM' hI (fun a' h => absurd h (by omega))
  have clr : ∀ (n k : Nat) (M' : vm_M), k + n = 372 → (∀ r j, r ≠ 56 → M' r j = M r j) → (∀ j, j < k → M' 56 j = nI 0) → C_M_sure_25 X (nI x) (nI t) (nI k) w4 w5 w6 w7 w8 M' P := by
    intro n
    induction n with
    | zero =>
      intro k M' hk hM' hz
      have hk : k = 372 := by omega
      subst hk
      apply v_M_sure_25
      rw [nI_ltI (by omega) (by omega)]
      refine ⟨fun q => absurd q (by omega), fun _ => ?_⟩
      refine outer (61 - t) 0 _ _ _ _ _ M' (by omega) hM' (fun m a h1 h2 h3 => hz _ (by omega))
    | succ n ih =>
      intro k M' hk hM' hz
      apply v_M_sure_25
      simp (disch := omega) only [nI_ltI, vm_ex, vm_add]
      refine ⟨fun _ => ih (k + 1) _ (by omega) (fun r j hr => ?_) (fun j hj => ?_), fun q => absurd (by omega) q⟩
      · rw [vm_u2_r hr]; exact hM' r j hr
      · by_cases hjk : j = k
        · subst hjk; rw [vm_u2_eq]
        · rw [vm_u2_ne (by omega)]; exact hz j (by omega)
  exact clr 372 0 M (by omega) (fun _ _ _ => rfl) (fun j hj => absurd hj (by omega))
end VH
