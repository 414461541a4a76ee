/-! with whom it may be for all to be as told from then on -/
def kgb (f S : Nat → Nat) (K : Nat → Nat → Bool) (m a : Nat) (g : Bool) : Nat → Bool
  | 0 => g
  | b + 1 => kgb f S K m a g b || (decide (vh_hand f a b m (f 0) ≠ 0) && wok S (vh_hand f a b m (f 0)) b && wcl S m (vh_hand f a b m (f 0)) && K (vh_hand f a b m (f 0)) b)
theorem kgb_s (f S : Nat → Nat) (K : Nat → Nat → Bool) (m a : Nat) (g : Bool) (b : Nat) : kgb f S K m a g (b + 1) = (kgb f S K m a g b || (decide (vh_hand f a b m (f 0) ≠ 0) && wok S (vh_hand f a b m (f 0)) b && wcl S m (vh_hand f a b m (f 0)) && K (vh_hand f a b m (f 0)) b)) := rfl
def kg (f S : Nat → Nat) : Nat → (Nat → Nat → Bool)
  | 0 => fun _ _ => false
  | k + 1 => fun m x => if m + k = 60 then wok S m x && kgb f S (kg f S k) m x (decide (m = 60) || kg f S k (m + 1) x) (f 2) else kg f S k m x
theorem kg_s (f S : Nat → Nat) (k m x : Nat) : kg f S (k + 1) m x = if m + k = 60 then wok S m x && kgb f S (kg f S k) m x (decide (m = 60) || kg f S k (m + 1) x) (f 2) else kg f S k m x := rfl
theorem kg_ok {f S : Nat → Nat} : ∀ k m x, kg f S k m x = true → wok S m x = true
  | 0, _, _, h => by cases h
  | k + 1, m, x, h => by
    rw [kg_s] at h
    split at h
    · rw [Bool.and_eq_true] at h; exact h.1
    · exact kg_ok k m x h
theorem kgb_g (f S : Nat → Nat) (K : Nat → Nat → Bool) (m a : Nat) (g : Bool) : ∀ b, kgb f S K m a g b = (g || kgb f S K m a false b)
  | 0 => by show g = (g || false); simp
  | b + 1 => by rw [kgb_s, kgb_s, kgb_g f S K m a g b, Bool.or_assoc]
theorem kgb_up {f S : Nat → Nat} {K : Nat → Nat → Bool} {m a : Nat} {g : Bool} {b : Nat} (h : kgb f S K m a g b = true) : ∀ n, kgb f S K m a g (b + n) = true
  | 0 => h
  | n + 1 => by
    rw [show b + (n + 1) = (b + n) + 1 by omega, kgb_s, kgb_up h n]
    rfl
theorem kgb_60 {f S : Nat → Nat} {K : Nat → Nat → Bool} {a : Nat} {g : Bool} (ho : vh_ok f) : ∀ b, kgb f S K 60 a g b = g
  | 0 => rfl
  | b + 1 => by
    rw [kgb_s, kgb_60 ho b]
    have hd := ho.2.2.1
    have : vh_hand f a b 60 (f 0) = 0 := by
      apply Decidable.byContradiction
      intro h
      have := vh_hand_rng ho h
      omega
    rw [this, decide_eq_false (fun q => q rfl)]
    simp
theorem b1_t (v : Bool) : ¬ b1 v = 0 ↔ v = true := by rw [b1_0]; cases v <;> simp
section KG
variable {X : Nat × (Nat → Int32)} {M : vm_M} {f S : Nat → Nat} {w : Nat → Int32}
theorem s_layGoesOn {P : vm_M → Prop} (hM : vh_M M 52 0 f w) (ho : vh_ok f) (hS : ∀ m, S m ≤ 8) (h59 : ∀ m, m ≤ 60 → M 59 m = wmv (S m))
    (h : ∀ M', (∀ r j, r ≠ 61 → M' r j = M r j) → (∀ t x, t ≤ 60 → x < f 2 → M' 61 (6 * t + x) = b1 (kg f S 61 t x)) → P M') : E_M_layGoesOn X M P := by
  have hT := ho.1
  have hd := ho.2.2.1
  have fr : ∀ {M' : vm_M}, (∀ r j, r ≠ 61 → M' r j = M r j) → M' 52 2 = nI (f 2) ∧ vh_M M' 52 0 f w ∧ (∀ m, m ≤ 60 → M' 59 m = wmv (S m)) := by
    intro M' g
    refine ⟨?_, hM.of (fun j _ => g _ _ (by omega)), fun m hm => by rw [g _ _ (by omega)]; exact h59 m hm⟩
    rw [g _ _ (by omega)]
    exact hM.1 2 (by omega) (by omega)
  have outer : ∀ (n k : Nat) (w2 w3 w4 w5 w6 : Value) (M' : vm_M), k + n = 61 → (∀ r j, r ≠ 61 → M' r j = M r j) → (∀ t x, 61 ≤ t + k → t ≤ 60 → x < f 2 → M' 61 (6 * t + x) = b1 (kg f S k t x)) → C_M_layGoesOn_3 X (nI 60 - nI k) w2 w3 w4 w5 w6 M' P := by
    intro n
    induction n with
    | zero =>
      intro k w2 w3 w4 w5 w6 M' hk g I
      have hk : k = 61 := by omega
      subst hk
      apply v_M_layGoesOn_3
      rw [show (0 : Int32) = nI 0 from rfl, vm_down (by omega) (by omega)]
      exact ⟨fun _ => h M' g (fun t x h1 h2 => I t x (by omega) h1 h2), fun q => absurd (by omega) q⟩
    | succ n ih =>
      intro k w2 w3 w4 w5 w6 M' hk g I
      apply v_M_layGoesOn_3
      rw [show (0 : Int32) = nI 0 from rfl, vm_down (by omega) (by omega)]
      refine ⟨fun q => absurd q (by omega), fun _ => ?_⟩
      have mid : ∀ (l a : Nat) (w3 w4 w5 w6 : Value) (M1 : vm_M), a + l = f 2 → (∀ r j, r ≠ 61 → M1 r j = M r j) → (∀ t x, 61 ≤ t + k → t ≤ 60 → x < f 2 → M1 61 (6 * t + x) = b1 (kg f S k t x)) → (∀ x, x < a → M1 61 (6 * (60 - k) + x) = b1 (kg f S (k + 1) (60 - k) x)) → C_M_layGoesOn_9 X (nI 60 - nI k) (nI a) w3 w4 w5 w6 M1 P := by
        intro l
        induction l with
        | zero =>
          intro a w3 w4 w5 w6 M1 ha g1 I1 J1
          have ha : a = f 2 := by omega
          subst ha
          apply v_M_layGoesOn_9
          rw [(fr g1).1, nI_ltI (by omega) (by omega), vm_down1]
          refine ⟨fun q => absurd q (by omega), fun _ => ih (k + 1) _ _ _ _ _ M1 (by omega) g1 (fun t x h1 h2 h3 => ?_)⟩
          by_cases ht : 61 ≤ t + k
          · rw [kg_s, if_neg (by omega)]; exact I1 t x ht h2 h3
          · rw [show t = 60 - k by omega]; exact J1 x h3
        | succ l ihl =>
          intro a w3 w4 w5 w6 M1 ha g1 I1 J1
          rw [pk_sub (by omega)]
          generalize hm : 60 - k = m at J1 ihl
          have hmk : m + k = 60 := by omega
          have nx : ∀ w3 w4 w5 w6 v, v = kg f S (k + 1) m a → C_M_layGoesOn_9 X (nI m) (nI (a + 1)) w3 w4 w5 w6 (vm_u2 M1 61 (6 * m + a) (b1 v)) P := by
            intro w3 w4 w5 w6 v hv
            have := ihl (a + 1) w3 w4 w5 w6 (vm_u2 M1 61 (6 * m + a) (b1 v)) (by omega) (fun r j hr => by rw [vm_u2_r hr]; exact g1 r j hr) (fun t x h1 h2 h3 => by rw [vm_u2_ne (by omega)]; exact I1 t x h1 h2 h3) (fun x hx => ?_)
            · rw [pk_sub (by omega), hm] at this
              exact this
            · by_cases q : x = a
              · rw [q, vm_u2_eq, hv]
              · rw [vm_u2_ne (by omega)]; exact J1 x (by omega)
          rw [kg_s, if_pos hmk] at nx
          have inner : ∀ (g0 : Bool) (i b : Nat) (w6 : Value), (g0 = (decide (m = 60) || kg f S k (m + 1) a)) → b + i = f 2 → C_M_layGoesOn_79 X (nI m) (nI a) (b1 (wok S m a)) (b1 (kgb f S (kg f S k) m a g0 b)) (nI b) w6 M1 P := by
            intro g0 i
            induction i with
            | zero =>
              intro b w6 hg hb
              have hb : b = f 2 := by omega
              subst hb
              subst hg
              apply v_M_layGoesOn_79
              rw [(fr g1).1, nI_ltI (by omega) (by omega)]
              refine ⟨fun q => absurd q (by omega), fun _ => ?_⟩
              simp (disch := omega) only [vm_mul, vm_add, vm_ex]
              rw [b1_0, b1_0]
              refine ⟨fun q => nx _ _ _ _ false ?_, fun q => ⟨fun q2 => nx _ _ _ _ false ?_, fun q2 => nx _ _ _ _ true ?_⟩⟩
              · rw [q]; rfl
              · rw [q2]; simp
              · rw [Bool.not_eq_false] at q q2
                rw [q, q2]; rfl
            | succ i ihi =>
              intro b w6 hg hb
              have nx2 := fun w6 => ihi (b + 1) w6 hg (by omega)
              rw [kgb_s] at nx2
              apply v_M_layGoesOn_79
              rw [(fr g1).1, nI_ltI (by omega) (by omega), nI_ltI (by omega) (by omega)]
              refine ⟨fun _ => ⟨fun h60 => ?_, fun h60 => ?_⟩, fun q => absurd (by omega) q⟩
              · have hhl := vh_hand_le ho (a := a) (b := b) (d := f 0) (t := m) (by omega)
                have hen : vm_en (vh_hand f a b m (f 0)) = Int32.ofInt (-1000000) ↔ vh_hand f a b m (f 0) = 0 := vm_en_none (by omega)
                refine s_M_passedIn (fr g1).2.1 ho (by omega) (by omega) (by omega) ?_
                rw [hen, vm_add, b1_0]
                refine ⟨fun q => ?_, fun q => ?_⟩
                · rw [q] at nx2
                  refine ⟨fun hh => ?_, fun hh => ?_⟩
                  · rw [decide_eq_false (fun q2 => q2 hh)] at nx2
                    exact nx2 _
                  · have hr := vh_hand_rng ho hh
                    have een : vm_en (vh_hand f a b m (f 0)) = nI (vh_hand f a b m (f 0)) := if_neg hh
                    rw [decide_eq_true hh] at nx2
                    rw [een]
                    refine s_isUnseen hS (fr g1).2.2 (by omega) (by omega) (fun c => ⟨fun q => absurd q (by decide), fun _ => ?_⟩) (fun c => ⟨fun _ => ?_, fun q => absurd rfl q⟩) hr.1
                    · simp (disch := omega) only [vm_mul, vm_add, vm_ex]
                      rw [I1 _ b (by omega) (by omega) (by omega), b1_0]
                      rw [c.1, c.2] at nx2
                      refine ⟨fun q3 => ?_, fun q3 => ?_⟩
                      · rw [q3] at nx2; exact nx2 _
                      · rw [Bool.not_eq_false] at q3
                        rw [q3] at nx2; exact nx2 _
                    · have e : (wok S (vh_hand f a b m (f 0)) b && wcl S m (vh_hand f a b m (f 0))) = false := by
                        cases hx : wok S (vh_hand f a b m (f 0)) b <;> cases hy : wcl S m (vh_hand f a b m (f 0)) <;> simp [hx, hy] at c ⊢
                      rw [Bool.true_and, e] at nx2
                      exact nx2 _
                · rw [Bool.not_eq_false] at q
                  rw [q] at nx2
                  exact nx2 _
              · have hm60 : m = 60 := by omega
                rw [← hg] at nx
                clear hg nx2 ihi
                subst hm60
                rw [kgb_60 ho] at nx ⊢
                simp (disch := omega) only [vm_mul, vm_add, vm_ex]
                rw [b1_0, b1_0]
                refine ⟨fun q => nx _ _ _ _ false ?_, fun q => ⟨fun q2 => nx _ _ _ _ false ?_, fun q2 => nx _ _ _ _ true ?_⟩⟩
                · rw [q]; rfl
                · rw [q2]; simp
                · rw [Bool.not_eq_false] at q q2
                  rw [q, q2]; rfl
          have go : ∀ (g0 o : Bool) w6, g0 = (decide (m = 60) || kg f S k (m + 1) a) → o = wok S m a → C_M_layGoesOn_79 X (nI m) (nI a) (b1 o) (b1 g0) (nI 0) w6 M1 P := by
            intro g0 o w6 h1 h2
            subst h2
            exact inner g0 (f 2) 0 w6 h1 (by omega)
          have ek : wok S m a = true ↔ (S m = 7 ∨ S m = a) := by unfold wok; simp
          have tail : ∀ o : Bool, o = wok S m a → (((nI m) = (nI 60) → (C_M_layGoesOn_79 X (nI m) (nI a) (b1 o) (nI 1) (nI 0) (w6) M1 P)) ∧ (¬ ((nI m) = (nI 60)) → (∃ j2 : Nat, ((((nI 6) * (nI m)) + (nI 6)) + (nI a)) = nI j2 ∧ j2 < 366 ∧ (((M1 61 j2) = 0 → (C_M_layGoesOn_79 X (nI m) (nI a) (b1 o) (nI 0) (nI 0) (w6) M1 P)) ∧ (¬ ((M1 61 j2) = 0) → (C_M_layGoesOn_79 X (nI m) (nI a) (b1 o) (nI 1) (nI 0) (w6) M1 P)))))) := by
            intro o ho'
            rw [nI_eq (by omega) (by omega)]
            refine ⟨fun q => go true o w6 ?_ ho', fun q => ?_⟩
            · rw [decide_eq_true q]; rfl
            · simp (disch := omega) only [vm_mul, vm_add, vm_ex]
              rw [show 6 * m + 6 + a = 6 * (m + 1) + a by omega, I1 (m + 1) a (by omega) (by omega) (by omega), b1_0]
              refine ⟨fun q2 => go false o w6 ?_ ho', fun q2 => go true o w6 ?_ ho'⟩
              · rw [q2, decide_eq_false q]; rfl
              · rw [Bool.not_eq_false] at q2
                rw [q2]; simp
          apply v_M_layGoesOn_9
          rw [(fr g1).1, nI_ltI (by omega) (by omega)]
          refine ⟨fun _ => ?_, fun q => absurd (by omega) q⟩
          have rd : ∀ {T : Nat → Prop}, T m → ∃ j, nI m = nI j ∧ j < 61 ∧ T j := fun t => ⟨m, rfl, by omega, t⟩
          refine rd ?_
          rw [(fr g1).2.2 m (by omega), wmv_none _ (hS _)]
          refine ⟨fun q => tail true (ek.mpr (Or.inl q)).symm, fun q => rd ?_⟩
          rw [(fr g1).2.2 m (by omega), wmv_who _ (hS _) a (by omega)]
          refine ⟨fun q2 => tail true (ek.mpr (Or.inr q2)).symm, fun q2 => tail false ?_⟩
          cases hw : wok S m a
          · rfl
          · have := ek.mp hw
            omega
      exact mid (f 2) 0 _ _ _ _ M' (by omega) g I (fun x hx => absurd hx (by omega))
  apply v_M_layGoesOn
  exact outer 61 0 _ _ _ _ _ M (by omega) (fun _ _ _ => rfl) (fun t x h1 h2 => absurd h1 (by omega))
theorem s_canGoOn {P : Int32 → vm_M → Prop} {K : Nat → Nat → Bool} {m a u : Nat} (hC : vh_C M 7 f w) (ho : vh_ok f) (ha : a < f 2) (hm : m ≤ 60) (hu : u ≤ 60) (hcl : ∀ t, m < t → t < 60 → (t ≤ u ↔ wcl S m t = true)) (hok : ∀ t x, K t x = true → wok S t x = true)
    (hI : ∀ t, m < t → t ≤ 60 → ∃ v, v < 64 ∧ M 45 t = nI v ∧ ∀ x, x < f 2 → v.testBit x = K t x) (h : P (b1 (kgb f S K m a false (f 2))) M) : E_Foretold_canGoOn X (nI a) (nI m) (nI u) M P := by
  have hT := ho.1
  have hd := ho.2.2.1
  have loop : ∀ (i b : Nat) (w5 : Value), b + i = f 2 → kgb f S K m a false b = false → C_Foretold_canGoOn_3 X (nI a) (nI m) (nI u) (nI b) w5 M P := by
    intro i
    induction i with
    | zero =>
      intro b w5 hb hf
      have hb : b = f 2 := by omega
      subst hb
      apply v_Foretold_canGoOn_3
      rw [hC.1, nI_ltI (by omega) (by omega)]
      refine ⟨fun q => absurd q (by omega), fun _ => ?_⟩
      rw [hf] at h
      exact h
    | succ i ih =>
      intro b w5 hb hf
      have hhl := vh_hand_le ho (a := a) (b := b) (d := f 0) (t := m) (by omega)
      have hs := kgb_s f S K m a false b
      rw [hf, Bool.false_or] at hs
      have nx := fun w5 (q : (decide (vh_hand f a b m (f 0) ≠ 0) && wok S (vh_hand f a b m (f 0)) b && wcl S m (vh_hand f a b m (f 0)) && K (vh_hand f a b m (f 0)) b) = false) => ih (b + 1) w5 (by omega) (hs.trans q)
      apply v_Foretold_canGoOn_3
      rw [hC.1, hC.2.2.1, nI_ltI (by omega) (by omega)]
      refine ⟨fun _ => ?_, fun q => absurd (by omega) q⟩
      refine s_Hill_handed hC ho (by omega) (by omega) (by omega) (by omega) ?_
      rw [vm_en_lt (by omega) (by omega), vm_add]
      by_cases hh : vh_hand f a b m (f 0) = 0
      · exact ⟨fun q => absurd q (by omega), fun _ => nx _ (by rw [decide_eq_false (fun q => q hh)]; rfl)⟩
      · have hr := vh_hand_rng ho hh
        have een : vm_en (vh_hand f a b m (f 0)) = nI (vh_hand f a b m (f 0)) := if_neg hh
        have hcl' := hcl _ hr.1 (show vh_hand f a b m (f 0) < 60 by omega)
        rw [een]
        simp (disch := omega) only [nI_ltI, vm_ex]
        refine ⟨fun _ => ⟨fun q => nx _ ?_, fun q => ?_⟩, fun q => absurd hr.1 q⟩
        · have : wcl S m (vh_hand f a b m (f 0)) = false := by
            cases hx : wcl S m (vh_hand f a b m (f 0))
            · rfl
            · exact absurd (hcl'.mpr hx) (by omega)
          rw [this]; simp
        · have hc := hcl'.mp (by omega)
          obtain ⟨v, v1, v2, v3⟩ := hI _ hr.1 (show vh_hand f a b m (f 0) ≤ 60 by omega)
          rw [v2, wb_bit1 v v1 b (by omega), v3 b (by omega)]
          refine ⟨fun q2 => nx _ (by rw [q2]; simp), fun q2 => ?_⟩
          rw [Bool.not_eq_false] at q2
          have ht : kgb f S K m a false (b + 1) = true := by
            rw [hs, q2, hc, hok _ _ q2, decide_eq_true hh]; rfl
          have := kgb_up ht (f 2 - (b + 1))
          rw [show b + 1 + (f 2 - (b + 1)) = f 2 by omega] at this
          rw [this] at h
          exact h
  apply v_Foretold_canGoOn
  exact loop (f 2) 0 _ (by omega) rfl
theorem s_fillGoesOn {P : vm_M → Prop} (hC : vh_C M 7 f w) (ho : vh_ok f) (hS : ∀ m, S m ≤ 8) (h43 : ∀ m, m ≤ 60 → M 43 m = nI (wtv (S m)))
    (h : ∀ M', (∀ r j, r ≠ 45 → M' r j = M r j) → (∀ t, t ≤ 60 → ∃ v, v < 64 ∧ M' 45 t = nI v ∧ ∀ x, x < f 2 → v.testBit x = kg f S 61 t x) → P M') : E_Foretold_fillGoesOn X M P := by
  have hT := ho.1
  have hd := ho.2.2.1
  have outer : ∀ (n k : Nat) (w2 w3 w4 : Value) (M' : vm_M), k + n = 61 → (∀ r j, r ≠ 45 → M' r j = M r j) → (∀ t, 61 ≤ t + k → t ≤ 60 → ∃ v, v < 64 ∧ M' 45 t = nI v ∧ ∀ x, x < f 2 → v.testBit x = kg f S k t x) → C_Foretold_fillGoesOn_3 X (nI 60 - nI k) w2 w3 w4 M' P := by
    intro n
    induction n with
    | zero =>
      intro k w2 w3 w4 M' hk g I
      have hk : k = 61 := by omega
      subst hk
      apply v_Foretold_fillGoesOn_3
      rw [show (0 : Int32) = nI 0 from rfl, vm_down (by omega) (by omega)]
      exact ⟨fun _ => h M' g (fun t h1 => I t (by omega) h1), fun q => absurd (by omega) q⟩
    | succ n ih =>
      intro k w2 w3 w4 M' hk g I
      apply v_Foretold_fillGoesOn_3
      rw [show (0 : Int32) = nI 0 from rfl, vm_down (by omega) (by omega)]
      refine ⟨fun q => absurd q (by omega), fun _ => ?_⟩
      have hdn := vm_down1 k
      rw [pk_sub (by omega)] at hdn ⊢
      generalize hm : 60 - k = m at hdn ⊢
      have hmk : m + k = 60 := by omega
      rw [nI_ltI (by omega) (by omega)]
      have mid : ∀ (u : Nat), u ≤ 60 → (∀ t, m < t → t < 60 → (t ≤ u ↔ wcl S m t = true)) → ∀ (l a v : Nat), a + l = f 2 → v < 64 → (∀ x, x < f 2 → v.testBit x = if x < a then kgb f S (kg f S k) m x (decide (m = 60) || kg f S k (m + 1) x) (f 2) else (decide (m = 60) || kg f S k (m + 1) x)) → C_Foretold_fillGoesOn_36 X (nI m) (nI v) (nI u) (nI a) M' P := by
        intro u hu hcl l
        induction l with
        | zero =>
          intro a v ha hv hb
          have ha : a = f 2 := by omega
          subst ha
          apply v_Foretold_fillGoesOn_36
          rw [g 7 0 (by omega), hC.1, nI_ltI (by omega) (by omega)]
          refine ⟨fun q => absurd q (by omega), fun _ => ?_⟩
          simp (disch := omega) only [vm_ex]
          rw [g 43 m (by omega), h43 m (by omega), wb_and, hdn]
          refine ih (k + 1) _ _ _ _ (by omega) (fun r j hr => by rw [vm_u2_r hr]; exact g r j hr) (fun t h1 h2 => ?_)
          by_cases q : t = m
          · subst q
            refine ⟨v &&& wtv (S t), wb_and64 hv, vm_u2_eq, fun x hx => ?_⟩
            rw [Nat.testBit_and, wtv_bit (by omega), hb x hx, if_pos hx, kg_s, if_pos hmk, Bool.and_comm]
          · obtain ⟨v', g1, g2, g3⟩ := I t (by omega) h2
            refine ⟨v', g1, by rw [vm_u2_ne (by omega)]; exact g2, fun x hx => ?_⟩
            rw [kg_s, if_neg (by omega)]
            exact g3 x hx
        | succ l ihl =>
          intro a v ha hv hb
          apply v_Foretold_fillGoesOn_36
          rw [g 7 0 (by omega), hC.1, nI_ltI (by omega) (by omega)]
          refine ⟨fun _ => ?_, fun q => absurd (by omega) q⟩
          refine s_canGoOn (K := kg f S k) (hC.of (fun r j h1 h2 => g r j (by omega))) ho (by omega) (by omega) hu hcl (fun t x q => kg_ok k t x q) (fun t h1 h2 => I t (by omega) h2) ?_
          rw [b1_0, vm_add]
          have hg := kgb_g f S (kg f S k) m a (decide (m = 60) || kg f S k (m + 1) a) (f 2)
          refine ⟨fun q => ihl (a + 1) v (by omega) hv (fun x hx => ?_), fun q => ?_⟩
          · rw [hb x hx]
            by_cases q2 : x = a
            · subst q2
              rw [if_neg (by omega), if_pos (by omega), hg, q, Bool.or_false]
            · by_cases q3 : x < a
              · rw [if_pos q3, if_pos (by omega)]
              · rw [if_neg q3, if_neg (by omega)]
          · rw [Bool.not_eq_false] at q
            rw [wb_sh1 a (by omega), wb_or]
            refine ihl (a + 1) _ (by omega) (wb_or64 hv (wb_p2 a (by omega))) (fun x hx => ?_)
            rw [wb_or_a, hb x hx]
            by_cases q2 : x = a
            · subst q2
              rw [if_pos (show x < x + 1 by omega), hg, q, decide_eq_true (rfl : x = x), Bool.or_true, Bool.or_true]
            · rw [decide_eq_false (show ¬ a = x from fun q3 => q2 q3.symm), Bool.or_false]
              by_cases q3 : x < a
              · rw [if_pos q3, if_pos (by omega)]
              · rw [if_neg q3, if_neg (by omega)]
      refine ⟨fun h60 => ?_, fun h60 => ?_⟩
      · rw [vm_add, vm_ex (by omega) (by omega)]
        obtain ⟨v, v1, v2, v3⟩ := I (m + 1) (by omega) (by omega)
        rw [v2]
        refine s_nextTold hS (fun t ht => by rw [g _ _ (by omega)]; exact h43 t ht) (by omega) (fun u hu hcl => mid u hu hcl (f 2) 0 v (by omega) v1 (fun x hx => ?_))
        rw [if_neg (by omega), v3 x hx, decide_eq_false (by omega), Bool.false_or]
      · refine s_nextTold hS (fun t ht => by rw [g _ _ (by omega)]; exact h43 t ht) (by omega) (fun u hu hcl => mid u hu hcl (f 2) 0 63 (by omega) (by omega) (fun x hx => ?_))
        rw [if_neg (by omega), decide_eq_true (show m = 60 by omega), Bool.true_or]
        exact wb_63 x (by omega)
  apply v_Foretold_fillGoesOn
  exact outer 61 0 _ _ _ M (by omega) (fun _ _ _ => rfl) (fun t h1 h2 => absurd h1 (by omega))
end KG
