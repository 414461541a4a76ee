/-! with whom it can be, all being as told till then -/
def kset (K : Nat → Nat → Bool) (m x : Nat) (v : Bool) : Nat → Nat → Bool := fun m' x' => if m' = m ∧ x' = x then v else K m' x'
theorem kset_eq (K : Nat → Nat → Bool) (m x : Nat) (v : Bool) : kset K m x v m x = v := if_pos ⟨rfl, rfl⟩
theorem kset_ne {K : Nat → Nat → Bool} {m x m' x' : Nat} {v : Bool} (h : ¬ (m' = m ∧ x' = x)) : kset K m x v m' x' = K m' x' := if_neg h
def kb (f S : Nat → Nat) (m a : Nat) (K : Nat → Nat → Bool) : Nat → (Nat → Nat → Bool)
  | 0 => K
  | b + 1 => if vh_hand f a b m (f 0) ≠ 0 ∧ wok S (vh_hand f a b m (f 0)) b = true ∧ wcl S m (vh_hand f a b m (f 0)) = true then kset (kb f S m a K b) (vh_hand f a b m (f 0)) b true else kb f S m a K b
def ka (f S : Nat → Nat) (m : Nat) (K : Nat → Nat → Bool) : Nat → (Nat → Nat → Bool)
  | 0 => K
  | a + 1 => if ka f S m K a m a = true then kb f S m a (kset (ka f S m K a) (m + 1) a (ka f S m K a (m + 1) a || wok S (m + 1) a)) (f 2) else ka f S m K a
def km (f S : Nat → Nat) : Nat → (Nat → Nat → Bool)
  | 0 => kset (fun _ _ => false) 0 0 (wok S 0 0)
  | m + 1 => ka f S m (km f S m) (f 2)
theorem kb_s (f S : Nat → Nat) (m a : Nat) (K : Nat → Nat → Bool) (b : Nat) : kb f S m a K (b + 1) = if vh_hand f a b m (f 0) ≠ 0 ∧ wok S (vh_hand f a b m (f 0)) b = true ∧ wcl S m (vh_hand f a b m (f 0)) = true then kset (kb f S m a K b) (vh_hand f a b m (f 0)) b true else kb f S m a K b := rfl
theorem ka_s (f S : Nat → Nat) (m : Nat) (K : Nat → Nat → Bool) (a : Nat) : ka f S m K (a + 1) = if ka f S m K a m a = true then kb f S m a (kset (ka f S m K a) (m + 1) a (ka f S m K a (m + 1) a || wok S (m + 1) a)) (f 2) else ka f S m K a := rfl
theorem km_s (f S : Nat → Nat) (m : Nat) : km f S (m + 1) = ka f S m (km f S m) (f 2) := rfl
def b1 (v : Bool) : Int32 := if v = true then nI 1 else nI 0
theorem b1_0 {v : Bool} : b1 v = 0 ↔ v = false := by cases v <;> decide
/-- a table of the reference -/
def kM (K : Nat → Nat → Bool) (r : Nat) (M : vm_M) : Prop := ∀ m x, m ≤ 60 → x < 6 → M r (6 * m + x) = b1 (K m x)
theorem kM.set {K : Nat → Nat → Bool} {r m x : Nat} {M : vm_M} {v : Bool} {w : Int32} (h : kM K r M) (hx : x < 6) (hw : w = b1 v) : kM (kset K m x v) r (vm_u2 M r (6 * m + x) w) := by
  intro m' x' hm' hx'
  by_cases q : m' = m ∧ x' = x
  · rw [q.1, q.2, vm_u2_eq, kset_eq, hw]
  · rw [kset_ne q, vm_u2_ne (by omega)]
    exact h m' x' hm' hx'
/-- a table of the class as bits: the first p are as told, of the others those that are told so will be -/
def kC (f S : Nat → Nat) (K : Nat → Nat → Bool) (p : Nat) (M : vm_M) : Prop := ∀ t, t ≤ 60 → ∃ v, v < 64 ∧ M 44 t = nI v ∧ (∀ x, v.testBit x = true → x < f 2) ∧ ∀ x, x < 6 → K t x = if t < p then v.testBit x else (v.testBit x && wok S t x)
theorem kC.of {f S : Nat → Nat} {K : Nat → Nat → Bool} {p : Nat} {M M' : vm_M} (h : kC f S K p M) (he : ∀ j, M' 44 j = M 44 j) : kC f S K p M' := by
  intro t ht
  obtain ⟨v, h1, h2, h3⟩ := h t ht
  exact ⟨v, h1, by rw [he]; exact h2, h3⟩
/-- a bit more -/
theorem kC.set {f S : Nat → Nat} {K : Nat → Nat → Bool} {p m x : Nat} {M : vm_M} {w : Int32} (h : kC f S K p M) (hm : m ≤ 60) (hp : p ≤ m) (hx : x < f 2) (h6 : f 2 ≤ 6) (hw : w = (M 44 m) ||| ((nI 1) <<< (nI x &&& 31))) : kC f S (kset K m x (wok S m x)) p (vm_u2 M 44 m w) := by
  intro t ht
  by_cases q : t = m
  · subst q
    obtain ⟨v, h1, h2, h3, h4⟩ := h t ht
    refine ⟨v ||| 2 ^ x, wb_or64 h1 (wb_p2 x (by omega)), ?_, fun y hy => ?_, fun y hy => ?_⟩
    · rw [vm_u2_eq, hw, h2, wb_sh1 x (by omega), wb_or]
    · rw [wb_or_a, Bool.or_eq_true] at hy
      rcases hy with hy | hy
      · exact h3 y hy
      · have := of_decide_eq_true hy
        omega
    · rw [if_neg (by omega), wb_or_a]
      by_cases q2 : y = x
      · subst q2
        rw [kset_eq, decide_eq_true rfl]
        simp
      · rw [kset_ne (by omega), decide_eq_false (show ¬ x = y by omega), h4 y hy, if_neg (by omega)]
        simp
  · obtain ⟨v, h1, h2, h3, h4⟩ := h t ht
    refine ⟨v, h1, by rw [vm_u2_ne (by omega)]; exact h2, h3, fun y hy => ?_⟩
    rw [kset_ne (by omega)]
    exact h4 y hy
/-- what is so set when it was not so before -/
theorem kset_or {K : Nat → Nat → Bool} {f S : Nat → Nat} {p m x : Nat} {M : vm_M} (h : kC f S K p M) (hm : m ≤ 60) (hp : p ≤ m) (hx : x < 6) : kset K m x (K m x || wok S m x) = kset K m x (wok S m x) := by
  obtain ⟨v, h1, h2, h3, h4⟩ := h m hm
  have := h4 x hx
  rw [if_neg (by omega)] at this
  have e : (K m x || wok S m x) = wok S m x := by
    rw [this]
    cases v.testBit x <;> cases wok S m x <;> rfl
  rw [e]
section KM
variable {X : Nat × (Nat → Int32)} {M : vm_M} {f S : Nat → Nat} {w : Nat → Int32}
/-- the reference -/
theorem s_layComes {P : vm_M → Prop} (hM : vh_M M 52 0 f w) (ho : vh_ok f) (hpos : 0 < f 2) (hS : ∀ m, S m ≤ 8) (h59 : ∀ m, m ≤ 60 → M 59 m = wmv (S m))
    (h : ∀ M', (∀ r j, r ≠ 60 → M' r j = M r j) → kM (km f S 60) 60 M' → P M') : E_M_layComes X M P := by
  have hT := ho.1
  have hd := ho.2.2.1
  have fr : ∀ {M' : vm_M}, (∀ r j, r ≠ 60 → M' r j = M r j) → M' 52 2 = nI (f 2) ∧ vh_M M' 52 0 f w ∧ (∀ m, m ≤ 60 → M' 59 m = wmv (S m)) := by
    intro M' g
    refine ⟨?_, hM.of (fun j _ => g _ _ (by omega)), fun m hm => by rw [g _ _ (by omega)]; exact h59 m hm⟩
    rw [g _ _ (by omega)]
    exact hM.1 2 (by omega) (by omega)
  have outer : ∀ (n m : Nat) (w2 w3 w4 : Value) (M' : vm_M), m + n = 60 → (∀ r j, r ≠ 60 → M' r j = M r j) → kM (km f S m) 60 M' → C_M_layComes_55 X (nI m) w2 w3 w4 M' P := by
    intro n
    induction n with
    | zero =>
      intro m w2 w3 w4 M' hm g k
      have hm : m = 60 := by omega
      subst hm
      apply v_M_layComes_55
      rw [nI_ltI (by omega) (by omega)]
      exact ⟨fun q => absurd q (by omega), fun _ => h M' g k⟩
    | succ n ih =>
      intro m w2 w3 w4 M' hm g k
      apply v_M_layComes_55
      rw [nI_ltI (by omega) (by omega)]
      refine ⟨fun _ => ?_, fun q => absurd (by omega) q⟩
      have mid : ∀ (l a : Nat) (w3 w4 : Value) (M1 : vm_M), a + l = f 2 → (∀ r j, r ≠ 60 → M1 r j = M r j) → kM (ka f S m (km f S m) a) 60 M1 → C_M_layComes_63 X (nI m) (nI a) w3 w4 M1 P := by
        intro l
        induction l with
        | zero =>
          intro a w3 w4 M1 ha g1 k1
          have ha : a = f 2 := by omega
          subst ha
          apply v_M_layComes_63
          rw [(fr g1).1, nI_ltI (by omega) (by omega), vm_add m 1]
          refine ⟨fun q => absurd q (by omega), fun _ => ih (m + 1) _ _ _ M1 (by omega) g1 ?_⟩
          rw [km_s]
          exact k1
        | succ l ihl =>
          intro a w3 w4 M1 ha g1 k1
          apply v_M_layComes_63
          rw [(fr g1).1, nI_ltI (by omega) (by omega)]
          refine ⟨fun _ => ?_, fun q => absurd (by omega) q⟩
          simp (disch := omega) only [vm_mul, vm_add, vm_ex]
          rw [k1 m a (by omega) (by omega), b1_0]
          have nx := fun w3 w4 M2 => ihl (a + 1) w3 w4 M2 (by omega)
          rw [ka_s] at nx
          refine ⟨fun q => ?_, fun q => ?_⟩
          · rw [if_neg (by rw [q]; decide)] at nx
            exact nx _ _ M1 g1 k1
          · have q : ka f S m (km f S m) a m a = true := by cases hq : ka f S m (km f S m) a m a <;> simp [hq] at q ⊢
            rw [if_pos q] at nx
            rw [show 6 * m + 6 + a = 6 * (m + 1) + a by omega, k1 (m + 1) a (by omega) (by omega), b1_0, (fr g1).2.2 (m + 1) (by omega), wmv_none _ (hS _), wmv_who _ (hS _) a (by omega)]
            have inner : ∀ (i b : Nat) (w4 : Value) (M2 : vm_M), b + i = f 2 → (∀ r j, r ≠ 60 → M2 r j = M r j) → kM (kb f S m a (kset (ka f S m (km f S m) a) (m + 1) a (ka f S m (km f S m) a (m + 1) a || wok S (m + 1) a)) b) 60 M2 → C_M_layComes_150 X (nI m) (nI a) (nI b) w4 M2 P := by
              intro i
              induction i with
              | zero =>
                intro b w4 M2 hb g2 k2
                have hb : b = f 2 := by omega
                subst hb
                apply v_M_layComes_150
                rw [(fr g2).1, nI_ltI (by omega) (by omega), vm_add a 1]
                exact ⟨fun q => absurd q (by omega), fun _ => nx _ _ M2 g2 k2⟩
              | succ i ihi =>
                intro b w4 M2 hb g2 k2
                have hhl := vh_hand_le ho (a := a) (b := b) (d := f 0) (t := m) (by omega)
                have hen : vm_en (vh_hand f a b m (f 0)) = Int32.ofInt (-1000000) ↔ vh_hand f a b m (f 0) = 0 := vm_en_none (by omega)
                have nx2 := fun w4 M3 => ihi (b + 1) w4 M3 (by omega)
                rw [kb_s] at nx2
                apply v_M_layComes_150
                rw [(fr g2).1, nI_ltI (by omega) (by omega)]
                refine ⟨fun _ => ?_, fun q => absurd (by omega) q⟩
                refine s_M_passedIn (fr g2).2.1 ho (by omega) (by omega) (by omega) ?_
                rw [hen, vm_add]
                refine ⟨fun hh => ?_, fun hh => ?_⟩
                · rw [if_neg (fun q => q.1 hh)] at nx2
                  exact nx2 _ M2 g2 k2
                · have hr := vh_hand_rng ho hh
                  have een : vm_en (vh_hand f a b m (f 0)) = nI (vh_hand f a b m (f 0)) := if_neg hh
                  rw [een]
                  refine s_isUnseen hS (fr g2).2.2 (by omega) (by omega) (fun c => ⟨fun q => absurd q (by decide), fun _ => ?_⟩) (fun c => ⟨fun _ => ?_, fun q => absurd rfl q⟩) hr.1
                  · rw [if_pos ⟨hh, c.1, c.2⟩] at nx2
                    simp (disch := omega) only [vm_mul, vm_add, vm_ex]
                    exact nx2 _ _ (fun r j hr => by rw [vm_u2_r hr]; exact g2 r j hr) (k2.set (by omega) rfl)
                  · rw [if_neg (fun q => c ⟨q.2.1, q.2.2⟩)] at nx2
                    exact nx2 _ M2 g2 k2
            have go : ∀ v : Bool, v = (ka f S m (km f S m) a (m + 1) a || wok S (m + 1) a) → C_M_layComes_150 X (nI m) (nI a) (nI 0) w4 (vm_u2 M1 60 (6 * (m + 1) + a) (b1 v)) P := by
              intro v hv
              subst hv
              exact inner (f 2) 0 _ _ (by omega) (fun r j hr => by rw [vm_u2_r hr]; exact g1 r j hr) (k1.set (by omega) rfl)
            have ek : wok S (m + 1) a = true ↔ (S (m + 1) = 7 ∨ S (m + 1) = a) := by unfold wok; simp
            refine ⟨fun q1 => ⟨fun q2 => ?_, fun q2 => ⟨fun q3 => ?_, fun q3 => ?_⟩⟩, fun q1 => ?_⟩
            · exact go true (by rw [ek.mpr (Or.inl q2)]; simp)
            · exact go true (by rw [ek.mpr (Or.inr q3)]; simp)
            · refine go false ?_
              rw [q1]
              cases hw : wok S (m + 1) a
              · rfl
              · have := ek.mp hw
                omega
            · refine go true ?_
              have : ka f S m (km f S m) a (m + 1) a = true := by cases hq : ka f S m (km f S m) a (m + 1) a <;> simp [hq] at q1 ⊢
              rw [this]; rfl
      exact mid (f 2) 0 _ _ M' (by omega) g k
  have clr : ∀ (n k : Nat) (M' : vm_M), k + n = 366 → (∀ r j, r ≠ 60 → M' r j = M r j) → (∀ j, j < k → M' 60 j = nI 0) → C_M_layComes_2 X (nI k) .null .null .null M' P := by
    intro n
    induction n with
    | zero =>
      intro k M' hk g z
      apply v_M_layComes_2
      rw [nI_ltI (by omega) (by omega), (fr g).2.2 0 (by omega), wmv_none _ (hS _), show (0 : Int32) = nI 0 from rfl, wmv_who _ (hS _) 0 (by omega)]
      refine ⟨fun q => absurd q (by omega), fun _ => ?_⟩
      have go : ∀ v : Bool, v = wok S 0 0 → C_M_layComes_55 X (nI 0) .null .null .null (vm_u2 M' 60 0 (b1 v)) P := by
        intro v hv
        refine outer 60 0 _ _ _ _ (by omega) (fun r j hr => by rw [vm_u2_r hr]; exact g r j hr) ?_
        have k0 : kM (fun _ _ => false) 60 M' := fun m x hm hx => z _ (by omega)
        have := k0.set (m := 0) (x := 0) (v := v) (w := b1 v) (by omega) rfl
        rw [hv] at this ⊢
        exact this
      have ek : wok S 0 0 = true ↔ (S 0 = 7 ∨ S 0 = 0) := by unfold wok; simp
      refine ⟨fun q => go true (ek.mpr (Or.inl q)).symm, fun q => ⟨fun q2 => go true (ek.mpr (Or.inr q2)).symm, fun q2 => go false ?_⟩⟩
      cases hw : wok S 0 0
      · rfl
      · have := ek.mp hw
        omega
    | succ n ih =>
      intro k M' hk g z
      apply v_M_layComes_2
      simp (disch := omega) only [nI_ltI, vm_ex, vm_add]
      refine ⟨fun _ => ih (k + 1) _ (by omega) (fun r j hr => ?_) (fun j hj => ?_), fun q => absurd (by omega) q⟩
      · rw [vm_u2_r hr]; exact g r j hr
      · by_cases hjk : j = k
        · subst hjk; rw [vm_u2_eq]
        · rw [vm_u2_ne (by omega)]; exact z j (by omega)
  apply v_M_layComes
  exact clr 366 0 M (by omega) (fun _ _ _ => rfl) (fun j hj => absurd hj (by omega))
/-- the class, from one in a minute -/
theorem s_goFrom {P : vm_M → Prop} {K : Nat → Nat → Bool} {m a u : Nat} (hC : vh_C M 7 f w) (ho : vh_ok f) (ha : a < f 2) (hm : m < 60) (hu : u ≤ 60) (hcl : ∀ t, m < t → t < 60 → (t ≤ u ↔ wcl S m t = true)) (hk : kC f S K (m + 1) M)
    (h : ∀ M', (∀ r j, r ≠ 44 → M' r j = M r j) → kC f S (kb f S m a (kset K (m + 1) a (K (m + 1) a || wok S (m + 1) a)) (f 2)) (m + 1) M' → P M') : E_Foretold_goFrom X (nI a) (nI m) (nI u) M P := by
  have hT := ho.1
  have hd := ho.2.2.1
  have loop : ∀ (i b : Nat) (w5 : Value) (M' : vm_M), b + i = f 2 → (∀ r j, r ≠ 44 → M' r j = M r j) → kC f S (kb f S m a (kset K (m + 1) a (K (m + 1) a || wok S (m + 1) a)) b) (m + 1) M' → C_Foretold_goFrom_23 X (nI a) (nI m) (nI u) (nI b) w5 M' P := by
    intro i
    induction i with
    | zero =>
      intro b w5 M' hb g k
      have hb : b = f 2 := by omega
      subst hb
      apply v_Foretold_goFrom_23
      rw [g 7 0 (by omega), hC.1, nI_ltI (by omega) (by omega)]
      exact ⟨fun q => absurd q (by omega), fun _ => h M' g k⟩
    | succ i ih =>
      intro b w5 M' hb g k
      have hhl := vh_hand_le ho (a := a) (b := b) (d := f 0) (t := m) (by omega)
      have nx := fun w5 M3 => ih (b + 1) w5 M3 (by omega)
      rw [kb_s] at nx
      apply v_Foretold_goFrom_23
      rw [g 7 0 (by omega), g 7 2 (by omega), hC.1, hC.2.2.1, nI_ltI (by omega) (by omega)]
      refine ⟨fun _ => ?_, fun q => absurd (by omega) q⟩
      refine s_Hill_handed (hC.of (fun r j h1 h2 => g r j (by omega))) ho (by omega) (by omega) (by omega) (by omega) ?_
      rw [vm_en_lt (by omega) (by omega), vm_add]
      by_cases hh : vh_hand f a b m (f 0) = 0
      · rw [if_neg (fun q => q.1 hh)] at nx
        exact ⟨fun q => absurd q (by omega), fun _ => nx _ M' g k⟩
      · have hr := vh_hand_rng ho hh
        have een : vm_en (vh_hand f a b m (f 0)) = nI (vh_hand f a b m (f 0)) := if_neg hh
        have hcl' := hcl _ hr.1 (show vh_hand f a b m (f 0) < 60 by omega)
        rw [een]
        simp (disch := omega) only [nI_ltI, vm_ex]
        refine ⟨fun _ => ⟨fun q => ?_, fun q => ?_⟩, fun q => absurd hr.1 q⟩
        · rw [if_neg (fun q2 => absurd (hcl'.mpr q2.2.2) (by omega))] at nx
          exact nx _ M' g k
        · have hc := hcl'.mp (by omega)
          have k2 := k.set (m := vh_hand f a b m (f 0)) (x := b) (by omega) (by omega) (by omega) hT rfl
          refine nx _ _ (fun r j hr => by rw [vm_u2_r hr]; exact g r j hr) ?_
          by_cases hok : wok S (vh_hand f a b m (f 0)) b = true
          · rw [if_pos ⟨hh, hok, hc⟩]
            rw [hok] at k2
            exact k2
          · rw [if_neg (fun q2 => hok q2.2.1)]
            have e : kset (kb f S m a (kset K (m + 1) a (K (m + 1) a || wok S (m + 1) a)) b) (vh_hand f a b m (f 0)) b (wok S (vh_hand f a b m (f 0)) b) = kb f S m a (kset K (m + 1) a (K (m + 1) a || wok S (m + 1) a)) b := by
              funext t x
              by_cases q2 : t = vh_hand f a b m (f 0) ∧ x = b
              · obtain ⟨rfl, rfl⟩ := q2
                obtain ⟨v, h1, h2, h3, h4⟩ := k (vh_hand f a x m (f 0)) (by omega)
                rw [kset_eq, h4 x (by omega), if_neg (by omega)]
                cases hw : wok S (vh_hand f a x m (f 0)) x
                · simp
                · exact absurd hw hok
              · rw [kset_ne q2]
            rw [e] at k2
            exact k2
  apply v_Foretold_goFrom
  simp (disch := omega) only [nI_ltI, vm_add, vm_ex]
  refine ⟨fun _ => ?_, fun q => absurd hm q⟩
  have k2 := hk.set (m := m + 1) (x := a) (by omega) (by omega) ha hT rfl
  rw [← kset_or hk (by omega) (by omega) (by omega)] at k2
  exact loop (f 2) 0 _ _ (by omega) (fun r j hr => by rw [vm_u2_r hr]) k2
/-- in the last minute nobody goes -/
theorem s_goFrom60 {P : vm_M → Prop} {a u : Nat} (hC : vh_C M 7 f w) (ho : vh_ok f) (ha : a < f 2) (h : P M) : E_Foretold_goFrom X (nI a) (nI 60) (nI u) M P := by
  have hT := ho.1
  have hd := ho.2.2.1
  have loop : ∀ (i b : Nat) (w5 : Value), b + i = f 2 → C_Foretold_goFrom_23 X (nI a) (nI 60) (nI u) (nI b) w5 M P := by
    intro i
    induction i with
    | zero =>
      intro b w5 hb
      apply v_Foretold_goFrom_23
      rw [hC.1, nI_ltI (by omega) (by omega)]
      exact ⟨fun q => absurd q (by omega), fun _ => h⟩
    | succ i ih =>
      intro b w5 hb
      have hhl := vh_hand_le ho (a := a) (b := b) (d := f 0) (t := 60) (by omega)
      apply v_Foretold_goFrom_23
      rw [hC.1, hC.2.2.1, nI_ltI (by omega) (by omega)]
      refine ⟨fun _ => ?_, fun q => absurd (by omega) q⟩
      refine s_Hill_handed hC ho (by omega) (by omega) (by omega) (by omega) ?_
      rw [vm_en_lt (by omega) (by omega), vm_add]
      refine ⟨fun q => ?_, fun _ => ih (b + 1) _ (by omega)⟩
      have hr := vh_hand_rng ho (show vh_hand f a b 60 (f 0) ≠ 0 by omega)
      omega
  apply v_Foretold_goFrom
  rw [nI_ltI (by omega) (by omega)]
  exact ⟨fun q => absurd q (by omega), fun _ => loop (f 2) 0 _ (by omega)⟩
theorem s_fillCame {P : vm_M → Prop} (hC : vh_C M 7 f w) (ho : vh_ok f) (hpos : 0 < f 2) (hS : ∀ m, S m ≤ 8) (h43 : ∀ m, m ≤ 60 → M 43 m = nI (wtv (S m)))
    (h : ∀ M', (∀ r j, r ≠ 44 → M' r j = M r j) → kC f S (km f S 60) 61 M' → P M') : E_Foretold_fillCame X M P := by
  have hT := ho.1
  have hd := ho.2.2.1
  have outer : ∀ (n m : Nat) (w2 w3 : Value) (M' : vm_M), m + n = 61 → (∀ r j, r ≠ 44 → M' r j = M r j) → kC f S (if m = 61 then km f S 60 else km f S m) m M' → C_Foretold_fillCame_30 X (nI m) w2 w3 M' P := by
    intro n
    induction n with
    | zero =>
      intro m w2 w3 M' hm g k
      have hm : m = 61 := by omega
      subst hm
      apply v_Foretold_fillCame_30
      rw [nI_ltI (by omega) (by omega)]
      exact ⟨fun _ => h M' g k, fun q => absurd (by omega) q⟩
    | succ n ih =>
      intro m w2 w3 M' hm g k
      rw [if_neg (by omega)] at k
      apply v_Foretold_fillCame_30
      rw [nI_ltI (by omega) (by omega)]
      refine ⟨fun q => absurd q (by omega), fun _ => ?_⟩
      simp (disch := omega) only [vm_ex]
      obtain ⟨v, v1, v2, v3, v4⟩ := k m (by omega)
      rw [v2, g 43 m (by omega), h43 m (by omega), wb_and]
      generalize hM1 : vm_u2 M' 44 m (nI (v &&& wtv (S m))) = M1
      have g1 : ∀ r j, r ≠ 44 → M1 r j = M r j := fun r j hr => by rw [← hM1, vm_u2_r hr]; exact g r j hr
      have k1 : kC f S (km f S m) (m + 1) M1 := by
        intro t ht
        by_cases q : t = m
        · subst q
          refine ⟨v &&& wtv (S t), wb_and64 v1, by rw [← hM1, vm_u2_eq], fun x hx => v3 x ?_, fun x hx => ?_⟩
          · rw [Nat.testBit_and, Bool.and_eq_true] at hx
            exact hx.1
          · rw [if_pos (by omega), Nat.testBit_and, wtv_bit hx, v4 x hx, if_neg (by omega)]
        · obtain ⟨v', h1, h2, h3, h4⟩ := k t ht
          refine ⟨v', h1, by rw [← hM1, vm_u2_ne (by omega)]; exact h2, h3, fun x hx => ?_⟩
          rw [h4 x hx]
          by_cases q2 : t < m
          · rw [if_pos q2, if_pos (by omega)]
          · rw [if_neg q2, if_neg (by omega)]
      clear hM1 v1 v2 v3 v4 k g
      refine s_nextTold hS (fun t ht => by rw [g1 _ _ (by omega)]; exact h43 t ht) (by omega) (fun u hu hcl => ?_)
      by_cases h60 : m = 60
      · subst h60
        have mid : ∀ (l a : Nat), a + l = f 2 → C_Foretold_fillCame_59 X (nI 60) (nI u) (nI a) M1 P := by
          intro l
          induction l with
          | zero =>
            intro a ha
            apply v_Foretold_fillCame_59
            rw [g1 7 0 (by omega), hC.1, nI_ltI (by omega) (by omega), vm_add]
            exact ⟨fun q => absurd q (by omega), fun _ => ih 61 _ _ M1 (by omega) g1 k1⟩
          | succ l ihl =>
            intro a ha
            apply v_Foretold_fillCame_59
            rw [g1 7 0 (by omega), hC.1, nI_ltI (by omega) (by omega), vm_ex (by omega) (by omega), vm_add]
            refine ⟨fun _ => ⟨fun _ => ihl (a + 1) (by omega), fun _ => ?_⟩, fun q => absurd (by omega) q⟩
            exact s_goFrom60 (hC.of (fun r j h1 h2 => g1 r j (by omega))) ho (by omega) (ihl (a + 1) (by omega))
        exact mid (f 2) 0 (by omega)
      · have mid : ∀ (l a : Nat) (M2 : vm_M), a + l = f 2 → (∀ r j, r ≠ 44 → M2 r j = M r j) → kC f S (ka f S m (km f S m) a) (m + 1) M2 → C_Foretold_fillCame_59 X (nI m) (nI u) (nI a) M2 P := by
          intro l
          induction l with
          | zero =>
            intro a M2 ha g2 k2
            have ha : a = f 2 := by omega
            subst ha
            apply v_Foretold_fillCame_59
            rw [g2 7 0 (by omega), hC.1, nI_ltI (by omega) (by omega), vm_add m 1]
            refine ⟨fun q => absurd q (by omega), fun _ => ih (m + 1) _ _ M2 (by omega) g2 ?_⟩
            rw [if_neg (by omega), km_s]
            exact k2
          | succ l ihl =>
            intro a M2 ha g2 k2
            have nx := fun M3 => ihl (a + 1) M3 (by omega)
            rw [ka_s] at nx
            obtain ⟨v, v1, v2, v3, v4⟩ := k2 m (by omega)
            have va := v4 a (by omega)
            rw [if_pos (by omega)] at va
            apply v_Foretold_fillCame_59
            rw [g2 7 0 (by omega), hC.1, nI_ltI (by omega) (by omega), vm_ex (by omega) (by omega), vm_add, v2, wb_bit1 v v1 a (by omega), ← va]
            refine ⟨fun _ => ⟨fun q => ?_, fun q => ?_⟩, fun q => absurd (by omega) q⟩
            · rw [if_neg (by rw [q]; decide)] at nx
              exact nx M2 g2 k2
            · have q : ka f S m (km f S m) a m a = true := by cases hq : ka f S m (km f S m) a m a <;> simp [hq] at q ⊢
              rw [if_pos q] at nx
              refine s_goFrom (hC.of (fun r j h1 h2 => g2 r j (by omega))) ho (by omega) (by omega) hu hcl k2 (fun M3 g3 k3 => nx M3 (fun r j hr => (g3 r j hr).trans (g2 r j hr)) k3)
        exact mid (f 2) 0 M1 (by omega) g1 k1
  have clr : ∀ (n k : Nat) (M' : vm_M), k + n = 61 → 1 ≤ k → (∀ r j, r ≠ 44 → M' r j = M r j) → (∀ j, 1 ≤ j → j < k → M' 44 j = nI 0) → C_Foretold_fillCame_2 X (nI k) .null .null M' P := by
    intro n
    induction n with
    | zero =>
      intro k M' hk h1 g z
      apply v_Foretold_fillCame_2
      rw [nI_ltI (by omega) (by omega)]
      refine ⟨fun _ => ?_, fun q => absurd (by omega) q⟩
      refine outer 61 0 _ _ _ (by omega) (fun r j hr => by rw [vm_u2_r hr]; exact g r j hr) (fun t ht => ?_)
      rw [if_neg (by omega)]
      by_cases q : t = 0
      · subst q
        refine ⟨1, by omega, vm_u2_eq, fun x hx => ?_, fun x hx => ?_⟩
        · have := Nat.testBit_two_pow (n := 0) (m := x)
          rw [show (2 : Nat) ^ 0 = 1 from rfl, hx] at this
          have := of_decide_eq_true this.symm
          omega
        · have e := Nat.testBit_two_pow (n := 0) (m := x)
          rw [show (2 : Nat) ^ 0 = 1 from rfl] at e
          rw [if_neg (by omega), e]
          show kset (fun _ _ => false) 0 0 (wok S 0 0) 0 x = _
          by_cases q2 : x = 0
          · subst q2
            rw [kset_eq, decide_eq_true rfl]; rfl
          · rw [kset_ne (by omega), decide_eq_false (by omega)]; rfl
      · refine ⟨0, by omega, by rw [vm_u2_ne (by omega)]; exact z t (by omega) (by omega), fun x hx => (by rw [Nat.zero_testBit] at hx; exact absurd hx (by decide)), fun x hx => ?_⟩
        show kset (fun _ _ => false) 0 0 (wok S 0 0) t x = _
        rw [kset_ne (by omega), Nat.zero_testBit]
        split <;> rfl
    | succ n ih =>
      intro k M' hk h1 g z
      apply v_Foretold_fillCame_2
      simp (disch := omega) only [nI_ltI, vm_ex, vm_add]
      refine ⟨fun q => absurd q (by omega), fun _ => ih (k + 1) _ (by omega) (by omega) (fun r j hr => ?_) (fun j h2 hj => ?_)⟩
      · rw [vm_u2_r hr]; exact g r j hr
      · by_cases hjk : j = k
        · subst hjk; rw [vm_u2_eq]
        · rw [vm_u2_ne (by omega)]; exact z j h2 (by omega)
  apply v_Foretold_fillCame
  exact clr 60 1 M (by omega) (by omega) (fun _ _ _ => rfl) (fun j h1 h2 => absurd h1 (by omega))
end KM
