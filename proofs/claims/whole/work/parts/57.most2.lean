section VH
variable {X : Nat × (Nat → Int32)} {M : vm_M} {f : Nat → Nat} {w : Nat → Int32}
theorem s_M_most36 {P : Int32 → vm_M → Prop} (hM : vh_M M 52 0 f w) (ho : vh_ok f) {t x y : Nat} (ht : t ≤ 60) (hx : x < f 2) (hy : y < 2)
    (h : ∀ M', (∀ r j, r ≠ 57 → r ≠ 58 → M' r j = M r j) → P (if y = 0 then (vg_t f (nI 0, nI 0) (vb_most f) (61 - t) t x).1 else (vg_t f (nI 0, nI 0) (vb_most f) (61 - t) t x).2) M') (w5 w6 w7 w8 w9 w10 w11 : Value) : C_M_most_36 X (nI x) (nI t) (nI y) (nI 0) w5 w6 w7 w8 w9 w10 w11 M P := by
  have hd := ho.2.2.1
  have hT := ho.1
  have outer : ∀ (n k : Nat) (w5 w6 w7 w8 w9 w10 w11 : Value) (M' : vm_M), k + n = 61 - t → (∀ r j, r ≠ 57 → r ≠ 58 → M' r j = M r j) → (∀ m a, 61 ≤ m + k → m ≤ 61 → a < f 2 → (M' 57 (6 * m + a), M' 58 (6 * m + a)) = vg_t f (nI 0, nI 0) (vb_most f) k m a) → C_M_most_70 X (nI x) (nI t) (nI y) (nI 60 - nI k) w5 w6 w7 w8 w9 w10 w11 M' P := by
    intro n
    induction n with
    | zero =>
      intro k w5 w6 w7 w8 w9 w10 w11 M' hk hM' hI
      apply v_M_most_70
      rw [vm_down (by omega) (by omega)]
      simp (disch := omega) only [vm_mul, vm_add, vm_ex, vm_n0]
      have := h M' hM'
      rw [show 61 - t = k by omega, ← hI t x (by omega) (by omega) hx] at this
      refine ⟨fun _ => ⟨fun q => ?_, fun q => ?_⟩, fun q => absurd (by omega) q⟩
      · rw [if_pos q] at this; exact this
      · rw [if_neg q] at this; exact this
    | succ n ih =>
      intro k w5 w6 w7 w8 w9 w10 w11 M' hk hM' hI
      apply v_M_most_70
      rw [vm_down (by omega) (by omega)]
      refine ⟨fun q => absurd q (by omega), fun _ => ?_⟩
      have mid : ∀ (i a : Nat) (w6 w7 w8 w9 w10 w11 : Value) (M1 : vm_M), a + i = f 2 → (∀ r j, r ≠ 57 → r ≠ 58 → M1 r j = M r j) → (∀ m a, 61 ≤ m + k → m ≤ 61 → a < f 2 → (M1 57 (6 * m + a), M1 58 (6 * m + a)) = vg_t f (nI 0, nI 0) (vb_most f) k m a) → (∀ a', a' < a → (M1 57 (6 * (60 - k) + a'), M1 58 (6 * (60 - k) + a')) = vg_t f (nI 0, nI 0) (vb_most f) (k + 1) (60 - k) a') → C_M_most_79 X (nI x) (nI t) (nI y) (nI 60 - nI k) (nI a) w6 w7 w8 w9 w10 w11 M1 P := by
        intro i
        induction i with
        | zero =>
          intro a w6 w7 w8 w9 w10 w11 M1 ha hM1 hI1 hJ
          have ha : a = f 2 := by omega
          subst ha
          have e7 : M1 52 2 = nI (f 2) := (hM1 52 2 (by omega) (by omega)).trans (hM.1 2 (by omega) (by omega))
          apply v_M_most_79
          rw [e7]
          refine ⟨fun q => absurd ((nI_ltI (by omega) (by omega)).mp q) (by omega), fun _ => ?_⟩
          rw [vm_down1]
          refine ih (k + 1) _ _ _ _ _ _ _ M1 (by omega) hM1 (fun m a h1 h2 h3 => ?_)
          by_cases hm : 61 ≤ m + k
          · rw [vg_t_old _ _ _ hm]; exact hI1 m a hm h2 h3
          · rw [show m = 60 - k by omega]; exact hJ a h3
        | succ i ihi =>
          intro a w6 w7 w8 w9 w10 w11 M1 ha hM1 hI1 hJ
          have e7 : M1 52 2 = nI (f 2) := (hM1 52 2 (by omega) (by omega)).trans (hM.1 2 (by omega) (by omega))
          have hMM1 : vh_M M1 52 0 f w := hM.of (fun j h1 => hM1 52 _ (by omega) (by omega))
          apply v_M_most_79
          rw [e7, pk_sub (by omega)]
          simp (disch := omega) only [vm_mul, vm_add, vm_ex, nI_ltI]
          refine ⟨fun _ => ?_, fun q => absurd (by omega) q⟩
          have inner : ∀ (l b : Nat) (p : Int32 × Int32) (w9 w10 w11 : Value), b + l = f 2 → p = vg_b f (vb_most f) (vg_t f (nI 0, nI 0) (vb_most f) k) (60 - k) a b → C_M_most_127 X (nI x) (nI t) (nI y) (nI (60 - k)) (nI a) p.1 p.2 (nI b) w9 w10 w11 M1 P := by
            intro l
            induction l with
            | zero =>
              intro b p w9 w10 w11 hb hp
              have hb : b = f 2 := by omega
              subst hb
              apply v_M_most_127
              rw [e7]
              simp (disch := omega) only [vm_mul, vm_add, vm_ex, nI_ltI]
              refine ⟨fun q => absurd q (by omega), fun _ => ?_⟩
              rw [← vg_t_new _ _ _ (by omega)] at hp
              rw [← pk_sub (by omega)]
              refine ihi (a + 1) _ _ _ _ _ _ _ (by omega) (fun r j hr hr2 => ?_) (fun m a' h1 h2 h3 => ?_) (fun a' h1 => ?_)
              · rw [vm_u2_r hr2, vm_u2_r hr]; exact hM1 r j hr hr2
              · rw [vm_u2_ne (by omega), vm_u2_ne (by omega), vm_u2_ne (by omega), vm_u2_ne (by omega)]; exact hI1 m a' h1 h2 h3
              · by_cases haa : a' = a
                · subst haa; rw [vm_u2_ne (by omega), vm_u2_eq, vm_u2_eq]; exact hp
                · rw [vm_u2_ne (by omega), vm_u2_ne (by omega), vm_u2_ne (by omega), vm_u2_ne (by omega)]; exact hJ a' (by omega)
            | succ l ihl =>
              intro b p w9 w10 w11 hb hp
              have nx := fun p w9 w10 w11 => ihl (b + 1) p w9 w10 w11 (by omega)
              have hhl := vh_hand_le ho (a := a) (b := b) (d := f 0) (t := 60 - k) (by omega)
              have hen : vm_en (vh_hand f a b (60 - k) (f 0)) = Int32.ofInt (-1000000) ↔ vh_hand f a b (60 - k) (f 0) = 0 := vm_en_none (by omega)
              simp only [vg_b, ← hp] at nx
              apply v_M_most_127
              rw [e7]
              refine ⟨fun _ => ?_, fun q => absurd ((nI_ltI (by omega) (by omega)).mpr (by omega)) q⟩
              refine s_M_passedIn hMM1 ho (by omega) (by omega) (by omega) ?_
              rw [hen, vm_add]
              refine ⟨fun hh => ?_, fun hh => ?_⟩
              · rw [if_pos hh] at nx; exact nx p _ _ _ rfl
              · have hr := vh_hand_rng ho hh
                rw [if_neg hh] at nx
                have een : vm_en (vh_hand f a b (60 - k) (f 0)) = nI (vh_hand f a b (60 - k) (f 0)) := if_neg hh
                rw [een]
                refine s_priceM hMM1 ho (by omega) ?_
                rw [vm_mul, vm_add, vm_ex (by omega) (by omega), vm_ex (by omega) (by omega)]
                have hv := hI1 (vh_hand f a b (60 - k) (f 0)) b (by omega) (by omega) (by omega)
                generalize hS : vg_t f (nI 0, nI 0) (vb_most f) k (vh_hand f a b (60 - k) (f 0)) b = aft at nx hv
                subst hv
                generalize M1 57 (6 * vh_hand f a b (60 - k) (f 0) + b) = u at nx ⊢
                generalize M1 58 (6 * vh_hand f a b (60 - k) (f 0) + b) = v at nx ⊢
                obtain ⟨p1, p2⟩ := p
                rw [show vb_most f b (p1, p2) (u, v) = if p1 < nI (vh_pr f b) + u then (nI (vh_pr f b) + u, nI 1 + v) else if nI (vh_pr f b) + u = p1 then (if nI 1 + v < p2 then (p1, nI 1 + v) else (p1, p2)) else (p1, p2) from rfl] at nx
                show (p1 < nI (vh_pr f b) + u → _) ∧ (¬ p1 < nI (vh_pr f b) + u → _)
                by_cases c1 : p1 < nI (vh_pr f b) + u
                · rw [if_pos c1] at nx
                  exact ⟨fun _ => ⟨fun _ => nx _ _ _ _ rfl, fun q => absurd c1 q⟩, fun q => absurd c1 q⟩
                · rw [if_neg c1] at nx
                  refine ⟨fun q => absurd q c1, fun _ => ⟨fun c2 => ?_, fun c2 => ⟨fun q => absurd q c1, fun _ => ?_⟩⟩⟩
                  · rw [if_pos c2] at nx
                    refine ⟨fun c3 => ⟨fun q => absurd q c1, fun _ => ?_⟩, fun c3 => ⟨fun q => absurd q c1, fun _ => ?_⟩⟩
                    · rw [if_pos c3] at nx; exact nx _ _ _ _ rfl
                    · rw [if_neg c3] at nx; exact nx _ _ _ _ rfl
                  · rw [if_neg c2] at nx; exact nx _ _ _ _ rfl
          have l0 := inner (f 2) 0 _ w9 w10 w11 (by omega) rfl
          rw [vg_b, ← hI1 _ a (by omega) (by omega) (by omega)] at l0
          exact l0
      exact mid (f 2) 0 _ _ _ _ _ _ M' (by omega) hM' hI (fun a' h => absurd h (by omega))
  have clr : ∀ (n k : Nat) (M' : vm_M), k + n = 372 → (∀ r j, r ≠ 57 → r ≠ 58 → M' r j = M r j) → (∀ j, j < k → M' 57 j = nI 0 ∧ M' 58 j = nI 0) → C_M_most_36 X (nI x) (nI t) (nI y) (nI k) w5 w6 w7 w8 w9 w10 w11 M' P := by
    intro n
    induction n with
    | zero =>
      intro k M' hk hM' hz
      have hk : k = 372 := by omega
      subst hk
      apply v_M_most_36
      rw [nI_ltI (by omega) (by omega)]
      refine ⟨fun q => absurd q (by omega), fun _ => ?_⟩
      refine outer (61 - t) 0 _ _ _ _ _ _ _ M' (by omega) hM' (fun m a h1 h2 h3 => ?_)
      obtain ⟨z1, z2⟩ := hz (6 * m + a) (by omega)
      rw [z1, z2]; rfl
    | succ n ih =>
      intro k M' hk hM' hz
      apply v_M_most_36
      simp (disch := omega) only [nI_ltI, vm_ex, vm_add]
      refine ⟨fun _ => ih (k + 1) _ (by omega) (fun r j hr hr2 => ?_) (fun j hj => ?_), fun q => absurd (by omega) q⟩
      · rw [vm_u2_r hr2, vm_u2_r hr]; exact hM' r j hr hr2
      · by_cases hjk : j = k
        · subst hjk; rw [vm_u2_ne (by omega), vm_u2_eq, vm_u2_eq]; exact ⟨rfl, rfl⟩
        · rw [vm_u2_ne (by omega), vm_u2_ne (by omega), vm_u2_ne (by omega), vm_u2_ne (by omega)]; exact hz j (by omega)
  exact clr 372 0 M (by omega) (fun _ _ _ _ => rfl) (fun j hj => absurd hj (by omega))
theorem op_most (hR : vR M) (x t y : Int32) : E_B_most X x t y M (fun v M1 => E_M_most X x t y M1 (fun v' M2 => v = v' ∧ vR M2)) := by
  obtain ⟨f, w, hH, hA, hT, e7, e52⟩ := hR.traders
  have e52' : (vm_u2 M 48 0 (nI 0)) 52 2 = nI (f 2) := e52
  apply v_B_most
  rw [e7]
  rcases vm_one x (T := f 2) (by omega) with ⟨n, hn, rfl⟩ | ⟨hno, hx⟩
  · rcases vm_one t (T := 61) (by omega) with ⟨m, hm, rfl⟩ | ⟨hno, ht⟩
    · simp (disch := omega) only [vm_nneg, nI_ltI, vm_n60, hn, vm_fa, vm_tr, not_true, not_false_eq_true, true_and, and_true]
      rw [show (60 < m) ↔ False from ⟨fun h => by omega, False.elim⟩]
      simp only [vm_fa, vm_tr, not_false_eq_true, true_and]
      rcases vm_one y (T := 2) (by omega) with ⟨z, hz, rfl⟩ | ⟨hno, hy⟩
      · obtain ⟨s, c, hc, hs, hsc, g1, g2⟩ := vt_most hH.1 (61 - m) m n (by omega)
        have fin : ∀ M1 : vm_M, (∀ r j, r ≠ 42 → M1 r j = M r j) → ∀ v, v = (if z = 0 then nI s else nI c) → E_M_most X (nI n) (nI m) (nI z) M1 (fun v' M2 => v = v' ∧ vR M2) := by
          intro M1 hM1 v hv
          have e53 : (vm_u2 M1 48 0 (nI 0)) 52 2 = nI (f 2) := by rw [vm_u2_ne (by omega), hM1 52 2 (by omega)]; exact e52
          have hM0 : vh_M (vm_u2 M1 48 0 (nI 0)) 52 0 f w := hH.2.2.of (fun j h1 => by rw [vm_u2_r (by omega), hM1 52 _ (by omega)])
          apply v_M_most
          refine s_M_isTrader hT e53 (fun k hk e => ⟨fun q => absurd q (by decide), fun _ => ?_⟩) (fun h => absurd rfl (h n hn))
          refine s_M_isMinute (fun k hk e => ⟨fun q => absurd q (by decide), fun _ => ?_⟩) (fun h => absurd rfl (h m hm))
          refine s_M_rng (T := 2) (by decide) (by decide) (by omega) (fun k hk e => ⟨fun q => absurd q (by decide), fun _ => ?_⟩) (fun h => absurd rfl (h z hz))
          refine s_M_most36 hM0 hH.1 (by omega) hn hz (fun M2 hM2 => ⟨?_, hR.same (fun r j hd => ?_)⟩) _ _ _ _ _ _ _
          · rw [g1]; exact hv
          · have h48 := vm_dead_ne hd
            have : r ≠ 57 ∧ r ≠ 42 ∧ r ≠ 58 := ⟨fun q => by subst q; simp [vm_dead] at hd, fun q => by subst q; simp [vm_dead] at hd, fun q => by subst q; simp [vm_dead] at hd⟩
            rw [hM2 r j this.1 this.2.2, vm_u2_ne (by omega), hM1 r j this.2.1]
        simp (disch := omega) only [vm_nneg, vm_n0, nI_ltI, vm_fa, vm_tr, not_true, not_false_eq_true, true_and, and_true]
        refine ⟨fun q => absurd q (by omega), fun _ => ⟨fun hz0 => ?_, fun hz0 => ?_⟩⟩
        · apply v_Foretold_sumFrom
          refine s_fillBest hH.2.1 hH.1 (by omega) (fun M1 hM1 hI => ?_)
          simp (disch := omega) only [vm_mul, vm_add, vm_ex]
          rw [hI m n (by omega) (by omega) hn, g2]
          apply v_Foretold_coins
          refine fin M1 hM1 _ ?_
          rw [if_pos hz0, pk_sub (by omega), vm_add, pk_sub (by omega), pk_div (by omega) (by omega) (by omega)]
          congr 1
          omega
        · apply v_Foretold_timesFrom
          refine s_fillBest hH.2.1 hH.1 (by omega) (fun M1 hM1 hI => ?_)
          simp (disch := omega) only [vm_mul, vm_add, vm_ex]
          rw [hI m n (by omega) (by omega) hn, g2]
          apply v_Foretold_coins
          refine fin M1 hM1 _ ?_
          rw [if_neg hz0, pk_sub (by omega), vm_add, pk_sub (by omega), pk_div (by omega) (by omega) (by omega), vm_mul, pk_sub (by omega)]
          congr 1
          omega
      · have hb : E_M_most X (nI n) (nI m) y M (fun v' M2 => cBAD = v' ∧ vR M2) := by
          apply v_M_most
          refine s_M_isTrader hT e52' (fun k hk e => ⟨fun q => absurd q (by decide), fun _ => ?_⟩) (fun h => absurd rfl (h n hn))
          refine s_M_isMinute (fun k hk e => ⟨fun q => absurd q (by decide), fun _ => ?_⟩) (fun h => absurd rfl (h m hm))
          exact s_M_rng (T := 2) (by decide) (by decide) (by omega) (fun k hk e => absurd e (hno k hk)) (fun _ => ⟨fun _ => ⟨rfl, hR.thrown⟩, fun q => absurd rfl q⟩)
        have hy' := vm_sw (T := 1) (by omega) hno
        have e1 := nI_toInt (n := 1) (by omega)
        refine ⟨fun _ => hb, fun q => ⟨fun _ => hb, fun q2 => ?_⟩⟩
        exfalso
        rcases hy' with h | h
        · exact q (Int32.lt_iff_toInt_lt.mpr h)
        · refine q2 (Int32.lt_iff_toInt_lt.mpr ?_)
          rw [e1]
          omega
    · have hb : E_M_most X (nI n) t y M (fun v' M2 => cBAD = v' ∧ vR M2) := by
        apply v_M_most
        refine s_M_isTrader hT e52' (fun k hk e => ⟨fun q => absurd q (by decide), fun _ => ?_⟩) (fun h => absurd rfl (h n hn))
        exact s_M_isMinute (fun k hk e => absurd e (hno k hk)) (fun _ => ⟨fun _ => ⟨rfl, hR.thrown⟩, fun q => absurd rfl q⟩)
      simp (disch := omega) only [vm_nneg, nI_ltI, hn, vm_fa, vm_tr, not_true, not_false_eq_true, true_and, and_true]
      rcases vm_60 ht with h | h
      · exact ⟨fun _ => hb, fun q => absurd h q⟩
      · exact ⟨fun _ => hb, fun _ => ⟨fun _ => hb, fun q => absurd h q⟩⟩
  · have hb : E_M_most X x t y M (fun v' M2 => cBAD = v' ∧ vR M2) := by
      apply v_M_most
      exact s_M_isTrader hT e52' (fun m hm e => absurd e (hno m hm)) (fun _ => ⟨fun _ => ⟨rfl, hR.thrown⟩, fun q => absurd rfl q⟩)
    rcases hx with hx | hx
    · exact ⟨fun _ => hb, fun q => absurd hx q⟩
    · exact ⟨fun _ => hb, fun _ => ⟨fun q => absurd q hx, fun _ => hb⟩⟩
end VH
