/-! the reference reads a hill -/
section MR
variable {X : Nat × (Nat → Int32)} {M : vm_M} {b : Nat → Nat} {L : Nat}
def frM (M M' : vm_M) : Prop := ∀ r j, ¬ (r = 48 ∧ 13 ≤ j ∧ j ≤ 18) → M' r j = M r j
def frF (M M' : vm_M) : Prop := ∀ r j, ¬ (r = 48 ∧ 13 ≤ j ∧ j ≤ 18) → r ≠ 53 → M' r j = M r j
theorem frM.tr {M M' M'' : vm_M} (h : frM M M') (h' : frM M' M'') : frM M M'' := fun r j hr => (h' r j hr).trans (h r j hr)
theorem frF.tr {M M' M'' : vm_M} (h : frF M M') (h' : frF M' M'') : frF M M'' := fun r j hr h2 => (h' r j hr h2).trans (h r j hr h2)
theorem frM.F {M M' : vm_M} (h : frM M M') : frF M M' := fun r j h1 _ => h r j h1
theorem frM.rfl' : frM M M := fun _ _ _ => rfl
theorem frF.rfl' : frF M M := fun _ _ _ _ => rfl
theorem frF.u2 {j : Nat} {v : Int32} : frF M (vm_u2 M 53 j v) := fun r' j' _ h2 => vm_u2_r h2 j'
/-- live, with the token behind e ahead; or a fault is found -/
def tmA (b : Nat → Nat) (L e : Nat) (M : vm_M) : Prop := tmT b L M ∧ e ≤ L ∧ tmK b L (tkS b L e) M ∧ M 48 17 = nI 0
def tmB (b : Nat → Nat) (L s n : Nat) (M : vm_M) : Prop := tmT b L M ∧ (∃ t, t ≤ L ∧ tmK b L t M) ∧ s ≤ L ∧ (1 ≤ n ∧ n ≤ 3) ∧ M 48 17 = nI n ∧ M 48 18 = nI s
def tmD (f : Nat → Nat) (M : vm_M) : Prop := vh_M M 53 0 f (fun _ => nI 0) ∧ hp_ok f
theorem tmA.of {M M' : vm_M} {e : Nat} (h : tmA b L e M) (he : ∀ r j, r = 48 ∨ r = 55 → M' r j = M r j) : tmA b L e M' := by
  obtain ⟨h1, h2, ⟨h3, h4, h5, h6⟩, h7⟩ := h
  exact ⟨h1.of (fun r j g => he r j (by omega)), h2, ⟨by rw [he _ _ (by omega)]; exact h3, by rw [he _ _ (by omega)]; exact h4, by rw [he _ _ (by omega)]; exact h5, by rw [he _ _ (by omega)]; exact h6⟩, by rw [he _ _ (by omega)]; exact h7⟩
theorem tmB.of {M M' : vm_M} {s n : Nat} (h : tmB b L s n M) (he : ∀ r j, r = 48 ∨ r = 55 → M' r j = M r j) : tmB b L s n M' := by
  obtain ⟨h1, ⟨t, ht, h3, h4, h5, h6⟩, h7, h8, h9, h10⟩ := h
  exact ⟨h1.of (fun r j g => he r j (by omega)), ⟨t, ht, by rw [he _ _ (by omega)]; exact h3, by rw [he _ _ (by omega)]; exact h4, by rw [he _ _ (by omega)]; exact h5, by rw [he _ _ (by omega)]; exact h6⟩, h7, h8, by rw [he _ _ (by omega)]; exact h9, by rw [he _ _ (by omega)]; exact h10⟩
theorem tmB_ne {s n : Nat} (hB : tmB b L s n M) : ¬ M 48 17 = 0 := by
  rw [hB.2.2.2.2.1, show (0 : Int32) = nI 0 from rfl, nI_eq (by have := hB.2.2.2.1; omega) (by omega)]
  have := hB.2.2.2.1
  omega
theorem tmB_lt {s n : Nat} (hB : tmB b L s n M) : 0 < M 48 17 := by
  rw [hB.2.2.2.2.1, show (0 : Int32) = nI 0 from rfl, nI_ltI (by omega) (by have := hB.2.2.2.1; omega)]
  have := hB.2.2.2.1
  omega
theorem tmA_lt {e : Nat} (hA : tmA b L e M) : ¬ 0 < M 48 17 := by
  rw [hA.2.2.2]; decide
theorem tmA_s {e : Nat} (hA : tmA b L e M) : tkS b L e ≤ L := tkS_le hA.2.1
theorem tmD.of {M M' : vm_M} {f : Nat → Nat} (h : tmD f M) (he : frM M M') : tmD f M' := ⟨h.1.of (fun j _ => he _ _ (by omega)), h.2⟩
theorem tmA_k {e c : Nat} (hA : tmA b L e M) (hc : c < 4) : M 48 14 = nI (c + 1) ↔ tkK b L (tkS b L e) = c := by
  rw [hA.2.2.1.2.2.2]
  exact tkm_eq hc
theorem g_bad {P : vm_M → Prop} {s n : Nat} {a : Int32} (hB : tmB b L s n M) (h : P M) : E_M_bad X a M P := by
  apply v_M_bad
  exact ⟨fun q => absurd q (tmB_ne hB), fun _ => h⟩
theorem g_must {P : vm_M → Prop} {s n : Nat} {a : Int32} (hB : tmB b L s n M) (h : P M) : E_M_must X a M P := by
  apply v_M_must
  exact ⟨fun _ => g_bad hB ⟨fun q => absurd q (tmB_ne hB), fun _ => h⟩, fun _ => ⟨fun q => absurd q (tmB_ne hB), fun _ => h⟩⟩
theorem g_num {P : Int32 → vm_M → Prop} {s n : Nat} {lo hi : Int32} (hB : tmB b L s n M) (h : P (nI 0) M) : E_M_number X lo hi M P := by
  apply v_M_number
  exact ⟨fun _ => h, fun q => absurd (tmB_lt hB) q⟩
theorem g_sign {P : vm_M → Prop} {s n : Nat} (hB : tmB b L s n M) (h : P M) : E_M_mustEnd X M P := by
  apply v_M_mustEnd
  exact ⟨fun q => absurd q (tmB_ne hB), fun _ => h⟩
theorem g_name {P : Int64 → vm_M → Prop} {s n : Nat} (hB : tmB b L s n M) (h : P (Int64.ofNat 0) M) : E_M_name X M P := by
  obtain ⟨t, ht, hk⟩ := hB.2.1
  exact s_M_name hB.1 ht hk (fun q => absurd q (tmB_ne hB)) (fun _ => h)
theorem m_bad {P : vm_M → Prop} {e n : Nat} (hn : 1 ≤ n ∧ n ≤ 3) (hA : tmA b L e M) (h : ∀ M', frM M M' → tmB b L (tkS b L e) n M' → P M') : E_M_bad X (nI n) M P := by
  obtain ⟨h1, h2, h3, h4⟩ := id hA
  apply v_M_bad
  refine ⟨fun _ => ?_, fun q => absurd h4 q⟩
  refine h _ (fun r j hr => ?_) ⟨h1.of (fun r j g => ?_), ⟨_, tmA_s hA, ?_, ?_, ?_, ?_⟩, tmA_s hA, hn, ?_, ?_⟩
  · rw [vm_u2_ne (by omega), vm_u2_ne (by omega)]
  · rw [vm_u2_ne (by omega), vm_u2_ne (by omega)]
  · rw [vm_u2_ne (by omega), vm_u2_ne (by omega)]; exact h3.1
  · rw [vm_u2_ne (by omega), vm_u2_ne (by omega)]; exact h3.2.1
  · rw [vm_u2_ne (by omega), vm_u2_ne (by omega)]; exact h3.2.2.1
  · rw [vm_u2_ne (by omega), vm_u2_ne (by omega)]; exact h3.2.2.2
  · rw [vm_u2_ne (by omega), vm_u2_eq]
  · rw [vm_u2_eq, vm_u2_ne (by omega)]; exact h3.1
theorem m_must0 {P : vm_M → Prop} {e : Nat} (hA : tmA b L e M) (h : ∀ M', frM M M' → tmB b L (tkS b L e) 1 M' → P M') : E_M_must X (nI 0) M P := by
  apply v_M_must
  refine ⟨fun _ => m_bad (by omega) hA (fun M' f1 b1 => ⟨fun q => absurd q (tmB_ne b1), fun _ => h M' f1 b1⟩), fun q => absurd rfl q⟩
theorem m_must1 {P : vm_M → Prop} {e : Nat} (hA : tmA b L e M) (h : ∀ M', frM M M' → tmA b L (tkE b L (tkS b L e)) M' → P M') : E_M_must X (nI 1) M P := by
  obtain ⟨h1, h2, h3, h4⟩ := id hA
  have hle := tkE_le (b := b) (tmA_s hA)
  apply v_M_must
  refine ⟨fun q => absurd q (by decide), fun _ => ⟨fun _ => ?_, fun q => absurd h4 q⟩⟩
  show C_M_next_0 X .null M P
  refine s_M_next (L - tkE b L (tkS b L e)) _ M (by omega) h1 h3.2.2.1 (fun M' f1 k1 => ?_)
  exact h M' (fun r j hr => f1 r j (by omega)) ⟨h1.of (fun r j g => f1 r j (by omega)), hle, k1, by rw [f1 _ _ (by omega)]; exact h4⟩
theorem m_num {P : Int32 → vm_M → Prop} {R : hR} {e lo hi : Nat} {k : Nat → Nat → hR} (hhi : hi ≤ 100) (hlo : lo ≤ 100) (hR : R = hp_num b L e lo hi k) (hA : tmA b L e M)
    (h1 : ∀ v e' M', R = k v e' → lo ≤ v → v ≤ hi → frM M M' → tmA b L e' M' → e < e' → tkK b L (tkS b L e) = 2 → v = tkV b L (tkS b L e) → P (nI v) M')
    (h2 : ∀ s n v M', R = .inl (s, n) → frM M M' → tmB b L s n M' → P v M') : E_M_number X (nI lo) (nI hi) M P := by
  unfold hp_num at hR
  have e14 := tmA_k hA (c := 2) (by omega)
  apply v_M_number
  refine ⟨fun q => absurd q (tmA_lt hA), fun _ => ?_⟩
  refine s_M_figures hA.1 (tmA_s hA) hA.2.2.1 (fun hk => ⟨fun _ => ?_, fun q => absurd (e14.mpr hk) q⟩) (fun hk => ⟨fun q => absurd (e14.mp q) hk, fun _ => ⟨fun q => absurd (e14.mp q) hk, fun _ => ?_⟩⟩)
  · rw [if_pos hk] at hR
    have hv := tkV_lt hk
    refine s_M_in (fun q => ⟨fun q2 => absurd q2 (by decide), fun _ => ⟨fun _ => ?_, fun q2 => absurd (e14.mpr hk) q2⟩⟩) (fun q => ⟨fun _ => ?_, fun q2 => absurd rfl q2⟩)
    · rw [vm_i64, vm_i64, vm_i64, nI_toInt (by omega), nI_toInt (by omega), nI_toInt (by omega)] at q
      rw [if_pos (by omega)] at hR
      exact m_must1 hA (fun M' f1 a1 => h1 _ _ M' hR (by omega) (by omega) f1 a1 (tk_adv (by omega)) hk rfl)
    · rw [vm_i64, vm_i64, vm_i64, nI_toInt (by omega), nI_toInt (by omega), nI_toInt (by omega)] at q
      rw [if_neg (by omega)] at hR
      refine m_bad (by omega) hA (fun M' f1 b1 => ⟨fun _ => g_must b1 ?_, fun _ => g_must b1 ?_⟩)
      · exact h2 _ _ _ M' hR f1 b1
      · exact h2 _ _ _ M' hR f1 b1
  · rw [if_neg hk] at hR
    exact m_must0 hA (fun M' f1 b1 => h2 _ _ _ M' hR f1 b1)
theorem m_sign {P : vm_M → Prop} {R : hR} {e : Nat} {k : Nat → hR} (hR : R = hp_sign b L e k) (hA : tmA b L e M)
    (h1 : ∀ e' M', R = k e' → frM M M' → tmA b L e' M' → e < e' → P M')
    (h2 : ∀ s n M', R = .inl (s, n) → frM M M' → tmB b L s n M' → P M') : E_M_mustEnd X M P := by
  unfold hp_sign at hR
  have e14 := tmA_k hA (c := 3) (by omega)
  apply v_M_mustEnd
  refine ⟨fun _ => ⟨fun hk => ?_, fun hk => ?_⟩, fun q => absurd hA.2.2.2 q⟩
  · have hk := e14.mp hk
    rw [if_pos hk] at hR
    exact m_must1 hA (fun M' f1 a1 => h1 _ M' hR f1 a1 (tk_adv (by omega)))
  · rw [if_neg (fun q => hk (e14.mpr q))] at hR
    exact m_must0 hA (fun M' f1 b1 => h2 _ _ M' hR f1 b1)
theorem m_name {P : Int64 → vm_M → Prop} {e : Nat} (hA : tmA b L e M) (h : P (tkN b L (tkS b L e)) M) : E_M_name X M P :=
  s_M_name hA.1 (tmA_s hA) hA.2.2.1 (fun _ => h) (fun q => absurd hA.2.2.2 q)
theorem g_kind {P : Int32 → vm_M → Prop} {a : Int64} (h : ∀ v, P v M) : E_M_kindBy X a M P := by
  apply v_M_kindBy
  exact ⟨fun _ => h _, fun _ => ⟨fun _ => h _, fun _ => ⟨fun _ => h _, fun _ => ⟨fun _ => h _, fun _ => ⟨fun _ => h _, fun _ => h _⟩⟩⟩⟩⟩
theorem m_kind {P : Int32 → vm_M → Prop} {R : hR} {e : Nat} {k : Nat → Nat → hR} (hR : R = hp_sort b L e k)
    (h1 : ∀ v, R = k v (tkE b L (tkS b L e)) → 1 ≤ v → v ≤ 5 → tkK b L (tkS b L e) = 1 → P (nI v) M) (h0 : R = .inl (tkS b L e, 1) → P cNONE M) : E_M_kindBy X (tkN b L (tkS b L e)) M P := by
  unfold hp_sort at hR
  apply v_M_kindBy
  rw [tkN_2, tkN_3, tkN_4, tkN_5, tkN_6]
  refine ⟨fun w => ?_, fun w => ?_⟩
  · rw [if_pos w] at hR
    exact h1 1 hR (by omega) (by omega) w.1
  rw [if_neg w] at hR
  refine ⟨fun w => ?_, fun w => ?_⟩
  · rw [if_pos w] at hR
    exact h1 2 hR (by omega) (by omega) w.1
  rw [if_neg w] at hR
  refine ⟨fun w => ?_, fun w => ?_⟩
  · rw [if_pos w] at hR
    exact h1 3 hR (by omega) (by omega) w.1
  rw [if_neg w] at hR
  refine ⟨fun w => ?_, fun w => ?_⟩
  · rw [if_pos w] at hR
    exact h1 4 hR (by omega) (by omega) w.1
  rw [if_neg w] at hR
  refine ⟨fun w => ?_, fun w => ?_⟩
  · rw [if_pos w] at hR
    exact h1 5 hR (by omega) (by omega) w.1
  rw [if_neg w] at hR
  exact h0 hR
/-- the room for one more, then its word is read -/
theorem m_begins {P : vm_M → Prop} {e i m : Nat} {f : Nat → Nat} (hi : i = 2 ∨ i = 3) (hm : m ≤ 10) (hA : tmA b L e M) (hD : tmD f M) (h0 : f i ≤ 10)
    (h1 : f i ≠ m → ∀ M', frM M M' → tmA b L (tkE b L (tkS b L e)) M' → P M') (h2 : f i = m → ∀ M', frM M M' → tmB b L (tkS b L e) 3 M' → P M') : E_M_begins X (nI i) (nI m) M P := by
  apply v_M_begins
  refine ⟨i, rfl, by omega, ?_⟩
  have e53 : M 53 i = nI (f i) := by have := hD.1.1 i (by omega) (by omega); rwa [Nat.zero_add] at this
  rw [e53, nI_eq (by omega) (by omega)]
  refine ⟨fun q => m_bad (by omega) hA (fun M' f1 b1 => g_must b1 (h2 q M' f1 b1)), fun q => m_must1 hA (fun M' f1 a1 => h1 q M' f1 a1)⟩
theorem m_storeT {M : vm_M} {f : Nat → Nat} {q g t : Nat} (hD : tmD f M) (h6 : f 2 < 6) (hq : 1 ≤ q ∧ q ≤ 5) (hg : g ≤ 99) (ht : t ≤ 60) : tmD (hp_T f q g t) (vm_u2 (vm_u2 (vm_u2 (vm_u2 M 53 (6 + 4 * f 2) (nI q)) 53 (7 + 4 * f 2) (nI g)) 53 (8 + 4 * f 2) (nI t)) 53 2 (nI (f 2 + 1))) := by
  obtain ⟨⟨v1, v2⟩, ho⟩ := id hD
  obtain ⟨n1, n2, n3⟩ := hp_T_n f q g t
  refine ⟨⟨fun j hj hw => ?_, fun x hx => ?_⟩, ho.T h6 hq hg ht⟩
  · rw [Nat.zero_add]
    by_cases c1 : j = 2
    · rw [c1, vm_u2_eq, hp_T_2]
    · rw [vm_u2_ne (by omega)]
      by_cases c2 : j = 8 + 4 * f 2
      · rw [c2, vm_u2_eq, n3]
      · rw [vm_u2_ne (by omega)]
        by_cases c3 : j = 7 + 4 * f 2
        · rw [c3, vm_u2_eq, n2]
        · rw [vm_u2_ne (by omega)]
          by_cases c4 : j = 6 + 4 * f 2
          · rw [c4, vm_u2_eq, n1]
          · rw [vm_u2_ne (by omega), hp_T_o c1 (by omega)]
            have := v1 j hj hw
            rwa [Nat.zero_add] at this
  · rw [vm_u2_ne (by omega), vm_u2_ne (by omega), vm_u2_ne (by omega), vm_u2_ne (by omega)]
    exact v2 x hx
theorem m_storeW {M : vm_M} {f : Nat → Nat} {a c d w : Nat} (hD : tmD f M) (h3 : f 3 < 10) (ha : a < f 2) (hc : c < f 2) (hac : a ≠ c) (hd : 1 ≤ d ∧ d ≤ 30) (hw : w ≤ 1) : tmD (hp_W f a c d w) (vm_u2 (vm_u2 (vm_u2 (vm_u2 (vm_u2 M 53 (30 + 4 * f 3) (nI a)) 53 (31 + 4 * f 3) (nI c)) 53 (32 + 4 * f 3) (nI d)) 53 (33 + 4 * f 3) (nI w)) 53 3 (nI (f 3 + 1))) := by
  obtain ⟨⟨v1, v2⟩, ho⟩ := id hD
  obtain ⟨n1, n2, n3, n4⟩ := hp_W_n f a c d w
  refine ⟨⟨fun j hj hw => ?_, fun x hx => ?_⟩, ho.W h3 ha hc hac hd hw⟩
  · rw [Nat.zero_add]
    by_cases c1 : j = 3
    · rw [c1, vm_u2_eq, hp_W_3]
    · rw [vm_u2_ne (by omega)]
      by_cases c2 : j = 33 + 4 * f 3
      · rw [c2, vm_u2_eq, n4]
      · rw [vm_u2_ne (by omega)]
        by_cases c3 : j = 32 + 4 * f 3
        · rw [c3, vm_u2_eq, n3]
        · rw [vm_u2_ne (by omega)]
          by_cases c4 : j = 31 + 4 * f 3
          · rw [c4, vm_u2_eq, n2]
          · rw [vm_u2_ne (by omega)]
            by_cases c5 : j = 30 + 4 * f 3
            · rw [c5, vm_u2_eq, n1]
            · rw [vm_u2_ne (by omega), hp_W_o c1 (by omega)]
              have := v1 j hj hw
              rwa [Nat.zero_add] at this
  · rw [vm_u2_ne (by omega), vm_u2_ne (by omega), vm_u2_ne (by omega), vm_u2_ne (by omega), vm_u2_ne (by omega)]
    exact v2 x hx
theorem m_trader {P : vm_M → Prop} {R : hR} {e : Nat} {f : Nat → Nat} {k : Nat → (Nat → Nat) → hR} (hR : R = if f 2 < 6 then hp_trader b L k (tkE b L (tkS b L e)) f else .inl (tkS b L e, 3)) (hA : tmA b L e M) (hD : tmD f M)
    (h1 : ∀ e' f' M', R = k e' f' → f' 2 = f 2 + 1 → f' 3 = f 3 → frF M M' → tmA b L e' M' → tmD f' M' → e < e' → P M')
    (h2 : ∀ s n M', R = .inl (s, n) → frF M M' → tmB b L s n M' → P M') : E_M_readTrader X M P := by
  have ho := hD.2
  have h26 := ho.1
  have hse := tkS_ge b L e
  have hee := tkE_ge b L (tkS b L e)
  apply v_M_readTrader
  refine m_begins (f := f) (Or.inl rfl) (by omega) hA hD (by omega) (fun h6 M1 f1 a1 => ?_) (fun h6 M1 f1 b1 => ?_)
  · rw [if_pos (by omega)] at hR
    unfold hp_trader at hR
    refine m_name a1 (m_kind hR (fun v r1 v1 v5 kk => ⟨fun _ => ⟨fun q => absurd ((vm_nI_none (by omega)).mp q) id, fun _ => ?_⟩, fun q => absurd a1.2.2.2 q⟩) (fun r1 => ⟨fun _ => ⟨fun _ => ?_, fun q => absurd rfl q⟩, fun q => absurd a1.2.2.2 q⟩))
    · refine m_must1 a1 (fun M2 f2 a2 => ?_)
      refine m_num (by omega) (by omega) r1 a2 (fun g e3 M3 r3 g0 g9 f3 a3 x3 _ _ => ?_) (fun s n v M3 r3 f3 b3 => ?_)
      · refine m_num (by omega) (by omega) r3 a3 (fun t e4 M4 r4 t0 t6 f4 a4 x4 _ _ => ?_) (fun s n v M4 r4 f4 b4 => ?_)
        · refine m_sign r4 a4 (fun e5 M5 r5 f5 a5 x5 => ⟨fun _ => ?_, fun q => absurd a5.2.2.2 q⟩) (fun s n M5 r5 f5 b5 => ⟨fun q => absurd q (tmB_ne b5), fun _ => ?_⟩)
          · have fr : frM M M5 := (((f1.tr f2).tr f3).tr f4).tr f5
            have hD5 := hD.of fr
            have e53 : M5 53 2 = nI (f 2) := by have := hD5.1.1 2 (by omega) (by omega); rwa [Nat.zero_add] at this
            rw [e53, vm_mul, vm_add, vm_add, vm_add, show 6 + 4 * f 2 + 1 = 7 + 4 * f 2 by omega, show 6 + 4 * f 2 + 2 = 8 + 4 * f 2 by omega]
            simp (disch := omega) only [vm_ex]
            have e2 : (vm_u2 (vm_u2 (vm_u2 M5 53 (6 + 4 * f 2) (nI v)) 53 (7 + 4 * f 2) (nI g)) 53 (8 + 4 * f 2) (nI t)) 53 2 = nI (f 2) := by
              rw [vm_u2_ne (by omega), vm_u2_ne (by omega), vm_u2_ne (by omega)]; exact e53
            rw [e2, vm_add]
            refine h1 _ _ _ r5 (hp_T_2 _ _ _ _) (hp_T_o (by omega) (by omega)) ((((fr.F.tr frF.u2).tr frF.u2).tr frF.u2).tr frF.u2) (a5.of (fun r j h => ?_)) (m_storeT hD5 (by omega) ⟨v1, v5⟩ g9 t6) ?_
            · rw [vm_u2_r (by omega), vm_u2_r (by omega), vm_u2_r (by omega), vm_u2_r (by omega)]
            · have := tkS_ge b L (tkE b L (tkS b L e))
              have := tkE_ge b L (tkS b L (tkE b L (tkS b L e)))
              omega
          · exact h2 _ _ _ r5 (((((f1.tr f2).tr f3).tr f4).tr f5).F) b5
        · refine g_sign b4 ⟨fun q => absurd q (tmB_ne b4), fun _ => ?_⟩
          exact h2 _ _ _ r4 ((((f1.tr f2).tr f3).tr f4).F) b4
      · refine g_num b3 (g_sign b3 ⟨fun q => absurd q (tmB_ne b3), fun _ => ?_⟩)
        exact h2 _ _ _ r3 (((f1.tr f2).tr f3).F) b3
    · refine m_must0 a1 (fun M2 f2 b2 => g_num b2 (g_num b2 (g_sign b2 ⟨fun q => absurd q (tmB_ne b2), fun _ => ?_⟩)))
      exact h2 _ _ _ r1 (f1.tr f2).F b2
  · rw [if_neg (by omega)] at hR
    refine g_name b1 (g_kind (fun v => ⟨fun q => absurd q (tmB_ne b1), fun _ => g_num b1 (g_num b1 (g_sign b1 ⟨fun q => absurd q (tmB_ne b1), fun _ => ?_⟩))⟩))
    exact h2 _ _ _ hR f1.F b1
end MR
