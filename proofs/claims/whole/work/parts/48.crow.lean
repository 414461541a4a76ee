def vh_sd (f : Nat → Nat) (d : Nat) : Nat → Nat := fun j => if j = 0 then d else f j
theorem vh_sd_ne (f : Nat → Nat) (d : Nat) {j : Nat} (h : j ≠ 0) : vh_sd f d j = f j := if_neg h
theorem vh_far_sd (f : Nat → Nat) (d a b t : Nat) : ∀ k, vh_far (vh_sd f d) a b t k = vh_far f a b t k
  | 0 => rfl
  | k + 1 => by
    have ih := vh_far_sd f d a b t k
    unfold vh_far vh_j
    rw [ih, vh_sd_ne f d (j := 30 + 4 * k) (by omega), vh_sd_ne f d (j := 31 + 4 * k) (by omega), vh_sd_ne f d (j := 32 + 4 * k) (by omega), vh_sd_ne f d (j := 33 + 4 * k) (by omega), vh_sd_ne f d (j := 1) (by omega)]
theorem vh_hand_sd (f : Nat → Nat) (e a b t d : Nat) : vh_hand (vh_sd f e) a b t d = vh_hand f a b t d := by
  unfold vh_hand vh_arr
  rw [vh_far_sd, vh_sd_ne f e (j := 3) (by omega), vh_sd_ne f e (j := 6 + 4 * b) (by omega), vh_sd_ne f e (j := 8 + 4 * b) (by omega)]
theorem vh_pr_sd (f : Nat → Nat) (e b : Nat) : vh_pr (vh_sd f e) b = vh_pr f b := by
  unfold vh_pr
  rw [vh_sd_ne f e (j := 6 + 4 * b) (by omega), vh_sd_ne f e (j := 7 + 4 * b) (by omega)]
theorem vh_dst_sd (f : Nat → Nat) (e a t d : Nat) : ∀ k, vh_dst (vh_sd f e) a t d k = vh_dst f a t d k
  | 0 => rfl
  | k + 1 => by
    have ih := vh_dst_sd f e a t d k
    unfold vh_dst
    rw [ih, vh_hand_sd, vh_pr_sd, vh_pr_sd]
theorem vh_ro_sd (f : Nat → Nat) (e d : Nat) : ∀ n a t, vh_ro (vh_sd f e) d n a t = vh_ro f d n a t
  | 0, _, _ => rfl
  | n + 1, a, t => by
    unfold vh_ro
    rw [vh_sd_ne f e (j := 2) (by omega), vh_dst_sd, vh_hand_sd, vh_ro_sd f e d n]
theorem vh_sd_ok {f : Nat → Nat} (ho : vh_ok f) (h0 : 0 < f 2) {d : Nat} (h1 : 1 ≤ d) (h60 : d ≤ 60) : vh_ok (vh_sd f d) := by
  obtain ⟨a1, a2, a3, a4, a5, a6, a7, a8, a9⟩ := ho
  refine ⟨a1, a2, h60, a4, a5, fun _ => ⟨(a6 h0).1, h1⟩, fun q => absurd q (by rw [vh_sd_ne f d (by omega)]; omega), fun x hx => ?_, fun k hk => ?_⟩
  · have := a8 x hx
    rwa [vh_sd_ne f d (by omega), vh_sd_ne f d (by omega), vh_sd_ne f d (by omega)]
  · have := a9 k hk
    unfold vh_wok at this ⊢
    rwa [vh_sd_ne f d (by omega), vh_sd_ne f d (by omega), vh_sd_ne f d (by omega), vh_sd_ne f d (by omega), vh_sd_ne f d (by omega)]
theorem vh_sd_M {M : vm_M} {f : Nat → Nat} {w : Nat → Int32} (h : vh_M M 52 0 f w) (d : Nat) : vh_M (vm_u2 M 52 0 (nI d)) 52 0 (vh_sd f d) w := by
  refine ⟨fun j hj hn => ?_, fun x hx => ?_⟩
  · by_cases hj0 : j = 0
    · subst hj0; exact vm_u2_eq
    · rw [vm_u2_ne (by omega), vh_sd_ne f d hj0]
      exact h.1 j hj hn
  · rw [vm_u2_ne (by omega)]
    exact h.2 x hx
/-- who is the last, with that dawn -/
def vh_la (f : Nat → Nat) (d : Nat) : Nat := (vh_ro f d 60 (f 5) (f 4)).1
/-- the least of the dawns 60, 59 .. (j of them) by which x is the last; 0: none -/
def vh_low (f : Nat → Nat) (x : Nat) : Nat → Nat
  | 0 => 0
  | j + 1 => if vh_la f (60 - j) = x then 60 - j else vh_low f x j
theorem vh_low_a (f : Nat → Nat) (x : Nat) : ∀ j, j ≤ 60 → vh_low f x j = 0 ∨ (vh_la f (vh_low f x j) = x ∧ 60 - j < vh_low f x j ∧ vh_low f x j ≤ 60)
  | 0, _ => Or.inl rfl
  | j + 1, hj => by
    have ih := vh_low_a f x j (by omega)
    unfold vh_low
    split
    · next h => exact Or.inr ⟨h, by omega, by omega⟩
    · rcases ih with h | ⟨h1, h2, h3⟩
      · exact Or.inl h
      · exact Or.inr ⟨h1, by omega, h3⟩
theorem vh_low_b (f : Nat → Nat) (x : Nat) : ∀ j, j ≤ 60 → ∀ d, 60 - j < d → d ≤ 60 → vh_la f d = x → vh_low f x j ≠ 0 ∧ vh_low f x j ≤ d
  | 0, _, d, h1, h2, _ => by omega
  | j + 1, hj, d, h1, h2, h3 => by
    have ih := vh_low_b f x j (by omega) d
    unfold vh_low
    split
    · next h => omega
    · next h =>
      by_cases hd : d = 60 - j
      · subst hd; exact absurd h3 h
      · exact ih (by omega) h2 h3
section VH
variable {X : Nat × (Nat → Int32)} {M : vm_M} {f : Nat → Nat} {w : Nat → Int32}
theorem s_dawnFor {P : Int32 → vm_M → Prop} (hC : vh_C M 7 f w) (ho : vh_ok f) (h0 : 0 < f 2) {x : Nat} (hx : x < 6) (h : ∀ M', vm_same M M' → (∀ r j, r ≠ 41 → M' r j = M r j) → P (vm_en (vh_low f x 60)) M') : E_Foretold_dawnFor X (nI x) M P := by
  have loop : ∀ (n d : Nat) (M' : vm_M), d + n = 61 → 1 ≤ d → (∀ e, 1 ≤ e → e < d → vh_la f e ≠ x) → vm_same M M' → (∀ r j, r ≠ 41 → M' r j = M r j) → C_Foretold_dawnFor_2 X (nI x) (nI d) M' P := by
    intro n
    induction n with
    | zero =>
      intro d M' hd h1 hno hs hr
      apply v_Foretold_dawnFor_2
      rw [nI_ltI (by omega) (by omega)]
      refine ⟨fun _ => ?_, fun q => absurd (by omega) q⟩
      have h9 := h M' hs hr
      rcases vh_low_a f x 60 (Nat.le_refl _) with e | ⟨e1, e2, e3⟩
      · rw [e] at h9; exact h9
      · exact absurd e1 (hno _ (by omega) (by omega))
    | succ n ih =>
      intro d M' hd h1 hno hs hr
      have hC' : vh_C M' 7 f w := hC.of (fun r j g1 g2 => hr r j (by omega))
      have hla := vh_ro_lt ho (d := d) (by omega) 60 (f 5) (f 4) (ho.2.2.2.2.2.1 h0).1 ho.2.2.2.2.1
      have hT := ho.1
      apply v_Foretold_dawnFor_2
      rw [nI_ltI (by omega) (by omega)]
      refine ⟨fun q => absurd q (by omega), fun _ => ?_⟩
      refine s_runOut hC' ho h0 (by omega) ?_
      have hs' : vm_same M (vm_l M' (nI (vh_ro f d 60 (f 5) (f 4)).1) (nI (vh_ro f d 60 (f 5) (f 4)).2)) := hs.trans vm_same.l
      have hr' : ∀ r j, r ≠ 41 → (vm_l M' (nI (vh_ro f d 60 (f 5) (f 4)).1) (nI (vh_ro f d 60 (f 5) (f 4)).2)) r j = M r j := fun r j h => (vm_l_r h j).trans (hr r j h)
      have e41 : (vm_l M' (nI (vh_ro f d 60 (f 5) (f 4)).1) (nI (vh_ro f d 60 (f 5) (f 4)).2)) 41 1 = nI (vh_la f d) := by
        unfold vm_l vh_la
        rw [vm_u2_ne (by omega), vm_u2_eq]
      rw [e41, nI_eq (by unfold vh_la; omega) (by omega)]
      refine ⟨fun q => ?_, fun q => ?_⟩
      · have h9 := h _ hs' hr'
        obtain ⟨b1, b2⟩ := vh_low_b f x 60 (Nat.le_refl _) d (by omega) (by omega) q
        have hlow : vh_low f x 60 = d := by
          rcases vh_low_a f x 60 (Nat.le_refl _) with e | ⟨e1, e2, e3⟩
          · exact absurd e b1
          · rcases Nat.lt_or_ge (vh_low f x 60) d with g | g
            · exact absurd e1 (hno _ (by omega) g)
            · omega
        rw [hlow] at h9
        unfold vm_en at h9
        rw [if_neg (by omega)] at h9
        exact h9
      · rw [vm_add]
        exact ih (d + 1) _ (by omega) (by omega) (fun e g1 g2 => by
          by_cases he : e = d
          · subst he; exact q
          · exact hno e g1 (by omega)) hs' hr'
  apply v_Foretold_dawnFor
  exact loop 60 1 M (by omega) (by omega) (fun e g1 g2 => by omega) (vm_same.refl M) (fun _ _ _ => rfl)
theorem s_M_crow30 {P : Int32 → vm_M → Prop} (hM : vh_M M 52 0 f w) (ho : vh_ok f) (h0 : 0 < f 2) {x : Nat} (hx : x < 6) (h : ∀ M', vm_same M M' → P (vm_en (vh_low f x 60)) M') : C_M_crow_30 X (nI x) (nI (f 0)) (Int32.ofInt (-1000000)) (nI 60) M P := by
  have hd0 : M 52 0 = nI (f 0) := hM.1 0 (by omega) (by omega)
  have loop : ∀ (n d : Nat) (M' : vm_M), n = d → d ≤ 60 → (∀ r j, ¬ (r = 48 ∧ j = 22) → ¬ (r = 52 ∧ j = 0) → M' r j = M r j) → C_M_crow_30 X (nI x) (nI (f 0)) (vm_en (vh_low f x (60 - d))) (nI d) M' P := by
    intro n
    induction n with
    | zero =>
      intro d M' hd h60 hr
      subst hd
      apply v_M_crow_30
      refine ⟨fun q => absurd ((vm_0n (by omega)).mp q) (by omega), fun _ => ?_⟩
      refine h _ (fun r j hdead => ?_)
      by_cases h1 : r = 52 ∧ j = 0
      · obtain ⟨rfl, rfl⟩ := h1
        rw [vm_u2_eq, hd0]
      · rw [vm_u2_ne h1]
        refine hr r j (fun q => ?_) h1
        obtain ⟨rfl, rfl⟩ := q
        exact absurd hdead (by decide)
    | succ n ih =>
      intro d M' hd h60 hr
      have hM' : vh_M (vm_u2 M' 52 0 (nI d)) 52 0 (vh_sd f d) w := by
        have h1 := vh_sd_M hM d
        refine ⟨fun j hj hn => ?_, fun q hq => ?_⟩
        · have h2 := h1.1 j hj hn
          by_cases hj0 : 0 + j = 0
          · rw [hj0] at h2 ⊢
            rw [vm_u2_eq] at h2 ⊢
            exact h2
          · rw [vm_u2_ne (by omega)] at h2 ⊢
            rw [hr 52 _ (by omega) (by omega)]
            exact h2
        · have h2 := h1.2 q hq
          rw [vm_u2_ne (by omega)] at h2 ⊢
          rw [hr 52 _ (by omega) (by omega)]
          exact h2
      have hok := vh_sd_ok ho h0 (d := d) (by omega) h60
      have hla := vh_ro_lt ho (d := d) (by omega) 60 (f 5) (f 4) (ho.2.2.2.2.2.1 h0).1 ho.2.2.2.2.1
      have hT := ho.1
      apply v_M_crow_30
      refine ⟨fun _ => ?_, fun q => absurd ((vm_0n (by omega)).mpr (by omega)) q⟩
      refine s_M_lastOne hM' hok (by rw [vh_sd_ne f d (by omega)]; exact h0) ?_
      have ero : vh_ro (vh_sd f d) (vh_sd f d 0) 60 (vh_sd f d 5) (vh_sd f d 4) = vh_ro f d 60 (f 5) (f 4) := by
        rw [vh_ro_sd, vh_sd_ne f d (j := 5) (by omega), vh_sd_ne f d (j := 4) (by omega)]
        rfl
      rw [ero]
      have e1 : nI d + Int32.ofInt (-1) = nI (d - 1) := by
        rw [show d = (d - 1) + 1 by omega]
        exact pk_m1 (d - 1)
      have hst : vh_low f x (60 - (d - 1)) = if vh_la f d = x then d else vh_low f x (60 - d) := by
        rw [show 60 - (d - 1) = (60 - d) + 1 by omega, vh_low, show 60 - (60 - d) = d by omega]
      have nx := ih (d - 1) (vm_u2 (vm_u2 M' 52 0 (nI d)) 48 22 (nI (vh_ro f d 60 (f 5) (f 4)).2)) (by omega) (by omega) (fun r j g1 g2 => by
        rw [vm_u2_ne g1, vm_u2_ne g2]
        exact hr r j g1 g2)
      rw [hst] at nx
      rw [e1]
      have ela : (vh_ro f d 60 (f 5) (f 4)).1 = vh_la f d := rfl
      rw [ela, nI_eq (by unfold vh_la; omega) (by omega)]
      refine ⟨fun q => ?_, fun q => ?_⟩
      · rw [if_pos q] at nx
        unfold vm_en at nx
        rw [if_neg (by omega)] at nx
        exact nx
      · rw [if_neg q] at nx
        exact nx
  exact loop 60 60 M rfl (Nat.le_refl _) (fun _ _ _ _ => rfl)
theorem op_crow (hR : vR M) (x : Int32) : E_B_crow X x M (fun v M1 => E_M_crow X x M1 (fun v' M2 => v = v' ∧ vR M2)) := by
  obtain ⟨f, w, hH, hA, hT, e7, e52⟩ := hR.traders
  apply v_B_crow
  rw [e7]
  rcases vm_one x (T := f 2) (by omega) with ⟨n, hn, rfl⟩ | ⟨hno, hx⟩
  · simp (disch := omega) only [vm_nneg, nI_ltI, hn, vm_fa, vm_tr, not_true, not_false_eq_true, true_and, and_true]
    refine s_dawnFor hH.2.1 hH.1 (by omega) (by omega) (fun M' hs hr => ?_)
    have hR' := hR.same hs
    have e52' : (vm_u2 M' 48 0 (nI 0)) 52 2 = nI (f 2) := (hr 52 2 (by omega)).trans e52
    have hM' : vh_M (vm_u2 M' 48 0 (nI 0)) 52 0 f w := hH.2.2.of (fun j _ => by rw [vm_u2_r (by omega), hr _ _ (by omega)])
    have e0 : (vm_u2 M' 48 0 (nI 0)) 52 0 = nI (f 0) := hM'.1 0 (by omega) (by omega)
    apply v_M_crow
    refine s_M_isTrader hT e52' (fun k hk e => ⟨fun q => absurd q (by decide), fun _ => ?_⟩) (fun h => absurd rfl (h n hn))
    rw [e0]
    exact s_M_crow30 hM' hH.1 (by omega) (by omega) (fun M2 hs2 => ⟨rfl, hR'.thrown.same hs2⟩)
  · have e52' : (vm_u2 M 48 0 (nI 0)) 52 2 = nI (f 2) := e52
    have hb : E_M_crow X x M (fun v' M2 => cBAD = v' ∧ vR M2) := by
      apply v_M_crow
      exact s_M_isTrader hT e52' (fun m hm e => absurd e (hno m hm)) (fun _ => ⟨fun _ => ⟨rfl, hR.thrown⟩, fun q => absurd rfl q⟩)
    rcases hx with hx | hx
    · exact ⟨fun _ => hb, fun q => absurd hx q⟩
    · exact ⟨fun _ => hb, fun _ => ⟨fun q => absurd q hx, fun _ => hb⟩⟩
end VH
