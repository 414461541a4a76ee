/-- each passes it on at once: who has it, since when, after n passings at most -/
def vh_ro (f : Nat → Nat) (d : Nat) : Nat → Nat → Nat → Nat × Nat
  | 0, a, t => (a, t)
  | n + 1, a, t => if vh_dst f a t d (f 2) = 0 then (a, t) else vh_ro f d n (vh_dst f a t d (f 2) - 1) (vh_hand f a (vh_dst f a t d (f 2) - 1) t d)
theorem vh_dst_hand (f : Nat → Nat) (a t d : Nat) : ∀ k, vh_dst f a t d k ≠ 0 → vh_hand f a (vh_dst f a t d k - 1) t d ≠ 0
  | 0, h => absurd rfl h
  | k + 1, h => by
    have ih := vh_dst_hand f a t d k
    unfold vh_dst at h ⊢
    split
    · next hc => exact hc.1
    · next hc => rw [if_neg hc] at h; exact ih h
theorem vh_far_pos {f : Nat → Nat} (ho : vh_ok f) (a b t : Nat) : vh_arr f a b t ≠ 0 → t < vh_arr f a b t := by
  unfold vh_arr
  split
  · intro h; exact absurd rfl h
  · intro _; omega
theorem vh_hand_rng {f : Nat → Nat} (ho : vh_ok f) {a b t d : Nat} (h : vh_hand f a b t d ≠ 0) : t < vh_hand f a b t d ∧ vh_hand f a b t d < d := by
  unfold vh_hand at h ⊢
  split at h
  · exact absurd rfl h
  · next h0 =>
    split at h
    · next hacc =>
      rw [if_neg h0, if_pos hacc]
      refine ⟨vh_far_pos ho a b t h0, ?_⟩
      unfold vh_acc at hacc
      simp only [Bool.and_eq_true, decide_eq_true_eq] at hacc
      exact hacc.1
    · exact absurd rfl h
theorem vh_ro_same {f : Nat → Nat} (ho : vh_ok f) {d : Nat} (hd : d ≤ 60) : ∀ n m a t, t ≤ 60 → 60 ≤ n + t → 60 ≤ m + t → vh_ro f d n a t = vh_ro f d m a t := by
  intro n
  induction n with
  | zero =>
    intro m a t ht hn hm
    cases m with
    | zero => rfl
    | succ m =>
      rw [vh_ro, vh_ro]
      by_cases hz : vh_dst f a t d (f 2) = 0
      · rw [if_pos hz]
      · have := vh_hand_rng ho (vh_dst_hand f a t d _ hz)
        omega
  | succ n ih =>
    intro m a t ht hn hm
    rw [vh_ro]
    by_cases hz : vh_dst f a t d (f 2) = 0
    · rw [if_pos hz]
      cases m with
      | zero => rfl
      | succ m => rw [vh_ro, if_pos hz]
    · have h9 := vh_hand_rng ho (vh_dst_hand f a t d _ hz)
      rw [if_neg hz]
      cases m with
      | zero => omega
      | succ m =>
        rw [vh_ro, if_neg hz]
        exact ih m _ _ (by omega) (by omega) (by omega)
theorem vh_ro_lt {f : Nat → Nat} (ho : vh_ok f) {d : Nat} (hd : d ≤ 60) : ∀ n a t, a < f 2 → t ≤ 60 → (vh_ro f d n a t).1 < f 2 ∧ (vh_ro f d n a t).2 ≤ 60
  | 0, a, t, ha, ht => ⟨ha, ht⟩
  | n + 1, a, t, ha, ht => by
    rw [vh_ro]
    by_cases hz : vh_dst f a t d (f 2) = 0
    · rw [if_pos hz]; exact ⟨ha, ht⟩
    · rw [if_neg hz]
      have h9 := vh_hand_rng ho (vh_dst_hand f a t d _ hz)
      have h8 := vh_dst_le f a t d (f 2)
      exact vh_ro_lt ho hd n _ _ (by omega) (by omega)
def vm_l (M : vm_M) (a t : Int32) : vm_M := vm_u2 (vm_u2 M 41 1 a) 41 2 t
theorem vm_l_l (M : vm_M) (a t a' t' : Int32) : vm_u2 (vm_u2 (vm_l M a t) 41 2 t') 41 1 a' = vm_l M a' t' := by
  funext r j
  unfold vm_l vm_u2
  by_cases h1 : r = 41 ∧ j = 1
  · obtain ⟨rfl, rfl⟩ := h1; simp
  · by_cases h2 : r = 41 ∧ j = 2
    · obtain ⟨rfl, rfl⟩ := h2; simp
    · simp [h1, h2]
theorem vm_u2_u2 (M : vm_M) (r j : Nat) (a b : Int32) : vm_u2 (vm_u2 M r j a) r j b = vm_u2 M r j b := by
  funext r' j'
  unfold vm_u2
  split <;> rfl
theorem vm_l_r {M : vm_M} {a t : Int32} {r : Nat} (h : r ≠ 41) (j : Nat) : vm_l M a t r j = M r j := by
  unfold vm_l
  rw [vm_u2_r h, vm_u2_r h]
section VH
variable {X : Nat × (Nat → Int32)} {M : vm_M} {f : Nat → Nat} {w : Nat → Int32}
theorem s_runOut {P : vm_M → Prop} (hC : vh_C M 7 f w) (ho : vh_ok f) (h0 : 0 < f 2) {d : Nat} (hd : d ≤ 60) (h : P (vm_l M (nI (vh_ro f d 60 (f 5) (f 4)).1) (nI (vh_ro f d 60 (f 5) (f 4)).2))) : E_Foretold_runOut X (nI d) M P := by
  have hT := ho.1
  have h4 := ho.2.2.2.2.1
  have h5 := (ho.2.2.2.2.2.1 h0).1
  have e5 : M 7 5 = nI (f 5) := hC.2.2.2.2.2.1
  have e4 : M 7 4 = nI (f 4) := hC.2.2.2.2.1
  have hCl : ∀ a t, vh_C (vm_l M a t) 7 f w := fun a t => hC.of (fun r j g1 g2 => vm_l_r (by omega) j)
  have loop : ∀ (n k a t : Nat) (w3 : Value), k + n = 60 → a < f 2 → t ≤ 60 → P (vm_l M (nI (vh_ro f d n a t).1) (nI (vh_ro f d n a t).2)) → C_Foretold_runOut_24 X (nI d) (nI k) w3 (vm_l M (nI a) (nI t)) P := by
    intro n
    induction n with
    | zero =>
      intro k a t w3 hk ha ht h
      apply v_Foretold_runOut_24
      rw [nI_ltI (by omega) (by omega)]
      exact ⟨fun q => absurd q (by omega), fun _ => h⟩
    | succ n ih =>
      intro k a t w3 hk ha ht h
      have hle := vh_dst_le f a t d (f 2)
      rw [vh_ro] at h
      apply v_Foretold_runOut_24
      rw [nI_ltI (by omega) (by omega)]
      refine ⟨fun _ => ?_, fun q => absurd (by omega) q⟩
      refine s_dearest (hCl _ _) ho (by omega) (by omega) (by omega) ?_
      rw [vm_eo_none (by omega)]
      refine ⟨fun q => ?_, fun q => ?_⟩
      · rw [if_pos q] at h
        exact h
      · rw [if_neg q] at h
        have ee : vm_eo (vh_dst f a t d (f 2)) = nI (vh_dst f a t d (f 2) - 1) := by unfold vm_eo; rw [if_neg q]
        have hh := vh_dst_hand f a t d _ q
        have h9 := vh_hand_rng ho hh
        rw [ee]
        refine s_Hill_handed (hCl _ _) ho (by omega) (by omega) (by omega) (by omega) ?_
        have een : vm_en (vh_hand f a (vh_dst f a t d (f 2) - 1) t d) = nI (vh_hand f a (vh_dst f a t d (f 2) - 1) t d) := by unfold vm_en; rw [if_neg hh]
        rw [een, vm_add, vm_l_l]
        exact ih (k + 1) _ _ _ (by omega) (by omega) (by omega) h
  apply v_Foretold_runOut
  have e : vm_u2 (vm_u2 M 41 1 (M 7 5)) 41 2 ((vm_u2 M 41 1 (M 7 5)) 7 4) = vm_l M (nI (f 5)) (nI (f 4)) := by
    rw [vm_u2_r (by omega), e5, e4]
    rfl
  rw [e]
  exact loop 60 0 _ _ _ (by omega) h5 h4 h
theorem s_M_lastOne {P : Int32 → vm_M → Prop} (hM : vh_M M 52 0 f w) (ho : vh_ok f) (h0 : 0 < f 2) (h : P (nI (vh_ro f (f 0) 60 (f 5) (f 4)).1) (vm_u2 M 48 22 (nI (vh_ro f (f 0) 60 (f 5) (f 4)).2))) : E_M_lastOne X M P := by
  have hT := ho.1
  have hd := ho.2.2.1
  have h4 := ho.2.2.2.2.1
  have h5 := (ho.2.2.2.2.2.1 h0).1
  have e5 : M 52 5 = nI (f 5) := hM.1 5 (by omega) (by omega)
  have e4 : M 52 4 = nI (f 4) := hM.1 4 (by omega) (by omega)
  have e2 : M 52 2 = nI (f 2) := hM.1 2 (by omega) (by omega)
  have hMl : ∀ t, vh_M (vm_u2 M 48 22 t) 52 0 f w := fun t => hM.of (fun j _ => vm_u2_r (by omega) _)
  have loop : ∀ (n a t x2 : Nat) (w3 w4 : Value), a < f 2 → t ≤ 60 → x2 < 6 → 61 ≤ n + t → P (nI (vh_ro f (f 0) 60 a t).1) (vm_u2 M 48 22 (nI (vh_ro f (f 0) 60 a t).2)) → C_M_lastOne_19 X (nI a) (nI x2) w3 w4 (vm_u2 M 48 22 (nI t)) P := by
    intro n
    induction n with
    | zero =>
      intro a t x2 w3 w4 ha ht hx hn h
      omega
    | succ n ih =>
      intro a t x2 w3 w4 ha ht hx hn h
      have et : (vm_u2 M 48 22 (nI t)) 48 22 = nI t := vm_u2_eq
      have e2' : (vm_u2 M 48 22 (nI t)) 52 2 = nI (f 2) := e2
      have inner : ∀ (i k : Nat) (w4 : Value), k + i = f 2 → C_M_lastOne_30 X (nI a) (vm_eo (vh_dst f a t (f 0) k)) (nI k) w4 (vm_u2 M 48 22 (nI t)) P := by
        intro i
        induction i with
        | zero =>
          intro k w4 hk
          have hk : k = f 2 := by omega
          subst hk
          have hle := vh_dst_le f a t (f 0) (f 2)
          apply v_M_lastOne_30
          rw [e2']
          refine ⟨fun q => absurd ((nI_ltI (by omega) (by omega)).mp q) (by omega), fun _ => ?_⟩
          rw [vm_eo_none (by omega)]
          refine ⟨fun q => ?_, fun q => ?_⟩
          · apply v_M_lastOne_19
            rw [vm_eo_none (by omega)]
            refine ⟨fun _ => ?_, fun q2 => absurd q q2⟩
            rw [vh_ro, if_pos q] at h
            exact h
          · have ee : vm_eo (vh_dst f a t (f 0) (f 2)) = nI (vh_dst f a t (f 0) (f 2) - 1) := by unfold vm_eo; rw [if_neg q]
            have hh := vh_dst_hand f a t (f 0) _ q
            have h9 := vh_hand_rng ho hh
            rw [ee, et]
            refine s_M_passedIn (hMl _) ho (by omega) (by omega) (by omega) ?_
            have een : vm_en (vh_hand f a (vh_dst f a t (f 0) (f 2) - 1) t (f 0)) = nI (vh_hand f a (vh_dst f a t (f 0) (f 2) - 1) t (f 0)) := by unfold vm_en; rw [if_neg hh]
            rw [een, vm_u2_u2]
            refine ih _ _ _ _ _ (by omega) (by omega) (by omega) (by omega) ?_
            rw [vh_ro, if_neg q] at h
            rw [vh_ro_same ho hd 60 59 _ _ (by omega) (by omega) (by omega)]
            exact h
        | succ i ihi =>
          intro k w4 hk
          have hkf : k < f 2 := by omega
          have hle := vh_dst_le f a t (f 0) k
          have hhl := vh_hand_le ho (a := a) (b := k) (d := f 0) (t := t) (by omega)
          have nx : ∀ w4, C_M_lastOne_30 X (nI a) (vm_eo (vh_dst f a t (f 0) (k + 1))) (nI (k + 1)) w4 (vm_u2 M 48 22 (nI t)) P := fun w4 => ihi (k + 1) w4 (by omega)
          have hen : vm_en (vh_hand f a k t (f 0)) = Int32.ofInt (-1000000) ↔ vh_hand f a k t (f 0) = 0 := vm_en_none (by omega)
          apply v_M_lastOne_30
          rw [e2', et]
          refine ⟨fun _ => ?_, fun q => absurd ((nI_ltI (by omega) (by omega)).mpr hkf) q⟩
          refine s_M_passedIn (hMl _) ho (by omega) hkf (by omega) ?_
          rw [hen, vm_add, vm_eo_none (by omega)]
          refine ⟨fun q => ?_, fun q => ⟨fun q2 => ?_, fun q2 => ?_⟩⟩
          · have := nx (.int (nI 0))
            rw [vh_dst, if_neg (fun h => h.1 q)] at this
            exact this
          · have := nx (.int (nI 1))
            rw [vh_dst, if_pos ⟨q, Or.inl q2⟩] at this
            exact this
          · have ee : vm_eo (vh_dst f a t (f 0) k) = nI (vh_dst f a t (f 0) k - 1) := by unfold vm_eo; rw [if_neg q2]
            refine s_priceM (hMl _) ho hkf ?_
            rw [ee]
            refine s_priceM (hMl _) ho (by omega) ?_
            have p1 := vh_pr_le ho hkf
            have p2 := vh_pr_le ho (b := vh_dst f a t (f 0) k - 1) (by omega)
            rw [nI_ltI (by omega) (by omega)]
            refine ⟨fun hlt => ?_, fun hlt => ?_⟩
            · have := nx (.int (nI 1))
              rw [vh_dst, if_pos ⟨q, Or.inr hlt⟩] at this
              exact this
            · have := nx (.int (nI 1))
              rw [vh_dst, if_neg (fun h => h.2.elim q2 hlt), ee] at this
              exact this
      apply v_M_lastOne_19
      refine ⟨fun q => absurd q (by rw [show (nI x2 = Int32.ofInt (-1000000)) ↔ False from vm_nI_none (by omega)]; exact id), fun _ => ?_⟩
      exact inner (f 2) 0 w4 (by omega)
  apply v_M_lastOne
  rw [e5, e4]
  exact loop 61 _ _ _ _ _ h5 h4 (by omega) (by omega) h
theorem vm_same.l {M : vm_M} {a t : Int32} : vm_same M (vm_l M a t) := (vm_same.u2 (by decide)).trans (vm_same.u2 (by decide))
theorem op_last (hR : vR M) (x : Int32) : E_B_last X x M (fun v M1 => E_M_last X x M1 (fun v' M2 => v = v' ∧ vR M2)) := by
  obtain ⟨f, w, hH, hA, hT, e7, e52⟩ := hR.traders
  have hd := hH.1.2.2.1
  have ed : M 7 2 = nI (f 0) := hH.2.1.2.2.1
  have ed2 : ∀ M' : vm_M, M' 52 0 = M 52 0 → (vm_u2 M' 48 0 (nI 0)) 52 0 = nI (f 0) := fun M' h => h.trans (hH.2.2.1 0 (by omega) (by omega))
  apply v_B_last
  rw [e7, vm_n0 (by omega)]
  refine ⟨fun hz => ?_, fun hz => ?_⟩
  · apply v_M_last
    rw [ed2 _ rfl, vm_0n (by omega)]
    have := hH.1.2.2.2.2.2.2.1 hz
    exact ⟨fun q => absurd q (by omega), fun _ => ⟨rfl, hR.thrown⟩⟩
  · have h1 := (hH.1.2.2.2.2.2.1 (by omega)).2
    rcases vm_one x (T := 2) (by omega) with ⟨n, hn, rfl⟩ | ⟨hno, hx⟩
    · rw [vm_nneg (by omega), nI_ltI (by omega) (by omega), vm_n0 (by omega)]
      refine ⟨fun q => q.elim, fun _ => ⟨fun q => absurd q (by omega), fun _ => ?_⟩⟩
      rw [ed]
      refine s_runOut hH.2.1 hH.1 (by omega) hd ?_
      have hR' : vR (vm_l M (nI (vh_ro f (f 0) 60 (f 5) (f 4)).1) (nI (vh_ro f (f 0) 60 (f 5) (f 4)).2)) := hR.same vm_same.l
      have key : ∀ v : Int32, (n = 0 → v = nI (vh_ro f (f 0) 60 (f 5) (f 4)).1) → (n ≠ 0 → v = nI (vh_ro f (f 0) 60 (f 5) (f 4)).2) → E_M_last X (nI n) (vm_l M (nI (vh_ro f (f 0) 60 (f 5) (f 4)).1) (nI (vh_ro f (f 0) 60 (f 5) (f 4)).2)) (fun v' M2 => v = v' ∧ vR M2) := by
        intro v hv0 hv1
        apply v_M_last
        rw [ed2 _ (vm_l_r (by omega) 0), vm_0n (by omega)]
        refine ⟨fun _ => ?_, fun q => absurd (by omega) q⟩
        refine s_M_rng (T := 2) (by decide) (by decide) (by omega) (fun k hk e => ⟨fun q => absurd q (by decide), fun _ => ?_⟩) (fun h => absurd rfl (h n hn))
        have hMl : vh_M (vm_u2 (vm_l M (nI (vh_ro f (f 0) 60 (f 5) (f 4)).1) (nI (vh_ro f (f 0) 60 (f 5) (f 4)).2)) 48 0 (nI 0)) 52 0 f w := hH.2.2.of (fun j _ => by rw [vm_u2_r (by omega), vm_l_r (by omega)])
        refine s_M_lastOne hMl hH.1 (by omega) ?_
        have hR2 := hR'.thrown (v := nI 0)
        have hR3 := hR2.same (vm_same.u2 (r := 48) (j := 22) (v := nI (vh_ro f (f 0) 60 (f 5) (f 4)).2) (by decide))
        rw [vm_n0 (by omega)]
        refine ⟨fun q => ⟨hv0 q, hR3⟩, fun q => ⟨?_, hR3⟩⟩
        rw [vm_u2_eq]
        exact hv1 q
      refine ⟨fun q => key _ (fun _ => ?_) (fun q2 => absurd q q2), fun q => key _ (fun q2 => absurd q2 q) (fun _ => ?_)⟩
      · unfold vm_l
        rw [vm_u2_ne (by omega), vm_u2_eq]
      · unfold vm_l
        rw [vm_u2_eq]
    · have hb : E_M_last X x M (fun v' M2 => cBAD = v' ∧ vR M2) := by
        apply v_M_last
        rw [ed2 _ rfl, vm_0n (by omega)]
        refine ⟨fun _ => ?_, fun q => absurd (by omega) q⟩
        exact s_M_rng (T := 2) (by decide) (by decide) (by omega) (fun k hk e => absurd e (hno k hk)) (fun _ => ⟨fun _ => ⟨rfl, hR.thrown⟩, fun q => absurd rfl q⟩)
      have hx2 : x < 0 ∨ nI 1 < x := by
        rcases hx with h | h
        · exact Or.inl h
        · refine Or.inr (Int32.lt_iff_toInt_lt.mpr ?_)
          have h1 := Int32.le_iff_toInt_le.mp (Int32.not_lt.mp h)
          have e1 := nI_toInt (n := 2) (by omega)
          have e2 := nI_toInt (n := 1) (by omega)
          omega
      rcases hx2 with h | h
      · exact ⟨fun _ => hb, fun q => absurd h q⟩
      · exact ⟨fun _ => hb, fun _ => ⟨fun _ => hb, fun q => absurd h q⟩⟩
end VH
