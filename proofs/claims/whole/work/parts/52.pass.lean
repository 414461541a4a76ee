section VH
variable {X : Nat × (Nat → Int32)} {M : vm_M}
/-- the ring behind its latest entry -/
theorem vm_kp_5 (M : vm_M) {q n : Nat} {a b : Int32} (hq : q < 24) : vm_kp M q n a b 35 1 = nI (min (n + 1) 24) ∧ vm_kp M q n a b 35 2 = nI ((q + 1) % 24) ∧ vm_kp M q n a b 36 q = M 7 4 ∧ vm_kp M q n a b 37 q = M 7 2 ∧ vm_kp M q n a b 38 q = M 7 5 ∧ vm_kp M q n a b 39 q = a ∧ vm_kp M q n a b 40 q = b := by
  unfold vm_kp
  refine ⟨?_, ?_, ?_, ?_, ?_, ?_, ?_⟩
  · rw [if_pos ⟨rfl, rfl⟩]
  · rw [if_neg (by omega), if_pos ⟨rfl, rfl⟩]
  · rw [if_neg (by omega), if_neg (by omega), if_neg (by omega), if_neg (by omega), if_neg (by omega), if_neg (by omega), if_pos ⟨rfl, rfl⟩]
  · rw [if_neg (by omega), if_neg (by omega), if_neg (by omega), if_neg (by omega), if_neg (by omega), if_pos ⟨rfl, rfl⟩]
  · rw [if_neg (by omega), if_neg (by omega), if_neg (by omega), if_neg (by omega), if_pos ⟨rfl, rfl⟩]
  · rw [if_neg (by omega), if_neg (by omega), if_neg (by omega), if_pos ⟨rfl, rfl⟩]
  · rw [if_neg (by omega), if_neg (by omega), if_pos ⟨rfl, rfl⟩]
theorem s_Acts_pay {P : vm_M → Prop} {a b : Nat} {v : Int32} (ha : a < 6) (hb : b < 6) (h : P (vm_u2 (vm_u2 M 11 a (M 11 a - v)) 11 b ((vm_u2 M 11 a (M 11 a - v)) 11 b + v))) : E_Acts_pay X (nI a) (nI b) v M P := by
  apply v_Acts_pay
  simp (disch := omega) only [vm_ex]
  exact h
theorem op_pass (hR : vR M) (x : Int32) : E_B_pass X x M (fun v M1 => E_M_pass X x M1 (fun v' M2 => v = v' ∧ vR M2)) := by
  obtain ⟨h1, h2, h3, ⟨f, w, hH, hA⟩, h6, h7, h8⟩ := id hR
  obtain ⟨n, q, F, W, hn, hq, e1, e2, e8, hF, hW, hall⟩ := hA
  have hT := hH.1.1
  have e7 : M 7 0 = nI (f 2) := hH.2.1.1
  have e52 : M 52 2 = nI (f 2) := hH.2.2.1 2 (by omega) (by omega)
  have e52' : (vm_u2 M 48 0 (nI 0)) 52 2 = nI (f 2) := e52
  have hd := hH.1.2.2.1
  have h460 := hH.1.2.2.2.2.1
  have e72 : M 7 2 = nI (f 0) := hH.2.1.2.2.1
  have e74 : M 7 4 = nI (f 4) := hH.2.1.2.2.2.2.1
  have e75 : M 7 5 = nI (f 5) := hH.2.1.2.2.2.2.2.1
  have d0 : M 52 0 = nI (f 0) := hH.2.2.1 0 (by omega) (by omega)
  have d4 : M 52 4 = nI (f 4) := hH.2.2.1 4 (by omega) (by omega)
  have d5 : M 52 5 = nI (f 5) := hH.2.2.1 5 (by omega) (by omega)
  apply v_B_pass
  rw [e7]
  rcases vm_one x (T := f 2) (by omega) with ⟨b, hb, rfl⟩ | ⟨hno, hx⟩
  · have hd1 := (hH.1.2.2.2.2.2.1 (by omega)).2
    have hf5 := (hH.1.2.2.2.2.2.1 (by omega)).1
    have hle := vh_hand_le hH.1 (a := f 5) (b := b) (t := f 4) (d := f 0) (by omega)
    have hen : vm_en (vh_hand f (f 5) b (f 4) (f 0)) = Int32.ofInt (-1000000) ↔ vh_hand f (f 5) b (f 4) (f 0) = 0 := vm_en_none (by omega)
    simp (disch := omega) only [vm_nneg, nI_ltI, hb, vm_fa, vm_tr, not_true, not_false_eq_true, true_and, and_true]
    rw [e75, e74, e72]
    refine s_Hill_handed hH.2.1 hH.1 (by omega) hb (by omega) (by omega) ?_
    rw [hen]
    refine ⟨fun hz => ?_, fun hz => ?_⟩
    · apply v_M_pass
      refine s_M_isTrader hT e52' (fun k hk e => ⟨fun q => absurd q (by decide), fun _ => ?_⟩) (fun h => absurd rfl (h b hb))
      rw [vm_u2_r (by omega), vm_u2_r (by omega), d5, d4]
      refine s_M_passedIn (vm_hit hH).2.2 hH.1 (by omega) hb (by omega) ?_
      rw [hen]
      exact ⟨fun _ => ⟨rfl, hR.thrown⟩, fun q => absurd hz q⟩
    · have een : vm_en (vh_hand f (f 5) b (f 4) (f 0)) = nI (vh_hand f (f 5) b (f 4) (f 0)) := by unfold vm_en; rw [if_neg hz]
      have hrng := vh_hand_rng hH.1 hz
      have hba : b ≠ f 5 := by
        intro hab
        apply hz
        rw [hab]
        unfold vh_hand vh_arr
        rw [vh_far_eq hH.1 _ _ _ _ (Nat.le_refl _), vh_min_aa hH.1 0 _ _ (Nat.le_refl _), vh_min_aa hH.1 1 _ _ (Nat.le_refl _)]
        simp
      generalize hto : vh_hand f (f 5) b (f 4) (f 0) = to at *
      rw [een]
      apply v_Acts_passTo
      refine s_price7 hH.2.1 hH.1 hb ?_
      generalize hpr : vh_pr f b = pr
      refine s_Acts_keep hq hn e2 e1 ?_
      have k5 : (vm_kp M q n (nI b) (nI pr)) 7 5 = nI (f 5) := by rw [vm_kp_o (by omega)]; exact e75
      rw [k5]
      refine s_Acts_pay (by omega) (by omega) ?_
      generalize hM1 : vm_u2 (vm_u2 (vm_u2 (vm_u2 (vm_kp M q n (nI b) (nI pr)) 11 b ((vm_kp M q n (nI b) (nI pr)) 11 b - nI pr)) 11 (f 5) ((vm_u2 (vm_kp M q n (nI b) (nI pr)) 11 b ((vm_kp M q n (nI b) (nI pr)) 11 b - nI pr)) 11 (f 5) + nI pr)) 7 5 (nI b)) 7 4 (nI to) = M1
      have o0 : ∀ r j, ¬ (35 ≤ r ∧ r ≤ 40) → ¬ (r = 7 ∧ (j = 4 ∨ j = 5)) → r ≠ 11 → M1 r j = M r j := by
        intro r j a b c
        rw [← hM1, vm_u2_ne (by omega), vm_u2_ne (by omega), vm_u2_r c, vm_u2_r c, vm_kp_o a]
      have o1 : ∀ r j, 35 ≤ r → r ≤ 40 → M1 r j = vm_kp M q n (nI b) (nI pr) r j := by
        intro r j a b
        rw [← hM1, vm_u2_ne (by omega), vm_u2_ne (by omega), vm_u2_r (by omega), vm_u2_r (by omega)]
      have hM' : vh_M (vm_u2 M1 48 0 (nI 0)) 52 0 f w := hH.2.2.of (fun j _ => by rw [vm_u2_r (by omega), o0 _ _ (by omega) (by omega) (by omega)])
      have e52'' : (vm_u2 M1 48 0 (nI 0)) 52 2 = nI (f 2) := hM'.1 2 (by omega) (by omega)
      have g5 : (vm_u2 M1 48 0 (nI 0)) 52 5 = nI (f 5) := hM'.1 5 (by omega) (by omega)
      have g4 : (vm_u2 M1 48 0 (nI 0)) 52 4 = nI (f 4) := hM'.1 4 (by omega) (by omega)
      have g8 : (vm_u2 M1 48 0 (nI 0)) 48 8 = nI n := by rw [vm_u2_ne (by omega), o0 _ _ (by omega) (by omega) (by omega)]; exact e8
      apply v_M_pass
      refine s_M_isTrader hT e52'' (fun k hk e => ⟨fun q => absurd q (by decide), fun _ => ?_⟩) (fun h => absurd rfl (h b hb))
      rw [g5, g4]
      refine s_M_passedIn hM' hH.1 (by omega) hb (by omega) ?_
      rw [hto, hen]
      refine ⟨fun q => absurd q hz, fun _ => ?_⟩
      refine s_M_keep hn g8 ?_
      rw [een]
      generalize hM0 : vm_u2 M1 48 0 (nI 0) = M0 at hM' e52'' g5 g4 g8
      have o2 : ∀ r j, ¬ (35 ≤ r ∧ r ≤ 40) → ¬ (r = 7 ∧ (j = 4 ∨ j = 5)) → r ≠ 11 → ¬ (r = 48 ∧ j = 0) → M0 r j = M r j := by
        intro r j a b c d
        rw [← hM0, vm_u2_ne d, o0 r j a b c]
      have hM5 : vh_M (vm_kM M0 n) 52 0 f w := hM'.of (fun j _ => vm_kM_o (by omega) (by omega))
      simp (disch := omega) only [vm_mul, vm_add, vm_ex]
      refine s_priceM hM5 hH.1 hb ?_
      rw [hpr]
      have w5 : (vm_kM M0 n) 52 (6 + 4 * f 5 + 3) = w (f 5) := by
        have := hM5.2 (f 5) (by omega)
        rw [show 6 + 4 * f 5 + 3 = 0 + 9 + 4 * f 5 by omega]; exact this
      have wb : (vm_kM M0 n) 52 (6 + 4 * b + 3) = w b := by
        have := hM5.2 b (by omega)
        rw [show 6 + 4 * b + 3 = 0 + 9 + 4 * b by omega]; exact this
      have hM8 : vh_M (vm_u2 (vm_kM M0 n) 52 (6 + 4 * f 5 + 3) ((vm_kM M0 n) 52 (6 + 4 * f 5 + 3) + nI pr)) 52 0 f (fun x => if x = f 5 then w x + nI pr else w x) := by
        refine ⟨fun j hj hnw => ?_, fun x hx => ?_⟩
        · rw [vm_u2_ne (by omega)]; exact hM5.1 j hj hnw
        · by_cases hx5 : x = f 5
          · subst hx5
            rw [show 0 + 9 + 4 * f 5 = 6 + 4 * f 5 + 3 by omega, vm_u2_eq, w5]; exact (if_pos rfl).symm
          · rw [vm_u2_ne (by omega)]; exact (hM5.2 x hx).trans (if_neg hx5).symm
      refine s_priceM hM8 hH.1 hb ?_
      rw [hpr]
      rw [vm_u2_ne (M := vm_kM M0 n) (r := 52) (j := 6 + 4 * f 5 + 3) (r' := 52) (j' := 6 + 4 * b + 3) (by omega), wb, w5]
      have hpl := vh_pr_le hH.1 hb
      refine ⟨trivial, ?_⟩
      have k9 := vm_kp_5 M (q := q) (n := n) (a := nI b) (b := nI pr) hq
      have o3 : ∀ r j, 35 ≤ r → r ≤ 40 → (vm_u2 (vm_u2 (vm_u2 (vm_u2 (vm_kM M0 n) 52 (6 + 4 * f 5 + 3) (w (f 5) + nI pr)) 52 (6 + 4 * b + 3) (w b - nI pr)) 52 5 (nI b)) 52 4 (nI to)) r j = vm_kp M q n (nI b) (nI pr) r j := by
        intro r j a c
        rw [vm_u2_r (by omega), vm_u2_r (by omega), vm_u2_r (by omega), vm_u2_r (by omega), vm_kM_o (by omega) (by omega), ← hM0, vm_u2_r (by omega), o1 r j a c]
      have o4 : ∀ r j, r ≠ 54 → r ≠ 52 → ¬ (r = 48 ∧ j = 8) → (vm_u2 (vm_u2 (vm_u2 (vm_u2 (vm_kM M0 n) 52 (6 + 4 * f 5 + 3) (w (f 5) + nI pr)) 52 (6 + 4 * b + 3) (w b - nI pr)) 52 5 (nI b)) 52 4 (nI to)) r j = M0 r j := by
        intro r j a c d
        rw [vm_u2_r c, vm_u2_r c, vm_u2_r c, vm_u2_r c, vm_kM_o a d]
      have M1w : ∀ x, x < f 2 → M1 11 x = if x = f 5 then w x + nI pr else if x = b then w x - nI pr else w x := by
        intro x hx
        have ew : ∀ y, y < f 2 → vm_kp M q n (nI b) (nI pr) 11 y = w y := fun y hy => by rw [vm_kp_o (by omega)]; exact (hH.2.1.2.2.2.2.2.2.1 y hy).2.2.2
        rw [← hM1, vm_u2_ne (by omega), vm_u2_ne (by omega)]
        by_cases hx5 : x = f 5
        · subst hx5
          rw [vm_u2_eq, if_pos rfl, vm_u2_ne (by omega), ew _ hx]
        · rw [vm_u2_ne (by omega), if_neg hx5]
          by_cases hxb : x = b
          · subst hxb
            rw [vm_u2_eq, if_pos rfl, ew _ hx]
          · rw [vm_u2_ne (by omega), if_neg hxb, ew _ hx]
      refine vR.act (f := f) (f2 := fun j => if j = 4 then to else if j = 5 then b else f j) (w := w) (w2 := fun x => if x = f 5 then w x + nI pr else if x = b then w x - nI pr else w x) (tk := b) h1 h2 h3 hH h6 h7 h8 (by omega) hn hq hF hW hall ?_ (fun j _ a c => by show (if j = 4 then to else if j = 5 then b else f j) = f j; rw [if_neg a, if_neg c]) hd1 hd (by show to ≤ 60; omega) hb ?_ ?_ ?_ ?_ ?_ ?_ ?_ ?_ ?_ ?_ ?_ ?_ ?_ ?_ hb ?_ ?_ ?_ ?_ ?_
      · intro r j a b' c d e' g
        by_cases hr : r = 52
        · subst hr
          rw [vm_u2_ne (by omega), vm_u2_ne (by omega), vm_u2_ne (by omega), vm_u2_ne (by omega), vm_kM_o (by omega) (by omega), o2 52 j (by omega) (by omega) (by omega) (by omega)]
        · rw [o4 r j b' hr (by omega), o2 r j a (by omega) c (by omega)]
      · rw [o4 7 2 (by omega) (by omega) (by omega), o2 7 2 (by omega) (by omega) (by omega) (by omega)]; exact e72
      · rw [o4 7 4 (by omega) (by omega) (by omega), ← hM0, vm_u2_ne (by omega), ← hM1, vm_u2_eq]; rfl
      · rw [o4 7 5 (by omega) (by omega) (by omega), ← hM0, vm_u2_ne (by omega), ← hM1, vm_u2_ne (by omega), vm_u2_eq]; rfl
      · intro x hx
        rw [o4 11 x (by omega) (by omega) (by omega), ← hM0, vm_u2_ne (by omega)]
        exact M1w x hx
      · rw [vm_u2_ne (by omega), vm_u2_ne (by omega), vm_u2_ne (by omega), vm_u2_ne (by omega), vm_kM_o (by omega) (by omega), o2 52 0 (by omega) (by omega) (by omega) (by omega)]; exact d0
      · exact vm_u2_eq
      · rw [vm_u2_ne (by omega), vm_u2_eq]; rfl
      · intro x hx
        show _ = (if x = f 5 then w x + nI pr else if x = b then w x - nI pr else w x)
        rw [vm_u2_ne (by omega), vm_u2_ne (by omega)]
        by_cases hxb : x = b
        · subst hxb
          rw [show 9 + 4 * x = 6 + 4 * x + 3 by omega, vm_u2_eq, if_neg hba, if_pos rfl]
        · rw [vm_u2_ne (by omega)]
          by_cases hx5 : x = f 5
          · subst hx5
            rw [show 9 + 4 * f 5 = 6 + 4 * f 5 + 3 by omega, vm_u2_eq, if_pos rfl]
          · rw [vm_u2_ne (by omega), if_neg hx5, if_neg hxb]
            have := hM5.2 x hx
            rwa [Nat.zero_add] at this
      · rw [o3 35 1 (by omega) (by omega)]; exact k9.1
      · rw [o3 35 2 (by omega) (by omega)]; exact k9.2.1
      · rw [vm_u2_r (by omega), vm_u2_r (by omega), vm_u2_r (by omega), vm_u2_r (by omega), vm_kM_n hn]
      · intro j hj
        rw [vm_u2_r (by omega), vm_u2_r (by omega), vm_u2_r (by omega), vm_u2_r (by omega), vm_kM_top hn hj, o2 52 j (by omega) (by omega) (by omega) (by omega)]
      · intro i j hi hj
        rw [vm_u2_r (by omega), vm_u2_r (by omega), vm_u2_r (by omega), vm_u2_r (by omega), vm_kM_old hn hi hj, o2 54 _ (by omega) (by omega) (by omega) (by omega)]
      · intro r j a c d
        rw [o3 r j (by omega) c, vm_kp_j a d]
      · rw [o3 36 q (by omega) (by omega), k9.2.2.1]; exact e74
      · rw [o3 37 q (by omega) (by omega), k9.2.2.2.1]; exact e72
      · rw [o3 38 q (by omega) (by omega), k9.2.2.2.2.1]; exact e75
      · rw [o3 39 q (by omega) (by omega), k9.2.2.2.2.2.1]
      · intro x hx
        rw [o3 40 q (by omega) (by omega), k9.2.2.2.2.2.2]
        show w x = (if x = b then (if x = f 5 then (if x = f 5 then w x + nI pr else if x = b then w x - nI pr else w x) - nI pr else (if x = f 5 then w x + nI pr else if x = b then w x - nI pr else w x)) + nI pr else if x = f 5 then (if x = f 5 then w x + nI pr else if x = b then w x - nI pr else w x) - nI pr else (if x = f 5 then w x + nI pr else if x = b then w x - nI pr else w x))
        by_cases hxb : x = b
        · have hx5 : ¬ x = f 5 := by omega
          rw [if_pos hxb, if_neg hx5, if_neg hx5, if_pos hxb, Int32.sub_add_cancel]
        · rw [if_neg hxb]
          by_cases hx5 : x = f 5
          · rw [if_pos hx5, if_pos hx5, Int32.add_sub_cancel]
          · rw [if_neg hx5, if_neg hx5, if_neg hxb]
  · have hb : E_M_pass X x M (fun v' M2 => cBAD = v' ∧ vR M2) := by
      apply v_M_pass
      exact s_M_isTrader hT e52' (fun m hm e => absurd e (hno m hm)) (fun _ => ⟨fun _ => ⟨rfl, hR.thrown⟩, fun q => absurd rfl q⟩)
    rcases hx with hx | hx
    · exact ⟨fun _ => hb, fun q => absurd hx q⟩
    · exact ⟨fun _ => hb, fun _ => ⟨fun q => absurd q hx, fun _ => hb⟩⟩
end VH
