section VH
variable {X : Nat × (Nat → Int32)} {M : vm_M}
/-- the reference's loop is one move -/
theorem s_copy143 {P : Int32 → vm_M → Prop} {a b i j n na nb : Nat} (ha : a < 8) (hb : b < 8) (hna : na ≤ 40) (hnb : nb ≤ 40) (hi : i + n ≤ na) (hj : j + n ≤ nb) {u : Nat} (hu1 : u ≤ 1) (hu : u = 1 ↔ ¬ i < j)
    (h : ∀ M', (∀ r q, r ≠ 51 → M' r q = M r q) → (∀ q, M' 51 q = if 40 * b + j ≤ q ∧ q < 40 * b + j + n then M 51 (40 * a + i + (q - (40 * b + j))) else M 51 q) → P (nI n) M') (w8 : Value) : C_M_copy_143 X (nI a) (nI i) (nI b) (nI j) (nI n) (nI u) (nI 0) w8 M P := by
  by_cases hij : i < j
  · have hu0 : u = 0 := by omega
    subst hu0
    have loop : ∀ (l k : Nat) (w8 : Value) (M' : vm_M), k + l = n → (∀ r q, r ≠ 51 → M' r q = M r q) → (∀ q, M' 51 q = if 40 * b + j + (n - k) ≤ q ∧ q < 40 * b + j + n then M 51 (40 * a + i + (q - (40 * b + j))) else M 51 q) → C_M_copy_143 X (nI a) (nI i) (nI b) (nI j) (nI n) (nI 0) (nI k) w8 M' P := by
      intro l
      induction l with
      | zero =>
        intro k w8 M' hk hM' hI
        have hk : k = n := by omega
        subst hk
        apply v_M_copy_143
        rw [nI_ltI (by omega) (by omega)]
        refine ⟨fun q => absurd q (by omega), fun _ => h M' hM' (fun q => ?_)⟩
        rw [hI q, Nat.sub_self, Nat.add_zero]
      | succ l ih =>
        intro k w8 M' hk hM' hI
        apply v_M_copy_143
        rw [nI_ltI (by omega) (by omega), show nI n - nI 1 - nI k = nI (n - 1 - k) by rw [pk_sub (by omega), pk_sub (by omega)]]
        simp (disch := omega) only [vm_mul, vm_add, vm_ex]
        refine ⟨fun _ => ⟨fun _ => ?_, fun q => absurd rfl q⟩, fun q => absurd (by omega) q⟩
        refine ih (k + 1) _ _ (by omega) (fun r q hr => ?_) (fun q => ?_)
        · rw [vm_u2_r hr]; exact hM' r q hr
        · by_cases hq : q = 40 * b + j + (n - 1 - k)
          · subst hq
            rw [vm_u2_eq, if_pos (by omega), hI, if_neg (by omega)]
            rw [show 40 * b + j + (n - 1 - k) - (40 * b + j) = n - 1 - k by omega]
          · rw [vm_u2_ne (by omega), hI q]
            by_cases hc : 40 * b + j + (n - k) ≤ q ∧ q < 40 * b + j + n
            · rw [if_pos hc, if_pos (by omega)]
            · rw [if_neg hc, if_neg (by omega)]
    exact loop n 0 w8 M (by omega) (fun _ _ _ => rfl) (fun q => by rw [if_neg (by omega)])
  · have hu0 : u = 1 := hu.mpr hij
    subst hu0
    have loop : ∀ (l k : Nat) (w8 : Value) (M' : vm_M), k + l = n → (∀ r q, r ≠ 51 → M' r q = M r q) → (∀ q, M' 51 q = if 40 * b + j ≤ q ∧ q < 40 * b + j + k then M 51 (40 * a + i + (q - (40 * b + j))) else M 51 q) → C_M_copy_143 X (nI a) (nI i) (nI b) (nI j) (nI n) (nI 1) (nI k) w8 M' P := by
      intro l
      induction l with
      | zero =>
        intro k w8 M' hk hM' hI
        have hk : k = n := by omega
        subst hk
        apply v_M_copy_143
        rw [nI_ltI (by omega) (by omega)]
        exact ⟨fun q => absurd q (by omega), fun _ => h M' hM' hI⟩
      | succ l ih =>
        intro k w8 M' hk hM' hI
        apply v_M_copy_143
        rw [nI_ltI (by omega) (by omega)]
        simp (disch := omega) only [vm_mul, vm_add, vm_ex]
        refine ⟨fun _ => ⟨fun q => absurd q (by decide), fun _ => ?_⟩, fun q => absurd (by omega) q⟩
        refine ih (k + 1) _ _ (by omega) (fun r q hr => ?_) (fun q => ?_)
        · rw [vm_u2_r hr]; exact hM' r q hr
        · by_cases hq : q = 40 * b + j + k
          · subst hq
            rw [vm_u2_eq, if_pos (by omega), hI, if_neg (by omega)]
            rw [show 40 * b + j + k - (40 * b + j) = k by omega]
          · rw [vm_u2_ne (by omega), hI q]
            by_cases hc : 40 * b + j ≤ q ∧ q < 40 * b + j + k
            · rw [if_pos hc, if_pos (by omega)]
            · rw [if_neg hc, if_neg (by omega)]
    exact loop n 0 w8 M (by omega) (fun _ _ _ => rfl) (fun q => by rw [if_neg (by omega)])
theorem op_copy (hR : vR M) (x i y j n : Int32) : E_B_copy X x i y j n M (fun v1 M1 => E_M_copy X x i y j n M1 (fun v' M2 => v1 = v' ∧ vR M2)) := by
  apply v_B_copy
  rcases vm_one x (T := 8) (by omega) with ⟨a, ha, rfl⟩ | ⟨hno, hx⟩
  · rcases vm_one y (T := 8) (by omega) with ⟨b, hb, rfl⟩ | ⟨hno, hy⟩
    · obtain ⟨s, m, b1, b2, b3, b4, b5, b6⟩ := hR.1.1 a ha
      obtain ⟨t, k, c1, c2, c3, c4, c5, c6⟩ := hR.1.1 b hb
      simp (disch := omega) only [vm_nneg, nI_ltI, vm_fa, vm_tr, not_true, not_false_eq_true, true_and, and_true]
      refine ⟨fun _ => ⟨fun _ => ?_, fun q => absurd hb q⟩, fun q => absurd ha q⟩
      have vls : ∀ s, s ≤ 3 → (vr_l s < 0 ↔ s = 0) := by
        intro s hs
        unfold vr_l
        by_cases q : s = 0
        · rw [if_pos q]; exact ⟨fun _ => q, fun _ => by decide⟩
        · rw [if_neg q]; exact ⟨fun h => absurd h (nI_pos (by omega)), fun h => absurd h q⟩
      have vle : ∀ s t, s ≤ 3 → t ≤ 3 → s ≠ 0 → t ≠ 0 → (vr_l s = vr_l t ↔ s = t) := by
        intro s t hs ht hs0 ht0
        unfold vr_l
        rw [if_neg hs0, if_neg ht0, nI_eq (by omega) (by omega)]
        omega
      -- what the reference does with a finding, or with none
      have ref : ∀ (z : Nat) (M1 : vm_M) (v : Int32), M1 0 9 = nI z → (∀ r q, ¬ (r = 0 ∧ q = 9) → (z = 0 → r ≠ 4) → M1 r q = M r q) → (z = 0 → v = n ∧ s ≠ 0 ∧ t ≠ 0 ∧ s = t ∧ vm_hold i n m ∧ vm_hold j n k ∧ ∀ i' j' n', i = nI i' → j = nI j' → n = nI n' → i' < 2 ^ 31 → j' < 2 ^ 31 → n' < 2 ^ 31 → ∀ q, M1 4 q = if b * 40 + j' ≤ q ∧ q < b * 40 + j' + n' then M 4 (a * 40 + i' + (q - (b * 40 + j'))) else M 4 q) → (z ≠ 0 → v = Int32.ofInt (-1000010) - nI z ∧ ((s = 0 ∨ t = 0) ∧ z = 1 ∨ s ≠ 0 ∧ t ≠ 0 ∧ s ≠ t ∧ z = 5 ∨ s ≠ 0 ∧ t ≠ 0 ∧ s = t ∧ z = 2 ∧ ¬ (vm_hold i n m ∧ vm_hold j n k))) → E_M_copy X (nI a) i (nI b) j n M1 (fun v' M2 => v = v' ∧ vR M2) := by
        intro z M1 v h09 o g0 g1
        apply v_M_copy
        refine s_M_isRow (fun _ hk e => ⟨fun q => absurd q (by decide), fun _ => ?_⟩) (fun h => absurd rfl (h a ha))
        refine s_M_isRow (fun _ hk e => ⟨fun q => absurd q (by decide), fun _ => ?_⟩) (fun h => absurd rfl (h b hb))
        generalize hMx : vm_u2 (vm_u2 M1 48 0 (nI 0)) 48 1 (nI 0) = Mx
        have ox : ∀ r j, ¬ (r = 48 ∧ (j = 0 ∨ j = 1)) → Mx r j = M1 r j := fun r j h => by rw [← hMx, vm_u2_ne (by omega), vm_u2_ne (by omega)]
        have e49a : Mx 49 a = vr_l s := by rw [ox 49 a (by omega), o 49 a (by omega) (by omega), b4]
        have e49b : Mx 49 b = vr_l t := by rw [ox 49 b (by omega), o 49 b (by omega) (by omega), c4]
        have e50a : Mx 50 a = nI m := by rw [ox 50 a (by omega), o 50 a (by omega) (by omega), b6]
        have e50b : Mx 50 b = nI k := by rw [ox 50 b (by omega), o 50 b (by omega) (by omega), c6]
        have hv : z ≠ 0 → vR (vm_u2 Mx 48 1 (nI z)) := by
          intro hz
          refine hR.found (v := nI z) ?_ vm_u2_eq (fun r j hd h1 h2 => ?_)
          · rw [vm_u2_ne (by omega), ox 0 9 (by omega), h09]
          · have := vm_dead_ne hd
            rw [vm_u2_ne (by omega), ox r j (by omega), o r j h1 (fun h => absurd h hz)]
        simp (disch := omega) only [vm_ex]
        rw [e49a, e49b, e50a, e50b, vls s b1, vls t c1, vm_lt0, vm_lt0, vm_lt0, vm_cmp, vm_cmp, vm_i64_add, vm_i64_add, vm_i64, vm_i64, nI_toInt (by omega), nI_toInt (by omega)]
        refine ⟨fun hs0 => ?_, fun hs0 => ⟨fun ht0 => ?_, fun ht0 => ?_⟩⟩
        · have hz : z ≠ 0 := fun q => (g0 q).2.1 hs0
          obtain ⟨rfl, hc⟩ := g1 hz
          have : z = 1 := by omega
          subst this
          exact ⟨rfl, hv hz⟩
        · have hz : z ≠ 0 := fun q => (g0 q).2.2.1 ht0
          obtain ⟨rfl, hc⟩ := g1 hz
          have : z = 1 := by omega
          subst this
          exact ⟨rfl, hv hz⟩
        · rw [vle s t b1 c1 hs0 ht0]
          refine ⟨fun hst => ?_, fun hst => ?_⟩
          · by_cases hz : z = 0
            · obtain ⟨rfl, _, _, _, q1, q2, q3⟩ := g0 hz
              have u1 := q1.1
              have u2 := q1.2.1
              have u3 := q1.2.2
              have u4 := q2.1
              have u5 := q2.2.2
              obtain ⟨i', hi', rfl, hii⟩ := vm_toNat u1
              obtain ⟨j', hj', rfl, hjj⟩ := vm_toNat u4
              obtain ⟨n', hn', rfl, hnn⟩ := vm_toNat u2
              have q4 := q3 i' j' n' rfl rfl rfl hi' hj' hn'
              have fin : ∀ M', (∀ r q, r ≠ 51 → M' r q = Mx r q) → (∀ q, M' 51 q = if 40 * b + j' ≤ q ∧ q < 40 * b + j' + n' then Mx 51 (40 * a + i' + (q - (40 * b + j'))) else Mx 51 q) → nI n' = nI n' ∧ vR M' := by
                intro M' a1 a2
                refine ⟨rfl, hR.rows ⟨fun r hr => ?_, fun q hq => ?_⟩ ?_ (fun r j hd h1 h2 h3 h4 => ?_)⟩
                · obtain ⟨s', k', d1, d2, d3, d4, d5, d6⟩ := hR.1.1 r hr
                  refine ⟨s', k', d1, d2, ?_, ?_, ?_, ?_⟩
                  · rw [a1 2 r (by omega), ox 2 r (by omega), o 2 r (by omega) (by omega)]; exact d3
                  · rw [a1 49 r (by omega), ox 49 r (by omega), o 49 r (by omega) (by omega)]; exact d4
                  · rw [a1 3 r (by omega), ox 3 r (by omega), o 3 r (by omega) (by omega)]; exact d5
                  · rw [a1 50 r (by omega), ox 50 r (by omega), o 50 r (by omega) (by omega)]; exact d6
                · rw [a2 q, a1 4 q (by omega), ox 4 q (by omega), q4 q, show b * 40 = 40 * b by omega, show a * 40 = 40 * a by omega]
                  by_cases hc : 40 * b + j' ≤ q ∧ q < 40 * b + j' + n'
                  · rw [if_pos hc, if_pos hc, ox 51 _ (by omega), o 51 _ (by omega) (by omega)]
                    exact hR.1.2 _ (by omega)
                  · rw [if_neg hc, if_neg hc, ox 51 _ (by omega), o 51 _ (by omega) (by omega)]
                    exact hR.1.2 _ (by omega)
                · rw [a1 48 1 (by omega), a1 0 9 (by omega), ox 0 9 (by omega), h09, ← hMx, vm_u2_eq, hz]
                · have := vm_dead_ne hd
                  rw [a1 r j (by omega), ox r j (by omega), o r j (by omega) (by omega)]
              refine ⟨fun q => absurd q (by omega), fun _ => ⟨fun q => absurd q (by omega), fun _ => ⟨fun q => absurd q (by omega), fun _ => ⟨fun q => absurd q (by omega), fun _ => ⟨fun q => absurd q (by omega), fun _ => ?_⟩⟩⟩⟩⟩
              rw [nI_ltI (by omega) (by omega)]
              refine ⟨fun hlt => ?_, fun hlt => ?_⟩
              · exact s_copy143 ha hb (na := m) (nb := k) b2 c2 (by omega) (by omega) (u := 0) (by omega) (by omega) fin _
              · exact s_copy143 ha hb (na := m) (nb := k) b2 c2 (by omega) (by omega) (u := 1) (by omega) (by omega) fin _
            · obtain ⟨rfl, hc⟩ := g1 hz
              have hz2 : z = 2 ∧ ¬ (vm_hold i n m ∧ vm_hold j n k) := by
                rcases hc with hc | hc | hc
                · omega
                · exact absurd hst hc.2.2.1
                · exact hc.2.2.2
              obtain ⟨rfl, hnh⟩ := hz2
              have ok := (⟨rfl, hv hz⟩ : Int32.ofInt (-1000010) - nI 2 = Int32.ofInt (-1000010) - nI 2 ∧ vR (vm_u2 Mx 48 1 (nI 2)))
              refine ⟨fun _ => ok, fun q1 => ⟨fun _ => ok, fun q2 => ⟨fun _ => ok, fun q3 => ⟨fun _ => ok, fun q4 => ⟨fun _ => ok, fun q5 => ?_⟩⟩⟩⟩⟩
              exfalso
              exact hnh ⟨⟨by omega, by omega, by omega⟩, ⟨by omega, by omega, by omega⟩⟩
          · have hz : z ≠ 0 := fun q => hst (g0 q).2.2.2.1
            obtain ⟨rfl, hc⟩ := g1 hz
            have : z = 5 := by
              rcases hc with hc | hc | hc
              · omega
              · exact hc.2.2.2
              · exact absurd hc.2.2.1 hst
            subst this
            exact ⟨rfl, hv hz⟩
      apply v_Rows_lapseOfTwo
      simp (disch := omega) only [vm_ex]
      rw [b3, c3, vm_n0 (n := s) (by omega), vm_n0 (n := t) (by omega), nI_eq (a := s) (b := t) (by omega) (by omega)]
      have bad : ∀ z, z ≠ 0 → z < 10 → ((s = 0 ∨ t = 0) ∧ z = 1 ∨ s ≠ 0 ∧ t ≠ 0 ∧ s ≠ t ∧ z = 5 ∨ s ≠ 0 ∧ t ≠ 0 ∧ s = t ∧ z = 2 ∧ ¬ (vm_hold i n m ∧ vm_hold j n k)) → E_M_copy X (nI a) i (nI b) j n (vm_u2 M 0 9 (nI z)) (fun v' M2 => Int32.ofInt (-1000010) - nI z = v' ∧ vR M2) := fun z hz hz2 hc => ref z _ _ vm_u2_eq (fun r q h1 _ => vm_u2_ne h1) (fun q => absurd q hz) (fun _ => ⟨rfl, hc⟩)
      refine ⟨fun h => ⟨fun q => absurd q (by decide), fun _ => bad 1 (by omega) (by omega) (Or.inl ⟨Or.inl h, rfl⟩)⟩, fun hs => ⟨fun h => ⟨fun q => absurd q (by decide), fun _ => bad 1 (by omega) (by omega) (Or.inl ⟨Or.inr h, rfl⟩)⟩, fun ht => ⟨fun hst => ?_, fun hst => ⟨fun q => absurd q (by decide), fun _ => bad 5 (by omega) (by omega) (Or.inr (Or.inl ⟨hs, ht, hst, rfl⟩))⟩⟩⟩⟩
      refine s_holds ha b2 b5 (fun q1 => ⟨fun q => absurd q (by decide), fun _ => s_holds hb c2 c5 (fun q2 => ⟨fun q => absurd q (by decide), fun _ => ⟨fun _ => ?_, fun q => absurd rfl q⟩⟩) (fun q2 => ⟨fun _ => ⟨fun q => absurd q (by decide), fun _ => bad 2 (by omega) (by omega) (Or.inr (Or.inr ⟨hs, ht, hst, rfl, fun c => q2 c.2⟩))⟩, fun q => absurd rfl q⟩)⟩) (fun q1 => ⟨fun _ => ⟨fun q => absurd q (by decide), fun _ => bad 2 (by omega) (by omega) (Or.inr (Or.inr ⟨hs, ht, hst, rfl, fun c => q1 c.1⟩))⟩, fun q => absurd rfl q⟩)
      have u1 := q1.1
      have u2 := q1.2.1
      have u3 := q1.2.2
      have u4 := q2.1
      have u5 := q2.2.2
      obtain ⟨i', hi', rfl, hii⟩ := vm_toNat u1
      obtain ⟨j', hj', rfl, hjj⟩ := vm_toNat u4
      obtain ⟨n', hn', rfl, hnn⟩ := vm_toNat u2
      apply v_Rows_move
      refine ⟨a * 40 + i', b * 40 + j', n', by rw [vm_mul, vm_add], by rw [vm_mul, vm_add], rfl, by omega, by omega, ?_⟩
      refine ref 0 _ _ ?_ (fun r q h1 h2 => ?_) (fun _ => ⟨rfl, hs, ht, hst, q1, q2, fun i1 j1 n1 g1 g2 g3 g4 g5 g6 q => ?_⟩) (fun q => absurd rfl q)
      · rw [vm_cp_ne (by omega), vm_u2_eq]
      · rw [vm_cp_ne (h2 rfl), vm_u2_ne h1]
      · rw [nI_eq (by omega) (by omega)] at g1 g2 g3
        subst g1 g2 g3
        unfold vm_cp va_cpy
        rw [if_pos rfl]
        by_cases hc : b * 40 + j' ≤ q ∧ q < b * 40 + j' + n'
        · rw [if_pos hc]
          rw [if_pos hc, vm_u2_ne (by omega)]
        · rw [if_neg hc]
          rw [if_neg hc, vm_u2_ne (by omega)]
    · have hbd : E_M_copy X (nI a) i y j n M (fun v' M2 => cBAD = v' ∧ vR M2) := by
        apply v_M_copy
        refine s_M_isRow (fun k hk e => ⟨fun q => absurd q (by decide), fun _ => ?_⟩) (fun h => absurd rfl (h a ha))
        exact s_M_isRow (fun k hk e => absurd e (hno k hk)) (fun _ => ⟨fun _ => ⟨rfl, hR.thrown⟩, fun q => absurd rfl q⟩)
      simp (disch := omega) only [vm_nneg, nI_ltI, vm_fa, vm_tr, not_true, not_false_eq_true, true_and, and_true]
      exact ⟨fun _ => vm_row8 hy hbd, fun q => absurd ha q⟩
  · have hb : E_M_copy X x i y j n M (fun v' M2 => cBAD = v' ∧ vR M2) := by
      apply v_M_copy
      exact s_M_isRow (fun k hk e => absurd e (hno k hk)) (fun _ => ⟨fun _ => ⟨rfl, hR.thrown⟩, fun q => absurd rfl q⟩)
    exact vm_row8 hx hb
end VH
