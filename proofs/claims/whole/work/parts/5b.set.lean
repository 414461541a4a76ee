theorem vm_cmp (a b : Int64) : 0 < lg_cmp a b ↔ b.toInt < a.toInt := by
  unfold lg_cmp
  have e1 : a > b ↔ b.toInt < a.toInt := Int64.lt_iff_toInt_lt
  have e2 : a = b ↔ a.toInt = b.toInt := Int64.toInt_inj.symm
  by_cases g1 : a > b
  · rw [if_pos g1]; exact ⟨fun _ => e1.mp g1, fun _ => by decide⟩
  · rw [if_neg g1]
    have t1 : ¬ b.toInt < a.toInt := fun q => g1 (e1.mpr q)
    by_cases g2 : a = b
    · rw [if_pos g2]; exact ⟨fun q => absurd q (by decide), fun q => absurd q t1⟩
    · rw [if_neg g2]; exact ⟨fun q => absurd q (by decide), fun q => absurd q t1⟩
theorem vm_i64_add (a b : Int32) : (a.toInt64 + b.toInt64).toInt = a.toInt + b.toInt := by
  rw [Int64.toInt_add, vm_i64, vm_i64]
  have h1 := Int32.le_toInt a
  have h2 := Int32.toInt_lt a
  have h3 := Int32.le_toInt b
  have h4 := Int32.toInt_lt b
  exact Int.bmod_eq_of_le (by omega) (by omega)
theorem vm_lt0 (a : Int32) : a < 0 ↔ a.toInt < 0 := Int32.lt_iff_toInt_lt
theorem vm_toNat {a : Int32} (h : 0 ≤ a.toInt) : ∃ n, n < 2 ^ 31 ∧ a = nI n ∧ (n : Int) = a.toInt := by
  have h2 := Int32.toInt_lt a
  refine ⟨a.toInt.toNat, by omega, Int32.toInt_inj.mp ?_, by omega⟩
  rw [nI_toInt (by omega)]
  omega
/-- n items from i on, in a row of m -/
def vm_hold (i n : Int32) (m : Nat) : Prop := 0 ≤ i.toInt ∧ 0 ≤ n.toInt ∧ i.toInt + n.toInt ≤ m
section VH
variable {X : Nat × (Nat → Int32)} {M : vm_M}
theorem s_holds {P : Int32 → vm_M → Prop} {a m : Nat} {i n : Int32} (ha : a < 8) (hm : m ≤ 40) (e : M 3 a = nI m) (h1 : vm_hold i n m → P (nI 1) M) (h0 : ¬ vm_hold i n m → P (nI 0) M) : E_Rows_holds X (nI a) i n M P := by
  apply v_Rows_holds
  rw [vm_ex ha (by omega), e, vm_lt0, vm_lt0, Int32.lt_iff_toInt_lt]
  refine ⟨fun q => h0 (fun c => ?_), fun q => ⟨fun q2 => h0 (fun c => ?_), fun q2 => ?_⟩⟩
  · have := c.1; omega
  · have := c.2.1; omega
  · have h3 := Int32.toInt_lt n
    have es : (nI m - n).toInt = (m : Int) - n.toInt := by
      rw [Int32.toInt_sub, nI_toInt (by omega)]
      exact Int.bmod_eq_of_le (by omega) (by omega)
    rw [es]
    refine ⟨fun q3 => h0 (fun c => ?_), fun q3 => h1 ⟨by omega, by omega, by omega⟩⟩
    have := c.2.2; omega
theorem s_lapse {P : Int32 → vm_M → Prop} {a m s : Nat} {i n : Int32} (ha : a < 8) (hm : m ≤ 40) (hs : s ≤ 3) (e2 : M 2 a = nI s) (e3 : M 3 a = nI m) (h1 : s = 0 → P (nI 1) M) (h2 : s ≠ 0 → ¬ vm_hold i n m → P (nI 2) M) (h0 : s ≠ 0 → vm_hold i n m → P (nI 0) M) : E_Rows_lapse X (nI a) i n M P := by
  apply v_Rows_lapse
  rw [vm_ex ha (by omega), e2, vm_n0 (by omega)]
  refine ⟨h1, fun hs0 => s_holds ha hm e3 (fun c => ⟨fun q => absurd q (by decide), fun _ => h0 hs0 c⟩) (fun c => ⟨fun _ => h2 hs0 c, fun q => absurd rfl q⟩)⟩
theorem s_M_rngI {P : Int32 → vm_M → Prop} {x : Int32} {T : Nat} (hT : T ≤ 1000) (h1 : ∀ n, n < T → x = nI n → P (nI 1) M) (h0 : (∀ n, n < T → x ≠ nI n) → P (nI 0) M) : E_M_in X x.toInt64 (Int64.ofNat 0) ((nI T - nI 1).toInt64) M P := by
  refine s_M_rng (T := T) (by decide) ?_ (by omega) h1 h0
  rw [vm_i64]
  match T, hT with
  | 0, _ => decide
  | T + 1, hT => rw [show nI (T + 1) - nI 1 = nI T from pk_sub (by omega), nI_toInt (by omega)]; omega
theorem op_set (hR : vR M) (x i v : Int32) : E_B_set X x i v M (fun v1 M1 => E_M_set X x i v M1 (fun v' M2 => v1 = v' ∧ vR M2)) := by
  apply v_B_set
  rcases vm_one x (T := 8) (by omega) with ⟨a, ha, rfl⟩ | ⟨hno, hx⟩
  · obtain ⟨s, m, b1, b2, b3, b4, b5, b6⟩ := hR.1.1 a ha
    simp (disch := omega) only [vm_nneg, nI_ltI, vm_fa, vm_tr, not_true, not_false_eq_true, true_and, and_true]
    refine ⟨fun _ => ?_, fun q => absurd ha q⟩
    -- what the reference does, with a finding
    have bad : ∀ z, z ≠ 0 → z < 10 → (s = 0 ∧ z = 1 ∨ s ≠ 0 ∧ z = 2 ∧ ∀ n, n < m → i ≠ nI n) → E_M_set X (nI a) i v (vm_u2 M 0 9 (nI z)) (fun v' M2 => Int32.ofInt (-1000010) - nI z = v' ∧ vR M2) := by
      intro z hz hz2 hc
      apply v_M_set
      refine s_M_isRow (fun k hk e => ⟨fun q => absurd q (by decide), fun _ => ?_⟩) (fun h => absurd rfl (h a ha))
      have e49 : (vm_u2 (vm_u2 (vm_u2 M 0 9 (nI z)) 48 0 (nI 0)) 48 1 (nI 0)) 49 a = vr_l s := by
        rw [vm_u2_ne (by omega), vm_u2_ne (by omega), vm_u2_ne (by omega), b4]
      have e50 : (vm_u2 (vm_u2 (vm_u2 M 0 9 (nI z)) 48 0 (nI 0)) 48 1 (nI 0)) 50 a = nI m := by
        rw [vm_u2_ne (by omega), vm_u2_ne (by omega), vm_u2_ne (by omega), b6]
      have hv : ∀ y, vR (vm_u2 (vm_u2 (vm_u2 (vm_u2 M 0 9 (nI z)) 48 0 (nI 0)) 48 1 y) 48 1 (nI z)) := by
        intro y
        refine hR.found (v := nI z) ?_ vm_u2_eq (fun r j hd h1 h2 => ?_)
        · rw [vm_u2_ne (by omega), vm_u2_ne (by omega), vm_u2_ne (by omega), vm_u2_eq]
        · have := vm_dead_ne hd
          rw [vm_u2_ne (by omega), vm_u2_ne (by omega), vm_u2_ne (by omega), vm_u2_ne h1]
      rw [vm_ex ha (by omega), vm_ex ha (by omega), e49, e50]
      rcases hc with ⟨hs, rfl⟩ | ⟨hs, rfl, hi⟩
      · have : vr_l s < 0 := by rw [hs]; decide
        exact ⟨fun _ => ⟨rfl, hv _⟩, fun q => absurd this q⟩
      · have hl : vr_l s = nI (s - 1) := if_neg hs
        rw [hl]
        refine ⟨fun q => absurd q (nI_pos (by omega)), fun _ => ?_⟩
        exact s_M_rngI (by omega) (fun n hn e => absurd e (hi n hn)) (fun _ => ⟨fun _ => ⟨rfl, hv _⟩, fun q => absurd rfl q⟩)
    have sat : ∀ {n : Nat}, i = nI n → n < 2 ^ 31 → i.toInt = n := fun e hn => by rw [e, nI_toInt (by omega)]
    have e1 : (nI 1).toInt = 1 := nI_toInt (by omega)
    refine s_lapse ha (by omega) b1 b3 b5 (fun hs => ?_) (fun hs c => ?_) (fun hs c => ?_)
    · exact ⟨fun q => absurd q (by decide), fun _ => bad 1 (by omega) (by omega) (Or.inl ⟨hs, rfl⟩)⟩
    · refine ⟨fun q => absurd q (by decide), fun _ => bad 2 (by omega) (by omega) (Or.inr ⟨hs, rfl, fun n hn e => c ?_⟩)⟩
      have := sat e (by omega)
      unfold vm_hold
      omega
    · refine ⟨fun _ => ?_, fun q => absurd rfl q⟩
      obtain ⟨n, hn, rfl, hni⟩ := vm_toNat c.1
      have hnm : n < m := by have := c.2.2; omega
      have fin : ∀ kv M1, (∀ r j, ¬ (r = 0 ∧ j = 9) → ¬ (r = 4 ∧ j = a * 40 + n) → M1 r j = M r j) → M1 0 9 = nI 0 → M1 4 (a * 40 + n) = kv → (s = 1 → kv = v.toInt8.toInt32) → (s = 2 → kv = v.toInt16.toInt32) → (s = 3 → kv = v) → E_M_set X (nI a) (nI n) v M1 (fun v' M2 => kv = v' ∧ vR M2) := by
        intro kv M1 o h09 h4 k1 k2 k3
        apply v_M_set
        refine s_M_isRow (fun k hk e => ⟨fun q => absurd q (by decide), fun _ => ?_⟩) (fun h => absurd rfl (h a ha))
        generalize hMx : vm_u2 (vm_u2 M1 48 0 (nI 0)) 48 1 (nI 0) = Mx
        have ox : ∀ r j, ¬ (r = 48 ∧ (j = 0 ∨ j = 1)) → Mx r j = M1 r j := fun r j h => by rw [← hMx, vm_u2_ne (by omega), vm_u2_ne (by omega)]
        have e49 : Mx 49 a = nI (s - 1) := by rw [ox 49 a (by omega), o 49 a (by omega) (by omega), b4]; exact if_neg hs
        have e50 : Mx 50 a = nI m := by rw [ox 50 a (by omega), o 50 a (by omega) (by omega), b6]
        have hv : vR (vm_u2 Mx 51 (40 * a + n) kv) := by
          refine hR.rows ⟨fun r hr => ?_, fun q hq => ?_⟩ ?_ (fun r j hd h1 h2 h3 h4 => ?_)
          · obtain ⟨s', k, c1, c2, c3, c4, c5, c6⟩ := hR.1.1 r hr
            refine ⟨s', k, c1, c2, ?_, ?_, ?_, ?_⟩
            · rw [vm_u2_ne (by omega), ox 2 r (by omega), o 2 r (by omega) (by omega)]; exact c3
            · rw [vm_u2_ne (by omega), ox 49 r (by omega), o 49 r (by omega) (by omega)]; exact c4
            · rw [vm_u2_ne (by omega), ox 3 r (by omega), o 3 r (by omega) (by omega)]; exact c5
            · rw [vm_u2_ne (by omega), ox 50 r (by omega), o 50 r (by omega) (by omega)]; exact c6
          · by_cases hqn : q = 40 * a + n
            · subst hqn
              rw [vm_u2_eq, vm_u2_ne (by omega), ox 4 _ (by omega), show 40 * a + n = a * 40 + n by omega, h4]
            · rw [vm_u2_ne (by omega), vm_u2_ne (by omega), ox 4 q (by omega), ox 51 q (by omega), o 51 q (by omega) (by omega), o 4 q (by omega) (by omega)]
              exact hR.1.2 q hq
          · rw [vm_u2_ne (by omega), vm_u2_ne (by omega), ox 0 9 (by omega), h09, ← hMx, vm_u2_eq]
          · have := vm_dead_ne hd
            rw [vm_u2_ne (by omega), ox r j (by omega), o r j (by omega) (by omega)]
        simp (disch := omega) only [vm_ex]
        rw [e49, e50]
        refine ⟨fun q => absurd q (nI_pos (by omega)), fun _ => ?_⟩
        refine s_M_rngI (by omega) (fun k hk e => ⟨fun q => absurd q (by decide), fun _ => ?_⟩) (fun h => absurd rfl (h n hnm))
        rw [e49]
        simp (disch := omega) only [vm_mul, vm_add, vm_ex, vm_n0, nI_eq, vm_u2_eq]
        refine ⟨fun q => ?_, fun q => ⟨fun q2 => ?_, fun q2 => ?_⟩⟩
        · rw [← k1 (by omega)]; exact ⟨rfl, hv⟩
        · rw [← k2 (by omega)]; exact ⟨rfl, hv⟩
        · rw [← k3 (by omega)]; exact ⟨rfl, hv⟩
      apply v_Rows_put
      have e2 : (vm_u2 M 0 9 (nI 0)) 2 a = nI s := by rw [vm_u2_ne (by omega)]; exact b3
      simp (disch := omega) only [vm_mul, vm_add, vm_ex]
      rw [e2]
      simp (disch := omega) only [nI_eq]
      have oo : ∀ y r j, ¬ (r = 0 ∧ j = 9) → ¬ (r = 4 ∧ j = a * 40 + n) → (vm_u2 (vm_u2 M 0 9 (nI 0)) 4 (a * 40 + n) y) r j = M r j := fun y r j h1 h2 => by rw [vm_u2_ne h2, vm_u2_ne h1]
      refine ⟨fun q => ?_, fun q => ⟨fun q2 => ?_, fun q2 => ?_⟩⟩
      · exact fin _ _ (oo _) (by rw [vm_u2_ne (by omega), vm_u2_eq]) vm_u2_eq (fun _ => rfl) (fun h => absurd h (by omega)) (fun h => absurd h (by omega))
      · exact fin _ _ (oo _) (by rw [vm_u2_ne (by omega), vm_u2_eq]) vm_u2_eq (fun h => absurd h (by omega)) (fun _ => rfl) (fun h => absurd h (by omega))
      · exact fin _ _ (oo _) (by rw [vm_u2_ne (by omega), vm_u2_eq]) vm_u2_eq (fun h => absurd h (by omega)) (fun h => absurd h (by omega)) (fun _ => rfl)
  · have hb : E_M_set X x i v M (fun v' M2 => cBAD = v' ∧ vR M2) := by
      apply v_M_set
      exact s_M_isRow (fun k hk e => absurd e (hno k hk)) (fun _ => ⟨fun _ => ⟨rfl, hR.thrown⟩, fun q => absurd rfl q⟩)
    exact vm_row8 hx hb
end VH
