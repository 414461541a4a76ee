/-! feed -/
def fd_v (x : Int64) (k : Nat) : Nat := (x.toBitVec.sshiftRight (8 * k) &&& 255#64).toNat
theorem fd_lt (x : Int64) (k : Nat) : fd_v x k < 256 := by
  unfold fd_v
  rw [BitVec.toNat_and]
  exact Nat.lt_of_le_of_lt Nat.and_le_right (by decide)
theorem fd_sh {k : Nat} (hk : k < 8) : (((nI 8 * nI k).toInt64 &&& 63).toBitVec.smod (64 : BitVec 64)).toNat = 8 * k ∧ ((nI 8 * nI k).toInt64.toUInt64 &&& Int64.toUInt64 63).toBitVec % (64 : BitVec 64) = BitVec.ofNat 64 (8 * k) := by
  match k, hk with
  | 0, _ => decide
  | 1, _ => decide
  | 2, _ => decide
  | 3, _ => decide
  | 4, _ => decide
  | 5, _ => decide
  | 6, _ => decide
  | 7, _ => decide
theorem fd_M (x : Int64) {k : Nat} (hk : k < 8) : ((x >>> ((nI 8 * nI k).toInt64 &&& 63)) &&& Int64.ofInt 255).toInt32 = nI (fd_v x k) := by
  have hv := fd_lt x k
  apply Int32.eq_iff_toBitVec_eq.mpr
  rw [Int64.toBitVec_toInt32, Int64.toBitVec_and, Int64.toBitVec_shiftRight]
  apply BitVec.eq_of_getLsbD_eq
  intro i hi
  unfold BitVec.sshiftRight'
  rw [(fd_sh hk).1]
  have e255 : (Int64.ofInt 255).toBitVec = 255#64 := by decide
  rw [e255]
  have e2 : (nI (fd_v x k)).toBitVec = BitVec.ofNat 32 (fd_v x k) := rfl
  rw [e2, BitVec.getLsbD_signExtend, BitVec.getLsbD_ofNat]
  unfold fd_v
  rw [if_pos (by omega)]
  rfl
theorem fd_C (x : Int64) {k : Nat} (hk : k < 8) : ((x.toUInt64 >>> ((nI 8 * nI k).toInt64.toUInt64 &&& Int64.toUInt64 63)).toInt64.toInt32).toInt8 = (nI (fd_v x k)).toInt8 := by
  apply Int8.eq_iff_toBitVec_eq.mpr
  rw [Int32.toBitVec_toInt8, Int32.toBitVec_toInt8, Int64.toBitVec_toInt32, UInt64.toBitVec_toInt64, UInt64.toBitVec_shiftRight, (fd_sh hk).2, Int64.toBitVec_toUInt64]
  apply BitVec.eq_of_getLsbD_eq
  intro i hi
  have e2 : (nI (fd_v x k)).toBitVec = BitVec.ofNat 32 (fd_v x k) := rfl
  rw [e2, BitVec.getLsbD_signExtend, BitVec.getLsbD_signExtend, if_pos (by omega), if_pos (by omega), BitVec.getLsbD_signExtend, if_pos (by omega), BitVec.getLsbD_ofNat]
  unfold fd_v
  have e3 : (BitVec.sshiftRight x.toBitVec (8 * k) &&& 255#64).toNat.testBit i = (BitVec.sshiftRight x.toBitVec (8 * k) &&& 255#64).getLsbD i := rfl
  have e4 : ∀ i, i < 8 → (255#64).getLsbD i = true := by decide
  rw [e3, BitVec.getLsbD_and, BitVec.getLsbD_sshiftRight, e4 i hi, if_pos (by omega)]
  rw [BitVec.ushiftRight_eq', BitVec.getLsbD_ushiftRight]
  have e5 : (BitVec.ofNat 64 (8 * k)).toNat = 8 * k := by rw [BitVec.toNat_ofNat]; omega
  rw [e5]
  have e6 : decide (64 ≤ i) = false := decide_eq_false (by omega)
  rw [e6]
  simp
theorem fd_nar (y : Int32) : vp_nar .byte (y.toInt8.toInt32) = y.toInt8.toInt32 := by
  have : (y.toInt8.toInt32).toInt8 = y.toInt8 := by simp
  show ((y.toInt8.toInt32).toInt8).toInt32 = _
  rw [this]
section VH
variable {X : Nat × (Nat → Int32)} {M : vm_M}
theorem s_append20 {P : Int32 → vm_M → Prop} {x : Int64} {n L : Nat} (hn : n ≤ 8) (hL : L + n ≤ 400) {x3 : Int32} (hl : M 5 1 = nI L)
    (h : ∀ M', (∀ r j, r ≠ 6 → ¬ (r = 5 ∧ j = 1) → M' r j = M r j) → M' 5 1 = nI (L + n) → (∀ j, j < L → M' 6 j = M 6 j) → (∀ t, t < n → M' 6 (L + t) = (nI (fd_v x (n - 1 - t))).toInt8.toInt32) → P (nI (L + n)) M') (w2 : Value) : C_Tape_append_20 X x w2 x3 (nI n - nI 1) M P := by
  have loop : ∀ (l k : Nat) (w2 : Value) (M' : vm_M), k + l = n → (∀ r j, r ≠ 6 → ¬ (r = 5 ∧ j = 1) → M' r j = M r j) → M' 5 1 = nI (L + k) → (∀ j, j < L → M' 6 j = M 6 j) → (∀ t, t < k → M' 6 (L + t) = (nI (fd_v x (n - 1 - t))).toInt8.toInt32) → C_Tape_append_20 X x w2 x3 (nI l - nI 1) M' P := by
    intro l
    induction l with
    | zero =>
      intro k w2 M' hk a1 a2 a3 a4
      have hk : k = n := by omega
      subst hk
      apply v_Tape_append_20
      refine ⟨fun _ => ?_, fun q => absurd (by decide) q⟩
      rw [a2]
      exact h M' a1 a2 a3 a4
    | succ l ih =>
      intro k w2 M' hk a1 a2 a3 a4
      apply v_Tape_append_20
      have el : nI (l + 1) - nI 1 = nI l := pk_sub (by omega)
      rw [el, vm_nneg (by omega), a2, vm_ex (by omega) (by omega), fd_nar, fd_C x (k := l) (by omega)]
      refine ⟨fun q => q.elim, fun _ => ?_⟩
      have ed : nI l + Int32.ofInt (-1) = nI l - nI 1 := by
        rw [show Int32.ofInt (-1) = -(nI 1) from rfl, Int32.sub_eq_add_neg]
      rw [ed]
      have e5 : (vm_u2 M' 6 (L + k) (nI (fd_v x l)).toInt8.toInt32) 5 1 = nI (L + k) := by rw [vm_u2_r (by omega)]; exact a2
      rw [e5, vm_add]
      refine ih (k + 1) _ _ (by omega) (fun r j h1 h2 => ?_) ?_ (fun j hj => ?_) (fun t ht => ?_)
      · rw [vm_u2_ne h2, vm_u2_r h1]; exact a1 r j h1 h2
      · rw [vm_u2_eq]; rfl
      · rw [vm_u2_r (by omega), vm_u2_ne (by omega)]; exact a3 j hj
      · rw [vm_u2_r (by omega)]
        by_cases htk : t = k
        · subst htk
          rw [vm_u2_eq, show n - 1 - t = l by omega]
        · rw [vm_u2_ne (by omega)]; exact a4 t (by omega)
  exact loop n 0 w2 M (by omega) (fun _ _ _ _ => rfl) hl (fun _ _ => rfl) (fun t ht => absurd ht (by omega))
theorem s_feed40 {P : Int32 → vm_M → Prop} {x : Int64} {n L : Nat} (hn : n ≤ 8) (hL : L + n ≤ 400) {x3 : Int32} (hl : M 48 10 = nI L)
    (h : ∀ M', (∀ r j, r ≠ 55 → ¬ (r = 48 ∧ j = 10) → M' r j = M r j) → M' 48 10 = nI (L + n) → (∀ j, j < L → M' 55 j = M 55 j) → (∀ t, t < n → M' 55 (L + t) = nI (fd_v x (n - 1 - t))) → P (nI (L + n)) M') (w2 : Value) : C_M_feed_40 X x w2 x3 (nI n - nI 1) M P := by
  have loop : ∀ (l k : Nat) (w2 : Value) (M' : vm_M), k + l = n → (∀ r j, r ≠ 55 → ¬ (r = 48 ∧ j = 10) → M' r j = M r j) → M' 48 10 = nI (L + k) → (∀ j, j < L → M' 55 j = M 55 j) → (∀ t, t < k → M' 55 (L + t) = nI (fd_v x (n - 1 - t))) → C_M_feed_40 X x w2 x3 (nI l - nI 1) M' P := by
    intro l
    induction l with
    | zero =>
      intro k w2 M' hk a1 a2 a3 a4
      have hk : k = n := by omega
      subst hk
      apply v_M_feed_40
      refine ⟨fun _ => ?_, fun q => absurd (by decide) q⟩
      rw [a2]
      exact h M' a1 a2 a3 a4
    | succ l ih =>
      intro k w2 M' hk a1 a2 a3 a4
      apply v_M_feed_40
      have el : nI (l + 1) - nI 1 = nI l := pk_sub (by omega)
      rw [el, vm_nneg (by omega), a2, vm_ex (by omega) (by omega), fd_M x (k := l) (by omega)]
      refine ⟨fun q => q.elim, fun _ => ?_⟩
      have ed : nI l + Int32.ofInt (-1) = nI l - nI 1 := by
        rw [show Int32.ofInt (-1) = -(nI 1) from rfl, Int32.sub_eq_add_neg]
      rw [ed]
      have e5 : (vm_u2 M' 55 (L + k) (nI (fd_v x l))) 48 10 = nI (L + k) := by rw [vm_u2_r (by omega)]; exact a2
      rw [e5, vm_add]
      refine ih (k + 1) _ _ (by omega) (fun r j h1 h2 => ?_) ?_ (fun j hj => ?_) (fun t ht => ?_)
      · rw [vm_u2_ne h2, vm_u2_r h1]; exact a1 r j h1 h2
      · rw [vm_u2_eq]; rfl
      · rw [vm_u2_r (by omega), vm_u2_ne (by omega)]; exact a3 j hj
      · rw [vm_u2_r (by omega)]
        by_cases htk : t = k
        · subst htk
          rw [vm_u2_eq, show n - 1 - t = l by omega]
        · rw [vm_u2_ne (by omega)]; exact a4 t (by omega)
  exact loop n 0 w2 M (by omega) (fun _ _ _ _ => rfl) hl (fun _ _ => rfl) (fun t ht => absurd ht (by omega))
theorem op_feed (hR : vR M) (x : Int64) (n : Int32) : E_B_feed X x n M (fun v M1 => E_M_feed X x n M1 (fun v' M2 => v = v' ∧ vR M2)) := by
  obtain ⟨L, hL, t1, t2, t3, t4⟩ := hR.2.2.1
  have e8 : (nI 8).toInt = 8 := nI_toInt (by omega)
  have e1 : (nI 1).toInt = 1 := nI_toInt (by omega)
  have q1 : (Int64.ofNat 1).toInt = 1 := by decide
  have q8 : (Int64.ofInt 8).toInt = 8 := by decide
  have bad : ¬ (1 ≤ n.toInt ∧ n.toInt ≤ 8) → E_M_feed X x n M (fun v' M2 => cBAD = v' ∧ vR M2) := by
    intro hb
    apply v_M_feed
    refine s_M_in (fun q => ?_) (fun _ => ⟨fun _ => ⟨rfl, hR.thrown⟩, fun q => absurd rfl q⟩)
    rw [q1, q8, vm_i64] at q
    exact absurd q hb
  apply v_B_feed
  rw [Int32.lt_iff_toInt_lt, Int32.lt_iff_toInt_lt, e8, e1]
  refine ⟨fun h1 => bad (by omega), fun h1 => ⟨fun h2 => bad (by omega), fun h2 => ?_⟩⟩
  obtain ⟨k, hk, rfl, hkn⟩ := vm_toNat (a := n) (by omega)
  apply v_Tape_append
  rw [t1, pk_sub (by omega), nI_ltI (by omega) (by omega)]
  have ok : ∀ {P : Int32 → vm_M → Prop} {M' : vm_M}, P (nI 1) M' → E_M_in X (nI k).toInt64 (Int64.ofNat 1) (Int64.ofInt 8) M' P := by
    intro P M' hp
    refine s_M_in (fun _ => hp) (fun q => ?_)
    rw [q1, q8, vm_i64] at q
    exact absurd (by omega) q
  have k8 : k ≤ 8 := by omega
  refine ⟨fun hf => ?_, fun hf => ?_⟩
  · apply v_M_feed
    refine ok ⟨fun q => absurd q (by decide), fun _ => ?_⟩
    have e48 : (vm_u2 M 48 0 (nI 0)) 48 10 = nI L := by rw [vm_u2_ne (by omega)]; exact t2
    rw [e48, vm_add, nI_ltI (by omega) (by omega)]
    exact ⟨fun _ => ⟨rfl, hR.thrown⟩, fun q => absurd (by omega) q⟩
  · refine s_append20 (n := k) k8 (by omega) t1 (fun M1 a1 a2 a3 a4 => ?_) _
    apply v_M_feed
    refine ok ⟨fun q => absurd q (by decide), fun _ => ?_⟩
    have e48 : (vm_u2 M1 48 0 (nI 0)) 48 10 = nI L := by rw [vm_u2_ne (by omega), a1 48 10 (by omega) (by omega)]; exact t2
    rw [e48, vm_add, nI_ltI (by omega) (by omega)]
    refine ⟨fun q => absurd q (by omega), fun _ => ?_⟩
    refine s_feed40 (n := k) k8 (by omega) e48 (fun M2 b1 b2 b3 b4 => ⟨rfl, ?_⟩) _
    have o : ∀ r j, r ≠ 6 → r ≠ 55 → ¬ (r = 5 ∧ j = 1) → ¬ (r = 48 ∧ (j = 0 ∨ j = 10)) → M2 r j = M r j := by
      intro r j g1 g2 g3 g4
      rw [b1 r j g2 (by omega), vm_u2_ne (by omega), a1 r j g1 g3]
    obtain ⟨h1, h2, h3, ⟨f, w, h4, h5⟩, h6, h7, h8⟩ := hR
    refine ⟨h1.of (fun r j g => o r j (by omega) (by omega) (by omega) (by omega)), ?_, ⟨L + k, by omega, ?_, b2, fun i hi => ?_, ?_⟩, ⟨f, w, h4.of (fun r j g => o r j (by omega) (by omega) (by omega) (by omega)), h5.of (fun r j g => o r j (by omega) (by omega) (by omega) (by omega))⟩, h6.of (fun r j g => o r j (by omega) (by omega) (by omega) (by omega)), h7.of (fun r j g => o r j (by omega) (by omega) (by omega) (by omega)), h8.of (fun r j g => o r j (by omega) (by omega) (by omega) (by omega))⟩
    · rw [o 48 1 (by omega) (by omega) (by omega) (by omega), o 0 9 (by omega) (by omega) (by omega) (by omega)]; exact h2
    · rw [b1 5 1 (by omega) (by omega), vm_u2_ne (by omega)]; exact a2
    · rw [b1 6 i (by omega) (by omega), vm_u2_ne (by omega)]
      by_cases hiL : i < L
      · obtain ⟨v, v1, v2, v3⟩ := t3 i hiL
        refine ⟨v, v1, ?_, ?_⟩
        · rw [b3 i hiL, vm_u2_ne (by omega), a1 55 i (by omega) (by omega)]; exact v2
        · rw [a3 i hiL]; exact v3
      · have h1 := a4 (i - L) (by omega)
        have h2 := b4 (i - L) (by omega)
        rw [show L + (i - L) = i by omega] at h1 h2
        exact ⟨_, fd_lt x _, h2, h1⟩
    · rw [o 5 7 (by omega) (by omega) (by omega) (by omega), o 48 11 (by omega) (by omega) (by omega) (by omega)]; exact t4
end VH
