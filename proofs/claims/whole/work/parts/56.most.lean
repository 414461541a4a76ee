theorem vm_sub_toInt {a b : Nat} (ha : a < 2 ^ 20) (hb : b < 2 ^ 20) : (nI a - nI b).toInt = (a : Int) - b := by
  rw [Int32.toInt_sub, nI_toInt (by omega), nI_toInt (by omega)]
  exact Int.bmod_eq_of_le (by omega) (by omega)
theorem vm_sub_lt {a b c d : Nat} (ha : a < 2 ^ 20) (hb : b < 2 ^ 20) (hc : c < 2 ^ 20) (hd : d < 2 ^ 20) : nI a - nI b < nI c - nI d ↔ a + d < c + b := by
  rw [Int32.lt_iff_toInt_lt, vm_sub_toInt ha hb, vm_sub_toInt hc hd]
  omega
theorem vm_sub_sub (a b c d : Nat) : nI a - nI b + (nI c - nI d) = nI (a + c) - nI (b + d) := by
  rw [← vm_add, ← vm_add]
  simp only [Int32.sub_eq_add_neg, Int32.neg_add]
  ac_rfl
def vb_most (f : Nat → Nat) (b : Nat) (cur aft : Int32 × Int32) : Int32 × Int32 :=
  if cur.1 < nI (vh_pr f b) + aft.1 then (nI (vh_pr f b) + aft.1, nI 1 + aft.2) else if nI (vh_pr f b) + aft.1 = cur.1 then (if nI 1 + aft.2 < cur.2 then (cur.1, nI 1 + aft.2) else cur) else cur
def vn_most (f : Nat → Nat) (b : Nat) (cur aft : Nat × Nat) : Nat × Nat :=
  if cur.1 < vh_pr f b + aft.1 then (vh_pr f b + aft.1, 1 + aft.2) else if vh_pr f b + aft.1 = cur.1 then (if 1 + aft.2 < cur.2 then (cur.1, 1 + aft.2) else cur) else cur
def vn_good (m : Nat) (v : Nat × Nat) : Prop := (v.2 = 0 ∨ v.2 + m ≤ 60) ∧ v.1 ≤ 99 * v.2 ∧ (v.1 = 0 → v.2 = 0)
theorem vn_good_most {f : Nat → Nat} (ho : vh_ok f) {b m h : Nat} {cur aft : Nat × Nat} (hb : b < f 2) (hm : m < h) (hh : h < 60) (h1 : vn_good m cur) (h2 : vn_good h aft) : vn_good m (vn_most f b cur aft) ∧ cur.2 ≤ 60 ∧ aft.2 ≤ 60 ∧ cur.1 ≤ 6000 ∧ aft.1 ≤ 6000 ∧ vh_pr f b ≤ 99 := by
  have hp := vh_pr_le ho hb
  obtain ⟨a1, a2, a3⟩ := h1
  obtain ⟨b1, b2, b3⟩ := h2
  refine ⟨?_, by omega, by omega, by omega, by omega, hp⟩
  unfold vn_most vn_good
  split
  · refine ⟨?_, ?_, ?_⟩
    · right; show 1 + aft.2 + m ≤ 60; omega
    · show vh_pr f b + aft.1 ≤ 99 * (1 + aft.2); omega
    · intro h; exfalso; have h : vh_pr f b + aft.1 = 0 := h; omega
  · split
    · split
      · refine ⟨?_, ?_, ?_⟩
        · right; show 1 + aft.2 + m ≤ 60; omega
        · show cur.1 ≤ 99 * (1 + aft.2); omega
        · intro h; exfalso; have h : cur.1 = 0 := h; omega
      · exact ⟨a1, a2, a3⟩
    · exact ⟨a1, a2, a3⟩
theorem vn_mono (m : Nat) (v : Nat × Nat) (h : vn_good (m + 1) v) : vn_good m v := ⟨by have := h.1; omega, h.2⟩
theorem vn_z (m : Nat) : vn_good m (0, 0) := ⟨Or.inl rfl, Nat.le_refl _, fun _ => rfl⟩
theorem vt_most {f : Nat → Nat} (ho : vh_ok f) (k m a : Nat) (hm : m ≤ 60) : ∃ s c, c ≤ 60 ∧ s ≤ 6000 ∧ (s = 0 → c = 0) ∧ vg_t f (nI 0, nI 0) (vb_most f) k m a = (nI s, nI c) ∧ vg_t f (nI 0) (vb_step (nI 0) f) k m a = nI (64 * s) - nI c := by
  have e1 := vg_hom ho (fun v : Nat × Nat => (nI v.1, nI v.2)) vn_good (z1 := (0, 0)) (z2 := (nI 0, nI 0)) (st1 := vn_most f) (st2 := vb_most f) rfl vn_z vn_mono (fun b m h cur aft hb h1 h2 h3 h4 => by
    obtain ⟨g1, g2, g3, g4, g5, g6⟩ := vn_good_most ho hb h1 h2 h3 h4
    refine ⟨?_, g1⟩
    unfold vn_most vb_most
    simp (disch := omega) only [vm_add, nI_ltI, nI_eq]
    split
    · rfl
    · split
      · split <;> rfl
      · rfl) k m a hm
  have e2 := vg_hom ho (fun v : Nat × Nat => nI (64 * v.1) - nI v.2) vn_good (z1 := (0, 0)) (z2 := nI 0) (st1 := vn_most f) (st2 := vb_step (nI 0) f) (by decide) vn_z vn_mono (fun b m h cur aft hb h1 h2 h3 h4 => by
    obtain ⟨g1, g2, g3, g4, g5, g6⟩ := vn_good_most ho hb h1 h2 h3 h4
    refine ⟨?_, g1⟩
    rw [vb_step_0 (show nI 0 = 0 from rfl)]
    show _ = if nI (64 * cur.1) - nI cur.2 < nI (vh_pr f b * 64) - nI 1 + (nI (64 * aft.1) - nI aft.2) then nI (vh_pr f b * 64) - nI 1 + (nI (64 * aft.1) - nI aft.2) else nI (64 * cur.1) - nI cur.2
    rw [vm_sub_sub]
    simp (disch := omega) only [vm_sub_lt]
    unfold vn_most
    by_cases q : cur.1 < vh_pr f b + aft.1
    · rw [if_pos q, if_pos (by omega)]
      show nI (64 * (vh_pr f b + aft.1)) - nI (1 + aft.2) = _
      rw [show 64 * (vh_pr f b + aft.1) = vh_pr f b * 64 + 64 * aft.1 by omega]
    · rw [if_neg q]
      by_cases q2 : vh_pr f b + aft.1 = cur.1
      · rw [if_pos q2]
        by_cases q3 : 1 + aft.2 < cur.2
        · rw [if_pos q3, if_pos (by omega)]
          show nI (64 * cur.1) - nI (1 + aft.2) = _
          rw [show 64 * cur.1 = vh_pr f b * 64 + 64 * aft.1 by omega]
        · rw [if_neg q3, if_neg (by omega)]
      · rw [if_neg q2, if_neg (by omega)]) k m a hm
  obtain ⟨a1, a2, a3⟩ := e1.1
  refine ⟨_, _, by omega, by omega, a3, e1.2.symm, e2.2.symm⟩
theorem vt_sure {f : Nat → Nat} (ho : vh_ok f) (k m a : Nat) (hm : m ≤ 60) : vg_t f (nI 0) (vb_sure f) k m a = vg_t f (nI 0) (vb_step (nI 1) f) k m a := by
  refine (vg_hom ho (fun v : Int32 => v) (fun _ v => ¬ v < nI 0) rfl (fun _ => by decide) (fun _ _ h => h) (fun b m h cur aft hb h1 h2 h3 h4 => ?_) k m a hm).2
  have hp := vh_pr_le ho hb
  rw [vb_step_1 (by decide)]
  unfold vb_sure
  rw [if_neg h3]
  refine ⟨rfl, ?_⟩
  split
  · exact h3
  · split
    · rw [nI_ltI (by omega) (by omega)]; omega
    · exact h3
section VH
variable {X : Nat × (Nat → Int32)} {M : vm_M} {f : Nat → Nat} {w : Nat → Int32}
theorem op_sure (hR : vR M) (x t : Int32) : E_B_sure X x t M (fun v M1 => E_M_sure X x t M1 (fun v' M2 => v = v' ∧ vR M2)) := by
  obtain ⟨f, w, hH, hA, hT, e7, e52⟩ := hR.traders
  have e52' : (vm_u2 M 48 0 (nI 0)) 52 2 = nI (f 2) := e52
  apply v_B_sure
  rw [e7]
  rcases vm_one x (T := f 2) (by omega) with ⟨n, hn, rfl⟩ | ⟨hno, hx⟩
  · rcases vm_one t (T := 61) (by omega) with ⟨m, hm, rfl⟩ | ⟨hno, ht⟩
    · simp (disch := omega) only [vm_nneg, nI_ltI, vm_n60, hn, vm_fa, vm_tr, not_true, not_false_eq_true, true_and, and_true]
      rw [show (60 < m) ↔ False from ⟨fun h => by omega, False.elim⟩]
      simp only [vm_fa, vm_tr, not_false_eq_true, true_and]
      apply v_Foretold_surelyFrom
      refine s_fillBest hH.2.1 hH.1 (by omega) (fun M1 hM1 hI => ?_)
      simp (disch := omega) only [vm_mul, vm_add, vm_ex]
      rw [hI m n (by omega) (by omega) hn]
      have e53 : (vm_u2 M1 48 0 (nI 0)) 52 2 = nI (f 2) := by rw [vm_u2_ne (by omega), hM1 52 2 (by omega)]; exact e52
      have hM0 : vh_M (vm_u2 M1 48 0 (nI 0)) 52 0 f w := hH.2.2.of (fun j h1 => by rw [vm_u2_r (by omega), hM1 52 _ (by omega)])
      apply v_M_sure
      refine s_M_isTrader hT e53 (fun k hk e => ⟨fun q => absurd q (by decide), fun _ => ?_⟩) (fun h => absurd rfl (h n hn))
      refine s_M_isMinute (fun k hk e => ⟨fun q => absurd q (by decide), fun _ => ?_⟩) (fun h => absurd rfl (h m hm))
      refine s_M_sure25 hM0 hH.1 (by omega) hn (fun M2 hM2 => ⟨(vt_sure hH.1 _ _ _ (by omega)).symm, hR.same (fun r j hd => ?_)⟩) _ _ _ _ _
      have h48 := vm_dead_ne hd
      have : r ≠ 56 ∧ r ≠ 42 := ⟨fun q => by subst q; simp [vm_dead] at hd, fun q => by subst q; simp [vm_dead] at hd⟩
      rw [hM2 r j this.1, vm_u2_ne (by omega), hM1 r j this.2]
    · have hb : E_M_sure X (nI n) t M (fun v' M2 => cBAD = v' ∧ vR M2) := by
        apply v_M_sure
        refine s_M_isTrader hT e52' (fun k hk e => ⟨fun q => absurd q (by decide), fun _ => ?_⟩) (fun h => absurd rfl (h n hn))
        exact s_M_isMinute (fun k hk e => absurd e (hno k hk)) (fun _ => ⟨fun _ => ⟨rfl, hR.thrown⟩, fun q => absurd rfl q⟩)
      simp (disch := omega) only [vm_nneg, nI_ltI, hn, vm_fa, vm_tr, not_true, not_false_eq_true, true_and, and_true]
      rcases vm_60 ht with h | h
      · exact ⟨fun _ => hb, fun q => absurd h q⟩
      · exact ⟨fun _ => hb, fun _ => ⟨fun _ => hb, fun q => absurd h q⟩⟩
  · have hb : E_M_sure X x t M (fun v' M2 => cBAD = v' ∧ vR M2) := by
      apply v_M_sure
      exact s_M_isTrader hT e52' (fun m hm e => absurd e (hno m hm)) (fun _ => ⟨fun _ => ⟨rfl, hR.thrown⟩, fun q => absurd rfl q⟩)
    rcases hx with hx | hx
    · exact ⟨fun _ => hb, fun q => absurd hx q⟩
    · exact ⟨fun _ => hb, fun _ => ⟨fun q => absurd q hx, fun _ => hb⟩⟩
end VH
