/-! THE TAPE's tokens, as numbers -/
def tk_go (b : Nat → Nat) (p : Nat → Bool) : Nat → Nat → Nat
  | 0, e => e
  | n + 1, e => if p (b e) = true then tk_go b p n (e + 1) else e
/-- from e on as far as p holds -/
def tk_to (b : Nat → Nat) (L : Nat) (p : Nat → Bool) (e : Nat) : Nat := tk_go b p (L - e) e
def tk_bl (v : Nat) : Bool := decide (v = 32) || decide (v = 10)
def tk_lt (v : Nat) : Bool := decide (97 ≤ v) && decide (v ≤ 122)
def tk_fg (v : Nat) : Bool := decide (48 ≤ v) && decide (v ≤ 57)
section TK
variable {b : Nat → Nat} {L : Nat} {p : Nat → Bool}
theorem tk_go_ge (b : Nat → Nat) (p : Nat → Bool) : ∀ n e, e ≤ tk_go b p n e ∧ tk_go b p n e ≤ e + n
  | 0, e => ⟨Nat.le_refl _, Nat.le_refl _⟩
  | n + 1, e => by
    have := tk_go_ge b p n (e + 1)
    unfold tk_go
    split <;> omega
theorem tk_to_ge (b : Nat → Nat) (L : Nat) (p : Nat → Bool) (e : Nat) : e ≤ tk_to b L p e := (tk_go_ge b p _ e).1
theorem tk_to_le {e : Nat} (h : e ≤ L) : tk_to b L p e ≤ L := by
  have := (tk_go_ge b p (L - e) e).2
  unfold tk_to
  omega
theorem tk_to_end {e : Nat} (h : L ≤ e) : tk_to b L p e = e := by
  unfold tk_to
  rw [show L - e = 0 by omega]
  rfl
theorem tk_to_s {e : Nat} (h : e < L) (hp : p (b e) = true) : tk_to b L p e = tk_to b L p (e + 1) := by
  unfold tk_to
  rw [show L - e = L - (e + 1) + 1 by omega, tk_go, if_pos hp]
theorem tk_to_n {e : Nat} (h : e < L) (hp : ¬ p (b e) = true) : tk_to b L p e = e := by
  unfold tk_to
  rw [show L - e = L - (e + 1) + 1 by omega, tk_go, if_neg hp]
theorem tk_to_gt {e : Nat} (h : e < L) (hp : p (b e) = true) : e < tk_to b L p e := by
  rw [tk_to_s h hp]
  have := tk_to_ge b L p (e + 1)
  omega
theorem tk_go_all (b : Nat → Nat) (p : Nat → Bool) : ∀ n e i, e ≤ i → i < tk_go b p n e → p (b i) = true
  | 0, e, i, h1, h2 => by unfold tk_go at h2; omega
  | n + 1, e, i, h1, h2 => by
    unfold tk_go at h2
    split at h2
    · next hp =>
      by_cases h : i = e
      · rw [h]; exact hp
      · exact tk_go_all b p n (e + 1) i (by omega) h2
    · omega
theorem tk_to_all {e i : Nat} (h1 : e ≤ i) (h2 : i < tk_to b L p e) : p (b i) = true := tk_go_all b p _ e i h1 h2
end TK
/-- the token's first byte; from there: the first one behind it, its kind (0 end, 1 name, 2 number, 3 sign, 4 none), its number -/
def tkS (b : Nat → Nat) (L e : Nat) : Nat := tk_to b L tk_bl e
def tkE (b : Nat → Nat) (L s : Nat) : Nat := if s < L then (if tk_lt (b s) = true then tk_to b L tk_lt s else if tk_fg (b s) = true then tk_to b L tk_fg s else s + 1) else s
def tkK (b : Nat → Nat) (L s : Nat) : Nat := if s < L then (if tk_lt (b s) = true then 1 else if tk_fg (b s) = true then (if 3 < tk_to b L tk_fg s - s then 4 else 2) else if b s = 59 then 3 else 4) else 0
def tk_val (b : Nat → Nat) (s : Nat) : Nat → Nat
  | 0 => 0
  | n + 1 => 10 * tk_val b s n + b (s + n) - 48
def tkV (b : Nat → Nat) (L s : Nat) : Nat := tk_val b s (tkE b L s - s)
def tkm (k : Nat) : Nat := if k = 4 then 0 else k + 1
section TK
variable {b : Nat → Nat} {L : Nat}
theorem tkS_ge (b : Nat → Nat) (L e : Nat) : e ≤ tkS b L e := tk_to_ge _ _ _ _
theorem tkS_le {e : Nat} (h : e ≤ L) : tkS b L e ≤ L := tk_to_le h
theorem tkE_ge (b : Nat → Nat) (L s : Nat) : s ≤ tkE b L s := by
  unfold tkE
  have := tk_to_ge b L tk_lt s
  have := tk_to_ge b L tk_fg s
  split
  · split
    · assumption
    · split <;> omega
  · omega
theorem tkE_le {s : Nat} (h : s ≤ L) : tkE b L s ≤ L := by
  unfold tkE
  have h1 : tk_to b L tk_lt s ≤ L := tk_to_le h
  have h2 : tk_to b L tk_fg s ≤ L := tk_to_le h
  split
  · split
    · assumption
    · split <;> omega
  · omega
theorem tkE_gt {s : Nat} (h : tkK b L s ≠ 0) : s < tkE b L s := by
  unfold tkK at h
  unfold tkE
  by_cases hs : s < L
  · rw [if_pos hs]
    by_cases h1 : tk_lt (b s) = true
    · rw [if_pos h1]; exact tk_to_gt hs h1
    · rw [if_neg h1]
      by_cases h2 : tk_fg (b s) = true
      · rw [if_pos h2]; exact tk_to_gt hs h2
      · rw [if_neg h2]; omega
  · rw [if_neg hs] at h
    exact absurd rfl h
theorem tkK_le (b : Nat → Nat) (L s : Nat) : tkK b L s ≤ 4 := by
  unfold tkK
  repeat' split
  all_goals omega
theorem tkK_1 {s : Nat} (h : tkK b L s = 1) : s < L ∧ tk_lt (b s) = true ∧ tkE b L s = tk_to b L tk_lt s := by
  unfold tkK at h
  by_cases hs : s < L
  · rw [if_pos hs] at h
    by_cases h1 : tk_lt (b s) = true
    · exact ⟨hs, h1, by unfold tkE; rw [if_pos hs, if_pos h1]⟩
    · rw [if_neg h1] at h
      repeat' split at h
      all_goals omega
  · rw [if_neg hs] at h; omega
theorem tkK_2 {s : Nat} (h : tkK b L s = 2) : s < L ∧ tk_fg (b s) = true ∧ tkE b L s = tk_to b L tk_fg s ∧ tkE b L s - s ≤ 3 := by
  unfold tkK at h
  by_cases hs : s < L
  · rw [if_pos hs] at h
    by_cases h1 : tk_lt (b s) = true
    · rw [if_pos h1] at h; omega
    · rw [if_neg h1] at h
      by_cases h2 : tk_fg (b s) = true
      · rw [if_pos h2] at h
        have e : tkE b L s = tk_to b L tk_fg s := by unfold tkE; rw [if_pos hs, if_neg h1, if_pos h2]
        refine ⟨hs, h2, e, ?_⟩
        rw [e]
        split at h <;> omega
      · rw [if_neg h2] at h
        split at h <;> omega
  · rw [if_neg hs] at h; omega
theorem tkS_bl {e : Nat} (h : e < L) (hb : tk_bl (b e) = true) : tkS b L e = tkS b L (e + 1) := tk_to_s h hb
theorem tkS_id {e : Nat} (h : ¬ (e < L ∧ tk_bl (b e) = true)) : tkS b L e = e := by
  by_cases h1 : e < L
  · exact tk_to_n h1 (fun q => h ⟨h1, q⟩)
  · exact tk_to_end (by omega)
theorem tk_fg_v {v : Nat} (h : tk_fg v = true) : 48 ≤ v ∧ v ≤ 57 := by
  unfold tk_fg at h
  simpa using h
theorem tk_lt_v {v : Nat} (h : tk_lt v = true) : 97 ≤ v ∧ v ≤ 122 := by
  unfold tk_lt at h
  simpa using h
theorem tk_val_le {s : Nat} : ∀ n, (∀ i, i < n → tk_fg (b (s + i)) = true) → tk_val b s n + 1 ≤ 10 ^ n
  | 0, _ => Nat.le_refl 1
  | n + 1, h => by
    have ih := tk_val_le n (fun i hi => h i (by omega))
    have := tk_fg_v (h n (by omega))
    rw [tk_val, Nat.pow_succ]
    omega
theorem tkV_lt {s : Nat} (h : tkK b L s = 2) : tkV b L s < 1000 := by
  obtain ⟨h1, h2, h3, h4⟩ := tkK_2 h
  have := tk_val_le (b := b) (s := s) (tkE b L s - s) (fun i hi => by
    have := tkE_ge b L s
    refine tk_to_all (L := L) (e := s) (by omega) ?_
    rw [← h3]; omega)
  unfold tkV
  have h5 : 10 ^ (tkE b L s - s) ≤ 10 ^ 3 := Nat.pow_le_pow_right (by decide) h4
  omega
end TK
/-- a byte as the class has it -/
def tk_sv (v : Nat) : Int32 := (nI v).toInt8.toInt32
theorem tk_sv_toInt : ∀ v, v < 256 → (tk_sv v).toInt = if v < 128 then (v : Int) else (v : Int) - 256 := by
  unfold tk_sv
  decide +kernel
theorem tk_sv_eq {v c : Nat} (hv : v < 256) (hc : c < 128) : tk_sv v = nI c ↔ v = c := by
  have h := tk_sv_toInt v hv
  rw [← Int32.toInt_inj, h, nI_toInt (by omega)]
  split <;> omega
theorem tk_sv_lt {v c : Nat} (hv : v < 256) (hc : c < 128) : tk_sv v < nI c ↔ (128 ≤ v ∨ v < c) := by
  have h := tk_sv_toInt v hv
  rw [Int32.lt_iff_toInt_lt, h, nI_toInt (by omega)]
  split <;> omega
theorem tk_sv_gt {v c : Nat} (hv : v < 256) (hc : c < 128) : nI c < tk_sv v ↔ (c < v ∧ v < 128) := by
  have h := tk_sv_toInt v hv
  rw [Int32.lt_iff_toInt_lt, h, nI_toInt (by omega)]
  split <;> omega
theorem tk_sv_nI {v : Nat} (hv : v < 128) : tk_sv v = nI v := (tk_sv_eq (by omega) hv).mpr rfl
/-- the class's tape, the reference's tape -/
def tcT (b : Nat → Nat) (L : Nat) (M : vm_M) : Prop := L ≤ 400 ∧ M 5 1 = nI L ∧ ∀ i, i < L → b i < 256 ∧ M 6 i = tk_sv (b i)
def tmT (b : Nat → Nat) (L : Nat) (M : vm_M) : Prop := L ≤ 400 ∧ M 48 12 = nI L ∧ ∀ i, i < L → b i < 256 ∧ M 55 i = nI (b i)
section TN
variable {X : Nat × (Nat → Int32)} {M : vm_M} {b : Nat → Nat} {L : Nat}
theorem s_T_lt {P : Int32 → vm_M → Prop} {v : Nat} (hv : v < 256) (h1 : tk_lt v = true → P (nI 1) M) (h0 : ¬ tk_lt v = true → P (nI 0) M) : E_Tape_isLetter X (tk_sv v) M P := by
  apply v_Tape_isLetter
  rw [tk_sv_lt hv (by omega), tk_sv_gt hv (by omega)]
  unfold tk_lt at h1 h0
  simp only [Bool.and_eq_true, decide_eq_true_eq] at h1 h0
  exact ⟨fun q => h0 (by omega), fun q => ⟨fun q2 => h0 (by omega), fun q2 => h1 (by omega)⟩⟩
theorem s_T_fg {P : Int32 → vm_M → Prop} {v : Nat} (hv : v < 256) (h1 : tk_fg v = true → P (nI 1) M) (h0 : ¬ tk_fg v = true → P (nI 0) M) : E_Tape_isFigure X (tk_sv v) M P := by
  apply v_Tape_isFigure
  rw [tk_sv_lt hv (by omega), tk_sv_gt hv (by omega)]
  unfold tk_fg at h1 h0
  simp only [Bool.and_eq_true, decide_eq_true_eq] at h1 h0
  exact ⟨fun q => h0 (by omega), fun q => ⟨fun q2 => h0 (by omega), fun q2 => h1 (by omega)⟩⟩
theorem s_M_lt {P : Int32 → vm_M → Prop} {v : Nat} (hv : v < 256) (h1 : tk_lt v = true → P (nI 1) M) (h0 : ¬ tk_lt v = true → P (nI 0) M) : E_M_isLetter X (nI v) M P := by
  apply v_M_isLetter
  rw [nI_ltI (by omega) (by omega), nI_ltI (by omega) (by omega)]
  unfold tk_lt at h1 h0
  simp only [Bool.and_eq_true, decide_eq_true_eq] at h1 h0
  exact ⟨fun q => h0 (by omega), fun q => ⟨fun q2 => h0 (by omega), fun q2 => h1 (by omega)⟩⟩
theorem s_M_fg {P : Int32 → vm_M → Prop} {v : Nat} (hv : v < 256) (h1 : tk_fg v = true → P (nI 1) M) (h0 : ¬ tk_fg v = true → P (nI 0) M) : E_M_isFigure X (nI v) M P := by
  apply v_M_isFigure
  rw [nI_ltI (by omega) (by omega), nI_ltI (by omega) (by omega)]
  unfold tk_fg at h1 h0
  simp only [Bool.and_eq_true, decide_eq_true_eq] at h1 h0
  exact ⟨fun q => h0 (by omega), fun q => ⟨fun q2 => h0 (by omega), fun q2 => h1 (by omega)⟩⟩
theorem s_M_ltN {P : Int32 → vm_M → Prop} (h0 : P (nI 0) M) : E_M_isLetter X cNONE M P := by
  apply v_M_isLetter
  exact ⟨fun _ => h0, fun q => absurd (by decide) q⟩
theorem s_M_fgN {P : Int32 → vm_M → Prop} (h0 : P (nI 0) M) : E_M_isFigure X cNONE M P := by
  apply v_M_isFigure
  exact ⟨fun _ => h0, fun q => absurd (by decide) q⟩
theorem s_byteAt {P : Int32 → vm_M → Prop} {k : Nat} (hT : tmT b L M) (hk : k ≤ 1000) (h1 : k < L → P (nI (b k)) M) (h0 : ¬ k < L → P cNONE M) : E_M_byteAt X (nI k) M P := by
  obtain ⟨hL, e12, hb⟩ := hT
  apply v_M_byteAt
  rw [e12, nI_ltI (by omega) (by omega)]
  refine ⟨fun q => ?_, fun q => h0 q⟩
  rw [vm_ex (by omega) (by omega), (hb k q).2]
  exact h1 q
/-- the class's next -/
theorem s_T_99 {P : vm_M → Prop} : ∀ (n q : Nat) (M : vm_M), q + n = L → tcT b L M → M 5 3 = nI q → (∀ M', (∀ r j, ¬ (r = 5 ∧ j = 3) → M' r j = M r j) → M' 5 3 = nI (tk_to b L tk_lt q) → P M') → C_Tape_next_99 X M P := by
  intro n
  induction n with
  | zero =>
    intro q M hq hT e3 h
    obtain ⟨hL, e1, hb⟩ := id hT
    apply v_Tape_next_99
    rw [e3, e1, nI_ltI (by omega) (by omega)]
    exact ⟨fun q => absurd q (by omega), fun _ => h M (fun _ _ _ => rfl) (by rw [tk_to_end (by omega)]; exact e3)⟩
  | succ n ih =>
    intro q M hq hT e3 h
    obtain ⟨hL, e1, hb⟩ := id hT
    apply v_Tape_next_99
    rw [e3, e1, nI_ltI (by omega) (by omega)]
    refine ⟨fun _ => ?_, fun q => absurd (by omega) q⟩
    rw [vm_ex (by omega) (by omega), (hb q (by omega)).2]
    refine s_T_lt (hb q (by omega)).1 (fun hl => ⟨fun q => absurd q (by decide), fun _ => ?_⟩) (fun hl => ⟨fun _ => h M (fun _ _ _ => rfl) (by rw [tk_to_n (by omega) hl]; exact e3), fun q => absurd rfl q⟩)
    rw [e3, vm_add]
    refine ih (q + 1) _ (by omega) ⟨hL, by rw [vm_u2_ne (by omega)]; exact e1, fun i hi => by rw [vm_u2_r (by omega)]; exact hb i hi⟩ vm_u2_eq (fun M' h1 h2 => ?_)
    refine h M' (fun r j hrj => ?_) ?_
    · rw [h1 r j hrj, vm_u2_ne hrj]
    · rw [h2, tk_to_s (by omega) hl]
theorem s_T_158 {P : vm_M → Prop} {s : Nat} : ∀ (n q : Nat) (M : vm_M), q + n = L → s ≤ q → tcT b L M → M 5 3 = nI q → M 5 2 = nI s → M 5 5 = nI (tk_val b s (q - s)) → (∀ i, s ≤ i → i < q → tk_fg (b i) = true) → (∀ M', (∀ r j, ¬ (r = 5 ∧ 3 ≤ j ∧ j ≤ 5) → M' r j = M r j) → M' 5 3 = nI (tk_to b L tk_fg q) → M' 5 4 = (if 3 < tk_to b L tk_fg q - s then nI 4 else nI 2) → M' 5 5 = nI (tk_val b s (tk_to b L tk_fg q - s)) → P M') → C_Tape_next_158 X M P := by
  intro n
  induction n with
  | zero =>
    intro q M hq hs hT e3 e2 e5 hfg h
    obtain ⟨hL, e1, hb⟩ := id hT
    have eq : tk_to b L tk_fg q = q := tk_to_end (by omega)
    rw [eq] at h
    apply v_Tape_next_158
    rw [e3, e1, e2, nI_ltI (by omega) (by omega), pk_sub hs, nI_ltI (by omega) (by omega)]
    refine ⟨fun q => absurd q (by omega), fun _ => ⟨fun g => ?_, fun g => ?_⟩⟩
    · exact h _ (fun r j hrj => vm_u2_ne (by omega)) (by rw [vm_u2_ne (by omega)]; exact e3) (by rw [vm_u2_eq, if_pos g]) (by rw [vm_u2_ne (by omega)]; exact e5)
    · exact h _ (fun r j hrj => vm_u2_ne (by omega)) (by rw [vm_u2_ne (by omega)]; exact e3) (by rw [vm_u2_eq, if_neg g]) (by rw [vm_u2_ne (by omega)]; exact e5)
  | succ n ih =>
    intro q M hq hs hT e3 e2 e5 hfg h
    obtain ⟨hL, e1, hb⟩ := id hT
    apply v_Tape_next_158
    rw [e3, e1, nI_ltI (by omega) (by omega)]
    refine ⟨fun _ => ?_, fun q => absurd (by omega) q⟩
    rw [vm_ex (by omega) (by omega), (hb q (by omega)).2]
    refine s_T_fg (hb q (by omega)).1 (fun hl => ⟨fun q => absurd q (by decide), fun _ => ?_⟩) (fun hl => ⟨fun _ => ?_, fun q => absurd rfl q⟩)
    · have hv := tk_fg_v hl
      rw [e3, vm_ex (by omega) (by omega), (hb q (by omega)).2, e5, tk_sv_nI (by omega), vm_mul, vm_add, pk_sub (by omega)]
      have e3' : (vm_u2 M 5 5 (nI (10 * tk_val b s (q - s) + b q - 48))) 5 3 = nI q := by rw [vm_u2_ne (by omega)]; exact e3
      rw [e3', vm_add]
      refine ih (q + 1) _ (by omega) (by omega) ⟨hL, by rw [vm_u2_ne (by omega), vm_u2_ne (by omega)]; exact e1, fun i hi => by rw [vm_u2_r (by omega), vm_u2_r (by omega)]; exact hb i hi⟩ vm_u2_eq (by rw [vm_u2_ne (by omega), vm_u2_ne (by omega)]; exact e2) ?_ (fun i h1 h2 => ?_) (fun M' h1 h2 h3 h4 => ?_)
      · rw [vm_u2_ne (by omega), vm_u2_eq, show q + 1 - s = (q - s) + 1 by omega, tk_val, show s + (q - s) = q by omega]
      · by_cases hi : i = q
        · rw [hi]; exact hl
        · exact hfg i h1 (by omega)
      · rw [tk_to_s (by omega) hl] at h
        refine h M' (fun r j hrj => ?_) h2 h3 h4
        rw [h1 r j hrj, vm_u2_ne (by omega), vm_u2_ne (by omega)]
    · have eq : tk_to b L tk_fg q = q := tk_to_n (by omega) hl
      rw [eq] at h
      rw [e3, e2, pk_sub hs, nI_ltI (by omega) (by omega)]
      refine ⟨fun g => ?_, fun g => ?_⟩
      · exact h _ (fun r j hrj => vm_u2_ne (by omega)) (by rw [vm_u2_ne (by omega)]; exact e3) (by rw [vm_u2_eq, if_pos g]) (by rw [vm_u2_ne (by omega)]; exact e5)
      · exact h _ (fun r j hrj => vm_u2_ne (by omega)) (by rw [vm_u2_ne (by omega)]; exact e3) (by rw [vm_u2_eq, if_neg g]) (by rw [vm_u2_ne (by omega)]; exact e5)
/-- the token that the class has read: its place s -/
def tcK (b : Nat → Nat) (L s : Nat) (M : vm_M) : Prop := M 5 2 = nI s ∧ M 5 3 = nI (tkE b L s) ∧ M 5 4 = nI (tkK b L s) ∧ (tkK b L s = 2 → M 5 5 = nI (tkV b L s))
theorem s_T_tok {P : vm_M → Prop} {e : Nat} (hT : tcT b L M) (he : e ≤ L) (e3 : M 5 3 = nI e) (hid : ¬ (e < L ∧ tk_bl (b e) = true)) (h : ∀ M', (∀ r j, ¬ (r = 5 ∧ 2 ≤ j ∧ j ≤ 5) → M' r j = M r j) → tcK b L e M' → P M') :
    ((((vm_u2 M 5 2 (M 5 3)) 5 3) < ((vm_u2 M 5 2 (M 5 3)) 5 1) → (∃ j10 : Nat, ((vm_u2 M 5 2 (M 5 3)) 5 3) = nI j10 ∧ j10 < 400 ∧ (E_Tape_isLetter X ((vm_u2 M 5 2 (M 5 3)) 6 j10) (vm_u2 M 5 2 (M 5 3)) (fun v11 M12 => (v11 = 0 → (∃ j13 : Nat, (M12 5 3) = nI j13 ∧ j13 < 400 ∧ (E_Tape_isFigure X (M12 6 j13) M12 (fun v14 M15 => (v14 = 0 → (∃ j16 : Nat, (M15 5 3) = nI j16 ∧ j16 < 400 ∧ (((M15 6 j16) = (nI 59) → (P  (vm_u2 (vm_u2 M15 5 4 (nI 3)) 5 3 (((vm_u2 M15 5 4 (nI 3)) 5 3) + (nI 1))))) ∧ (¬ ((M15 6 j16) = (nI 59)) → (P  (vm_u2 (vm_u2 M15 5 4 (nI 4)) 5 3 (((vm_u2 M15 5 4 (nI 4)) 5 3) + (nI 1)))))))) ∧ (¬ (v14 = 0) → (C_Tape_next_158 X  (vm_u2 M15 5 5 (nI 0)) P)))))) ∧ (¬ (v11 = 0) → (C_Tape_next_99 X  (vm_u2 M12 5 4 (nI 1)) P)))))) ∧ (¬ (((vm_u2 M 5 2 (M 5 3)) 5 3) < ((vm_u2 M 5 2 (M 5 3)) 5 1)) → (P  (vm_u2 (vm_u2 M 5 2 (M 5 3)) 5 4 (nI 0))))) := by
  obtain ⟨hL, e1, hb⟩ := id hT
  have f3 : (vm_u2 M 5 2 (M 5 3)) 5 3 = nI e := by rw [vm_u2_ne (by omega)]; exact e3
  have f1 : (vm_u2 M 5 2 (M 5 3)) 5 1 = nI L := by rw [vm_u2_ne (by omega)]; exact e1
  have f2 : (vm_u2 M 5 2 (M 5 3)) 5 2 = nI e := by rw [vm_u2_eq]; exact e3
  have fr : ∀ r j, ¬ (r = 5 ∧ j = 2) → (vm_u2 M 5 2 (M 5 3)) r j = M r j := fun r j hrj => vm_u2_ne hrj
  generalize hM1 : vm_u2 M 5 2 (M 5 3) = M1 at f3 f1 f2 fr ⊢
  have hb1 : ∀ i, i < L → b i < 256 ∧ M1 6 i = tk_sv (b i) := fun i hi => ⟨(hb i hi).1, by rw [fr _ _ (by omega)]; exact (hb i hi).2⟩
  rw [f3, f1, nI_ltI (by omega) (by omega)]
  unfold tcK tkK tkE tkV at h
  refine ⟨fun hel => ?_, fun hel => ?_⟩
  · have hbe := hb1 e hel
    rw [vm_ex (by omega) (by omega), hbe.2]
    refine s_T_lt hbe.1 (fun hl => ⟨fun q => absurd q (by decide), fun _ => ?_⟩) (fun hl => ⟨fun _ => ?_, fun q => absurd rfl q⟩)
    · refine s_T_99 (L - e) e _ (by omega) ⟨hL, by rw [vm_u2_ne (by omega)]; exact f1, fun i hi => by rw [vm_u2_r (by omega)]; exact hb1 i hi⟩ (by rw [vm_u2_ne (by omega)]; exact f3) (fun M' g1 g2 => ?_)
      refine h M' (fun r j hrj => ?_) ⟨?_, ?_, ?_, ?_⟩
      · rw [g1 r j (by omega), vm_u2_ne (by omega), fr r j (by omega)]
      · rw [g1 5 2 (by omega), vm_u2_ne (by omega)]; exact f2
      · rw [g2, if_pos hel, if_pos hl]
      · rw [g1 5 4 (by omega), vm_u2_eq, if_pos hel, if_pos hl]
      · rw [if_pos hel, if_pos hl]; intro q; omega
    · rw [f3, vm_ex (by omega) (by omega), hbe.2]
      refine s_T_fg hbe.1 (fun hf => ⟨fun q => absurd q (by decide), fun _ => ?_⟩) (fun hf => ⟨fun _ => ?_, fun q => absurd rfl q⟩)
      · refine s_T_158 (s := e) (L - e) e _ (by omega) (Nat.le_refl _) ⟨hL, by rw [vm_u2_ne (by omega)]; exact f1, fun i hi => by rw [vm_u2_r (by omega)]; exact hb1 i hi⟩ (by rw [vm_u2_ne (by omega)]; exact f3) (by rw [vm_u2_ne (by omega)]; exact f2) ?_ (fun i h1 h2 => absurd h1 (by omega)) (fun M' g1 g2 g3 g4 => ?_)
        · rw [vm_u2_eq, Nat.sub_self]; rfl
        · refine h M' (fun r j hrj => ?_) ⟨?_, ?_, ?_, ?_⟩
          · rw [g1 r j (by omega), vm_u2_ne (by omega), fr r j (by omega)]
          · rw [g1 5 2 (by omega), vm_u2_ne (by omega)]; exact f2
          · rw [g2, if_pos hel, if_neg hl, if_pos hf]
          · rw [g3, if_pos hel, if_neg hl, if_pos hf]
            split <;> rfl
          · intro _
            have eE : tkE b L e = tk_to b L tk_fg e := by unfold tkE; rw [if_pos hel, if_neg hl, if_pos hf]
            rw [eE]
            exact g4
      · rw [f3, vm_ex (by omega) (by omega), hbe.2, tk_sv_eq hbe.1 (by omega)]
        refine ⟨fun g => ?_, fun g => ?_⟩
        · have x3 : (vm_u2 M1 5 4 (nI 3)) 5 3 = nI e := by rw [vm_u2_ne (by omega)]; exact f3
          rw [x3, vm_add]
          refine h _ (fun r j hrj => ?_) ⟨?_, ?_, ?_, ?_⟩
          · rw [vm_u2_ne (by omega), vm_u2_ne (by omega), fr r j (by omega)]
          · rw [vm_u2_ne (by omega), vm_u2_ne (by omega)]; exact f2
          · rw [vm_u2_eq, if_pos hel, if_neg hl, if_neg hf]
          · rw [vm_u2_ne (by omega), vm_u2_eq, if_pos hel, if_neg hl, if_neg hf, if_pos g]
          · rw [if_pos hel, if_neg hl, if_neg hf, if_pos g]; intro q; omega
        · have x3 : (vm_u2 M1 5 4 (nI 4)) 5 3 = nI e := by rw [vm_u2_ne (by omega)]; exact f3
          rw [x3, vm_add]
          refine h _ (fun r j hrj => ?_) ⟨?_, ?_, ?_, ?_⟩
          · rw [vm_u2_ne (by omega), vm_u2_ne (by omega), fr r j (by omega)]
          · rw [vm_u2_ne (by omega), vm_u2_ne (by omega)]; exact f2
          · rw [vm_u2_eq, if_pos hel, if_neg hl, if_neg hf]
          · rw [vm_u2_ne (by omega), vm_u2_eq, if_pos hel, if_neg hl, if_neg hf, if_neg g]
          · rw [if_pos hel, if_neg hl, if_neg hf, if_neg g]; intro q; omega
  · refine h _ (fun r j hrj => ?_) ⟨?_, ?_, ?_, ?_⟩
    · rw [vm_u2_ne (by omega), fr r j (by omega)]
    · rw [vm_u2_ne (by omega)]; exact f2
    · rw [vm_u2_ne (by omega), if_neg hel]; exact f3
    · rw [vm_u2_eq, if_neg hel]
    · rw [if_neg hel]; intro q; omega
theorem s_T_next {P : vm_M → Prop} : ∀ (n e : Nat) (M : vm_M), e + n = L → tcT b L M → M 5 3 = nI e → (∀ M', (∀ r j, ¬ (r = 5 ∧ 2 ≤ j ∧ j ≤ 5) → M' r j = M r j) → tcK b L (tkS b L e) M' → P M') → C_Tape_next_0 X M P := by
  intro n
  induction n with
  | zero =>
    intro e M he hT e3 h
    obtain ⟨hL, e1, hb⟩ := id hT
    have hid : ¬ (e < L ∧ tk_bl (b e) = true) := by omega
    rw [tkS_id hid] at h
    apply v_Tape_next_0
    refine ⟨fun q => ?_, fun _ => s_T_tok hT (by omega) e3 hid h⟩
    rw [e3, e1, nI_ltI (by omega) (by omega)] at q
    omega
  | succ n ih =>
    intro e M he hT e3 h
    obtain ⟨hL, e1, hb⟩ := id hT
    have hbe := hb e (by omega)
    have bl : tk_bl (b e) = true → C_Tape_next_0 X (vm_u2 M 5 3 (nI (e + 1))) P := by
      intro hbl
      rw [tkS_bl (by omega) hbl] at h
      refine ih (e + 1) _ (by omega) ⟨hL, by rw [vm_u2_ne (by omega)]; exact e1, fun i hi => by rw [vm_u2_r (by omega)]; exact hb i hi⟩ vm_u2_eq (fun M' g1 g2 => ?_)
      exact h M' (fun r j hrj => by rw [g1 r j hrj, vm_u2_ne (by omega)]) g2
    apply v_Tape_next_0
    have e3a : M 5 3 + nI 1 = nI (e + 1) := by rw [e3, vm_add]
    rw [e3a]
    refine ⟨fun _ => ?_, fun q => ?_⟩
    · have rd : ∀ {T : Nat → Prop}, T e → ∃ j, M 5 3 = nI j ∧ j < 400 ∧ T j := fun t => ⟨e, e3, by omega, t⟩
      refine rd ⟨fun q => ?_, fun q1 => rd ⟨fun q => ?_, fun q2 => ?_⟩⟩
      · rw [hbe.2, tk_sv_eq hbe.1 (by omega)] at q
        exact bl (by unfold tk_bl; simp [q])
      · rw [hbe.2, tk_sv_eq hbe.1 (by omega)] at q
        exact bl (by unfold tk_bl; simp [q])
      · have hid : ¬ (e < L ∧ tk_bl (b e) = true) := by
          rw [hbe.2, tk_sv_eq hbe.1 (by omega)] at q1 q2
          unfold tk_bl
          simp [q1, q2]
        rw [tkS_id hid] at h
        exact s_T_tok hT (by omega) e3 hid h
    · rw [e3, e1, nI_ltI (by omega) (by omega)] at q
      exact absurd (by omega) q
end TN
