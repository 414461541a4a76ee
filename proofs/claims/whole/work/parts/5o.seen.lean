/-! where: who was seen when (7: nobody told; 8: two at once), as numbers -/
theorem wb_and (a b : Nat) : nI a &&& nI b = nI (a &&& b) := by
  apply Int32.eq_iff_toBitVec_eq.mpr
  rw [Int32.toBitVec_and]
  exact (BitVec.ofNat_and).symm
theorem wb_or (a b : Nat) : nI a ||| nI b = nI (a ||| b) := by
  apply Int32.eq_iff_toBitVec_eq.mpr
  rw [Int32.toBitVec_or]
  exact (BitVec.ofNat_or).symm
theorem wb_sh1 : ∀ a, a < 6 → (nI 1) <<< (nI a &&& 31) = nI (2 ^ a) := by decide +kernel
theorem wb_bit1 : ∀ v, v < 64 → ∀ a, a < 6 → ((((nI v) >>> (nI a &&& 31)) &&& (nI 1)) = 0 ↔ v.testBit a = false) := by decide +kernel
theorem wb_p2 : ∀ a, a < 6 → 2 ^ a < 64 := by decide
theorem wb_and64 {a b : Nat} (ha : a < 64) : a &&& b < 64 := Nat.lt_of_le_of_lt Nat.and_le_left ha
theorem wb_or64 {a b : Nat} (ha : a < 64) (hb : b < 64) : a ||| b < 64 := Nat.or_lt_two_pow (n := 6) ha hb
theorem wb_lt64 {v x : Nat} (hv : v < 64) (hx : v.testBit x = true) : x < 6 := by
  apply Decidable.byContradiction
  intro h
  rw [Nat.testBit_lt_two_pow (Nat.lt_of_lt_of_le hv (show 2 ^ 6 ≤ 2 ^ x from Nat.pow_le_pow_right (by decide) (by omega)))] at hx
  cases hx
theorem wb_63 : ∀ x, x < 6 → (63 : Nat).testBit x = true := by decide
theorem wb_or_a {v a x : Nat} : (v ||| 2 ^ a).testBit x = (v.testBit x || decide (a = x)) := by
  rw [Nat.testBit_or, Nat.testBit_two_pow]
def wtv (s : Nat) : Nat := if s = 7 then 63 else if s < 6 then 2 ^ s else 0
def wmv (s : Nat) : Int32 := if s = 7 then cNONE else if s < 6 then nI s else Int32.ofInt (-1000001)
def wsn (s who : Nat) : Nat := if s = 7 ∨ s = who then who else 8
def wok (S : Nat → Nat) (m x : Nat) : Bool := decide (S m = 7) || decide (S m = x)
def wcl (S : Nat → Nat) (m t : Nat) : Bool := (List.range t).all fun v => decide (v ≤ m) || decide (S v = 7)
theorem wcl_iff {S : Nat → Nat} {m t : Nat} : wcl S m t = true ↔ ∀ v, m < v → v < t → S v = 7 := by
  unfold wcl
  rw [List.all_eq_true]
  constructor
  · intro h v h1 h2
    have := h v (List.mem_range.mpr h2)
    simp only [Bool.or_eq_true, decide_eq_true_eq] at this
    omega
  · intro h v hv
    have := List.mem_range.mp hv
    simp only [Bool.or_eq_true, decide_eq_true_eq]
    by_cases hm : v ≤ m
    · exact Or.inl hm
    · exact Or.inr (h v (by omega) this)
theorem wtv_lt : ∀ s, wtv s < 64 := by
  intro s
  unfold wtv
  split
  · omega
  · split
    · exact wb_p2 _ (by assumption)
    · omega
theorem wtv_bit {S : Nat → Nat} {m x : Nat} (hx : x < 6) : (wtv (S m)).testBit x = wok S m x := by
  unfold wtv wok
  by_cases h7 : S m = 7
  · rw [if_pos h7, wb_63 x hx, decide_eq_true h7]; rfl
  · rw [if_neg h7]
    by_cases h6 : S m < 6
    · rw [if_pos h6, Nat.testBit_two_pow, decide_eq_false h7]; rfl
    · rw [if_neg h6, decide_eq_false h7, decide_eq_false (show ¬ S m = x by omega)]
      simp
theorem wtv_63 : ∀ s, s ≤ 8 → (nI (wtv s) = nI 63 ↔ s = 7) := by decide
theorem wtv_step : ∀ s, s ≤ 8 → ∀ w, w < 6 → nI (wtv s) &&& ((nI 1) <<< (nI w &&& 31)) = nI (wtv (wsn s w)) := by decide
theorem wmv_none : ∀ s, s ≤ 8 → (wmv s = Int32.ofInt (-1000000) ↔ s = 7) := by decide
theorem wmv_who : ∀ s, s ≤ 8 → ∀ w, w < 6 → (wmv s = nI w ↔ s = w) := by decide
theorem wsn_le {s w : Nat} (hw : w < 6) : wsn s w ≤ 8 := by
  unfold wsn
  split <;> omega
/-- the pairs: item j of the row's items from o on -/
def wpw (I : Nat → Int32) (o k : Nat) : Nat := (I (o + 2 * k)).toInt.toNat
def wpm (I : Nat → Int32) (o k : Nat) : Nat := (I (o + 2 * k + 1)).toInt.toNat
def wpv (I : Nat → Int32) (T o k : Nat) : Prop := 0 ≤ (I (o + 2 * k)).toInt ∧ (I (o + 2 * k)).toInt < T ∧ 0 ≤ (I (o + 2 * k + 1)).toInt ∧ (I (o + 2 * k + 1)).toInt ≤ 60
def wS (I : Nat → Int32) (o : Nat) : Nat → Nat → Nat
  | 0 => fun _ => 7
  | k + 1 => fun m => if m = wpm I o k then wsn (wS I o k m) (wpw I o k) else wS I o k m
theorem wS_s (I : Nat → Int32) (o k m : Nat) : wS I o (k + 1) m = if m = wpm I o k then wsn (wS I o k m) (wpw I o k) else wS I o k m := rfl
theorem wS_le {I : Nat → Int32} {T o : Nat} (hT : T ≤ 6) : ∀ k, (∀ i, i < k → wpv I T o i) → ∀ m, wS I o k m ≤ 8
  | 0, _, m => by show 7 ≤ 8; omega
  | k + 1, h, m => by
    have ih := wS_le hT k (fun i hi => h i (by omega)) m
    have hv := h k (by omega)
    unfold wpv at hv
    unfold wS
    split
    · exact wsn_le (by unfold wpw; omega)
    · exact ih
section WS
variable {X : Nat × (Nat → Int32)} {M : vm_M}
theorem s_forget {P : vm_M → Prop} (h : ∀ M', (∀ r j, r ≠ 43 → M' r j = M r j) → (∀ m, m ≤ 60 → M' 43 m = nI 63) → P M') : E_Foretold_forgetSeen X M P := by
  have loop : ∀ (n k : Nat) (M' : vm_M), k + n = 61 → (∀ r j, r ≠ 43 → M' r j = M r j) → (∀ j, j < k → M' 43 j = nI 63) → C_Foretold_forgetSeen_2 X (nI k) M' P := by
    intro n
    induction n with
    | zero =>
      intro k M' hk g1 g2
      apply v_Foretold_forgetSeen_2
      rw [nI_ltI (by omega) (by omega)]
      exact ⟨fun _ => h M' g1 (fun m hm => g2 m (by omega)), fun q => absurd (by omega) q⟩
    | succ n ih =>
      intro k M' hk g1 g2
      apply v_Foretold_forgetSeen_2
      rw [nI_ltI (by omega) (by omega), vm_ex (by omega) (by omega), vm_add]
      refine ⟨fun q => absurd q (by omega), fun _ => ih (k + 1) _ (by omega) (fun r j hr => ?_) (fun j hj => ?_)⟩
      · rw [vm_u2_r hr]; exact g1 r j hr
      · by_cases hjk : j = k
        · subst hjk; rw [vm_u2_eq]
        · rw [vm_u2_ne (by omega)]; exact g2 j (by omega)
  apply v_Foretold_forgetSeen
  exact loop 61 0 M (by omega) (fun _ _ _ => rfl) (fun j hj => absurd hj (by omega))
theorem s_M_91 {P : Int32 → vm_M → Prop} {x1 x2 x3 x4 : Int32} {w6 w7 w8 : Value} (h : ∀ M', (∀ r j, r ≠ 59 → M' r j = M r j) → (∀ m, m ≤ 60 → M' 59 m = cNONE) → C_M_where_124 X x1 x2 x3 x4 (((nI 40) * x1) + x2) (nI 0) (w7) (w8) M' P) : C_M_where_91 X x1 x2 x3 x4 (nI 0) w6 w7 w8 M P := by
  have loop : ∀ (n k : Nat) (M' : vm_M), k + n = 61 → (∀ r j, r ≠ 59 → M' r j = M r j) → (∀ j, j < k → M' 59 j = cNONE) → C_M_where_91 X x1 x2 x3 x4 (nI k) w6 w7 w8 M' P := by
    intro n
    induction n with
    | zero =>
      intro k M' hk g1 g2
      apply v_M_where_91
      rw [nI_ltI (by omega) (by omega)]
      exact ⟨fun _ => h M' g1 (fun m hm => g2 m (by omega)), fun q => absurd (by omega) q⟩
    | succ n ih =>
      intro k M' hk g1 g2
      apply v_M_where_91
      rw [nI_ltI (by omega) (by omega), vm_ex (by omega) (by omega), vm_add]
      refine ⟨fun q => absurd q (by omega), fun _ => ih (k + 1) _ (by omega) (fun r j hr => ?_) (fun j hj => ?_)⟩
      · rw [vm_u2_r hr]; exact g1 r j hr
      · by_cases hjk : j = k
        · subst hjk; rw [vm_u2_eq]
        · rw [vm_u2_ne (by omega)]; exact g2 j (by omega)
  exact loop 61 0 M (by omega) (fun _ _ _ => rfl) (fun j hj => absurd hj (by omega))
/-- the class reads the pairs -/
theorem s_B_77 {P : Int32 → vm_M → Prop} {a i n T : Nat} {x4 x5 : Int32} (ha : a < 8) (hin : i + 2 * n ≤ 40) (hT : T ≤ 6) (e7 : M 7 0 = nI T) (z : ∀ m, m ≤ 60 → M 43 m = nI 63)
    (h1 : (∀ k, k < n → wpv (M 4) T (a * 40 + i) k) → ∀ M', (∀ r j, r ≠ 43 → M' r j = M r j) → (∀ m, m ≤ 60 → M' 43 m = nI (wtv (wS (M 4) (a * 40 + i) n m))) → E_Foretold_withWhom X x4 (vm_u2 M' 0 9 (nI 0)) P)
    (h0 : ¬ (∀ k, k < n → wpv (M 4) T (a * 40 + i) k) → ∀ M', (∀ r j, r ≠ 43 → M' r j = M r j) → P cBAD M') (w7 w8 : Value) : C_B_where_77 X (nI a) (nI i) (nI n) x4 x5 (nI 0) w7 w8 M P := by
  have loop : ∀ (l k : Nat) (w7 w8 : Value) (M' : vm_M), k + l = n → (∀ k', k' < k → wpv (M 4) T (a * 40 + i) k') → (∀ r j, r ≠ 43 → M' r j = M r j) → (∀ m, m ≤ 60 → M' 43 m = nI (wtv (wS (M 4) (a * 40 + i) k m))) → C_B_where_77 X (nI a) (nI i) (nI n) x4 x5 (nI k) w7 w8 M' P := by
    intro l
    induction l with
    | zero =>
      intro k w7 w8 M' hk hv g1 g2
      have hk : k = n := by omega
      subst hk
      apply v_B_where_77
      rw [nI_ltI (by omega) (by omega)]
      exact ⟨fun q => absurd q (by omega), fun _ => h1 hv M' g1 g2⟩
    | succ l ih =>
      intro k w7 w8 M' hk hv g1 g2
      apply v_B_where_77
      have e7' : M' 7 0 = nI T := by rw [g1 _ _ (by omega)]; exact e7
      rw [nI_ltI (by omega) (by omega), e7']
      refine ⟨fun _ => ?_, fun q => absurd (by omega) q⟩
      simp (disch := omega) only [vm_mul, vm_add, vm_ex]
      rw [show a * 40 + (i + 2 * k) = a * 40 + i + 2 * k by omega, show a * 40 + (i + 2 * k + 1) = a * 40 + i + 2 * k + 1 by omega, g1 4 _ (by omega), g1 4 _ (by omega)]
      have no : ¬ wpv (M 4) T (a * 40 + i) k → P cBAD M' := fun q => h0 (fun hall => q (hall k (by omega))) M' g1
      unfold wpv at no
      rw [vm_lt0, vm_lt0, Int32.lt_iff_toInt_lt, Int32.lt_iff_toInt_lt, nI_toInt (by omega), nI_toInt (by omega)]
      refine ⟨fun q => no (by omega), fun q1 => ⟨fun q2 => ⟨fun q => no (by omega), fun q3 => ⟨fun q => no (by omega), fun q4 => ?_⟩⟩, fun q => no (by omega)⟩⟩
      have hvk : wpv (M 4) T (a * 40 + i) k := by unfold wpv; omega
      have ew : M 4 (a * 40 + i + 2 * k) = nI (wpw (M 4) (a * 40 + i) k) := Int32.toInt_inj.mp (by unfold wpw; rw [nI_toInt (by omega)]; omega)
      have em : M 4 (a * 40 + i + 2 * k + 1) = nI (wpm (M 4) (a * 40 + i) k) := Int32.toInt_inj.mp (by unfold wpm; rw [nI_toInt (by omega)]; omega)
      have hm60 : wpm (M 4) (a * 40 + i) k ≤ 60 := by unfold wpm; omega
      have hw6 : wpw (M 4) (a * 40 + i) k < 6 := by unfold wpw; omega
      rw [ew, em]
      apply v_Foretold_noteSeen
      simp (disch := omega) only [vm_ex]
      refine ih (k + 1) _ _ _ (by omega) (fun k' hk' => ?_) (fun r j hr => ?_) (fun m hm => ?_)
      · by_cases q : k' = k
        · rw [q]; exact hvk
        · exact hv k' (by omega)
      · rw [vm_u2_r hr]; exact g1 r j hr
      · rw [wS_s]
        by_cases q : m = wpm (M 4) (a * 40 + i) k
        · rw [if_pos q, q, vm_u2_eq, g2 _ hm60]
          exact wtv_step _ (wS_le hT k hv _) _ hw6
        · rw [if_neg q, vm_u2_ne (by omega)]; exact g2 m hm
  exact loop n 0 w7 w8 M (by omega) (fun k' hk' => absurd hk' (by omega)) (fun _ _ _ => rfl) (fun m hm => z m hm)
theorem s_M_124 {P : Int32 → vm_M → Prop} {i n T o : Nat} {x1 x2 x4 : Int32} (hin : o + 2 * n ≤ 320) (hn : n ≤ 10) (hT : T ≤ 6) (e52 : M 52 2 = nI T) (z : ∀ m, m ≤ 60 → M 59 m = cNONE)
    (h1 : (∀ k, k < n → wpv (M 51) T o k) → ∀ M' w8, (∀ r j, r ≠ 59 → M' r j = M r j) → (∀ m, m ≤ 60 → M' 59 m = wmv (wS (M 51) o n m)) → E_M_layComes X (vm_u2 M' 48 1 (nI 0)) (fun M12 => E_M_layGoesOn X  M12 (fun M13 => C_M_where_243 X x1 x2 (nI n) x4 (nI o) (nI 0) (nI 0) (w8) M13 P)))
    (h0 : ¬ (∀ k, k < n → wpv (M 51) T o k) → ∀ M', (∀ r j, r ≠ 59 → M' r j = M r j) → P cBAD M') (w7 w8 : Value) : C_M_where_124 X x1 x2 (nI n) x4 (nI o) (nI 0) w7 w8 M P := by
  have loop : ∀ (l k : Nat) (w7 w8 : Value) (M' : vm_M), k + l = n → (∀ k', k' < k → wpv (M 51) T o k') → (∀ r j, r ≠ 59 → M' r j = M r j) → (∀ m, m ≤ 60 → M' 59 m = wmv (wS (M 51) o k m)) → C_M_where_124 X x1 x2 (nI n) x4 (nI o) (nI k) w7 w8 M' P := by
    intro l
    induction l with
    | zero =>
      intro k w7 w8 M' hk hv g1 g2
      have hk : k = n := by omega
      subst hk
      apply v_M_where_124
      rw [nI_ltI (by omega) (by omega)]
      exact ⟨fun q => absurd q (by omega), fun _ => h1 hv M' w8 g1 g2⟩
    | succ l ih =>
      intro k w7 w8 M' hk hv g1 g2
      apply v_M_where_124
      have e52' : M' 52 2 = nI T := by rw [g1 _ _ (by omega)]; exact e52
      rw [nI_ltI (by omega) (by omega)]
      refine ⟨fun _ => ?_, fun q => absurd (by omega) q⟩
      simp (disch := omega) only [vm_mul, vm_add, vm_ex]
      rw [g1 51 _ (by omega), g1 51 _ (by omega)]
      have no : ¬ wpv (M 51) T o k → P cBAD M' := fun q => h0 (fun hall => q (hall k (by omega))) M' g1
      refine s_M_isTrader hT e52' (fun w hw ew => ⟨fun q => absurd q (by decide), fun _ => ?_⟩) (fun hw => ⟨fun _ => no (fun q => hw (wpw (M 51) o k) ?_ ?_), fun q => absurd rfl q⟩)
      · refine s_M_isMinute (fun m hm em => ⟨fun q => absurd q (by decide), fun _ => ?_⟩) (fun hm => ⟨fun _ => no (fun q => hm (wpm (M 51) o k) ?_ ?_), fun q => absurd rfl q⟩)
        · have iw : (M 51 (o + 2 * k)).toInt = w := by rw [ew, nI_toInt (by omega)]
          have im : (M 51 (o + 2 * k + 1)).toInt = m := by rw [em, nI_toInt (by omega)]
          have hvk : wpv (M 51) T o k := by unfold wpv; omega
          have hww : wpw (M 51) o k = w := by unfold wpw; omega
          have hmm : wpm (M 51) o k = m := by unfold wpm; omega
          have hs8 := wS_le hT k hv m
          rw [em, ew]
          simp (disch := omega) only [vm_ex]
          rw [g2 m (by omega), wmv_none _ hs8, wmv_who _ hs8 w (by omega)]
          have fin : ∀ s', s' = wsn (wS (M 51) o k m) w → ∀ w7 w8, C_M_where_124 X x1 x2 (nI n) x4 (nI o) (nI (k + 1)) w7 w8 (vm_u2 M' 59 m (wmv s')) P := by
            intro s' hs' w7 w8
            refine ih (k + 1) _ _ _ (by omega) (fun k' hk' => ?_) (fun r j hr => ?_) (fun m' hm' => ?_)
            · by_cases q : k' = k
              · rw [q]; exact hvk
              · exact hv k' (by omega)
            · rw [vm_u2_r hr]; exact g1 r j hr
            · rw [wS_s, hww, hmm]
              by_cases q : m' = m
              · rw [if_pos q, q, vm_u2_eq, hs']
              · rw [if_neg q, vm_u2_ne (by omega)]; exact g2 m' hm'
          have emv : wmv w = nI w := by unfold wmv; rw [if_neg (by omega), if_pos (by omega)]
          refine ⟨fun q => ?_, fun q => ⟨fun q2 => ?_, fun q2 => ?_⟩⟩
          · have := fin w (by unfold wsn; rw [if_pos (Or.inl q)])
            rw [emv] at this
            exact this _ _
          · have := fin w (by unfold wsn; rw [if_pos (Or.inr q2)])
            rw [emv] at this
            exact this _ _
          · exact fin 8 (by unfold wsn; rw [if_neg (by omega)]) _ _
        · unfold wpv at q; unfold wpm; omega
        · refine Int32.toInt_inj.mp ?_
          unfold wpv at q; unfold wpm; rw [nI_toInt (by omega)]; omega
      · unfold wpv at q; unfold wpw; omega
      · refine Int32.toInt_inj.mp ?_
        unfold wpv at q; unfold wpw; rw [nI_toInt (by omega)]; omega
  exact loop n 0 w7 w8 M (by omega) (fun k' hk' => absurd hk' (by omega)) (fun _ _ _ => rfl) (fun m hm => z m hm)
/-- the first told minute, and what is unseen on the way -/
theorem s_nextTold {P : Int32 → vm_M → Prop} {S : Nat → Nat} {m : Nat} (hS : ∀ m, S m ≤ 8) (h43 : ∀ m, m ≤ 60 → M 43 m = nI (wtv (S m))) (hm : m ≤ 60)
    (h : ∀ u, u ≤ 60 → (∀ t, m < t → t < 60 → (t ≤ u ↔ wcl S m t = true)) → P (nI u) M) : E_Foretold_nextTold X (nI m) M P := by
  have loop : ∀ (l k : Nat), k + l = 61 → m < k → (∀ v, m < v → v < k → v < 60 → S v = 7) → C_Foretold_nextTold_4 X (nI m) (nI k) M P := by
    intro l
    induction l with
    | zero =>
      intro k hk hmk hall
      apply v_Foretold_nextTold_4
      rw [nI_ltI (by omega) (by omega)]
      have e : (if (nI 60) < nI k then (nI 60) else nI k) = nI 60 := by rw [if_pos ((nI_ltI (by omega) (by omega)).mpr (by omega))]
      rw [e]
      refine ⟨fun q => absurd q (by omega), fun _ => h 60 (by omega) (fun t h1 h2 => ⟨fun _ => wcl_iff.mpr (fun v g1 g2 => hall v g1 (by omega) (by omega)), fun _ => by omega⟩)⟩
    | succ l ih =>
      intro k hk hmk hall
      apply v_Foretold_nextTold_4
      have e : (if (nI 60) < nI k then (nI 60) else nI k) = nI k := by rw [if_neg (fun q => absurd ((nI_ltI (by omega) (by omega)).mp q) (by omega))]
      rw [e, nI_ltI (by omega) (by omega)]
      have stop : (k < 60 → S k ≠ 7) → P (nI k) M := by
        intro hk7
        refine h k (by omega) (fun t h1 h2 => ⟨fun q => wcl_iff.mpr (fun v g1 g2 => hall v g1 (by omega) (by omega)), fun q => ?_⟩)
        apply Decidable.byContradiction
        intro hlt
        exact hk7 (by omega) (wcl_iff.mp q k hmk (by omega))
      refine ⟨fun q => ?_, fun q => stop (fun q2 => absurd q2 q)⟩
      rw [vm_ex (by omega) (by omega), h43 k (by omega), wtv_63 _ (hS k), vm_add]
      refine ⟨fun q2 => ih (k + 1) (by omega) (by omega) (fun v g1 g2 g3 => ?_), fun q2 => stop (fun _ => q2)⟩
      by_cases hv : v = k
      · rw [hv]; exact q2
      · exact hall v g1 (by omega) g3
  apply v_Foretold_nextTold
  rw [vm_add]
  exact loop (60 - m) (m + 1) (by omega) (by omega) (fun v h1 h2 => absurd h1 (by omega))
theorem s_isUnseen {P : Int32 → vm_M → Prop} {S : Nat → Nat} {m t x : Nat} (hS : ∀ m, S m ≤ 8) (h59 : ∀ m, m ≤ 60 → M 59 m = wmv (S m)) (ht : t ≤ 60) (hx : x < 6)
    (h1 : wok S t x = true ∧ wcl S m t = true → P (nI 1) M) (h0 : ¬ (wok S t x = true ∧ wcl S m t = true) → P (nI 0) M) (hmt : m < t) : E_M_isUnseen X (nI m) (nI t) (nI x) M P := by
  have loop : ∀ (l k g : Nat), k + l = t → m < k → g ≤ 1 → (g = 1 ↔ wok S t x = true ∧ ∀ v, m < v → v < k → S v = 7) → C_M_isUnseen_33 X (nI m) (nI t) (nI x) (nI g) (nI k) M P := by
    intro l
    induction l with
    | zero =>
      intro k g hk hmk hg hall
      have hk : k = t := by omega
      subst hk
      apply v_M_isUnseen_33
      rw [nI_ltI (by omega) (by omega)]
      refine ⟨fun q => absurd q (by omega), fun _ => ?_⟩
      rw [← wcl_iff] at hall
      rcases (show g = 0 ∨ g = 1 by omega) with rfl | rfl
      · exact ⟨Or.inl rfl, h0 (fun q => absurd (hall.mpr q) (by omega))⟩
      · exact ⟨Or.inr rfl, h1 (hall.mp rfl)⟩
    | succ l ih =>
      intro k g hk hmk hg hall
      apply v_M_isUnseen_33
      rw [nI_ltI (by omega) (by omega), vm_add]
      refine ⟨fun _ => ⟨fun q => ?_, fun q => ?_⟩, fun q => absurd (by omega) q⟩
      · have hg0 : g = 0 := (nI_eq (a := g) (b := 0) (by omega) (by omega)).mp q
        refine ih (k + 1) 0 (by omega) (by omega) (by omega) ⟨fun q => absurd q (by omega), fun q => ?_⟩
        have := hall.mpr ⟨q.1, fun v g1 g2 => q.2 v g1 (by omega)⟩
        omega
      · have hg1 : g = 1 := by
          rcases (show g = 0 ∨ g = 1 by omega) with rfl | rfl
          · exact absurd rfl q
          · rfl
        have hall := hall.mp hg1
        rw [vm_ex (by omega) (by omega), h59 k (by omega), wmv_none _ (hS k)]
        refine ⟨fun q2 => ih (k + 1) 1 (by omega) (by omega) (by omega) ⟨fun _ => ⟨hall.1, fun v g1 g2 => ?_⟩, fun _ => rfl⟩, fun q2 => ih (k + 1) 0 (by omega) (by omega) (by omega) ⟨fun q => absurd q (by omega), fun q => ?_⟩⟩
        · by_cases hv : v = k
          · rw [hv]; exact q2
          · exact hall.2 v g1 (by omega)
        · exact absurd (q.2 k hmk (by omega)) q2
  apply v_M_isUnseen
  simp (disch := omega) only [vm_ex, vm_add]
  rw [h59 t ht, wmv_none _ (hS t), wmv_who _ (hS t) x hx]
  have ek : wok S t x = true ↔ (S t = 7 ∨ S t = x) := by unfold wok; simp
  refine ⟨fun q => loop (t - (m + 1)) (m + 1) 1 (by omega) (by omega) (by omega) ⟨fun _ => ⟨ek.mpr (Or.inl q), fun v g1 g2 => absurd g1 (by omega)⟩, fun _ => rfl⟩, fun q => ⟨fun q2 => ?_, fun q2 => ?_⟩⟩
  · exact loop (t - (m + 1)) (m + 1) 1 (by omega) (by omega) (by omega) ⟨fun _ => ⟨ek.mpr (Or.inr q2), fun v g1 g2 => absurd g1 (by omega)⟩, fun _ => rfl⟩
  · refine loop (t - (m + 1)) (m + 1) 0 (by omega) (by omega) (by omega) ⟨fun q3 => absurd q3 (by omega), fun q3 => ?_⟩
    have := ek.mp q3.1
    omega
end WS
