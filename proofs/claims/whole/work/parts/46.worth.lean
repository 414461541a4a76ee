def vh_pr (f : Nat → Nat) (b : Nat) : Nat := if f (6 + 4 * b) = 2 then f (7 + 4 * b) / 2 else f (7 + 4 * b)
/-- the dearest of the first k that take it in t: its number and one; 0: none -/
def vh_dst (f : Nat → Nat) (a t d : Nat) : Nat → Nat
  | 0 => 0
  | k + 1 => if vh_hand f a k t d ≠ 0 ∧ (vh_dst f a t d k = 0 ∨ vh_pr f (vh_dst f a t d k - 1) < vh_pr f k) then k + 1 else vh_dst f a t d k
def vh_mx (f : Nat → Nat) (a t d : Nat) : Nat → Nat
  | 0 => 0
  | k + 1 => if vh_hand f a k t d ≠ 0 ∧ vh_mx f a t d k < vh_pr f k then vh_pr f k else vh_mx f a t d k
def vh_wr (f : Nat → Nat) (a t d : Nat) : Nat → Nat
  | 0 => 0
  | n + 1 => max (vh_wr f a t d n) (vh_mx f a (t + n) d (f 2))
theorem vh_dst_le (f : Nat → Nat) (a t d : Nat) : ∀ k, vh_dst f a t d k ≤ k
  | 0 => Nat.le_refl _
  | k + 1 => by
    have := vh_dst_le f a t d k
    unfold vh_dst
    split <;> omega
theorem vh_mx_dst (f : Nat → Nat) (a t d : Nat) : ∀ k, vh_mx f a t d k = if vh_dst f a t d k = 0 then 0 else vh_pr f (vh_dst f a t d k - 1)
  | 0 => rfl
  | k + 1 => by
    have ih := vh_mx_dst f a t d k
    unfold vh_mx vh_dst
    rw [ih]
    by_cases hh : vh_hand f a k t d ≠ 0
    · by_cases h0 : vh_dst f a t d k = 0
      · simp only [hh, h0, true_and, if_true, true_or]
        simp
        grind
      · simp only [hh, h0, true_and, false_or, if_false]
        grind
    · simp only [hh, false_and, if_false]
theorem vh_pr_le {f : Nat → Nat} (ho : vh_ok f) {b : Nat} (hb : b < f 2) : vh_pr f b ≤ 99 := by
  have := ho.2.2.2.2.2.2.2.1 b hb
  unfold vh_pr
  split <;> omega
theorem vf_price_eq {q g : Nat} (h1 : q ≤ 5) (h2 : g ≤ 99) : vf_price (nI q) (nI g) = nI (if q = 2 then g / 2 else g) := by
  unfold vf_price
  simp (disch := omega) only [nI_eq]
  split
  · exact pk_div (by omega) (by omega) (by omega)
  · rfl
def vm_eo (p : Nat) : Int32 := if p = 0 then cNONE else nI (p - 1)
theorem vm_eo_none {p : Nat} (h : p < 1000) : vm_eo p = Int32.ofInt (-1000000) ↔ p = 0 := by
  unfold vm_eo
  by_cases hp : p = 0
  · rw [if_pos hp]; exact ⟨fun _ => hp, fun _ => rfl⟩
  · rw [if_neg hp]
    have : nI (p - 1) = Int32.ofInt (-1000000) ↔ False := vm_nI_none (by omega)
    rw [this]
    exact ⟨False.elim, fun h => hp h⟩
theorem vh_hand_le {f : Nat → Nat} (ho : vh_ok f) {a b t d : Nat} (ht : t ≤ 100) : vh_hand f a b t d ≤ 130 := by
  have := vh_arr_le (f := f) ho (a := a) (b := b) ht
  unfold vh_hand
  split
  · omega
  · split <;> omega
theorem vm_maxI {a b : Nat} (ha : a < 2 ^ 31) (hb : b < 2 ^ 31) : (if nI a < nI b then nI b else nI a) = nI (max a b) := by
  by_cases hlt : a < b
  · rw [if_pos ((nI_ltI ha hb).mpr hlt), Nat.max_eq_right (by omega)]
  · rw [if_neg (fun q => hlt ((nI_ltI ha hb).mp q)), Nat.max_eq_left (by omega)]
theorem vm_minI {a b : Nat} (ha : a < 2 ^ 31) (hb : b < 2 ^ 31) : (if nI b < nI a then nI b else nI a) = nI (min a b) := by
  by_cases hlt : b < a
  · rw [if_pos ((nI_ltI hb ha).mpr hlt), Nat.min_eq_right (by omega)]
  · rw [if_neg (fun q => hlt ((nI_ltI hb ha).mp q)), Nat.min_eq_left (by omega)]
section VH
variable {X : Nat × (Nat → Int32)} {M : vm_M} {P : Int32 → vm_M → Prop} {f : Nat → Nat} {w : Nat → Int32}
theorem s_price7 (hC : vh_C M 7 f w) (ho : vh_ok f) {b : Nat} (hb : b < f 2) (h : P (nI (vh_pr f b)) M) : E_Hill_price_7 X (nI b) M P := by
  have h1 := ho.1
  have hk := hC.2.2.2.2.2.2.1 b hb
  have hx := ho.2.2.2.2.2.2.2.1 b hb
  have e8 : M 8 b = nI (f (6 + 4 * b)) := hk.1
  have e9 : M 9 b = nI (f (7 + 4 * b)) := hk.2.1
  refine s_Hill_price (by omega) ?_
  rw [e8, e9, vf_price_eq (by omega) (by omega)]
  exact h
theorem s_priceM (hM : vh_M M 52 0 f w) (ho : vh_ok f) {b : Nat} (hb : b < f 2) (h : P (nI (vh_pr f b)) M) : E_M_priceOf X (nI b) M P := by
  have h1 := ho.1
  have hx := ho.2.2.2.2.2.2.2.1 b hb
  have e8 := hM.1 (6 + 4 * b) (by omega) (by omega)
  have e9 := hM.1 (7 + 4 * b) (by omega) (by omega)
  rw [Nat.zero_add] at e8 e9
  refine s_M_priceOf (by omega) ?_
  rw [e8, e9, vf_price_eq (by omega) (by omega)]
  exact h
theorem s_dearest_loop (hC : vh_C M 7 f w) (ho : vh_ok f) {a t d : Nat} (ha : a < 6) (ht : t ≤ 100) (hd : d ≤ 100) (h : P (vm_eo (vh_dst f a t d (f 2))) M) :
    ∀ (n k : Nat) (w6 : Value), k + n = f 2 → C_Foretold_dearest_7 X (nI a) (nI t) (nI d) (vm_eo (vh_dst f a t d k)) (nI k) w6 M P := by
  have hT := ho.1
  have e7 : M 7 0 = nI (f 2) := hC.1
  intro n
  induction n with
  | zero =>
    intro k w6 hk
    have hk : k = f 2 := by omega
    subst hk
    apply v_Foretold_dearest_7
    rw [e7]
    exact ⟨fun q => absurd ((nI_ltI (by omega) (by omega)).mp q) (by omega), fun _ => h⟩
  | succ n ih =>
    intro k w6 hk
    have hkf : k < f 2 := by omega
    have hle := vh_dst_le f a t d k
    have hhl := vh_hand_le ho (a := a) (b := k) (d := d) ht
    have nx : ∀ w6, C_Foretold_dearest_7 X (nI a) (nI t) (nI d) (vm_eo (vh_dst f a t d (k + 1))) (nI (k + 1)) w6 M P := fun w6 => ih (k + 1) w6 (by omega)
    have hen : vm_en (vh_hand f a k t d) = Int32.ofInt (-1000000) ↔ vh_hand f a k t d = 0 := vm_en_none (by omega)
    apply v_Foretold_dearest_7
    rw [e7]
    refine ⟨fun _ => ⟨fun q => ?_, fun q => ?_⟩, fun q => absurd ((nI_ltI (by omega) (by omega)).mpr hkf) q⟩
    · have hz := (vm_eo_none (by omega)).mp q
      refine s_Hill_handed hC ho ha hkf ht hd ?_
      rw [hen, vm_add]
      have e9 : vh_dst f a t d (k + 1) = if vh_hand f a k t d ≠ 0 then k + 1 else 0 := by
        rw [vh_dst, hz]
        simp
      rw [e9] at nx
      rw [hz]
      refine ⟨fun q2 => ?_, fun q2 => ?_⟩
      · have := nx (.int (nI 1)); rw [if_neg (fun h => h q2)] at this; exact this
      · have := nx (.int (nI 1)); rw [if_pos q2] at this; exact this
    · have hz : ¬ vh_dst f a t d k = 0 := fun q2 => q ((vm_eo_none (by omega)).mpr q2)
      have ee : vm_eo (vh_dst f a t d k) = nI (vh_dst f a t d k - 1) := by unfold vm_eo; rw [if_neg hz]
      refine s_price7 hC ho hkf ?_
      rw [ee]
      refine s_price7 hC ho (by omega) ?_
      have p1 := vh_pr_le ho hkf
      have p2 := vh_pr_le ho (b := vh_dst f a t d k - 1) (by omega)
      rw [nI_ltI (by omega) (by omega)]
      refine ⟨fun hlt => ?_, fun hlt => ?_⟩
      · refine s_Hill_handed hC ho ha hkf ht hd ?_
        rw [hen, vm_add]
        refine ⟨fun q2 => ?_, fun q2 => ?_⟩
        · have := nx (.int (nI 1))
          rw [vh_dst, if_neg (fun h => h.1 q2), ee] at this
          exact this
        · have := nx (.int (nI 1))
          rw [vh_dst, if_pos ⟨q2, Or.inr hlt⟩] at this
          exact this
      · have := nx (.int (nI 0))
        rw [vh_dst, if_neg (fun h => h.2.elim hz hlt), ee] at this
        rw [vm_add]
        exact this
theorem s_dearest (hC : vh_C M 7 f w) (ho : vh_ok f) {a t d : Nat} (ha : a < 6) (ht : t ≤ 100) (hd : d ≤ 100) (h : P (vm_eo (vh_dst f a t d (f 2))) M) : E_Foretold_dearest X (nI a) (nI t) (nI d) M P := by
  apply v_Foretold_dearest
  exact s_dearest_loop hC ho ha ht hd h (f 2) 0 _ (by omega)
theorem vh_mx_le (ho : vh_ok f) (a t d : Nat) : ∀ k, k ≤ f 2 → vh_mx f a t d k ≤ 99
  | 0, _ => Nat.zero_le _
  | k + 1, hk => by
    have ih := vh_mx_le ho a t d k (by omega)
    have := vh_pr_le ho (b := k) (by omega)
    unfold vh_mx
    split <;> omega
theorem vh_wr_le (ho : vh_ok f) (a t d : Nat) : ∀ n, vh_wr f a t d n ≤ 99
  | 0 => Nat.zero_le _
  | n + 1 => by
    have ih := vh_wr_le ho a t d n
    have := vh_mx_le ho a (t + n) d (f 2) (Nat.le_refl _)
    unfold vh_wr
    omega
theorem s_dearestFrom (hC : vh_C M 7 f w) (ho : vh_ok f) {a t : Nat} (ha : a < 6) (ht : t ≤ 60) (h : P (nI (vh_wr f a t (f 0) (61 - t))) M) : E_Foretold_dearestFrom X (nI a) (nI t) M P := by
  have hd := ho.2.2.1
  have hT := ho.1
  have e2 : M 7 2 = nI (f 0) := hC.2.2.1
  have loop : ∀ (n k : Nat) (w5 : Value), k + n = 61 - t → C_Foretold_dearestFrom_5 X (nI a) (nI t) (nI (vh_wr f a t (f 0) k)) (nI (t + k)) w5 M P := by
    intro n
    induction n with
    | zero =>
      intro k w5 hk
      apply v_Foretold_dearestFrom_5
      rw [nI_ltI (by omega) (by omega)]
      rw [show 61 - t = k by omega] at h
      exact ⟨fun _ => h, fun q => absurd (by omega) q⟩
    | succ n ih =>
      intro k w5 hk
      have nx := ih (k + 1)
      have hwl := vh_wr_le ho a t (f 0) k
      have hdl := vh_dst_le f a (t + k) (f 0) (f 2)
      apply v_Foretold_dearestFrom_5
      rw [nI_ltI (by omega) (by omega), e2]
      refine ⟨fun q => absurd q (by omega), fun _ => ?_⟩
      refine s_dearest hC ho ha (by omega) (by omega) ?_
      rw [vm_eo_none (by omega), vm_add, show t + k + 1 = t + (k + 1) by omega]
      have hmx := vh_mx_dst f a (t + k) (f 0) (f 2)
      refine ⟨fun q => ?_, fun q => ?_⟩
      · rw [if_pos q] at hmx
        have e9 : vh_wr f a t (f 0) (k + 1) = vh_wr f a t (f 0) k := by rw [vh_wr, hmx]; omega
        rw [e9] at nx
        exact nx _ (by omega)
      · rw [if_neg q] at hmx
        have ee : vm_eo (vh_dst f a (t + k) (f 0) (f 2)) = nI (vh_dst f a (t + k) (f 0) (f 2) - 1) := by unfold vm_eo; rw [if_neg q]
        have hml := vh_mx_le ho a (t + k) (f 0) (f 2) (Nat.le_refl _)
        rw [ee]
        refine s_price7 hC ho (by omega) ?_
        rw [← hmx]
        have e9 : (if nI (vh_wr f a t (f 0) k) < nI (vh_mx f a (t + k) (f 0) (f 2)) then nI (vh_mx f a (t + k) (f 0) (f 2)) else nI (vh_wr f a t (f 0) k)) = nI (vh_wr f a t (f 0) (k + 1)) := by
          rw [vh_wr]
          exact vm_maxI (by omega) (by omega)
        rw [e9]
        exact nx _ (by omega)
  apply v_Foretold_dearestFrom
  exact loop (61 - t) 0 _ (by omega)
theorem s_M_worth28 (hM : vh_M M 52 0 f w) (ho : vh_ok f) {a t : Nat} (ha : a < 6) (ht : t ≤ 60) (h : P (nI (vh_wr f a t (f 0) (61 - t))) M) (w5 : Value) : C_M_worth_28 X (nI a) (nI t) (nI 0) (nI t) w5 M P := by
  have hd := ho.2.2.1
  have hT := ho.1
  have e2 : M 52 2 = nI (f 2) := hM.1 2 (by omega) (by omega)
  have loop : ∀ (n k : Nat) (w5 : Value), k + n = 61 - t → C_M_worth_28 X (nI a) (nI t) (nI (vh_wr f a t (f 0) k)) (nI (t + k)) w5 M P := by
    intro n
    induction n with
    | zero =>
      intro k w5 hk
      apply v_M_worth_28
      rw [nI_ltI (by omega) (by omega)]
      rw [show 61 - t = k by omega] at h
      exact ⟨fun _ => h, fun q => absurd (by omega) q⟩
    | succ n ih =>
      intro k w5 hk
      have nx := ih (k + 1)
      have hwl := vh_wr_le ho a t (f 0) k
      have inner : ∀ (i b : Nat), b + i = f 2 → C_M_worth_38 X (nI a) (nI t) (nI (max (vh_wr f a t (f 0) k) (vh_mx f a (t + k) (f 0) b))) (nI (t + k)) (nI b) M P := by
        intro i
        induction i with
        | zero =>
          intro b hb
          have hb : b = f 2 := by omega
          subst hb
          apply v_M_worth_38
          rw [e2]
          refine ⟨fun q => absurd ((nI_ltI (by omega) (by omega)).mp q) (by omega), fun _ => ?_⟩
          rw [vm_add]
          exact nx _ (by omega)
        | succ i ihi =>
          intro b hb
          have nxi := ihi (b + 1) (by omega)
          have hml := vh_mx_le ho a (t + k) (f 0) b (by omega)
          have hpl := vh_pr_le ho (b := b) (by omega)
          have hhl := vh_hand_le ho (a := a) (b := b) (d := f 0) (t := t + k) (by omega)
          have hen : vm_en (vh_hand f a b (t + k) (f 0)) = Int32.ofInt (-1000000) ↔ vh_hand f a b (t + k) (f 0) = 0 := vm_en_none (by omega)
          apply v_M_worth_38
          rw [e2]
          refine ⟨fun _ => ?_, fun q => absurd ((nI_ltI (by omega) (by omega)).mpr (by omega)) q⟩
          refine s_M_passedIn hM ho ha (by omega) (by omega) ?_
          rw [hen, vm_add]
          refine ⟨fun q => ?_, fun q => ?_⟩
          · rw [vh_mx, if_neg (fun h => h.1 q)] at nxi
            exact nxi
          · refine s_priceM hM ho (by omega) ?_
            rw [nI_ltI (by omega) (by omega)]
            refine ⟨fun hlt => ?_, fun hlt => ?_⟩
            · refine s_priceM hM ho (by omega) ?_
              have e9 : max (vh_wr f a t (f 0) k) (vh_mx f a (t + k) (f 0) (b + 1)) = vh_pr f b := by
                rw [vh_mx, if_pos ⟨q, by omega⟩]; omega
              rw [e9] at nxi
              exact nxi
            · have e9 : max (vh_wr f a t (f 0) k) (vh_mx f a (t + k) (f 0) (b + 1)) = max (vh_wr f a t (f 0) k) (vh_mx f a (t + k) (f 0) b) := by
                rw [vh_mx]
                split <;> omega
              rw [e9] at nxi
              exact nxi
      apply v_M_worth_28
      rw [nI_ltI (by omega) (by omega)]
      refine ⟨fun q => absurd q (by omega), fun _ => ?_⟩
      have := inner (f 2) 0 (by omega)
      rw [vh_mx, Nat.max_eq_left (Nat.zero_le _)] at this
      exact this
  exact loop (61 - t) 0 w5 (by omega)
theorem op_worth (hR : vR M) (x t : Int32) : E_B_worth X x t M (fun v M1 => E_M_worth X x t M1 (fun v' M2 => v = v' ∧ vR M2)) := by
  obtain ⟨f, w, hH, hA, hT, e7, e52⟩ := hR.traders
  have e52' : (vm_u2 M 48 0 (nI 0)) 52 2 = nI (f 2) := e52
  have hH' := vm_hit (v := nI 0) hH
  apply v_B_worth
  rw [e7]
  rcases vm_one x (T := f 2) (by omega) with ⟨n, hn, rfl⟩ | ⟨hno, hx⟩
  · rcases vm_one t (T := 61) (by omega) with ⟨m, hm, rfl⟩ | ⟨hno, ht⟩
    · simp (disch := omega) only [vm_nneg, nI_ltI, vm_n60, hn, vm_fa, vm_tr, not_true, not_false_eq_true, true_and, and_true]
      rw [show (60 < m) ↔ False from ⟨fun h => by omega, False.elim⟩]
      simp only [vm_fa, vm_tr, not_false_eq_true, true_and]
      refine s_dearestFrom hH.2.1 hH.1 (by omega) (by omega) ?_
      apply v_M_worth
      refine s_M_isTrader hT e52' (fun k hk e => ⟨fun q => absurd q (by decide), fun _ => ?_⟩) (fun h => absurd rfl (h n hn))
      refine s_M_isMinute (fun k hk e => ⟨fun q => absurd q (by decide), fun _ => ?_⟩) (fun h => absurd rfl (h m hm))
      exact s_M_worth28 hH'.2.2 hH.1 (by omega) (by omega) ⟨rfl, hR.thrown⟩ _
    · have hb : E_M_worth X (nI n) t M (fun v' M2 => cBAD = v' ∧ vR M2) := by
        apply v_M_worth
        refine s_M_isTrader hT e52' (fun k hk e => ⟨fun q => absurd q (by decide), fun _ => ?_⟩) (fun h => absurd rfl (h n hn))
        exact s_M_isMinute (fun k hk e => absurd e (hno k hk)) (fun _ => ⟨fun _ => ⟨rfl, hR.thrown⟩, fun q => absurd rfl q⟩)
      simp (disch := omega) only [vm_nneg, nI_ltI, hn, vm_fa, vm_tr, not_true, not_false_eq_true, true_and, and_true]
      rcases vm_60 ht with h | h
      · exact ⟨fun _ => hb, fun q => absurd h q⟩
      · exact ⟨fun _ => hb, fun _ => ⟨fun _ => hb, fun q => absurd h q⟩⟩
  · have hb : E_M_worth X x t M (fun v' M2 => cBAD = v' ∧ vR M2) := by
      apply v_M_worth
      exact s_M_isTrader hT e52' (fun m hm e => absurd e (hno m hm)) (fun _ => ⟨fun _ => ⟨rfl, hR.thrown⟩, fun q => absurd rfl q⟩)
    rcases hx with hx | hx
    · exact ⟨fun _ => hb, fun q => absurd hx q⟩
    · exact ⟨fun _ => hb, fun _ => ⟨fun q => absurd q hx, fun _ => hb⟩⟩
end VH
