/-! RUNS OVER THE MADE WORLD: shapes and references stand, ints move -/
abbrev vm_M : Type := Nat → Nat → Int32
def vm_SH : List vm_Sh := [(0, 6, 10), (0, 4, 3), (1, 0, 8), (1, 0, 8), (1, 0, 320), (0, 5, 8), (1, 1, 400), (0, 3, 12), (1, 0, 6), (1, 0, 6), (1, 0, 6), (1, 0, 6), (1, 0, 36), (1, 0, 36), (0, 3, 12), (1, 0, 6), (1, 0, 6), (1, 0, 6), (1, 0, 6), (1, 0, 36), (1, 0, 36), (0, 3, 12), (1, 0, 6), (1, 0, 6), (1, 0, 6), (1, 0, 6), (1, 0, 36), (1, 0, 36), (0, 3, 12), (1, 0, 6), (1, 0, 6), (1, 0, 6), (1, 0, 6), (1, 0, 36), (1, 0, 36), (0, 0, 8), (1, 0, 24), (1, 0, 24), (1, 0, 24), (1, 0, 24), (1, 0, 24), (0, 2, 7), (1, 0, 366), (1, 0, 61), (1, 0, 61), (1, 0, 61), (0, 1, 3), (1, 0, 16), (0, 7, 30), (1, 0, 8), (1, 0, 8), (1, 0, 320), (1, 0, 70), (1, 0, 70), (1, 0, 1680), (1, 0, 400), (1, 0, 372), (1, 0, 372), (1, 0, 372), (1, 0, 61), (1, 2, 366), (1, 2, 366), (1, 2, 2), (1, 0, 140), (1, 0, 16)]
def vm_RTl : List (List (Option Nat)) := [[some 1, some 5, some 7, some 14, some 21, some 28, some 35, some 41, some 46], [some 2, some 3, some 4], [], [], [], [some 6], [], [none, none, none, none, none, none, some 8, some 9, some 10, some 11, some 12, some 13], [], [], [], [], [], [], [none, none, none, none, none, none, some 15, some 16, some 17, some 18, some 19, some 20], [], [], [], [], [], [], [none, none, none, none, none, none, some 22, some 23, some 24, some 25, some 26, some 27], [], [], [], [], [], [], [none, none, none, none, none, none, some 29, some 30, some 31, some 32, some 33, some 34], [], [], [], [], [], [], [some 7, none, none, some 36, some 37, some 38, some 39, some 40], [], [], [], [], [], [some 7, none, none, some 42, some 43, some 44, some 45], [], [], [], [], [some 7, some 47], [], [none, none, some 49, some 50, some 51, some 52, some 53, some 54, none, some 55, none, none, none, none, none, none, none, none, none, some 56, some 57, some 58, none, some 59, some 60, some 61, some 62, some 63, some 64], [], [], [], [], [], [], [], [], [], [], [], [], [], [], [], []]
def vm_RT (i j : Nat) : Option Nat := (vm_RTl.getD i []).getD j none
def vm_WM (X : Nat × (Nat → Int32)) (k pc : Nat) (L S : List Value) (M : vm_M) (Q : Option Value → vm_M → Prop) : Prop := vm_WP X k pc L S 0 0 (vm_SH, vm_RT, M) (fun r σ' => ∃ M', σ' = (vm_SH, vm_RT, M') ∧ Q r M')
def vm_qi (P : Int32 → vm_M → Prop) : Option Value → vm_M → Prop := fun r M => ∃ v : Int32, r = some (.int v) ∧ P v M
def vm_ql (P : Int64 → vm_M → Prop) : Option Value → vm_M → Prop := fun r M => ∃ v : Int64, r = some (.long v) ∧ P v M
def vm_qv (P : vm_M → Prop) : Option Value → vm_M → Prop := fun r M => r = none ∧ P M
def vm_cp (M : vm_M) (q r sp dp n : Nat) : vm_M := fun i => if i = r then va_cpy (M q) (M r) sp dp n else M i
section VMM
variable {X : Nat × (Nat → Int32)} {k pc pc' : Nat} {L S L' S' : List Value} {M M' : vm_M} {Q : Option Value → vm_M → Prop}
theorem vm_WM.mono {Q' : Option Value → vm_M → Prop} (h : vm_WM X k pc L S M Q) (hq : ∀ r M', Q r M' → Q' r M') : vm_WM X k pc L S M Q' :=
  vm_WP.mono h (fun r σ' ⟨M', e, h⟩ => ⟨M', e, hq _ _ h⟩)
theorem vm_WM.seq (j n : Nat) (hs : vm_seq X (((vm_prog k).drop j).take n) pc L S (vm_SH, vm_RT, M) = some (pc', L', S', (vm_SH, vm_RT, M'))) (h : vm_WM X k pc' L' S' M' Q) : vm_WM X k pc L S M Q := vm_WP.seq j n hs h
theorem vm_WM.if (j : Nat) {t1 t2 : Nat} {i : Instr} {len a b cx d : Nat} {z : Int} {c : Prop} [Decidable c] (hj : (vm_prog k)[j]? = some (pc, i, len, a, b, cx, d, z)) (hk : vm_kd i = 0)
    (ha : vm_act X i a b d z pc L S (vm_SH, vm_RT, M) = some (if c then t1 else t2, L, S', (vm_SH, vm_RT, M))) (h1 : c → vm_WM X k t1 L S' M Q) (h2 : ¬ c → vm_WM X k t2 L S' M Q) : vm_WM X k pc L S M Q := vm_WP.if j hj hk ha h1 h2
theorem vm_WM.ret (j : Nat) {i : Instr} {len a b cx d : Nat} {z : Int} {r : Option Value} (hj : (vm_prog k)[j]? = some (pc, i, len, a, b, cx, d, z)) (hk : vm_kd i = 1) (hr : vm_rt k i S = some r) (h : Q r M) : vm_WM X k pc L S M Q := vm_WP.ret j hj hk hr ⟨M, rfl, h⟩
theorem vm_WM.call (j : Nat) {i : Instr} {len a b cx d : Nat} {z : Int} (as rest L0 : List Value) (hj : (vm_prog k)[j]? = some (pc, i, len, a, b, cx, d, z)) (hk : vm_kd i = 2) (ha : a < 1000)
    (has : (S.take (if vm_kind a = 1 then vm_np a else vm_np a + 1)).reverse = as) (hrest : S.drop (if vm_kind a = 1 then vm_np a else vm_np a + 1) = rest)
    (hc : as.length = (if vm_kind a = 1 then vm_np a else vm_np a + 1) ∧ (vm_kind a = 1 ∨ vm_rc (vm_SH, vm_RT, M) a (vm_lg as 0) = true) ∧ vm_wt rest ≤ 8 ∧ (vm_sl as).length ≤ vm_ml a) (hL : vm_entry a as = L0) (hmc : vm_mc a = 0) (hms : vm_ms a = 0)
    (h : vm_WM X a 0 L0 [] M (fun r M' => vm_WM X k (pc + 3) L (r.toList ++ rest) M' Q)) : vm_WM X k pc L S M Q := by
  refine vm_WP.call j as rest L0 hj hk ha has hrest ⟨hc.1, hc.2.1, by omega, by omega, hc.2.2⟩ hL ?_
  rw [hmc, hms]
  exact vm_WP.mono h (fun r σ' ⟨M', e, h⟩ => by subst e; exact h)
theorem vm_WM.theni {k' : Nat} {L0 : List Value} {P : Int32 → vm_M → Prop} {rest : List Value} (h : vm_WM X k' 0 L0 [] M (vm_qi P)) (hn : ∀ v M', P v M' → vm_WM X k pc L (.int v :: rest) M' Q) : vm_WM X k' 0 L0 [] M (fun r M' => vm_WM X k pc L (r.toList ++ rest) M' Q) :=
  h.mono (fun r M' ⟨v, e, h⟩ => by subst e; exact hn v M' h)
theorem vm_WM.thenl {k' : Nat} {L0 : List Value} {P : Int64 → vm_M → Prop} {rest : List Value} (h : vm_WM X k' 0 L0 [] M (vm_ql P)) (hn : ∀ v M', P v M' → vm_WM X k pc L (.long v :: rest) M' Q) : vm_WM X k' 0 L0 [] M (fun r M' => vm_WM X k pc L (r.toList ++ rest) M' Q) :=
  h.mono (fun r M' ⟨v, e, h⟩ => by subst e; exact hn v M' h)
theorem vm_WM.thenv {k' : Nat} {L0 : List Value} {P : vm_M → Prop} {rest : List Value} (h : vm_WM X k' 0 L0 [] M (vm_qv P)) (hn : ∀ M', P M' → vm_WM X k pc L rest M' Q) : vm_WM X k' 0 L0 [] M (fun r M' => vm_WM X k pc L (r.toList ++ rest) M' Q) :=
  h.mono (fun r M' ⟨e, h⟩ => by subst e; exact hn M' h)
theorem vm_WM.ald (j : Nat) {i : Instr} {len a b cx d : Nat} {z : Int} {r t n jj : Nat} {x : Int32} (hj : (vm_prog k)[j]? = some (pc, i, len, a, b, cx, d, z)) (hi : (i = .iaload ∧ t = 0) ∨ (i = .baload ∧ (t = 1 ∨ t = 2))) (hr : r < 1000) (hs : vm_SH[r]? = some (1, t, n)) (hx : x = nI jj) (hjj : jj < n)
    (h : vm_WM X k (pc + 1) L (.int (M r jj) :: S) M Q) : vm_WM X k pc L (.int x :: .ref r :: S) M Q := by
  have hn : n < 10000 := by
    have h1 : vm_SH.all (fun s => decide (s.2.2 < 10000)) = true := by decide
    exact of_decide_eq_true (List.all_eq_true.mp h1 _ (List.mem_of_getElem? hs))
  subst hx
  refine vm_WP.ald j hj hi hr hs (vp_in_nI hjj (by omega)) ?_
  rw [nI_clamp (by omega)]
  exact h
theorem vm_WM.ast (j : Nat) {len a b cx d : Nat} {z : Int} {r n jj : Nat} {x v : Int32} (hj : (vm_prog k)[j]? = some (pc, .iastore, len, a, b, cx, d, z)) (hs : vm_SH[r]? = some (1, 0, n)) (hx : x = nI jj) (hjj : jj < n)
    (h : vm_WM X k (pc + 1) L S (vm_u2 M r jj v) Q) : vm_WM X k pc L (.int v :: .int x :: .ref r :: S) M Q := by
  have hn : n < 10000 := by
    have h1 : vm_SH.all (fun s => decide (s.2.2 < 10000)) = true := by decide
    exact of_decide_eq_true (List.all_eq_true.mp h1 _ (List.mem_of_getElem? hs))
  subst hx
  refine vm_WP.ast j hj hs (vp_in_nI hjj (by omega)) ?_
  rw [nI_clamp (by omega)]
  exact h
theorem vm_WM.bst (j : Nat) {len a b cx d : Nat} {z : Int} {r n t jj : Nat} {x v w : Int32} (hj : (vm_prog k)[j]? = some (pc, .bastore, len, a, b, cx, d, z)) (ht : t = 1 ∨ t = 2) (hw : vp_nar (vm_tyA t) v = w) (hs : vm_SH[r]? = some (1, t, n)) (hx : x = nI jj) (hjj : jj < n)
    (h : vm_WM X k (pc + 1) L S (vm_u2 M r jj w) Q) : vm_WM X k pc L (.int v :: .int x :: .ref r :: S) M Q := by
  have hn : n < 10000 := by
    have h1 : vm_SH.all (fun s => decide (s.2.2 < 10000)) = true := by decide
    exact of_decide_eq_true (List.all_eq_true.mp h1 _ (List.mem_of_getElem? hs))
  subst hx
  refine vm_WP.bst j hj ht hs (vp_in_nI hjj (by omega)) hw ?_
  rw [nI_clamp (by omega)]
  exact h
theorem vm_WM.copy (j : Nat) {i : Instr} {len b cx d : Nat} {z : Int} {q r n0 n1 : Nat} {sp dp m : Int32} (hj : (vm_prog k)[j]? = some (pc, i, len, 1000, b, cx, d, z)) (hk : vm_kd i = 2) (hq : vm_SH[q]? = some (1, 0, n0)) (hr : vm_SH[r]? = some (1, 0, n1))
    (h1 : ¬ sp < 0) (h2 : ¬ dp < 0) (h3 : ¬ m < 0) (h4 : sp.toNatClampNeg + m.toNatClampNeg ≤ n0) (h5 : dp.toNatClampNeg + m.toNatClampNeg ≤ n1) (h6 : vm_wt S ≤ 8)
    (h : vm_WM X k (pc + 3) L S (vm_cp M q r sp.toNatClampNeg dp.toNatClampNeg m.toNatClampNeg) Q) : vm_WM X k pc L (.int m :: .int dp :: .ref r :: .int sp :: .ref q :: S) M Q := vm_WP.copy j hj hk hq hr h1 h2 h3 h4 h5 h6 h
theorem vm_WM.sld (j : Nat) {len a b cx d : Nat} {z : Int} {x : Int32} {jj : Nat} (hX : X.1 < 10000) (hj : (vm_prog k)[j]? = some (pc, .iaload, len, a, b, cx, d, z)) (hx : x = nI jj) (hjj : jj < X.1) (h : vm_WM X k (pc + 1) L (.int (X.2 jj) :: S) M Q) : vm_WM X k pc L (.int x :: .ref 2000 :: S) M Q := by
  subst hx
  refine vm_WP.act (vm_ins_of hj) rfl ?_ h
  have h9 := vp_in_nI hjj (by omega)
  unfold vp_in at h9
  have hc := nI_clamp (show jj < 2 ^ 31 by omega)
  rw [hc] at h9
  simp [vm_act, vm_ald, hc, h9]
theorem vm_WM.sbl (j : Nat) {len a b cx d : Nat} {z : Int} {x : Int32} {si jj : Nat} (hj : (vm_prog k)[j]? = some (pc, .baload, len, a, b, cx, d, z)) (hsi : si < 8) (hx : x = nI jj) (hjj : jj < vm_strN si) (h : vm_WM X k (pc + 1) L (.int ((vm_strB.getD si []).getD jj 0) :: S) M Q) : vm_WM X k pc L (.int x :: .ref (1001 + 2 * si) :: S) M Q := by
  subst hx
  have hn : vm_strN si < 100 := by
    match si, hsi with
    | 0, _ => decide
    | 1, _ => decide
    | 2, _ => decide
    | 3, _ => decide
    | 4, _ => decide
    | 5, _ => decide
    | 6, _ => decide
    | 7, _ => decide
  refine vm_WP.act (vm_ins_of hj) rfl ?_ h
  have h9 := vp_in_nI hjj (by omega)
  unfold vp_in at h9
  have hc := nI_clamp (show jj < 2 ^ 31 by omega)
  rw [hc] at h9
  have e1 : ¬ 1001 + 2 * si < 1000 := by omega
  have e2 : ¬ 1001 + 2 * si = 2000 := by omega
  have e3 : (1001 + 2 * si) % 2 = 1 ∧ 1001 + 2 * si < 1016 := by omega
  have e4 : (1001 + 2 * si - 1000) / 2 = si := by omega
  simp only [vm_act, vm_ald]
  rw [if_neg e1, if_neg e2, if_pos e3, e4, hc]
  simp [h9]
theorem vm_WM.copyv (js jd jm : Nat) (j : Nat) {i : Instr} {len b cx d : Nat} {z : Int} {q r n0 n1 : Nat} {sp dp m : Int32} (hj : (vm_prog k)[j]? = some (pc, i, len, 1000, b, cx, d, z)) (hk : vm_kd i = 2) (hq : vm_SH[q]? = some (1, 0, n0)) (hr : vm_SH[r]? = some (1, 0, n1))
    (h1 : sp = nI js) (h2 : dp = nI jd) (h3 : m = nI jm) (h4 : js + jm ≤ n0) (h5 : jd + jm ≤ n1) (h6 : vm_wt S ≤ 8)
    (h : vm_WM X k (pc + 3) L S (vm_cp M q r js jd jm) Q) : vm_WM X k pc L (.int m :: .int dp :: .ref r :: .int sp :: .ref q :: S) M Q := by
  have hb : ∀ (r n : Nat), vm_SH[r]? = some (1, 0, n) → n < 10000 := by
    intro r n hs
    have h1 : vm_SH.all (fun s => decide (s.2.2 < 10000)) = true := by decide
    exact of_decide_eq_true (List.all_eq_true.mp h1 _ (List.mem_of_getElem? hs))
  have hb0 := hb _ _ hq
  have hb1 := hb _ _ hr
  subst h1; subst h2; subst h3
  refine vm_WM.copy j hj hk hq hr (nI_pos (by omega)) (nI_pos (by omega)) (nI_pos (by omega)) (by rw [nI_clamp (by omega), nI_clamp (by omega)]; exact h4) (by rw [nI_clamp (by omega), nI_clamp (by omega)]; exact h5) h6 ?_
  rw [nI_clamp (by omega), nI_clamp (by omega), nI_clamp (by omega)]
  exact h
theorem vm_WM.tso (t : Nat) (j : Nat) {len a b cx d : Nat} {z : Int} {x : Int32} {df lo hi : Int} {offs : Array Int} (hj : (vm_prog k)[j]? = some (pc, .tableswitch df lo hi offs, len, a, b, cx, d, z)) (ho : x.toInt < lo ∨ hi < x.toInt) (ht : ((pc : Int) + df).toNat = t) (h : vm_WM X k t L S M Q) : vm_WM X k pc L (.int x :: S) M Q := by
  refine vm_WP.act (vm_ins_of hj) rfl ?_ h
  simp only [vm_act]
  rw [if_pos ho, ht]
theorem vm_WM.tsi (t : Nat) (v : Nat) (j : Nat) {len a b cx d : Nat} {z : Int} {x : Int32} {df lo hi : Int} {offs : Array Int} (hj : (vm_prog k)[j]? = some (pc, .tableswitch df lo hi offs, len, a, b, cx, d, z)) (hx : x = nI v) (hv : v < 10000 ∧ lo ≤ (v : Int) ∧ (v : Int) ≤ hi)
    (ht : (match offs[((v : Int) - lo).toNat]? with | some off => some ((pc : Int) + off).toNat | none => none) = some t) (h : vm_WM X k t L S M Q) : vm_WM X k pc L (.int x :: S) M Q := by
  subst hx
  have e : (nI v).toInt = (v : Int) := nI_toInt (by omega)
  refine vm_WP.act (vm_ins_of hj) rfl ?_ h
  simp only [vm_act]
  rw [e, if_neg (by omega)]
  cases ho : offs[((v : Int) - lo).toNat]? with
  | none => rw [ho] at ht; cases ht
  | some off => rw [ho] at ht; cases ht; rfl
theorem vm_sw_no {x : Int32} {lo n : Nat} (hn : lo + n < 10000) (h : ∀ q, q < n → ¬ x = nI (lo + q)) : x.toInt < (lo : Int) ∨ ((lo : Int) + n - 1) < x.toInt := by
  by_cases h1 : x.toInt < (lo : Int)
  · exact Or.inl h1
  · by_cases h2 : ((lo : Int) + n - 1) < x.toInt
    · exact Or.inr h2
    · exact absurd (Int32.toInt_inj.mp (by rw [nI_toInt (by omega)]; omega)) (h (x.toInt - lo).toNat (by omega))
theorem vm_rtZ {x : Int32} {k : Nat} (hk : vm_ret k = some .boolean) (h : x = 0 ∨ x = 1) : vm_rt k .ireturn [.int x] = some (some (.int x)) := by
  simp only [vm_rt, hk]
  rw [if_pos h]
theorem vm_WM.mm (w : Int32) (j : Nat) {i : Instr} {len a b cx d : Nat} {z : Int} {x y : Int32} (hj : (vm_prog k)[j]? = some (pc, i, len, a, b, cx, d, z)) (hk : vm_kd i = 2) (ha : a = 1002 ∨ a = 1003) (hw : (if a = 1002 then (if x < y then y else x) else (if y < x then y else x)) = w) (h6 : vm_wt S ≤ 8)
    (h : vm_WM X k (pc + 3) L (.int w :: S) M Q) : vm_WM X k pc L (.int y :: .int x :: S) M Q := vm_WP.mm j hj hk ha hw h6 h
end VMM
