/-! THE WORLD: numbered cells at real addresses -/
abbrev vm_G : Type := Nat × va_G × (Nat → ClassId) × (Nat → Nat) × (Nat → Nat) × Nat × Value
abbrev vm_D (G : vm_G) : va_G := G.2.1
abbrev vm_cA (G : vm_G) : Nat → ClassId := G.2.2.1
abbrev vm_aK (G : vm_G) : Nat → Nat := G.2.2.2.1
abbrev vm_aV (G : vm_G) : Nat → Nat := G.2.2.2.2.1
abbrev vm_bb (G : vm_G) : Nat := G.2.2.2.2.2.1
abbrev vm_fm (G : vm_G) : Value := G.2.2.2.2.2.2
abbrev vm_A (G : vm_G) : Nat → Prop := fun q => G.1 ≤ q
def vm_mp (G : vm_G) (i : Nat) : Value :=
  if i < 1000 then .ref (G.1 + i) else if i = 2000 then .ref (vm_bb G) else if i = 3000 then vm_fm G
  else if i % 2 = 0 then .ref (vm_aK G ((i - 1000) / 2)) else .ref (vm_aV G ((i - 1000) / 2))
def vm_v (G : vm_G) (v : Value) : Value := match v with
  | .ref i => vm_mp G i
  | .int x => .int x
  | .long x => .long x
  | .null => .null
  | .float x => .float x
  | .double x => .double x
  | .retAddr x => .retAddr x
theorem vm_mp_ref (G : vm_G) {i : Nat} (h : i ≠ 3000) : ∃ a, vm_mp G i = .ref a := by
  unfold vm_mp
  repeat' split
  all_goals first | exact ⟨_, rfl⟩ | contradiction
theorem vm_mp_lt (G : vm_G) {i : Nat} (h : i < 1000) : vm_mp G i = .ref (G.1 + i) := by unfold vm_mp; rw [if_pos h]
theorem vm_mp_scr (G : vm_G) : vm_mp G 2000 = .ref (vm_bb G) := rfl
theorem vm_mp_str (G : vm_G) {j : Nat} (h : j < 8) : vm_mp G (1000 + 2 * j) = .ref (vm_aK G j) := by
  unfold vm_mp
  rw [if_neg (by omega), if_neg (by omega), if_neg (by omega), if_pos (by omega), show (1000 + 2 * j - 1000) / 2 = j by omega]
theorem vm_mp_strv (G : vm_G) {j : Nat} (h : j < 8) : vm_mp G (1001 + 2 * j) = .ref (vm_aV G j) := by
  unfold vm_mp
  rw [if_neg (by omega), if_neg (by omega), if_neg (by omega), if_neg (by omega), show (1001 + 2 * j - 1000) / 2 = j by omega]
def vm_tyA (t : Nat) : FieldType := match t with
  | 0 => .int
  | 1 => .byte
  | _ => .boolean
def vm_ce (G : vm_G) (σ : vm_St) (i : Nat) (s : vm_Sh) : va_E :=
  if s.1 = 0 then .inr (s.2.1, (List.range s.2.2).map (fun j => vm_v G (vm_fv σ i s.2.1 j))) else .inl (vm_cA G s.2.1, s.2.2, .inl (σ.2.2 i))
def vm_ws (G : vm_G) (σ : vm_St) : va_W := (List.range σ.1.length).map (fun i => (G.1 + i, vm_ce G σ i (σ.1.getD i (0, 0, 0))))
theorem vm_ws_at (G : vm_G) {σ : vm_St} {r : Nat} {s : vm_Sh} (h : σ.1[r]? = some s) : (vm_ws G σ)[r]? = some (G.1 + r, vm_ce G σ r s) := by
  have hr : r < σ.1.length := (List.getElem?_eq_some_iff.mp h).1
  have h2 : σ.1[r] = s := (List.getElem?_eq_some_iff.mp h).2
  simp [vm_ws, hr, List.getD, h2]
theorem vm_ws_len (G : vm_G) (σ : vm_St) : (vm_ws G σ).length = σ.1.length := by simp [vm_ws]
theorem vm_ws_get (G : vm_G) {σ : vm_St} {r : Nat} {q : Nat × va_E} (h : (vm_ws G σ)[r]? = some q) : ∃ s, σ.1[r]? = some s ∧ q = (G.1 + r, vm_ce G σ r s) := by
  have hr : r < (vm_ws G σ).length := (List.getElem?_eq_some_iff.mp h).1
  rw [vm_ws_len] at hr
  refine ⟨σ.1[r], List.getElem?_eq_getElem hr, ?_⟩
  have h1 := vm_ws_at G (σ := σ) (List.getElem?_eq_getElem hr)
  exact Option.some.inj (h.symm.trans h1)
theorem vm_ce_same (G : vm_G) {σ σ' : vm_St} {i : Nat} (h1 : σ'.2.1 i = σ.2.1 i) (h2 : σ'.2.2 i = σ.2.2 i) (s : vm_Sh) : vm_ce G σ' i s = vm_ce G σ i s := by
  simp only [vm_ce, vm_fv, h1, h2]
theorem vm_ws_set (G : vm_G) {σ σ' : vm_St} {r : Nat} {s : vm_Sh} (h : σ.1[r]? = some s) (h0 : σ'.1 = σ.1) (h1 : ∀ i, i ≠ r → σ'.2.1 i = σ.2.1 i) (h2 : ∀ i, i ≠ r → σ'.2.2 i = σ.2.2 i) : vm_ws G σ' = (vm_ws G σ).set r (G.1 + r, vm_ce G σ' r s) := by
  apply List.ext_getElem?
  intro i
  by_cases hi : i = r
  · subst hi
    rw [vm_ws_at G (by rw [h0]; exact h), List.getElem?_set_self (by rw [vm_ws_len]; exact (List.getElem?_eq_some_iff.mp h).1)]
  · rw [List.getElem?_set_ne (Ne.symm hi)]
    by_cases hl : i < σ.1.length
    · rw [vm_ws_at G (by rw [h0]; exact List.getElem?_eq_getElem hl), vm_ws_at G (List.getElem?_eq_getElem hl), vm_ce_same G (h1 i hi) (h2 i hi)]
    · rw [List.getElem?_eq_none (by rw [vm_ws_len, h0]; omega), List.getElem?_eq_none (by rw [vm_ws_len]; omega)]
theorem vm_ws_D (G : vm_G) (σ : vm_St) : va_D (vm_A G) (vm_ws G σ) := by
  refine ⟨fun i j p q hi hj hpq => ?_, fun k q hk => ?_⟩
  · obtain ⟨s1, -, rfl⟩ := vm_ws_get G hi
    obtain ⟨s2, -, rfl⟩ := vm_ws_get G hj
    have : G.1 + i = G.1 + j := hpq
    omega
  · obtain ⟨s1, -, rfl⟩ := vm_ws_get G hk
    exact Nat.le_add_right _ _
def vm_nw (w : Cond) : Bool := match w with
  | .fieldLinkNest .. => true
  | .methodLinkNest .. => true
  | _ => false
abbrev vm_tys (G : vm_G) : List (ClassId × FieldType) := [(vm_cA G 0, .int), (vm_cA G 1, .byte), (vm_cA G 2, .boolean)]
def vm_KW (G : vm_G) (U : State) : Prop := va_K (vm_D G) vwCl (vm_tys G) U ∧ (∀ w ∈ tables_1, vm_nw w = true → va_Nw w U) ∧ ∀ i, i < 8 → vk_R RX5 (vm_strO.getD i 0) (vm_strT.getD i "") (vm_aK G i) U
def vm_XW (G : vm_G) (X : Nat × (Nat → Int32)) (U : State) (H : Heap) : Prop := va_X (vm_bb G) X.1 X.2 U H ∧ vm_bb G < G.1 ∧ vk_S 8 (vm_strB.map List.length) vm_strB (vm_aK G) (vm_aV G) (vm_A G) U H ∧
  va_Z "java/lang/String" "COMPACT_STRINGS" "Z" (.int 1) (vm_A G) U H ∧ va_Z "jdk/internal/util/Preconditions" "SIOOBE_FORMATTER" "Ljava/util/function/BiFunction;" (vm_fm G) (vm_A G) U H ∧ (vm_fm G = .null ∨ ∃ a, vm_fm G = .ref a)
def vm_WF (σ : vm_St) : Prop := σ.1.length ≤ 1000 ∧ ∀ (r : Nat) (s : vm_Sh), σ.1[r]? = some s → (s.1 = 0 ∧ s.2.1 < 8 ∧ s.2.2 = (vm_cls s.2.1).2.2) ∨ (s.1 = 1 ∧ s.2.1 < 3)
def vm_PW (G : vm_G) (σ : vm_St) (H : Heap) : Prop := va_P (vm_D G) vwCl (vm_ws G σ) H ∧ G.1 + σ.1.length = H.size ∧ vm_WF σ
theorem vm_KW.warm {G : vm_G} {s U : State} (hW : s.WarmedH U.vm) (h : vm_KW G s) : vm_KW G U := by
  refine ⟨va_K.moved hW.alike h.1, fun w hw hn => ?_, fun i hi => (h.2.2 i hi).warm hW⟩
  have h1 := h.2.1 w hw hn
  cases w <;> first | (cases hn; done) | exact va_Nw.warmF hW h1 | exact va_Nw.warmM hW h1
theorem vm_XW.warm {G : vm_G} {X : Nat × (Nat → Int32)} {s U : State} {H : Heap} (hW : s.vm.Alike U.vm) (h : vm_XW G X s H) : vm_XW G X U H :=
  ⟨va_X.moved hW h.1, h.2.1, vk_S.moved hW h.2.2.1, va_Z.moved hW h.2.2.2.1, va_Z.moved hW h.2.2.2.2.1, h.2.2.2.2.2⟩
theorem vm_XW.kept {G : vm_G} {X : Nat × (Nat → Int32)} {s : State} {H H1 : Heap} (h : vm_XW G X s H) (hb : vm_bb G < H.size) (hq : ∀ a : Nat, a < H.size → ¬ vm_A G a → H1[a]? = H[a]?) : vm_XW G X s H1 :=
  ⟨va_X.kept h.1 (hq _ hb (Nat.not_le.mpr h.2.1)), h.2.1, vk_S.kept h.2.2.1 hq, va_Z.kept h.2.2.2.1 hq, va_Z.kept h.2.2.2.2.1 hq, h.2.2.2.2.2⟩
theorem vm_XW.lt {G : vm_G} {X : Nat × (Nat → Int32)} {s : State} {H : Heap} (h : vm_XW G X s H) : vm_bb G < H.size := by
  obtain ⟨⟨scr, h1, -⟩, -⟩ := h
  exact (Array.getElem?_eq_some_iff.mp h1).1
/-! locals -/
def vm_LV (G : vm_G) (ls : Array Slot) (n : Nat) (L : List Value) : Prop := ls.size = n ∧ lv_wf ls ∧ L.length = n ∧ ∀ (i : Nat) (v : Value), L[i]? = some v → v ≠ .null → ls[i]? = some (.val (vm_v G v))
def vm_ll (G : vm_G) (L : List Value) : List (Nat × Value) := (List.range L.length).filterMap (fun j => match vm_lg L j with
  | .null => none
  | v => some (j, vm_v G v))
theorem vm_lg_get {L : List Value} {i : Nat} {v : Value} (h : vm_lg L i = v) (hv : v ≠ .null) : L[i]? = some v := by
  unfold vm_lg at h
  rw [List.getD_eq_getElem?_getD] at h
  cases hx : L[i]? with
  | none => rw [hx] at h; exact absurd h.symm hv
  | some w => rw [hx] at h; exact congrArg some h
theorem vm_ll_mem {G : vm_G} {L : List Value} {i : Nat} {w : Value} : (i, w) ∈ vm_ll G L ↔ ∃ v, L[i]? = some v ∧ v ≠ .null ∧ w = vm_v G v := by
  unfold vm_ll
  rw [List.mem_filterMap]
  constructor
  · rintro ⟨j, hj, hm⟩
    split at hm
    · cases hm
    · next v hv =>
      cases hm
      exact ⟨_, vm_lg_get rfl (fun e => hv e), fun e => hv e, rfl⟩
  · rintro ⟨v, h1, h2, rfl⟩
    refine ⟨i, List.mem_range.mpr (List.getElem?_eq_some_iff.mp h1).1, ?_⟩
    have h3 : vm_lg L i = v := by unfold vm_lg; rw [List.getD_eq_getElem?_getD, h1]; rfl
    rw [h3]
    cases v <;> first | rfl | exact absurd rfl h2
theorem vm_LV.has {G : vm_G} {ls : Array Slot} {n : Nat} {L : List Value} (h : vm_LV G ls n L) : lv_has ls n (vm_ll G L) := by
  refine ⟨h.1, h.2.1, fun q hq => ?_⟩
  obtain ⟨v, h1, h2, h3⟩ := vm_ll_mem.mp (show (q.1, q.2) ∈ vm_ll G L from hq)
  rw [h3]
  exact h.2.2.2 _ _ h1 h2
theorem vm_LV.at {G : vm_G} {ls : Array Slot} {n : Nat} {L : List Value} (h : vm_LV G ls n L) {i : Nat} {v : Value} (hv : vm_lg L i = v) (hn : v ≠ .null) : ls[i]? = some (.val (vm_v G v)) := h.2.2.2 _ _ (vm_lg_get hv hn) hn
theorem vm_v_cat (G : vm_G) (hf : vm_fm G = .null ∨ ∃ a, vm_fm G = .ref a) (v : Value) : (vm_v G v).category = v.category := by
  cases v with
  | ref i =>
    show (vm_mp G i).category = 1
    unfold vm_mp
    repeat' split
    · rfl
    · rfl
    · rcases hf with h | ⟨a, h⟩ <;> rw [h] <;> rfl
    · rfl
    · rfl
  | _ => rfl
theorem vm_ls_len (L : List Value) (i : Nat) (v : Value) : (vm_ls L i v).length = L.length := by
  unfold vm_ls
  repeat' split
  all_goals simp
theorem vm_ls_get {L : List Value} {i j : Nat} {v w : Value} (hj : j ≠ i) (h : (vm_ls L i v)[j]? = some w) (hw : w ≠ .null) : L[j]? = some w ∧ ¬ (j + 1 = i ∧ w.category = 2) := by
  unfold vm_ls at h
  split at h
  · rw [List.getElem?_set_ne (Ne.symm hj)] at h
    exact ⟨h, fun q => by omega⟩
  · next k =>
    have key : ∀ (z : Value), vm_lg L k = z → z.category = 2 → ((L.set k .null).set (k + 1) v)[j]? = some w → L[j]? = some w ∧ ¬ (j + 1 = k + 1 ∧ w.category = 2) := by
      intro z hz hc h
      rw [List.getElem?_set_ne (Ne.symm hj)] at h
      by_cases hjk : j = k
      · subst hjk
        by_cases hl : j < L.length
        · rw [List.getElem?_set_self hl] at h
          exact absurd (Option.some.inj h).symm hw
        · rw [List.getElem?_eq_none (by simp; omega)] at h
          cases h
      · rw [List.getElem?_set_ne (Ne.symm hjk)] at h
        exact ⟨h, fun q => by omega⟩
    have key2 : ∀ (z : Value), vm_lg L k = z → ¬ z.category = 2 → (L.set (k + 1) v)[j]? = some w → L[j]? = some w ∧ ¬ (j + 1 = k + 1 ∧ w.category = 2) := by
      intro z hz hc h9
      rw [List.getElem?_set_ne (Ne.symm hj)] at h9
      refine ⟨h9, fun q => ?_⟩
      have e : j = k := by omega
      have e2 : vm_lg L k = w := by unfold vm_lg; rw [List.getD_eq_getElem?_getD, ← e, h9]; rfl
      rw [← hz, e2] at hc
      exact hc q.2
    split at h
    · next x hx => exact key _ hx rfl h
    · next x hx => exact key _ hx rfl h
    · next hx1 hx2 =>
      refine key2 _ rfl ?_ h
      cases hz : vm_lg L k with
      | long x => exact absurd hz (hx1 x)
      | double x => exact absurd hz (hx2 x)
      | _ => simp [Value.category]
theorem vm_ls_self {L : List Value} {i : Nat} {v : Value} (hi : i < L.length) : (vm_ls L i v)[i]? = some v := by
  unfold vm_ls
  repeat' split
  all_goals (rw [List.getElem?_set_self]; first | exact hi | (simp; exact hi))
theorem vm_LV.st1 {G : vm_G} (hf : vm_fm G = .null ∨ ∃ a, vm_fm G = .ref a) {ls ls' : Array Slot} {n : Nat} {L : List Value} {i : Nat} {v : Value} (h : vm_LV G ls n L) (hi : i < L.length)
    (h2 : lv_has ls' n ((i, vm_v G v) :: (vm_ll G L).filter (fun q => !(q.1 == i) && !(q.1 + 1 == i && q.2.category == 2)))) : vm_LV G ls' n (vm_ls L i v) := by
  refine ⟨h2.1, h2.2.1, by rw [vm_ls_len]; exact h.2.2.1, fun j w hj hw => ?_⟩
  by_cases hji : j = i
  · subst hji
    rw [vm_ls_self hi] at hj
    cases hj
    exact h2.2.2 _ List.mem_cons_self
  · obtain ⟨g1, g2⟩ := vm_ls_get hji hj hw
    refine h2.2.2 (j, vm_v G w) (List.mem_cons_of_mem _ (List.mem_filter.mpr ⟨vm_ll_mem.mpr ⟨w, g1, hw, rfl⟩, ?_⟩))
    have : ¬ (j + 1 = i ∧ (vm_v G w).category = 2) := by rw [vm_v_cat G hf]; exact g2
    by_cases a : j + 1 = i
    · have hc : ¬ (vm_v G w).category = 2 := fun q => this ⟨a, q⟩
      simp [hji, hc]
    · simp [hji, a]
theorem vm_LV.st2 {G : vm_G} (hf : vm_fm G = .null ∨ ∃ a, vm_fm G = .ref a) {ls ls' : Array Slot} {n : Nat} {L : List Value} {i : Nat} {v : Value} (h : vm_LV G ls n L) (hi : i + 1 < L.length)
    (h2 : lv_has ls' n ((i, vm_v G v) :: (vm_ll G L).filter (fun q => !(q.1 == i) && (!(q.1 == i + 1) && !(q.1 + 1 == i && q.2.category == 2))))) : vm_LV G ls' n (vm_ls2 L i v) := by
  unfold vm_ls2
  refine ⟨h2.1, h2.2.1, by rw [List.length_set, vm_ls_len]; exact h.2.2.1, fun j w hj hw => ?_⟩
  by_cases hj1 : j = i + 1
  · subst hj1
    rw [List.getElem?_set_self (by rw [vm_ls_len]; exact hi)] at hj
    exact absurd (Option.some.inj hj).symm hw
  rw [List.getElem?_set_ne (Ne.symm hj1)] at hj
  by_cases hji : j = i
  · subst hji
    rw [vm_ls_self (by omega)] at hj
    cases hj
    exact h2.2.2 _ List.mem_cons_self
  · obtain ⟨g1, g2⟩ := vm_ls_get hji hj hw
    refine h2.2.2 (j, vm_v G w) (List.mem_cons_of_mem _ (List.mem_filter.mpr ⟨vm_ll_mem.mpr ⟨w, g1, hw, rfl⟩, ?_⟩))
    have : ¬ (j + 1 = i ∧ (vm_v G w).category = 2) := by rw [vm_v_cat G hf]; exact g2
    by_cases a : j + 1 = i
    · have hc : ¬ (vm_v G w).category = 2 := fun q => this ⟨a, q⟩
      simp [hji, hj1, hc]
    · simp [hji, hj1, a]
