/-! names, as numbers and by their letters -/
abbrev tkI (b : Nat → Nat) (L s : Nat) (W : List Nat) : Prop := tkK b L s = 1 ∧ tkE b L s = s + W.length ∧ ∀ i, i < W.length → b (s + i) = W.getD i 0
def tk_nm (b : Nat → Nat) (s : Nat) : Nat → Nat
  | 0 => 0
  | n + 1 => 256 * tk_nm b s n + b (s + n)
theorem tk_nm_lt {b : Nat → Nat} {s : Nat} : ∀ n, (∀ i, i < n → b (s + i) < 256) → tk_nm b s n < 256 ^ n
  | 0, _ => Nat.lt_add_one 0
  | n + 1, h => by
    have ih := tk_nm_lt n (fun i hi => h i (by omega))
    have := h n (by omega)
    rw [tk_nm, Nat.pow_succ]
    omega
theorem tk_nm_inj {b c : Nat → Nat} {s t : Nat} : ∀ n m, (∀ i, i < n → 1 ≤ b (s + i) ∧ b (s + i) < 256) → (∀ i, i < m → 1 ≤ c (t + i) ∧ c (t + i) < 256) → tk_nm b s n = tk_nm c t m → n = m ∧ ∀ i, i < n → b (s + i) = c (t + i)
  | 0, 0, _, _, _ => ⟨rfl, fun i hi => absurd hi (by omega)⟩
  | 0, m + 1, _, h2, h => by
    have := h2 m (by omega)
    rw [tk_nm, tk_nm] at h
    omega
  | n + 1, 0, h1, _, h => by
    have := h1 n (by omega)
    rw [tk_nm, tk_nm] at h
    omega
  | n + 1, m + 1, h1, h2, h => by
    have g1 := h1 n (by omega)
    have g2 := h2 m (by omega)
    rw [tk_nm, tk_nm] at h
    obtain ⟨e1, e2⟩ := tk_nm_inj n m (fun i hi => h1 i (by omega)) (fun i hi => h2 i (by omega)) (by omega)
    subst e1
    refine ⟨rfl, fun i hi => ?_⟩
    by_cases hin : i = n
    · subst hin; omega
    · exact e2 i (by omega)
theorem tk_o64 {n : Nat} (h : n < 2 ^ 63) : (Int64.ofNat n).toInt = n := Int64.toInt_ofNat_of_lt h
theorem tk_o64_eq {n m : Nat} (hn : n < 2 ^ 63) (hm : m < 2 ^ 63) : Int64.ofNat n = Int64.ofNat m ↔ n = m := by
  rw [← Int64.toInt_inj, tk_o64 hn, tk_o64 hm]
  omega
theorem tk_i64 {x v : Nat} (hx : x < 2 ^ 48) (hv : v < 256) : ((Int64.ofNat x) <<< ((nI 8).toInt64 &&& 63)) ||| (nI v).toInt64 = Int64.ofNat (256 * x + v) := by
  have e8 : (nI 8).toInt64 &&& 63 = 8 := by decide
  have ev : (nI v).toInt64 = Int64.ofNat v := by
    rw [← Int64.toInt_inj, vm_i64, tk_o64 (by omega), nI_toInt (by omega)]
  rw [e8, ev]
  apply Int64.eq_iff_toBitVec_eq.mpr
  have e9 : (8 : Int64).toBitVec.smod 64 = 8#64 := by decide
  rw [Int64.toBitVec_or, Int64.toBitVec_shiftLeft, e9]
  show (BitVec.ofNat 64 x <<< 8#64 ||| BitVec.ofNat 64 v) = BitVec.ofNat 64 (256 * x + v)
  apply BitVec.eq_of_toNat_eq
  have e10 : (8#64).toNat = 8 := rfl
  rw [BitVec.toNat_or, BitVec.shiftLeft_eq', BitVec.toNat_shiftLeft, e10, BitVec.toNat_ofNat, BitVec.toNat_ofNat, BitVec.toNat_ofNat, Nat.mod_eq_of_lt (show x < 2 ^ 64 by omega), Nat.mod_eq_of_lt (show v < 2 ^ 64 by omega), Nat.mod_eq_of_lt (show 256 * x + v < 2 ^ 64 by omega)]
  have e11 : x <<< 8 = x * 256 := by rw [Nat.shiftLeft_eq]
  rw [Nat.mod_eq_of_lt (by rw [e11]; omega), ← Nat.shiftLeft_add_eq_or_of_lt (show v < 2 ^ 8 by omega), e11]
  omega
/-- what the reference's name says of a name -/
def tkN (b : Nat → Nat) (L s : Nat) : Int64 := if tkK b L s = 1 ∧ tkE b L s - s < 8 then Int64.ofNat (tk_nm b s (tkE b L s - s)) else Int64.ofNat 0
theorem tkN_eq {b : Nat → Nat} {L s : Nat} {W : List Nat} (h1 : 1 ≤ W.length) (h7 : W.length ≤ 7) (hW : ∀ i, i < W.length → 1 ≤ W.getD i 0 ∧ W.getD i 0 < 256) : tkN b L s = Int64.ofNat (tk_nm (fun i => W.getD i 0) 0 W.length) ↔ tkI b L s W := by
  have hWv : tk_nm (fun i => W.getD i 0) 0 W.length < 2 ^ 63 := by
    have h9 := tk_nm_lt (b := fun i => W.getD i 0) (s := 0) W.length (fun i hi => by rw [Nat.zero_add]; exact (hW i hi).2)
    have h10 : 256 ^ W.length ≤ 256 ^ 7 := Nat.pow_le_pow_right (by decide) h7
    omega
  have hWp : tk_nm (fun i => W.getD i 0) 0 W.length ≠ 0 := by
    intro q
    have := tk_nm_inj (b := fun i => W.getD i 0) (c := fun i => W.getD i 0) (s := 0) (t := 0) W.length 0 (fun i hi => by rw [Nat.zero_add]; exact hW i hi) (fun i hi => absurd hi (by omega)) q
    omega
  unfold tkN
  by_cases hk : tkK b L s = 1
  · obtain ⟨g1, g2, g3⟩ := tkK_1 hk
    have hlt : ∀ i, i < tkE b L s - s → 97 ≤ b (s + i) ∧ b (s + i) ≤ 122 := fun i hi => tk_lt_v (tk_to_all (L := L) (p := tk_lt) (e := s) (by omega) (by rw [← g3]; omega))
    have hge := tkE_ge b L s
    by_cases h8 : tkE b L s - s < 8
    · rw [if_pos ⟨hk, h8⟩]
      have hv : tk_nm b s (tkE b L s - s) < 2 ^ 63 := by
        have h9 := tk_nm_lt (b := b) (s := s) (tkE b L s - s) (fun i hi => by have := hlt i hi; omega)
        have h10 : 256 ^ (tkE b L s - s) ≤ 256 ^ 7 := Nat.pow_le_pow_right (by decide) (by omega)
        omega
      rw [tk_o64_eq hv hWv]
      constructor
      · intro q
        obtain ⟨q1, q2⟩ := tk_nm_inj _ _ (fun i hi => by have := hlt i hi; omega) (fun i hi => by rw [Nat.zero_add]; exact hW i hi) q
        refine ⟨hk, by omega, fun i hi => ?_⟩
        have := q2 i (by omega)
        rwa [Nat.zero_add] at this
      · rintro ⟨_, q1, q2⟩
        rw [show tkE b L s - s = W.length by omega]
        clear hv hWv hWp hlt
        have : ∀ n, n ≤ W.length → tk_nm b s n = tk_nm (fun i => W.getD i 0) 0 n := by
          intro n
          induction n with
          | zero => intro _; rfl
          | succ n ih =>
            intro hn
            rw [tk_nm, tk_nm, ih (by omega), q2 n (by omega), Nat.zero_add]
        exact this _ (Nat.le_refl _)
    · rw [if_neg (fun q => h8 q.2), tk_o64_eq (by omega) hWv]
      exact ⟨fun q => absurd q.symm hWp, fun q => absurd q.2.1 (by omega)⟩
  · rw [if_neg (fun q => hk q.1), tk_o64_eq (by omega) hWv]
    exact ⟨fun q => absurd q.symm hWp, fun q => absurd q.1 hk⟩
section TW
variable {X : Nat × (Nat → Int32)} {M : vm_M} {b : Nat → Nat} {L : Nat}
theorem s_M_name {P : Int64 → vm_M → Prop} {s : Nat} (hT : tmT b L M) (hs : s ≤ L) (hk : tmK b L s M) (h0 : M 48 17 = 0 → P (tkN b L s) M) (h1 : ¬ M 48 17 = 0 → P (Int64.ofNat 0) M) : E_M_name X M P := by
  obtain ⟨hL, e12, hb⟩ := id hT
  obtain ⟨k15, k16, k13, k14⟩ := hk
  have hge := tkE_ge b L s
  have hle := tkE_le (b := b) hs
  have hkl := tkK_le b L s
  apply v_M_name
  rw [k15]
  unfold tkN at h0
  by_cases hk : tkK b L s = 1
  · have k14' : M 48 14 = nI 2 := by rw [k14, hk]; rfl
    by_cases h8 : tkE b L s - s < 8
    · rw [if_pos ⟨hk, h8⟩] at h0
      have loop : ∀ n j, s + j + n = tkE b L s → C_M_name_7 X (Int64.ofNat (tk_nm b s j)) .null (nI (s + j)) M P := by
        intro n
        induction n with
        | zero =>
          intro j hj
          apply v_M_name_7
          rw [k16, nI_ltI (by omega) (by omega)]
          rw [show tkE b L s - s = j by omega] at h0
          exact ⟨fun q => absurd q (by omega), fun _ => ⟨h0, h1⟩⟩
        | succ n ih =>
          intro j hj
          apply v_M_name_7
          rw [k16, k14', k15, nI_ltI (by omega) (by omega), pk_sub hge, nI_ltI (by omega) (by omega)]
          refine ⟨fun _ => ⟨fun _ => ⟨fun _ => ?_, fun q => absurd h8 q⟩, fun q => absurd rfl q⟩, fun q => absurd (by omega) q⟩
          have hbj := hb (s + j) (by omega)
          rw [vm_ex (by omega) (by omega), hbj.2]
          have hx : tk_nm b s j < 2 ^ 48 := by
            have h9 := tk_nm_lt (b := b) (s := s) j (fun i hi => (hb (s + i) (by omega)).1)
            have h10 : 256 ^ j ≤ 256 ^ 6 := Nat.pow_le_pow_right (by decide) (by omega)
            omega
          rw [tk_i64 hx hbj.1, vm_add]
          exact ih (j + 1) (by omega)
      exact loop (tkE b L s - s) 0 (by omega)
    · rw [if_neg (fun q => h8 q.2)] at h0
      apply v_M_name_7
      rw [k16, k14', k15, pk_sub hge, nI_ltI (a := tkE b L s - s) (b := 8) (by omega) (by omega)]
      exact ⟨fun _ => ⟨fun _ => ⟨fun q => absurd q h8, fun _ => ⟨h0, h1⟩⟩, fun q => absurd rfl q⟩, fun _ => ⟨h0, h1⟩⟩
  · rw [if_neg (fun q => hk q.1)] at h0
    apply v_M_name_7
    have k14' : ¬ M 48 14 = nI 2 := by
      rw [k14]
      unfold tkm
      split
      · decide
      · rw [nI_eq (by omega) (by omega)]; omega
    exact ⟨fun _ => ⟨fun q => absurd q k14', fun _ => ⟨h0, h1⟩⟩, fun _ => ⟨h0, h1⟩⟩
theorem tkm_eq {b : Nat → Nat} {L s : Nat} {c : Nat} (hc : c < 4) : nI (tkm (tkK b L s)) = nI (c + 1) ↔ tkK b L s = c := by
  have hkl := tkK_le b L s
  unfold tkm
  split
  · rw [nI_eq (by omega) (by omega)]; omega
  · rw [nI_eq (by omega) (by omega)]; omega
theorem s_M_figures {P : Int32 → vm_M → Prop} {s : Nat} (hT : tmT b L M) (hs : s ≤ L) (hk : tmK b L s M) (h1 : tkK b L s = 2 → P (nI (tkV b L s)) M) (h0 : ¬ tkK b L s = 2 → P (nI 0) M) : E_M_figures X M P := by
  obtain ⟨hL, e12, hb⟩ := id hT
  obtain ⟨k15, k16, k13, k14⟩ := hk
  have hge := tkE_ge b L s
  have hle := tkE_le (b := b) hs
  apply v_M_figures
  rw [k15]
  by_cases hk : tkK b L s = 2
  · obtain ⟨g1, g2, g3, g4⟩ := tkK_2 hk
    have hfg : ∀ i, i < tkE b L s - s → 48 ≤ b (s + i) ∧ b (s + i) ≤ 57 := fun i hi => tk_fg_v (tk_to_all (L := L) (p := tk_fg) (e := s) (by omega) (by rw [← g3]; omega))
    have k14' : M 48 14 = nI 3 := by rw [k14, hk]; rfl
    have loop : ∀ n j, s + j + n = tkE b L s → C_M_figures_7 X (nI (tk_val b s j)) (nI (s + j)) M P := by
      intro n
      induction n with
      | zero =>
        intro j hj
        apply v_M_figures_7
        rw [k16, nI_ltI (by omega) (by omega)]
        have := h1 hk
        unfold tkV at this
        rw [show tkE b L s - s = j by omega] at this
        exact ⟨fun q => absurd q (by omega), fun _ => this⟩
      | succ n ih =>
        intro j hj
        apply v_M_figures_7
        rw [k16, k14', nI_ltI (by omega) (by omega)]
        refine ⟨fun _ => ⟨fun _ => ?_, fun q => absurd rfl q⟩, fun q => absurd (by omega) q⟩
        have hbj := hb (s + j) (by omega)
        have := hfg j (by omega)
        rw [vm_ex (by omega) (by omega), hbj.2, vm_mul, vm_add, pk_sub (by omega), vm_add]
        exact ih (j + 1) (by omega)
    exact loop (tkE b L s - s) 0 (by omega)
  · apply v_M_figures_7
    have k14' : ¬ M 48 14 = nI 3 := by rw [k14, tkm_eq (by omega)]; exact hk
    exact ⟨fun _ => ⟨fun q => absurd q k14', fun _ => h0 hk⟩, fun _ => h0 hk⟩
def tkW0 : List Nat := [110, 105, 103, 104, 116]
theorem s_isWord0 {P : Int32 → vm_M → Prop} {s : Nat} (hT : tcT b L M) (hs : s ≤ L) (hk : tcK b L s M) (h1 : tkI b L s tkW0 → P (nI 1) M) (h0 : ¬ tkI b L s tkW0 → P (nI 0) M) : E_Tape_isWord_1000 X M P := by
  obtain ⟨hL, e12, hb⟩ := id hT
  obtain ⟨k2, k3, k4, k5⟩ := hk
  have hge := tkE_ge b L s
  have hle := tkE_le (b := b) hs
  have hkl := tkK_le b L s
  have esh : (nI 5) >>> ((0 : Int32) &&& 31) = nI 5 := by decide
  have hch : ∀ j, j < 5 → ((((((vm_strB.getD 0 []).getD j 0) &&& (nI 255))).toUInt32 % 65536).toInt32) = nI (tkW0.getD j 0) ∧ tkW0.getD j 0 < 128 := by decide
  apply v_Tape_isWord_1000
  rw [k4, k3, k2, esh, pk_sub hge, nI_eq (by omega) (by omega), nI_eq (by omega) (by omega)]
  refine ⟨fun g1 => ⟨fun g2 => ?_, fun g2 => h0 (fun q => g2 (by have : tkW0.length = 5 := rfl; omega))⟩, fun g1 => h0 (fun q => g1 q.1)⟩
  have loop : ∀ n j, j + n = 5 → (∀ i, i < j → b (s + i) = tkW0.getD i 0) → C_Tape_isWord_1000_28 X (nI j) M P := by
    intro n
    induction n with
    | zero =>
      intro j hj hall
      apply v_Tape_isWord_1000_28
      rw [esh, nI_ltI (by omega) (by omega)]
      refine ⟨fun q => absurd q (by omega), fun _ => h1 ⟨g1, ?_, fun i hi => hall i ?_⟩⟩
      · have : tkW0.length = 5 := rfl
        omega
      · have : tkW0.length = 5 := rfl
        omega
    | succ n ih =>
      intro j hj hall
      have hbj := hb (s + j) (by omega)
      have hcj := hch j (by omega)
      apply v_Tape_isWord_1000_28
      rw [esh, nI_ltI (by omega) (by omega), k2, vm_add, vm_ex (by omega) (by omega)]
      refine ⟨fun _ => ⟨fun q => nI_pos (by omega) q, fun _ => ⟨fun _ => ⟨j, rfl, by show j < 5; omega, ?_⟩, fun q => absurd (by omega) q⟩⟩, fun q => absurd (by omega) q⟩
      rw [hcj.1, hbj.2, tk_sv_eq hbj.1 hcj.2, vm_add]
      refine ⟨fun q => ih (j + 1) (by omega) (fun i hi => ?_), fun q => h0 (fun q2 => q (q2.2.2 j ?_))⟩
      · by_cases hij : i = j
        · rw [hij]; exact q
        · exact hall i (by omega)
      · show j < 5
        omega
  exact loop 5 0 (by omega) (fun i hi => absurd hi (by omega))
theorem tkN_0 (s : Nat) : lg_cmp (tkN b L s) (Int64.ofInt 474214787188) = 0 ↔ tkI b L s tkW0 := by
  have e : Int64.ofInt 474214787188 = Int64.ofNat (tk_nm (fun i => tkW0.getD i 0) 0 tkW0.length) := by decide +kernel
  rw [lg_cmp_eq, e]
  exact tkN_eq (by decide) (by decide) (by decide)
def tkW1 : List Nat := [116, 114, 97, 100, 101, 114]
theorem s_isWord1 {P : Int32 → vm_M → Prop} {s : Nat} (hT : tcT b L M) (hs : s ≤ L) (hk : tcK b L s M) (h1 : tkI b L s tkW1 → P (nI 1) M) (h0 : ¬ tkI b L s tkW1 → P (nI 0) M) : E_Tape_isWord_1002 X M P := by
  obtain ⟨hL, e12, hb⟩ := id hT
  obtain ⟨k2, k3, k4, k5⟩ := hk
  have hge := tkE_ge b L s
  have hle := tkE_le (b := b) hs
  have hkl := tkK_le b L s
  have esh : (nI 6) >>> ((0 : Int32) &&& 31) = nI 6 := by decide
  have hch : ∀ j, j < 6 → ((((((vm_strB.getD 1 []).getD j 0) &&& (nI 255))).toUInt32 % 65536).toInt32) = nI (tkW1.getD j 0) ∧ tkW1.getD j 0 < 128 := by decide
  apply v_Tape_isWord_1002
  rw [k4, k3, k2, esh, pk_sub hge, nI_eq (by omega) (by omega), nI_eq (by omega) (by omega)]
  refine ⟨fun g1 => ⟨fun g2 => ?_, fun g2 => h0 (fun q => g2 (by have : tkW1.length = 6 := rfl; omega))⟩, fun g1 => h0 (fun q => g1 q.1)⟩
  have loop : ∀ n j, j + n = 6 → (∀ i, i < j → b (s + i) = tkW1.getD i 0) → C_Tape_isWord_1002_28 X (nI j) M P := by
    intro n
    induction n with
    | zero =>
      intro j hj hall
      apply v_Tape_isWord_1002_28
      rw [esh, nI_ltI (by omega) (by omega)]
      refine ⟨fun q => absurd q (by omega), fun _ => h1 ⟨g1, ?_, fun i hi => hall i ?_⟩⟩
      · have : tkW1.length = 6 := rfl
        omega
      · have : tkW1.length = 6 := rfl
        omega
    | succ n ih =>
      intro j hj hall
      have hbj := hb (s + j) (by omega)
      have hcj := hch j (by omega)
      apply v_Tape_isWord_1002_28
      rw [esh, nI_ltI (by omega) (by omega), k2, vm_add, vm_ex (by omega) (by omega)]
      refine ⟨fun _ => ⟨fun q => nI_pos (by omega) q, fun _ => ⟨fun _ => ⟨j, rfl, by show j < 6; omega, ?_⟩, fun q => absurd (by omega) q⟩⟩, fun q => absurd (by omega) q⟩
      rw [hcj.1, hbj.2, tk_sv_eq hbj.1 hcj.2, vm_add]
      refine ⟨fun q => ih (j + 1) (by omega) (fun i hi => ?_), fun q => h0 (fun q2 => q (q2.2.2 j ?_))⟩
      · by_cases hij : i = j
        · rw [hij]; exact q
        · exact hall i (by omega)
      · show j < 6
        omega
  exact loop 6 0 (by omega) (fun i hi => absurd hi (by omega))
theorem tkN_1 (s : Nat) : lg_cmp (tkN b L s) (Int64.ofInt 128034609063282) = 0 ↔ tkI b L s tkW1 := by
  have e : Int64.ofInt 128034609063282 = Int64.ofNat (tk_nm (fun i => tkW1.getD i 0) 0 tkW1.length) := by decide +kernel
  rw [lg_cmp_eq, e]
  exact tkN_eq (by decide) (by decide) (by decide)
def tkW2 : List Nat := [98, 97, 107, 101, 114]
theorem s_isWord2 {P : Int32 → vm_M → Prop} {s : Nat} (hT : tcT b L M) (hs : s ≤ L) (hk : tcK b L s M) (h1 : tkI b L s tkW2 → P (nI 1) M) (h0 : ¬ tkI b L s tkW2 → P (nI 0) M) : E_Tape_isWord_1004 X M P := by
  obtain ⟨hL, e12, hb⟩ := id hT
  obtain ⟨k2, k3, k4, k5⟩ := hk
  have hge := tkE_ge b L s
  have hle := tkE_le (b := b) hs
  have hkl := tkK_le b L s
  have esh : (nI 5) >>> ((0 : Int32) &&& 31) = nI 5 := by decide
  have hch : ∀ j, j < 5 → ((((((vm_strB.getD 2 []).getD j 0) &&& (nI 255))).toUInt32 % 65536).toInt32) = nI (tkW2.getD j 0) ∧ tkW2.getD j 0 < 128 := by decide
  apply v_Tape_isWord_1004
  rw [k4, k3, k2, esh, pk_sub hge, nI_eq (by omega) (by omega), nI_eq (by omega) (by omega)]
  refine ⟨fun g1 => ⟨fun g2 => ?_, fun g2 => h0 (fun q => g2 (by have : tkW2.length = 5 := rfl; omega))⟩, fun g1 => h0 (fun q => g1 q.1)⟩
  have loop : ∀ n j, j + n = 5 → (∀ i, i < j → b (s + i) = tkW2.getD i 0) → C_Tape_isWord_1004_28 X (nI j) M P := by
    intro n
    induction n with
    | zero =>
      intro j hj hall
      apply v_Tape_isWord_1004_28
      rw [esh, nI_ltI (by omega) (by omega)]
      refine ⟨fun q => absurd q (by omega), fun _ => h1 ⟨g1, ?_, fun i hi => hall i ?_⟩⟩
      · have : tkW2.length = 5 := rfl
        omega
      · have : tkW2.length = 5 := rfl
        omega
    | succ n ih =>
      intro j hj hall
      have hbj := hb (s + j) (by omega)
      have hcj := hch j (by omega)
      apply v_Tape_isWord_1004_28
      rw [esh, nI_ltI (by omega) (by omega), k2, vm_add, vm_ex (by omega) (by omega)]
      refine ⟨fun _ => ⟨fun q => nI_pos (by omega) q, fun _ => ⟨fun _ => ⟨j, rfl, by show j < 5; omega, ?_⟩, fun q => absurd (by omega) q⟩⟩, fun q => absurd (by omega) q⟩
      rw [hcj.1, hbj.2, tk_sv_eq hbj.1 hcj.2, vm_add]
      refine ⟨fun q => ih (j + 1) (by omega) (fun i hi => ?_), fun q => h0 (fun q2 => q (q2.2.2 j ?_))⟩
      · by_cases hij : i = j
        · rw [hij]; exact q
        · exact hall i (by omega)
      · show j < 5
        omega
  exact loop 5 0 (by omega) (fun i hi => absurd hi (by omega))
theorem tkN_2 (s : Nat) : lg_cmp (tkN b L s) (Int64.ofInt 422541223282) = 0 ↔ tkI b L s tkW2 := by
  have e : Int64.ofInt 422541223282 = Int64.ofNat (tk_nm (fun i => tkW2.getD i 0) 0 tkW2.length) := by decide +kernel
  rw [lg_cmp_eq, e]
  exact tkN_eq (by decide) (by decide) (by decide)
def tkW3 : List Nat := [109, 105, 108, 108, 101, 114]
theorem s_isWord3 {P : Int32 → vm_M → Prop} {s : Nat} (hT : tcT b L M) (hs : s ≤ L) (hk : tcK b L s M) (h1 : tkI b L s tkW3 → P (nI 1) M) (h0 : ¬ tkI b L s tkW3 → P (nI 0) M) : E_Tape_isWord_1006 X M P := by
  obtain ⟨hL, e12, hb⟩ := id hT
  obtain ⟨k2, k3, k4, k5⟩ := hk
  have hge := tkE_ge b L s
  have hle := tkE_le (b := b) hs
  have hkl := tkK_le b L s
  have esh : (nI 6) >>> ((0 : Int32) &&& 31) = nI 6 := by decide
  have hch : ∀ j, j < 6 → ((((((vm_strB.getD 3 []).getD j 0) &&& (nI 255))).toUInt32 % 65536).toInt32) = nI (tkW3.getD j 0) ∧ tkW3.getD j 0 < 128 := by decide
  apply v_Tape_isWord_1006
  rw [k4, k3, k2, esh, pk_sub hge, nI_eq (by omega) (by omega), nI_eq (by omega) (by omega)]
  refine ⟨fun g1 => ⟨fun g2 => ?_, fun g2 => h0 (fun q => g2 (by have : tkW3.length = 6 := rfl; omega))⟩, fun g1 => h0 (fun q => g1 q.1)⟩
  have loop : ∀ n j, j + n = 6 → (∀ i, i < j → b (s + i) = tkW3.getD i 0) → C_Tape_isWord_1006_28 X (nI j) M P := by
    intro n
    induction n with
    | zero =>
      intro j hj hall
      apply v_Tape_isWord_1006_28
      rw [esh, nI_ltI (by omega) (by omega)]
      refine ⟨fun q => absurd q (by omega), fun _ => h1 ⟨g1, ?_, fun i hi => hall i ?_⟩⟩
      · have : tkW3.length = 6 := rfl
        omega
      · have : tkW3.length = 6 := rfl
        omega
    | succ n ih =>
      intro j hj hall
      have hbj := hb (s + j) (by omega)
      have hcj := hch j (by omega)
      apply v_Tape_isWord_1006_28
      rw [esh, nI_ltI (by omega) (by omega), k2, vm_add, vm_ex (by omega) (by omega)]
      refine ⟨fun _ => ⟨fun q => nI_pos (by omega) q, fun _ => ⟨fun _ => ⟨j, rfl, by show j < 6; omega, ?_⟩, fun q => absurd (by omega) q⟩⟩, fun q => absurd (by omega) q⟩
      rw [hcj.1, hbj.2, tk_sv_eq hbj.1 hcj.2, vm_add]
      refine ⟨fun q => ih (j + 1) (by omega) (fun i hi => ?_), fun q => h0 (fun q2 => q (q2.2.2 j ?_))⟩
      · by_cases hij : i = j
        · rw [hij]; exact q
        · exact hall i (by omega)
      · show j < 6
        omega
  exact loop 6 0 (by omega) (fun i hi => absurd hi (by omega))
theorem tkN_3 (s : Nat) : lg_cmp (tkN b L s) (Int64.ofInt 120299558036850) = 0 ↔ tkI b L s tkW3 := by
  have e : Int64.ofInt 120299558036850 = Int64.ofNat (tk_nm (fun i => tkW3.getD i 0) 0 tkW3.length) := by decide +kernel
  rw [lg_cmp_eq, e]
  exact tkN_eq (by decide) (by decide) (by decide)
def tkW4 : List Nat := [107, 110, 111, 119, 101, 114]
theorem s_isWord4 {P : Int32 → vm_M → Prop} {s : Nat} (hT : tcT b L M) (hs : s ≤ L) (hk : tcK b L s M) (h1 : tkI b L s tkW4 → P (nI 1) M) (h0 : ¬ tkI b L s tkW4 → P (nI 0) M) : E_Tape_isWord_1008 X M P := by
  obtain ⟨hL, e12, hb⟩ := id hT
  obtain ⟨k2, k3, k4, k5⟩ := hk
  have hge := tkE_ge b L s
  have hle := tkE_le (b := b) hs
  have hkl := tkK_le b L s
  have esh : (nI 6) >>> ((0 : Int32) &&& 31) = nI 6 := by decide
  have hch : ∀ j, j < 6 → ((((((vm_strB.getD 4 []).getD j 0) &&& (nI 255))).toUInt32 % 65536).toInt32) = nI (tkW4.getD j 0) ∧ tkW4.getD j 0 < 128 := by decide
  apply v_Tape_isWord_1008
  rw [k4, k3, k2, esh, pk_sub hge, nI_eq (by omega) (by omega), nI_eq (by omega) (by omega)]
  refine ⟨fun g1 => ⟨fun g2 => ?_, fun g2 => h0 (fun q => g2 (by have : tkW4.length = 6 := rfl; omega))⟩, fun g1 => h0 (fun q => g1 q.1)⟩
  have loop : ∀ n j, j + n = 6 → (∀ i, i < j → b (s + i) = tkW4.getD i 0) → C_Tape_isWord_1008_28 X (nI j) M P := by
    intro n
    induction n with
    | zero =>
      intro j hj hall
      apply v_Tape_isWord_1008_28
      rw [esh, nI_ltI (by omega) (by omega)]
      refine ⟨fun q => absurd q (by omega), fun _ => h1 ⟨g1, ?_, fun i hi => hall i ?_⟩⟩
      · have : tkW4.length = 6 := rfl
        omega
      · have : tkW4.length = 6 := rfl
        omega
    | succ n ih =>
      intro j hj hall
      have hbj := hb (s + j) (by omega)
      have hcj := hch j (by omega)
      apply v_Tape_isWord_1008_28
      rw [esh, nI_ltI (by omega) (by omega), k2, vm_add, vm_ex (by omega) (by omega)]
      refine ⟨fun _ => ⟨fun q => nI_pos (by omega) q, fun _ => ⟨fun _ => ⟨j, rfl, by show j < 6; omega, ?_⟩, fun q => absurd (by omega) q⟩⟩, fun q => absurd (by omega) q⟩
      rw [hcj.1, hbj.2, tk_sv_eq hbj.1 hcj.2, vm_add]
      refine ⟨fun q => ih (j + 1) (by omega) (fun i hi => ?_), fun q => h0 (fun q2 => q (q2.2.2 j ?_))⟩
      · by_cases hij : i = j
        · rw [hij]; exact q
        · exact hall i (by omega)
      · show j < 6
        omega
  exact loop 6 0 (by omega) (fun i hi => absurd hi (by omega))
theorem tkN_4 (s : Nat) : lg_cmp (tkN b L s) (Int64.ofInt 118122060670322) = 0 ↔ tkI b L s tkW4 := by
  have e : Int64.ofInt 118122060670322 = Int64.ofNat (tk_nm (fun i => tkW4.getD i 0) 0 tkW4.length) := by decide +kernel
  rw [lg_cmp_eq, e]
  exact tkN_eq (by decide) (by decide) (by decide)
def tkW5 : List Nat := [112, 114, 105, 101, 115, 116]
theorem s_isWord5 {P : Int32 → vm_M → Prop} {s : Nat} (hT : tcT b L M) (hs : s ≤ L) (hk : tcK b L s M) (h1 : tkI b L s tkW5 → P (nI 1) M) (h0 : ¬ tkI b L s tkW5 → P (nI 0) M) : E_Tape_isWord_1010 X M P := by
  obtain ⟨hL, e12, hb⟩ := id hT
  obtain ⟨k2, k3, k4, k5⟩ := hk
  have hge := tkE_ge b L s
  have hle := tkE_le (b := b) hs
  have hkl := tkK_le b L s
  have esh : (nI 6) >>> ((0 : Int32) &&& 31) = nI 6 := by decide
  have hch : ∀ j, j < 6 → ((((((vm_strB.getD 5 []).getD j 0) &&& (nI 255))).toUInt32 % 65536).toInt32) = nI (tkW5.getD j 0) ∧ tkW5.getD j 0 < 128 := by decide
  apply v_Tape_isWord_1010
  rw [k4, k3, k2, esh, pk_sub hge, nI_eq (by omega) (by omega), nI_eq (by omega) (by omega)]
  refine ⟨fun g1 => ⟨fun g2 => ?_, fun g2 => h0 (fun q => g2 (by have : tkW5.length = 6 := rfl; omega))⟩, fun g1 => h0 (fun q => g1 q.1)⟩
  have loop : ∀ n j, j + n = 6 → (∀ i, i < j → b (s + i) = tkW5.getD i 0) → C_Tape_isWord_1010_28 X (nI j) M P := by
    intro n
    induction n with
    | zero =>
      intro j hj hall
      apply v_Tape_isWord_1010_28
      rw [esh, nI_ltI (by omega) (by omega)]
      refine ⟨fun q => absurd q (by omega), fun _ => h1 ⟨g1, ?_, fun i hi => hall i ?_⟩⟩
      · have : tkW5.length = 6 := rfl
        omega
      · have : tkW5.length = 6 := rfl
        omega
    | succ n ih =>
      intro j hj hall
      have hbj := hb (s + j) (by omega)
      have hcj := hch j (by omega)
      apply v_Tape_isWord_1010_28
      rw [esh, nI_ltI (by omega) (by omega), k2, vm_add, vm_ex (by omega) (by omega)]
      refine ⟨fun _ => ⟨fun q => nI_pos (by omega) q, fun _ => ⟨fun _ => ⟨j, rfl, by show j < 6; omega, ?_⟩, fun q => absurd (by omega) q⟩⟩, fun q => absurd (by omega) q⟩
      rw [hcj.1, hbj.2, tk_sv_eq hbj.1 hcj.2, vm_add]
      refine ⟨fun q => ih (j + 1) (by omega) (fun i hi => ?_), fun q => h0 (fun q2 => q (q2.2.2 j ?_))⟩
      · by_cases hij : i = j
        · rw [hij]; exact q
        · exact hall i (by omega)
      · show j < 6
        omega
  exact loop 6 0 (by omega) (fun i hi => absurd hi (by omega))
theorem tkN_5 (s : Nat) : lg_cmp (tkN b L s) (Int64.ofInt 123636696839028) = 0 ↔ tkI b L s tkW5 := by
  have e : Int64.ofInt 123636696839028 = Int64.ofNat (tk_nm (fun i => tkW5.getD i 0) 0 tkW5.length) := by decide +kernel
  rw [lg_cmp_eq, e]
  exact tkN_eq (by decide) (by decide) (by decide)
def tkW6 : List Nat := [98, 108, 105, 110, 100]
theorem s_isWord6 {P : Int32 → vm_M → Prop} {s : Nat} (hT : tcT b L M) (hs : s ≤ L) (hk : tcK b L s M) (h1 : tkI b L s tkW6 → P (nI 1) M) (h0 : ¬ tkI b L s tkW6 → P (nI 0) M) : E_Tape_isWord_1012 X M P := by
  obtain ⟨hL, e12, hb⟩ := id hT
  obtain ⟨k2, k3, k4, k5⟩ := hk
  have hge := tkE_ge b L s
  have hle := tkE_le (b := b) hs
  have hkl := tkK_le b L s
  have esh : (nI 5) >>> ((0 : Int32) &&& 31) = nI 5 := by decide
  have hch : ∀ j, j < 5 → ((((((vm_strB.getD 6 []).getD j 0) &&& (nI 255))).toUInt32 % 65536).toInt32) = nI (tkW6.getD j 0) ∧ tkW6.getD j 0 < 128 := by decide
  apply v_Tape_isWord_1012
  rw [k4, k3, k2, esh, pk_sub hge, nI_eq (by omega) (by omega), nI_eq (by omega) (by omega)]
  refine ⟨fun g1 => ⟨fun g2 => ?_, fun g2 => h0 (fun q => g2 (by have : tkW6.length = 5 := rfl; omega))⟩, fun g1 => h0 (fun q => g1 q.1)⟩
  have loop : ∀ n j, j + n = 5 → (∀ i, i < j → b (s + i) = tkW6.getD i 0) → C_Tape_isWord_1012_28 X (nI j) M P := by
    intro n
    induction n with
    | zero =>
      intro j hj hall
      apply v_Tape_isWord_1012_28
      rw [esh, nI_ltI (by omega) (by omega)]
      refine ⟨fun q => absurd q (by omega), fun _ => h1 ⟨g1, ?_, fun i hi => hall i ?_⟩⟩
      · have : tkW6.length = 5 := rfl
        omega
      · have : tkW6.length = 5 := rfl
        omega
    | succ n ih =>
      intro j hj hall
      have hbj := hb (s + j) (by omega)
      have hcj := hch j (by omega)
      apply v_Tape_isWord_1012_28
      rw [esh, nI_ltI (by omega) (by omega), k2, vm_add, vm_ex (by omega) (by omega)]
      refine ⟨fun _ => ⟨fun q => nI_pos (by omega) q, fun _ => ⟨fun _ => ⟨j, rfl, by show j < 5; omega, ?_⟩, fun q => absurd (by omega) q⟩⟩, fun q => absurd (by omega) q⟩
      rw [hcj.1, hbj.2, tk_sv_eq hbj.1 hcj.2, vm_add]
      refine ⟨fun q => ih (j + 1) (by omega) (fun i hi => ?_), fun q => h0 (fun q2 => q (q2.2.2 j ?_))⟩
      · by_cases hij : i = j
        · rw [hij]; exact q
        · exact hall i (by omega)
      · show j < 5
        omega
  exact loop 5 0 (by omega) (fun i hi => absurd hi (by omega))
theorem tkN_6 (s : Nat) : lg_cmp (tkN b L s) (Int64.ofInt 422725643876) = 0 ↔ tkI b L s tkW6 := by
  have e : Int64.ofInt 422725643876 = Int64.ofNat (tk_nm (fun i => tkW6.getD i 0) 0 tkW6.length) := by decide +kernel
  rw [lg_cmp_eq, e]
  exact tkN_eq (by decide) (by decide) (by decide)
def tkW7 : List Nat := [119, 97, 121]
theorem s_isWord7 {P : Int32 → vm_M → Prop} {s : Nat} (hT : tcT b L M) (hs : s ≤ L) (hk : tcK b L s M) (h1 : tkI b L s tkW7 → P (nI 1) M) (h0 : ¬ tkI b L s tkW7 → P (nI 0) M) : E_Tape_isWord_1014 X M P := by
  obtain ⟨hL, e12, hb⟩ := id hT
  obtain ⟨k2, k3, k4, k5⟩ := hk
  have hge := tkE_ge b L s
  have hle := tkE_le (b := b) hs
  have hkl := tkK_le b L s
  have esh : (nI 3) >>> ((0 : Int32) &&& 31) = nI 3 := by decide
  have hch : ∀ j, j < 3 → ((((((vm_strB.getD 7 []).getD j 0) &&& (nI 255))).toUInt32 % 65536).toInt32) = nI (tkW7.getD j 0) ∧ tkW7.getD j 0 < 128 := by decide
  apply v_Tape_isWord_1014
  rw [k4, k3, k2, esh, pk_sub hge, nI_eq (by omega) (by omega), nI_eq (by omega) (by omega)]
  refine ⟨fun g1 => ⟨fun g2 => ?_, fun g2 => h0 (fun q => g2 (by have : tkW7.length = 3 := rfl; omega))⟩, fun g1 => h0 (fun q => g1 q.1)⟩
  have loop : ∀ n j, j + n = 3 → (∀ i, i < j → b (s + i) = tkW7.getD i 0) → C_Tape_isWord_1014_28 X (nI j) M P := by
    intro n
    induction n with
    | zero =>
      intro j hj hall
      apply v_Tape_isWord_1014_28
      rw [esh, nI_ltI (by omega) (by omega)]
      refine ⟨fun q => absurd q (by omega), fun _ => h1 ⟨g1, ?_, fun i hi => hall i ?_⟩⟩
      · have : tkW7.length = 3 := rfl
        omega
      · have : tkW7.length = 3 := rfl
        omega
    | succ n ih =>
      intro j hj hall
      have hbj := hb (s + j) (by omega)
      have hcj := hch j (by omega)
      apply v_Tape_isWord_1014_28
      rw [esh, nI_ltI (by omega) (by omega), k2, vm_add, vm_ex (by omega) (by omega)]
      refine ⟨fun _ => ⟨fun q => nI_pos (by omega) q, fun _ => ⟨fun _ => ⟨j, rfl, by show j < 3; omega, ?_⟩, fun q => absurd (by omega) q⟩⟩, fun q => absurd (by omega) q⟩
      rw [hcj.1, hbj.2, tk_sv_eq hbj.1 hcj.2, vm_add]
      refine ⟨fun q => ih (j + 1) (by omega) (fun i hi => ?_), fun q => h0 (fun q2 => q (q2.2.2 j ?_))⟩
      · by_cases hij : i = j
        · rw [hij]; exact q
        · exact hall i (by omega)
      · show j < 3
        omega
  exact loop 3 0 (by omega) (fun i hi => absurd hi (by omega))
theorem tkN_7 (s : Nat) : lg_cmp (tkN b L s) (Int64.ofInt 7823737) = 0 ↔ tkI b L s tkW7 := by
  have e : Int64.ofInt 7823737 = Int64.ofNat (tk_nm (fun i => tkW7.getD i 0) 0 tkW7.length) := by decide +kernel
  rw [lg_cmp_eq, e]
  exact tkN_eq (by decide) (by decide) (by decide)
end TW
