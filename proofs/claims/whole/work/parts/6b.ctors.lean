/-! THE CONSTRUCTORS (by wip/whole/ctors.py) -/
def vn_nT (n : Nat) (T : Nat → Nat → Option Nat) : Nat → Nat → Option Nat := fun i j => if i = n then none else T i j
def vn_nM (n : Nat) (M : vm_M) : vm_M := fun i j => if i = n then 0 else M i j
theorem vn_new {n : Nat} {s : vm_Sh} {T : Nat → Nat → Option Nat} {M : vm_M} (h : vm_SH[n]? = some s) : vm_new (vm_SH.take n, T, M) s = (vm_SH.take (n + 1), vn_nT n T, vn_nM n M) ∧ (vm_SH.take n).length = n := by
  have hn : n < vm_SH.length := (List.getElem?_eq_some_iff.mp h).1
  have hl : (vm_SH.take n).length = n := by rw [List.length_take]; omega
  refine ⟨?_, hl⟩
  unfold vm_new
  rw [hl, List.take_add_one, h]
  rfl
section VN
variable {X : Nat × (Nat → Int32)} {k pc n : Nat} {L S : List Value} {bc bs : Nat} {T : Nat → Nat → Option Nat} {M : vm_M} {Q : Option Value → vm_St → Prop} {len a b cx d : Nat} {z : Int}
theorem vn_newO (j : Nat) {idx : Nat} (hj : (vm_prog k)[j]? = some (pc, .new idx, len, a, b, cx, d, z)) (hs : vm_SH[n]? = some (0, a, b)) (h1 : 1 ≤ bc ∧ b ≤ bs) (hn : n < 1000)
    (h : vm_WP X k (pc + 3) L (.ref n :: S) (bc - 1) (bs - b) (vm_SH.take (n + 1), vn_nT n T, vn_nM n M) Q) : vm_WP X k pc L S bc bs (vm_SH.take n, T, M) Q := by
  obtain ⟨e1, e2⟩ := vn_new (T := T) (M := M) hs
  obtain ⟨m, r2, σ2, g1, g2⟩ := h
  refine ⟨m + 1, r2, σ2, ?_, g2⟩
  show vm_step X (vm_run X m) k pc L S bc bs _ = _
  unfold vm_step
  rw [vm_ins_of hj]
  show (if 1 ≤ bc ∧ b ≤ bs ∧ (vm_SH.take n).length < 1000 then vm_run X m k (pc + 3) L (.ref (vm_SH.take n).length :: S) (bc - 1) (bs - b) (vm_new (vm_SH.take n, T, M) (0, a, b)) else none) = _
  rw [e1, e2, if_pos ⟨h1.1, h1.2, hn⟩]
  exact g1
theorem vn_newA (j : Nat) {t : ArrayType} {ti c : Nat} {x : Int32} (hj : (vm_prog k)[j]? = some (pc, .newarray t, len, a, b, cx, d, z)) (ht : vm_arr t = some ti) (hx : x = nI c) (h1 : 1 ≤ bc ∧ c ≤ bs ∧ c ≤ 10000) (hs : vm_SH[n]? = some (1, ti, c) ∧ n < 1000)
    (h : vm_WP X k (pc + 2) L (.ref n :: S) (bc - 1) (bs - c) (vm_SH.take (n + 1), vn_nT n T, vn_nM n M) Q) : vm_WP X k pc L (.int x :: S) bc bs (vm_SH.take n, T, M) Q := by
  obtain ⟨e1, e2⟩ := vn_new (T := T) (M := M) hs.1
  obtain ⟨m, r2, σ2, g1, g2⟩ := h
  refine ⟨m + 1, r2, σ2, ?_, g2⟩
  subst hx
  have hc : (nI c).toNatClampNeg = c := nI_clamp (by omega)
  show vm_step X (vm_run X m) k pc L _ bc bs _ = _
  unfold vm_step
  rw [vm_ins_of hj]
  show (match vm_arr t with
    | none => none
    | some ti => if ¬ (nI c) < 0 ∧ 1 ≤ bc ∧ (nI c).toNatClampNeg ≤ bs ∧ (nI c).toNatClampNeg ≤ 10000 ∧ (vm_SH.take n).length < 1000 then vm_run X m k (pc + 2) L (.ref (vm_SH.take n).length :: S) (bc - 1) (bs - (nI c).toNatClampNeg) (vm_new (vm_SH.take n, T, M) (1, ti, (nI c).toNatClampNeg)) else none) = _
  rw [ht]
  show (if ¬ (nI c) < 0 ∧ 1 ≤ bc ∧ (nI c).toNatClampNeg ≤ bs ∧ (nI c).toNatClampNeg ≤ 10000 ∧ (vm_SH.take n).length < 1000 then vm_run X m k (pc + 2) L (.ref (vm_SH.take n).length :: S) (bc - 1) (bs - (nI c).toNatClampNeg) (vm_new (vm_SH.take n, T, M) (1, ti, (nI c).toNatClampNeg)) else none) = _
  rw [hc, e1, e2, if_pos ⟨nI_pos (by omega), h1.1, h1.2.1, h1.2.2, hs.2⟩]
  exact g1
theorem vn_oinit (j : Nat) {i : Instr} {r : Nat} {σ : vm_St} (hj : (vm_prog k)[j]? = some (pc, i, len, 1001, b, cx, d, z)) (hk : vm_kd i = 2) (h1 : r ≠ 3000 ∧ vm_wt S ≤ 8)
    (h : vm_WP X k (pc + 3) L S bc bs σ Q) : vm_WP X k pc L (.ref r :: S) bc bs σ Q := by
  obtain ⟨m, r2, σ2, g1, g2⟩ := h
  refine ⟨m + 1, r2, σ2, ?_, g2⟩
  show vm_step X (vm_run X m) k pc L _ bc bs _ = _
  unfold vm_step
  rw [vm_ins_of hj]
  (try dsimp only)
  rw [hk]
  (try dsimp only)
  rw [if_pos rfl]
  (try dsimp only)
  rw [if_neg (show ¬ (r = 3000 ∨ 8 < vm_wt S) by omega)]
  exact g1
theorem vn_ast (j : Nat) {r n jj : Nat} {x v : Int32} {l : List vm_Sh} (hj : (vm_prog k)[j]? = some (pc, .iastore, len, a, b, cx, d, z)) (hx : x = nI jj) (hs : l[r]? = some (1, 0, n)) (hjj : jj < n ∧ n < 10000)
    (h : vm_WP X k (pc + 1) L S bc bs (l, T, vm_u2 M r jj v) Q) : vm_WP X k pc L (.int v :: .int x :: .ref r :: S) bc bs (l, T, M) Q := by
  subst hx
  refine vm_WP.ast j hj hs (vp_in_nI hjj.1 (by omega)) ?_
  rw [nI_clamp (by omega)]
  exact h

def vn_T47_1_2 (T : Nat → Nat → Option Nat) : Nat → Nat → Option Nat := (vm_u2 (vn_nT 4 (vm_u2 (vn_nT 3 (vm_u2 (vn_nT 2 T) 1 0 (some 2))) 1 1 (some 3))) 1 2 (some 4))
def vn_M47_1_2 (M : vm_M) : vm_M := (vn_nM 4 (vn_nM 3 (vn_nM 2 M)))
theorem vn_c47_1_2 {X : Nat × (Nat → Int32)} {T : Nat → Nat → Option Nat} {M : vm_M} {Q : Option Value → vm_St → Prop} (h : Q none (vm_SH.take 5, vn_T47_1_2 T, vn_M47_1_2 M)) : vm_WP X 47 0 [.ref 1] [] (vm_mc 47) (vm_ms 47) (vm_SH.take 2, T, M) Q := by
  refine vm_WP.seq 0 1 (pc' := 1) (L' := [.ref 1]) (S' := [.ref 1]) (σ' := (vm_SH.take 2, T, M)) rfl ?_
  refine vn_oinit 1 rfl (by decide) (by decide) ?_
  refine vm_WP.seq 2 2 (pc' := 7) (L' := [.ref 1]) (S' := [.int (nI 8), .ref 1]) (σ' := (vm_SH.take 2, T, M)) rfl ?_
  refine vn_newA (c := 8) 4 rfl rfl rfl (by decide) (by decide) ?_
  refine vm_WP.seq 5 3 (pc' := 15) (L' := [.ref 1]) (S' := [.int (nI 8), .ref 1]) (σ' := (vm_SH.take 3, (vm_u2 (vn_nT 2 T) 1 0 (some 2)), (vn_nM 2 M))) rfl ?_
  refine vn_newA (c := 8) 8 rfl rfl rfl (by decide) (by decide) ?_
  refine vm_WP.seq 9 3 (pc' := 24) (L' := [.ref 1]) (S' := [.int (nI 320), .ref 1]) (σ' := (vm_SH.take 4, (vm_u2 (vn_nT 3 (vm_u2 (vn_nT 2 T) 1 0 (some 2))) 1 1 (some 3)), (vn_nM 3 (vn_nM 2 M)))) rfl ?_
  refine vn_newA (c := 320) 12 rfl rfl rfl (by decide) (by decide) ?_
  refine vm_WP.seq 13 1 (pc' := 29) (L' := [.ref 1]) (S' := []) (σ' := (vm_SH.take 5, (vm_u2 (vn_nT 4 (vm_u2 (vn_nT 3 (vm_u2 (vn_nT 2 T) 1 0 (some 2))) 1 1 (some 3))) 1 2 (some 4)), (vn_nM 4 (vn_nM 3 (vn_nM 2 M))))) rfl ?_
  exact vm_WP.ret (r := none) 14 rfl rfl rfl h
def vn_T58_5_6 (T : Nat → Nat → Option Nat) : Nat → Nat → Option Nat := (vm_u2 (vn_nT 6 T) 5 0 (some 6))
def vn_M58_5_6 (M : vm_M) : vm_M := (vn_nM 6 M)
theorem vn_c58_5_6 {X : Nat × (Nat → Int32)} {T : Nat → Nat → Option Nat} {M : vm_M} {Q : Option Value → vm_St → Prop} (h : Q none (vm_SH.take 7, vn_T58_5_6 T, vn_M58_5_6 M)) : vm_WP X 58 0 [.ref 5] [] (vm_mc 58) (vm_ms 58) (vm_SH.take 6, T, M) Q := by
  refine vm_WP.seq 0 1 (pc' := 1) (L' := [.ref 5]) (S' := [.ref 5]) (σ' := (vm_SH.take 6, T, M)) rfl ?_
  refine vn_oinit 1 rfl (by decide) (by decide) ?_
  refine vm_WP.seq 2 2 (pc' := 8) (L' := [.ref 5]) (S' := [.int (nI 400), .ref 5]) (σ' := (vm_SH.take 6, T, M)) rfl ?_
  refine vn_newA (c := 400) 4 rfl rfl rfl (by decide) (by decide) ?_
  refine vm_WP.seq 5 1 (pc' := 13) (L' := [.ref 5]) (S' := []) (σ' := (vm_SH.take 7, (vm_u2 (vn_nT 6 T) 5 0 (some 6)), (vn_nM 6 M))) rfl ?_
  exact vm_WP.ret (r := none) 6 rfl rfl rfl h
def vn_T36_7_8 (T : Nat → Nat → Option Nat) : Nat → Nat → Option Nat := (vm_u2 (vn_nT 13 (vm_u2 (vn_nT 12 (vm_u2 (vn_nT 11 (vm_u2 (vn_nT 10 (vm_u2 (vn_nT 9 (vm_u2 (vn_nT 8 T) 7 6 (some 8))) 7 7 (some 9))) 7 8 (some 10))) 7 9 (some 11))) 7 10 (some 12))) 7 11 (some 13))
def vn_M36_7_8 (M : vm_M) : vm_M := (vn_nM 13 (vn_nM 12 (vn_nM 11 (vn_nM 10 (vn_nM 9 (vn_nM 8 M))))))
theorem vn_c36_7_8 {X : Nat × (Nat → Int32)} {T : Nat → Nat → Option Nat} {M : vm_M} {Q : Option Value → vm_St → Prop} (h : Q none (vm_SH.take 14, vn_T36_7_8 T, vn_M36_7_8 M)) : vm_WP X 36 0 [.ref 7] [] (vm_mc 36) (vm_ms 36) (vm_SH.take 8, T, M) Q := by
  refine vm_WP.seq 0 1 (pc' := 1) (L' := [.ref 7]) (S' := [.ref 7]) (σ' := (vm_SH.take 8, T, M)) rfl ?_
  refine vn_oinit 1 rfl (by decide) (by decide) ?_
  refine vm_WP.seq 2 2 (pc' := 7) (L' := [.ref 7]) (S' := [.int (nI 6), .ref 7]) (σ' := (vm_SH.take 8, T, M)) rfl ?_
  refine vn_newA (c := 6) 4 rfl rfl rfl (by decide) (by decide) ?_
  refine vm_WP.seq 5 3 (pc' := 15) (L' := [.ref 7]) (S' := [.int (nI 6), .ref 7]) (σ' := (vm_SH.take 9, (vm_u2 (vn_nT 8 T) 7 6 (some 8)), (vn_nM 8 M))) rfl ?_
  refine vn_newA (c := 6) 8 rfl rfl rfl (by decide) (by decide) ?_
  refine vm_WP.seq 9 3 (pc' := 23) (L' := [.ref 7]) (S' := [.int (nI 6), .ref 7]) (σ' := (vm_SH.take 10, (vm_u2 (vn_nT 9 (vm_u2 (vn_nT 8 T) 7 6 (some 8))) 7 7 (some 9)), (vn_nM 9 (vn_nM 8 M)))) rfl ?_
  refine vn_newA (c := 6) 12 rfl rfl rfl (by decide) (by decide) ?_
  refine vm_WP.seq 13 3 (pc' := 31) (L' := [.ref 7]) (S' := [.int (nI 6), .ref 7]) (σ' := (vm_SH.take 11, (vm_u2 (vn_nT 10 (vm_u2 (vn_nT 9 (vm_u2 (vn_nT 8 T) 7 6 (some 8))) 7 7 (some 9))) 7 8 (some 10)), (vn_nM 10 (vn_nM 9 (vn_nM 8 M))))) rfl ?_
  refine vn_newA (c := 6) 16 rfl rfl rfl (by decide) (by decide) ?_
  refine vm_WP.seq 17 3 (pc' := 39) (L' := [.ref 7]) (S' := [.int (nI 36), .ref 7]) (σ' := (vm_SH.take 12, (vm_u2 (vn_nT 11 (vm_u2 (vn_nT 10 (vm_u2 (vn_nT 9 (vm_u2 (vn_nT 8 T) 7 6 (some 8))) 7 7 (some 9))) 7 8 (some 10))) 7 9 (some 11)), (vn_nM 11 (vn_nM 10 (vn_nM 9 (vn_nM 8 M)))))) rfl ?_
  refine vn_newA (c := 36) 20 rfl rfl rfl (by decide) (by decide) ?_
  refine vm_WP.seq 21 3 (pc' := 47) (L' := [.ref 7]) (S' := [.int (nI 36), .ref 7]) (σ' := (vm_SH.take 13, (vm_u2 (vn_nT 12 (vm_u2 (vn_nT 11 (vm_u2 (vn_nT 10 (vm_u2 (vn_nT 9 (vm_u2 (vn_nT 8 T) 7 6 (some 8))) 7 7 (some 9))) 7 8 (some 10))) 7 9 (some 11))) 7 10 (some 12)), (vn_nM 12 (vn_nM 11 (vn_nM 10 (vn_nM 9 (vn_nM 8 M))))))) rfl ?_
  refine vn_newA (c := 36) 24 rfl rfl rfl (by decide) (by decide) ?_
  refine vm_WP.seq 25 1 (pc' := 52) (L' := [.ref 7]) (S' := []) (σ' := (vm_SH.take 14, (vm_u2 (vn_nT 13 (vm_u2 (vn_nT 12 (vm_u2 (vn_nT 11 (vm_u2 (vn_nT 10 (vm_u2 (vn_nT 9 (vm_u2 (vn_nT 8 T) 7 6 (some 8))) 7 7 (some 9))) 7 8 (some 10))) 7 9 (some 11))) 7 10 (some 12))) 7 11 (some 13)), (vn_nM 13 (vn_nM 12 (vn_nM 11 (vn_nM 10 (vn_nM 9 (vn_nM 8 M)))))))) rfl ?_
  exact vm_WP.ret (r := none) 26 rfl rfl rfl h
def vn_T36_14_15 (T : Nat → Nat → Option Nat) : Nat → Nat → Option Nat := (vm_u2 (vn_nT 20 (vm_u2 (vn_nT 19 (vm_u2 (vn_nT 18 (vm_u2 (vn_nT 17 (vm_u2 (vn_nT 16 (vm_u2 (vn_nT 15 T) 14 6 (some 15))) 14 7 (some 16))) 14 8 (some 17))) 14 9 (some 18))) 14 10 (some 19))) 14 11 (some 20))
def vn_M36_14_15 (M : vm_M) : vm_M := (vn_nM 20 (vn_nM 19 (vn_nM 18 (vn_nM 17 (vn_nM 16 (vn_nM 15 M))))))
theorem vn_c36_14_15 {X : Nat × (Nat → Int32)} {T : Nat → Nat → Option Nat} {M : vm_M} {Q : Option Value → vm_St → Prop} (h : Q none (vm_SH.take 21, vn_T36_14_15 T, vn_M36_14_15 M)) : vm_WP X 36 0 [.ref 14] [] (vm_mc 36) (vm_ms 36) (vm_SH.take 15, T, M) Q := by
  refine vm_WP.seq 0 1 (pc' := 1) (L' := [.ref 14]) (S' := [.ref 14]) (σ' := (vm_SH.take 15, T, M)) rfl ?_
  refine vn_oinit 1 rfl (by decide) (by decide) ?_
  refine vm_WP.seq 2 2 (pc' := 7) (L' := [.ref 14]) (S' := [.int (nI 6), .ref 14]) (σ' := (vm_SH.take 15, T, M)) rfl ?_
  refine vn_newA (c := 6) 4 rfl rfl rfl (by decide) (by decide) ?_
  refine vm_WP.seq 5 3 (pc' := 15) (L' := [.ref 14]) (S' := [.int (nI 6), .ref 14]) (σ' := (vm_SH.take 16, (vm_u2 (vn_nT 15 T) 14 6 (some 15)), (vn_nM 15 M))) rfl ?_
  refine vn_newA (c := 6) 8 rfl rfl rfl (by decide) (by decide) ?_
  refine vm_WP.seq 9 3 (pc' := 23) (L' := [.ref 14]) (S' := [.int (nI 6), .ref 14]) (σ' := (vm_SH.take 17, (vm_u2 (vn_nT 16 (vm_u2 (vn_nT 15 T) 14 6 (some 15))) 14 7 (some 16)), (vn_nM 16 (vn_nM 15 M)))) rfl ?_
  refine vn_newA (c := 6) 12 rfl rfl rfl (by decide) (by decide) ?_
  refine vm_WP.seq 13 3 (pc' := 31) (L' := [.ref 14]) (S' := [.int (nI 6), .ref 14]) (σ' := (vm_SH.take 18, (vm_u2 (vn_nT 17 (vm_u2 (vn_nT 16 (vm_u2 (vn_nT 15 T) 14 6 (some 15))) 14 7 (some 16))) 14 8 (some 17)), (vn_nM 17 (vn_nM 16 (vn_nM 15 M))))) rfl ?_
  refine vn_newA (c := 6) 16 rfl rfl rfl (by decide) (by decide) ?_
  refine vm_WP.seq 17 3 (pc' := 39) (L' := [.ref 14]) (S' := [.int (nI 36), .ref 14]) (σ' := (vm_SH.take 19, (vm_u2 (vn_nT 18 (vm_u2 (vn_nT 17 (vm_u2 (vn_nT 16 (vm_u2 (vn_nT 15 T) 14 6 (some 15))) 14 7 (some 16))) 14 8 (some 17))) 14 9 (some 18)), (vn_nM 18 (vn_nM 17 (vn_nM 16 (vn_nM 15 M)))))) rfl ?_
  refine vn_newA (c := 36) 20 rfl rfl rfl (by decide) (by decide) ?_
  refine vm_WP.seq 21 3 (pc' := 47) (L' := [.ref 14]) (S' := [.int (nI 36), .ref 14]) (σ' := (vm_SH.take 20, (vm_u2 (vn_nT 19 (vm_u2 (vn_nT 18 (vm_u2 (vn_nT 17 (vm_u2 (vn_nT 16 (vm_u2 (vn_nT 15 T) 14 6 (some 15))) 14 7 (some 16))) 14 8 (some 17))) 14 9 (some 18))) 14 10 (some 19)), (vn_nM 19 (vn_nM 18 (vn_nM 17 (vn_nM 16 (vn_nM 15 M))))))) rfl ?_
  refine vn_newA (c := 36) 24 rfl rfl rfl (by decide) (by decide) ?_
  refine vm_WP.seq 25 1 (pc' := 52) (L' := [.ref 14]) (S' := []) (σ' := (vm_SH.take 21, (vm_u2 (vn_nT 20 (vm_u2 (vn_nT 19 (vm_u2 (vn_nT 18 (vm_u2 (vn_nT 17 (vm_u2 (vn_nT 16 (vm_u2 (vn_nT 15 T) 14 6 (some 15))) 14 7 (some 16))) 14 8 (some 17))) 14 9 (some 18))) 14 10 (some 19))) 14 11 (some 20)), (vn_nM 20 (vn_nM 19 (vn_nM 18 (vn_nM 17 (vn_nM 16 (vn_nM 15 M)))))))) rfl ?_
  exact vm_WP.ret (r := none) 26 rfl rfl rfl h
def vn_T36_21_22 (T : Nat → Nat → Option Nat) : Nat → Nat → Option Nat := (vm_u2 (vn_nT 27 (vm_u2 (vn_nT 26 (vm_u2 (vn_nT 25 (vm_u2 (vn_nT 24 (vm_u2 (vn_nT 23 (vm_u2 (vn_nT 22 T) 21 6 (some 22))) 21 7 (some 23))) 21 8 (some 24))) 21 9 (some 25))) 21 10 (some 26))) 21 11 (some 27))
def vn_M36_21_22 (M : vm_M) : vm_M := (vn_nM 27 (vn_nM 26 (vn_nM 25 (vn_nM 24 (vn_nM 23 (vn_nM 22 M))))))
theorem vn_c36_21_22 {X : Nat × (Nat → Int32)} {T : Nat → Nat → Option Nat} {M : vm_M} {Q : Option Value → vm_St → Prop} (h : Q none (vm_SH.take 28, vn_T36_21_22 T, vn_M36_21_22 M)) : vm_WP X 36 0 [.ref 21] [] (vm_mc 36) (vm_ms 36) (vm_SH.take 22, T, M) Q := by
  refine vm_WP.seq 0 1 (pc' := 1) (L' := [.ref 21]) (S' := [.ref 21]) (σ' := (vm_SH.take 22, T, M)) rfl ?_
  refine vn_oinit 1 rfl (by decide) (by decide) ?_
  refine vm_WP.seq 2 2 (pc' := 7) (L' := [.ref 21]) (S' := [.int (nI 6), .ref 21]) (σ' := (vm_SH.take 22, T, M)) rfl ?_
  refine vn_newA (c := 6) 4 rfl rfl rfl (by decide) (by decide) ?_
  refine vm_WP.seq 5 3 (pc' := 15) (L' := [.ref 21]) (S' := [.int (nI 6), .ref 21]) (σ' := (vm_SH.take 23, (vm_u2 (vn_nT 22 T) 21 6 (some 22)), (vn_nM 22 M))) rfl ?_
  refine vn_newA (c := 6) 8 rfl rfl rfl (by decide) (by decide) ?_
  refine vm_WP.seq 9 3 (pc' := 23) (L' := [.ref 21]) (S' := [.int (nI 6), .ref 21]) (σ' := (vm_SH.take 24, (vm_u2 (vn_nT 23 (vm_u2 (vn_nT 22 T) 21 6 (some 22))) 21 7 (some 23)), (vn_nM 23 (vn_nM 22 M)))) rfl ?_
  refine vn_newA (c := 6) 12 rfl rfl rfl (by decide) (by decide) ?_
  refine vm_WP.seq 13 3 (pc' := 31) (L' := [.ref 21]) (S' := [.int (nI 6), .ref 21]) (σ' := (vm_SH.take 25, (vm_u2 (vn_nT 24 (vm_u2 (vn_nT 23 (vm_u2 (vn_nT 22 T) 21 6 (some 22))) 21 7 (some 23))) 21 8 (some 24)), (vn_nM 24 (vn_nM 23 (vn_nM 22 M))))) rfl ?_
  refine vn_newA (c := 6) 16 rfl rfl rfl (by decide) (by decide) ?_
  refine vm_WP.seq 17 3 (pc' := 39) (L' := [.ref 21]) (S' := [.int (nI 36), .ref 21]) (σ' := (vm_SH.take 26, (vm_u2 (vn_nT 25 (vm_u2 (vn_nT 24 (vm_u2 (vn_nT 23 (vm_u2 (vn_nT 22 T) 21 6 (some 22))) 21 7 (some 23))) 21 8 (some 24))) 21 9 (some 25)), (vn_nM 25 (vn_nM 24 (vn_nM 23 (vn_nM 22 M)))))) rfl ?_
  refine vn_newA (c := 36) 20 rfl rfl rfl (by decide) (by decide) ?_
  refine vm_WP.seq 21 3 (pc' := 47) (L' := [.ref 21]) (S' := [.int (nI 36), .ref 21]) (σ' := (vm_SH.take 27, (vm_u2 (vn_nT 26 (vm_u2 (vn_nT 25 (vm_u2 (vn_nT 24 (vm_u2 (vn_nT 23 (vm_u2 (vn_nT 22 T) 21 6 (some 22))) 21 7 (some 23))) 21 8 (some 24))) 21 9 (some 25))) 21 10 (some 26)), (vn_nM 26 (vn_nM 25 (vn_nM 24 (vn_nM 23 (vn_nM 22 M))))))) rfl ?_
  refine vn_newA (c := 36) 24 rfl rfl rfl (by decide) (by decide) ?_
  refine vm_WP.seq 25 1 (pc' := 52) (L' := [.ref 21]) (S' := []) (σ' := (vm_SH.take 28, (vm_u2 (vn_nT 27 (vm_u2 (vn_nT 26 (vm_u2 (vn_nT 25 (vm_u2 (vn_nT 24 (vm_u2 (vn_nT 23 (vm_u2 (vn_nT 22 T) 21 6 (some 22))) 21 7 (some 23))) 21 8 (some 24))) 21 9 (some 25))) 21 10 (some 26))) 21 11 (some 27)), (vn_nM 27 (vn_nM 26 (vn_nM 25 (vn_nM 24 (vn_nM 23 (vn_nM 22 M)))))))) rfl ?_
  exact vm_WP.ret (r := none) 26 rfl rfl rfl h
def vn_T36_28_29 (T : Nat → Nat → Option Nat) : Nat → Nat → Option Nat := (vm_u2 (vn_nT 34 (vm_u2 (vn_nT 33 (vm_u2 (vn_nT 32 (vm_u2 (vn_nT 31 (vm_u2 (vn_nT 30 (vm_u2 (vn_nT 29 T) 28 6 (some 29))) 28 7 (some 30))) 28 8 (some 31))) 28 9 (some 32))) 28 10 (some 33))) 28 11 (some 34))
def vn_M36_28_29 (M : vm_M) : vm_M := (vn_nM 34 (vn_nM 33 (vn_nM 32 (vn_nM 31 (vn_nM 30 (vn_nM 29 M))))))
theorem vn_c36_28_29 {X : Nat × (Nat → Int32)} {T : Nat → Nat → Option Nat} {M : vm_M} {Q : Option Value → vm_St → Prop} (h : Q none (vm_SH.take 35, vn_T36_28_29 T, vn_M36_28_29 M)) : vm_WP X 36 0 [.ref 28] [] (vm_mc 36) (vm_ms 36) (vm_SH.take 29, T, M) Q := by
  refine vm_WP.seq 0 1 (pc' := 1) (L' := [.ref 28]) (S' := [.ref 28]) (σ' := (vm_SH.take 29, T, M)) rfl ?_
  refine vn_oinit 1 rfl (by decide) (by decide) ?_
  refine vm_WP.seq 2 2 (pc' := 7) (L' := [.ref 28]) (S' := [.int (nI 6), .ref 28]) (σ' := (vm_SH.take 29, T, M)) rfl ?_
  refine vn_newA (c := 6) 4 rfl rfl rfl (by decide) (by decide) ?_
  refine vm_WP.seq 5 3 (pc' := 15) (L' := [.ref 28]) (S' := [.int (nI 6), .ref 28]) (σ' := (vm_SH.take 30, (vm_u2 (vn_nT 29 T) 28 6 (some 29)), (vn_nM 29 M))) rfl ?_
  refine vn_newA (c := 6) 8 rfl rfl rfl (by decide) (by decide) ?_
  refine vm_WP.seq 9 3 (pc' := 23) (L' := [.ref 28]) (S' := [.int (nI 6), .ref 28]) (σ' := (vm_SH.take 31, (vm_u2 (vn_nT 30 (vm_u2 (vn_nT 29 T) 28 6 (some 29))) 28 7 (some 30)), (vn_nM 30 (vn_nM 29 M)))) rfl ?_
  refine vn_newA (c := 6) 12 rfl rfl rfl (by decide) (by decide) ?_
  refine vm_WP.seq 13 3 (pc' := 31) (L' := [.ref 28]) (S' := [.int (nI 6), .ref 28]) (σ' := (vm_SH.take 32, (vm_u2 (vn_nT 31 (vm_u2 (vn_nT 30 (vm_u2 (vn_nT 29 T) 28 6 (some 29))) 28 7 (some 30))) 28 8 (some 31)), (vn_nM 31 (vn_nM 30 (vn_nM 29 M))))) rfl ?_
  refine vn_newA (c := 6) 16 rfl rfl rfl (by decide) (by decide) ?_
  refine vm_WP.seq 17 3 (pc' := 39) (L' := [.ref 28]) (S' := [.int (nI 36), .ref 28]) (σ' := (vm_SH.take 33, (vm_u2 (vn_nT 32 (vm_u2 (vn_nT 31 (vm_u2 (vn_nT 30 (vm_u2 (vn_nT 29 T) 28 6 (some 29))) 28 7 (some 30))) 28 8 (some 31))) 28 9 (some 32)), (vn_nM 32 (vn_nM 31 (vn_nM 30 (vn_nM 29 M)))))) rfl ?_
  refine vn_newA (c := 36) 20 rfl rfl rfl (by decide) (by decide) ?_
  refine vm_WP.seq 21 3 (pc' := 47) (L' := [.ref 28]) (S' := [.int (nI 36), .ref 28]) (σ' := (vm_SH.take 34, (vm_u2 (vn_nT 33 (vm_u2 (vn_nT 32 (vm_u2 (vn_nT 31 (vm_u2 (vn_nT 30 (vm_u2 (vn_nT 29 T) 28 6 (some 29))) 28 7 (some 30))) 28 8 (some 31))) 28 9 (some 32))) 28 10 (some 33)), (vn_nM 33 (vn_nM 32 (vn_nM 31 (vn_nM 30 (vn_nM 29 M))))))) rfl ?_
  refine vn_newA (c := 36) 24 rfl rfl rfl (by decide) (by decide) ?_
  refine vm_WP.seq 25 1 (pc' := 52) (L' := [.ref 28]) (S' := []) (σ' := (vm_SH.take 35, (vm_u2 (vn_nT 34 (vm_u2 (vn_nT 33 (vm_u2 (vn_nT 32 (vm_u2 (vn_nT 31 (vm_u2 (vn_nT 30 (vm_u2 (vn_nT 29 T) 28 6 (some 29))) 28 7 (some 30))) 28 8 (some 31))) 28 9 (some 32))) 28 10 (some 33))) 28 11 (some 34)), (vn_nM 34 (vn_nM 33 (vn_nM 32 (vn_nM 31 (vn_nM 30 (vn_nM 29 M)))))))) rfl ?_
  exact vm_WP.ret (r := none) 26 rfl rfl rfl h
def vn_T0_35_36 (T : Nat → Nat → Option Nat) : Nat → Nat → Option Nat := (vm_u2 (vm_u2 (vn_nT 40 (vm_u2 (vn_nT 39 (vm_u2 (vn_nT 38 (vm_u2 (vn_nT 37 (vm_u2 (vn_nT 36 T) 35 3 (some 36))) 35 4 (some 37))) 35 5 (some 38))) 35 6 (some 39))) 35 7 (some 40)) 35 0 (some 7))
def vn_M0_35_36 (M : vm_M) : vm_M := (vn_nM 40 (vn_nM 39 (vn_nM 38 (vn_nM 37 (vn_nM 36 M)))))
theorem vn_c0_35_36 {X : Nat × (Nat → Int32)} {T : Nat → Nat → Option Nat} {M : vm_M} {Q : Option Value → vm_St → Prop} (h : Q none (vm_SH.take 41, vn_T0_35_36 T, vn_M0_35_36 M)) : vm_WP X 0 0 [.ref 35, .ref 7] [] (vm_mc 0) (vm_ms 0) (vm_SH.take 36, T, M) Q := by
  refine vm_WP.seq 0 1 (pc' := 1) (L' := [.ref 35, .ref 7]) (S' := [.ref 35]) (σ' := (vm_SH.take 36, T, M)) rfl ?_
  refine vn_oinit 1 rfl (by decide) (by decide) ?_
  refine vm_WP.seq 2 2 (pc' := 7) (L' := [.ref 35, .ref 7]) (S' := [.int (nI 24), .ref 35]) (σ' := (vm_SH.take 36, T, M)) rfl ?_
  refine vn_newA (c := 24) 4 rfl rfl rfl (by decide) (by decide) ?_
  refine vm_WP.seq 5 3 (pc' := 15) (L' := [.ref 35, .ref 7]) (S' := [.int (nI 24), .ref 35]) (σ' := (vm_SH.take 37, (vm_u2 (vn_nT 36 T) 35 3 (some 36)), (vn_nM 36 M))) rfl ?_
  refine vn_newA (c := 24) 8 rfl rfl rfl (by decide) (by decide) ?_
  refine vm_WP.seq 9 3 (pc' := 23) (L' := [.ref 35, .ref 7]) (S' := [.int (nI 24), .ref 35]) (σ' := (vm_SH.take 38, (vm_u2 (vn_nT 37 (vm_u2 (vn_nT 36 T) 35 3 (some 36))) 35 4 (some 37)), (vn_nM 37 (vn_nM 36 M)))) rfl ?_
  refine vn_newA (c := 24) 12 rfl rfl rfl (by decide) (by decide) ?_
  refine vm_WP.seq 13 3 (pc' := 31) (L' := [.ref 35, .ref 7]) (S' := [.int (nI 24), .ref 35]) (σ' := (vm_SH.take 39, (vm_u2 (vn_nT 38 (vm_u2 (vn_nT 37 (vm_u2 (vn_nT 36 T) 35 3 (some 36))) 35 4 (some 37))) 35 5 (some 38)), (vn_nM 38 (vn_nM 37 (vn_nM 36 M))))) rfl ?_
  refine vn_newA (c := 24) 16 rfl rfl rfl (by decide) (by decide) ?_
  refine vm_WP.seq 17 3 (pc' := 39) (L' := [.ref 35, .ref 7]) (S' := [.int (nI 24), .ref 35]) (σ' := (vm_SH.take 40, (vm_u2 (vn_nT 39 (vm_u2 (vn_nT 38 (vm_u2 (vn_nT 37 (vm_u2 (vn_nT 36 T) 35 3 (some 36))) 35 4 (some 37))) 35 5 (some 38))) 35 6 (some 39)), (vn_nM 39 (vn_nM 38 (vn_nM 37 (vn_nM 36 M)))))) rfl ?_
  refine vn_newA (c := 24) 20 rfl rfl rfl (by decide) (by decide) ?_
  refine vm_WP.seq 21 4 (pc' := 49) (L' := [.ref 35, .ref 7]) (S' := []) (σ' := (vm_SH.take 41, (vm_u2 (vm_u2 (vn_nT 40 (vm_u2 (vn_nT 39 (vm_u2 (vn_nT 38 (vm_u2 (vn_nT 37 (vm_u2 (vn_nT 36 T) 35 3 (some 36))) 35 4 (some 37))) 35 5 (some 38))) 35 6 (some 39))) 35 7 (some 40)) 35 0 (some 7)), (vn_nM 40 (vn_nM 39 (vn_nM 38 (vn_nM 37 (vn_nM 36 M))))))) rfl ?_
  exact vm_WP.ret (r := none) 25 rfl rfl rfl h
def vn_T17_41_42 (T : Nat → Nat → Option Nat) : Nat → Nat → Option Nat := (vm_u2 (vm_u2 (vn_nT 45 (vm_u2 (vn_nT 44 (vm_u2 (vn_nT 43 (vm_u2 (vn_nT 42 T) 41 3 (some 42))) 41 4 (some 43))) 41 5 (some 44))) 41 6 (some 45)) 41 0 (some 7))
def vn_M17_41_42 (M : vm_M) : vm_M := (vn_nM 45 (vn_nM 44 (vn_nM 43 (vn_nM 42 M))))
theorem vn_c17_41_42 {X : Nat × (Nat → Int32)} {T : Nat → Nat → Option Nat} {M : vm_M} {Q : Option Value → vm_St → Prop} (h : Q none (vm_SH.take 46, vn_T17_41_42 T, vn_M17_41_42 M)) : vm_WP X 17 0 [.ref 41, .ref 7] [] (vm_mc 17) (vm_ms 17) (vm_SH.take 42, T, M) Q := by
  refine vm_WP.seq 0 1 (pc' := 1) (L' := [.ref 41, .ref 7]) (S' := [.ref 41]) (σ' := (vm_SH.take 42, T, M)) rfl ?_
  refine vn_oinit 1 rfl (by decide) (by decide) ?_
  refine vm_WP.seq 2 2 (pc' := 8) (L' := [.ref 41, .ref 7]) (S' := [.int (nI 366), .ref 41]) (σ' := (vm_SH.take 42, T, M)) rfl ?_
  refine vn_newA (c := 366) 4 rfl rfl rfl (by decide) (by decide) ?_
  refine vm_WP.seq 5 3 (pc' := 16) (L' := [.ref 41, .ref 7]) (S' := [.int (nI 61), .ref 41]) (σ' := (vm_SH.take 43, (vm_u2 (vn_nT 42 T) 41 3 (some 42)), (vn_nM 42 M))) rfl ?_
  refine vn_newA (c := 61) 8 rfl rfl rfl (by decide) (by decide) ?_
  refine vm_WP.seq 9 3 (pc' := 24) (L' := [.ref 41, .ref 7]) (S' := [.int (nI 61), .ref 41]) (σ' := (vm_SH.take 44, (vm_u2 (vn_nT 43 (vm_u2 (vn_nT 42 T) 41 3 (some 42))) 41 4 (some 43)), (vn_nM 43 (vn_nM 42 M)))) rfl ?_
  refine vn_newA (c := 61) 12 rfl rfl rfl (by decide) (by decide) ?_
  refine vm_WP.seq 13 3 (pc' := 32) (L' := [.ref 41, .ref 7]) (S' := [.int (nI 61), .ref 41]) (σ' := (vm_SH.take 45, (vm_u2 (vn_nT 44 (vm_u2 (vn_nT 43 (vm_u2 (vn_nT 42 T) 41 3 (some 42))) 41 4 (some 43))) 41 5 (some 44)), (vn_nM 44 (vn_nM 43 (vn_nM 42 M))))) rfl ?_
  refine vn_newA (c := 61) 16 rfl rfl rfl (by decide) (by decide) ?_
  refine vm_WP.seq 17 4 (pc' := 42) (L' := [.ref 41, .ref 7]) (S' := []) (σ' := (vm_SH.take 46, (vm_u2 (vm_u2 (vn_nT 45 (vm_u2 (vn_nT 44 (vm_u2 (vn_nT 43 (vm_u2 (vn_nT 42 T) 41 3 (some 42))) 41 4 (some 43))) 41 5 (some 44))) 41 6 (some 45)) 41 0 (some 7)), (vn_nM 45 (vn_nM 44 (vn_nM 43 (vn_nM 42 M)))))) rfl ?_
  exact vm_WP.ret (r := none) 21 rfl rfl rfl h
def vn_T8_46_47 (T : Nat → Nat → Option Nat) : Nat → Nat → Option Nat := (vm_u2 (vm_u2 (vn_nT 47 T) 46 1 (some 47)) 46 0 (some 7))
def vn_M8_46_47 (M : vm_M) : vm_M := (vn_nM 47 M)
theorem vn_c8_46_47 {X : Nat × (Nat → Int32)} {T : Nat → Nat → Option Nat} {M : vm_M} {Q : Option Value → vm_St → Prop} (h : Q none (vm_SH.take 48, vn_T8_46_47 T, vn_M8_46_47 M)) : vm_WP X 8 0 [.ref 46, .ref 7] [] (vm_mc 8) (vm_ms 8) (vm_SH.take 47, T, M) Q := by
  refine vm_WP.seq 0 1 (pc' := 1) (L' := [.ref 46, .ref 7]) (S' := [.ref 46]) (σ' := (vm_SH.take 47, T, M)) rfl ?_
  refine vn_oinit 1 rfl (by decide) (by decide) ?_
  refine vm_WP.seq 2 2 (pc' := 7) (L' := [.ref 46, .ref 7]) (S' := [.int (nI 16), .ref 46]) (σ' := (vm_SH.take 47, T, M)) rfl ?_
  refine vn_newA (c := 16) 4 rfl rfl rfl (by decide) (by decide) ?_
  refine vm_WP.seq 5 4 (pc' := 17) (L' := [.ref 46, .ref 7]) (S' := []) (σ' := (vm_SH.take 48, (vm_u2 (vm_u2 (vn_nT 47 T) 46 1 (some 47)) 46 0 (some 7)), (vn_nM 47 M))) rfl ?_
  exact vm_WP.ret (r := none) 9 rfl rfl rfl h
def vn_T73_0_1 (T : Nat → Nat → Option Nat) : Nat → Nat → Option Nat := (vm_u2 (vn_T8_46_47 (vn_nT 46 (vm_u2 (vn_T17_41_42 (vn_nT 41 (vm_u2 (vn_T0_35_36 (vn_nT 35 (vm_u2 (vn_T36_28_29 (vn_nT 28 (vm_u2 (vn_T36_21_22 (vn_nT 21 (vm_u2 (vn_T36_14_15 (vn_nT 14 (vm_u2 (vn_T36_7_8 (vn_nT 7 (vm_u2 (vn_T58_5_6 (vn_nT 5 (vm_u2 (vn_T47_1_2 (vn_nT 1 T)) 0 0 (some 1)))) 0 1 (some 5)))) 0 2 (some 7)))) 0 3 (some 14)))) 0 4 (some 21)))) 0 5 (some 28)))) 0 6 (some 35)))) 0 7 (some 41)))) 0 8 (some 46))
def vn_M73_0_1 (M : vm_M) : vm_M := (vn_M8_46_47 (vn_nM 46 (vn_M17_41_42 (vn_nM 41 (vn_M0_35_36 (vn_nM 35 (vn_M36_28_29 (vn_nM 28 (vn_M36_21_22 (vn_nM 21 (vn_M36_14_15 (vn_nM 14 (vn_M36_7_8 (vn_nM 7 (vn_M58_5_6 (vn_nM 5 (vn_M47_1_2 (vn_nM 1 M))))))))))))))))))
theorem vn_c73_0_1 {X : Nat × (Nat → Int32)} {T : Nat → Nat → Option Nat} {M : vm_M} {Q : Option Value → vm_St → Prop} (h : Q none (vm_SH.take 48, vn_T73_0_1 T, vn_M73_0_1 M)) : vm_WP X 73 0 [.ref 0] [] (vm_mc 73) (vm_ms 73) (vm_SH.take 1, T, M) Q := by
  refine vm_WP.seq 0 1 (pc' := 1) (L' := [.ref 0]) (S' := [.ref 0]) (σ' := (vm_SH.take 1, T, M)) rfl ?_
  refine vn_oinit 1 rfl (by decide) (by decide) ?_
  refine vm_WP.seq 2 1 (pc' := 5) (L' := [.ref 0]) (S' := [.ref 0]) (σ' := (vm_SH.take 1, T, M)) rfl ?_
  refine vn_newO 3 rfl rfl (by decide) (by decide) ?_
  refine vm_WP.seq 4 1 (pc' := 9) (L' := [.ref 0]) (S' := [.ref 1, .ref 1, .ref 0]) (σ' := (vm_SH.take 2, (vn_nT 1 T), (vn_nM 1 M))) rfl ?_
  refine vm_WP.call (a := 47) 5 [.ref 1] [.ref 1, .ref 0] [.ref 1] rfl rfl (by decide) rfl rfl ⟨rfl, Or.inr rfl, by decide, by decide, Nat.le_of_ble_eq_true rfl, Nat.le_of_ble_eq_true rfl⟩ rfl (vn_c47_1_2 ?_)
  show vm_WP X 73 12 [.ref 0] [.ref 1, .ref 0] ((vm_mc 73 - 1) - vm_mc 47) ((vm_ms 73 - 3) - vm_ms 47) (vm_SH.take 5, (vn_T47_1_2 (vn_nT 1 T)), (vn_M47_1_2 (vn_nM 1 M))) Q
  refine vm_WP.seq 6 2 (pc' := 16) (L' := [.ref 0]) (S' := [.ref 0]) (σ' := (vm_SH.take 5, (vm_u2 (vn_T47_1_2 (vn_nT 1 T)) 0 0 (some 1)), (vn_M47_1_2 (vn_nM 1 M)))) rfl ?_
  refine vn_newO 8 rfl rfl (by decide) (by decide) ?_
  refine vm_WP.seq 9 1 (pc' := 20) (L' := [.ref 0]) (S' := [.ref 5, .ref 5, .ref 0]) (σ' := (vm_SH.take 6, (vn_nT 5 (vm_u2 (vn_T47_1_2 (vn_nT 1 T)) 0 0 (some 1))), (vn_nM 5 (vn_M47_1_2 (vn_nM 1 M))))) rfl ?_
  refine vm_WP.call (a := 58) 10 [.ref 5] [.ref 5, .ref 0] [.ref 5] rfl rfl (by decide) rfl rfl ⟨rfl, Or.inr rfl, by decide, by decide, Nat.le_of_ble_eq_true rfl, Nat.le_of_ble_eq_true rfl⟩ rfl (vn_c58_5_6 ?_)
  show vm_WP X 73 23 [.ref 0] [.ref 5, .ref 0] ((((vm_mc 73 - 1) - vm_mc 47) - 1) - vm_mc 58) ((((vm_ms 73 - 3) - vm_ms 47) - 8) - vm_ms 58) (vm_SH.take 7, (vn_T58_5_6 (vn_nT 5 (vm_u2 (vn_T47_1_2 (vn_nT 1 T)) 0 0 (some 1)))), (vn_M58_5_6 (vn_nM 5 (vn_M47_1_2 (vn_nM 1 M))))) Q
  refine vm_WP.seq 11 2 (pc' := 27) (L' := [.ref 0]) (S' := [.ref 0]) (σ' := (vm_SH.take 7, (vm_u2 (vn_T58_5_6 (vn_nT 5 (vm_u2 (vn_T47_1_2 (vn_nT 1 T)) 0 0 (some 1)))) 0 1 (some 5)), (vn_M58_5_6 (vn_nM 5 (vn_M47_1_2 (vn_nM 1 M)))))) rfl ?_
  refine vn_newO 13 rfl rfl (by decide) (by decide) ?_
  refine vm_WP.seq 14 1 (pc' := 31) (L' := [.ref 0]) (S' := [.ref 7, .ref 7, .ref 0]) (σ' := (vm_SH.take 8, (vn_nT 7 (vm_u2 (vn_T58_5_6 (vn_nT 5 (vm_u2 (vn_T47_1_2 (vn_nT 1 T)) 0 0 (some 1)))) 0 1 (some 5))), (vn_nM 7 (vn_M58_5_6 (vn_nM 5 (vn_M47_1_2 (vn_nM 1 M))))))) rfl ?_
  refine vm_WP.call (a := 36) 15 [.ref 7] [.ref 7, .ref 0] [.ref 7] rfl rfl (by decide) rfl rfl ⟨rfl, Or.inr rfl, by decide, by decide, Nat.le_of_ble_eq_true rfl, Nat.le_of_ble_eq_true rfl⟩ rfl (vn_c36_7_8 ?_)
  show vm_WP X 73 34 [.ref 0] [.ref 7, .ref 0] ((((((vm_mc 73 - 1) - vm_mc 47) - 1) - vm_mc 58) - 1) - vm_mc 36) ((((((vm_ms 73 - 3) - vm_ms 47) - 8) - vm_ms 58) - 12) - vm_ms 36) (vm_SH.take 14, (vn_T36_7_8 (vn_nT 7 (vm_u2 (vn_T58_5_6 (vn_nT 5 (vm_u2 (vn_T47_1_2 (vn_nT 1 T)) 0 0 (some 1)))) 0 1 (some 5)))), (vn_M36_7_8 (vn_nM 7 (vn_M58_5_6 (vn_nM 5 (vn_M47_1_2 (vn_nM 1 M))))))) Q
  refine vm_WP.seq 16 2 (pc' := 38) (L' := [.ref 0]) (S' := [.ref 0]) (σ' := (vm_SH.take 14, (vm_u2 (vn_T36_7_8 (vn_nT 7 (vm_u2 (vn_T58_5_6 (vn_nT 5 (vm_u2 (vn_T47_1_2 (vn_nT 1 T)) 0 0 (some 1)))) 0 1 (some 5)))) 0 2 (some 7)), (vn_M36_7_8 (vn_nM 7 (vn_M58_5_6 (vn_nM 5 (vn_M47_1_2 (vn_nM 1 M)))))))) rfl ?_
  refine vn_newO 18 rfl rfl (by decide) (by decide) ?_
  refine vm_WP.seq 19 1 (pc' := 42) (L' := [.ref 0]) (S' := [.ref 14, .ref 14, .ref 0]) (σ' := (vm_SH.take 15, (vn_nT 14 (vm_u2 (vn_T36_7_8 (vn_nT 7 (vm_u2 (vn_T58_5_6 (vn_nT 5 (vm_u2 (vn_T47_1_2 (vn_nT 1 T)) 0 0 (some 1)))) 0 1 (some 5)))) 0 2 (some 7))), (vn_nM 14 (vn_M36_7_8 (vn_nM 7 (vn_M58_5_6 (vn_nM 5 (vn_M47_1_2 (vn_nM 1 M))))))))) rfl ?_
  refine vm_WP.call (a := 36) 20 [.ref 14] [.ref 14, .ref 0] [.ref 14] rfl rfl (by decide) rfl rfl ⟨rfl, Or.inr rfl, by decide, by decide, Nat.le_of_ble_eq_true rfl, Nat.le_of_ble_eq_true rfl⟩ rfl (vn_c36_14_15 ?_)
  show vm_WP X 73 45 [.ref 0] [.ref 14, .ref 0] ((((((((vm_mc 73 - 1) - vm_mc 47) - 1) - vm_mc 58) - 1) - vm_mc 36) - 1) - vm_mc 36) ((((((((vm_ms 73 - 3) - vm_ms 47) - 8) - vm_ms 58) - 12) - vm_ms 36) - 12) - vm_ms 36) (vm_SH.take 21, (vn_T36_14_15 (vn_nT 14 (vm_u2 (vn_T36_7_8 (vn_nT 7 (vm_u2 (vn_T58_5_6 (vn_nT 5 (vm_u2 (vn_T47_1_2 (vn_nT 1 T)) 0 0 (some 1)))) 0 1 (some 5)))) 0 2 (some 7)))), (vn_M36_14_15 (vn_nM 14 (vn_M36_7_8 (vn_nM 7 (vn_M58_5_6 (vn_nM 5 (vn_M47_1_2 (vn_nM 1 M))))))))) Q
  refine vm_WP.seq 21 2 (pc' := 49) (L' := [.ref 0]) (S' := [.ref 0]) (σ' := (vm_SH.take 21, (vm_u2 (vn_T36_14_15 (vn_nT 14 (vm_u2 (vn_T36_7_8 (vn_nT 7 (vm_u2 (vn_T58_5_6 (vn_nT 5 (vm_u2 (vn_T47_1_2 (vn_nT 1 T)) 0 0 (some 1)))) 0 1 (some 5)))) 0 2 (some 7)))) 0 3 (some 14)), (vn_M36_14_15 (vn_nM 14 (vn_M36_7_8 (vn_nM 7 (vn_M58_5_6 (vn_nM 5 (vn_M47_1_2 (vn_nM 1 M)))))))))) rfl ?_
  refine vn_newO 23 rfl rfl (by decide) (by decide) ?_
  refine vm_WP.seq 24 1 (pc' := 53) (L' := [.ref 0]) (S' := [.ref 21, .ref 21, .ref 0]) (σ' := (vm_SH.take 22, (vn_nT 21 (vm_u2 (vn_T36_14_15 (vn_nT 14 (vm_u2 (vn_T36_7_8 (vn_nT 7 (vm_u2 (vn_T58_5_6 (vn_nT 5 (vm_u2 (vn_T47_1_2 (vn_nT 1 T)) 0 0 (some 1)))) 0 1 (some 5)))) 0 2 (some 7)))) 0 3 (some 14))), (vn_nM 21 (vn_M36_14_15 (vn_nM 14 (vn_M36_7_8 (vn_nM 7 (vn_M58_5_6 (vn_nM 5 (vn_M47_1_2 (vn_nM 1 M))))))))))) rfl ?_
  refine vm_WP.call (a := 36) 25 [.ref 21] [.ref 21, .ref 0] [.ref 21] rfl rfl (by decide) rfl rfl ⟨rfl, Or.inr rfl, by decide, by decide, Nat.le_of_ble_eq_true rfl, Nat.le_of_ble_eq_true rfl⟩ rfl (vn_c36_21_22 ?_)
  show vm_WP X 73 56 [.ref 0] [.ref 21, .ref 0] ((((((((((vm_mc 73 - 1) - vm_mc 47) - 1) - vm_mc 58) - 1) - vm_mc 36) - 1) - vm_mc 36) - 1) - vm_mc 36) ((((((((((vm_ms 73 - 3) - vm_ms 47) - 8) - vm_ms 58) - 12) - vm_ms 36) - 12) - vm_ms 36) - 12) - vm_ms 36) (vm_SH.take 28, (vn_T36_21_22 (vn_nT 21 (vm_u2 (vn_T36_14_15 (vn_nT 14 (vm_u2 (vn_T36_7_8 (vn_nT 7 (vm_u2 (vn_T58_5_6 (vn_nT 5 (vm_u2 (vn_T47_1_2 (vn_nT 1 T)) 0 0 (some 1)))) 0 1 (some 5)))) 0 2 (some 7)))) 0 3 (some 14)))), (vn_M36_21_22 (vn_nM 21 (vn_M36_14_15 (vn_nM 14 (vn_M36_7_8 (vn_nM 7 (vn_M58_5_6 (vn_nM 5 (vn_M47_1_2 (vn_nM 1 M))))))))))) Q
  refine vm_WP.seq 26 2 (pc' := 60) (L' := [.ref 0]) (S' := [.ref 0]) (σ' := (vm_SH.take 28, (vm_u2 (vn_T36_21_22 (vn_nT 21 (vm_u2 (vn_T36_14_15 (vn_nT 14 (vm_u2 (vn_T36_7_8 (vn_nT 7 (vm_u2 (vn_T58_5_6 (vn_nT 5 (vm_u2 (vn_T47_1_2 (vn_nT 1 T)) 0 0 (some 1)))) 0 1 (some 5)))) 0 2 (some 7)))) 0 3 (some 14)))) 0 4 (some 21)), (vn_M36_21_22 (vn_nM 21 (vn_M36_14_15 (vn_nM 14 (vn_M36_7_8 (vn_nM 7 (vn_M58_5_6 (vn_nM 5 (vn_M47_1_2 (vn_nM 1 M)))))))))))) rfl ?_
  refine vn_newO 28 rfl rfl (by decide) (by decide) ?_
  refine vm_WP.seq 29 1 (pc' := 64) (L' := [.ref 0]) (S' := [.ref 28, .ref 28, .ref 0]) (σ' := (vm_SH.take 29, (vn_nT 28 (vm_u2 (vn_T36_21_22 (vn_nT 21 (vm_u2 (vn_T36_14_15 (vn_nT 14 (vm_u2 (vn_T36_7_8 (vn_nT 7 (vm_u2 (vn_T58_5_6 (vn_nT 5 (vm_u2 (vn_T47_1_2 (vn_nT 1 T)) 0 0 (some 1)))) 0 1 (some 5)))) 0 2 (some 7)))) 0 3 (some 14)))) 0 4 (some 21))), (vn_nM 28 (vn_M36_21_22 (vn_nM 21 (vn_M36_14_15 (vn_nM 14 (vn_M36_7_8 (vn_nM 7 (vn_M58_5_6 (vn_nM 5 (vn_M47_1_2 (vn_nM 1 M))))))))))))) rfl ?_
  refine vm_WP.call (a := 36) 30 [.ref 28] [.ref 28, .ref 0] [.ref 28] rfl rfl (by decide) rfl rfl ⟨rfl, Or.inr rfl, by decide, by decide, Nat.le_of_ble_eq_true rfl, Nat.le_of_ble_eq_true rfl⟩ rfl (vn_c36_28_29 ?_)
  show vm_WP X 73 67 [.ref 0] [.ref 28, .ref 0] ((((((((((((vm_mc 73 - 1) - vm_mc 47) - 1) - vm_mc 58) - 1) - vm_mc 36) - 1) - vm_mc 36) - 1) - vm_mc 36) - 1) - vm_mc 36) ((((((((((((vm_ms 73 - 3) - vm_ms 47) - 8) - vm_ms 58) - 12) - vm_ms 36) - 12) - vm_ms 36) - 12) - vm_ms 36) - 12) - vm_ms 36) (vm_SH.take 35, (vn_T36_28_29 (vn_nT 28 (vm_u2 (vn_T36_21_22 (vn_nT 21 (vm_u2 (vn_T36_14_15 (vn_nT 14 (vm_u2 (vn_T36_7_8 (vn_nT 7 (vm_u2 (vn_T58_5_6 (vn_nT 5 (vm_u2 (vn_T47_1_2 (vn_nT 1 T)) 0 0 (some 1)))) 0 1 (some 5)))) 0 2 (some 7)))) 0 3 (some 14)))) 0 4 (some 21)))), (vn_M36_28_29 (vn_nM 28 (vn_M36_21_22 (vn_nM 21 (vn_M36_14_15 (vn_nM 14 (vn_M36_7_8 (vn_nM 7 (vn_M58_5_6 (vn_nM 5 (vn_M47_1_2 (vn_nM 1 M))))))))))))) Q
  refine vm_WP.seq 31 2 (pc' := 71) (L' := [.ref 0]) (S' := [.ref 0]) (σ' := (vm_SH.take 35, (vm_u2 (vn_T36_28_29 (vn_nT 28 (vm_u2 (vn_T36_21_22 (vn_nT 21 (vm_u2 (vn_T36_14_15 (vn_nT 14 (vm_u2 (vn_T36_7_8 (vn_nT 7 (vm_u2 (vn_T58_5_6 (vn_nT 5 (vm_u2 (vn_T47_1_2 (vn_nT 1 T)) 0 0 (some 1)))) 0 1 (some 5)))) 0 2 (some 7)))) 0 3 (some 14)))) 0 4 (some 21)))) 0 5 (some 28)), (vn_M36_28_29 (vn_nM 28 (vn_M36_21_22 (vn_nM 21 (vn_M36_14_15 (vn_nM 14 (vn_M36_7_8 (vn_nM 7 (vn_M58_5_6 (vn_nM 5 (vn_M47_1_2 (vn_nM 1 M)))))))))))))) rfl ?_
  refine vn_newO 33 rfl rfl (by decide) (by decide) ?_
  refine vm_WP.seq 34 3 (pc' := 79) (L' := [.ref 0]) (S' := [.ref 7, .ref 35, .ref 35, .ref 0]) (σ' := (vm_SH.take 36, (vn_nT 35 (vm_u2 (vn_T36_28_29 (vn_nT 28 (vm_u2 (vn_T36_21_22 (vn_nT 21 (vm_u2 (vn_T36_14_15 (vn_nT 14 (vm_u2 (vn_T36_7_8 (vn_nT 7 (vm_u2 (vn_T58_5_6 (vn_nT 5 (vm_u2 (vn_T47_1_2 (vn_nT 1 T)) 0 0 (some 1)))) 0 1 (some 5)))) 0 2 (some 7)))) 0 3 (some 14)))) 0 4 (some 21)))) 0 5 (some 28))), (vn_nM 35 (vn_M36_28_29 (vn_nM 28 (vn_M36_21_22 (vn_nM 21 (vn_M36_14_15 (vn_nM 14 (vn_M36_7_8 (vn_nM 7 (vn_M58_5_6 (vn_nM 5 (vn_M47_1_2 (vn_nM 1 M))))))))))))))) rfl ?_
  refine vm_WP.call (a := 0) 37 [.ref 35, .ref 7] [.ref 35, .ref 0] [.ref 35, .ref 7] rfl rfl (by decide) rfl rfl ⟨rfl, Or.inr rfl, by decide, by decide, Nat.le_of_ble_eq_true rfl, Nat.le_of_ble_eq_true rfl⟩ rfl (vn_c0_35_36 ?_)
  show vm_WP X 73 82 [.ref 0] [.ref 35, .ref 0] ((((((((((((((vm_mc 73 - 1) - vm_mc 47) - 1) - vm_mc 58) - 1) - vm_mc 36) - 1) - vm_mc 36) - 1) - vm_mc 36) - 1) - vm_mc 36) - 1) - vm_mc 0) ((((((((((((((vm_ms 73 - 3) - vm_ms 47) - 8) - vm_ms 58) - 12) - vm_ms 36) - 12) - vm_ms 36) - 12) - vm_ms 36) - 12) - vm_ms 36) - 8) - vm_ms 0) (vm_SH.take 41, (vn_T0_35_36 (vn_nT 35 (vm_u2 (vn_T36_28_29 (vn_nT 28 (vm_u2 (vn_T36_21_22 (vn_nT 21 (vm_u2 (vn_T36_14_15 (vn_nT 14 (vm_u2 (vn_T36_7_8 (vn_nT 7 (vm_u2 (vn_T58_5_6 (vn_nT 5 (vm_u2 (vn_T47_1_2 (vn_nT 1 T)) 0 0 (some 1)))) 0 1 (some 5)))) 0 2 (some 7)))) 0 3 (some 14)))) 0 4 (some 21)))) 0 5 (some 28)))), (vn_M0_35_36 (vn_nM 35 (vn_M36_28_29 (vn_nM 28 (vn_M36_21_22 (vn_nM 21 (vn_M36_14_15 (vn_nM 14 (vn_M36_7_8 (vn_nM 7 (vn_M58_5_6 (vn_nM 5 (vn_M47_1_2 (vn_nM 1 M))))))))))))))) Q
  refine vm_WP.seq 38 2 (pc' := 86) (L' := [.ref 0]) (S' := [.ref 0]) (σ' := (vm_SH.take 41, (vm_u2 (vn_T0_35_36 (vn_nT 35 (vm_u2 (vn_T36_28_29 (vn_nT 28 (vm_u2 (vn_T36_21_22 (vn_nT 21 (vm_u2 (vn_T36_14_15 (vn_nT 14 (vm_u2 (vn_T36_7_8 (vn_nT 7 (vm_u2 (vn_T58_5_6 (vn_nT 5 (vm_u2 (vn_T47_1_2 (vn_nT 1 T)) 0 0 (some 1)))) 0 1 (some 5)))) 0 2 (some 7)))) 0 3 (some 14)))) 0 4 (some 21)))) 0 5 (some 28)))) 0 6 (some 35)), (vn_M0_35_36 (vn_nM 35 (vn_M36_28_29 (vn_nM 28 (vn_M36_21_22 (vn_nM 21 (vn_M36_14_15 (vn_nM 14 (vn_M36_7_8 (vn_nM 7 (vn_M58_5_6 (vn_nM 5 (vn_M47_1_2 (vn_nM 1 M)))))))))))))))) rfl ?_
  refine vn_newO 40 rfl rfl (by decide) (by decide) ?_
  refine vm_WP.seq 41 3 (pc' := 94) (L' := [.ref 0]) (S' := [.ref 7, .ref 41, .ref 41, .ref 0]) (σ' := (vm_SH.take 42, (vn_nT 41 (vm_u2 (vn_T0_35_36 (vn_nT 35 (vm_u2 (vn_T36_28_29 (vn_nT 28 (vm_u2 (vn_T36_21_22 (vn_nT 21 (vm_u2 (vn_T36_14_15 (vn_nT 14 (vm_u2 (vn_T36_7_8 (vn_nT 7 (vm_u2 (vn_T58_5_6 (vn_nT 5 (vm_u2 (vn_T47_1_2 (vn_nT 1 T)) 0 0 (some 1)))) 0 1 (some 5)))) 0 2 (some 7)))) 0 3 (some 14)))) 0 4 (some 21)))) 0 5 (some 28)))) 0 6 (some 35))), (vn_nM 41 (vn_M0_35_36 (vn_nM 35 (vn_M36_28_29 (vn_nM 28 (vn_M36_21_22 (vn_nM 21 (vn_M36_14_15 (vn_nM 14 (vn_M36_7_8 (vn_nM 7 (vn_M58_5_6 (vn_nM 5 (vn_M47_1_2 (vn_nM 1 M))))))))))))))))) rfl ?_
  refine vm_WP.call (a := 17) 44 [.ref 41, .ref 7] [.ref 41, .ref 0] [.ref 41, .ref 7] rfl rfl (by decide) rfl rfl ⟨rfl, Or.inr rfl, by decide, by decide, Nat.le_of_ble_eq_true rfl, Nat.le_of_ble_eq_true rfl⟩ rfl (vn_c17_41_42 ?_)
  show vm_WP X 73 97 [.ref 0] [.ref 41, .ref 0] ((((((((((((((((vm_mc 73 - 1) - vm_mc 47) - 1) - vm_mc 58) - 1) - vm_mc 36) - 1) - vm_mc 36) - 1) - vm_mc 36) - 1) - vm_mc 36) - 1) - vm_mc 0) - 1) - vm_mc 17) ((((((((((((((((vm_ms 73 - 3) - vm_ms 47) - 8) - vm_ms 58) - 12) - vm_ms 36) - 12) - vm_ms 36) - 12) - vm_ms 36) - 12) - vm_ms 36) - 8) - vm_ms 0) - 7) - vm_ms 17) (vm_SH.take 46, (vn_T17_41_42 (vn_nT 41 (vm_u2 (vn_T0_35_36 (vn_nT 35 (vm_u2 (vn_T36_28_29 (vn_nT 28 (vm_u2 (vn_T36_21_22 (vn_nT 21 (vm_u2 (vn_T36_14_15 (vn_nT 14 (vm_u2 (vn_T36_7_8 (vn_nT 7 (vm_u2 (vn_T58_5_6 (vn_nT 5 (vm_u2 (vn_T47_1_2 (vn_nT 1 T)) 0 0 (some 1)))) 0 1 (some 5)))) 0 2 (some 7)))) 0 3 (some 14)))) 0 4 (some 21)))) 0 5 (some 28)))) 0 6 (some 35)))), (vn_M17_41_42 (vn_nM 41 (vn_M0_35_36 (vn_nM 35 (vn_M36_28_29 (vn_nM 28 (vn_M36_21_22 (vn_nM 21 (vn_M36_14_15 (vn_nM 14 (vn_M36_7_8 (vn_nM 7 (vn_M58_5_6 (vn_nM 5 (vn_M47_1_2 (vn_nM 1 M))))))))))))))))) Q
  refine vm_WP.seq 45 2 (pc' := 101) (L' := [.ref 0]) (S' := [.ref 0]) (σ' := (vm_SH.take 46, (vm_u2 (vn_T17_41_42 (vn_nT 41 (vm_u2 (vn_T0_35_36 (vn_nT 35 (vm_u2 (vn_T36_28_29 (vn_nT 28 (vm_u2 (vn_T36_21_22 (vn_nT 21 (vm_u2 (vn_T36_14_15 (vn_nT 14 (vm_u2 (vn_T36_7_8 (vn_nT 7 (vm_u2 (vn_T58_5_6 (vn_nT 5 (vm_u2 (vn_T47_1_2 (vn_nT 1 T)) 0 0 (some 1)))) 0 1 (some 5)))) 0 2 (some 7)))) 0 3 (some 14)))) 0 4 (some 21)))) 0 5 (some 28)))) 0 6 (some 35)))) 0 7 (some 41)), (vn_M17_41_42 (vn_nM 41 (vn_M0_35_36 (vn_nM 35 (vn_M36_28_29 (vn_nM 28 (vn_M36_21_22 (vn_nM 21 (vn_M36_14_15 (vn_nM 14 (vn_M36_7_8 (vn_nM 7 (vn_M58_5_6 (vn_nM 5 (vn_M47_1_2 (vn_nM 1 M)))))))))))))))))) rfl ?_
  refine vn_newO 47 rfl rfl (by decide) (by decide) ?_
  refine vm_WP.seq 48 3 (pc' := 109) (L' := [.ref 0]) (S' := [.ref 7, .ref 46, .ref 46, .ref 0]) (σ' := (vm_SH.take 47, (vn_nT 46 (vm_u2 (vn_T17_41_42 (vn_nT 41 (vm_u2 (vn_T0_35_36 (vn_nT 35 (vm_u2 (vn_T36_28_29 (vn_nT 28 (vm_u2 (vn_T36_21_22 (vn_nT 21 (vm_u2 (vn_T36_14_15 (vn_nT 14 (vm_u2 (vn_T36_7_8 (vn_nT 7 (vm_u2 (vn_T58_5_6 (vn_nT 5 (vm_u2 (vn_T47_1_2 (vn_nT 1 T)) 0 0 (some 1)))) 0 1 (some 5)))) 0 2 (some 7)))) 0 3 (some 14)))) 0 4 (some 21)))) 0 5 (some 28)))) 0 6 (some 35)))) 0 7 (some 41))), (vn_nM 46 (vn_M17_41_42 (vn_nM 41 (vn_M0_35_36 (vn_nM 35 (vn_M36_28_29 (vn_nM 28 (vn_M36_21_22 (vn_nM 21 (vn_M36_14_15 (vn_nM 14 (vn_M36_7_8 (vn_nM 7 (vn_M58_5_6 (vn_nM 5 (vn_M47_1_2 (vn_nM 1 M))))))))))))))))))) rfl ?_
  refine vm_WP.call (a := 8) 51 [.ref 46, .ref 7] [.ref 46, .ref 0] [.ref 46, .ref 7] rfl rfl (by decide) rfl rfl ⟨rfl, Or.inr rfl, by decide, by decide, Nat.le_of_ble_eq_true rfl, Nat.le_of_ble_eq_true rfl⟩ rfl (vn_c8_46_47 ?_)
  show vm_WP X 73 112 [.ref 0] [.ref 46, .ref 0] ((((((((((((((((((vm_mc 73 - 1) - vm_mc 47) - 1) - vm_mc 58) - 1) - vm_mc 36) - 1) - vm_mc 36) - 1) - vm_mc 36) - 1) - vm_mc 36) - 1) - vm_mc 0) - 1) - vm_mc 17) - 1) - vm_mc 8) ((((((((((((((((((vm_ms 73 - 3) - vm_ms 47) - 8) - vm_ms 58) - 12) - vm_ms 36) - 12) - vm_ms 36) - 12) - vm_ms 36) - 12) - vm_ms 36) - 8) - vm_ms 0) - 7) - vm_ms 17) - 3) - vm_ms 8) (vm_SH.take 48, (vn_T8_46_47 (vn_nT 46 (vm_u2 (vn_T17_41_42 (vn_nT 41 (vm_u2 (vn_T0_35_36 (vn_nT 35 (vm_u2 (vn_T36_28_29 (vn_nT 28 (vm_u2 (vn_T36_21_22 (vn_nT 21 (vm_u2 (vn_T36_14_15 (vn_nT 14 (vm_u2 (vn_T36_7_8 (vn_nT 7 (vm_u2 (vn_T58_5_6 (vn_nT 5 (vm_u2 (vn_T47_1_2 (vn_nT 1 T)) 0 0 (some 1)))) 0 1 (some 5)))) 0 2 (some 7)))) 0 3 (some 14)))) 0 4 (some 21)))) 0 5 (some 28)))) 0 6 (some 35)))) 0 7 (some 41)))), (vn_M8_46_47 (vn_nM 46 (vn_M17_41_42 (vn_nM 41 (vn_M0_35_36 (vn_nM 35 (vn_M36_28_29 (vn_nM 28 (vn_M36_21_22 (vn_nM 21 (vn_M36_14_15 (vn_nM 14 (vn_M36_7_8 (vn_nM 7 (vn_M58_5_6 (vn_nM 5 (vn_M47_1_2 (vn_nM 1 M))))))))))))))))))) Q
  refine vm_WP.seq 52 1 (pc' := 115) (L' := [.ref 0]) (S' := []) (σ' := (vm_SH.take 48, (vm_u2 (vn_T8_46_47 (vn_nT 46 (vm_u2 (vn_T17_41_42 (vn_nT 41 (vm_u2 (vn_T0_35_36 (vn_nT 35 (vm_u2 (vn_T36_28_29 (vn_nT 28 (vm_u2 (vn_T36_21_22 (vn_nT 21 (vm_u2 (vn_T36_14_15 (vn_nT 14 (vm_u2 (vn_T36_7_8 (vn_nT 7 (vm_u2 (vn_T58_5_6 (vn_nT 5 (vm_u2 (vn_T47_1_2 (vn_nT 1 T)) 0 0 (some 1)))) 0 1 (some 5)))) 0 2 (some 7)))) 0 3 (some 14)))) 0 4 (some 21)))) 0 5 (some 28)))) 0 6 (some 35)))) 0 7 (some 41)))) 0 8 (some 46)), (vn_M8_46_47 (vn_nM 46 (vn_M17_41_42 (vn_nM 41 (vn_M0_35_36 (vn_nM 35 (vn_M36_28_29 (vn_nM 28 (vn_M36_21_22 (vn_nM 21 (vn_M36_14_15 (vn_nM 14 (vn_M36_7_8 (vn_nM 7 (vn_M58_5_6 (vn_nM 5 (vn_M47_1_2 (vn_nM 1 M)))))))))))))))))))) rfl ?_
  exact vm_WP.ret (r := none) 53 rfl rfl rfl h
def vn_T107_48_49 (T : Nat → Nat → Option Nat) : Nat → Nat → Option Nat := (vm_u2 (vn_nT 64 (vm_u2 (vn_nT 63 (vm_u2 (vn_nT 62 (vm_u2 (vn_nT 61 (vm_u2 (vn_nT 60 (vm_u2 (vn_nT 59 (vm_u2 (vn_nT 58 (vm_u2 (vn_nT 57 (vm_u2 (vn_nT 56 (vm_u2 (vn_nT 55 (vm_u2 (vn_nT 54 (vm_u2 (vn_nT 53 (vm_u2 (vn_nT 52 (vm_u2 (vn_nT 51 (vm_u2 (vn_nT 50 (vm_u2 (vn_nT 49 T) 48 2 (some 49))) 48 3 (some 50))) 48 4 (some 51))) 48 5 (some 52))) 48 6 (some 53))) 48 7 (some 54))) 48 9 (some 55))) 48 19 (some 56))) 48 20 (some 57))) 48 21 (some 58))) 48 23 (some 59))) 48 24 (some 60))) 48 25 (some 61))) 48 26 (some 62))) 48 27 (some 63))) 48 28 (some 64))
def vn_M107_48_49 (M : vm_M) : vm_M := (vn_nM 64 (vn_nM 63 (vn_nM 62 (vn_nM 61 (vn_nM 60 (vn_nM 59 (vn_nM 58 (vn_nM 57 (vn_nM 56 (vn_nM 55 (vn_nM 54 (vn_nM 53 (vn_nM 52 (vn_nM 51 (vn_nM 50 (vm_u2 (vm_u2 (vm_u2 (vm_u2 (vm_u2 (vm_u2 (vm_u2 (vm_u2 (vn_nM 49 M) 49 0 (Int32.ofInt (-1))) 49 1 (Int32.ofInt (-1))) 49 2 (Int32.ofInt (-1))) 49 3 (Int32.ofInt (-1))) 49 4 (Int32.ofInt (-1))) 49 5 (Int32.ofInt (-1))) 49 6 (Int32.ofInt (-1))) 49 7 (Int32.ofInt (-1))))))))))))))))))
theorem vn_c107_48_49 {X : Nat × (Nat → Int32)} {T : Nat → Nat → Option Nat} {M : vm_M} {Q : Option Value → vm_St → Prop} (h : Q none (vm_SH.take 65, vn_T107_48_49 T, vn_M107_48_49 M)) : vm_WP X 107 0 [.ref 48] [] (vm_mc 107) (vm_ms 107) (vm_SH.take 49, T, M) Q := by
  refine vm_WP.seq 0 1 (pc' := 1) (L' := [.ref 48]) (S' := [.ref 48]) (σ' := (vm_SH.take 49, T, M)) rfl ?_
  refine vn_oinit 1 rfl (by decide) (by decide) ?_
  refine vm_WP.seq 2 2 (pc' := 7) (L' := [.ref 48]) (S' := [.int (nI 8), .ref 48]) (σ' := (vm_SH.take 49, T, M)) rfl ?_
  refine vn_newA (c := 8) 4 rfl rfl rfl (by decide) (by decide) ?_
  refine vm_WP.seq 5 3 (pc' := 12) (L' := [.ref 48]) (S' := [.int (Int32.ofInt (-1)), .int (nI 0), .ref 49, .ref 49, .ref 48]) (σ' := (vm_SH.take 50, (vn_nT 49 T), (vn_nM 49 M))) rfl ?_
  refine vn_ast (n := 8) (jj := 0) 8 rfl rfl (by decide) (by decide) ?_
  refine vm_WP.seq 9 3 (pc' := 16) (L' := [.ref 48]) (S' := [.int (Int32.ofInt (-1)), .int (nI 1), .ref 49, .ref 49, .ref 48]) (σ' := (vm_SH.take 50, (vn_nT 49 T), (vm_u2 (vn_nM 49 M) 49 0 (Int32.ofInt (-1))))) rfl ?_
  refine vn_ast (n := 8) (jj := 1) 12 rfl rfl (by decide) (by decide) ?_
  refine vm_WP.seq 13 3 (pc' := 20) (L' := [.ref 48]) (S' := [.int (Int32.ofInt (-1)), .int (nI 2), .ref 49, .ref 49, .ref 48]) (σ' := (vm_SH.take 50, (vn_nT 49 T), (vm_u2 (vm_u2 (vn_nM 49 M) 49 0 (Int32.ofInt (-1))) 49 1 (Int32.ofInt (-1))))) rfl ?_
  refine vn_ast (n := 8) (jj := 2) 16 rfl rfl (by decide) (by decide) ?_
  refine vm_WP.seq 17 3 (pc' := 24) (L' := [.ref 48]) (S' := [.int (Int32.ofInt (-1)), .int (nI 3), .ref 49, .ref 49, .ref 48]) (σ' := (vm_SH.take 50, (vn_nT 49 T), (vm_u2 (vm_u2 (vm_u2 (vn_nM 49 M) 49 0 (Int32.ofInt (-1))) 49 1 (Int32.ofInt (-1))) 49 2 (Int32.ofInt (-1))))) rfl ?_
  refine vn_ast (n := 8) (jj := 3) 20 rfl rfl (by decide) (by decide) ?_
  refine vm_WP.seq 21 3 (pc' := 28) (L' := [.ref 48]) (S' := [.int (Int32.ofInt (-1)), .int (nI 4), .ref 49, .ref 49, .ref 48]) (σ' := (vm_SH.take 50, (vn_nT 49 T), (vm_u2 (vm_u2 (vm_u2 (vm_u2 (vn_nM 49 M) 49 0 (Int32.ofInt (-1))) 49 1 (Int32.ofInt (-1))) 49 2 (Int32.ofInt (-1))) 49 3 (Int32.ofInt (-1))))) rfl ?_
  refine vn_ast (n := 8) (jj := 4) 24 rfl rfl (by decide) (by decide) ?_
  refine vm_WP.seq 25 3 (pc' := 32) (L' := [.ref 48]) (S' := [.int (Int32.ofInt (-1)), .int (nI 5), .ref 49, .ref 49, .ref 48]) (σ' := (vm_SH.take 50, (vn_nT 49 T), (vm_u2 (vm_u2 (vm_u2 (vm_u2 (vm_u2 (vn_nM 49 M) 49 0 (Int32.ofInt (-1))) 49 1 (Int32.ofInt (-1))) 49 2 (Int32.ofInt (-1))) 49 3 (Int32.ofInt (-1))) 49 4 (Int32.ofInt (-1))))) rfl ?_
  refine vn_ast (n := 8) (jj := 5) 28 rfl rfl (by decide) (by decide) ?_
  refine vm_WP.seq 29 3 (pc' := 37) (L' := [.ref 48]) (S' := [.int (Int32.ofInt (-1)), .int (nI 6), .ref 49, .ref 49, .ref 48]) (σ' := (vm_SH.take 50, (vn_nT 49 T), (vm_u2 (vm_u2 (vm_u2 (vm_u2 (vm_u2 (vm_u2 (vn_nM 49 M) 49 0 (Int32.ofInt (-1))) 49 1 (Int32.ofInt (-1))) 49 2 (Int32.ofInt (-1))) 49 3 (Int32.ofInt (-1))) 49 4 (Int32.ofInt (-1))) 49 5 (Int32.ofInt (-1))))) rfl ?_
  refine vn_ast (n := 8) (jj := 6) 32 rfl rfl (by decide) (by decide) ?_
  refine vm_WP.seq 33 3 (pc' := 42) (L' := [.ref 48]) (S' := [.int (Int32.ofInt (-1)), .int (nI 7), .ref 49, .ref 49, .ref 48]) (σ' := (vm_SH.take 50, (vn_nT 49 T), (vm_u2 (vm_u2 (vm_u2 (vm_u2 (vm_u2 (vm_u2 (vm_u2 (vn_nM 49 M) 49 0 (Int32.ofInt (-1))) 49 1 (Int32.ofInt (-1))) 49 2 (Int32.ofInt (-1))) 49 3 (Int32.ofInt (-1))) 49 4 (Int32.ofInt (-1))) 49 5 (Int32.ofInt (-1))) 49 6 (Int32.ofInt (-1))))) rfl ?_
  refine vn_ast (n := 8) (jj := 7) 36 rfl rfl (by decide) (by decide) ?_
  refine vm_WP.seq 37 3 (pc' := 49) (L' := [.ref 48]) (S' := [.int (nI 8), .ref 48]) (σ' := (vm_SH.take 50, (vm_u2 (vn_nT 49 T) 48 2 (some 49)), (vm_u2 (vm_u2 (vm_u2 (vm_u2 (vm_u2 (vm_u2 (vm_u2 (vm_u2 (vn_nM 49 M) 49 0 (Int32.ofInt (-1))) 49 1 (Int32.ofInt (-1))) 49 2 (Int32.ofInt (-1))) 49 3 (Int32.ofInt (-1))) 49 4 (Int32.ofInt (-1))) 49 5 (Int32.ofInt (-1))) 49 6 (Int32.ofInt (-1))) 49 7 (Int32.ofInt (-1))))) rfl ?_
  refine vn_newA (c := 8) 40 rfl rfl rfl (by decide) (by decide) ?_
  refine vm_WP.seq 41 3 (pc' := 58) (L' := [.ref 48]) (S' := [.int (nI 320), .ref 48]) (σ' := (vm_SH.take 51, (vm_u2 (vn_nT 50 (vm_u2 (vn_nT 49 T) 48 2 (some 49))) 48 3 (some 50)), (vn_nM 50 (vm_u2 (vm_u2 (vm_u2 (vm_u2 (vm_u2 (vm_u2 (vm_u2 (vm_u2 (vn_nM 49 M) 49 0 (Int32.ofInt (-1))) 49 1 (Int32.ofInt (-1))) 49 2 (Int32.ofInt (-1))) 49 3 (Int32.ofInt (-1))) 49 4 (Int32.ofInt (-1))) 49 5 (Int32.ofInt (-1))) 49 6 (Int32.ofInt (-1))) 49 7 (Int32.ofInt (-1)))))) rfl ?_
  refine vn_newA (c := 320) 44 rfl rfl rfl (by decide) (by decide) ?_
  refine vm_WP.seq 45 3 (pc' := 66) (L' := [.ref 48]) (S' := [.int (nI 70), .ref 48]) (σ' := (vm_SH.take 52, (vm_u2 (vn_nT 51 (vm_u2 (vn_nT 50 (vm_u2 (vn_nT 49 T) 48 2 (some 49))) 48 3 (some 50))) 48 4 (some 51)), (vn_nM 51 (vn_nM 50 (vm_u2 (vm_u2 (vm_u2 (vm_u2 (vm_u2 (vm_u2 (vm_u2 (vm_u2 (vn_nM 49 M) 49 0 (Int32.ofInt (-1))) 49 1 (Int32.ofInt (-1))) 49 2 (Int32.ofInt (-1))) 49 3 (Int32.ofInt (-1))) 49 4 (Int32.ofInt (-1))) 49 5 (Int32.ofInt (-1))) 49 6 (Int32.ofInt (-1))) 49 7 (Int32.ofInt (-1))))))) rfl ?_
  refine vn_newA (c := 70) 48 rfl rfl rfl (by decide) (by decide) ?_
  refine vm_WP.seq 49 3 (pc' := 74) (L' := [.ref 48]) (S' := [.int (nI 70), .ref 48]) (σ' := (vm_SH.take 53, (vm_u2 (vn_nT 52 (vm_u2 (vn_nT 51 (vm_u2 (vn_nT 50 (vm_u2 (vn_nT 49 T) 48 2 (some 49))) 48 3 (some 50))) 48 4 (some 51))) 48 5 (some 52)), (vn_nM 52 (vn_nM 51 (vn_nM 50 (vm_u2 (vm_u2 (vm_u2 (vm_u2 (vm_u2 (vm_u2 (vm_u2 (vm_u2 (vn_nM 49 M) 49 0 (Int32.ofInt (-1))) 49 1 (Int32.ofInt (-1))) 49 2 (Int32.ofInt (-1))) 49 3 (Int32.ofInt (-1))) 49 4 (Int32.ofInt (-1))) 49 5 (Int32.ofInt (-1))) 49 6 (Int32.ofInt (-1))) 49 7 (Int32.ofInt (-1)))))))) rfl ?_
  refine vn_newA (c := 70) 52 rfl rfl rfl (by decide) (by decide) ?_
  refine vm_WP.seq 53 3 (pc' := 83) (L' := [.ref 48]) (S' := [.int (nI 1680), .ref 48]) (σ' := (vm_SH.take 54, (vm_u2 (vn_nT 53 (vm_u2 (vn_nT 52 (vm_u2 (vn_nT 51 (vm_u2 (vn_nT 50 (vm_u2 (vn_nT 49 T) 48 2 (some 49))) 48 3 (some 50))) 48 4 (some 51))) 48 5 (some 52))) 48 6 (some 53)), (vn_nM 53 (vn_nM 52 (vn_nM 51 (vn_nM 50 (vm_u2 (vm_u2 (vm_u2 (vm_u2 (vm_u2 (vm_u2 (vm_u2 (vm_u2 (vn_nM 49 M) 49 0 (Int32.ofInt (-1))) 49 1 (Int32.ofInt (-1))) 49 2 (Int32.ofInt (-1))) 49 3 (Int32.ofInt (-1))) 49 4 (Int32.ofInt (-1))) 49 5 (Int32.ofInt (-1))) 49 6 (Int32.ofInt (-1))) 49 7 (Int32.ofInt (-1))))))))) rfl ?_
  refine vn_newA (c := 1680) 56 rfl rfl rfl (by decide) (by decide) ?_
  refine vm_WP.seq 57 3 (pc' := 92) (L' := [.ref 48]) (S' := [.int (nI 400), .ref 48]) (σ' := (vm_SH.take 55, (vm_u2 (vn_nT 54 (vm_u2 (vn_nT 53 (vm_u2 (vn_nT 52 (vm_u2 (vn_nT 51 (vm_u2 (vn_nT 50 (vm_u2 (vn_nT 49 T) 48 2 (some 49))) 48 3 (some 50))) 48 4 (some 51))) 48 5 (some 52))) 48 6 (some 53))) 48 7 (some 54)), (vn_nM 54 (vn_nM 53 (vn_nM 52 (vn_nM 51 (vn_nM 50 (vm_u2 (vm_u2 (vm_u2 (vm_u2 (vm_u2 (vm_u2 (vm_u2 (vm_u2 (vn_nM 49 M) 49 0 (Int32.ofInt (-1))) 49 1 (Int32.ofInt (-1))) 49 2 (Int32.ofInt (-1))) 49 3 (Int32.ofInt (-1))) 49 4 (Int32.ofInt (-1))) 49 5 (Int32.ofInt (-1))) 49 6 (Int32.ofInt (-1))) 49 7 (Int32.ofInt (-1)))))))))) rfl ?_
  refine vn_newA (c := 400) 60 rfl rfl rfl (by decide) (by decide) ?_
  refine vm_WP.seq 61 3 (pc' := 101) (L' := [.ref 48]) (S' := [.int (nI 372), .ref 48]) (σ' := (vm_SH.take 56, (vm_u2 (vn_nT 55 (vm_u2 (vn_nT 54 (vm_u2 (vn_nT 53 (vm_u2 (vn_nT 52 (vm_u2 (vn_nT 51 (vm_u2 (vn_nT 50 (vm_u2 (vn_nT 49 T) 48 2 (some 49))) 48 3 (some 50))) 48 4 (some 51))) 48 5 (some 52))) 48 6 (some 53))) 48 7 (some 54))) 48 9 (some 55)), (vn_nM 55 (vn_nM 54 (vn_nM 53 (vn_nM 52 (vn_nM 51 (vn_nM 50 (vm_u2 (vm_u2 (vm_u2 (vm_u2 (vm_u2 (vm_u2 (vm_u2 (vm_u2 (vn_nM 49 M) 49 0 (Int32.ofInt (-1))) 49 1 (Int32.ofInt (-1))) 49 2 (Int32.ofInt (-1))) 49 3 (Int32.ofInt (-1))) 49 4 (Int32.ofInt (-1))) 49 5 (Int32.ofInt (-1))) 49 6 (Int32.ofInt (-1))) 49 7 (Int32.ofInt (-1))))))))))) rfl ?_
  refine vn_newA (c := 372) 64 rfl rfl rfl (by decide) (by decide) ?_
  refine vm_WP.seq 65 3 (pc' := 110) (L' := [.ref 48]) (S' := [.int (nI 372), .ref 48]) (σ' := (vm_SH.take 57, (vm_u2 (vn_nT 56 (vm_u2 (vn_nT 55 (vm_u2 (vn_nT 54 (vm_u2 (vn_nT 53 (vm_u2 (vn_nT 52 (vm_u2 (vn_nT 51 (vm_u2 (vn_nT 50 (vm_u2 (vn_nT 49 T) 48 2 (some 49))) 48 3 (some 50))) 48 4 (some 51))) 48 5 (some 52))) 48 6 (some 53))) 48 7 (some 54))) 48 9 (some 55))) 48 19 (some 56)), (vn_nM 56 (vn_nM 55 (vn_nM 54 (vn_nM 53 (vn_nM 52 (vn_nM 51 (vn_nM 50 (vm_u2 (vm_u2 (vm_u2 (vm_u2 (vm_u2 (vm_u2 (vm_u2 (vm_u2 (vn_nM 49 M) 49 0 (Int32.ofInt (-1))) 49 1 (Int32.ofInt (-1))) 49 2 (Int32.ofInt (-1))) 49 3 (Int32.ofInt (-1))) 49 4 (Int32.ofInt (-1))) 49 5 (Int32.ofInt (-1))) 49 6 (Int32.ofInt (-1))) 49 7 (Int32.ofInt (-1)))))))))))) rfl ?_
  refine vn_newA (c := 372) 68 rfl rfl rfl (by decide) (by decide) ?_
  refine vm_WP.seq 69 3 (pc' := 119) (L' := [.ref 48]) (S' := [.int (nI 372), .ref 48]) (σ' := (vm_SH.take 58, (vm_u2 (vn_nT 57 (vm_u2 (vn_nT 56 (vm_u2 (vn_nT 55 (vm_u2 (vn_nT 54 (vm_u2 (vn_nT 53 (vm_u2 (vn_nT 52 (vm_u2 (vn_nT 51 (vm_u2 (vn_nT 50 (vm_u2 (vn_nT 49 T) 48 2 (some 49))) 48 3 (some 50))) 48 4 (some 51))) 48 5 (some 52))) 48 6 (some 53))) 48 7 (some 54))) 48 9 (some 55))) 48 19 (some 56))) 48 20 (some 57)), (vn_nM 57 (vn_nM 56 (vn_nM 55 (vn_nM 54 (vn_nM 53 (vn_nM 52 (vn_nM 51 (vn_nM 50 (vm_u2 (vm_u2 (vm_u2 (vm_u2 (vm_u2 (vm_u2 (vm_u2 (vm_u2 (vn_nM 49 M) 49 0 (Int32.ofInt (-1))) 49 1 (Int32.ofInt (-1))) 49 2 (Int32.ofInt (-1))) 49 3 (Int32.ofInt (-1))) 49 4 (Int32.ofInt (-1))) 49 5 (Int32.ofInt (-1))) 49 6 (Int32.ofInt (-1))) 49 7 (Int32.ofInt (-1))))))))))))) rfl ?_
  refine vn_newA (c := 372) 72 rfl rfl rfl (by decide) (by decide) ?_
  refine vm_WP.seq 73 3 (pc' := 127) (L' := [.ref 48]) (S' := [.int (nI 61), .ref 48]) (σ' := (vm_SH.take 59, (vm_u2 (vn_nT 58 (vm_u2 (vn_nT 57 (vm_u2 (vn_nT 56 (vm_u2 (vn_nT 55 (vm_u2 (vn_nT 54 (vm_u2 (vn_nT 53 (vm_u2 (vn_nT 52 (vm_u2 (vn_nT 51 (vm_u2 (vn_nT 50 (vm_u2 (vn_nT 49 T) 48 2 (some 49))) 48 3 (some 50))) 48 4 (some 51))) 48 5 (some 52))) 48 6 (some 53))) 48 7 (some 54))) 48 9 (some 55))) 48 19 (some 56))) 48 20 (some 57))) 48 21 (some 58)), (vn_nM 58 (vn_nM 57 (vn_nM 56 (vn_nM 55 (vn_nM 54 (vn_nM 53 (vn_nM 52 (vn_nM 51 (vn_nM 50 (vm_u2 (vm_u2 (vm_u2 (vm_u2 (vm_u2 (vm_u2 (vm_u2 (vm_u2 (vn_nM 49 M) 49 0 (Int32.ofInt (-1))) 49 1 (Int32.ofInt (-1))) 49 2 (Int32.ofInt (-1))) 49 3 (Int32.ofInt (-1))) 49 4 (Int32.ofInt (-1))) 49 5 (Int32.ofInt (-1))) 49 6 (Int32.ofInt (-1))) 49 7 (Int32.ofInt (-1)))))))))))))) rfl ?_
  refine vn_newA (c := 61) 76 rfl rfl rfl (by decide) (by decide) ?_
  refine vm_WP.seq 77 3 (pc' := 136) (L' := [.ref 48]) (S' := [.int (nI 366), .ref 48]) (σ' := (vm_SH.take 60, (vm_u2 (vn_nT 59 (vm_u2 (vn_nT 58 (vm_u2 (vn_nT 57 (vm_u2 (vn_nT 56 (vm_u2 (vn_nT 55 (vm_u2 (vn_nT 54 (vm_u2 (vn_nT 53 (vm_u2 (vn_nT 52 (vm_u2 (vn_nT 51 (vm_u2 (vn_nT 50 (vm_u2 (vn_nT 49 T) 48 2 (some 49))) 48 3 (some 50))) 48 4 (some 51))) 48 5 (some 52))) 48 6 (some 53))) 48 7 (some 54))) 48 9 (some 55))) 48 19 (some 56))) 48 20 (some 57))) 48 21 (some 58))) 48 23 (some 59)), (vn_nM 59 (vn_nM 58 (vn_nM 57 (vn_nM 56 (vn_nM 55 (vn_nM 54 (vn_nM 53 (vn_nM 52 (vn_nM 51 (vn_nM 50 (vm_u2 (vm_u2 (vm_u2 (vm_u2 (vm_u2 (vm_u2 (vm_u2 (vm_u2 (vn_nM 49 M) 49 0 (Int32.ofInt (-1))) 49 1 (Int32.ofInt (-1))) 49 2 (Int32.ofInt (-1))) 49 3 (Int32.ofInt (-1))) 49 4 (Int32.ofInt (-1))) 49 5 (Int32.ofInt (-1))) 49 6 (Int32.ofInt (-1))) 49 7 (Int32.ofInt (-1))))))))))))))) rfl ?_
  refine vn_newA (c := 366) 80 rfl rfl rfl (by decide) (by decide) ?_
  refine vm_WP.seq 81 3 (pc' := 145) (L' := [.ref 48]) (S' := [.int (nI 366), .ref 48]) (σ' := (vm_SH.take 61, (vm_u2 (vn_nT 60 (vm_u2 (vn_nT 59 (vm_u2 (vn_nT 58 (vm_u2 (vn_nT 57 (vm_u2 (vn_nT 56 (vm_u2 (vn_nT 55 (vm_u2 (vn_nT 54 (vm_u2 (vn_nT 53 (vm_u2 (vn_nT 52 (vm_u2 (vn_nT 51 (vm_u2 (vn_nT 50 (vm_u2 (vn_nT 49 T) 48 2 (some 49))) 48 3 (some 50))) 48 4 (some 51))) 48 5 (some 52))) 48 6 (some 53))) 48 7 (some 54))) 48 9 (some 55))) 48 19 (some 56))) 48 20 (some 57))) 48 21 (some 58))) 48 23 (some 59))) 48 24 (some 60)), (vn_nM 60 (vn_nM 59 (vn_nM 58 (vn_nM 57 (vn_nM 56 (vn_nM 55 (vn_nM 54 (vn_nM 53 (vn_nM 52 (vn_nM 51 (vn_nM 50 (vm_u2 (vm_u2 (vm_u2 (vm_u2 (vm_u2 (vm_u2 (vm_u2 (vm_u2 (vn_nM 49 M) 49 0 (Int32.ofInt (-1))) 49 1 (Int32.ofInt (-1))) 49 2 (Int32.ofInt (-1))) 49 3 (Int32.ofInt (-1))) 49 4 (Int32.ofInt (-1))) 49 5 (Int32.ofInt (-1))) 49 6 (Int32.ofInt (-1))) 49 7 (Int32.ofInt (-1)))))))))))))))) rfl ?_
  refine vn_newA (c := 366) 84 rfl rfl rfl (by decide) (by decide) ?_
  refine vm_WP.seq 85 3 (pc' := 152) (L' := [.ref 48]) (S' := [.int (nI 2), .ref 48]) (σ' := (vm_SH.take 62, (vm_u2 (vn_nT 61 (vm_u2 (vn_nT 60 (vm_u2 (vn_nT 59 (vm_u2 (vn_nT 58 (vm_u2 (vn_nT 57 (vm_u2 (vn_nT 56 (vm_u2 (vn_nT 55 (vm_u2 (vn_nT 54 (vm_u2 (vn_nT 53 (vm_u2 (vn_nT 52 (vm_u2 (vn_nT 51 (vm_u2 (vn_nT 50 (vm_u2 (vn_nT 49 T) 48 2 (some 49))) 48 3 (some 50))) 48 4 (some 51))) 48 5 (some 52))) 48 6 (some 53))) 48 7 (some 54))) 48 9 (some 55))) 48 19 (some 56))) 48 20 (some 57))) 48 21 (some 58))) 48 23 (some 59))) 48 24 (some 60))) 48 25 (some 61)), (vn_nM 61 (vn_nM 60 (vn_nM 59 (vn_nM 58 (vn_nM 57 (vn_nM 56 (vn_nM 55 (vn_nM 54 (vn_nM 53 (vn_nM 52 (vn_nM 51 (vn_nM 50 (vm_u2 (vm_u2 (vm_u2 (vm_u2 (vm_u2 (vm_u2 (vm_u2 (vm_u2 (vn_nM 49 M) 49 0 (Int32.ofInt (-1))) 49 1 (Int32.ofInt (-1))) 49 2 (Int32.ofInt (-1))) 49 3 (Int32.ofInt (-1))) 49 4 (Int32.ofInt (-1))) 49 5 (Int32.ofInt (-1))) 49 6 (Int32.ofInt (-1))) 49 7 (Int32.ofInt (-1))))))))))))))))) rfl ?_
  refine vn_newA (c := 2) 88 rfl rfl rfl (by decide) (by decide) ?_
  refine vm_WP.seq 89 3 (pc' := 161) (L' := [.ref 48]) (S' := [.int (nI 140), .ref 48]) (σ' := (vm_SH.take 63, (vm_u2 (vn_nT 62 (vm_u2 (vn_nT 61 (vm_u2 (vn_nT 60 (vm_u2 (vn_nT 59 (vm_u2 (vn_nT 58 (vm_u2 (vn_nT 57 (vm_u2 (vn_nT 56 (vm_u2 (vn_nT 55 (vm_u2 (vn_nT 54 (vm_u2 (vn_nT 53 (vm_u2 (vn_nT 52 (vm_u2 (vn_nT 51 (vm_u2 (vn_nT 50 (vm_u2 (vn_nT 49 T) 48 2 (some 49))) 48 3 (some 50))) 48 4 (some 51))) 48 5 (some 52))) 48 6 (some 53))) 48 7 (some 54))) 48 9 (some 55))) 48 19 (some 56))) 48 20 (some 57))) 48 21 (some 58))) 48 23 (some 59))) 48 24 (some 60))) 48 25 (some 61))) 48 26 (some 62)), (vn_nM 62 (vn_nM 61 (vn_nM 60 (vn_nM 59 (vn_nM 58 (vn_nM 57 (vn_nM 56 (vn_nM 55 (vn_nM 54 (vn_nM 53 (vn_nM 52 (vn_nM 51 (vn_nM 50 (vm_u2 (vm_u2 (vm_u2 (vm_u2 (vm_u2 (vm_u2 (vm_u2 (vm_u2 (vn_nM 49 M) 49 0 (Int32.ofInt (-1))) 49 1 (Int32.ofInt (-1))) 49 2 (Int32.ofInt (-1))) 49 3 (Int32.ofInt (-1))) 49 4 (Int32.ofInt (-1))) 49 5 (Int32.ofInt (-1))) 49 6 (Int32.ofInt (-1))) 49 7 (Int32.ofInt (-1)))))))))))))))))) rfl ?_
  refine vn_newA (c := 140) 92 rfl rfl rfl (by decide) (by decide) ?_
  refine vm_WP.seq 93 3 (pc' := 169) (L' := [.ref 48]) (S' := [.int (nI 16), .ref 48]) (σ' := (vm_SH.take 64, (vm_u2 (vn_nT 63 (vm_u2 (vn_nT 62 (vm_u2 (vn_nT 61 (vm_u2 (vn_nT 60 (vm_u2 (vn_nT 59 (vm_u2 (vn_nT 58 (vm_u2 (vn_nT 57 (vm_u2 (vn_nT 56 (vm_u2 (vn_nT 55 (vm_u2 (vn_nT 54 (vm_u2 (vn_nT 53 (vm_u2 (vn_nT 52 (vm_u2 (vn_nT 51 (vm_u2 (vn_nT 50 (vm_u2 (vn_nT 49 T) 48 2 (some 49))) 48 3 (some 50))) 48 4 (some 51))) 48 5 (some 52))) 48 6 (some 53))) 48 7 (some 54))) 48 9 (some 55))) 48 19 (some 56))) 48 20 (some 57))) 48 21 (some 58))) 48 23 (some 59))) 48 24 (some 60))) 48 25 (some 61))) 48 26 (some 62))) 48 27 (some 63)), (vn_nM 63 (vn_nM 62 (vn_nM 61 (vn_nM 60 (vn_nM 59 (vn_nM 58 (vn_nM 57 (vn_nM 56 (vn_nM 55 (vn_nM 54 (vn_nM 53 (vn_nM 52 (vn_nM 51 (vn_nM 50 (vm_u2 (vm_u2 (vm_u2 (vm_u2 (vm_u2 (vm_u2 (vm_u2 (vm_u2 (vn_nM 49 M) 49 0 (Int32.ofInt (-1))) 49 1 (Int32.ofInt (-1))) 49 2 (Int32.ofInt (-1))) 49 3 (Int32.ofInt (-1))) 49 4 (Int32.ofInt (-1))) 49 5 (Int32.ofInt (-1))) 49 6 (Int32.ofInt (-1))) 49 7 (Int32.ofInt (-1))))))))))))))))))) rfl ?_
  refine vn_newA (c := 16) 96 rfl rfl rfl (by decide) (by decide) ?_
  refine vm_WP.seq 97 1 (pc' := 174) (L' := [.ref 48]) (S' := []) (σ' := (vm_SH.take 65, (vm_u2 (vn_nT 64 (vm_u2 (vn_nT 63 (vm_u2 (vn_nT 62 (vm_u2 (vn_nT 61 (vm_u2 (vn_nT 60 (vm_u2 (vn_nT 59 (vm_u2 (vn_nT 58 (vm_u2 (vn_nT 57 (vm_u2 (vn_nT 56 (vm_u2 (vn_nT 55 (vm_u2 (vn_nT 54 (vm_u2 (vn_nT 53 (vm_u2 (vn_nT 52 (vm_u2 (vn_nT 51 (vm_u2 (vn_nT 50 (vm_u2 (vn_nT 49 T) 48 2 (some 49))) 48 3 (some 50))) 48 4 (some 51))) 48 5 (some 52))) 48 6 (some 53))) 48 7 (some 54))) 48 9 (some 55))) 48 19 (some 56))) 48 20 (some 57))) 48 21 (some 58))) 48 23 (some 59))) 48 24 (some 60))) 48 25 (some 61))) 48 26 (some 62))) 48 27 (some 63))) 48 28 (some 64)), (vn_nM 64 (vn_nM 63 (vn_nM 62 (vn_nM 61 (vn_nM 60 (vn_nM 59 (vn_nM 58 (vn_nM 57 (vn_nM 56 (vn_nM 55 (vn_nM 54 (vn_nM 53 (vn_nM 52 (vn_nM 51 (vn_nM 50 (vm_u2 (vm_u2 (vm_u2 (vm_u2 (vm_u2 (vm_u2 (vm_u2 (vm_u2 (vn_nM 49 M) 49 0 (Int32.ofInt (-1))) 49 1 (Int32.ofInt (-1))) 49 2 (Int32.ofInt (-1))) 49 3 (Int32.ofInt (-1))) 49 4 (Int32.ofInt (-1))) 49 5 (Int32.ofInt (-1))) 49 6 (Int32.ofInt (-1))) 49 7 (Int32.ofInt (-1)))))))))))))))))))) rfl ?_
  exact vm_WP.ret (r := none) 98 rfl rfl rfl h
end VN
