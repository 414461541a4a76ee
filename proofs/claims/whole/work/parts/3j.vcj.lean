/-! walks, by wip/whole/vcgen.py -/
theorem v_M_layComes {X : Nat × (Nat → Int32)}  {M : vm_M} {P : vm_M → Prop} (h : C_M_layComes_2 X (nI 0) (.null) (.null) (.null) M P) : E_M_layComes X  M P := by
  unfold E_M_layComes
  refine vm_WM.seq 0 2 (pc' := 2) (L' := [.ref 48, .int (nI 0), .null, .null, .null]) (S' := []) (M' := M) rfl ?_
  exact h
theorem v_M_layComes_2 {X : Nat × (Nat → Int32)} {x1 : Int32} {w2 : Value} {w3 : Value} {w4 : Value} {M : vm_M} {P : vm_M → Prop} (h : (x1 < (nI 366) → (∃ j1 : Nat, x1 = nI j1 ∧ j1 < 366 ∧ (C_M_layComes_2 X (x1 + (nI 1)) (w2) (w3) (w4) (vm_u2 M 60 j1 (nI 0)) P))) ∧ (¬ (x1 < (nI 366)) → (((M 59 0) = (Int32.ofInt (-1000000)) → (C_M_layComes_55 X (nI 0) (w2) (w3) (w4) (vm_u2 M 60 0 (nI 1)) P)) ∧ (¬ ((M 59 0) = (Int32.ofInt (-1000000))) → (((M 59 0) = 0 → (C_M_layComes_55 X (nI 0) (w2) (w3) (w4) (vm_u2 M 60 0 (nI 1)) P)) ∧ (¬ ((M 59 0) = 0) → (C_M_layComes_55 X (nI 0) (w2) (w3) (w4) (vm_u2 M 60 0 (nI 0)) P))))))) : C_M_layComes_2 X x1 w2 w3 w4 M P := by
  unfold C_M_layComes_2
  refine vm_WM.seq 2 2 (pc' := 6) (L' := [.ref 48, .int x1, w2, w3, w4]) (S' := [.int (nI 366), .int x1]) (M' := M) rfl ?_
  refine vm_WM.if (c := x1 < (nI 366)) (t1 := 9) (t2 := 22) (S' := []) 4 rfl rfl rfl (fun hc => ?_) (fun hc => ?_)
  · replace h := h.1 hc
    refine vm_WM.seq 5 4 (pc' := 15) (L' := [.ref 48, .int x1, w2, w3, w4]) (S' := [.int (nI 0), .int x1, .ref 60]) (M' := M) rfl ?_
    obtain ⟨j1, hj1, hj2, h⟩ := h
    refine vm_WM.bst (n := 366) (t := 2) (w := (nI 0)) (jj := j1) 9 rfl (Or.inr rfl) rfl rfl hj1 hj2 ?_
    refine vm_WM.seq 10 2 (pc' := 2) (L' := [.ref 48, .int (x1 + (nI 1)), w2, w3, w4]) (S' := []) (M' := (vm_u2 M 60 j1 (nI 0))) rfl ?_
    exact h
  · replace h := h.2 hc
    refine vm_WM.seq 12 6 (pc' := 32) (L' := [.ref 48, .int x1, w2, w3, w4]) (S' := [.int (nI 0), .ref 59, .int (nI 0), .ref 60]) (M' := M) rfl ?_
    refine vm_WM.ald (n := 61) (jj := 0) 18 rfl (Or.inl ⟨rfl, rfl⟩) (by decide) rfl rfl (by decide) ?_
    refine vm_WM.seq 19 1 (pc' := 35) (L' := [.ref 48, .int x1, w2, w3, w4]) (S' := [.int (Int32.ofInt (-1000000)), .int (M 59 0), .int (nI 0), .ref 60]) (M' := M) rfl ?_
    refine vm_WM.if (c := (M 59 0) = (Int32.ofInt (-1000000))) (t1 := 47) (t2 := 38) (S' := [.int (nI 0), .ref 60]) 20 rfl rfl rfl (fun hc => ?_) (fun hc => ?_)
    · replace h := h.1 hc
      refine vm_WM.seq 26 2 (pc' := 52) (L' := [.ref 48, .int x1, w2, w3, w4]) (S' := [.int (nI 1), .int (nI 0), .ref 60]) (M' := M) rfl ?_
      refine vm_WM.bst (n := 366) (t := 2) (w := (nI 1)) (jj := 0) 29 rfl (Or.inr rfl) rfl rfl rfl (by decide) ?_
      refine vm_WM.seq 30 2 (pc' := 55) (L' := [.ref 48, .int (nI 0), w2, w3, w4]) (S' := []) (M' := (vm_u2 M 60 0 (nI 1))) rfl ?_
      exact h
    · replace h := h.2 hc
      refine vm_WM.seq 21 3 (pc' := 43) (L' := [.ref 48, .int x1, w2, w3, w4]) (S' := [.int (nI 0), .ref 59, .int (nI 0), .ref 60]) (M' := M) rfl ?_
      refine vm_WM.ald (n := 61) (jj := 0) 24 rfl (Or.inl ⟨rfl, rfl⟩) (by decide) rfl rfl (by decide) ?_
      refine vm_WM.if (c := (M 59 0) = 0) (t1 := 47) (t2 := 51) (S' := [.int (nI 0), .ref 60]) 25 rfl rfl rfl (fun hc => ?_) (fun hc => ?_)
      · replace h := h.1 hc
        refine vm_WM.seq 26 2 (pc' := 52) (L' := [.ref 48, .int x1, w2, w3, w4]) (S' := [.int (nI 1), .int (nI 0), .ref 60]) (M' := M) rfl ?_
        refine vm_WM.bst (n := 366) (t := 2) (w := (nI 1)) (jj := 0) 29 rfl (Or.inr rfl) rfl rfl rfl (by decide) ?_
        refine vm_WM.seq 30 2 (pc' := 55) (L' := [.ref 48, .int (nI 0), w2, w3, w4]) (S' := []) (M' := (vm_u2 M 60 0 (nI 1))) rfl ?_
        exact h
      · replace h := h.2 hc
        refine vm_WM.seq 28 1 (pc' := 52) (L' := [.ref 48, .int x1, w2, w3, w4]) (S' := [.int (nI 0), .int (nI 0), .ref 60]) (M' := M) rfl ?_
        refine vm_WM.bst (n := 366) (t := 2) (w := (nI 0)) (jj := 0) 29 rfl (Or.inr rfl) rfl rfl rfl (by decide) ?_
        refine vm_WM.seq 30 2 (pc' := 55) (L' := [.ref 48, .int (nI 0), w2, w3, w4]) (S' := []) (M' := (vm_u2 M 60 0 (nI 0))) rfl ?_
        exact h
theorem v_M_layComes_55 {X : Nat × (Nat → Int32)} {x1 : Int32} {w2 : Value} {w3 : Value} {w4 : Value} {M : vm_M} {P : vm_M → Prop} (h : (x1 < (nI 60) → (C_M_layComes_63 X x1 (nI 0) (w3) (w4) M P)) ∧ (¬ (x1 < (nI 60)) → (P  M))) : C_M_layComes_55 X x1 w2 w3 w4 M P := by
  unfold C_M_layComes_55
  refine vm_WM.seq 32 2 (pc' := 58) (L' := [.ref 48, .int x1, w2, w3, w4]) (S' := [.int (nI 60), .int x1]) (M' := M) rfl ?_
  refine vm_WM.if (c := x1 < (nI 60)) (t1 := 61) (t2 := 218) (S' := []) 34 rfl rfl rfl (fun hc => ?_) (fun hc => ?_)
  · replace h := h.1 hc
    refine vm_WM.seq 35 2 (pc' := 63) (L' := [.ref 48, .int x1, .int (nI 0), w3, w4]) (S' := []) (M' := M) rfl ?_
    exact h
  · replace h := h.2 hc
    exact vm_WM.ret (r := none) 130 rfl rfl rfl ⟨rfl, h⟩
theorem v_M_layComes_63 {X : Nat × (Nat → Int32)} {x1 : Int32} {x2 : Int32} {w3 : Value} {w4 : Value} {M : vm_M} {P : vm_M → Prop} (h : (x2 < (M 52 2) → (∃ j1 : Nat, (((nI 6) * x1) + x2) = nI j1 ∧ j1 < 366 ∧ (((M 60 j1) = 0 → (C_M_layComes_63 X x1 (x2 + (nI 1)) (w3) (w4) M P)) ∧ (¬ ((M 60 j1) = 0) → (∃ j2 : Nat, ((((nI 6) * x1) + (nI 6)) + x2) = nI j2 ∧ j2 < 366 ∧ (((M 60 j2) = 0 → (∃ j3 : Nat, (x1 + (nI 1)) = nI j3 ∧ j3 < 61 ∧ (((M 59 j3) = (Int32.ofInt (-1000000)) → (∃ j4 : Nat, ((((nI 6) * x1) + (nI 6)) + x2) = nI j4 ∧ j4 < 366 ∧ (C_M_layComes_150 X x1 x2 (nI 0) (w4) (vm_u2 M 60 j4 (nI 1)) P))) ∧ (¬ ((M 59 j3) = (Int32.ofInt (-1000000))) → (∃ j5 : Nat, (x1 + (nI 1)) = nI j5 ∧ j5 < 61 ∧ (((M 59 j5) = x2 → (∃ j6 : Nat, ((((nI 6) * x1) + (nI 6)) + x2) = nI j6 ∧ j6 < 366 ∧ (C_M_layComes_150 X x1 x2 (nI 0) (w4) (vm_u2 M 60 j6 (nI 1)) P))) ∧ (¬ ((M 59 j5) = x2) → (∃ j7 : Nat, ((((nI 6) * x1) + (nI 6)) + x2) = nI j7 ∧ j7 < 366 ∧ (C_M_layComes_150 X x1 x2 (nI 0) (w4) (vm_u2 M 60 j7 (nI 0)) P))))))))) ∧ (¬ ((M 60 j2) = 0) → (∃ j8 : Nat, ((((nI 6) * x1) + (nI 6)) + x2) = nI j8 ∧ j8 < 366 ∧ (C_M_layComes_150 X x1 x2 (nI 0) (w4) (vm_u2 M 60 j8 (nI 1)) P))))))))) ∧ (¬ (x2 < (M 52 2)) → (C_M_layComes_55 X (x1 + (nI 1)) (.int x2) (w3) (w4) M P))) : C_M_layComes_63 X x1 x2 w3 w4 M P := by
  unfold C_M_layComes_63
  refine vm_WM.seq 37 4 (pc' := 69) (L' := [.ref 48, .int x1, .int x2, w3, w4]) (S' := [.int (nI 2), .ref 52, .int x2]) (M' := M) rfl ?_
  refine vm_WM.ald (n := 70) (jj := 2) 41 rfl (Or.inl ⟨rfl, rfl⟩) (by decide) rfl rfl (by decide) ?_
  refine vm_WM.if (c := x2 < (M 52 2)) (t1 := 73) (t2 := 212) (S' := []) 42 rfl rfl rfl (fun hc => ?_) (fun hc => ?_)
  · replace h := h.1 hc
    refine vm_WM.seq 43 7 (pc' := 83) (L' := [.ref 48, .int x1, .int x2, w3, w4]) (S' := [.int (((nI 6) * x1) + x2), .ref 60]) (M' := M) rfl ?_
    obtain ⟨j1, hj1, hj2, h⟩ := h
    refine vm_WM.ald (n := 366) (jj := j1) 50 rfl (Or.inr ⟨rfl, Or.inr rfl⟩) (by decide) rfl hj1 hj2 ?_
    refine vm_WM.if (c := (M 60 j1) = 0) (t1 := 206) (t2 := 87) (S' := []) 51 rfl rfl rfl (fun hc => ?_) (fun hc => ?_)
    · replace h := h.1 hc
      refine vm_WM.seq 126 2 (pc' := 63) (L' := [.ref 48, .int x1, .int (x2 + (nI 1)), w3, w4]) (S' := []) (M' := M) rfl ?_
      exact h
    · replace h := h.2 hc
      refine vm_WM.seq 52 18 (pc' := 113) (L' := [.ref 48, .int x1, .int x2, w3, w4]) (S' := [.int ((((nI 6) * x1) + (nI 6)) + x2), .ref 60, .int ((((nI 6) * x1) + (nI 6)) + x2), .ref 60]) (M' := M) rfl ?_
      obtain ⟨j2, hj1, hj2, h⟩ := h
      refine vm_WM.ald (n := 366) (jj := j2) 70 rfl (Or.inr ⟨rfl, Or.inr rfl⟩) (by decide) rfl hj1 hj2 ?_
      refine vm_WM.if (c := (M 60 j2) = 0) (t1 := 117) (t2 := 142) (S' := [.int ((((nI 6) * x1) + (nI 6)) + x2), .ref 60]) 71 rfl rfl rfl (fun hc => ?_) (fun hc => ?_)
      · replace h := h.1 hc
        refine vm_WM.seq 72 5 (pc' := 124) (L' := [.ref 48, .int x1, .int x2, w3, w4]) (S' := [.int (x1 + (nI 1)), .ref 59, .int ((((nI 6) * x1) + (nI 6)) + x2), .ref 60]) (M' := M) rfl ?_
        obtain ⟨j3, hj1, hj2, h⟩ := h
        refine vm_WM.ald (n := 61) (jj := j3) 77 rfl (Or.inl ⟨rfl, rfl⟩) (by decide) rfl hj1 hj2 ?_
        refine vm_WM.seq 78 1 (pc' := 127) (L' := [.ref 48, .int x1, .int x2, w3, w4]) (S' := [.int (Int32.ofInt (-1000000)), .int (M 59 j3), .int ((((nI 6) * x1) + (nI 6)) + x2), .ref 60]) (M' := M) rfl ?_
        refine vm_WM.if (c := (M 59 j3) = (Int32.ofInt (-1000000))) (t1 := 142) (t2 := 130) (S' := [.int ((((nI 6) * x1) + (nI 6)) + x2), .ref 60]) 79 rfl rfl rfl (fun hc => ?_) (fun hc => ?_)
        · replace h := h.1 hc
          refine vm_WM.seq 88 2 (pc' := 147) (L' := [.ref 48, .int x1, .int x2, w3, w4]) (S' := [.int (nI 1), .int ((((nI 6) * x1) + (nI 6)) + x2), .ref 60]) (M' := M) rfl ?_
          obtain ⟨j4, hj1, hj2, h⟩ := h
          refine vm_WM.bst (n := 366) (t := 2) (w := (nI 1)) (jj := j4) 91 rfl (Or.inr rfl) rfl rfl hj1 hj2 ?_
          refine vm_WM.seq 92 2 (pc' := 150) (L' := [.ref 48, .int x1, .int x2, .int (nI 0), w4]) (S' := []) (M' := (vm_u2 M 60 j4 (nI 1))) rfl ?_
          exact h
        · replace h := h.2 hc
          refine vm_WM.seq 80 5 (pc' := 137) (L' := [.ref 48, .int x1, .int x2, w3, w4]) (S' := [.int (x1 + (nI 1)), .ref 59, .int ((((nI 6) * x1) + (nI 6)) + x2), .ref 60]) (M' := M) rfl ?_
          obtain ⟨j5, hj1, hj2, h⟩ := h
          refine vm_WM.ald (n := 61) (jj := j5) 85 rfl (Or.inl ⟨rfl, rfl⟩) (by decide) rfl hj1 hj2 ?_
          refine vm_WM.seq 86 1 (pc' := 139) (L' := [.ref 48, .int x1, .int x2, w3, w4]) (S' := [.int x2, .int (M 59 j5), .int ((((nI 6) * x1) + (nI 6)) + x2), .ref 60]) (M' := M) rfl ?_
          refine vm_WM.if (c := (M 59 j5) = x2) (t1 := 142) (t2 := 146) (S' := [.int ((((nI 6) * x1) + (nI 6)) + x2), .ref 60]) 87 rfl rfl rfl (fun hc => ?_) (fun hc => ?_)
          · replace h := h.1 hc
            refine vm_WM.seq 88 2 (pc' := 147) (L' := [.ref 48, .int x1, .int x2, w3, w4]) (S' := [.int (nI 1), .int ((((nI 6) * x1) + (nI 6)) + x2), .ref 60]) (M' := M) rfl ?_
            obtain ⟨j6, hj1, hj2, h⟩ := h
            refine vm_WM.bst (n := 366) (t := 2) (w := (nI 1)) (jj := j6) 91 rfl (Or.inr rfl) rfl rfl hj1 hj2 ?_
            refine vm_WM.seq 92 2 (pc' := 150) (L' := [.ref 48, .int x1, .int x2, .int (nI 0), w4]) (S' := []) (M' := (vm_u2 M 60 j6 (nI 1))) rfl ?_
            exact h
          · replace h := h.2 hc
            refine vm_WM.seq 90 1 (pc' := 147) (L' := [.ref 48, .int x1, .int x2, w3, w4]) (S' := [.int (nI 0), .int ((((nI 6) * x1) + (nI 6)) + x2), .ref 60]) (M' := M) rfl ?_
            obtain ⟨j7, hj1, hj2, h⟩ := h
            refine vm_WM.bst (n := 366) (t := 2) (w := (nI 0)) (jj := j7) 91 rfl (Or.inr rfl) rfl rfl hj1 hj2 ?_
            refine vm_WM.seq 92 2 (pc' := 150) (L' := [.ref 48, .int x1, .int x2, .int (nI 0), w4]) (S' := []) (M' := (vm_u2 M 60 j7 (nI 0))) rfl ?_
            exact h
      · replace h := h.2 hc
        refine vm_WM.seq 88 2 (pc' := 147) (L' := [.ref 48, .int x1, .int x2, w3, w4]) (S' := [.int (nI 1), .int ((((nI 6) * x1) + (nI 6)) + x2), .ref 60]) (M' := M) rfl ?_
        obtain ⟨j8, hj1, hj2, h⟩ := h
        refine vm_WM.bst (n := 366) (t := 2) (w := (nI 1)) (jj := j8) 91 rfl (Or.inr rfl) rfl rfl hj1 hj2 ?_
        refine vm_WM.seq 92 2 (pc' := 150) (L' := [.ref 48, .int x1, .int x2, .int (nI 0), w4]) (S' := []) (M' := (vm_u2 M 60 j8 (nI 1))) rfl ?_
        exact h
  · replace h := h.2 hc
    refine vm_WM.seq 128 2 (pc' := 55) (L' := [.ref 48, .int (x1 + (nI 1)), .int x2, w3, w4]) (S' := []) (M' := M) rfl ?_
    exact h
theorem v_M_layComes_150 {X : Nat × (Nat → Int32)} {x1 : Int32} {x2 : Int32} {x3 : Int32} {w4 : Value} {M : vm_M} {P : vm_M → Prop} (h : (x3 < (M 52 2) → (E_M_passedIn X x2 x3 x1 M (fun v1 M2 => (v1 = (Int32.ofInt (-1000000)) → (C_M_layComes_150 X x1 x2 (x3 + (nI 1)) (.int v1) M2 P)) ∧ (¬ (v1 = (Int32.ofInt (-1000000))) → (E_M_isUnseen X x1 v1 x3 M2 (fun v3 M4 => (v3 = 0 → (C_M_layComes_150 X x1 x2 (x3 + (nI 1)) (.int v1) M4 P)) ∧ (¬ (v3 = 0) → (∃ j5 : Nat, (((nI 6) * v1) + x3) = nI j5 ∧ j5 < 366 ∧ (C_M_layComes_150 X x1 x2 (x3 + (nI 1)) (.int v1) (vm_u2 M4 60 j5 (nI 1)) P))))))))) ∧ (¬ (x3 < (M 52 2)) → (C_M_layComes_63 X x1 (x2 + (nI 1)) (.int x3) (w4) M P))) : C_M_layComes_150 X x1 x2 x3 w4 M P := by
  unfold C_M_layComes_150
  refine vm_WM.seq 94 4 (pc' := 156) (L' := [.ref 48, .int x1, .int x2, .int x3, w4]) (S' := [.int (nI 2), .ref 52, .int x3]) (M' := M) rfl ?_
  refine vm_WM.ald (n := 70) (jj := 2) 98 rfl (Or.inl ⟨rfl, rfl⟩) (by decide) rfl rfl (by decide) ?_
  refine vm_WM.if (c := x3 < (M 52 2)) (t1 := 160) (t2 := 206) (S' := []) 99 rfl rfl rfl (fun hc => ?_) (fun hc => ?_)
  · replace h := h.1 hc
    refine vm_WM.seq 100 4 (pc' := 164) (L' := [.ref 48, .int x1, .int x2, .int x3, w4]) (S' := [.int x1, .int x3, .int x2, .ref 48]) (M' := M) rfl ?_
    refine vm_WM.call (a := 140) (as := [.ref 48, .int x2, .int x3, .int x1]) (rest := []) (L0 := [.ref 48, .int x2, .int x3, .int x1, .null]) 104 rfl rfl (by decide) rfl rfl ⟨rfl, Or.inr rfl, Nat.le_of_ble_eq_true rfl, Nat.le_of_ble_eq_true rfl⟩ rfl rfl rfl ?_
    refine vm_WM.theni h (fun v1 M2 h => ?_)
    show vm_WM X 156 167 [.ref 48, .int x1, .int x2, .int x3, w4] [.int v1] M2 _
    refine vm_WM.seq 105 3 (pc' := 173) (L' := [.ref 48, .int x1, .int x2, .int x3, .int v1]) (S' := [.int (Int32.ofInt (-1000000)), .int v1]) (M' := M2) rfl ?_
    refine vm_WM.if (c := v1 = (Int32.ofInt (-1000000))) (t1 := 200) (t2 := 176) (S' := []) 108 rfl rfl rfl (fun hc => ?_) (fun hc => ?_)
    · replace h := h.1 hc
      refine vm_WM.seq 124 2 (pc' := 150) (L' := [.ref 48, .int x1, .int x2, .int (x3 + (nI 1)), .int v1]) (S' := []) (M' := M2) rfl ?_
      exact h
    · replace h := h.2 hc
      refine vm_WM.seq 109 4 (pc' := 181) (L' := [.ref 48, .int x1, .int x2, .int x3, .int v1]) (S' := [.int x3, .int v1, .int x1, .ref 48]) (M' := M2) rfl ?_
      refine vm_WM.call (a := 155) (as := [.ref 48, .int x1, .int v1, .int x3]) (rest := []) (L0 := [.ref 48, .int x1, .int v1, .int x3, .null, .null]) 113 rfl rfl (by decide) rfl rfl ⟨rfl, Or.inr rfl, Nat.le_of_ble_eq_true rfl, Nat.le_of_ble_eq_true rfl⟩ rfl rfl rfl ?_
      refine vm_WM.theni h (fun v3 M4 h => ?_)
      show vm_WM X 156 184 [.ref 48, .int x1, .int x2, .int x3, .int v1] [.int v3] M4 _
      refine vm_WM.if (c := v3 = 0) (t1 := 200) (t2 := 187) (S' := []) 114 rfl rfl rfl (fun hc => ?_) (fun hc => ?_)
      · replace h := h.1 hc
        refine vm_WM.seq 124 2 (pc' := 150) (L' := [.ref 48, .int x1, .int x2, .int (x3 + (nI 1)), .int v1]) (S' := []) (M' := M4) rfl ?_
        exact h
      · replace h := h.2 hc
        refine vm_WM.seq 115 8 (pc' := 199) (L' := [.ref 48, .int x1, .int x2, .int x3, .int v1]) (S' := [.int (nI 1), .int (((nI 6) * v1) + x3), .ref 60]) (M' := M4) rfl ?_
        obtain ⟨j5, hj1, hj2, h⟩ := h
        refine vm_WM.bst (n := 366) (t := 2) (w := (nI 1)) (jj := j5) 123 rfl (Or.inr rfl) rfl rfl hj1 hj2 ?_
        refine vm_WM.seq 124 2 (pc' := 150) (L' := [.ref 48, .int x1, .int x2, .int (x3 + (nI 1)), .int v1]) (S' := []) (M' := (vm_u2 M4 60 j5 (nI 1))) rfl ?_
        exact h
  · replace h := h.2 hc
    refine vm_WM.seq 126 2 (pc' := 63) (L' := [.ref 48, .int x1, .int (x2 + (nI 1)), .int x3, w4]) (S' := []) (M' := M) rfl ?_
    exact h
theorem v_M_layGoesOn {X : Nat × (Nat → Int32)}  {M : vm_M} {P : vm_M → Prop} (h : C_M_layGoesOn_3 X (nI 60) (.null) (.null) (.null) (.null) (.null) M P) : E_M_layGoesOn X  M P := by
  unfold E_M_layGoesOn
  refine vm_WM.seq 0 2 (pc' := 3) (L' := [.ref 48, .int (nI 60), .null, .null, .null, .null, .null]) (S' := []) (M' := M) rfl ?_
  exact h
theorem v_M_layGoesOn_3 {X : Nat × (Nat → Int32)} {x1 : Int32} {w2 : Value} {w3 : Value} {w4 : Value} {w5 : Value} {w6 : Value} {M : vm_M} {P : vm_M → Prop} (h : (x1 < 0 → (P  M)) ∧ (¬ (x1 < 0) → (C_M_layGoesOn_9 X x1 (nI 0) (w3) (w4) (w5) (w6) M P))) : C_M_layGoesOn_3 X x1 w2 w3 w4 w5 w6 M P := by
  unfold C_M_layGoesOn_3
  refine vm_WM.seq 2 1 (pc' := 4) (L' := [.ref 48, .int x1, w2, w3, w4, w5, w6]) (S' := [.int x1]) (M' := M) rfl ?_
  refine vm_WM.if (c := x1 < 0) (t1 := 196) (t2 := 7) (S' := []) 3 rfl rfl rfl (fun hc => ?_) (fun hc => ?_)
  · replace h := h.1 hc
    exact vm_WM.ret (r := none) 108 rfl rfl rfl ⟨rfl, h⟩
  · replace h := h.2 hc
    refine vm_WM.seq 4 2 (pc' := 9) (L' := [.ref 48, .int x1, .int (nI 0), w3, w4, w5, w6]) (S' := []) (M' := M) rfl ?_
    exact h
theorem v_M_layGoesOn_9 {X : Nat × (Nat → Int32)} {x1 : Int32} {x2 : Int32} {w3 : Value} {w4 : Value} {w5 : Value} {w6 : Value} {M : vm_M} {P : vm_M → Prop} (h : (x2 < (M 52 2) → (∃ j1 : Nat, x1 = nI j1 ∧ j1 < 61 ∧ (((M 59 j1) = (Int32.ofInt (-1000000)) → ((x1 = (nI 60) → (C_M_layGoesOn_79 X x1 x2 (nI 1) (nI 1) (nI 0) (w6) M P)) ∧ (¬ (x1 = (nI 60)) → (∃ j2 : Nat, ((((nI 6) * x1) + (nI 6)) + x2) = nI j2 ∧ j2 < 366 ∧ (((M 61 j2) = 0 → (C_M_layGoesOn_79 X x1 x2 (nI 1) (nI 0) (nI 0) (w6) M P)) ∧ (¬ ((M 61 j2) = 0) → (C_M_layGoesOn_79 X x1 x2 (nI 1) (nI 1) (nI 0) (w6) M P))))))) ∧ (¬ ((M 59 j1) = (Int32.ofInt (-1000000))) → (∃ j3 : Nat, x1 = nI j3 ∧ j3 < 61 ∧ (((M 59 j3) = x2 → ((x1 = (nI 60) → (C_M_layGoesOn_79 X x1 x2 (nI 1) (nI 1) (nI 0) (w6) M P)) ∧ (¬ (x1 = (nI 60)) → (∃ j4 : Nat, ((((nI 6) * x1) + (nI 6)) + x2) = nI j4 ∧ j4 < 366 ∧ (((M 61 j4) = 0 → (C_M_layGoesOn_79 X x1 x2 (nI 1) (nI 0) (nI 0) (w6) M P)) ∧ (¬ ((M 61 j4) = 0) → (C_M_layGoesOn_79 X x1 x2 (nI 1) (nI 1) (nI 0) (w6) M P))))))) ∧ (¬ ((M 59 j3) = x2) → ((x1 = (nI 60) → (C_M_layGoesOn_79 X x1 x2 (nI 0) (nI 1) (nI 0) (w6) M P)) ∧ (¬ (x1 = (nI 60)) → (∃ j5 : Nat, ((((nI 6) * x1) + (nI 6)) + x2) = nI j5 ∧ j5 < 366 ∧ (((M 61 j5) = 0 → (C_M_layGoesOn_79 X x1 x2 (nI 0) (nI 0) (nI 0) (w6) M P)) ∧ (¬ ((M 61 j5) = 0) → (C_M_layGoesOn_79 X x1 x2 (nI 0) (nI 1) (nI 0) (w6) M P))))))))))))) ∧ (¬ (x2 < (M 52 2)) → (C_M_layGoesOn_3 X (x1 + (Int32.ofInt (-1))) (.int x2) (w3) (w4) (w5) (w6) M P))) : C_M_layGoesOn_9 X x1 x2 w3 w4 w5 w6 M P := by
  unfold C_M_layGoesOn_9
  refine vm_WM.seq 6 4 (pc' := 15) (L' := [.ref 48, .int x1, .int x2, w3, w4, w5, w6]) (S' := [.int (nI 2), .ref 52, .int x2]) (M' := M) rfl ?_
  refine vm_WM.ald (n := 70) (jj := 2) 10 rfl (Or.inl ⟨rfl, rfl⟩) (by decide) rfl rfl (by decide) ?_
  refine vm_WM.if (c := x2 < (M 52 2)) (t1 := 19) (t2 := 190) (S' := []) 11 rfl rfl rfl (fun hc => ?_) (fun hc => ?_)
  · replace h := h.1 hc
    refine vm_WM.seq 12 3 (pc' := 24) (L' := [.ref 48, .int x1, .int x2, w3, w4, w5, w6]) (S' := [.int x1, .ref 59]) (M' := M) rfl ?_
    obtain ⟨j1, hj1, hj2, h⟩ := h
    refine vm_WM.ald (n := 61) (jj := j1) 15 rfl (Or.inl ⟨rfl, rfl⟩) (by decide) rfl hj1 hj2 ?_
    refine vm_WM.seq 16 1 (pc' := 27) (L' := [.ref 48, .int x1, .int x2, w3, w4, w5, w6]) (S' := [.int (Int32.ofInt (-1000000)), .int (M 59 j1)]) (M' := M) rfl ?_
    refine vm_WM.if (c := (M 59 j1) = (Int32.ofInt (-1000000))) (t1 := 40) (t2 := 30) (S' := []) 17 rfl rfl rfl (fun hc => ?_) (fun hc => ?_)
    · replace h := h.1 hc
      refine vm_WM.seq 24 2 (pc' := 45) (L' := [.ref 48, .int x1, .int x2, w3, w4, w5, w6]) (S' := [.int (nI 1)]) (M' := M) rfl ?_
      refine vm_WM.seq 27 3 (pc' := 49) (L' := [.ref 48, .int x1, .int x2, .int (nI 1), w4, w5, w6]) (S' := [.int (nI 60), .int x1]) (M' := M) rfl ?_
      refine vm_WM.if (c := x1 = (nI 60)) (t1 := 69) (t2 := 52) (S' := []) 30 rfl rfl rfl (fun hc => ?_) (fun hc => ?_)
      · replace h := h.1 hc
        refine vm_WM.seq 42 2 (pc' := 74) (L' := [.ref 48, .int x1, .int x2, .int (nI 1), w4, w5, w6]) (S' := [.int (nI 1)]) (M' := M) rfl ?_
        refine vm_WM.seq 45 3 (pc' := 79) (L' := [.ref 48, .int x1, .int x2, .int (nI 1), .int (nI 1), .int (nI 0), w6]) (S' := []) (M' := M) rfl ?_
        exact h
      · replace h := h.2 hc
        refine vm_WM.seq 31 9 (pc' := 65) (L' := [.ref 48, .int x1, .int x2, .int (nI 1), w4, w5, w6]) (S' := [.int ((((nI 6) * x1) + (nI 6)) + x2), .ref 61]) (M' := M) rfl ?_
        obtain ⟨j2, hj1, hj2, h⟩ := h
        refine vm_WM.ald (n := 366) (jj := j2) 40 rfl (Or.inr ⟨rfl, Or.inr rfl⟩) (by decide) rfl hj1 hj2 ?_
        refine vm_WM.if (c := (M 61 j2) = 0) (t1 := 73) (t2 := 69) (S' := []) 41 rfl rfl rfl (fun hc => ?_) (fun hc => ?_)
        · replace h := h.1 hc
          refine vm_WM.seq 44 4 (pc' := 79) (L' := [.ref 48, .int x1, .int x2, .int (nI 1), .int (nI 0), .int (nI 0), w6]) (S' := []) (M' := M) rfl ?_
          exact h
        · replace h := h.2 hc
          refine vm_WM.seq 42 2 (pc' := 74) (L' := [.ref 48, .int x1, .int x2, .int (nI 1), w4, w5, w6]) (S' := [.int (nI 1)]) (M' := M) rfl ?_
          refine vm_WM.seq 45 3 (pc' := 79) (L' := [.ref 48, .int x1, .int x2, .int (nI 1), .int (nI 1), .int (nI 0), w6]) (S' := []) (M' := M) rfl ?_
          exact h
    · replace h := h.2 hc
      refine vm_WM.seq 18 3 (pc' := 35) (L' := [.ref 48, .int x1, .int x2, w3, w4, w5, w6]) (S' := [.int x1, .ref 59]) (M' := M) rfl ?_
      obtain ⟨j3, hj1, hj2, h⟩ := h
      refine vm_WM.ald (n := 61) (jj := j3) 21 rfl (Or.inl ⟨rfl, rfl⟩) (by decide) rfl hj1 hj2 ?_
      refine vm_WM.seq 22 1 (pc' := 37) (L' := [.ref 48, .int x1, .int x2, w3, w4, w5, w6]) (S' := [.int x2, .int (M 59 j3)]) (M' := M) rfl ?_
      refine vm_WM.if (c := (M 59 j3) = x2) (t1 := 40) (t2 := 44) (S' := []) 23 rfl rfl rfl (fun hc => ?_) (fun hc => ?_)
      · replace h := h.1 hc
        refine vm_WM.seq 24 2 (pc' := 45) (L' := [.ref 48, .int x1, .int x2, w3, w4, w5, w6]) (S' := [.int (nI 1)]) (M' := M) rfl ?_
        refine vm_WM.seq 27 3 (pc' := 49) (L' := [.ref 48, .int x1, .int x2, .int (nI 1), w4, w5, w6]) (S' := [.int (nI 60), .int x1]) (M' := M) rfl ?_
        refine vm_WM.if (c := x1 = (nI 60)) (t1 := 69) (t2 := 52) (S' := []) 30 rfl rfl rfl (fun hc => ?_) (fun hc => ?_)
        · replace h := h.1 hc
          refine vm_WM.seq 42 2 (pc' := 74) (L' := [.ref 48, .int x1, .int x2, .int (nI 1), w4, w5, w6]) (S' := [.int (nI 1)]) (M' := M) rfl ?_
          refine vm_WM.seq 45 3 (pc' := 79) (L' := [.ref 48, .int x1, .int x2, .int (nI 1), .int (nI 1), .int (nI 0), w6]) (S' := []) (M' := M) rfl ?_
          exact h
        · replace h := h.2 hc
          refine vm_WM.seq 31 9 (pc' := 65) (L' := [.ref 48, .int x1, .int x2, .int (nI 1), w4, w5, w6]) (S' := [.int ((((nI 6) * x1) + (nI 6)) + x2), .ref 61]) (M' := M) rfl ?_
          obtain ⟨j4, hj1, hj2, h⟩ := h
          refine vm_WM.ald (n := 366) (jj := j4) 40 rfl (Or.inr ⟨rfl, Or.inr rfl⟩) (by decide) rfl hj1 hj2 ?_
          refine vm_WM.if (c := (M 61 j4) = 0) (t1 := 73) (t2 := 69) (S' := []) 41 rfl rfl rfl (fun hc => ?_) (fun hc => ?_)
          · replace h := h.1 hc
            refine vm_WM.seq 44 4 (pc' := 79) (L' := [.ref 48, .int x1, .int x2, .int (nI 1), .int (nI 0), .int (nI 0), w6]) (S' := []) (M' := M) rfl ?_
            exact h
          · replace h := h.2 hc
            refine vm_WM.seq 42 2 (pc' := 74) (L' := [.ref 48, .int x1, .int x2, .int (nI 1), w4, w5, w6]) (S' := [.int (nI 1)]) (M' := M) rfl ?_
            refine vm_WM.seq 45 3 (pc' := 79) (L' := [.ref 48, .int x1, .int x2, .int (nI 1), .int (nI 1), .int (nI 0), w6]) (S' := []) (M' := M) rfl ?_
            exact h
      · replace h := h.2 hc
        refine vm_WM.seq 26 4 (pc' := 49) (L' := [.ref 48, .int x1, .int x2, .int (nI 0), w4, w5, w6]) (S' := [.int (nI 60), .int x1]) (M' := M) rfl ?_
        refine vm_WM.if (c := x1 = (nI 60)) (t1 := 69) (t2 := 52) (S' := []) 30 rfl rfl rfl (fun hc => ?_) (fun hc => ?_)
        · replace h := h.1 hc
          refine vm_WM.seq 42 2 (pc' := 74) (L' := [.ref 48, .int x1, .int x2, .int (nI 0), w4, w5, w6]) (S' := [.int (nI 1)]) (M' := M) rfl ?_
          refine vm_WM.seq 45 3 (pc' := 79) (L' := [.ref 48, .int x1, .int x2, .int (nI 0), .int (nI 1), .int (nI 0), w6]) (S' := []) (M' := M) rfl ?_
          exact h
        · replace h := h.2 hc
          refine vm_WM.seq 31 9 (pc' := 65) (L' := [.ref 48, .int x1, .int x2, .int (nI 0), w4, w5, w6]) (S' := [.int ((((nI 6) * x1) + (nI 6)) + x2), .ref 61]) (M' := M) rfl ?_
          obtain ⟨j5, hj1, hj2, h⟩ := h
          refine vm_WM.ald (n := 366) (jj := j5) 40 rfl (Or.inr ⟨rfl, Or.inr rfl⟩) (by decide) rfl hj1 hj2 ?_
          refine vm_WM.if (c := (M 61 j5) = 0) (t1 := 73) (t2 := 69) (S' := []) 41 rfl rfl rfl (fun hc => ?_) (fun hc => ?_)
          · replace h := h.1 hc
            refine vm_WM.seq 44 4 (pc' := 79) (L' := [.ref 48, .int x1, .int x2, .int (nI 0), .int (nI 0), .int (nI 0), w6]) (S' := []) (M' := M) rfl ?_
            exact h
          · replace h := h.2 hc
            refine vm_WM.seq 42 2 (pc' := 74) (L' := [.ref 48, .int x1, .int x2, .int (nI 0), w4, w5, w6]) (S' := [.int (nI 1)]) (M' := M) rfl ?_
            refine vm_WM.seq 45 3 (pc' := 79) (L' := [.ref 48, .int x1, .int x2, .int (nI 0), .int (nI 1), .int (nI 0), w6]) (S' := []) (M' := M) rfl ?_
            exact h
  · replace h := h.2 hc
    refine vm_WM.seq 106 2 (pc' := 3) (L' := [.ref 48, .int (x1 + (Int32.ofInt (-1))), .int x2, w3, w4, w5, w6]) (S' := []) (M' := M) rfl ?_
    exact h
theorem v_M_layGoesOn_79 {X : Nat × (Nat → Int32)} {x1 : Int32} {x2 : Int32} {x3 : Int32} {x4 : Int32} {x5 : Int32} {w6 : Value} {M : vm_M} {P : vm_M → Prop} (h : (x5 < (M 52 2) → ((x1 < (nI 60) → (E_M_passedIn X x2 x5 x1 M (fun v1 M2 => (x4 = 0 → ((v1 = (Int32.ofInt (-1000000)) → (C_M_layGoesOn_79 X x1 x2 x3 (nI 0) (x5 + (nI 1)) (.int v1) M2 P)) ∧ (¬ (v1 = (Int32.ofInt (-1000000))) → (E_M_isUnseen X x1 v1 x5 M2 (fun v3 M4 => (v3 = 0 → (C_M_layGoesOn_79 X x1 x2 x3 (nI 0) (x5 + (nI 1)) (.int v1) M4 P)) ∧ (¬ (v3 = 0) → (∃ j5 : Nat, (((nI 6) * v1) + x5) = nI j5 ∧ j5 < 366 ∧ (((M4 61 j5) = 0 → (C_M_layGoesOn_79 X x1 x2 x3 (nI 0) (x5 + (nI 1)) (.int v1) M4 P)) ∧ (¬ ((M4 61 j5) = 0) → (C_M_layGoesOn_79 X x1 x2 x3 (nI 1) (x5 + (nI 1)) (.int v1) M4 P)))))))))) ∧ (¬ (x4 = 0) → (C_M_layGoesOn_79 X x1 x2 x3 (nI 1) (x5 + (nI 1)) (.int v1) M2 P))))) ∧ (¬ (x1 < (nI 60)) → ((x3 = 0 → (∃ j6 : Nat, (((nI 6) * x1) + x2) = nI j6 ∧ j6 < 366 ∧ (C_M_layGoesOn_9 X x1 (x2 + (nI 1)) (.int x3) (.int x4) (.int x5) (w6) (vm_u2 M 61 j6 (nI 0)) P))) ∧ (¬ (x3 = 0) → ((x4 = 0 → (∃ j7 : Nat, (((nI 6) * x1) + x2) = nI j7 ∧ j7 < 366 ∧ (C_M_layGoesOn_9 X x1 (x2 + (nI 1)) (.int x3) (.int x4) (.int x5) (w6) (vm_u2 M 61 j7 (nI 0)) P))) ∧ (¬ (x4 = 0) → (∃ j8 : Nat, (((nI 6) * x1) + x2) = nI j8 ∧ j8 < 366 ∧ (C_M_layGoesOn_9 X x1 (x2 + (nI 1)) (.int x3) (.int x4) (.int x5) (w6) (vm_u2 M 61 j8 (nI 1)) P))))))))) ∧ (¬ (x5 < (M 52 2)) → ((x3 = 0 → (∃ j9 : Nat, (((nI 6) * x1) + x2) = nI j9 ∧ j9 < 366 ∧ (C_M_layGoesOn_9 X x1 (x2 + (nI 1)) (.int x3) (.int x4) (.int x5) (w6) (vm_u2 M 61 j9 (nI 0)) P))) ∧ (¬ (x3 = 0) → ((x4 = 0 → (∃ j10 : Nat, (((nI 6) * x1) + x2) = nI j10 ∧ j10 < 366 ∧ (C_M_layGoesOn_9 X x1 (x2 + (nI 1)) (.int x3) (.int x4) (.int x5) (w6) (vm_u2 M 61 j10 (nI 0)) P))) ∧ (¬ (x4 = 0) → (∃ j11 : Nat, (((nI 6) * x1) + x2) = nI j11 ∧ j11 < 366 ∧ (C_M_layGoesOn_9 X x1 (x2 + (nI 1)) (.int x3) (.int x4) (.int x5) (w6) (vm_u2 M 61 j11 (nI 1)) P)))))))) : C_M_layGoesOn_79 X x1 x2 x3 x4 x5 w6 M P := by
  unfold C_M_layGoesOn_79
  refine vm_WM.seq 48 4 (pc' := 86) (L' := [.ref 48, .int x1, .int x2, .int x3, .int x4, .int x5, w6]) (S' := [.int (nI 2), .ref 52, .int x5]) (M' := M) rfl ?_
  refine vm_WM.ald (n := 70) (jj := 2) 52 rfl (Or.inl ⟨rfl, rfl⟩) (by decide) rfl rfl (by decide) ?_
  refine vm_WM.if (c := x5 < (M 52 2)) (t1 := 90) (t2 := 159) (S' := []) 53 rfl rfl rfl (fun hc => ?_) (fun hc => ?_)
  · replace h := h.1 hc
    refine vm_WM.seq 54 2 (pc' := 93) (L' := [.ref 48, .int x1, .int x2, .int x3, .int x4, .int x5, w6]) (S' := [.int (nI 60), .int x1]) (M' := M) rfl ?_
    refine vm_WM.if (c := x1 < (nI 60)) (t1 := 96) (t2 := 159) (S' := []) 56 rfl rfl rfl (fun hc => ?_) (fun hc => ?_)
    · replace h := h.1 hc
      refine vm_WM.seq 57 4 (pc' := 101) (L' := [.ref 48, .int x1, .int x2, .int x3, .int x4, .int x5, w6]) (S' := [.int x1, .int x5, .int x2, .ref 48]) (M' := M) rfl ?_
      refine vm_WM.call (a := 140) (as := [.ref 48, .int x2, .int x5, .int x1]) (rest := []) (L0 := [.ref 48, .int x2, .int x5, .int x1, .null]) 61 rfl rfl (by decide) rfl rfl ⟨rfl, Or.inr rfl, Nat.le_of_ble_eq_true rfl, Nat.le_of_ble_eq_true rfl⟩ rfl rfl rfl ?_
      refine vm_WM.theni h (fun v1 M2 h => ?_)
      show vm_WM X 157 104 [.ref 48, .int x1, .int x2, .int x3, .int x4, .int x5, w6] [.int v1] M2 _
      refine vm_WM.seq 62 2 (pc' := 108) (L' := [.ref 48, .int x1, .int x2, .int x3, .int x4, .int x5, .int v1]) (S' := [.int x4]) (M' := M2) rfl ?_
      refine vm_WM.if (c := x4 = 0) (t1 := 111) (t2 := 146) (S' := []) 64 rfl rfl rfl (fun hc => ?_) (fun hc => ?_)
      · replace h := h.1 hc
        refine vm_WM.seq 65 2 (pc' := 115) (L' := [.ref 48, .int x1, .int x2, .int x3, .int x4, .int x5, .int v1]) (S' := [.int (Int32.ofInt (-1000000)), .int v1]) (M' := M2) rfl ?_
        refine vm_WM.if (c := v1 = (Int32.ofInt (-1000000))) (t1 := 150) (t2 := 118) (S' := []) 67 rfl rfl rfl (fun hc => ?_) (fun hc => ?_)
        · replace h := h.1 hc
          refine vm_WM.seq 85 4 (pc' := 79) (L' := [.ref 48, .int x1, .int x2, .int x3, .int (nI 0), .int (x5 + (nI 1)), .int v1]) (S' := []) (M' := M2) rfl ?_
          exact h
        · replace h := h.2 hc
          refine vm_WM.seq 68 4 (pc' := 124) (L' := [.ref 48, .int x1, .int x2, .int x3, .int x4, .int x5, .int v1]) (S' := [.int x5, .int v1, .int x1, .ref 48]) (M' := M2) rfl ?_
          refine vm_WM.call (a := 155) (as := [.ref 48, .int x1, .int v1, .int x5]) (rest := []) (L0 := [.ref 48, .int x1, .int v1, .int x5, .null, .null]) 72 rfl rfl (by decide) rfl rfl ⟨rfl, Or.inr rfl, Nat.le_of_ble_eq_true rfl, Nat.le_of_ble_eq_true rfl⟩ rfl rfl rfl ?_
          refine vm_WM.theni h (fun v3 M4 h => ?_)
          show vm_WM X 157 127 [.ref 48, .int x1, .int x2, .int x3, .int x4, .int x5, .int v1] [.int v3] M4 _
          refine vm_WM.if (c := v3 = 0) (t1 := 150) (t2 := 130) (S' := []) 73 rfl rfl rfl (fun hc => ?_) (fun hc => ?_)
          · replace h := h.1 hc
            refine vm_WM.seq 85 4 (pc' := 79) (L' := [.ref 48, .int x1, .int x2, .int x3, .int (nI 0), .int (x5 + (nI 1)), .int v1]) (S' := []) (M' := M4) rfl ?_
            exact h
          · replace h := h.2 hc
            refine vm_WM.seq 74 7 (pc' := 142) (L' := [.ref 48, .int x1, .int x2, .int x3, .int x4, .int x5, .int v1]) (S' := [.int (((nI 6) * v1) + x5), .ref 61]) (M' := M4) rfl ?_
            obtain ⟨j5, hj1, hj2, h⟩ := h
            refine vm_WM.ald (n := 366) (jj := j5) 81 rfl (Or.inr ⟨rfl, Or.inr rfl⟩) (by decide) rfl hj1 hj2 ?_
            refine vm_WM.if (c := (M4 61 j5) = 0) (t1 := 150) (t2 := 146) (S' := []) 82 rfl rfl rfl (fun hc => ?_) (fun hc => ?_)
            · replace h := h.1 hc
              refine vm_WM.seq 85 4 (pc' := 79) (L' := [.ref 48, .int x1, .int x2, .int x3, .int (nI 0), .int (x5 + (nI 1)), .int v1]) (S' := []) (M' := M4) rfl ?_
              exact h
            · replace h := h.2 hc
              refine vm_WM.seq 83 2 (pc' := 151) (L' := [.ref 48, .int x1, .int x2, .int x3, .int x4, .int x5, .int v1]) (S' := [.int (nI 1)]) (M' := M4) rfl ?_
              refine vm_WM.seq 86 3 (pc' := 79) (L' := [.ref 48, .int x1, .int x2, .int x3, .int (nI 1), .int (x5 + (nI 1)), .int v1]) (S' := []) (M' := M4) rfl ?_
              exact h
      · replace h := h.2 hc
        refine vm_WM.seq 83 2 (pc' := 151) (L' := [.ref 48, .int x1, .int x2, .int x3, .int x4, .int x5, .int v1]) (S' := [.int (nI 1)]) (M' := M2) rfl ?_
        refine vm_WM.seq 86 3 (pc' := 79) (L' := [.ref 48, .int x1, .int x2, .int x3, .int (nI 1), .int (x5 + (nI 1)), .int v1]) (S' := []) (M' := M2) rfl ?_
        exact h
    · replace h := h.2 hc
      refine vm_WM.seq 89 8 (pc' := 170) (L' := [.ref 48, .int x1, .int x2, .int x3, .int x4, .int x5, w6]) (S' := [.int x3, .int (((nI 6) * x1) + x2), .ref 61]) (M' := M) rfl ?_
      refine vm_WM.if (c := x3 = 0) (t1 := 182) (t2 := 173) (S' := [.int (((nI 6) * x1) + x2), .ref 61]) 97 rfl rfl rfl (fun hc => ?_) (fun hc => ?_)
      · replace h := h.1 hc
        refine vm_WM.seq 102 1 (pc' := 183) (L' := [.ref 48, .int x1, .int x2, .int x3, .int x4, .int x5, w6]) (S' := [.int (nI 0), .int (((nI 6) * x1) + x2), .ref 61]) (M' := M) rfl ?_
        obtain ⟨j6, hj1, hj2, h⟩ := h
        refine vm_WM.bst (n := 366) (t := 2) (w := (nI 0)) (jj := j6) 103 rfl (Or.inr rfl) rfl rfl hj1 hj2 ?_
        refine vm_WM.seq 104 2 (pc' := 9) (L' := [.ref 48, .int x1, .int (x2 + (nI 1)), .int x3, .int x4, .int x5, w6]) (S' := []) (M' := (vm_u2 M 61 j6 (nI 0))) rfl ?_
        exact h
      · replace h := h.2 hc
        refine vm_WM.seq 98 1 (pc' := 175) (L' := [.ref 48, .int x1, .int x2, .int x3, .int x4, .int x5, w6]) (S' := [.int x4, .int (((nI 6) * x1) + x2), .ref 61]) (M' := M) rfl ?_
        refine vm_WM.if (c := x4 = 0) (t1 := 182) (t2 := 178) (S' := [.int (((nI 6) * x1) + x2), .ref 61]) 99 rfl rfl rfl (fun hc => ?_) (fun hc => ?_)
        · replace h := h.1 hc
          refine vm_WM.seq 102 1 (pc' := 183) (L' := [.ref 48, .int x1, .int x2, .int x3, .int x4, .int x5, w6]) (S' := [.int (nI 0), .int (((nI 6) * x1) + x2), .ref 61]) (M' := M) rfl ?_
          obtain ⟨j7, hj1, hj2, h⟩ := h
          refine vm_WM.bst (n := 366) (t := 2) (w := (nI 0)) (jj := j7) 103 rfl (Or.inr rfl) rfl rfl hj1 hj2 ?_
          refine vm_WM.seq 104 2 (pc' := 9) (L' := [.ref 48, .int x1, .int (x2 + (nI 1)), .int x3, .int x4, .int x5, w6]) (S' := []) (M' := (vm_u2 M 61 j7 (nI 0))) rfl ?_
          exact h
        · replace h := h.2 hc
          refine vm_WM.seq 100 2 (pc' := 183) (L' := [.ref 48, .int x1, .int x2, .int x3, .int x4, .int x5, w6]) (S' := [.int (nI 1), .int (((nI 6) * x1) + x2), .ref 61]) (M' := M) rfl ?_
          obtain ⟨j8, hj1, hj2, h⟩ := h
          refine vm_WM.bst (n := 366) (t := 2) (w := (nI 1)) (jj := j8) 103 rfl (Or.inr rfl) rfl rfl hj1 hj2 ?_
          refine vm_WM.seq 104 2 (pc' := 9) (L' := [.ref 48, .int x1, .int (x2 + (nI 1)), .int x3, .int x4, .int x5, w6]) (S' := []) (M' := (vm_u2 M 61 j8 (nI 1))) rfl ?_
          exact h
  · replace h := h.2 hc
    refine vm_WM.seq 89 8 (pc' := 170) (L' := [.ref 48, .int x1, .int x2, .int x3, .int x4, .int x5, w6]) (S' := [.int x3, .int (((nI 6) * x1) + x2), .ref 61]) (M' := M) rfl ?_
    refine vm_WM.if (c := x3 = 0) (t1 := 182) (t2 := 173) (S' := [.int (((nI 6) * x1) + x2), .ref 61]) 97 rfl rfl rfl (fun hc => ?_) (fun hc => ?_)
    · replace h := h.1 hc
      refine vm_WM.seq 102 1 (pc' := 183) (L' := [.ref 48, .int x1, .int x2, .int x3, .int x4, .int x5, w6]) (S' := [.int (nI 0), .int (((nI 6) * x1) + x2), .ref 61]) (M' := M) rfl ?_
      obtain ⟨j9, hj1, hj2, h⟩ := h
      refine vm_WM.bst (n := 366) (t := 2) (w := (nI 0)) (jj := j9) 103 rfl (Or.inr rfl) rfl rfl hj1 hj2 ?_
      refine vm_WM.seq 104 2 (pc' := 9) (L' := [.ref 48, .int x1, .int (x2 + (nI 1)), .int x3, .int x4, .int x5, w6]) (S' := []) (M' := (vm_u2 M 61 j9 (nI 0))) rfl ?_
      exact h
    · replace h := h.2 hc
      refine vm_WM.seq 98 1 (pc' := 175) (L' := [.ref 48, .int x1, .int x2, .int x3, .int x4, .int x5, w6]) (S' := [.int x4, .int (((nI 6) * x1) + x2), .ref 61]) (M' := M) rfl ?_
      refine vm_WM.if (c := x4 = 0) (t1 := 182) (t2 := 178) (S' := [.int (((nI 6) * x1) + x2), .ref 61]) 99 rfl rfl rfl (fun hc => ?_) (fun hc => ?_)
      · replace h := h.1 hc
        refine vm_WM.seq 102 1 (pc' := 183) (L' := [.ref 48, .int x1, .int x2, .int x3, .int x4, .int x5, w6]) (S' := [.int (nI 0), .int (((nI 6) * x1) + x2), .ref 61]) (M' := M) rfl ?_
        obtain ⟨j10, hj1, hj2, h⟩ := h
        refine vm_WM.bst (n := 366) (t := 2) (w := (nI 0)) (jj := j10) 103 rfl (Or.inr rfl) rfl rfl hj1 hj2 ?_
        refine vm_WM.seq 104 2 (pc' := 9) (L' := [.ref 48, .int x1, .int (x2 + (nI 1)), .int x3, .int x4, .int x5, w6]) (S' := []) (M' := (vm_u2 M 61 j10 (nI 0))) rfl ?_
        exact h
      · replace h := h.2 hc
        refine vm_WM.seq 100 2 (pc' := 183) (L' := [.ref 48, .int x1, .int x2, .int x3, .int x4, .int x5, w6]) (S' := [.int (nI 1), .int (((nI 6) * x1) + x2), .ref 61]) (M' := M) rfl ?_
        obtain ⟨j11, hj1, hj2, h⟩ := h
        refine vm_WM.bst (n := 366) (t := 2) (w := (nI 1)) (jj := j11) 103 rfl (Or.inr rfl) rfl rfl hj1 hj2 ?_
        refine vm_WM.seq 104 2 (pc' := 9) (L' := [.ref 48, .int x1, .int (x2 + (nI 1)), .int x3, .int x4, .int x5, w6]) (S' := []) (M' := (vm_u2 M 61 j11 (nI 1))) rfl ?_
        exact h
theorem v_M_isOf {X : Nat × (Nat → Int32)} {a0 : Int32} {a1 : Int32} {M : vm_M} {P : Int32 → vm_M → Prop} (h : (a1 = 0 → (P (nI 1) M)) ∧ (¬ (a1 = 0) → ((a0 = a1 → (P (nI 1) M)) ∧ (¬ (a0 = a1) → ((a1 = (nI 1) → ((a0 < (nI 4) → (P (nI 1) M)) ∧ (¬ (a0 < (nI 4)) → ((a1 = (nI 4) → ((a0 = (nI 5) → (P (nI 1) M)) ∧ (¬ (a0 = (nI 5)) → (P (nI 0) M)))) ∧ (¬ (a1 = (nI 4)) → (P (nI 0) M)))))) ∧ (¬ (a1 = (nI 1)) → ((a1 = (nI 4) → ((a0 = (nI 5) → (P (nI 1) M)) ∧ (¬ (a0 = (nI 5)) → (P (nI 0) M)))) ∧ (¬ (a1 = (nI 4)) → (P (nI 0) M))))))))) : E_M_isOf X a0 a1 M P := by
  unfold E_M_isOf
  refine vm_WM.seq 0 1 (pc' := 1) (L' := [.int a0, .int a1]) (S' := [.int a1]) (M' := M) rfl ?_
  refine vm_WM.if (c := a1 = 0) (t1 := 29) (t2 := 4) (S' := []) 1 rfl rfl rfl (fun hc => ?_) (fun hc => ?_)
  · replace h := h.1 hc
    refine vm_WM.seq 17 2 (pc' := 34) (L' := [.int a0, .int a1]) (S' := [.int (nI 1)]) (M' := M) rfl ?_
    exact vm_WM.ret (r := some (.int (nI 1))) 20 rfl rfl rfl ⟨_, rfl, h⟩
  · replace h := h.2 hc
    refine vm_WM.seq 2 2 (pc' := 6) (L' := [.int a0, .int a1]) (S' := [.int a1, .int a0]) (M' := M) rfl ?_
    refine vm_WM.if (c := a0 = a1) (t1 := 29) (t2 := 9) (S' := []) 4 rfl rfl rfl (fun hc => ?_) (fun hc => ?_)
    · replace h := h.1 hc
      refine vm_WM.seq 17 2 (pc' := 34) (L' := [.int a0, .int a1]) (S' := [.int (nI 1)]) (M' := M) rfl ?_
      exact vm_WM.ret (r := some (.int (nI 1))) 20 rfl rfl rfl ⟨_, rfl, h⟩
    · replace h := h.2 hc
      refine vm_WM.seq 5 2 (pc' := 11) (L' := [.int a0, .int a1]) (S' := [.int (nI 1), .int a1]) (M' := M) rfl ?_
      refine vm_WM.if (c := a1 = (nI 1)) (t1 := 14) (t2 := 19) (S' := []) 7 rfl rfl rfl (fun hc => ?_) (fun hc => ?_)
      · replace h := h.1 hc
        refine vm_WM.seq 8 2 (pc' := 16) (L' := [.int a0, .int a1]) (S' := [.int (nI 4), .int a0]) (M' := M) rfl ?_
        refine vm_WM.if (c := a0 < (nI 4)) (t1 := 29) (t2 := 19) (S' := []) 10 rfl rfl rfl (fun hc => ?_) (fun hc => ?_)
        · replace h := h.1 hc
          refine vm_WM.seq 17 2 (pc' := 34) (L' := [.int a0, .int a1]) (S' := [.int (nI 1)]) (M' := M) rfl ?_
          exact vm_WM.ret (r := some (.int (nI 1))) 20 rfl rfl rfl ⟨_, rfl, h⟩
        · replace h := h.2 hc
          refine vm_WM.seq 11 2 (pc' := 21) (L' := [.int a0, .int a1]) (S' := [.int (nI 4), .int a1]) (M' := M) rfl ?_
          refine vm_WM.if (c := a1 = (nI 4)) (t1 := 24) (t2 := 33) (S' := []) 13 rfl rfl rfl (fun hc => ?_) (fun hc => ?_)
          · replace h := h.1 hc
            refine vm_WM.seq 14 2 (pc' := 26) (L' := [.int a0, .int a1]) (S' := [.int (nI 5), .int a0]) (M' := M) rfl ?_
            refine vm_WM.if (c := a0 = (nI 5)) (t1 := 29) (t2 := 33) (S' := []) 16 rfl rfl rfl (fun hc => ?_) (fun hc => ?_)
            · replace h := h.1 hc
              refine vm_WM.seq 17 2 (pc' := 34) (L' := [.int a0, .int a1]) (S' := [.int (nI 1)]) (M' := M) rfl ?_
              exact vm_WM.ret (r := some (.int (nI 1))) 20 rfl rfl rfl ⟨_, rfl, h⟩
            · replace h := h.2 hc
              refine vm_WM.seq 19 1 (pc' := 34) (L' := [.int a0, .int a1]) (S' := [.int (nI 0)]) (M' := M) rfl ?_
              exact vm_WM.ret (r := some (.int (nI 0))) 20 rfl rfl rfl ⟨_, rfl, h⟩
          · replace h := h.2 hc
            refine vm_WM.seq 19 1 (pc' := 34) (L' := [.int a0, .int a1]) (S' := [.int (nI 0)]) (M' := M) rfl ?_
            exact vm_WM.ret (r := some (.int (nI 0))) 20 rfl rfl rfl ⟨_, rfl, h⟩
      · replace h := h.2 hc
        refine vm_WM.seq 11 2 (pc' := 21) (L' := [.int a0, .int a1]) (S' := [.int (nI 4), .int a1]) (M' := M) rfl ?_
        refine vm_WM.if (c := a1 = (nI 4)) (t1 := 24) (t2 := 33) (S' := []) 13 rfl rfl rfl (fun hc => ?_) (fun hc => ?_)
        · replace h := h.1 hc
          refine vm_WM.seq 14 2 (pc' := 26) (L' := [.int a0, .int a1]) (S' := [.int (nI 5), .int a0]) (M' := M) rfl ?_
          refine vm_WM.if (c := a0 = (nI 5)) (t1 := 29) (t2 := 33) (S' := []) 16 rfl rfl rfl (fun hc => ?_) (fun hc => ?_)
          · replace h := h.1 hc
            refine vm_WM.seq 17 2 (pc' := 34) (L' := [.int a0, .int a1]) (S' := [.int (nI 1)]) (M' := M) rfl ?_
            exact vm_WM.ret (r := some (.int (nI 1))) 20 rfl rfl rfl ⟨_, rfl, h⟩
          · replace h := h.2 hc
            refine vm_WM.seq 19 1 (pc' := 34) (L' := [.int a0, .int a1]) (S' := [.int (nI 0)]) (M' := M) rfl ?_
            exact vm_WM.ret (r := some (.int (nI 0))) 20 rfl rfl rfl ⟨_, rfl, h⟩
        · replace h := h.2 hc
          refine vm_WM.seq 19 1 (pc' := 34) (L' := [.int a0, .int a1]) (S' := [.int (nI 0)]) (M' := M) rfl ?_
          exact vm_WM.ret (r := some (.int (nI 0))) 20 rfl rfl rfl ⟨_, rfl, h⟩
theorem v_M_sizeOf {X : Nat × (Nat → Int32)} {a1 : Int32} {M : vm_M} {P : Int32 → vm_M → Prop} (h : ∃ j1 : Nat, (((nI 6) + ((nI 4) * a1)) + (nI 0)) = nI j1 ∧ j1 < 70 ∧ (((M 52 j1) < (nI 4) → (((M 52 j1) = (nI 2) → (E_M_began X (nI 12) M (fun M2 => E_M_began X (nI 11) M2 (fun M3 => E_M_plainSize X a1 M3 (fun v4 M5 => E_M_markOf X a1 M5 (fun v6 M7 => ((M 52 j1) = (nI 2) → (P (-(v4 + v6)) M7)) ∧ (¬ ((M 52 j1) = (nI 2)) → (P (v4 + v6) M7)))))))) ∧ (¬ ((M 52 j1) = (nI 2)) → (E_M_began X (nI 11) M (fun M8 => E_M_plainSize X a1 M8 (fun v9 M10 => E_M_markOf X a1 M10 (fun v11 M12 => ((M 52 j1) = (nI 2) → (P (-(v9 + v11)) M12)) ∧ (¬ ((M 52 j1) = (nI 2)) → (P (v9 + v11) M12))))))))) ∧ (¬ ((M 52 j1) < (nI 4)) → (E_M_priestSize X a1 M (fun v13 M14 => P v13 M14))))) : E_M_sizeOf X a1 M P := by
  unfold E_M_sizeOf
  refine vm_WM.seq 0 3 (pc' := 3) (L' := [.ref 48, .int a1, .null, .null]) (S' := [.int (nI 0), .int a1, .ref 48]) (M' := M) rfl ?_
  refine vm_WM.call (a := 136) (as := [.ref 48, .int a1, .int (nI 0)]) (rest := []) (L0 := [.ref 48, .int a1, .int (nI 0)]) 3 rfl rfl (by decide) rfl rfl ⟨rfl, Or.inr rfl, Nat.le_of_ble_eq_true rfl, Nat.le_of_ble_eq_true rfl⟩ rfl rfl rfl ?_
  refine vm_WM.seq 0 9 (pc' := 12) (L' := [.ref 48, .int a1, .int (nI 0)]) (S' := [.int (((nI 6) + ((nI 4) * a1)) + (nI 0)), .ref 52]) (M' := M) rfl ?_
  obtain ⟨j1, hj1, hj2, h⟩ := h
  refine vm_WM.ald (n := 70) (jj := j1) 9 rfl (Or.inl ⟨rfl, rfl⟩) (by decide) rfl hj1 hj2 ?_
  refine vm_WM.ret (r := some (.int (M 52 j1))) 10 rfl rfl rfl ?_
  show vm_WM X 168 6 [.ref 48, .int a1, .null, .null] [.int (M 52 j1)] M _
  refine vm_WM.seq 4 3 (pc' := 9) (L' := [.ref 48, .int a1, .int (M 52 j1), .null]) (S' := [.int (nI 4), .int (M 52 j1)]) (M' := M) rfl ?_
  refine vm_WM.if (c := (M 52 j1) < (nI 4)) (t1 := 18) (t2 := 12) (S' := []) 7 rfl rfl rfl (fun hc => ?_) (fun hc => ?_)
  · replace h := h.1 hc
    refine vm_WM.seq 12 2 (pc' := 20) (L' := [.ref 48, .int a1, .int (M 52 j1), .null]) (S' := [.int (nI 2), .int (M 52 j1)]) (M' := M) rfl ?_
    refine vm_WM.if (c := (M 52 j1) = (nI 2)) (t1 := 23) (t2 := 29) (S' := []) 14 rfl rfl rfl (fun hc => ?_) (fun hc => ?_)
    · replace h := h.1 hc
      refine vm_WM.seq 15 2 (pc' := 26) (L' := [.ref 48, .int a1, .int (M 52 j1), .null]) (S' := [.int (nI 12), .ref 48]) (M' := M) rfl ?_
      refine vm_WM.call (a := 164) (as := [.ref 48, .int (nI 12)]) (rest := []) (L0 := [.ref 48, .int (nI 12)]) 17 rfl rfl (by decide) rfl rfl ⟨rfl, Or.inr rfl, Nat.le_of_ble_eq_true rfl, Nat.le_of_ble_eq_true rfl⟩ rfl rfl rfl ?_
      refine vm_WM.thenv h (fun M2 h => ?_)
      show vm_WM X 168 29 [.ref 48, .int a1, .int (M 52 j1), .null] [] M2 _
      refine vm_WM.seq 18 2 (pc' := 32) (L' := [.ref 48, .int a1, .int (M 52 j1), .null]) (S' := [.int (nI 11), .ref 48]) (M' := M2) rfl ?_
      refine vm_WM.call (a := 164) (as := [.ref 48, .int (nI 11)]) (rest := []) (L0 := [.ref 48, .int (nI 11)]) 20 rfl rfl (by decide) rfl rfl ⟨rfl, Or.inr rfl, Nat.le_of_ble_eq_true rfl, Nat.le_of_ble_eq_true rfl⟩ rfl rfl rfl ?_
      refine vm_WM.thenv h (fun M3 h => ?_)
      show vm_WM X 168 35 [.ref 48, .int a1, .int (M 52 j1), .null] [] M3 _
      refine vm_WM.seq 21 2 (pc' := 37) (L' := [.ref 48, .int a1, .int (M 52 j1), .null]) (S' := [.int a1, .ref 48]) (M' := M3) rfl ?_
      refine vm_WM.call (a := 165) (as := [.ref 48, .int a1]) (rest := []) (L0 := [.ref 48, .int a1]) 23 rfl rfl (by decide) rfl rfl ⟨rfl, Or.inr rfl, Nat.le_of_ble_eq_true rfl, Nat.le_of_ble_eq_true rfl⟩ rfl rfl rfl ?_
      refine vm_WM.theni h (fun v4 M5 h => ?_)
      show vm_WM X 168 40 [.ref 48, .int a1, .int (M 52 j1), .null] [.int v4] M5 _
      refine vm_WM.seq 24 4 (pc' := 44) (L' := [.ref 48, .int a1, .int (M 52 j1), .int v4]) (S' := [.int a1, .ref 48, .int v4]) (M' := M5) rfl ?_
      refine vm_WM.call (a := 167) (as := [.ref 48, .int a1]) (rest := [.int v4]) (L0 := [.ref 48, .int a1, .null, .null]) 28 rfl rfl (by decide) rfl rfl ⟨rfl, Or.inr rfl, Nat.le_of_ble_eq_true rfl, Nat.le_of_ble_eq_true rfl⟩ rfl rfl rfl ?_
      refine vm_WM.theni h (fun v6 M7 h => ?_)
      show vm_WM X 168 47 [.ref 48, .int a1, .int (M 52 j1), .int v4] [.int v6, .int v4] M7 _
      refine vm_WM.seq 29 4 (pc' := 51) (L' := [.ref 48, .int a1, .int (M 52 j1), .int (v4 + v6)]) (S' := [.int (nI 2), .int (M 52 j1)]) (M' := M7) rfl ?_
      refine vm_WM.if (c := (M 52 j1) = (nI 2)) (t1 := 54) (t2 := 59) (S' := []) 33 rfl rfl rfl (fun hc => ?_) (fun hc => ?_)
      · replace h := h.1 hc
        refine vm_WM.seq 34 3 (pc' := 60) (L' := [.ref 48, .int a1, .int (M 52 j1), .int (v4 + v6)]) (S' := [.int (-(v4 + v6))]) (M' := M7) rfl ?_
        exact vm_WM.ret (r := some (.int (-(v4 + v6)))) 38 rfl rfl rfl ⟨_, rfl, h⟩
      · replace h := h.2 hc
        refine vm_WM.seq 37 1 (pc' := 60) (L' := [.ref 48, .int a1, .int (M 52 j1), .int (v4 + v6)]) (S' := [.int (v4 + v6)]) (M' := M7) rfl ?_
        exact vm_WM.ret (r := some (.int (v4 + v6))) 38 rfl rfl rfl ⟨_, rfl, h⟩
    · replace h := h.2 hc
      refine vm_WM.seq 18 2 (pc' := 32) (L' := [.ref 48, .int a1, .int (M 52 j1), .null]) (S' := [.int (nI 11), .ref 48]) (M' := M) rfl ?_
      refine vm_WM.call (a := 164) (as := [.ref 48, .int (nI 11)]) (rest := []) (L0 := [.ref 48, .int (nI 11)]) 20 rfl rfl (by decide) rfl rfl ⟨rfl, Or.inr rfl, Nat.le_of_ble_eq_true rfl, Nat.le_of_ble_eq_true rfl⟩ rfl rfl rfl ?_
      refine vm_WM.thenv h (fun M8 h => ?_)
      show vm_WM X 168 35 [.ref 48, .int a1, .int (M 52 j1), .null] [] M8 _
      refine vm_WM.seq 21 2 (pc' := 37) (L' := [.ref 48, .int a1, .int (M 52 j1), .null]) (S' := [.int a1, .ref 48]) (M' := M8) rfl ?_
      refine vm_WM.call (a := 165) (as := [.ref 48, .int a1]) (rest := []) (L0 := [.ref 48, .int a1]) 23 rfl rfl (by decide) rfl rfl ⟨rfl, Or.inr rfl, Nat.le_of_ble_eq_true rfl, Nat.le_of_ble_eq_true rfl⟩ rfl rfl rfl ?_
      refine vm_WM.theni h (fun v9 M10 h => ?_)
      show vm_WM X 168 40 [.ref 48, .int a1, .int (M 52 j1), .null] [.int v9] M10 _
      refine vm_WM.seq 24 4 (pc' := 44) (L' := [.ref 48, .int a1, .int (M 52 j1), .int v9]) (S' := [.int a1, .ref 48, .int v9]) (M' := M10) rfl ?_
      refine vm_WM.call (a := 167) (as := [.ref 48, .int a1]) (rest := [.int v9]) (L0 := [.ref 48, .int a1, .null, .null]) 28 rfl rfl (by decide) rfl rfl ⟨rfl, Or.inr rfl, Nat.le_of_ble_eq_true rfl, Nat.le_of_ble_eq_true rfl⟩ rfl rfl rfl ?_
      refine vm_WM.theni h (fun v11 M12 h => ?_)
      show vm_WM X 168 47 [.ref 48, .int a1, .int (M 52 j1), .int v9] [.int v11, .int v9] M12 _
      refine vm_WM.seq 29 4 (pc' := 51) (L' := [.ref 48, .int a1, .int (M 52 j1), .int (v9 + v11)]) (S' := [.int (nI 2), .int (M 52 j1)]) (M' := M12) rfl ?_
      refine vm_WM.if (c := (M 52 j1) = (nI 2)) (t1 := 54) (t2 := 59) (S' := []) 33 rfl rfl rfl (fun hc => ?_) (fun hc => ?_)
      · replace h := h.1 hc
        refine vm_WM.seq 34 3 (pc' := 60) (L' := [.ref 48, .int a1, .int (M 52 j1), .int (v9 + v11)]) (S' := [.int (-(v9 + v11))]) (M' := M12) rfl ?_
        exact vm_WM.ret (r := some (.int (-(v9 + v11)))) 38 rfl rfl rfl ⟨_, rfl, h⟩
      · replace h := h.2 hc
        refine vm_WM.seq 37 1 (pc' := 60) (L' := [.ref 48, .int a1, .int (M 52 j1), .int (v9 + v11)]) (S' := [.int (v9 + v11)]) (M' := M12) rfl ?_
        exact vm_WM.ret (r := some (.int (v9 + v11))) 38 rfl rfl rfl ⟨_, rfl, h⟩
  · replace h := h.2 hc
    refine vm_WM.seq 8 2 (pc' := 14) (L' := [.ref 48, .int a1, .int (M 52 j1), .null]) (S' := [.int a1, .ref 48]) (M' := M) rfl ?_
    refine vm_WM.call (a := 166) (as := [.ref 48, .int a1]) (rest := []) (L0 := [.ref 48, .int a1, .null]) 10 rfl rfl (by decide) rfl rfl ⟨rfl, Or.inr rfl, Nat.le_of_ble_eq_true rfl, Nat.le_of_ble_eq_true rfl⟩ rfl rfl rfl ?_
    refine vm_WM.theni h (fun v13 M14 h => ?_)
    show vm_WM X 168 17 [.ref 48, .int a1, .int (M 52 j1), .null] [.int v13] M14 _
    exact vm_WM.ret (r := some (.int v13)) 11 rfl rfl rfl ⟨_, rfl, h⟩
theorem v_M_markOf {X : Nat × (Nat → Int32)} {a1 : Int32} {M : vm_M} {P : Int32 → vm_M → Prop} (h : ∃ j1 : Nat, (((nI 6) + ((nI 4) * a1)) + (nI 0)) = nI j1 ∧ j1 < 70 ∧ (((M 52 j1) < (nI 4) → (((M 52 j1) = (nI 1) → (E_M_began X (nI 21) M (fun M2 => E_M_began X (nI 20) M2 (fun M3 => ∃ j4 : Nat, (((nI 6) + ((nI 4) * a1)) + (nI 3)) = nI j4 ∧ j4 < 70 ∧ (((M 52 j1) = (nI 1) → (P (a1 + (M3 52 j4)) M3)) ∧ (¬ ((M 52 j1) = (nI 1)) → (((M 52 j1) = (nI 3) → (P ((a1 + (M3 52 j4)) - (nI 1000)) M3)) ∧ (¬ ((M 52 j1) = (nI 3)) → (P ((nI 2) * (a1 + (M3 52 j4))) M3))))))))) ∧ (¬ ((M 52 j1) = (nI 1)) → (((M 52 j1) = (nI 3) → (E_M_began X (nI 22) M (fun M5 => E_M_began X (nI 21) M5 (fun M6 => E_M_began X (nI 20) M6 (fun M7 => ∃ j8 : Nat, (((nI 6) + ((nI 4) * a1)) + (nI 3)) = nI j8 ∧ j8 < 70 ∧ (((M 52 j1) = (nI 1) → (P (a1 + (M7 52 j8)) M7)) ∧ (¬ ((M 52 j1) = (nI 1)) → (((M 52 j1) = (nI 3) → (P ((a1 + (M7 52 j8)) - (nI 1000)) M7)) ∧ (¬ ((M 52 j1) = (nI 3)) → (P ((nI 2) * (a1 + (M7 52 j8))) M7)))))))))) ∧ (¬ ((M 52 j1) = (nI 3)) → (E_M_began X (nI 24) M (fun M9 => E_M_began X (nI 21) M9 (fun M10 => E_M_began X (nI 20) M10 (fun M11 => ∃ j12 : Nat, (((nI 6) + ((nI 4) * a1)) + (nI 3)) = nI j12 ∧ j12 < 70 ∧ (((M 52 j1) = (nI 1) → (P (a1 + (M11 52 j12)) M11)) ∧ (¬ ((M 52 j1) = (nI 1)) → (((M 52 j1) = (nI 3) → (P ((a1 + (M11 52 j12)) - (nI 1000)) M11)) ∧ (¬ ((M 52 j1) = (nI 3)) → (P ((nI 2) * (a1 + (M11 52 j12))) M11)))))))))))))) ∧ (¬ ((M 52 j1) < (nI 4)) → (E_M_began X (nI 23) M (fun M13 => E_M_began X (nI 20) M13 (fun M14 => E_M_priestSize X a1 M14 (fun v15 M16 => P (a1 - v15) M16))))))) : E_M_markOf X a1 M P := by
  unfold E_M_markOf
  refine vm_WM.seq 0 3 (pc' := 3) (L' := [.ref 48, .int a1, .null, .null]) (S' := [.int (nI 0), .int a1, .ref 48]) (M' := M) rfl ?_
  refine vm_WM.call (a := 136) (as := [.ref 48, .int a1, .int (nI 0)]) (rest := []) (L0 := [.ref 48, .int a1, .int (nI 0)]) 3 rfl rfl (by decide) rfl rfl ⟨rfl, Or.inr rfl, Nat.le_of_ble_eq_true rfl, Nat.le_of_ble_eq_true rfl⟩ rfl rfl rfl ?_
  refine vm_WM.seq 0 9 (pc' := 12) (L' := [.ref 48, .int a1, .int (nI 0)]) (S' := [.int (((nI 6) + ((nI 4) * a1)) + (nI 0)), .ref 52]) (M' := M) rfl ?_
  obtain ⟨j1, hj1, hj2, h⟩ := h
  refine vm_WM.ald (n := 70) (jj := j1) 9 rfl (Or.inl ⟨rfl, rfl⟩) (by decide) rfl hj1 hj2 ?_
  refine vm_WM.ret (r := some (.int (M 52 j1))) 10 rfl rfl rfl ?_
  show vm_WM X 167 6 [.ref 48, .int a1, .null, .null] [.int (M 52 j1)] M _
  refine vm_WM.seq 4 3 (pc' := 9) (L' := [.ref 48, .int a1, .int (M 52 j1), .null]) (S' := [.int (nI 4), .int (M 52 j1)]) (M' := M) rfl ?_
  refine vm_WM.if (c := (M 52 j1) < (nI 4)) (t1 := 32) (t2 := 12) (S' := []) 7 rfl rfl rfl (fun hc => ?_) (fun hc => ?_)
  · replace h := h.1 hc
    refine vm_WM.seq 20 2 (pc' := 34) (L' := [.ref 48, .int a1, .int (M 52 j1), .null]) (S' := [.int (nI 1), .int (M 52 j1)]) (M' := M) rfl ?_
    refine vm_WM.if (c := (M 52 j1) = (nI 1)) (t1 := 53) (t2 := 37) (S' := []) 22 rfl rfl rfl (fun hc => ?_) (fun hc => ?_)
    · replace h := h.1 hc
      refine vm_WM.seq 31 2 (pc' := 56) (L' := [.ref 48, .int a1, .int (M 52 j1), .null]) (S' := [.int (nI 21), .ref 48]) (M' := M) rfl ?_
      refine vm_WM.call (a := 164) (as := [.ref 48, .int (nI 21)]) (rest := []) (L0 := [.ref 48, .int (nI 21)]) 33 rfl rfl (by decide) rfl rfl ⟨rfl, Or.inr rfl, Nat.le_of_ble_eq_true rfl, Nat.le_of_ble_eq_true rfl⟩ rfl rfl rfl ?_
      refine vm_WM.thenv h (fun M2 h => ?_)
      show vm_WM X 167 59 [.ref 48, .int a1, .int (M 52 j1), .null] [] M2 _
      refine vm_WM.seq 34 2 (pc' := 62) (L' := [.ref 48, .int a1, .int (M 52 j1), .null]) (S' := [.int (nI 20), .ref 48]) (M' := M2) rfl ?_
      refine vm_WM.call (a := 164) (as := [.ref 48, .int (nI 20)]) (rest := []) (L0 := [.ref 48, .int (nI 20)]) 36 rfl rfl (by decide) rfl rfl ⟨rfl, Or.inr rfl, Nat.le_of_ble_eq_true rfl, Nat.le_of_ble_eq_true rfl⟩ rfl rfl rfl ?_
      refine vm_WM.thenv h (fun M3 h => ?_)
      show vm_WM X 167 65 [.ref 48, .int a1, .int (M 52 j1), .null] [] M3 _
      refine vm_WM.seq 37 4 (pc' := 69) (L' := [.ref 48, .int a1, .int (M 52 j1), .null]) (S' := [.int (nI 3), .int a1, .ref 48, .int a1]) (M' := M3) rfl ?_
      refine vm_WM.call (a := 136) (as := [.ref 48, .int a1, .int (nI 3)]) (rest := [.int a1]) (L0 := [.ref 48, .int a1, .int (nI 3)]) 41 rfl rfl (by decide) rfl rfl ⟨rfl, Or.inr rfl, Nat.le_of_ble_eq_true rfl, Nat.le_of_ble_eq_true rfl⟩ rfl rfl rfl ?_
      refine vm_WM.seq 0 9 (pc' := 12) (L' := [.ref 48, .int a1, .int (nI 3)]) (S' := [.int (((nI 6) + ((nI 4) * a1)) + (nI 3)), .ref 52]) (M' := M3) rfl ?_
      obtain ⟨j4, hj1, hj2, h⟩ := h
      refine vm_WM.ald (n := 70) (jj := j4) 9 rfl (Or.inl ⟨rfl, rfl⟩) (by decide) rfl hj1 hj2 ?_
      refine vm_WM.ret (r := some (.int (M3 52 j4))) 10 rfl rfl rfl ?_
      show vm_WM X 167 72 [.ref 48, .int a1, .int (M 52 j1), .null] [.int (M3 52 j4), .int a1] M3 _
      refine vm_WM.seq 42 4 (pc' := 76) (L' := [.ref 48, .int a1, .int (M 52 j1), .int (a1 + (M3 52 j4))]) (S' := [.int (nI 1), .int (M 52 j1)]) (M' := M3) rfl ?_
      refine vm_WM.if (c := (M 52 j1) = (nI 1)) (t1 := 79) (t2 := 83) (S' := []) 46 rfl rfl rfl (fun hc => ?_) (fun hc => ?_)
      · replace h := h.1 hc
        refine vm_WM.seq 47 2 (pc' := 99) (L' := [.ref 48, .int a1, .int (M 52 j1), .int (a1 + (M3 52 j4))]) (S' := [.int (a1 + (M3 52 j4))]) (M' := M3) rfl ?_
        exact vm_WM.ret (r := some (.int (a1 + (M3 52 j4)))) 59 rfl rfl rfl ⟨_, rfl, h⟩
      · replace h := h.2 hc
        refine vm_WM.seq 49 2 (pc' := 85) (L' := [.ref 48, .int a1, .int (M 52 j1), .int (a1 + (M3 52 j4))]) (S' := [.int (nI 3), .int (M 52 j1)]) (M' := M3) rfl ?_
        refine vm_WM.if (c := (M 52 j1) = (nI 3)) (t1 := 88) (t2 := 96) (S' := []) 51 rfl rfl rfl (fun hc => ?_) (fun hc => ?_)
        · replace h := h.1 hc
          refine vm_WM.seq 52 4 (pc' := 99) (L' := [.ref 48, .int a1, .int (M 52 j1), .int (a1 + (M3 52 j4))]) (S' := [.int ((a1 + (M3 52 j4)) - (nI 1000))]) (M' := M3) rfl ?_
          exact vm_WM.ret (r := some (.int ((a1 + (M3 52 j4)) - (nI 1000)))) 59 rfl rfl rfl ⟨_, rfl, h⟩
        · replace h := h.2 hc
          refine vm_WM.seq 56 3 (pc' := 99) (L' := [.ref 48, .int a1, .int (M 52 j1), .int (a1 + (M3 52 j4))]) (S' := [.int ((nI 2) * (a1 + (M3 52 j4)))]) (M' := M3) rfl ?_
          exact vm_WM.ret (r := some (.int ((nI 2) * (a1 + (M3 52 j4))))) 59 rfl rfl rfl ⟨_, rfl, h⟩
    · replace h := h.2 hc
      refine vm_WM.seq 23 3 (pc' := 40) (L' := [.ref 48, .int a1, .int (M 52 j1), .null]) (S' := [.int (nI 3), .int (M 52 j1), .ref 48]) (M' := M) rfl ?_
      refine vm_WM.if (c := (M 52 j1) = (nI 3)) (t1 := 43) (t2 := 48) (S' := [.ref 48]) 26 rfl rfl rfl (fun hc => ?_) (fun hc => ?_)
      · replace h := h.1 hc
        refine vm_WM.seq 27 2 (pc' := 50) (L' := [.ref 48, .int a1, .int (M 52 j1), .null]) (S' := [.int (nI 22), .ref 48]) (M' := M) rfl ?_
        refine vm_WM.call (a := 164) (as := [.ref 48, .int (nI 22)]) (rest := []) (L0 := [.ref 48, .int (nI 22)]) 30 rfl rfl (by decide) rfl rfl ⟨rfl, Or.inr rfl, Nat.le_of_ble_eq_true rfl, Nat.le_of_ble_eq_true rfl⟩ rfl rfl rfl ?_
        refine vm_WM.thenv h (fun M5 h => ?_)
        show vm_WM X 167 53 [.ref 48, .int a1, .int (M 52 j1), .null] [] M5 _
        refine vm_WM.seq 31 2 (pc' := 56) (L' := [.ref 48, .int a1, .int (M 52 j1), .null]) (S' := [.int (nI 21), .ref 48]) (M' := M5) rfl ?_
        refine vm_WM.call (a := 164) (as := [.ref 48, .int (nI 21)]) (rest := []) (L0 := [.ref 48, .int (nI 21)]) 33 rfl rfl (by decide) rfl rfl ⟨rfl, Or.inr rfl, Nat.le_of_ble_eq_true rfl, Nat.le_of_ble_eq_true rfl⟩ rfl rfl rfl ?_
        refine vm_WM.thenv h (fun M6 h => ?_)
        show vm_WM X 167 59 [.ref 48, .int a1, .int (M 52 j1), .null] [] M6 _
        refine vm_WM.seq 34 2 (pc' := 62) (L' := [.ref 48, .int a1, .int (M 52 j1), .null]) (S' := [.int (nI 20), .ref 48]) (M' := M6) rfl ?_
        refine vm_WM.call (a := 164) (as := [.ref 48, .int (nI 20)]) (rest := []) (L0 := [.ref 48, .int (nI 20)]) 36 rfl rfl (by decide) rfl rfl ⟨rfl, Or.inr rfl, Nat.le_of_ble_eq_true rfl, Nat.le_of_ble_eq_true rfl⟩ rfl rfl rfl ?_
        refine vm_WM.thenv h (fun M7 h => ?_)
        show vm_WM X 167 65 [.ref 48, .int a1, .int (M 52 j1), .null] [] M7 _
        refine vm_WM.seq 37 4 (pc' := 69) (L' := [.ref 48, .int a1, .int (M 52 j1), .null]) (S' := [.int (nI 3), .int a1, .ref 48, .int a1]) (M' := M7) rfl ?_
        refine vm_WM.call (a := 136) (as := [.ref 48, .int a1, .int (nI 3)]) (rest := [.int a1]) (L0 := [.ref 48, .int a1, .int (nI 3)]) 41 rfl rfl (by decide) rfl rfl ⟨rfl, Or.inr rfl, Nat.le_of_ble_eq_true rfl, Nat.le_of_ble_eq_true rfl⟩ rfl rfl rfl ?_
        refine vm_WM.seq 0 9 (pc' := 12) (L' := [.ref 48, .int a1, .int (nI 3)]) (S' := [.int (((nI 6) + ((nI 4) * a1)) + (nI 3)), .ref 52]) (M' := M7) rfl ?_
        obtain ⟨j8, hj1, hj2, h⟩ := h
        refine vm_WM.ald (n := 70) (jj := j8) 9 rfl (Or.inl ⟨rfl, rfl⟩) (by decide) rfl hj1 hj2 ?_
        refine vm_WM.ret (r := some (.int (M7 52 j8))) 10 rfl rfl rfl ?_
        show vm_WM X 167 72 [.ref 48, .int a1, .int (M 52 j1), .null] [.int (M7 52 j8), .int a1] M7 _
        refine vm_WM.seq 42 4 (pc' := 76) (L' := [.ref 48, .int a1, .int (M 52 j1), .int (a1 + (M7 52 j8))]) (S' := [.int (nI 1), .int (M 52 j1)]) (M' := M7) rfl ?_
        refine vm_WM.if (c := (M 52 j1) = (nI 1)) (t1 := 79) (t2 := 83) (S' := []) 46 rfl rfl rfl (fun hc => ?_) (fun hc => ?_)
        · replace h := h.1 hc
          refine vm_WM.seq 47 2 (pc' := 99) (L' := [.ref 48, .int a1, .int (M 52 j1), .int (a1 + (M7 52 j8))]) (S' := [.int (a1 + (M7 52 j8))]) (M' := M7) rfl ?_
          exact vm_WM.ret (r := some (.int (a1 + (M7 52 j8)))) 59 rfl rfl rfl ⟨_, rfl, h⟩
        · replace h := h.2 hc
          refine vm_WM.seq 49 2 (pc' := 85) (L' := [.ref 48, .int a1, .int (M 52 j1), .int (a1 + (M7 52 j8))]) (S' := [.int (nI 3), .int (M 52 j1)]) (M' := M7) rfl ?_
          refine vm_WM.if (c := (M 52 j1) = (nI 3)) (t1 := 88) (t2 := 96) (S' := []) 51 rfl rfl rfl (fun hc => ?_) (fun hc => ?_)
          · replace h := h.1 hc
            refine vm_WM.seq 52 4 (pc' := 99) (L' := [.ref 48, .int a1, .int (M 52 j1), .int (a1 + (M7 52 j8))]) (S' := [.int ((a1 + (M7 52 j8)) - (nI 1000))]) (M' := M7) rfl ?_
            exact vm_WM.ret (r := some (.int ((a1 + (M7 52 j8)) - (nI 1000)))) 59 rfl rfl rfl ⟨_, rfl, h⟩
          · replace h := h.2 hc
            refine vm_WM.seq 56 3 (pc' := 99) (L' := [.ref 48, .int a1, .int (M 52 j1), .int (a1 + (M7 52 j8))]) (S' := [.int ((nI 2) * (a1 + (M7 52 j8)))]) (M' := M7) rfl ?_
            exact vm_WM.ret (r := some (.int ((nI 2) * (a1 + (M7 52 j8))))) 59 rfl rfl rfl ⟨_, rfl, h⟩
      · replace h := h.2 hc
        refine vm_WM.seq 29 1 (pc' := 50) (L' := [.ref 48, .int a1, .int (M 52 j1), .null]) (S' := [.int (nI 24), .ref 48]) (M' := M) rfl ?_
        refine vm_WM.call (a := 164) (as := [.ref 48, .int (nI 24)]) (rest := []) (L0 := [.ref 48, .int (nI 24)]) 30 rfl rfl (by decide) rfl rfl ⟨rfl, Or.inr rfl, Nat.le_of_ble_eq_true rfl, Nat.le_of_ble_eq_true rfl⟩ rfl rfl rfl ?_
        refine vm_WM.thenv h (fun M9 h => ?_)
        show vm_WM X 167 53 [.ref 48, .int a1, .int (M 52 j1), .null] [] M9 _
        refine vm_WM.seq 31 2 (pc' := 56) (L' := [.ref 48, .int a1, .int (M 52 j1), .null]) (S' := [.int (nI 21), .ref 48]) (M' := M9) rfl ?_
        refine vm_WM.call (a := 164) (as := [.ref 48, .int (nI 21)]) (rest := []) (L0 := [.ref 48, .int (nI 21)]) 33 rfl rfl (by decide) rfl rfl ⟨rfl, Or.inr rfl, Nat.le_of_ble_eq_true rfl, Nat.le_of_ble_eq_true rfl⟩ rfl rfl rfl ?_
        refine vm_WM.thenv h (fun M10 h => ?_)
        show vm_WM X 167 59 [.ref 48, .int a1, .int (M 52 j1), .null] [] M10 _
        refine vm_WM.seq 34 2 (pc' := 62) (L' := [.ref 48, .int a1, .int (M 52 j1), .null]) (S' := [.int (nI 20), .ref 48]) (M' := M10) rfl ?_
        refine vm_WM.call (a := 164) (as := [.ref 48, .int (nI 20)]) (rest := []) (L0 := [.ref 48, .int (nI 20)]) 36 rfl rfl (by decide) rfl rfl ⟨rfl, Or.inr rfl, Nat.le_of_ble_eq_true rfl, Nat.le_of_ble_eq_true rfl⟩ rfl rfl rfl ?_
        refine vm_WM.thenv h (fun M11 h => ?_)
        show vm_WM X 167 65 [.ref 48, .int a1, .int (M 52 j1), .null] [] M11 _
        refine vm_WM.seq 37 4 (pc' := 69) (L' := [.ref 48, .int a1, .int (M 52 j1), .null]) (S' := [.int (nI 3), .int a1, .ref 48, .int a1]) (M' := M11) rfl ?_
        refine vm_WM.call (a := 136) (as := [.ref 48, .int a1, .int (nI 3)]) (rest := [.int a1]) (L0 := [.ref 48, .int a1, .int (nI 3)]) 41 rfl rfl (by decide) rfl rfl ⟨rfl, Or.inr rfl, Nat.le_of_ble_eq_true rfl, Nat.le_of_ble_eq_true rfl⟩ rfl rfl rfl ?_
        refine vm_WM.seq 0 9 (pc' := 12) (L' := [.ref 48, .int a1, .int (nI 3)]) (S' := [.int (((nI 6) + ((nI 4) * a1)) + (nI 3)), .ref 52]) (M' := M11) rfl ?_
        obtain ⟨j12, hj1, hj2, h⟩ := h
        refine vm_WM.ald (n := 70) (jj := j12) 9 rfl (Or.inl ⟨rfl, rfl⟩) (by decide) rfl hj1 hj2 ?_
        refine vm_WM.ret (r := some (.int (M11 52 j12))) 10 rfl rfl rfl ?_
        show vm_WM X 167 72 [.ref 48, .int a1, .int (M 52 j1), .null] [.int (M11 52 j12), .int a1] M11 _
        refine vm_WM.seq 42 4 (pc' := 76) (L' := [.ref 48, .int a1, .int (M 52 j1), .int (a1 + (M11 52 j12))]) (S' := [.int (nI 1), .int (M 52 j1)]) (M' := M11) rfl ?_
        refine vm_WM.if (c := (M 52 j1) = (nI 1)) (t1 := 79) (t2 := 83) (S' := []) 46 rfl rfl rfl (fun hc => ?_) (fun hc => ?_)
        · replace h := h.1 hc
          refine vm_WM.seq 47 2 (pc' := 99) (L' := [.ref 48, .int a1, .int (M 52 j1), .int (a1 + (M11 52 j12))]) (S' := [.int (a1 + (M11 52 j12))]) (M' := M11) rfl ?_
          exact vm_WM.ret (r := some (.int (a1 + (M11 52 j12)))) 59 rfl rfl rfl ⟨_, rfl, h⟩
        · replace h := h.2 hc
          refine vm_WM.seq 49 2 (pc' := 85) (L' := [.ref 48, .int a1, .int (M 52 j1), .int (a1 + (M11 52 j12))]) (S' := [.int (nI 3), .int (M 52 j1)]) (M' := M11) rfl ?_
          refine vm_WM.if (c := (M 52 j1) = (nI 3)) (t1 := 88) (t2 := 96) (S' := []) 51 rfl rfl rfl (fun hc => ?_) (fun hc => ?_)
          · replace h := h.1 hc
            refine vm_WM.seq 52 4 (pc' := 99) (L' := [.ref 48, .int a1, .int (M 52 j1), .int (a1 + (M11 52 j12))]) (S' := [.int ((a1 + (M11 52 j12)) - (nI 1000))]) (M' := M11) rfl ?_
            exact vm_WM.ret (r := some (.int ((a1 + (M11 52 j12)) - (nI 1000)))) 59 rfl rfl rfl ⟨_, rfl, h⟩
          · replace h := h.2 hc
            refine vm_WM.seq 56 3 (pc' := 99) (L' := [.ref 48, .int a1, .int (M 52 j1), .int (a1 + (M11 52 j12))]) (S' := [.int ((nI 2) * (a1 + (M11 52 j12)))]) (M' := M11) rfl ?_
            exact vm_WM.ret (r := some (.int ((nI 2) * (a1 + (M11 52 j12))))) 59 rfl rfl rfl ⟨_, rfl, h⟩
  · replace h := h.2 hc
    refine vm_WM.seq 8 2 (pc' := 15) (L' := [.ref 48, .int a1, .int (M 52 j1), .null]) (S' := [.int (nI 23), .ref 48]) (M' := M) rfl ?_
    refine vm_WM.call (a := 164) (as := [.ref 48, .int (nI 23)]) (rest := []) (L0 := [.ref 48, .int (nI 23)]) 10 rfl rfl (by decide) rfl rfl ⟨rfl, Or.inr rfl, Nat.le_of_ble_eq_true rfl, Nat.le_of_ble_eq_true rfl⟩ rfl rfl rfl ?_
    refine vm_WM.thenv h (fun M13 h => ?_)
    show vm_WM X 167 18 [.ref 48, .int a1, .int (M 52 j1), .null] [] M13 _
    refine vm_WM.seq 11 2 (pc' := 21) (L' := [.ref 48, .int a1, .int (M 52 j1), .null]) (S' := [.int (nI 20), .ref 48]) (M' := M13) rfl ?_
    refine vm_WM.call (a := 164) (as := [.ref 48, .int (nI 20)]) (rest := []) (L0 := [.ref 48, .int (nI 20)]) 13 rfl rfl (by decide) rfl rfl ⟨rfl, Or.inr rfl, Nat.le_of_ble_eq_true rfl, Nat.le_of_ble_eq_true rfl⟩ rfl rfl rfl ?_
    refine vm_WM.thenv h (fun M14 h => ?_)
    show vm_WM X 167 24 [.ref 48, .int a1, .int (M 52 j1), .null] [] M14 _
    refine vm_WM.seq 14 3 (pc' := 27) (L' := [.ref 48, .int a1, .int (M 52 j1), .null]) (S' := [.int a1, .ref 48, .int a1]) (M' := M14) rfl ?_
    refine vm_WM.call (a := 166) (as := [.ref 48, .int a1]) (rest := [.int a1]) (L0 := [.ref 48, .int a1, .null]) 17 rfl rfl (by decide) rfl rfl ⟨rfl, Or.inr rfl, Nat.le_of_ble_eq_true rfl, Nat.le_of_ble_eq_true rfl⟩ rfl rfl rfl ?_
    refine vm_WM.theni h (fun v15 M16 h => ?_)
    show vm_WM X 167 30 [.ref 48, .int a1, .int (M 52 j1), .null] [.int v15, .int a1] M16 _
    refine vm_WM.seq 18 1 (pc' := 31) (L' := [.ref 48, .int a1, .int (M 52 j1), .null]) (S' := [.int (a1 - v15)]) (M' := M16) rfl ?_
    exact vm_WM.ret (r := some (.int (a1 - v15))) 19 rfl rfl rfl ⟨_, rfl, h⟩
theorem v_Rows_holds {X : Nat × (Nat → Int32)} {a1 : Int32} {a2 : Int32} {a3 : Int32} {M : vm_M} {P : Int32 → vm_M → Prop} (h : (a2 < 0 → (P (nI 0) M)) ∧ (¬ (a2 < 0) → ((a3 < 0 → (P (nI 0) M)) ∧ (¬ (a3 < 0) → (∃ j1 : Nat, a1 = nI j1 ∧ j1 < 8 ∧ ((((M 3 j1) - a3) < a2 → (P (nI 0) M)) ∧ (¬ (((M 3 j1) - a3) < a2) → (P (nI 1) M)))))))) : E_Rows_holds X a1 a2 a3 M P := by
  unfold E_Rows_holds
  refine vm_WM.seq 0 1 (pc' := 1) (L' := [.ref 1, .int a1, .int a2, .int a3]) (S' := [.int a2]) (M' := M) rfl ?_
  refine vm_WM.if (c := a2 < 0) (t1 := 24) (t2 := 4) (S' := []) 1 rfl rfl rfl (fun hc => ?_) (fun hc => ?_)
  · replace h := h.1 hc
    refine vm_WM.seq 14 1 (pc' := 25) (L' := [.ref 1, .int a1, .int a2, .int a3]) (S' := [.int (nI 0)]) (M' := M) rfl ?_
    exact vm_WM.ret (r := some (.int (nI 0))) 15 rfl rfl rfl ⟨_, rfl, h⟩
  · replace h := h.2 hc
    refine vm_WM.seq 2 1 (pc' := 5) (L' := [.ref 1, .int a1, .int a2, .int a3]) (S' := [.int a3]) (M' := M) rfl ?_
    refine vm_WM.if (c := a3 < 0) (t1 := 24) (t2 := 8) (S' := []) 3 rfl rfl rfl (fun hc => ?_) (fun hc => ?_)
    · replace h := h.1 hc
      refine vm_WM.seq 14 1 (pc' := 25) (L' := [.ref 1, .int a1, .int a2, .int a3]) (S' := [.int (nI 0)]) (M' := M) rfl ?_
      exact vm_WM.ret (r := some (.int (nI 0))) 15 rfl rfl rfl ⟨_, rfl, h⟩
    · replace h := h.2 hc
      refine vm_WM.seq 4 4 (pc' := 14) (L' := [.ref 1, .int a1, .int a2, .int a3]) (S' := [.int a1, .ref 3, .int a2]) (M' := M) rfl ?_
      obtain ⟨j1, hj1, hj2, h⟩ := h
      refine vm_WM.ald (n := 8) (jj := j1) 8 rfl (Or.inl ⟨rfl, rfl⟩) (by decide) rfl hj1 hj2 ?_
      refine vm_WM.seq 9 2 (pc' := 17) (L' := [.ref 1, .int a1, .int a2, .int a3]) (S' := [.int ((M 3 j1) - a3), .int a2]) (M' := M) rfl ?_
      refine vm_WM.if (c := ((M 3 j1) - a3) < a2) (t1 := 24) (t2 := 20) (S' := []) 11 rfl rfl rfl (fun hc => ?_) (fun hc => ?_)
      · replace h := h.1 hc
        refine vm_WM.seq 14 1 (pc' := 25) (L' := [.ref 1, .int a1, .int a2, .int a3]) (S' := [.int (nI 0)]) (M' := M) rfl ?_
        exact vm_WM.ret (r := some (.int (nI 0))) 15 rfl rfl rfl ⟨_, rfl, h⟩
      · replace h := h.2 hc
        refine vm_WM.seq 12 2 (pc' := 25) (L' := [.ref 1, .int a1, .int a2, .int a3]) (S' := [.int (nI 1)]) (M' := M) rfl ?_
        exact vm_WM.ret (r := some (.int (nI 1))) 15 rfl rfl rfl ⟨_, rfl, h⟩
theorem v_Hill_clear_14 {X : Nat × (Nat → Int32)}  {M : vm_M} {P : vm_M → Prop} (h : C_Hill_clear_14_32 X (nI 0) (vm_u2 (vm_u2 (vm_u2 (vm_u2 (vm_u2 (vm_u2 M 14 0 (nI 0)) 14 1 (nI 0)) 14 2 (nI 0)) 14 3 (nI 0)) 14 4 (nI 0)) 14 5 (nI 0)) P) : E_Hill_clear_14 X  M P := by
  unfold E_Hill_clear_14
  refine vm_WM.seq 0 20 (pc' := 32) (L' := [.ref 14, .int (nI 0)]) (S' := []) (M' := (vm_u2 (vm_u2 (vm_u2 (vm_u2 (vm_u2 (vm_u2 M 14 0 (nI 0)) 14 1 (nI 0)) 14 2 (nI 0)) 14 3 (nI 0)) 14 4 (nI 0)) 14 5 (nI 0))) rfl ?_
  exact h
theorem v_Hill_clear_14_32 {X : Nat × (Nat → Int32)} {x1 : Int32} {M : vm_M} {P : vm_M → Prop} (h : (x1 < (nI 36) → (∃ j1 : Nat, x1 = nI j1 ∧ j1 < 36 ∧ (∃ j2 : Nat, x1 = nI j2 ∧ j2 < 36 ∧ (C_Hill_clear_14_32 X (x1 + (nI 1)) (vm_u2 (vm_u2 M 19 j1 (nI 0)) 20 j2 (nI 0)) P)))) ∧ (¬ (x1 < (nI 36)) → (P  M))) : C_Hill_clear_14_32 X x1 M P := by
  unfold C_Hill_clear_14_32
  refine vm_WM.seq 20 2 (pc' := 35) (L' := [.ref 14, .int x1]) (S' := [.int (nI 36), .int x1]) (M' := M) rfl ?_
  refine vm_WM.if (c := x1 < (nI 36)) (t1 := 38) (t2 := 58) (S' := []) 22 rfl rfl rfl (fun hc => ?_) (fun hc => ?_)
  · replace h := h.1 hc
    refine vm_WM.seq 23 4 (pc' := 44) (L' := [.ref 14, .int x1]) (S' := [.int (nI 0), .int x1, .ref 19]) (M' := M) rfl ?_
    obtain ⟨j1, hj1, hj2, h⟩ := h
    refine vm_WM.ast (n := 36) (jj := j1) 27 rfl rfl hj1 hj2 ?_
    refine vm_WM.seq 28 4 (pc' := 51) (L' := [.ref 14, .int x1]) (S' := [.int (nI 0), .int x1, .ref 20]) (M' := (vm_u2 M 19 j1 (nI 0))) rfl ?_
    obtain ⟨j2, hj1, hj2, h⟩ := h
    refine vm_WM.ast (n := 36) (jj := j2) 32 rfl rfl hj1 hj2 ?_
    refine vm_WM.seq 33 2 (pc' := 32) (L' := [.ref 14, .int (x1 + (nI 1))]) (S' := []) (M' := (vm_u2 (vm_u2 M 19 j1 (nI 0)) 20 j2 (nI 0))) rfl ?_
    exact h
  · replace h := h.2 hc
    exact vm_WM.ret (r := none) 35 rfl rfl rfl ⟨rfl, h⟩
theorem v_Tape_readNight_14 {X : Nat × (Nat → Int32)}  {M : vm_M} {P : vm_M → Prop} (h : E_Tape_next X  M (fun M1 => E_Tape_isWord_1000 X  M1 (fun v2 M3 => (v2 = 0 → (E_Tape_fail X (nI 1) M3 (fun M4 => E_Tape_readNumber X (nI 1) (nI 60) M4 (fun v5 M6 => E_Tape_readNumber X (nI 0) (nI 60) (vm_u2 M6 14 2 v5) (fun v7 M8 => E_Tape_readSign X  (vm_u2 M8 14 3 v7) (fun M9 => P  M9)))))) ∧ (¬ (v2 = 0) → (E_Tape_readNumber X (nI 1) (nI 60) M3 (fun v10 M11 => E_Tape_readNumber X (nI 0) (nI 60) (vm_u2 M11 14 2 v10) (fun v12 M13 => E_Tape_readSign X  (vm_u2 M13 14 3 v12) (fun M14 => P  M14)))))))) : E_Tape_readNight_14 X  M P := by
  unfold E_Tape_readNight_14
  refine vm_WM.seq 0 1 (pc' := 1) (L' := [.ref 5, .ref 14]) (S' := [.ref 5]) (M' := M) rfl ?_
  refine vm_WM.call (a := 70) (as := [.ref 5]) (rest := []) (L0 := [.ref 5]) 1 rfl rfl (by decide) rfl rfl ⟨rfl, Or.inr rfl, Nat.le_of_ble_eq_true rfl, Nat.le_of_ble_eq_true rfl⟩ rfl rfl rfl ?_
  refine vm_WM.thenv h (fun M1 h => ?_)
  show vm_WM X 61 4 [.ref 5, .ref 14] [] M1 _
  refine vm_WM.seq 2 2 (pc' := 7) (L' := [.ref 5, .ref 14]) (S' := [.ref 1000, .ref 5]) (M' := M1) rfl ?_
  refine vm_WM.call (a := 69) (as := [.ref 5, .ref 1000]) (rest := []) (L0 := [.ref 5, .ref 1000, .null]) 4 rfl rfl (by decide) rfl rfl ⟨rfl, Or.inr rfl, Nat.le_of_ble_eq_true rfl, Nat.le_of_ble_eq_true rfl⟩ rfl rfl rfl ?_
  refine vm_WM.theni h (fun v2 M3 h => ?_)
  show vm_WM X 61 10 [.ref 5, .ref 14] [.int v2] M3 _
  refine vm_WM.if (c := v2 = 0) (t1 := 13) (t2 := 18) (S' := []) 5 rfl rfl rfl (fun hc => ?_) (fun hc => ?_)
  · replace h := h.1 hc
    refine vm_WM.seq 6 2 (pc' := 15) (L' := [.ref 5, .ref 14]) (S' := [.int (nI 1), .ref 5]) (M' := M3) rfl ?_
    refine vm_WM.call (a := 68) (as := [.ref 5, .int (nI 1)]) (rest := []) (L0 := [.ref 5, .int (nI 1)]) 8 rfl rfl (by decide) rfl rfl ⟨rfl, Or.inr rfl, Nat.le_of_ble_eq_true rfl, Nat.le_of_ble_eq_true rfl⟩ rfl rfl rfl ?_
    refine vm_WM.thenv h (fun M4 h => ?_)
    show vm_WM X 61 18 [.ref 5, .ref 14] [] M4 _
    refine vm_WM.seq 9 4 (pc' := 23) (L' := [.ref 5, .ref 14]) (S' := [.int (nI 60), .int (nI 1), .ref 5, .ref 14]) (M' := M4) rfl ?_
    refine vm_WM.call (a := 66) (as := [.ref 5, .int (nI 1), .int (nI 60)]) (rest := [.ref 14]) (L0 := [.ref 5, .int (nI 1), .int (nI 60)]) 13 rfl rfl (by decide) rfl rfl ⟨rfl, Or.inr rfl, Nat.le_of_ble_eq_true rfl, Nat.le_of_ble_eq_true rfl⟩ rfl rfl rfl ?_
    refine vm_WM.theni h (fun v5 M6 h => ?_)
    show vm_WM X 61 26 [.ref 5, .ref 14] [.int v5, .ref 14] M6 _
    refine vm_WM.seq 14 5 (pc' := 34) (L' := [.ref 5, .ref 14]) (S' := [.int (nI 60), .int (nI 0), .ref 5, .ref 14]) (M' := (vm_u2 M6 14 2 v5)) rfl ?_
    refine vm_WM.call (a := 66) (as := [.ref 5, .int (nI 0), .int (nI 60)]) (rest := [.ref 14]) (L0 := [.ref 5, .int (nI 0), .int (nI 60)]) 19 rfl rfl (by decide) rfl rfl ⟨rfl, Or.inr rfl, Nat.le_of_ble_eq_true rfl, Nat.le_of_ble_eq_true rfl⟩ rfl rfl rfl ?_
    refine vm_WM.theni h (fun v7 M8 h => ?_)
    show vm_WM X 61 37 [.ref 5, .ref 14] [.int v7, .ref 14] M8 _
    refine vm_WM.seq 20 2 (pc' := 41) (L' := [.ref 5, .ref 14]) (S' := [.ref 5]) (M' := (vm_u2 M8 14 3 v7)) rfl ?_
    refine vm_WM.call (a := 67) (as := [.ref 5]) (rest := []) (L0 := [.ref 5]) 22 rfl rfl (by decide) rfl rfl ⟨rfl, Or.inr rfl, Nat.le_of_ble_eq_true rfl, Nat.le_of_ble_eq_true rfl⟩ rfl rfl rfl ?_
    refine vm_WM.thenv h (fun M9 h => ?_)
    show vm_WM X 61 44 [.ref 5, .ref 14] [] M9 _
    exact vm_WM.ret (r := none) 23 rfl rfl rfl ⟨rfl, h⟩
  · replace h := h.2 hc
    refine vm_WM.seq 9 4 (pc' := 23) (L' := [.ref 5, .ref 14]) (S' := [.int (nI 60), .int (nI 1), .ref 5, .ref 14]) (M' := M3) rfl ?_
    refine vm_WM.call (a := 66) (as := [.ref 5, .int (nI 1), .int (nI 60)]) (rest := [.ref 14]) (L0 := [.ref 5, .int (nI 1), .int (nI 60)]) 13 rfl rfl (by decide) rfl rfl ⟨rfl, Or.inr rfl, Nat.le_of_ble_eq_true rfl, Nat.le_of_ble_eq_true rfl⟩ rfl rfl rfl ?_
    refine vm_WM.theni h (fun v10 M11 h => ?_)
    show vm_WM X 61 26 [.ref 5, .ref 14] [.int v10, .ref 14] M11 _
    refine vm_WM.seq 14 5 (pc' := 34) (L' := [.ref 5, .ref 14]) (S' := [.int (nI 60), .int (nI 0), .ref 5, .ref 14]) (M' := (vm_u2 M11 14 2 v10)) rfl ?_
    refine vm_WM.call (a := 66) (as := [.ref 5, .int (nI 0), .int (nI 60)]) (rest := [.ref 14]) (L0 := [.ref 5, .int (nI 0), .int (nI 60)]) 19 rfl rfl (by decide) rfl rfl ⟨rfl, Or.inr rfl, Nat.le_of_ble_eq_true rfl, Nat.le_of_ble_eq_true rfl⟩ rfl rfl rfl ?_
    refine vm_WM.theni h (fun v12 M13 h => ?_)
    show vm_WM X 61 37 [.ref 5, .ref 14] [.int v12, .ref 14] M13 _
    refine vm_WM.seq 20 2 (pc' := 41) (L' := [.ref 5, .ref 14]) (S' := [.ref 5]) (M' := (vm_u2 M13 14 3 v12)) rfl ?_
    refine vm_WM.call (a := 67) (as := [.ref 5]) (rest := []) (L0 := [.ref 5]) 22 rfl rfl (by decide) rfl rfl ⟨rfl, Or.inr rfl, Nat.le_of_ble_eq_true rfl, Nat.le_of_ble_eq_true rfl⟩ rfl rfl rfl ?_
    refine vm_WM.thenv h (fun M14 h => ?_)
    show vm_WM X 61 44 [.ref 5, .ref 14] [] M14 _
    exact vm_WM.ret (r := none) 23 rfl rfl rfl ⟨rfl, h⟩
