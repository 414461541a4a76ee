/-! walks, by wip/whole/vcgen.py -/
theorem v_Rows_lapseOfTwo {X : Nat × (Nat → Int32)} {a1 : Int32} {a2 : Int32} {a3 : Int32} {a4 : Int32} {a5 : Int32} {M : vm_M} {P : Int32 → vm_M → Prop} (h : ∃ j1 : Nat, a1 = nI j1 ∧ j1 < 8 ∧ (((M 2 j1) = 0 → (P (nI 1) M)) ∧ (¬ ((M 2 j1) = 0) → (∃ j2 : Nat, a3 = nI j2 ∧ j2 < 8 ∧ (((M 2 j2) = 0 → (P (nI 1) M)) ∧ (¬ ((M 2 j2) = 0) → (∃ j3 : Nat, a1 = nI j3 ∧ j3 < 8 ∧ (∃ j4 : Nat, a3 = nI j4 ∧ j4 < 8 ∧ (((M 2 j3) = (M 2 j4) → (E_Rows_holds X a1 a2 a5 M (fun v5 M6 => (v5 = 0 → (P (nI 2) M6)) ∧ (¬ (v5 = 0) → (E_Rows_holds X a3 a4 a5 M6 (fun v7 M8 => (v7 = 0 → (P (nI 2) M8)) ∧ (¬ (v7 = 0) → (P (nI 0) M8)))))))) ∧ (¬ ((M 2 j3) = (M 2 j4)) → (P (nI 5) M))))))))))) : E_Rows_lapseOfTwo X a1 a2 a3 a4 a5 M P := by
  unfold E_Rows_lapseOfTwo
  refine vm_WM.seq 0 2 (pc' := 2) (L' := [.ref 1, .int a1, .int a2, .int a3, .int a4, .int a5]) (S' := [.int a1, .ref 1]) (M' := M) rfl ?_
  refine vm_WM.call (a := 48) (as := [.ref 1, .int a1]) (rest := []) (L0 := [.ref 1, .int a1]) 2 rfl rfl (by decide) rfl rfl ⟨rfl, Or.inr rfl, Nat.le_of_ble_eq_true rfl, Nat.le_of_ble_eq_true rfl⟩ rfl rfl rfl ?_
  refine vm_WM.seq 0 3 (pc' := 5) (L' := [.ref 1, .int a1]) (S' := [.int a1, .ref 2]) (M' := M) rfl ?_
  obtain ⟨j1, hj1, hj2, h⟩ := h
  refine vm_WM.ald (n := 8) (jj := j1) 3 rfl (Or.inl ⟨rfl, rfl⟩) (by decide) rfl hj1 hj2 ?_
  refine vm_WM.if (c := (M 2 j1) = 0) (t1 := 9) (t2 := 13) (S' := []) 4 rfl rfl rfl (fun hc => ?_) (fun hc => ?_)
  · replace h := h.1 hc
    refine vm_WM.seq 5 2 (pc' := 14) (L' := [.ref 1, .int a1]) (S' := [.int (nI 1)]) (M' := M) rfl ?_
    refine vm_WM.ret (r := some (.int (nI 1))) 8 rfl rfl rfl ?_
    show vm_WM X 53 5 [.ref 1, .int a1, .int a2, .int a3, .int a4, .int a5] [.int (nI 1)] M _
    refine vm_WM.seq 3 1 (pc' := 16) (L' := [.ref 1, .int a1, .int a2, .int a3, .int a4, .int a5]) (S' := []) (M' := M) rfl ?_
    refine vm_WM.seq 8 1 (pc' := 17) (L' := [.ref 1, .int a1, .int a2, .int a3, .int a4, .int a5]) (S' := [.int (nI 1)]) (M' := M) rfl ?_
    exact vm_WM.ret (r := some (.int (nI 1))) 9 rfl rfl rfl ⟨_, rfl, h⟩
  · replace h := h.2 hc
    refine vm_WM.seq 7 1 (pc' := 14) (L' := [.ref 1, .int a1]) (S' := [.int (nI 0)]) (M' := M) rfl ?_
    refine vm_WM.ret (r := some (.int (nI 0))) 8 rfl rfl rfl ?_
    show vm_WM X 53 5 [.ref 1, .int a1, .int a2, .int a3, .int a4, .int a5] [.int (nI 0)] M _
    refine vm_WM.seq 3 3 (pc' := 10) (L' := [.ref 1, .int a1, .int a2, .int a3, .int a4, .int a5]) (S' := [.int a3, .ref 1]) (M' := M) rfl ?_
    refine vm_WM.call (a := 48) (as := [.ref 1, .int a3]) (rest := []) (L0 := [.ref 1, .int a3]) 6 rfl rfl (by decide) rfl rfl ⟨rfl, Or.inr rfl, Nat.le_of_ble_eq_true rfl, Nat.le_of_ble_eq_true rfl⟩ rfl rfl rfl ?_
    refine vm_WM.seq 0 3 (pc' := 5) (L' := [.ref 1, .int a3]) (S' := [.int a3, .ref 2]) (M' := M) rfl ?_
    obtain ⟨j2, hj1, hj2, h⟩ := h
    refine vm_WM.ald (n := 8) (jj := j2) 3 rfl (Or.inl ⟨rfl, rfl⟩) (by decide) rfl hj1 hj2 ?_
    refine vm_WM.if (c := (M 2 j2) = 0) (t1 := 9) (t2 := 13) (S' := []) 4 rfl rfl rfl (fun hc => ?_) (fun hc => ?_)
    · replace h := h.1 hc
      refine vm_WM.seq 5 2 (pc' := 14) (L' := [.ref 1, .int a3]) (S' := [.int (nI 1)]) (M' := M) rfl ?_
      refine vm_WM.ret (r := some (.int (nI 1))) 8 rfl rfl rfl ?_
      show vm_WM X 53 13 [.ref 1, .int a1, .int a2, .int a3, .int a4, .int a5] [.int (nI 1)] M _
      refine vm_WM.seq 7 2 (pc' := 17) (L' := [.ref 1, .int a1, .int a2, .int a3, .int a4, .int a5]) (S' := [.int (nI 1)]) (M' := M) rfl ?_
      exact vm_WM.ret (r := some (.int (nI 1))) 9 rfl rfl rfl ⟨_, rfl, h⟩
    · replace h := h.2 hc
      refine vm_WM.seq 7 1 (pc' := 14) (L' := [.ref 1, .int a3]) (S' := [.int (nI 0)]) (M' := M) rfl ?_
      refine vm_WM.ret (r := some (.int (nI 0))) 8 rfl rfl rfl ?_
      show vm_WM X 53 13 [.ref 1, .int a1, .int a2, .int a3, .int a4, .int a5] [.int (nI 0)] M _
      refine vm_WM.seq 7 1 (pc' := 18) (L' := [.ref 1, .int a1, .int a2, .int a3, .int a4, .int a5]) (S' := []) (M' := M) rfl ?_
      refine vm_WM.seq 10 3 (pc' := 23) (L' := [.ref 1, .int a1, .int a2, .int a3, .int a4, .int a5]) (S' := [.int a1, .ref 2]) (M' := M) rfl ?_
      obtain ⟨j3, hj1, hj2, h⟩ := h
      refine vm_WM.ald (n := 8) (jj := j3) 13 rfl (Or.inl ⟨rfl, rfl⟩) (by decide) rfl hj1 hj2 ?_
      refine vm_WM.seq 14 3 (pc' := 29) (L' := [.ref 1, .int a1, .int a2, .int a3, .int a4, .int a5]) (S' := [.int a3, .ref 2, .int (M 2 j3)]) (M' := M) rfl ?_
      obtain ⟨j4, hj1, hj2, h⟩ := h
      refine vm_WM.ald (n := 8) (jj := j4) 17 rfl (Or.inl ⟨rfl, rfl⟩) (by decide) rfl hj1 hj2 ?_
      refine vm_WM.if (c := (M 2 j3) = (M 2 j4)) (t1 := 35) (t2 := 33) (S' := []) 18 rfl rfl rfl (fun hc => ?_) (fun hc => ?_)
      · replace h := h.1 hc
        refine vm_WM.seq 21 4 (pc' := 40) (L' := [.ref 1, .int a1, .int a2, .int a3, .int a4, .int a5]) (S' := [.int a5, .int a2, .int a1, .ref 1]) (M' := M) rfl ?_
        refine vm_WM.call (a := 54) (as := [.ref 1, .int a1, .int a2, .int a5]) (rest := []) (L0 := [.ref 1, .int a1, .int a2, .int a5]) 25 rfl rfl (by decide) rfl rfl ⟨rfl, Or.inr rfl, Nat.le_of_ble_eq_true rfl, Nat.le_of_ble_eq_true rfl⟩ rfl rfl rfl ?_
        refine vm_WM.theni h (fun v5 M6 h => ?_)
        show vm_WM X 53 43 [.ref 1, .int a1, .int a2, .int a3, .int a4, .int a5] [.int v5] M6 _
        refine vm_WM.if (c := v5 = 0) (t1 := 62) (t2 := 46) (S' := []) 26 rfl rfl rfl (fun hc => ?_) (fun hc => ?_)
        · replace h := h.1 hc
          refine vm_WM.seq 35 1 (pc' := 63) (L' := [.ref 1, .int a1, .int a2, .int a3, .int a4, .int a5]) (S' := [.int (nI 2)]) (M' := M6) rfl ?_
          exact vm_WM.ret (r := some (.int (nI 2))) 36 rfl rfl rfl ⟨_, rfl, h⟩
        · replace h := h.2 hc
          refine vm_WM.seq 27 4 (pc' := 52) (L' := [.ref 1, .int a1, .int a2, .int a3, .int a4, .int a5]) (S' := [.int a5, .int a4, .int a3, .ref 1]) (M' := M6) rfl ?_
          refine vm_WM.call (a := 54) (as := [.ref 1, .int a3, .int a4, .int a5]) (rest := []) (L0 := [.ref 1, .int a3, .int a4, .int a5]) 31 rfl rfl (by decide) rfl rfl ⟨rfl, Or.inr rfl, Nat.le_of_ble_eq_true rfl, Nat.le_of_ble_eq_true rfl⟩ rfl rfl rfl ?_
          refine vm_WM.theni h (fun v7 M8 h => ?_)
          show vm_WM X 53 55 [.ref 1, .int a1, .int a2, .int a3, .int a4, .int a5] [.int v7] M8 _
          refine vm_WM.if (c := v7 = 0) (t1 := 62) (t2 := 58) (S' := []) 32 rfl rfl rfl (fun hc => ?_) (fun hc => ?_)
          · replace h := h.1 hc
            refine vm_WM.seq 35 1 (pc' := 63) (L' := [.ref 1, .int a1, .int a2, .int a3, .int a4, .int a5]) (S' := [.int (nI 2)]) (M' := M8) rfl ?_
            exact vm_WM.ret (r := some (.int (nI 2))) 36 rfl rfl rfl ⟨_, rfl, h⟩
          · replace h := h.2 hc
            refine vm_WM.seq 33 2 (pc' := 63) (L' := [.ref 1, .int a1, .int a2, .int a3, .int a4, .int a5]) (S' := [.int (nI 0)]) (M' := M8) rfl ?_
            exact vm_WM.ret (r := some (.int (nI 0))) 36 rfl rfl rfl ⟨_, rfl, h⟩
      · replace h := h.2 hc
        refine vm_WM.seq 19 1 (pc' := 34) (L' := [.ref 1, .int a1, .int a2, .int a3, .int a4, .int a5]) (S' := [.int (nI 5)]) (M' := M) rfl ?_
        exact vm_WM.ret (r := some (.int (nI 5))) 20 rfl rfl rfl ⟨_, rfl, h⟩
theorem v_Rows_move {X : Nat × (Nat → Int32)} {a1 : Int32} {a2 : Int32} {a3 : Int32} {a4 : Int32} {a5 : Int32} {M : vm_M} {P : vm_M → Prop} (h : ∃ j1 j2 j3 : Nat, ((a1 * (nI 40)) + a2) = nI j1 ∧ ((a3 * (nI 40)) + a4) = nI j2 ∧ a5 = nI j3 ∧ j1 + j3 ≤ 320 ∧ j2 + j3 ≤ 320 ∧ (P  (vm_cp M 4 4 j1 j2 j3))) : E_Rows_move X a1 a2 a3 a4 a5 M P := by
  unfold E_Rows_move
  refine vm_WM.seq 0 15 (pc' := 23) (L' := [.ref 1, .int a1, .int a2, .int a3, .int a4, .int a5]) (S' := [.int a5, .int ((a3 * (nI 40)) + a4), .ref 4, .int ((a1 * (nI 40)) + a2), .ref 4]) (M' := M) rfl ?_
  obtain ⟨j1, j2, j3, hj1, hj2, hj3, hj4, hj5, h⟩ := h
  refine vm_WM.copyv (js := j1) (jd := j2) (jm := j3) (n0 := 320) (n1 := 320) 15 rfl rfl rfl rfl hj1 hj2 hj3 hj4 hj5 (Nat.le_of_ble_eq_true rfl) ?_
  exact vm_WM.ret (r := none) 16 rfl rfl rfl ⟨rfl, h⟩
theorem v_Rows_remove {X : Nat × (Nat → Int32)} {a1 : Int32} {M : vm_M} {P : Int32 → vm_M → Prop} (h : ∃ j1 : Nat, a1 = nI j1 ∧ j1 < 8 ∧ (∃ j2 : Nat, a1 = nI j2 ∧ j2 < 8 ∧ (P ((vm_u2 M 2 j1 (nI 0)) 3 j2) (vm_u2 M 2 j1 (nI 0))))) : E_Rows_remove X a1 M P := by
  unfold E_Rows_remove
  refine vm_WM.seq 0 4 (pc' := 6) (L' := [.ref 1, .int a1]) (S' := [.int (nI 0), .int a1, .ref 2]) (M' := M) rfl ?_
  obtain ⟨j1, hj1, hj2, h⟩ := h
  refine vm_WM.ast (n := 8) (jj := j1) 4 rfl rfl hj1 hj2 ?_
  refine vm_WM.seq 5 3 (pc' := 12) (L' := [.ref 1, .int a1]) (S' := [.int a1, .ref 3]) (M' := (vm_u2 M 2 j1 (nI 0))) rfl ?_
  obtain ⟨j2, hj1, hj2, h⟩ := h
  refine vm_WM.ald (n := 8) (jj := j2) 8 rfl (Or.inl ⟨rfl, rfl⟩) (by decide) rfl hj1 hj2 ?_
  exact vm_WM.ret (r := some (.int ((vm_u2 M 2 j1 (nI 0)) 3 j2))) 9 rfl rfl rfl ⟨_, rfl, h⟩
theorem v_Tape_append {X : Nat × (Nat → Int32)} {a1 : Int64} {a2 : Int32} {M : vm_M} {P : Int32 → vm_M → Prop} (h : (((nI 400) - (M 5 1)) < a2 → (P (Int32.ofInt (-1000003)) M)) ∧ (¬ (((nI 400) - (M 5 1)) < a2) → (C_Tape_append_20 X a1 (.null) a2 (a2 - (nI 1)) M P))) : E_Tape_append X a1 a2 M P := by
  unfold E_Tape_append
  refine vm_WM.seq 0 5 (pc' := 9) (L' := [.ref 5, .long a1, .null, .int a2, .null]) (S' := [.int ((nI 400) - (M 5 1)), .int a2]) (M' := M) rfl ?_
  refine vm_WM.if (c := ((nI 400) - (M 5 1)) < a2) (t1 := 12) (t2 := 15) (S' := []) 5 rfl rfl rfl (fun hc => ?_) (fun hc => ?_)
  · replace h := h.1 hc
    refine vm_WM.seq 6 1 (pc' := 14) (L' := [.ref 5, .long a1, .null, .int a2, .null]) (S' := [.int (Int32.ofInt (-1000003))]) (M' := M) rfl ?_
    exact vm_WM.ret (r := some (.int (Int32.ofInt (-1000003)))) 7 rfl rfl rfl ⟨_, rfl, h⟩
  · replace h := h.2 hc
    refine vm_WM.seq 8 4 (pc' := 20) (L' := [.ref 5, .long a1, .null, .int a2, .int (a2 - (nI 1))]) (S' := []) (M' := M) rfl ?_
    exact h
theorem v_Tape_append_20 {X : Nat × (Nat → Int32)} {x1 : Int64} {w2 : Value} {x3 : Int32} {x4 : Int32} {M : vm_M} {P : Int32 → vm_M → Prop} (h : (x4 < 0 → (P (M 5 1) M)) ∧ (¬ (x4 < 0) → (∃ j1 : Nat, (M 5 1) = nI j1 ∧ j1 < 400 ∧ (C_Tape_append_20 X x1 (w2) x3 (x4 + (Int32.ofInt (-1))) (vm_u2 (vm_u2 M 6 j1 (vp_nar .byte ((((((x1).toUInt64 >>> ((((nI 8) * x4)).toInt64.toUInt64 &&& Int64.toUInt64 63)).toInt64).toInt32)).toInt8.toInt32))) 5 1 (((vm_u2 M 6 j1 (vp_nar .byte ((((((x1).toUInt64 >>> ((((nI 8) * x4)).toInt64.toUInt64 &&& Int64.toUInt64 63)).toInt64).toInt32)).toInt8.toInt32))) 5 1) + (nI 1))) P)))) : C_Tape_append_20 X x1 w2 x3 x4 M P := by
  unfold C_Tape_append_20
  refine vm_WM.seq 12 1 (pc' := 22) (L' := [.ref 5, .long x1, w2, .int x3, .int x4]) (S' := [.int x4]) (M' := M) rfl ?_
  refine vm_WM.if (c := x4 < 0) (t1 := 59) (t2 := 25) (S' := []) 13 rfl rfl rfl (fun hc => ?_) (fun hc => ?_)
  · replace h := h.1 hc
    refine vm_WM.seq 34 2 (pc' := 63) (L' := [.ref 5, .long x1, w2, .int x3, .int x4]) (S' := [.int (M 5 1)]) (M' := M) rfl ?_
    exact vm_WM.ret (r := some (.int (M 5 1))) 36 rfl rfl rfl ⟨_, rfl, h⟩
  · replace h := h.2 hc
    refine vm_WM.seq 14 11 (pc' := 42) (L' := [.ref 5, .long x1, w2, .int x3, .int x4]) (S' := [.int ((((((x1).toUInt64 >>> ((((nI 8) * x4)).toInt64.toUInt64 &&& Int64.toUInt64 63)).toInt64).toInt32)).toInt8.toInt32), .int (M 5 1), .ref 6]) (M' := M) rfl ?_
    obtain ⟨j1, hj1, hj2, h⟩ := h
    refine vm_WM.bst (n := 400) (t := 1) (w := (vp_nar .byte ((((((x1).toUInt64 >>> ((((nI 8) * x4)).toInt64.toUInt64 &&& Int64.toUInt64 63)).toInt64).toInt32)).toInt8.toInt32))) (jj := j1) 25 rfl (Or.inl rfl) rfl rfl hj1 hj2 ?_
    refine vm_WM.seq 26 8 (pc' := 20) (L' := [.ref 5, .long x1, w2, .int x3, .int (x4 + (Int32.ofInt (-1)))]) (S' := []) (M' := (vm_u2 (vm_u2 M 6 j1 (vp_nar .byte ((((((x1).toUInt64 >>> ((((nI 8) * x4)).toInt64.toUInt64 &&& Int64.toUInt64 63)).toInt64).toInt32)).toInt8.toInt32))) 5 1 (((vm_u2 M 6 j1 (vp_nar .byte ((((((x1).toUInt64 >>> ((((nI 8) * x4)).toInt64.toUInt64 &&& Int64.toUInt64 63)).toInt64).toInt32)).toInt8.toInt32))) 5 1) + (nI 1)))) rfl ?_
    exact h
theorem v_Tape_readOnto_14 {X : Nat × (Nat → Int32)}  {M : vm_M} {P : Int32 → vm_M → Prop} (h : E_Hill_clear_14 X  (vm_u2 (vm_u2 M 5 3 (nI 0)) 5 6 (Int32.ofInt (-1))) (fun M1 => E_Tape_readNight_14 X  M1 (fun M2 => ((M2 5 6) < 0 → (C_Tape_readOnto_14_34 X (nI 1) (nI 0) M2 P)) ∧ (¬ ((M2 5 6) < 0) → (C_Tape_readOnto_14_34 X (nI 0) (nI 0) M2 P))))) : E_Tape_readOnto_14 X  M P := by
  unfold E_Tape_readOnto_14
  refine vm_WM.seq 0 7 (pc' := 11) (L' := [.ref 5, .ref 14, .null, .null]) (S' := [.ref 14]) (M' := (vm_u2 (vm_u2 M 5 3 (nI 0)) 5 6 (Int32.ofInt (-1)))) rfl ?_
  refine vm_WM.call (a := 39) (as := [.ref 14]) (rest := []) (L0 := [.ref 14, .null]) 7 rfl rfl (by decide) rfl rfl ⟨rfl, Or.inr rfl, Nat.le_of_ble_eq_true rfl, Nat.le_of_ble_eq_true rfl⟩ rfl rfl rfl ?_
  refine vm_WM.thenv h (fun M1 h => ?_)
  show vm_WM X 60 14 [.ref 5, .ref 14, .null, .null] [] M1 _
  refine vm_WM.seq 8 2 (pc' := 16) (L' := [.ref 5, .ref 14, .null, .null]) (S' := [.ref 14, .ref 5]) (M' := M1) rfl ?_
  refine vm_WM.call (a := 61) (as := [.ref 5, .ref 14]) (rest := []) (L0 := [.ref 5, .ref 14]) 10 rfl rfl (by decide) rfl rfl ⟨rfl, Or.inr rfl, Nat.le_of_ble_eq_true rfl, Nat.le_of_ble_eq_true rfl⟩ rfl rfl rfl ?_
  refine vm_WM.thenv h (fun M2 h => ?_)
  show vm_WM X 60 19 [.ref 5, .ref 14, .null, .null] [] M2 _
  refine vm_WM.seq 11 2 (pc' := 23) (L' := [.ref 5, .ref 14, .null, .null]) (S' := [.int (M2 5 6)]) (M' := M2) rfl ?_
  refine vm_WM.if (c := (M2 5 6) < 0) (t1 := 26) (t2 := 30) (S' := []) 13 rfl rfl rfl (fun hc => ?_) (fun hc => ?_)
  · replace h := h.1 hc
    refine vm_WM.seq 14 2 (pc' := 31) (L' := [.ref 5, .ref 14, .null, .null]) (S' := [.int (nI 1)]) (M' := M2) rfl ?_
    refine vm_WM.seq 17 3 (pc' := 34) (L' := [.ref 5, .ref 14, .int (nI 1), .int (nI 0)]) (S' := []) (M' := M2) rfl ?_
    exact h
  · replace h := h.2 hc
    refine vm_WM.seq 16 4 (pc' := 34) (L' := [.ref 5, .ref 14, .int (nI 0), .int (nI 0)]) (S' := []) (M' := M2) rfl ?_
    exact h
theorem v_Tape_readOnto_14_34 {X : Nat × (Nat → Int32)} {x2 : Int32} {x3 : Int32} {M : vm_M} {P : Int32 → vm_M → Prop} (h : (x2 = 0 → (P ((vm_u2 M 5 1 (nI 0)) 5 6) (vm_u2 M 5 1 (nI 0)))) ∧ (¬ (x2 = 0) → ((x3 < (nI 400) → (E_Tape_readPart_14 X  M (fun v1 M2 => C_Tape_readOnto_14_34 X v1 (x3 + (nI 1)) M2 P))) ∧ (¬ (x3 < (nI 400)) → (P ((vm_u2 M 5 1 (nI 0)) 5 6) (vm_u2 M 5 1 (nI 0))))))) : C_Tape_readOnto_14_34 X x2 x3 M P := by
  unfold C_Tape_readOnto_14_34
  refine vm_WM.seq 20 1 (pc' := 35) (L' := [.ref 5, .ref 14, .int x2, .int x3]) (S' := [.int x2]) (M' := M) rfl ?_
  refine vm_WM.if (c := x2 = 0) (t1 := 57) (t2 := 38) (S' := []) 21 rfl rfl rfl (fun hc => ?_) (fun hc => ?_)
  · replace h := h.1 hc
    refine vm_WM.seq 31 5 (pc' := 66) (L' := [.ref 5, .ref 14, .int x2, .int x3]) (S' := [.int ((vm_u2 M 5 1 (nI 0)) 5 6)]) (M' := (vm_u2 M 5 1 (nI 0))) rfl ?_
    exact vm_WM.ret (r := some (.int ((vm_u2 M 5 1 (nI 0)) 5 6))) 36 rfl rfl rfl ⟨_, rfl, h⟩
  · replace h := h.2 hc
    refine vm_WM.seq 22 2 (pc' := 42) (L' := [.ref 5, .ref 14, .int x2, .int x3]) (S' := [.int (nI 400), .int x3]) (M' := M) rfl ?_
    refine vm_WM.if (c := x3 < (nI 400)) (t1 := 45) (t2 := 57) (S' := []) 24 rfl rfl rfl (fun hc => ?_) (fun hc => ?_)
    · replace h := h.1 hc
      refine vm_WM.seq 25 2 (pc' := 47) (L' := [.ref 5, .ref 14, .int x2, .int x3]) (S' := [.ref 14, .ref 5]) (M' := M) rfl ?_
      refine vm_WM.call (a := 62) (as := [.ref 5, .ref 14]) (rest := []) (L0 := [.ref 5, .ref 14]) 27 rfl rfl (by decide) rfl rfl ⟨rfl, Or.inr rfl, Nat.le_of_ble_eq_true rfl, Nat.le_of_ble_eq_true rfl⟩ rfl rfl rfl ?_
      refine vm_WM.theni h (fun v1 M2 h => ?_)
      show vm_WM X 60 50 [.ref 5, .ref 14, .int x2, .int x3] [.int v1] M2 _
      refine vm_WM.seq 28 3 (pc' := 34) (L' := [.ref 5, .ref 14, .int v1, .int (x3 + (nI 1))]) (S' := []) (M' := M2) rfl ?_
      exact h
    · replace h := h.2 hc
      refine vm_WM.seq 31 5 (pc' := 66) (L' := [.ref 5, .ref 14, .int x2, .int x3]) (S' := [.int ((vm_u2 M 5 1 (nI 0)) 5 6)]) (M' := (vm_u2 M 5 1 (nI 0))) rfl ?_
      exact vm_WM.ret (r := some (.int ((vm_u2 M 5 1 (nI 0)) 5 6))) 36 rfl rfl rfl ⟨_, rfl, h⟩
theorem v_Hill_become_7_14 {X : Nat × (Nat → Int32)}  {M : vm_M} {P : vm_M → Prop} (h : P  (vm_cp (vm_cp (vm_cp (vm_cp (vm_cp (vm_cp (vm_u2 (vm_u2 (vm_u2 (vm_u2 (vm_u2 (vm_u2 M 7 0 (M 14 0)) 7 1 ((vm_u2 M 7 0 (M 14 0)) 14 1)) 7 2 ((vm_u2 (vm_u2 M 7 0 (M 14 0)) 7 1 ((vm_u2 M 7 0 (M 14 0)) 14 1)) 14 2)) 7 3 ((vm_u2 (vm_u2 (vm_u2 M 7 0 (M 14 0)) 7 1 ((vm_u2 M 7 0 (M 14 0)) 14 1)) 7 2 ((vm_u2 (vm_u2 M 7 0 (M 14 0)) 7 1 ((vm_u2 M 7 0 (M 14 0)) 14 1)) 14 2)) 14 3)) 7 4 ((vm_u2 (vm_u2 (vm_u2 (vm_u2 M 7 0 (M 14 0)) 7 1 ((vm_u2 M 7 0 (M 14 0)) 14 1)) 7 2 ((vm_u2 (vm_u2 M 7 0 (M 14 0)) 7 1 ((vm_u2 M 7 0 (M 14 0)) 14 1)) 14 2)) 7 3 ((vm_u2 (vm_u2 (vm_u2 M 7 0 (M 14 0)) 7 1 ((vm_u2 M 7 0 (M 14 0)) 14 1)) 7 2 ((vm_u2 (vm_u2 M 7 0 (M 14 0)) 7 1 ((vm_u2 M 7 0 (M 14 0)) 14 1)) 14 2)) 14 3)) 14 4)) 7 5 ((vm_u2 (vm_u2 (vm_u2 (vm_u2 (vm_u2 M 7 0 (M 14 0)) 7 1 ((vm_u2 M 7 0 (M 14 0)) 14 1)) 7 2 ((vm_u2 (vm_u2 M 7 0 (M 14 0)) 7 1 ((vm_u2 M 7 0 (M 14 0)) 14 1)) 14 2)) 7 3 ((vm_u2 (vm_u2 (vm_u2 M 7 0 (M 14 0)) 7 1 ((vm_u2 M 7 0 (M 14 0)) 14 1)) 7 2 ((vm_u2 (vm_u2 M 7 0 (M 14 0)) 7 1 ((vm_u2 M 7 0 (M 14 0)) 14 1)) 14 2)) 14 3)) 7 4 ((vm_u2 (vm_u2 (vm_u2 (vm_u2 M 7 0 (M 14 0)) 7 1 ((vm_u2 M 7 0 (M 14 0)) 14 1)) 7 2 ((vm_u2 (vm_u2 M 7 0 (M 14 0)) 7 1 ((vm_u2 M 7 0 (M 14 0)) 14 1)) 14 2)) 7 3 ((vm_u2 (vm_u2 (vm_u2 M 7 0 (M 14 0)) 7 1 ((vm_u2 M 7 0 (M 14 0)) 14 1)) 7 2 ((vm_u2 (vm_u2 M 7 0 (M 14 0)) 7 1 ((vm_u2 M 7 0 (M 14 0)) 14 1)) 14 2)) 14 3)) 14 4)) 14 5)) 15 8 0 0 6) 16 9 0 0 6) 17 10 0 0 6) 18 11 0 0 6) 19 12 0 0 36) 20 13 0 0 36)) : E_Hill_become_7_14 X  M P := by
  unfold E_Hill_become_7_14
  refine vm_WM.seq 0 31 (pc' := 60) (L' := [.ref 7, .ref 14]) (S' := [.int (nI 6), .int (nI 0), .ref 8, .int (nI 0), .ref 15]) (M' := (vm_u2 (vm_u2 (vm_u2 (vm_u2 (vm_u2 (vm_u2 M 7 0 (M 14 0)) 7 1 ((vm_u2 M 7 0 (M 14 0)) 14 1)) 7 2 ((vm_u2 (vm_u2 M 7 0 (M 14 0)) 7 1 ((vm_u2 M 7 0 (M 14 0)) 14 1)) 14 2)) 7 3 ((vm_u2 (vm_u2 (vm_u2 M 7 0 (M 14 0)) 7 1 ((vm_u2 M 7 0 (M 14 0)) 14 1)) 7 2 ((vm_u2 (vm_u2 M 7 0 (M 14 0)) 7 1 ((vm_u2 M 7 0 (M 14 0)) 14 1)) 14 2)) 14 3)) 7 4 ((vm_u2 (vm_u2 (vm_u2 (vm_u2 M 7 0 (M 14 0)) 7 1 ((vm_u2 M 7 0 (M 14 0)) 14 1)) 7 2 ((vm_u2 (vm_u2 M 7 0 (M 14 0)) 7 1 ((vm_u2 M 7 0 (M 14 0)) 14 1)) 14 2)) 7 3 ((vm_u2 (vm_u2 (vm_u2 M 7 0 (M 14 0)) 7 1 ((vm_u2 M 7 0 (M 14 0)) 14 1)) 7 2 ((vm_u2 (vm_u2 M 7 0 (M 14 0)) 7 1 ((vm_u2 M 7 0 (M 14 0)) 14 1)) 14 2)) 14 3)) 14 4)) 7 5 ((vm_u2 (vm_u2 (vm_u2 (vm_u2 (vm_u2 M 7 0 (M 14 0)) 7 1 ((vm_u2 M 7 0 (M 14 0)) 14 1)) 7 2 ((vm_u2 (vm_u2 M 7 0 (M 14 0)) 7 1 ((vm_u2 M 7 0 (M 14 0)) 14 1)) 14 2)) 7 3 ((vm_u2 (vm_u2 (vm_u2 M 7 0 (M 14 0)) 7 1 ((vm_u2 M 7 0 (M 14 0)) 14 1)) 7 2 ((vm_u2 (vm_u2 M 7 0 (M 14 0)) 7 1 ((vm_u2 M 7 0 (M 14 0)) 14 1)) 14 2)) 14 3)) 7 4 ((vm_u2 (vm_u2 (vm_u2 (vm_u2 M 7 0 (M 14 0)) 7 1 ((vm_u2 M 7 0 (M 14 0)) 14 1)) 7 2 ((vm_u2 (vm_u2 M 7 0 (M 14 0)) 7 1 ((vm_u2 M 7 0 (M 14 0)) 14 1)) 14 2)) 7 3 ((vm_u2 (vm_u2 (vm_u2 M 7 0 (M 14 0)) 7 1 ((vm_u2 M 7 0 (M 14 0)) 14 1)) 7 2 ((vm_u2 (vm_u2 M 7 0 (M 14 0)) 7 1 ((vm_u2 M 7 0 (M 14 0)) 14 1)) 14 2)) 14 3)) 14 4)) 14 5))) rfl ?_
  refine vm_WM.copy (n0 := 6) (n1 := 6) 31 rfl rfl rfl rfl (by decide) (by decide) (by decide) (by decide) (by decide) (Nat.le_of_ble_eq_true rfl) ?_
  show vm_WM X 42 63 [.ref 7, .ref 14] [] (vm_cp (vm_u2 (vm_u2 (vm_u2 (vm_u2 (vm_u2 (vm_u2 M 7 0 (M 14 0)) 7 1 ((vm_u2 M 7 0 (M 14 0)) 14 1)) 7 2 ((vm_u2 (vm_u2 M 7 0 (M 14 0)) 7 1 ((vm_u2 M 7 0 (M 14 0)) 14 1)) 14 2)) 7 3 ((vm_u2 (vm_u2 (vm_u2 M 7 0 (M 14 0)) 7 1 ((vm_u2 M 7 0 (M 14 0)) 14 1)) 7 2 ((vm_u2 (vm_u2 M 7 0 (M 14 0)) 7 1 ((vm_u2 M 7 0 (M 14 0)) 14 1)) 14 2)) 14 3)) 7 4 ((vm_u2 (vm_u2 (vm_u2 (vm_u2 M 7 0 (M 14 0)) 7 1 ((vm_u2 M 7 0 (M 14 0)) 14 1)) 7 2 ((vm_u2 (vm_u2 M 7 0 (M 14 0)) 7 1 ((vm_u2 M 7 0 (M 14 0)) 14 1)) 14 2)) 7 3 ((vm_u2 (vm_u2 (vm_u2 M 7 0 (M 14 0)) 7 1 ((vm_u2 M 7 0 (M 14 0)) 14 1)) 7 2 ((vm_u2 (vm_u2 M 7 0 (M 14 0)) 7 1 ((vm_u2 M 7 0 (M 14 0)) 14 1)) 14 2)) 14 3)) 14 4)) 7 5 ((vm_u2 (vm_u2 (vm_u2 (vm_u2 (vm_u2 M 7 0 (M 14 0)) 7 1 ((vm_u2 M 7 0 (M 14 0)) 14 1)) 7 2 ((vm_u2 (vm_u2 M 7 0 (M 14 0)) 7 1 ((vm_u2 M 7 0 (M 14 0)) 14 1)) 14 2)) 7 3 ((vm_u2 (vm_u2 (vm_u2 M 7 0 (M 14 0)) 7 1 ((vm_u2 M 7 0 (M 14 0)) 14 1)) 7 2 ((vm_u2 (vm_u2 M 7 0 (M 14 0)) 7 1 ((vm_u2 M 7 0 (M 14 0)) 14 1)) 14 2)) 14 3)) 7 4 ((vm_u2 (vm_u2 (vm_u2 (vm_u2 M 7 0 (M 14 0)) 7 1 ((vm_u2 M 7 0 (M 14 0)) 14 1)) 7 2 ((vm_u2 (vm_u2 M 7 0 (M 14 0)) 7 1 ((vm_u2 M 7 0 (M 14 0)) 14 1)) 14 2)) 7 3 ((vm_u2 (vm_u2 (vm_u2 M 7 0 (M 14 0)) 7 1 ((vm_u2 M 7 0 (M 14 0)) 14 1)) 7 2 ((vm_u2 (vm_u2 M 7 0 (M 14 0)) 7 1 ((vm_u2 M 7 0 (M 14 0)) 14 1)) 14 2)) 14 3)) 14 4)) 14 5)) 15 8 0 0 6) _
  refine vm_WM.seq 32 7 (pc' := 75) (L' := [.ref 7, .ref 14]) (S' := [.int (nI 6), .int (nI 0), .ref 9, .int (nI 0), .ref 16]) (M' := (vm_cp (vm_u2 (vm_u2 (vm_u2 (vm_u2 (vm_u2 (vm_u2 M 7 0 (M 14 0)) 7 1 ((vm_u2 M 7 0 (M 14 0)) 14 1)) 7 2 ((vm_u2 (vm_u2 M 7 0 (M 14 0)) 7 1 ((vm_u2 M 7 0 (M 14 0)) 14 1)) 14 2)) 7 3 ((vm_u2 (vm_u2 (vm_u2 M 7 0 (M 14 0)) 7 1 ((vm_u2 M 7 0 (M 14 0)) 14 1)) 7 2 ((vm_u2 (vm_u2 M 7 0 (M 14 0)) 7 1 ((vm_u2 M 7 0 (M 14 0)) 14 1)) 14 2)) 14 3)) 7 4 ((vm_u2 (vm_u2 (vm_u2 (vm_u2 M 7 0 (M 14 0)) 7 1 ((vm_u2 M 7 0 (M 14 0)) 14 1)) 7 2 ((vm_u2 (vm_u2 M 7 0 (M 14 0)) 7 1 ((vm_u2 M 7 0 (M 14 0)) 14 1)) 14 2)) 7 3 ((vm_u2 (vm_u2 (vm_u2 M 7 0 (M 14 0)) 7 1 ((vm_u2 M 7 0 (M 14 0)) 14 1)) 7 2 ((vm_u2 (vm_u2 M 7 0 (M 14 0)) 7 1 ((vm_u2 M 7 0 (M 14 0)) 14 1)) 14 2)) 14 3)) 14 4)) 7 5 ((vm_u2 (vm_u2 (vm_u2 (vm_u2 (vm_u2 M 7 0 (M 14 0)) 7 1 ((vm_u2 M 7 0 (M 14 0)) 14 1)) 7 2 ((vm_u2 (vm_u2 M 7 0 (M 14 0)) 7 1 ((vm_u2 M 7 0 (M 14 0)) 14 1)) 14 2)) 7 3 ((vm_u2 (vm_u2 (vm_u2 M 7 0 (M 14 0)) 7 1 ((vm_u2 M 7 0 (M 14 0)) 14 1)) 7 2 ((vm_u2 (vm_u2 M 7 0 (M 14 0)) 7 1 ((vm_u2 M 7 0 (M 14 0)) 14 1)) 14 2)) 14 3)) 7 4 ((vm_u2 (vm_u2 (vm_u2 (vm_u2 M 7 0 (M 14 0)) 7 1 ((vm_u2 M 7 0 (M 14 0)) 14 1)) 7 2 ((vm_u2 (vm_u2 M 7 0 (M 14 0)) 7 1 ((vm_u2 M 7 0 (M 14 0)) 14 1)) 14 2)) 7 3 ((vm_u2 (vm_u2 (vm_u2 M 7 0 (M 14 0)) 7 1 ((vm_u2 M 7 0 (M 14 0)) 14 1)) 7 2 ((vm_u2 (vm_u2 M 7 0 (M 14 0)) 7 1 ((vm_u2 M 7 0 (M 14 0)) 14 1)) 14 2)) 14 3)) 14 4)) 14 5)) 15 8 0 0 6)) rfl ?_
  refine vm_WM.copy (n0 := 6) (n1 := 6) 39 rfl rfl rfl rfl (by decide) (by decide) (by decide) (by decide) (by decide) (Nat.le_of_ble_eq_true rfl) ?_
  show vm_WM X 42 78 [.ref 7, .ref 14] [] (vm_cp (vm_cp (vm_u2 (vm_u2 (vm_u2 (vm_u2 (vm_u2 (vm_u2 M 7 0 (M 14 0)) 7 1 ((vm_u2 M 7 0 (M 14 0)) 14 1)) 7 2 ((vm_u2 (vm_u2 M 7 0 (M 14 0)) 7 1 ((vm_u2 M 7 0 (M 14 0)) 14 1)) 14 2)) 7 3 ((vm_u2 (vm_u2 (vm_u2 M 7 0 (M 14 0)) 7 1 ((vm_u2 M 7 0 (M 14 0)) 14 1)) 7 2 ((vm_u2 (vm_u2 M 7 0 (M 14 0)) 7 1 ((vm_u2 M 7 0 (M 14 0)) 14 1)) 14 2)) 14 3)) 7 4 ((vm_u2 (vm_u2 (vm_u2 (vm_u2 M 7 0 (M 14 0)) 7 1 ((vm_u2 M 7 0 (M 14 0)) 14 1)) 7 2 ((vm_u2 (vm_u2 M 7 0 (M 14 0)) 7 1 ((vm_u2 M 7 0 (M 14 0)) 14 1)) 14 2)) 7 3 ((vm_u2 (vm_u2 (vm_u2 M 7 0 (M 14 0)) 7 1 ((vm_u2 M 7 0 (M 14 0)) 14 1)) 7 2 ((vm_u2 (vm_u2 M 7 0 (M 14 0)) 7 1 ((vm_u2 M 7 0 (M 14 0)) 14 1)) 14 2)) 14 3)) 14 4)) 7 5 ((vm_u2 (vm_u2 (vm_u2 (vm_u2 (vm_u2 M 7 0 (M 14 0)) 7 1 ((vm_u2 M 7 0 (M 14 0)) 14 1)) 7 2 ((vm_u2 (vm_u2 M 7 0 (M 14 0)) 7 1 ((vm_u2 M 7 0 (M 14 0)) 14 1)) 14 2)) 7 3 ((vm_u2 (vm_u2 (vm_u2 M 7 0 (M 14 0)) 7 1 ((vm_u2 M 7 0 (M 14 0)) 14 1)) 7 2 ((vm_u2 (vm_u2 M 7 0 (M 14 0)) 7 1 ((vm_u2 M 7 0 (M 14 0)) 14 1)) 14 2)) 14 3)) 7 4 ((vm_u2 (vm_u2 (vm_u2 (vm_u2 M 7 0 (M 14 0)) 7 1 ((vm_u2 M 7 0 (M 14 0)) 14 1)) 7 2 ((vm_u2 (vm_u2 M 7 0 (M 14 0)) 7 1 ((vm_u2 M 7 0 (M 14 0)) 14 1)) 14 2)) 7 3 ((vm_u2 (vm_u2 (vm_u2 M 7 0 (M 14 0)) 7 1 ((vm_u2 M 7 0 (M 14 0)) 14 1)) 7 2 ((vm_u2 (vm_u2 M 7 0 (M 14 0)) 7 1 ((vm_u2 M 7 0 (M 14 0)) 14 1)) 14 2)) 14 3)) 14 4)) 14 5)) 15 8 0 0 6) 16 9 0 0 6) _
  refine vm_WM.seq 40 7 (pc' := 90) (L' := [.ref 7, .ref 14]) (S' := [.int (nI 6), .int (nI 0), .ref 10, .int (nI 0), .ref 17]) (M' := (vm_cp (vm_cp (vm_u2 (vm_u2 (vm_u2 (vm_u2 (vm_u2 (vm_u2 M 7 0 (M 14 0)) 7 1 ((vm_u2 M 7 0 (M 14 0)) 14 1)) 7 2 ((vm_u2 (vm_u2 M 7 0 (M 14 0)) 7 1 ((vm_u2 M 7 0 (M 14 0)) 14 1)) 14 2)) 7 3 ((vm_u2 (vm_u2 (vm_u2 M 7 0 (M 14 0)) 7 1 ((vm_u2 M 7 0 (M 14 0)) 14 1)) 7 2 ((vm_u2 (vm_u2 M 7 0 (M 14 0)) 7 1 ((vm_u2 M 7 0 (M 14 0)) 14 1)) 14 2)) 14 3)) 7 4 ((vm_u2 (vm_u2 (vm_u2 (vm_u2 M 7 0 (M 14 0)) 7 1 ((vm_u2 M 7 0 (M 14 0)) 14 1)) 7 2 ((vm_u2 (vm_u2 M 7 0 (M 14 0)) 7 1 ((vm_u2 M 7 0 (M 14 0)) 14 1)) 14 2)) 7 3 ((vm_u2 (vm_u2 (vm_u2 M 7 0 (M 14 0)) 7 1 ((vm_u2 M 7 0 (M 14 0)) 14 1)) 7 2 ((vm_u2 (vm_u2 M 7 0 (M 14 0)) 7 1 ((vm_u2 M 7 0 (M 14 0)) 14 1)) 14 2)) 14 3)) 14 4)) 7 5 ((vm_u2 (vm_u2 (vm_u2 (vm_u2 (vm_u2 M 7 0 (M 14 0)) 7 1 ((vm_u2 M 7 0 (M 14 0)) 14 1)) 7 2 ((vm_u2 (vm_u2 M 7 0 (M 14 0)) 7 1 ((vm_u2 M 7 0 (M 14 0)) 14 1)) 14 2)) 7 3 ((vm_u2 (vm_u2 (vm_u2 M 7 0 (M 14 0)) 7 1 ((vm_u2 M 7 0 (M 14 0)) 14 1)) 7 2 ((vm_u2 (vm_u2 M 7 0 (M 14 0)) 7 1 ((vm_u2 M 7 0 (M 14 0)) 14 1)) 14 2)) 14 3)) 7 4 ((vm_u2 (vm_u2 (vm_u2 (vm_u2 M 7 0 (M 14 0)) 7 1 ((vm_u2 M 7 0 (M 14 0)) 14 1)) 7 2 ((vm_u2 (vm_u2 M 7 0 (M 14 0)) 7 1 ((vm_u2 M 7 0 (M 14 0)) 14 1)) 14 2)) 7 3 ((vm_u2 (vm_u2 (vm_u2 M 7 0 (M 14 0)) 7 1 ((vm_u2 M 7 0 (M 14 0)) 14 1)) 7 2 ((vm_u2 (vm_u2 M 7 0 (M 14 0)) 7 1 ((vm_u2 M 7 0 (M 14 0)) 14 1)) 14 2)) 14 3)) 14 4)) 14 5)) 15 8 0 0 6) 16 9 0 0 6)) rfl ?_
  refine vm_WM.copy (n0 := 6) (n1 := 6) 47 rfl rfl rfl rfl (by decide) (by decide) (by decide) (by decide) (by decide) (Nat.le_of_ble_eq_true rfl) ?_
  show vm_WM X 42 93 [.ref 7, .ref 14] [] (vm_cp (vm_cp (vm_cp (vm_u2 (vm_u2 (vm_u2 (vm_u2 (vm_u2 (vm_u2 M 7 0 (M 14 0)) 7 1 ((vm_u2 M 7 0 (M 14 0)) 14 1)) 7 2 ((vm_u2 (vm_u2 M 7 0 (M 14 0)) 7 1 ((vm_u2 M 7 0 (M 14 0)) 14 1)) 14 2)) 7 3 ((vm_u2 (vm_u2 (vm_u2 M 7 0 (M 14 0)) 7 1 ((vm_u2 M 7 0 (M 14 0)) 14 1)) 7 2 ((vm_u2 (vm_u2 M 7 0 (M 14 0)) 7 1 ((vm_u2 M 7 0 (M 14 0)) 14 1)) 14 2)) 14 3)) 7 4 ((vm_u2 (vm_u2 (vm_u2 (vm_u2 M 7 0 (M 14 0)) 7 1 ((vm_u2 M 7 0 (M 14 0)) 14 1)) 7 2 ((vm_u2 (vm_u2 M 7 0 (M 14 0)) 7 1 ((vm_u2 M 7 0 (M 14 0)) 14 1)) 14 2)) 7 3 ((vm_u2 (vm_u2 (vm_u2 M 7 0 (M 14 0)) 7 1 ((vm_u2 M 7 0 (M 14 0)) 14 1)) 7 2 ((vm_u2 (vm_u2 M 7 0 (M 14 0)) 7 1 ((vm_u2 M 7 0 (M 14 0)) 14 1)) 14 2)) 14 3)) 14 4)) 7 5 ((vm_u2 (vm_u2 (vm_u2 (vm_u2 (vm_u2 M 7 0 (M 14 0)) 7 1 ((vm_u2 M 7 0 (M 14 0)) 14 1)) 7 2 ((vm_u2 (vm_u2 M 7 0 (M 14 0)) 7 1 ((vm_u2 M 7 0 (M 14 0)) 14 1)) 14 2)) 7 3 ((vm_u2 (vm_u2 (vm_u2 M 7 0 (M 14 0)) 7 1 ((vm_u2 M 7 0 (M 14 0)) 14 1)) 7 2 ((vm_u2 (vm_u2 M 7 0 (M 14 0)) 7 1 ((vm_u2 M 7 0 (M 14 0)) 14 1)) 14 2)) 14 3)) 7 4 ((vm_u2 (vm_u2 (vm_u2 (vm_u2 M 7 0 (M 14 0)) 7 1 ((vm_u2 M 7 0 (M 14 0)) 14 1)) 7 2 ((vm_u2 (vm_u2 M 7 0 (M 14 0)) 7 1 ((vm_u2 M 7 0 (M 14 0)) 14 1)) 14 2)) 7 3 ((vm_u2 (vm_u2 (vm_u2 M 7 0 (M 14 0)) 7 1 ((vm_u2 M 7 0 (M 14 0)) 14 1)) 7 2 ((vm_u2 (vm_u2 M 7 0 (M 14 0)) 7 1 ((vm_u2 M 7 0 (M 14 0)) 14 1)) 14 2)) 14 3)) 14 4)) 14 5)) 15 8 0 0 6) 16 9 0 0 6) 17 10 0 0 6) _
  refine vm_WM.seq 48 7 (pc' := 105) (L' := [.ref 7, .ref 14]) (S' := [.int (nI 6), .int (nI 0), .ref 11, .int (nI 0), .ref 18]) (M' := (vm_cp (vm_cp (vm_cp (vm_u2 (vm_u2 (vm_u2 (vm_u2 (vm_u2 (vm_u2 M 7 0 (M 14 0)) 7 1 ((vm_u2 M 7 0 (M 14 0)) 14 1)) 7 2 ((vm_u2 (vm_u2 M 7 0 (M 14 0)) 7 1 ((vm_u2 M 7 0 (M 14 0)) 14 1)) 14 2)) 7 3 ((vm_u2 (vm_u2 (vm_u2 M 7 0 (M 14 0)) 7 1 ((vm_u2 M 7 0 (M 14 0)) 14 1)) 7 2 ((vm_u2 (vm_u2 M 7 0 (M 14 0)) 7 1 ((vm_u2 M 7 0 (M 14 0)) 14 1)) 14 2)) 14 3)) 7 4 ((vm_u2 (vm_u2 (vm_u2 (vm_u2 M 7 0 (M 14 0)) 7 1 ((vm_u2 M 7 0 (M 14 0)) 14 1)) 7 2 ((vm_u2 (vm_u2 M 7 0 (M 14 0)) 7 1 ((vm_u2 M 7 0 (M 14 0)) 14 1)) 14 2)) 7 3 ((vm_u2 (vm_u2 (vm_u2 M 7 0 (M 14 0)) 7 1 ((vm_u2 M 7 0 (M 14 0)) 14 1)) 7 2 ((vm_u2 (vm_u2 M 7 0 (M 14 0)) 7 1 ((vm_u2 M 7 0 (M 14 0)) 14 1)) 14 2)) 14 3)) 14 4)) 7 5 ((vm_u2 (vm_u2 (vm_u2 (vm_u2 (vm_u2 M 7 0 (M 14 0)) 7 1 ((vm_u2 M 7 0 (M 14 0)) 14 1)) 7 2 ((vm_u2 (vm_u2 M 7 0 (M 14 0)) 7 1 ((vm_u2 M 7 0 (M 14 0)) 14 1)) 14 2)) 7 3 ((vm_u2 (vm_u2 (vm_u2 M 7 0 (M 14 0)) 7 1 ((vm_u2 M 7 0 (M 14 0)) 14 1)) 7 2 ((vm_u2 (vm_u2 M 7 0 (M 14 0)) 7 1 ((vm_u2 M 7 0 (M 14 0)) 14 1)) 14 2)) 14 3)) 7 4 ((vm_u2 (vm_u2 (vm_u2 (vm_u2 M 7 0 (M 14 0)) 7 1 ((vm_u2 M 7 0 (M 14 0)) 14 1)) 7 2 ((vm_u2 (vm_u2 M 7 0 (M 14 0)) 7 1 ((vm_u2 M 7 0 (M 14 0)) 14 1)) 14 2)) 7 3 ((vm_u2 (vm_u2 (vm_u2 M 7 0 (M 14 0)) 7 1 ((vm_u2 M 7 0 (M 14 0)) 14 1)) 7 2 ((vm_u2 (vm_u2 M 7 0 (M 14 0)) 7 1 ((vm_u2 M 7 0 (M 14 0)) 14 1)) 14 2)) 14 3)) 14 4)) 14 5)) 15 8 0 0 6) 16 9 0 0 6) 17 10 0 0 6)) rfl ?_
  refine vm_WM.copy (n0 := 6) (n1 := 6) 55 rfl rfl rfl rfl (by decide) (by decide) (by decide) (by decide) (by decide) (Nat.le_of_ble_eq_true rfl) ?_
  show vm_WM X 42 108 [.ref 7, .ref 14] [] (vm_cp (vm_cp (vm_cp (vm_cp (vm_u2 (vm_u2 (vm_u2 (vm_u2 (vm_u2 (vm_u2 M 7 0 (M 14 0)) 7 1 ((vm_u2 M 7 0 (M 14 0)) 14 1)) 7 2 ((vm_u2 (vm_u2 M 7 0 (M 14 0)) 7 1 ((vm_u2 M 7 0 (M 14 0)) 14 1)) 14 2)) 7 3 ((vm_u2 (vm_u2 (vm_u2 M 7 0 (M 14 0)) 7 1 ((vm_u2 M 7 0 (M 14 0)) 14 1)) 7 2 ((vm_u2 (vm_u2 M 7 0 (M 14 0)) 7 1 ((vm_u2 M 7 0 (M 14 0)) 14 1)) 14 2)) 14 3)) 7 4 ((vm_u2 (vm_u2 (vm_u2 (vm_u2 M 7 0 (M 14 0)) 7 1 ((vm_u2 M 7 0 (M 14 0)) 14 1)) 7 2 ((vm_u2 (vm_u2 M 7 0 (M 14 0)) 7 1 ((vm_u2 M 7 0 (M 14 0)) 14 1)) 14 2)) 7 3 ((vm_u2 (vm_u2 (vm_u2 M 7 0 (M 14 0)) 7 1 ((vm_u2 M 7 0 (M 14 0)) 14 1)) 7 2 ((vm_u2 (vm_u2 M 7 0 (M 14 0)) 7 1 ((vm_u2 M 7 0 (M 14 0)) 14 1)) 14 2)) 14 3)) 14 4)) 7 5 ((vm_u2 (vm_u2 (vm_u2 (vm_u2 (vm_u2 M 7 0 (M 14 0)) 7 1 ((vm_u2 M 7 0 (M 14 0)) 14 1)) 7 2 ((vm_u2 (vm_u2 M 7 0 (M 14 0)) 7 1 ((vm_u2 M 7 0 (M 14 0)) 14 1)) 14 2)) 7 3 ((vm_u2 (vm_u2 (vm_u2 M 7 0 (M 14 0)) 7 1 ((vm_u2 M 7 0 (M 14 0)) 14 1)) 7 2 ((vm_u2 (vm_u2 M 7 0 (M 14 0)) 7 1 ((vm_u2 M 7 0 (M 14 0)) 14 1)) 14 2)) 14 3)) 7 4 ((vm_u2 (vm_u2 (vm_u2 (vm_u2 M 7 0 (M 14 0)) 7 1 ((vm_u2 M 7 0 (M 14 0)) 14 1)) 7 2 ((vm_u2 (vm_u2 M 7 0 (M 14 0)) 7 1 ((vm_u2 M 7 0 (M 14 0)) 14 1)) 14 2)) 7 3 ((vm_u2 (vm_u2 (vm_u2 M 7 0 (M 14 0)) 7 1 ((vm_u2 M 7 0 (M 14 0)) 14 1)) 7 2 ((vm_u2 (vm_u2 M 7 0 (M 14 0)) 7 1 ((vm_u2 M 7 0 (M 14 0)) 14 1)) 14 2)) 14 3)) 14 4)) 14 5)) 15 8 0 0 6) 16 9 0 0 6) 17 10 0 0 6) 18 11 0 0 6) _
  refine vm_WM.seq 56 7 (pc' := 120) (L' := [.ref 7, .ref 14]) (S' := [.int (nI 36), .int (nI 0), .ref 12, .int (nI 0), .ref 19]) (M' := (vm_cp (vm_cp (vm_cp (vm_cp (vm_u2 (vm_u2 (vm_u2 (vm_u2 (vm_u2 (vm_u2 M 7 0 (M 14 0)) 7 1 ((vm_u2 M 7 0 (M 14 0)) 14 1)) 7 2 ((vm_u2 (vm_u2 M 7 0 (M 14 0)) 7 1 ((vm_u2 M 7 0 (M 14 0)) 14 1)) 14 2)) 7 3 ((vm_u2 (vm_u2 (vm_u2 M 7 0 (M 14 0)) 7 1 ((vm_u2 M 7 0 (M 14 0)) 14 1)) 7 2 ((vm_u2 (vm_u2 M 7 0 (M 14 0)) 7 1 ((vm_u2 M 7 0 (M 14 0)) 14 1)) 14 2)) 14 3)) 7 4 ((vm_u2 (vm_u2 (vm_u2 (vm_u2 M 7 0 (M 14 0)) 7 1 ((vm_u2 M 7 0 (M 14 0)) 14 1)) 7 2 ((vm_u2 (vm_u2 M 7 0 (M 14 0)) 7 1 ((vm_u2 M 7 0 (M 14 0)) 14 1)) 14 2)) 7 3 ((vm_u2 (vm_u2 (vm_u2 M 7 0 (M 14 0)) 7 1 ((vm_u2 M 7 0 (M 14 0)) 14 1)) 7 2 ((vm_u2 (vm_u2 M 7 0 (M 14 0)) 7 1 ((vm_u2 M 7 0 (M 14 0)) 14 1)) 14 2)) 14 3)) 14 4)) 7 5 ((vm_u2 (vm_u2 (vm_u2 (vm_u2 (vm_u2 M 7 0 (M 14 0)) 7 1 ((vm_u2 M 7 0 (M 14 0)) 14 1)) 7 2 ((vm_u2 (vm_u2 M 7 0 (M 14 0)) 7 1 ((vm_u2 M 7 0 (M 14 0)) 14 1)) 14 2)) 7 3 ((vm_u2 (vm_u2 (vm_u2 M 7 0 (M 14 0)) 7 1 ((vm_u2 M 7 0 (M 14 0)) 14 1)) 7 2 ((vm_u2 (vm_u2 M 7 0 (M 14 0)) 7 1 ((vm_u2 M 7 0 (M 14 0)) 14 1)) 14 2)) 14 3)) 7 4 ((vm_u2 (vm_u2 (vm_u2 (vm_u2 M 7 0 (M 14 0)) 7 1 ((vm_u2 M 7 0 (M 14 0)) 14 1)) 7 2 ((vm_u2 (vm_u2 M 7 0 (M 14 0)) 7 1 ((vm_u2 M 7 0 (M 14 0)) 14 1)) 14 2)) 7 3 ((vm_u2 (vm_u2 (vm_u2 M 7 0 (M 14 0)) 7 1 ((vm_u2 M 7 0 (M 14 0)) 14 1)) 7 2 ((vm_u2 (vm_u2 M 7 0 (M 14 0)) 7 1 ((vm_u2 M 7 0 (M 14 0)) 14 1)) 14 2)) 14 3)) 14 4)) 14 5)) 15 8 0 0 6) 16 9 0 0 6) 17 10 0 0 6) 18 11 0 0 6)) rfl ?_
  refine vm_WM.copy (n0 := 36) (n1 := 36) 63 rfl rfl rfl rfl (by decide) (by decide) (by decide) (by decide) (by decide) (Nat.le_of_ble_eq_true rfl) ?_
  show vm_WM X 42 123 [.ref 7, .ref 14] [] (vm_cp (vm_cp (vm_cp (vm_cp (vm_cp (vm_u2 (vm_u2 (vm_u2 (vm_u2 (vm_u2 (vm_u2 M 7 0 (M 14 0)) 7 1 ((vm_u2 M 7 0 (M 14 0)) 14 1)) 7 2 ((vm_u2 (vm_u2 M 7 0 (M 14 0)) 7 1 ((vm_u2 M 7 0 (M 14 0)) 14 1)) 14 2)) 7 3 ((vm_u2 (vm_u2 (vm_u2 M 7 0 (M 14 0)) 7 1 ((vm_u2 M 7 0 (M 14 0)) 14 1)) 7 2 ((vm_u2 (vm_u2 M 7 0 (M 14 0)) 7 1 ((vm_u2 M 7 0 (M 14 0)) 14 1)) 14 2)) 14 3)) 7 4 ((vm_u2 (vm_u2 (vm_u2 (vm_u2 M 7 0 (M 14 0)) 7 1 ((vm_u2 M 7 0 (M 14 0)) 14 1)) 7 2 ((vm_u2 (vm_u2 M 7 0 (M 14 0)) 7 1 ((vm_u2 M 7 0 (M 14 0)) 14 1)) 14 2)) 7 3 ((vm_u2 (vm_u2 (vm_u2 M 7 0 (M 14 0)) 7 1 ((vm_u2 M 7 0 (M 14 0)) 14 1)) 7 2 ((vm_u2 (vm_u2 M 7 0 (M 14 0)) 7 1 ((vm_u2 M 7 0 (M 14 0)) 14 1)) 14 2)) 14 3)) 14 4)) 7 5 ((vm_u2 (vm_u2 (vm_u2 (vm_u2 (vm_u2 M 7 0 (M 14 0)) 7 1 ((vm_u2 M 7 0 (M 14 0)) 14 1)) 7 2 ((vm_u2 (vm_u2 M 7 0 (M 14 0)) 7 1 ((vm_u2 M 7 0 (M 14 0)) 14 1)) 14 2)) 7 3 ((vm_u2 (vm_u2 (vm_u2 M 7 0 (M 14 0)) 7 1 ((vm_u2 M 7 0 (M 14 0)) 14 1)) 7 2 ((vm_u2 (vm_u2 M 7 0 (M 14 0)) 7 1 ((vm_u2 M 7 0 (M 14 0)) 14 1)) 14 2)) 14 3)) 7 4 ((vm_u2 (vm_u2 (vm_u2 (vm_u2 M 7 0 (M 14 0)) 7 1 ((vm_u2 M 7 0 (M 14 0)) 14 1)) 7 2 ((vm_u2 (vm_u2 M 7 0 (M 14 0)) 7 1 ((vm_u2 M 7 0 (M 14 0)) 14 1)) 14 2)) 7 3 ((vm_u2 (vm_u2 (vm_u2 M 7 0 (M 14 0)) 7 1 ((vm_u2 M 7 0 (M 14 0)) 14 1)) 7 2 ((vm_u2 (vm_u2 M 7 0 (M 14 0)) 7 1 ((vm_u2 M 7 0 (M 14 0)) 14 1)) 14 2)) 14 3)) 14 4)) 14 5)) 15 8 0 0 6) 16 9 0 0 6) 17 10 0 0 6) 18 11 0 0 6) 19 12 0 0 36) _
  refine vm_WM.seq 64 7 (pc' := 135) (L' := [.ref 7, .ref 14]) (S' := [.int (nI 36), .int (nI 0), .ref 13, .int (nI 0), .ref 20]) (M' := (vm_cp (vm_cp (vm_cp (vm_cp (vm_cp (vm_u2 (vm_u2 (vm_u2 (vm_u2 (vm_u2 (vm_u2 M 7 0 (M 14 0)) 7 1 ((vm_u2 M 7 0 (M 14 0)) 14 1)) 7 2 ((vm_u2 (vm_u2 M 7 0 (M 14 0)) 7 1 ((vm_u2 M 7 0 (M 14 0)) 14 1)) 14 2)) 7 3 ((vm_u2 (vm_u2 (vm_u2 M 7 0 (M 14 0)) 7 1 ((vm_u2 M 7 0 (M 14 0)) 14 1)) 7 2 ((vm_u2 (vm_u2 M 7 0 (M 14 0)) 7 1 ((vm_u2 M 7 0 (M 14 0)) 14 1)) 14 2)) 14 3)) 7 4 ((vm_u2 (vm_u2 (vm_u2 (vm_u2 M 7 0 (M 14 0)) 7 1 ((vm_u2 M 7 0 (M 14 0)) 14 1)) 7 2 ((vm_u2 (vm_u2 M 7 0 (M 14 0)) 7 1 ((vm_u2 M 7 0 (M 14 0)) 14 1)) 14 2)) 7 3 ((vm_u2 (vm_u2 (vm_u2 M 7 0 (M 14 0)) 7 1 ((vm_u2 M 7 0 (M 14 0)) 14 1)) 7 2 ((vm_u2 (vm_u2 M 7 0 (M 14 0)) 7 1 ((vm_u2 M 7 0 (M 14 0)) 14 1)) 14 2)) 14 3)) 14 4)) 7 5 ((vm_u2 (vm_u2 (vm_u2 (vm_u2 (vm_u2 M 7 0 (M 14 0)) 7 1 ((vm_u2 M 7 0 (M 14 0)) 14 1)) 7 2 ((vm_u2 (vm_u2 M 7 0 (M 14 0)) 7 1 ((vm_u2 M 7 0 (M 14 0)) 14 1)) 14 2)) 7 3 ((vm_u2 (vm_u2 (vm_u2 M 7 0 (M 14 0)) 7 1 ((vm_u2 M 7 0 (M 14 0)) 14 1)) 7 2 ((vm_u2 (vm_u2 M 7 0 (M 14 0)) 7 1 ((vm_u2 M 7 0 (M 14 0)) 14 1)) 14 2)) 14 3)) 7 4 ((vm_u2 (vm_u2 (vm_u2 (vm_u2 M 7 0 (M 14 0)) 7 1 ((vm_u2 M 7 0 (M 14 0)) 14 1)) 7 2 ((vm_u2 (vm_u2 M 7 0 (M 14 0)) 7 1 ((vm_u2 M 7 0 (M 14 0)) 14 1)) 14 2)) 7 3 ((vm_u2 (vm_u2 (vm_u2 M 7 0 (M 14 0)) 7 1 ((vm_u2 M 7 0 (M 14 0)) 14 1)) 7 2 ((vm_u2 (vm_u2 M 7 0 (M 14 0)) 7 1 ((vm_u2 M 7 0 (M 14 0)) 14 1)) 14 2)) 14 3)) 14 4)) 14 5)) 15 8 0 0 6) 16 9 0 0 6) 17 10 0 0 6) 18 11 0 0 6) 19 12 0 0 36)) rfl ?_
  refine vm_WM.copy (n0 := 36) (n1 := 36) 71 rfl rfl rfl rfl (by decide) (by decide) (by decide) (by decide) (by decide) (Nat.le_of_ble_eq_true rfl) ?_
  show vm_WM X 42 138 [.ref 7, .ref 14] [] (vm_cp (vm_cp (vm_cp (vm_cp (vm_cp (vm_cp (vm_u2 (vm_u2 (vm_u2 (vm_u2 (vm_u2 (vm_u2 M 7 0 (M 14 0)) 7 1 ((vm_u2 M 7 0 (M 14 0)) 14 1)) 7 2 ((vm_u2 (vm_u2 M 7 0 (M 14 0)) 7 1 ((vm_u2 M 7 0 (M 14 0)) 14 1)) 14 2)) 7 3 ((vm_u2 (vm_u2 (vm_u2 M 7 0 (M 14 0)) 7 1 ((vm_u2 M 7 0 (M 14 0)) 14 1)) 7 2 ((vm_u2 (vm_u2 M 7 0 (M 14 0)) 7 1 ((vm_u2 M 7 0 (M 14 0)) 14 1)) 14 2)) 14 3)) 7 4 ((vm_u2 (vm_u2 (vm_u2 (vm_u2 M 7 0 (M 14 0)) 7 1 ((vm_u2 M 7 0 (M 14 0)) 14 1)) 7 2 ((vm_u2 (vm_u2 M 7 0 (M 14 0)) 7 1 ((vm_u2 M 7 0 (M 14 0)) 14 1)) 14 2)) 7 3 ((vm_u2 (vm_u2 (vm_u2 M 7 0 (M 14 0)) 7 1 ((vm_u2 M 7 0 (M 14 0)) 14 1)) 7 2 ((vm_u2 (vm_u2 M 7 0 (M 14 0)) 7 1 ((vm_u2 M 7 0 (M 14 0)) 14 1)) 14 2)) 14 3)) 14 4)) 7 5 ((vm_u2 (vm_u2 (vm_u2 (vm_u2 (vm_u2 M 7 0 (M 14 0)) 7 1 ((vm_u2 M 7 0 (M 14 0)) 14 1)) 7 2 ((vm_u2 (vm_u2 M 7 0 (M 14 0)) 7 1 ((vm_u2 M 7 0 (M 14 0)) 14 1)) 14 2)) 7 3 ((vm_u2 (vm_u2 (vm_u2 M 7 0 (M 14 0)) 7 1 ((vm_u2 M 7 0 (M 14 0)) 14 1)) 7 2 ((vm_u2 (vm_u2 M 7 0 (M 14 0)) 7 1 ((vm_u2 M 7 0 (M 14 0)) 14 1)) 14 2)) 14 3)) 7 4 ((vm_u2 (vm_u2 (vm_u2 (vm_u2 M 7 0 (M 14 0)) 7 1 ((vm_u2 M 7 0 (M 14 0)) 14 1)) 7 2 ((vm_u2 (vm_u2 M 7 0 (M 14 0)) 7 1 ((vm_u2 M 7 0 (M 14 0)) 14 1)) 14 2)) 7 3 ((vm_u2 (vm_u2 (vm_u2 M 7 0 (M 14 0)) 7 1 ((vm_u2 M 7 0 (M 14 0)) 14 1)) 7 2 ((vm_u2 (vm_u2 M 7 0 (M 14 0)) 7 1 ((vm_u2 M 7 0 (M 14 0)) 14 1)) 14 2)) 14 3)) 14 4)) 14 5)) 15 8 0 0 6) 16 9 0 0 6) 17 10 0 0 6) 18 11 0 0 6) 19 12 0 0 36) 20 13 0 0 36) _
  exact vm_WM.ret (r := none) 72 rfl rfl rfl ⟨rfl, h⟩
theorem v_Hill_handed_7 {X : Nat × (Nat → Int32)} {a1 : Int32} {a2 : Int32} {a3 : Int32} {a4 : Int32} {M : vm_M} {P : Int32 → vm_M → Prop} (h : E_Hill_arrival_7 X a1 a2 a3 M (fun v1 M2 => (v1 = (Int32.ofInt (-1000000)) → (P (Int32.ofInt (-1000000)) M2)) ∧ (¬ (v1 = (Int32.ofInt (-1000000))) → (E_Hill_accepts_7 X a2 v1 a4 M2 (fun v3 M4 => (v3 = 0 → (P (Int32.ofInt (-1000000)) M4)) ∧ (¬ (v3 = 0) → (P v1 M4))))))) : E_Hill_handed_7 X a1 a2 a3 a4 M P := by
  unfold E_Hill_handed_7
  refine vm_WM.seq 0 4 (pc' := 4) (L' := [.ref 7, .int a1, .int a2, .int a3, .int a4, .null]) (S' := [.int a3, .int a2, .int a1, .ref 7]) (M' := M) rfl ?_
  refine vm_WM.call (a := 45) (as := [.ref 7, .int a1, .int a2, .int a3]) (rest := []) (L0 := [.ref 7, .int a1, .int a2, .int a3, .null, .null]) 4 rfl rfl (by decide) rfl rfl ⟨rfl, Or.inr rfl, Nat.le_of_ble_eq_true rfl, Nat.le_of_ble_eq_true rfl⟩ rfl rfl rfl ?_
  refine vm_WM.theni h (fun v1 M2 h => ?_)
  show vm_WM X 46 7 [.ref 7, .int a1, .int a2, .int a3, .int a4, .null] [.int v1] M2 _
  refine vm_WM.seq 5 3 (pc' := 13) (L' := [.ref 7, .int a1, .int a2, .int a3, .int a4, .int v1]) (S' := [.int (Int32.ofInt (-1000000)), .int v1]) (M' := M2) rfl ?_
  refine vm_WM.if (c := v1 = (Int32.ofInt (-1000000))) (t1 := 33) (t2 := 16) (S' := []) 8 rfl rfl rfl (fun hc => ?_) (fun hc => ?_)
  · replace h := h.1 hc
    refine vm_WM.seq 17 1 (pc' := 35) (L' := [.ref 7, .int a1, .int a2, .int a3, .int a4, .int v1]) (S' := [.int (Int32.ofInt (-1000000))]) (M' := M2) rfl ?_
    exact vm_WM.ret (r := some (.int (Int32.ofInt (-1000000)))) 18 rfl rfl rfl ⟨_, rfl, h⟩
  · replace h := h.2 hc
    refine vm_WM.seq 9 4 (pc' := 22) (L' := [.ref 7, .int a1, .int a2, .int a3, .int a4, .int v1]) (S' := [.int a4, .int v1, .int a2, .ref 7]) (M' := M2) rfl ?_
    refine vm_WM.call (a := 44) (as := [.ref 7, .int a2, .int v1, .int a4]) (rest := []) (L0 := [.ref 7, .int a2, .int v1, .int a4]) 13 rfl rfl (by decide) rfl rfl ⟨rfl, Or.inr rfl, Nat.le_of_ble_eq_true rfl, Nat.le_of_ble_eq_true rfl⟩ rfl rfl rfl ?_
    refine vm_WM.theni h (fun v3 M4 h => ?_)
    show vm_WM X 46 25 [.ref 7, .int a1, .int a2, .int a3, .int a4, .int v1] [.int v3] M4 _
    refine vm_WM.if (c := v3 = 0) (t1 := 33) (t2 := 28) (S' := []) 14 rfl rfl rfl (fun hc => ?_) (fun hc => ?_)
    · replace h := h.1 hc
      refine vm_WM.seq 17 1 (pc' := 35) (L' := [.ref 7, .int a1, .int a2, .int a3, .int a4, .int v1]) (S' := [.int (Int32.ofInt (-1000000))]) (M' := M4) rfl ?_
      exact vm_WM.ret (r := some (.int (Int32.ofInt (-1000000)))) 18 rfl rfl rfl ⟨_, rfl, h⟩
    · replace h := h.2 hc
      refine vm_WM.seq 15 2 (pc' := 35) (L' := [.ref 7, .int a1, .int a2, .int a3, .int a4, .int v1]) (S' := [.int v1]) (M' := M4) rfl ?_
      exact vm_WM.ret (r := some (.int v1)) 18 rfl rfl rfl ⟨_, rfl, h⟩
theorem v_Acts_passTo {X : Nat × (Nat → Int32)} {a1 : Int32} {a2 : Int32} {M : vm_M} {P : vm_M → Prop} (h : E_Hill_price_7 X a1 M (fun v1 M2 => E_Acts_keep X a1 v1 M2 (fun M3 => E_Acts_pay X a1 (M3 7 5) v1 M3 (fun M4 => P  (vm_u2 (vm_u2 M4 7 5 a1) 7 4 a2))))) : E_Acts_passTo X a1 a2 M P := by
  unfold E_Acts_passTo
  refine vm_WM.seq 0 3 (pc' := 5) (L' := [.ref 35, .int a1, .int a2, .null]) (S' := [.int a1, .ref 7]) (M' := M) rfl ?_
  refine vm_WM.call (a := 43) (as := [.ref 7, .int a1]) (rest := []) (L0 := [.ref 7, .int a1]) 3 rfl rfl (by decide) rfl rfl ⟨rfl, Or.inr rfl, Nat.le_of_ble_eq_true rfl, Nat.le_of_ble_eq_true rfl⟩ rfl rfl rfl ?_
  refine vm_WM.theni h (fun v1 M2 h => ?_)
  show vm_WM X 2 8 [.ref 35, .int a1, .int a2, .null] [.int v1] M2 _
  refine vm_WM.seq 4 4 (pc' := 12) (L' := [.ref 35, .int a1, .int a2, .int v1]) (S' := [.int v1, .int a1, .ref 35]) (M' := M2) rfl ?_
  refine vm_WM.call (a := 6) (as := [.ref 35, .int a1, .int v1]) (rest := []) (L0 := [.ref 35, .int a1, .int v1]) 8 rfl rfl (by decide) rfl rfl ⟨rfl, Or.inr rfl, Nat.le_of_ble_eq_true rfl, Nat.le_of_ble_eq_true rfl⟩ rfl rfl rfl ?_
  refine vm_WM.thenv h (fun M3 h => ?_)
  show vm_WM X 2 15 [.ref 35, .int a1, .int a2, .int v1] [] M3 _
  refine vm_WM.seq 9 6 (pc' := 25) (L' := [.ref 35, .int a1, .int a2, .int v1]) (S' := [.int v1, .int (M3 7 5), .int a1, .ref 35]) (M' := M3) rfl ?_
  refine vm_WM.call (a := 7) (as := [.ref 35, .int a1, .int (M3 7 5), .int v1]) (rest := []) (L0 := [.ref 35, .int a1, .int (M3 7 5), .int v1]) 15 rfl rfl (by decide) rfl rfl ⟨rfl, Or.inr rfl, Nat.le_of_ble_eq_true rfl, Nat.le_of_ble_eq_true rfl⟩ rfl rfl rfl ?_
  refine vm_WM.thenv h (fun M4 h => ?_)
  show vm_WM X 2 28 [.ref 35, .int a1, .int a2, .int v1] [] M4 _
  refine vm_WM.seq 16 8 (pc' := 44) (L' := [.ref 35, .int a1, .int a2, .int v1]) (S' := []) (M' := (vm_u2 (vm_u2 M4 7 5 a1) 7 4 a2)) rfl ?_
  exact vm_WM.ret (r := none) 24 rfl rfl rfl ⟨rfl, h⟩
theorem v_Acts_letPass {X : Nat × (Nat → Int32)} {a1 : Int32} {M : vm_M} {P : vm_M → Prop} (h : E_Acts_keep X (M 7 5) (nI 0) M (fun M1 => P  (vm_u2 M1 7 4 ((M1 7 4) + a1)))) : E_Acts_letPass X a1 M P := by
  unfold E_Acts_letPass
  refine vm_WM.seq 0 5 (pc' := 9) (L' := [.ref 35, .int a1]) (S' := [.int (nI 0), .int (M 7 5), .ref 35]) (M' := M) rfl ?_
  refine vm_WM.call (a := 6) (as := [.ref 35, .int (M 7 5), .int (nI 0)]) (rest := []) (L0 := [.ref 35, .int (M 7 5), .int (nI 0)]) 5 rfl rfl (by decide) rfl rfl ⟨rfl, Or.inr rfl, Nat.le_of_ble_eq_true rfl, Nat.le_of_ble_eq_true rfl⟩ rfl rfl rfl ?_
  refine vm_WM.thenv h (fun M1 h => ?_)
  show vm_WM X 3 12 [.ref 35, .int a1] [] M1 _
  refine vm_WM.seq 6 7 (pc' := 25) (L' := [.ref 35, .int a1]) (S' := []) (M' := (vm_u2 M1 7 4 ((M1 7 4) + a1))) rfl ?_
  exact vm_WM.ret (r := none) 13 rfl rfl rfl ⟨rfl, h⟩
theorem v_Acts_moveDawn {X : Nat × (Nat → Int32)} {a1 : Int32} {M : vm_M} {P : vm_M → Prop} (h : E_Acts_keep X (M 7 5) (nI 0) M (fun M1 => P  (vm_u2 M1 7 2 a1))) : E_Acts_moveDawn X a1 M P := by
  unfold E_Acts_moveDawn
  refine vm_WM.seq 0 5 (pc' := 9) (L' := [.ref 35, .int a1]) (S' := [.int (nI 0), .int (M 7 5), .ref 35]) (M' := M) rfl ?_
  refine vm_WM.call (a := 6) (as := [.ref 35, .int (M 7 5), .int (nI 0)]) (rest := []) (L0 := [.ref 35, .int (M 7 5), .int (nI 0)]) 5 rfl rfl (by decide) rfl rfl ⟨rfl, Or.inr rfl, Nat.le_of_ble_eq_true rfl, Nat.le_of_ble_eq_true rfl⟩ rfl rfl rfl ?_
  refine vm_WM.thenv h (fun M1 h => ?_)
  show vm_WM X 4 12 [.ref 35, .int a1] [] M1 _
  refine vm_WM.seq 6 4 (pc' := 20) (L' := [.ref 35, .int a1]) (S' := []) (M' := (vm_u2 M1 7 2 a1)) rfl ?_
  exact vm_WM.ret (r := none) 10 rfl rfl rfl ⟨rfl, h⟩
theorem v_Acts_takeBack {X : Nat × (Nat → Int32)}  {M : vm_M} {P : Int32 → vm_M → Prop} (h : ((M 35 1) = 0 → (P (nI 0) M)) ∧ (¬ ((M 35 1) = 0) → ((0 < ((vm_u2 M 35 1 ((M 35 1) - (nI 1))) 35 2) → (∃ j1 : Nat, ((vm_u2 (vm_u2 M 35 1 ((M 35 1) - (nI 1))) 35 2 (((vm_u2 M 35 1 ((M 35 1) - (nI 1))) 35 2) - (nI 1))) 35 2) = nI j1 ∧ j1 < 24 ∧ (∃ j2 : Nat, ((vm_u2 (vm_u2 M 35 1 ((M 35 1) - (nI 1))) 35 2 (((vm_u2 M 35 1 ((M 35 1) - (nI 1))) 35 2) - (nI 1))) 35 2) = nI j2 ∧ j2 < 24 ∧ (∃ j3 : Nat, ((vm_u2 (vm_u2 M 35 1 ((M 35 1) - (nI 1))) 35 2 (((vm_u2 M 35 1 ((M 35 1) - (nI 1))) 35 2) - (nI 1))) 35 2) = nI j3 ∧ j3 < 24 ∧ (E_Acts_pay X ((vm_u2 (vm_u2 M 35 1 ((M 35 1) - (nI 1))) 35 2 (((vm_u2 M 35 1 ((M 35 1) - (nI 1))) 35 2) - (nI 1))) 38 j1) ((vm_u2 (vm_u2 M 35 1 ((M 35 1) - (nI 1))) 35 2 (((vm_u2 M 35 1 ((M 35 1) - (nI 1))) 35 2) - (nI 1))) 39 j2) ((vm_u2 (vm_u2 M 35 1 ((M 35 1) - (nI 1))) 35 2 (((vm_u2 M 35 1 ((M 35 1) - (nI 1))) 35 2) - (nI 1))) 40 j3) (vm_u2 (vm_u2 M 35 1 ((M 35 1) - (nI 1))) 35 2 (((vm_u2 M 35 1 ((M 35 1) - (nI 1))) 35 2) - (nI 1))) (fun M4 => ∃ j5 : Nat, (M4 35 2) = nI j5 ∧ j5 < 24 ∧ (∃ j6 : Nat, ((vm_u2 M4 7 4 (M4 36 j5)) 35 2) = nI j6 ∧ j6 < 24 ∧ (∃ j7 : Nat, ((vm_u2 (vm_u2 M4 7 4 (M4 36 j5)) 7 2 ((vm_u2 M4 7 4 (M4 36 j5)) 37 j6)) 35 2) = nI j7 ∧ j7 < 24 ∧ (P (nI 1) (vm_u2 (vm_u2 (vm_u2 M4 7 4 (M4 36 j5)) 7 2 ((vm_u2 M4 7 4 (M4 36 j5)) 37 j6)) 7 5 ((vm_u2 (vm_u2 M4 7 4 (M4 36 j5)) 7 2 ((vm_u2 M4 7 4 (M4 36 j5)) 37 j6)) 38 j7))))))))))) ∧ (¬ (0 < ((vm_u2 M 35 1 ((M 35 1) - (nI 1))) 35 2)) → (∃ j8 : Nat, ((vm_u2 (vm_u2 M 35 1 ((M 35 1) - (nI 1))) 35 2 (nI 23)) 35 2) = nI j8 ∧ j8 < 24 ∧ (∃ j9 : Nat, ((vm_u2 (vm_u2 M 35 1 ((M 35 1) - (nI 1))) 35 2 (nI 23)) 35 2) = nI j9 ∧ j9 < 24 ∧ (∃ j10 : Nat, ((vm_u2 (vm_u2 M 35 1 ((M 35 1) - (nI 1))) 35 2 (nI 23)) 35 2) = nI j10 ∧ j10 < 24 ∧ (E_Acts_pay X ((vm_u2 (vm_u2 M 35 1 ((M 35 1) - (nI 1))) 35 2 (nI 23)) 38 j8) ((vm_u2 (vm_u2 M 35 1 ((M 35 1) - (nI 1))) 35 2 (nI 23)) 39 j9) ((vm_u2 (vm_u2 M 35 1 ((M 35 1) - (nI 1))) 35 2 (nI 23)) 40 j10) (vm_u2 (vm_u2 M 35 1 ((M 35 1) - (nI 1))) 35 2 (nI 23)) (fun M11 => ∃ j12 : Nat, (M11 35 2) = nI j12 ∧ j12 < 24 ∧ (∃ j13 : Nat, ((vm_u2 M11 7 4 (M11 36 j12)) 35 2) = nI j13 ∧ j13 < 24 ∧ (∃ j14 : Nat, ((vm_u2 (vm_u2 M11 7 4 (M11 36 j12)) 7 2 ((vm_u2 M11 7 4 (M11 36 j12)) 37 j13)) 35 2) = nI j14 ∧ j14 < 24 ∧ (P (nI 1) (vm_u2 (vm_u2 (vm_u2 M11 7 4 (M11 36 j12)) 7 2 ((vm_u2 M11 7 4 (M11 36 j12)) 37 j13)) 7 5 ((vm_u2 (vm_u2 M11 7 4 (M11 36 j12)) 7 2 ((vm_u2 M11 7 4 (M11 36 j12)) 37 j13)) 38 j14)))))))))))))) : E_Acts_takeBack X  M P := by
  unfold E_Acts_takeBack
  refine vm_WM.seq 0 2 (pc' := 4) (L' := [.ref 35]) (S' := [.int (M 35 1)]) (M' := M) rfl ?_
  refine vm_WM.if (c := (M 35 1) = 0) (t1 := 7) (t2 := 9) (S' := []) 2 rfl rfl rfl (fun hc => ?_) (fun hc => ?_)
  · replace h := h.1 hc
    refine vm_WM.seq 3 1 (pc' := 8) (L' := [.ref 35]) (S' := [.int (nI 0)]) (M' := M) rfl ?_
    exact vm_WM.ret (r := some (.int (nI 0))) 4 rfl rfl rfl ⟨_, rfl, h⟩
  · replace h := h.2 hc
    refine vm_WM.seq 5 9 (pc' := 24) (L' := [.ref 35]) (S' := [.int ((vm_u2 M 35 1 ((M 35 1) - (nI 1))) 35 2), .ref 35]) (M' := (vm_u2 M 35 1 ((M 35 1) - (nI 1)))) rfl ?_
    refine vm_WM.if (c := 0 < ((vm_u2 M 35 1 ((M 35 1) - (nI 1))) 35 2)) (t1 := 27) (t2 := 36) (S' := [.ref 35]) 14 rfl rfl rfl (fun hc => ?_) (fun hc => ?_)
    · replace h := h.1 hc
      refine vm_WM.seq 15 5 (pc' := 38) (L' := [.ref 35]) (S' := [.int (((vm_u2 M 35 1 ((M 35 1) - (nI 1))) 35 2) - (nI 1)), .ref 35]) (M' := (vm_u2 M 35 1 ((M 35 1) - (nI 1)))) rfl ?_
      refine vm_WM.seq 21 6 (pc' := 50) (L' := [.ref 35]) (S' := [.int ((vm_u2 (vm_u2 M 35 1 ((M 35 1) - (nI 1))) 35 2 (((vm_u2 M 35 1 ((M 35 1) - (nI 1))) 35 2) - (nI 1))) 35 2), .ref 38, .ref 35]) (M' := (vm_u2 (vm_u2 M 35 1 ((M 35 1) - (nI 1))) 35 2 (((vm_u2 M 35 1 ((M 35 1) - (nI 1))) 35 2) - (nI 1)))) rfl ?_
      obtain ⟨j1, hj1, hj2, h⟩ := h
      refine vm_WM.ald (n := 24) (jj := j1) 27 rfl (Or.inl ⟨rfl, rfl⟩) (by decide) rfl hj1 hj2 ?_
      refine vm_WM.seq 28 4 (pc' := 59) (L' := [.ref 35]) (S' := [.int ((vm_u2 (vm_u2 M 35 1 ((M 35 1) - (nI 1))) 35 2 (((vm_u2 M 35 1 ((M 35 1) - (nI 1))) 35 2) - (nI 1))) 35 2), .ref 39, .int ((vm_u2 (vm_u2 M 35 1 ((M 35 1) - (nI 1))) 35 2 (((vm_u2 M 35 1 ((M 35 1) - (nI 1))) 35 2) - (nI 1))) 38 j1), .ref 35]) (M' := (vm_u2 (vm_u2 M 35 1 ((M 35 1) - (nI 1))) 35 2 (((vm_u2 M 35 1 ((M 35 1) - (nI 1))) 35 2) - (nI 1)))) rfl ?_
      obtain ⟨j2, hj1, hj2, h⟩ := h
      refine vm_WM.ald (n := 24) (jj := j2) 32 rfl (Or.inl ⟨rfl, rfl⟩) (by decide) rfl hj1 hj2 ?_
      refine vm_WM.seq 33 4 (pc' := 68) (L' := [.ref 35]) (S' := [.int ((vm_u2 (vm_u2 M 35 1 ((M 35 1) - (nI 1))) 35 2 (((vm_u2 M 35 1 ((M 35 1) - (nI 1))) 35 2) - (nI 1))) 35 2), .ref 40, .int ((vm_u2 (vm_u2 M 35 1 ((M 35 1) - (nI 1))) 35 2 (((vm_u2 M 35 1 ((M 35 1) - (nI 1))) 35 2) - (nI 1))) 39 j2), .int ((vm_u2 (vm_u2 M 35 1 ((M 35 1) - (nI 1))) 35 2 (((vm_u2 M 35 1 ((M 35 1) - (nI 1))) 35 2) - (nI 1))) 38 j1), .ref 35]) (M' := (vm_u2 (vm_u2 M 35 1 ((M 35 1) - (nI 1))) 35 2 (((vm_u2 M 35 1 ((M 35 1) - (nI 1))) 35 2) - (nI 1)))) rfl ?_
      obtain ⟨j3, hj1, hj2, h⟩ := h
      refine vm_WM.ald (n := 24) (jj := j3) 37 rfl (Or.inl ⟨rfl, rfl⟩) (by decide) rfl hj1 hj2 ?_
      refine vm_WM.call (a := 7) (as := [.ref 35, .int ((vm_u2 (vm_u2 M 35 1 ((M 35 1) - (nI 1))) 35 2 (((vm_u2 M 35 1 ((M 35 1) - (nI 1))) 35 2) - (nI 1))) 38 j1), .int ((vm_u2 (vm_u2 M 35 1 ((M 35 1) - (nI 1))) 35 2 (((vm_u2 M 35 1 ((M 35 1) - (nI 1))) 35 2) - (nI 1))) 39 j2), .int ((vm_u2 (vm_u2 M 35 1 ((M 35 1) - (nI 1))) 35 2 (((vm_u2 M 35 1 ((M 35 1) - (nI 1))) 35 2) - (nI 1))) 40 j3)]) (rest := []) (L0 := [.ref 35, .int ((vm_u2 (vm_u2 M 35 1 ((M 35 1) - (nI 1))) 35 2 (((vm_u2 M 35 1 ((M 35 1) - (nI 1))) 35 2) - (nI 1))) 38 j1), .int ((vm_u2 (vm_u2 M 35 1 ((M 35 1) - (nI 1))) 35 2 (((vm_u2 M 35 1 ((M 35 1) - (nI 1))) 35 2) - (nI 1))) 39 j2), .int ((vm_u2 (vm_u2 M 35 1 ((M 35 1) - (nI 1))) 35 2 (((vm_u2 M 35 1 ((M 35 1) - (nI 1))) 35 2) - (nI 1))) 40 j3)]) 38 rfl rfl (by decide) rfl rfl ⟨rfl, Or.inr rfl, Nat.le_of_ble_eq_true rfl, Nat.le_of_ble_eq_true rfl⟩ rfl rfl rfl ?_
      refine vm_WM.thenv h (fun M4 h => ?_)
      show vm_WM X 5 72 [.ref 35] [] M4 _
      refine vm_WM.seq 39 6 (pc' := 84) (L' := [.ref 35]) (S' := [.int (M4 35 2), .ref 36, .ref 7]) (M' := M4) rfl ?_
      obtain ⟨j5, hj1, hj2, h⟩ := h
      refine vm_WM.ald (n := 24) (jj := j5) 45 rfl (Or.inl ⟨rfl, rfl⟩) (by decide) rfl hj1 hj2 ?_
      refine vm_WM.seq 46 7 (pc' := 100) (L' := [.ref 35]) (S' := [.int ((vm_u2 M4 7 4 (M4 36 j5)) 35 2), .ref 37, .ref 7]) (M' := (vm_u2 M4 7 4 (M4 36 j5))) rfl ?_
      obtain ⟨j6, hj1, hj2, h⟩ := h
      refine vm_WM.ald (n := 24) (jj := j6) 53 rfl (Or.inl ⟨rfl, rfl⟩) (by decide) rfl hj1 hj2 ?_
      refine vm_WM.seq 54 7 (pc' := 116) (L' := [.ref 35]) (S' := [.int ((vm_u2 (vm_u2 M4 7 4 (M4 36 j5)) 7 2 ((vm_u2 M4 7 4 (M4 36 j5)) 37 j6)) 35 2), .ref 38, .ref 7]) (M' := (vm_u2 (vm_u2 M4 7 4 (M4 36 j5)) 7 2 ((vm_u2 M4 7 4 (M4 36 j5)) 37 j6))) rfl ?_
      obtain ⟨j7, hj1, hj2, h⟩ := h
      refine vm_WM.ald (n := 24) (jj := j7) 61 rfl (Or.inl ⟨rfl, rfl⟩) (by decide) rfl hj1 hj2 ?_
      refine vm_WM.seq 62 2 (pc' := 121) (L' := [.ref 35]) (S' := [.int (nI 1)]) (M' := (vm_u2 (vm_u2 (vm_u2 M4 7 4 (M4 36 j5)) 7 2 ((vm_u2 M4 7 4 (M4 36 j5)) 37 j6)) 7 5 ((vm_u2 (vm_u2 M4 7 4 (M4 36 j5)) 7 2 ((vm_u2 M4 7 4 (M4 36 j5)) 37 j6)) 38 j7))) rfl ?_
      exact vm_WM.ret (r := some (.int (nI 1))) 64 rfl rfl rfl ⟨_, rfl, h⟩
    · replace h := h.2 hc
      refine vm_WM.seq 20 7 (pc' := 50) (L' := [.ref 35]) (S' := [.int ((vm_u2 (vm_u2 M 35 1 ((M 35 1) - (nI 1))) 35 2 (nI 23)) 35 2), .ref 38, .ref 35]) (M' := (vm_u2 (vm_u2 M 35 1 ((M 35 1) - (nI 1))) 35 2 (nI 23))) rfl ?_
      obtain ⟨j8, hj1, hj2, h⟩ := h
      refine vm_WM.ald (n := 24) (jj := j8) 27 rfl (Or.inl ⟨rfl, rfl⟩) (by decide) rfl hj1 hj2 ?_
      refine vm_WM.seq 28 4 (pc' := 59) (L' := [.ref 35]) (S' := [.int ((vm_u2 (vm_u2 M 35 1 ((M 35 1) - (nI 1))) 35 2 (nI 23)) 35 2), .ref 39, .int ((vm_u2 (vm_u2 M 35 1 ((M 35 1) - (nI 1))) 35 2 (nI 23)) 38 j8), .ref 35]) (M' := (vm_u2 (vm_u2 M 35 1 ((M 35 1) - (nI 1))) 35 2 (nI 23))) rfl ?_
      obtain ⟨j9, hj1, hj2, h⟩ := h
      refine vm_WM.ald (n := 24) (jj := j9) 32 rfl (Or.inl ⟨rfl, rfl⟩) (by decide) rfl hj1 hj2 ?_
      refine vm_WM.seq 33 4 (pc' := 68) (L' := [.ref 35]) (S' := [.int ((vm_u2 (vm_u2 M 35 1 ((M 35 1) - (nI 1))) 35 2 (nI 23)) 35 2), .ref 40, .int ((vm_u2 (vm_u2 M 35 1 ((M 35 1) - (nI 1))) 35 2 (nI 23)) 39 j9), .int ((vm_u2 (vm_u2 M 35 1 ((M 35 1) - (nI 1))) 35 2 (nI 23)) 38 j8), .ref 35]) (M' := (vm_u2 (vm_u2 M 35 1 ((M 35 1) - (nI 1))) 35 2 (nI 23))) rfl ?_
      obtain ⟨j10, hj1, hj2, h⟩ := h
      refine vm_WM.ald (n := 24) (jj := j10) 37 rfl (Or.inl ⟨rfl, rfl⟩) (by decide) rfl hj1 hj2 ?_
      refine vm_WM.call (a := 7) (as := [.ref 35, .int ((vm_u2 (vm_u2 M 35 1 ((M 35 1) - (nI 1))) 35 2 (nI 23)) 38 j8), .int ((vm_u2 (vm_u2 M 35 1 ((M 35 1) - (nI 1))) 35 2 (nI 23)) 39 j9), .int ((vm_u2 (vm_u2 M 35 1 ((M 35 1) - (nI 1))) 35 2 (nI 23)) 40 j10)]) (rest := []) (L0 := [.ref 35, .int ((vm_u2 (vm_u2 M 35 1 ((M 35 1) - (nI 1))) 35 2 (nI 23)) 38 j8), .int ((vm_u2 (vm_u2 M 35 1 ((M 35 1) - (nI 1))) 35 2 (nI 23)) 39 j9), .int ((vm_u2 (vm_u2 M 35 1 ((M 35 1) - (nI 1))) 35 2 (nI 23)) 40 j10)]) 38 rfl rfl (by decide) rfl rfl ⟨rfl, Or.inr rfl, Nat.le_of_ble_eq_true rfl, Nat.le_of_ble_eq_true rfl⟩ rfl rfl rfl ?_
      refine vm_WM.thenv h (fun M11 h => ?_)
      show vm_WM X 5 72 [.ref 35] [] M11 _
      refine vm_WM.seq 39 6 (pc' := 84) (L' := [.ref 35]) (S' := [.int (M11 35 2), .ref 36, .ref 7]) (M' := M11) rfl ?_
      obtain ⟨j12, hj1, hj2, h⟩ := h
      refine vm_WM.ald (n := 24) (jj := j12) 45 rfl (Or.inl ⟨rfl, rfl⟩) (by decide) rfl hj1 hj2 ?_
      refine vm_WM.seq 46 7 (pc' := 100) (L' := [.ref 35]) (S' := [.int ((vm_u2 M11 7 4 (M11 36 j12)) 35 2), .ref 37, .ref 7]) (M' := (vm_u2 M11 7 4 (M11 36 j12))) rfl ?_
      obtain ⟨j13, hj1, hj2, h⟩ := h
      refine vm_WM.ald (n := 24) (jj := j13) 53 rfl (Or.inl ⟨rfl, rfl⟩) (by decide) rfl hj1 hj2 ?_
      refine vm_WM.seq 54 7 (pc' := 116) (L' := [.ref 35]) (S' := [.int ((vm_u2 (vm_u2 M11 7 4 (M11 36 j12)) 7 2 ((vm_u2 M11 7 4 (M11 36 j12)) 37 j13)) 35 2), .ref 38, .ref 7]) (M' := (vm_u2 (vm_u2 M11 7 4 (M11 36 j12)) 7 2 ((vm_u2 M11 7 4 (M11 36 j12)) 37 j13))) rfl ?_
      obtain ⟨j14, hj1, hj2, h⟩ := h
      refine vm_WM.ald (n := 24) (jj := j14) 61 rfl (Or.inl ⟨rfl, rfl⟩) (by decide) rfl hj1 hj2 ?_
      refine vm_WM.seq 62 2 (pc' := 121) (L' := [.ref 35]) (S' := [.int (nI 1)]) (M' := (vm_u2 (vm_u2 (vm_u2 M11 7 4 (M11 36 j12)) 7 2 ((vm_u2 M11 7 4 (M11 36 j12)) 37 j13)) 7 5 ((vm_u2 (vm_u2 M11 7 4 (M11 36 j12)) 7 2 ((vm_u2 M11 7 4 (M11 36 j12)) 37 j13)) 38 j14))) rfl ?_
      exact vm_WM.ret (r := some (.int (nI 1))) 64 rfl rfl rfl ⟨_, rfl, h⟩
theorem v_Hill_price_7 {X : Nat × (Nat → Int32)} {a1 : Int32} {M : vm_M} {P : Int32 → vm_M → Prop} (h : ∃ j1 : Nat, a1 = nI j1 ∧ j1 < 6 ∧ (((M 8 j1) = (nI 2) → (∃ j2 : Nat, a1 = nI j2 ∧ j2 < 6 ∧ (P ((M 9 j2) / (nI 2)) M))) ∧ (¬ ((M 8 j1) = (nI 2)) → (∃ j3 : Nat, a1 = nI j3 ∧ j3 < 6 ∧ (P (M 9 j3) M))))) : E_Hill_price_7 X a1 M P := by
  unfold E_Hill_price_7
  refine vm_WM.seq 0 3 (pc' := 5) (L' := [.ref 7, .int a1]) (S' := [.int a1, .ref 8]) (M' := M) rfl ?_
  obtain ⟨j1, hj1, hj2, h⟩ := h
  refine vm_WM.ald (n := 6) (jj := j1) 3 rfl (Or.inl ⟨rfl, rfl⟩) (by decide) rfl hj1 hj2 ?_
  refine vm_WM.seq 4 1 (pc' := 7) (L' := [.ref 7, .int a1]) (S' := [.int (nI 2), .int (M 8 j1)]) (M' := M) rfl ?_
  refine vm_WM.if (c := (M 8 j1) = (nI 2)) (t1 := 10) (t2 := 21) (S' := []) 5 rfl rfl rfl (fun hc => ?_) (fun hc => ?_)
  · replace h := h.1 hc
    refine vm_WM.seq 6 3 (pc' := 15) (L' := [.ref 7, .int a1]) (S' := [.int a1, .ref 9]) (M' := M) rfl ?_
    obtain ⟨j2, hj1, hj2, h⟩ := h
    refine vm_WM.ald (n := 6) (jj := j2) 9 rfl (Or.inl ⟨rfl, rfl⟩) (by decide) rfl hj1 hj2 ?_
    refine vm_WM.seq 10 3 (pc' := 27) (L' := [.ref 7, .int a1]) (S' := [.int ((M 9 j2) / (nI 2))]) (M' := M) rfl ?_
    exact vm_WM.ret (r := some (.int ((M 9 j2) / (nI 2)))) 17 rfl rfl rfl ⟨_, rfl, h⟩
  · replace h := h.2 hc
    refine vm_WM.seq 13 3 (pc' := 26) (L' := [.ref 7, .int a1]) (S' := [.int a1, .ref 9]) (M' := M) rfl ?_
    obtain ⟨j3, hj1, hj2, h⟩ := h
    refine vm_WM.ald (n := 6) (jj := j3) 16 rfl (Or.inl ⟨rfl, rfl⟩) (by decide) rfl hj1 hj2 ?_
    exact vm_WM.ret (r := some (.int (M 9 j3))) 17 rfl rfl rfl ⟨_, rfl, h⟩
theorem v_Hill_accepts_7 {X : Nat × (Nat → Int32)} {a1 : Int32} {a2 : Int32} {a3 : Int32} {M : vm_M} {P : Int32 → vm_M → Prop} (h : (a2 < a3 → (∃ j1 : Nat, a1 = nI j1 ∧ j1 < 6 ∧ ((((M 8 j1)).toInt < 1 ∨ 5 < ((M 8 j1)).toInt → (P (nI 1) M)) ∧ (((M 8 j1) = (nI 1) → (∃ j2 : Nat, a1 = nI j2 ∧ j2 < 6 ∧ (((M 10 j2) < a2 → (P (nI 0) M)) ∧ (¬ ((M 10 j2) < a2) → (P (nI 1) M))))) ∧ ((M 8 j1) = (nI 2) → (∃ j3 : Nat, a1 = nI j3 ∧ j3 < 6 ∧ ((((M 10 j3) + (nI 5)) < a2 → (P (nI 0) M)) ∧ (¬ (((M 10 j3) + (nI 5)) < a2) → (P (nI 1) M))))) ∧ ((M 8 j1) = (nI 3) → (∃ j4 : Nat, a1 = nI j4 ∧ j4 < 6 ∧ (((M 10 j4) < a2 → (P (nI 0) M)) ∧ (¬ ((M 10 j4) < a2) → (((a3 - a2) < (nI 10) → (P (nI 0) M)) ∧ (¬ ((a3 - a2) < (nI 10)) → (P (nI 1) M))))))) ∧ ((M 8 j1) = (nI 4) → (P (nI 1) M)) ∧ ((M 8 j1) = (nI 5) → (((a2 - a2 / (nI 2) * (nI 2)) = 0 → (P (nI 1) M)) ∧ (¬ ((a2 - a2 / (nI 2) * (nI 2)) = 0) → (P (nI 0) M)))))))) ∧ (¬ (a2 < a3) → (P (nI 0) M))) : E_Hill_accepts_7 X a1 a2 a3 M P := by
  unfold E_Hill_accepts_7
  refine vm_WM.seq 0 2 (pc' := 2) (L' := [.ref 7, .int a1, .int a2, .int a3]) (S' := [.int a3, .int a2]) (M' := M) rfl ?_
  refine vm_WM.if (c := a2 < a3) (t1 := 7) (t2 := 5) (S' := []) 2 rfl rfl rfl (fun hc => ?_) (fun hc => ?_)
  · replace h := h.1 hc
    refine vm_WM.seq 5 3 (pc' := 12) (L' := [.ref 7, .int a1, .int a2, .int a3]) (S' := [.int a1, .ref 8]) (M' := M) rfl ?_
    obtain ⟨j1, hj1, hj2, h⟩ := h
    refine vm_WM.ald (n := 6) (jj := j1) 8 rfl (Or.inl ⟨rfl, rfl⟩) (by decide) rfl hj1 hj2 ?_
    by_cases hlo : ((M 8 j1)).toInt < 1 ∨ 5 < ((M 8 j1)).toInt
    · replace h := h.1 hlo
      refine vm_WM.tso (t := 118) 9 rfl hlo rfl ?_
      refine vm_WM.seq 55 1 (pc' := 119) (L' := [.ref 7, .int a1, .int a2, .int a3]) (S' := [.int (nI 1)]) (M' := M) rfl ?_
      exact vm_WM.ret (r := some (.int (nI 1))) 56 rfl rfl rfl ⟨_, rfl, h⟩
    · replace h := h.2
      by_cases hq0 : (M 8 j1) = (nI 1)
      · replace h := h.1 hq0
        refine vm_WM.tsi (t := 48) (v := 1) 9 rfl hq0 (by decide) rfl ?_
        refine vm_WM.seq 10 4 (pc' := 54) (L' := [.ref 7, .int a1, .int a2, .int a3]) (S' := [.int a1, .ref 10, .int a2]) (M' := M) rfl ?_
        obtain ⟨j2, hj1, hj2, h⟩ := h
        refine vm_WM.ald (n := 6) (jj := j2) 14 rfl (Or.inl ⟨rfl, rfl⟩) (by decide) rfl hj1 hj2 ?_
        refine vm_WM.if (c := (M 10 j2) < a2) (t1 := 62) (t2 := 58) (S' := []) 15 rfl rfl rfl (fun hc => ?_) (fun hc => ?_)
        · replace h := h.1 hc
          refine vm_WM.seq 18 1 (pc' := 63) (L' := [.ref 7, .int a1, .int a2, .int a3]) (S' := [.int (nI 0)]) (M' := M) rfl ?_
          exact vm_WM.ret (r := some (.int (nI 0))) 19 rfl rfl rfl ⟨_, rfl, h⟩
        · replace h := h.2 hc
          refine vm_WM.seq 16 2 (pc' := 63) (L' := [.ref 7, .int a1, .int a2, .int a3]) (S' := [.int (nI 1)]) (M' := M) rfl ?_
          exact vm_WM.ret (r := some (.int (nI 1))) 19 rfl rfl rfl ⟨_, rfl, h⟩
      by_cases hq1 : (M 8 j1) = (nI 2)
      · replace h := h.2.1 hq1
        refine vm_WM.tsi (t := 64) (v := 2) 9 rfl hq1 (by decide) rfl ?_
        refine vm_WM.seq 20 4 (pc' := 70) (L' := [.ref 7, .int a1, .int a2, .int a3]) (S' := [.int a1, .ref 10, .int a2]) (M' := M) rfl ?_
        obtain ⟨j3, hj1, hj2, h⟩ := h
        refine vm_WM.ald (n := 6) (jj := j3) 24 rfl (Or.inl ⟨rfl, rfl⟩) (by decide) rfl hj1 hj2 ?_
        refine vm_WM.seq 25 2 (pc' := 73) (L' := [.ref 7, .int a1, .int a2, .int a3]) (S' := [.int ((M 10 j3) + (nI 5)), .int a2]) (M' := M) rfl ?_
        refine vm_WM.if (c := ((M 10 j3) + (nI 5)) < a2) (t1 := 80) (t2 := 76) (S' := []) 27 rfl rfl rfl (fun hc => ?_) (fun hc => ?_)
        · replace h := h.1 hc
          refine vm_WM.seq 30 1 (pc' := 81) (L' := [.ref 7, .int a1, .int a2, .int a3]) (S' := [.int (nI 0)]) (M' := M) rfl ?_
          exact vm_WM.ret (r := some (.int (nI 0))) 31 rfl rfl rfl ⟨_, rfl, h⟩
        · replace h := h.2 hc
          refine vm_WM.seq 28 2 (pc' := 81) (L' := [.ref 7, .int a1, .int a2, .int a3]) (S' := [.int (nI 1)]) (M' := M) rfl ?_
          exact vm_WM.ret (r := some (.int (nI 1))) 31 rfl rfl rfl ⟨_, rfl, h⟩
      by_cases hq2 : (M 8 j1) = (nI 3)
      · replace h := h.2.2.1 hq2
        refine vm_WM.tsi (t := 82) (v := 3) 9 rfl hq2 (by decide) rfl ?_
        refine vm_WM.seq 32 4 (pc' := 88) (L' := [.ref 7, .int a1, .int a2, .int a3]) (S' := [.int a1, .ref 10, .int a2]) (M' := M) rfl ?_
        obtain ⟨j4, hj1, hj2, h⟩ := h
        refine vm_WM.ald (n := 6) (jj := j4) 36 rfl (Or.inl ⟨rfl, rfl⟩) (by decide) rfl hj1 hj2 ?_
        refine vm_WM.if (c := (M 10 j4) < a2) (t1 := 104) (t2 := 92) (S' := []) 37 rfl rfl rfl (fun hc => ?_) (fun hc => ?_)
        · replace h := h.1 hc
          refine vm_WM.seq 45 1 (pc' := 105) (L' := [.ref 7, .int a1, .int a2, .int a3]) (S' := [.int (nI 0)]) (M' := M) rfl ?_
          exact vm_WM.ret (r := some (.int (nI 0))) 46 rfl rfl rfl ⟨_, rfl, h⟩
        · replace h := h.2 hc
          refine vm_WM.seq 38 4 (pc' := 97) (L' := [.ref 7, .int a1, .int a2, .int a3]) (S' := [.int (nI 10), .int (a3 - a2)]) (M' := M) rfl ?_
          refine vm_WM.if (c := (a3 - a2) < (nI 10)) (t1 := 104) (t2 := 100) (S' := []) 42 rfl rfl rfl (fun hc => ?_) (fun hc => ?_)
          · replace h := h.1 hc
            refine vm_WM.seq 45 1 (pc' := 105) (L' := [.ref 7, .int a1, .int a2, .int a3]) (S' := [.int (nI 0)]) (M' := M) rfl ?_
            exact vm_WM.ret (r := some (.int (nI 0))) 46 rfl rfl rfl ⟨_, rfl, h⟩
          · replace h := h.2 hc
            refine vm_WM.seq 43 2 (pc' := 105) (L' := [.ref 7, .int a1, .int a2, .int a3]) (S' := [.int (nI 1)]) (M' := M) rfl ?_
            exact vm_WM.ret (r := some (.int (nI 1))) 46 rfl rfl rfl ⟨_, rfl, h⟩
      by_cases hq3 : (M 8 j1) = (nI 4)
      · replace h := h.2.2.2.1 hq3
        refine vm_WM.tsi (t := 118) (v := 4) 9 rfl hq3 (by decide) rfl ?_
        refine vm_WM.seq 55 1 (pc' := 119) (L' := [.ref 7, .int a1, .int a2, .int a3]) (S' := [.int (nI 1)]) (M' := M) rfl ?_
        exact vm_WM.ret (r := some (.int (nI 1))) 56 rfl rfl rfl ⟨_, rfl, h⟩
      by_cases hq4 : (M 8 j1) = (nI 5)
      · replace h := h.2.2.2.2 hq4
        refine vm_WM.tsi (t := 106) (v := 5) 9 rfl hq4 (by decide) rfl ?_
        refine vm_WM.seq 47 3 (pc' := 109) (L' := [.ref 7, .int a1, .int a2, .int a3]) (S' := [.int (a2 - a2 / (nI 2) * (nI 2))]) (M' := M) rfl ?_
        refine vm_WM.if (c := (a2 - a2 / (nI 2) * (nI 2)) = 0) (t1 := 112) (t2 := 116) (S' := []) 50 rfl rfl rfl (fun hc => ?_) (fun hc => ?_)
        · replace h := h.1 hc
          refine vm_WM.seq 51 2 (pc' := 117) (L' := [.ref 7, .int a1, .int a2, .int a3]) (S' := [.int (nI 1)]) (M' := M) rfl ?_
          exact vm_WM.ret (r := some (.int (nI 1))) 54 rfl rfl rfl ⟨_, rfl, h⟩
        · replace h := h.2 hc
          refine vm_WM.seq 53 1 (pc' := 117) (L' := [.ref 7, .int a1, .int a2, .int a3]) (S' := [.int (nI 0)]) (M' := M) rfl ?_
          exact vm_WM.ret (r := some (.int (nI 0))) 54 rfl rfl rfl ⟨_, rfl, h⟩
      exact absurd (vm_sw_no (lo := 1) (n := 5) (by decide) (fun q hq => by
        match q, hq with
        | 0, _ => exact hq0
        | 1, _ => exact hq1
        | 2, _ => exact hq2
        | 3, _ => exact hq3
        | 4, _ => exact hq4
        | q + 5, hq => omega)) hlo
  · replace h := h.2 hc
    refine vm_WM.seq 3 1 (pc' := 6) (L' := [.ref 7, .int a1, .int a2, .int a3]) (S' := [.int (nI 0)]) (M' := M) rfl ?_
    exact vm_WM.ret (r := some (.int (nI 0))) 4 rfl rfl rfl ⟨_, rfl, h⟩
theorem v_Hill_arrival_7 {X : Nat × (Nat → Int32)} {a1 : Int32} {a2 : Int32} {a3 : Int32} {M : vm_M} {P : Int32 → vm_M → Prop} (h : ∃ j1 : Nat, ((a1 * (nI 6)) + a2) = nI j1 ∧ j1 < 36 ∧ (∃ j2 : Nat, ((a1 * (nI 6)) + a2) = nI j2 ∧ j2 < 36 ∧ ((0 < (M 13 j2) → (((M 7 3) < (a3 + (M 13 j2)) → ((0 < (M 12 j1) → (P (a3 + (M 12 j1)) M)) ∧ (¬ (0 < (M 12 j1)) → (P (Int32.ofInt (-1000000)) M)))) ∧ (¬ ((M 7 3) < (a3 + (M 13 j2))) → (((M 12 j1) = 0 → (P (a3 + (M 13 j2)) M)) ∧ (¬ ((M 12 j1) = 0) → (((M 13 j2) < (M 12 j1) → (P (a3 + (M 13 j2)) M)) ∧ (¬ ((M 13 j2) < (M 12 j1)) → ((0 < (M 12 j1) → (P (a3 + (M 12 j1)) M)) ∧ (¬ (0 < (M 12 j1)) → (P (Int32.ofInt (-1000000)) M)))))))))) ∧ (¬ (0 < (M 13 j2)) → ((0 < (M 12 j1) → (P (a3 + (M 12 j1)) M)) ∧ (¬ (0 < (M 12 j1)) → (P (Int32.ofInt (-1000000)) M))))))) : E_Hill_arrival_7 X a1 a2 a3 M P := by
  unfold E_Hill_arrival_7
  refine vm_WM.seq 0 7 (pc' := 10) (L' := [.ref 7, .int a1, .int a2, .int a3, .null, .null]) (S' := [.int ((a1 * (nI 6)) + a2), .ref 12]) (M' := M) rfl ?_
  obtain ⟨j1, hj1, hj2, h⟩ := h
  refine vm_WM.ald (n := 36) (jj := j1) 7 rfl (Or.inl ⟨rfl, rfl⟩) (by decide) rfl hj1 hj2 ?_
  refine vm_WM.seq 8 8 (pc' := 23) (L' := [.ref 7, .int a1, .int a2, .int a3, .int (M 12 j1), .null]) (S' := [.int ((a1 * (nI 6)) + a2), .ref 13]) (M' := M) rfl ?_
  obtain ⟨j2, hj1, hj2, h⟩ := h
  refine vm_WM.ald (n := 36) (jj := j2) 16 rfl (Or.inl ⟨rfl, rfl⟩) (by decide) rfl hj1 hj2 ?_
  refine vm_WM.seq 17 2 (pc' := 28) (L' := [.ref 7, .int a1, .int a2, .int a3, .int (M 12 j1), .int (M 13 j2)]) (S' := [.int (M 13 j2)]) (M' := M) rfl ?_
  refine vm_WM.if (c := 0 < (M 13 j2)) (t1 := 31) (t2 := 59) (S' := []) 19 rfl rfl rfl (fun hc => ?_) (fun hc => ?_)
  · replace h := h.1 hc
    refine vm_WM.seq 20 5 (pc' := 39) (L' := [.ref 7, .int a1, .int a2, .int a3, .int (M 12 j1), .int (M 13 j2)]) (S' := [.int (M 7 3), .int (a3 + (M 13 j2))]) (M' := M) rfl ?_
    refine vm_WM.if (c := (M 7 3) < (a3 + (M 13 j2))) (t1 := 59) (t2 := 42) (S' := []) 25 rfl rfl rfl (fun hc => ?_) (fun hc => ?_)
    · replace h := h.1 hc
      refine vm_WM.seq 35 1 (pc' := 61) (L' := [.ref 7, .int a1, .int a2, .int a3, .int (M 12 j1), .int (M 13 j2)]) (S' := [.int (M 12 j1)]) (M' := M) rfl ?_
      refine vm_WM.if (c := 0 < (M 12 j1)) (t1 := 64) (t2 := 71) (S' := []) 36 rfl rfl rfl (fun hc => ?_) (fun hc => ?_)
      · replace h := h.1 hc
        refine vm_WM.seq 37 4 (pc' := 73) (L' := [.ref 7, .int a1, .int a2, .int a3, .int (M 12 j1), .int (M 13 j2)]) (S' := [.int (a3 + (M 12 j1))]) (M' := M) rfl ?_
        exact vm_WM.ret (r := some (.int (a3 + (M 12 j1)))) 42 rfl rfl rfl ⟨_, rfl, h⟩
      · replace h := h.2 hc
        refine vm_WM.seq 41 1 (pc' := 73) (L' := [.ref 7, .int a1, .int a2, .int a3, .int (M 12 j1), .int (M 13 j2)]) (S' := [.int (Int32.ofInt (-1000000))]) (M' := M) rfl ?_
        exact vm_WM.ret (r := some (.int (Int32.ofInt (-1000000)))) 42 rfl rfl rfl ⟨_, rfl, h⟩
    · replace h := h.2 hc
      refine vm_WM.seq 26 1 (pc' := 44) (L' := [.ref 7, .int a1, .int a2, .int a3, .int (M 12 j1), .int (M 13 j2)]) (S' := [.int (M 12 j1)]) (M' := M) rfl ?_
      refine vm_WM.if (c := (M 12 j1) = 0) (t1 := 54) (t2 := 47) (S' := []) 27 rfl rfl rfl (fun hc => ?_) (fun hc => ?_)
      · replace h := h.1 hc
        refine vm_WM.seq 31 3 (pc' := 58) (L' := [.ref 7, .int a1, .int a2, .int a3, .int (M 12 j1), .int (M 13 j2)]) (S' := [.int (a3 + (M 13 j2))]) (M' := M) rfl ?_
        exact vm_WM.ret (r := some (.int (a3 + (M 13 j2)))) 34 rfl rfl rfl ⟨_, rfl, h⟩
      · replace h := h.2 hc
        refine vm_WM.seq 28 2 (pc' := 51) (L' := [.ref 7, .int a1, .int a2, .int a3, .int (M 12 j1), .int (M 13 j2)]) (S' := [.int (M 12 j1), .int (M 13 j2)]) (M' := M) rfl ?_
        refine vm_WM.if (c := (M 13 j2) < (M 12 j1)) (t1 := 54) (t2 := 59) (S' := []) 30 rfl rfl rfl (fun hc => ?_) (fun hc => ?_)
        · replace h := h.1 hc
          refine vm_WM.seq 31 3 (pc' := 58) (L' := [.ref 7, .int a1, .int a2, .int a3, .int (M 12 j1), .int (M 13 j2)]) (S' := [.int (a3 + (M 13 j2))]) (M' := M) rfl ?_
          exact vm_WM.ret (r := some (.int (a3 + (M 13 j2)))) 34 rfl rfl rfl ⟨_, rfl, h⟩
        · replace h := h.2 hc
          refine vm_WM.seq 35 1 (pc' := 61) (L' := [.ref 7, .int a1, .int a2, .int a3, .int (M 12 j1), .int (M 13 j2)]) (S' := [.int (M 12 j1)]) (M' := M) rfl ?_
          refine vm_WM.if (c := 0 < (M 12 j1)) (t1 := 64) (t2 := 71) (S' := []) 36 rfl rfl rfl (fun hc => ?_) (fun hc => ?_)
          · replace h := h.1 hc
            refine vm_WM.seq 37 4 (pc' := 73) (L' := [.ref 7, .int a1, .int a2, .int a3, .int (M 12 j1), .int (M 13 j2)]) (S' := [.int (a3 + (M 12 j1))]) (M' := M) rfl ?_
            exact vm_WM.ret (r := some (.int (a3 + (M 12 j1)))) 42 rfl rfl rfl ⟨_, rfl, h⟩
          · replace h := h.2 hc
            refine vm_WM.seq 41 1 (pc' := 73) (L' := [.ref 7, .int a1, .int a2, .int a3, .int (M 12 j1), .int (M 13 j2)]) (S' := [.int (Int32.ofInt (-1000000))]) (M' := M) rfl ?_
            exact vm_WM.ret (r := some (.int (Int32.ofInt (-1000000)))) 42 rfl rfl rfl ⟨_, rfl, h⟩
  · replace h := h.2 hc
    refine vm_WM.seq 35 1 (pc' := 61) (L' := [.ref 7, .int a1, .int a2, .int a3, .int (M 12 j1), .int (M 13 j2)]) (S' := [.int (M 12 j1)]) (M' := M) rfl ?_
    refine vm_WM.if (c := 0 < (M 12 j1)) (t1 := 64) (t2 := 71) (S' := []) 36 rfl rfl rfl (fun hc => ?_) (fun hc => ?_)
    · replace h := h.1 hc
      refine vm_WM.seq 37 4 (pc' := 73) (L' := [.ref 7, .int a1, .int a2, .int a3, .int (M 12 j1), .int (M 13 j2)]) (S' := [.int (a3 + (M 12 j1))]) (M' := M) rfl ?_
      exact vm_WM.ret (r := some (.int (a3 + (M 12 j1)))) 42 rfl rfl rfl ⟨_, rfl, h⟩
    · replace h := h.2 hc
      refine vm_WM.seq 41 1 (pc' := 73) (L' := [.ref 7, .int a1, .int a2, .int a3, .int (M 12 j1), .int (M 13 j2)]) (S' := [.int (Int32.ofInt (-1000000))]) (M' := M) rfl ?_
      exact vm_WM.ret (r := some (.int (Int32.ofInt (-1000000)))) 42 rfl rfl rfl ⟨_, rfl, h⟩
theorem v_Foretold_dearestFrom {X : Nat × (Nat → Int32)} {a1 : Int32} {a2 : Int32} {M : vm_M} {P : Int32 → vm_M → Prop} (h : C_Foretold_dearestFrom_5 X a1 a2 (nI 0) a2 (.null) M P) : E_Foretold_dearestFrom X a1 a2 M P := by
  unfold E_Foretold_dearestFrom
  refine vm_WM.seq 0 4 (pc' := 5) (L' := [.ref 41, .int a1, .int a2, .int (nI 0), .int a2, .null]) (S' := []) (M' := M) rfl ?_
  exact h
theorem v_Foretold_dearestFrom_5 {X : Nat × (Nat → Int32)} {x1 : Int32} {x2 : Int32} {x3 : Int32} {x4 : Int32} {w5 : Value} {M : vm_M} {P : Int32 → vm_M → Prop} (h : ((nI 60) < x4 → (P x3 M)) ∧ (¬ ((nI 60) < x4) → (E_Foretold_dearest X x1 x4 (M 7 2) M (fun v1 M2 => (v1 = (Int32.ofInt (-1000000)) → (C_Foretold_dearestFrom_5 X x1 x2 x3 (x4 + (nI 1)) (.int v1) M2 P)) ∧ (¬ (v1 = (Int32.ofInt (-1000000))) → (E_Hill_price_7 X v1 M2 (fun v3 M4 => C_Foretold_dearestFrom_5 X x1 x2 (if x3 < v3 then v3 else x3) (x4 + (nI 1)) (.int v1) M4 P))))))) : C_Foretold_dearestFrom_5 X x1 x2 x3 x4 w5 M P := by
  unfold C_Foretold_dearestFrom_5
  refine vm_WM.seq 4 2 (pc' := 9) (L' := [.ref 41, .int x1, .int x2, .int x3, .int x4, w5]) (S' := [.int (nI 60), .int x4]) (M' := M) rfl ?_
  refine vm_WM.if (c := (nI 60) < x4) (t1 := 59) (t2 := 12) (S' := []) 6 rfl rfl rfl (fun hc => ?_) (fun hc => ?_)
  · replace h := h.1 hc
    refine vm_WM.seq 29 1 (pc' := 60) (L' := [.ref 41, .int x1, .int x2, .int x3, .int x4, w5]) (S' := [.int x3]) (M' := M) rfl ?_
    exact vm_WM.ret (r := some (.int x3)) 30 rfl rfl rfl ⟨_, rfl, h⟩
  · replace h := h.2 hc
    refine vm_WM.seq 7 6 (pc' := 23) (L' := [.ref 41, .int x1, .int x2, .int x3, .int x4, w5]) (S' := [.int (M 7 2), .int x4, .int x1, .ref 41]) (M' := M) rfl ?_
    refine vm_WM.call (a := 25) (as := [.ref 41, .int x1, .int x4, .int (M 7 2)]) (rest := []) (L0 := [.ref 41, .int x1, .int x4, .int (M 7 2), .null, .null, .null]) 13 rfl rfl (by decide) rfl rfl ⟨rfl, Or.inr rfl, Nat.le_of_ble_eq_true rfl, Nat.le_of_ble_eq_true rfl⟩ rfl rfl rfl ?_
    refine vm_WM.theni h (fun v1 M2 h => ?_)
    show vm_WM X 18 26 [.ref 41, .int x1, .int x2, .int x3, .int x4, w5] [.int v1] M2 _
    refine vm_WM.seq 14 3 (pc' := 32) (L' := [.ref 41, .int x1, .int x2, .int x3, .int x4, .int v1]) (S' := [.int (Int32.ofInt (-1000000)), .int v1]) (M' := M2) rfl ?_
    refine vm_WM.if (c := v1 = (Int32.ofInt (-1000000))) (t1 := 35) (t2 := 39) (S' := []) 17 rfl rfl rfl (fun hc => ?_) (fun hc => ?_)
    · replace h := h.1 hc
      refine vm_WM.seq 18 2 (pc' := 52) (L' := [.ref 41, .int x1, .int x2, .int x3, .int x4, .int v1]) (S' := [.int x3]) (M' := M2) rfl ?_
      refine vm_WM.seq 26 3 (pc' := 5) (L' := [.ref 41, .int x1, .int x2, .int x3, .int (x4 + (nI 1)), .int v1]) (S' := []) (M' := M2) rfl ?_
      exact h
    · replace h := h.2 hc
      refine vm_WM.seq 20 4 (pc' := 46) (L' := [.ref 41, .int x1, .int x2, .int x3, .int x4, .int v1]) (S' := [.int v1, .ref 7, .int x3]) (M' := M2) rfl ?_
      refine vm_WM.call (a := 43) (as := [.ref 7, .int v1]) (rest := [.int x3]) (L0 := [.ref 7, .int v1]) 24 rfl rfl (by decide) rfl rfl ⟨rfl, Or.inr rfl, Nat.le_of_ble_eq_true rfl, Nat.le_of_ble_eq_true rfl⟩ rfl rfl rfl ?_
      refine vm_WM.theni h (fun v3 M4 h => ?_)
      show vm_WM X 18 49 [.ref 41, .int x1, .int x2, .int x3, .int x4, .int v1] [.int v3, .int x3] M4 _
      refine vm_WM.mm (w := (if x3 < v3 then v3 else x3)) 25 rfl rfl (Or.inl rfl) rfl (Nat.le_of_ble_eq_true rfl) ?_
      refine vm_WM.seq 26 3 (pc' := 5) (L' := [.ref 41, .int x1, .int x2, .int (if x3 < v3 then v3 else x3), .int (x4 + (nI 1)), .int v1]) (S' := []) (M' := M4) rfl ?_
      exact h
