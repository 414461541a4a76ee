/-! walks, by wip/whole/vcgen.py -/
theorem v_B_count {X : Nat × (Nat → Int32)} {a1 : Int32} {M : vm_M} {P : Int32 → vm_M → Prop} (h : ((a1).toInt < 0 ∨ 7 < (a1).toInt → (P (Int32.ofInt (-1000001)) M)) ∧ ((a1 = (nI 0) → (E_Rows_present X  M (fun v1 M2 => P v1 M2))) ∧ (a1 = (nI 1) → (P (M 7 0) M)) ∧ (a1 = (nI 2) → (P (M 7 1) M)) ∧ (a1 = (nI 3) → (P (M 7 4) M)) ∧ (a1 = (nI 4) → (P (M 35 1) M)) ∧ (a1 = (nI 5) → (P (M 7 2) M)) ∧ (a1 = (nI 6) → (P (M 7 5) M)) ∧ (a1 = (nI 7) → (P (M 5 1) M)))) : E_B_count X a1 M P := by
  unfold E_B_count
  refine vm_WM.seq 0 1 (pc' := 1) (L' := [.ref 0, .int a1]) (S' := [.int a1]) (M' := M) rfl ?_
  by_cases hlo : (a1).toInt < 0 ∨ 7 < (a1).toInt
  · replace h := h.1 hlo
    refine vm_WM.tso (t := 112) 1 rfl hlo rfl ?_
    refine vm_WM.seq 34 1 (pc' := 114) (L' := [.ref 0, .int a1]) (S' := [.int (Int32.ofInt (-1000001))]) (M' := M) rfl ?_
    exact vm_WM.ret (r := some (.int (Int32.ofInt (-1000001)))) 35 rfl rfl rfl ⟨_, rfl, h⟩
  · replace h := h.2
    by_cases hq0 : a1 = (nI 0)
    · replace h := h.1 hq0
      refine vm_WM.tsi (t := 48) (v := 0) 1 rfl hq0 (by decide) rfl ?_
      refine vm_WM.seq 2 2 (pc' := 52) (L' := [.ref 0, .int a1]) (S' := [.ref 1]) (M' := M) rfl ?_
      refine vm_WM.call (a := 49) (as := [.ref 1]) (rest := []) (L0 := [.ref 1, .null, .null]) 4 rfl rfl (by decide) rfl rfl ⟨rfl, Or.inr rfl, Nat.le_of_ble_eq_true rfl, Nat.le_of_ble_eq_true rfl⟩ rfl rfl rfl ?_
      refine vm_WM.theni h (fun v1 M2 h => ?_)
      show vm_WM X 100 55 [.ref 0, .int a1] [.int v1] M2 _
      exact vm_WM.ret (r := some (.int v1)) 5 rfl rfl rfl ⟨_, rfl, h⟩
    by_cases hq1 : a1 = (nI 1)
    · replace h := h.2.1 hq1
      refine vm_WM.tsi (t := 56) (v := 1) 1 rfl hq1 (by decide) rfl ?_
      refine vm_WM.seq 6 3 (pc' := 63) (L' := [.ref 0, .int a1]) (S' := [.int (M 7 0)]) (M' := M) rfl ?_
      exact vm_WM.ret (r := some (.int (M 7 0))) 9 rfl rfl rfl ⟨_, rfl, h⟩
    by_cases hq2 : a1 = (nI 2)
    · replace h := h.2.2.1 hq2
      refine vm_WM.tsi (t := 64) (v := 2) 1 rfl hq2 (by decide) rfl ?_
      refine vm_WM.seq 10 3 (pc' := 71) (L' := [.ref 0, .int a1]) (S' := [.int (M 7 1)]) (M' := M) rfl ?_
      exact vm_WM.ret (r := some (.int (M 7 1))) 13 rfl rfl rfl ⟨_, rfl, h⟩
    by_cases hq3 : a1 = (nI 3)
    · replace h := h.2.2.2.1 hq3
      refine vm_WM.tsi (t := 72) (v := 3) 1 rfl hq3 (by decide) rfl ?_
      refine vm_WM.seq 14 3 (pc' := 79) (L' := [.ref 0, .int a1]) (S' := [.int (M 7 4)]) (M' := M) rfl ?_
      exact vm_WM.ret (r := some (.int (M 7 4))) 17 rfl rfl rfl ⟨_, rfl, h⟩
    by_cases hq4 : a1 = (nI 4)
    · replace h := h.2.2.2.2.1 hq4
      refine vm_WM.tsi (t := 80) (v := 4) 1 rfl hq4 (by decide) rfl ?_
      refine vm_WM.seq 18 3 (pc' := 87) (L' := [.ref 0, .int a1]) (S' := [.int (M 35 1)]) (M' := M) rfl ?_
      exact vm_WM.ret (r := some (.int (M 35 1))) 21 rfl rfl rfl ⟨_, rfl, h⟩
    by_cases hq5 : a1 = (nI 5)
    · replace h := h.2.2.2.2.2.1 hq5
      refine vm_WM.tsi (t := 88) (v := 5) 1 rfl hq5 (by decide) rfl ?_
      refine vm_WM.seq 22 3 (pc' := 95) (L' := [.ref 0, .int a1]) (S' := [.int (M 7 2)]) (M' := M) rfl ?_
      exact vm_WM.ret (r := some (.int (M 7 2))) 25 rfl rfl rfl ⟨_, rfl, h⟩
    by_cases hq6 : a1 = (nI 6)
    · replace h := h.2.2.2.2.2.2.1 hq6
      refine vm_WM.tsi (t := 96) (v := 6) 1 rfl hq6 (by decide) rfl ?_
      refine vm_WM.seq 26 3 (pc' := 103) (L' := [.ref 0, .int a1]) (S' := [.int (M 7 5)]) (M' := M) rfl ?_
      exact vm_WM.ret (r := some (.int (M 7 5))) 29 rfl rfl rfl ⟨_, rfl, h⟩
    by_cases hq7 : a1 = (nI 7)
    · replace h := h.2.2.2.2.2.2.2 hq7
      refine vm_WM.tsi (t := 104) (v := 7) 1 rfl hq7 (by decide) rfl ?_
      refine vm_WM.seq 30 3 (pc' := 111) (L' := [.ref 0, .int a1]) (S' := [.int (M 5 1)]) (M' := M) rfl ?_
      exact vm_WM.ret (r := some (.int (M 5 1))) 33 rfl rfl rfl ⟨_, rfl, h⟩
    exact absurd (vm_sw_no (lo := 0) (n := 8) (by decide) (fun q hq => by
      match q, hq with
      | 0, _ => exact hq0
      | 1, _ => exact hq1
      | 2, _ => exact hq2
      | 3, _ => exact hq3
      | 4, _ => exact hq4
      | 5, _ => exact hq5
      | 6, _ => exact hq6
      | 7, _ => exact hq7
      | q + 8, hq => omega)) hlo
theorem v_B_status {X : Nat × (Nat → Int32)}  {M : vm_M} {P : Int32 → vm_M → Prop} (h : P (M 0 9) M) : E_B_status X  M P := by
  unfold E_B_status
  refine vm_WM.seq 0 2 (pc' := 4) (L' := [.ref 0]) (S' := [.int (M 0 9)]) (M' := M) rfl ?_
  exact vm_WM.ret (r := some (.int (M 0 9))) 2 rfl rfl rfl ⟨_, rfl, h⟩
theorem v_M_row {X : Nat × (Nat → Int32)} {a1 : Int32} {a2 : Int32} {a3 : Int32} {M : vm_M} {P : Int32 → vm_M → Prop} (h : E_M_isRow X a1 (vm_u2 M 48 0 (nI 0)) (fun v1 M2 => (v1 = 0 → (P (Int32.ofInt (-1000001)) M2)) ∧ (¬ (v1 = 0) → (E_M_in X ((a2).toInt64) (Int64.ofNat 0) (Int64.ofInt 2) M2 (fun v3 M4 => (v3 = 0 → (P (Int32.ofInt (-1000001)) M4)) ∧ (¬ (v3 = 0) → (((nI 40) < a3 → (P (Int32.ofInt (-1000001)) M4)) ∧ (¬ ((nI 40) < a3) → ((a3 < 0 → (P ((Int32.ofInt (-1000010)) - (nI 4)) (vm_u2 (vm_u2 M4 48 1 (nI 0)) 48 1 (nI 4)))) ∧ (¬ (a3 < 0) → (∃ j5 : Nat, a1 = nI j5 ∧ j5 < 8 ∧ (∃ j6 : Nat, a1 = nI j6 ∧ j6 < 8 ∧ (C_M_row_65 X a1 a2 a3 (nI 0) (vm_u2 (vm_u2 (vm_u2 M4 48 1 (nI 0)) 49 j5 a2) 50 j6 a3) P))))))))))))) : E_M_row X a1 a2 a3 M P := by
  unfold E_M_row
  refine vm_WM.seq 0 4 (pc' := 6) (L' := [.ref 48, .int a1, .int a2, .int a3, .null]) (S' := [.int a1]) (M' := (vm_u2 M 48 0 (nI 0))) rfl ?_
  refine vm_WM.call (a := 110) (as := [.int a1]) (rest := []) (L0 := [.int a1]) 4 rfl rfl (by decide) rfl rfl ⟨rfl, Or.inl rfl, Nat.le_of_ble_eq_true rfl, Nat.le_of_ble_eq_true rfl⟩ rfl rfl rfl ?_
  refine vm_WM.theni h (fun v1 M2 h => ?_)
  show vm_WM X 111 9 [.ref 48, .int a1, .int a2, .int a3, .null] [.int v1] M2 _
  refine vm_WM.if (c := v1 = 0) (t1 := 30) (t2 := 12) (S' := []) 5 rfl rfl rfl (fun hc => ?_) (fun hc => ?_)
  · replace h := h.1 hc
    refine vm_WM.seq 15 1 (pc' := 32) (L' := [.ref 48, .int a1, .int a2, .int a3, .null]) (S' := [.int (Int32.ofInt (-1000001))]) (M' := M2) rfl ?_
    exact vm_WM.ret (r := some (.int (Int32.ofInt (-1000001)))) 16 rfl rfl rfl ⟨_, rfl, h⟩
  · replace h := h.2 hc
    refine vm_WM.seq 6 4 (pc' := 18) (L' := [.ref 48, .int a1, .int a2, .int a3, .null]) (S' := [.long (Int64.ofInt 2), .long (Int64.ofNat 0), .long ((a2).toInt64)]) (M' := M2) rfl ?_
    refine vm_WM.call (a := 108) (as := [.long ((a2).toInt64), .long (Int64.ofNat 0), .long (Int64.ofInt 2)]) (rest := []) (L0 := [.long ((a2).toInt64), .null, .long (Int64.ofNat 0), .null, .long (Int64.ofInt 2), .null]) 10 rfl rfl (by decide) rfl rfl ⟨rfl, Or.inl rfl, Nat.le_of_ble_eq_true rfl, Nat.le_of_ble_eq_true rfl⟩ rfl rfl rfl ?_
    refine vm_WM.theni h (fun v3 M4 h => ?_)
    show vm_WM X 111 21 [.ref 48, .int a1, .int a2, .int a3, .null] [.int v3] M4 _
    refine vm_WM.if (c := v3 = 0) (t1 := 30) (t2 := 24) (S' := []) 11 rfl rfl rfl (fun hc => ?_) (fun hc => ?_)
    · replace h := h.1 hc
      refine vm_WM.seq 15 1 (pc' := 32) (L' := [.ref 48, .int a1, .int a2, .int a3, .null]) (S' := [.int (Int32.ofInt (-1000001))]) (M' := M4) rfl ?_
      exact vm_WM.ret (r := some (.int (Int32.ofInt (-1000001)))) 16 rfl rfl rfl ⟨_, rfl, h⟩
    · replace h := h.2 hc
      refine vm_WM.seq 12 2 (pc' := 27) (L' := [.ref 48, .int a1, .int a2, .int a3, .null]) (S' := [.int (nI 40), .int a3]) (M' := M4) rfl ?_
      refine vm_WM.if (c := (nI 40) < a3) (t1 := 30) (t2 := 33) (S' := []) 14 rfl rfl rfl (fun hc => ?_) (fun hc => ?_)
      · replace h := h.1 hc
        refine vm_WM.seq 15 1 (pc' := 32) (L' := [.ref 48, .int a1, .int a2, .int a3, .null]) (S' := [.int (Int32.ofInt (-1000001))]) (M' := M4) rfl ?_
        exact vm_WM.ret (r := some (.int (Int32.ofInt (-1000001)))) 16 rfl rfl rfl ⟨_, rfl, h⟩
      · replace h := h.2 hc
        refine vm_WM.seq 17 4 (pc' := 39) (L' := [.ref 48, .int a1, .int a2, .int a3, .null]) (S' := [.int a3]) (M' := (vm_u2 M4 48 1 (nI 0))) rfl ?_
        refine vm_WM.if (c := a3 < 0) (t1 := 42) (t2 := 48) (S' := []) 21 rfl rfl rfl (fun hc => ?_) (fun hc => ?_)
        · replace h := h.1 hc
          refine vm_WM.seq 22 2 (pc' := 44) (L' := [.ref 48, .int a1, .int a2, .int a3, .null]) (S' := [.int (nI 4), .ref 48]) (M' := (vm_u2 M4 48 1 (nI 0))) rfl ?_
          refine vm_WM.call (a := 109) (as := [.ref 48, .int (nI 4)]) (rest := []) (L0 := [.ref 48, .int (nI 4)]) 24 rfl rfl (by decide) rfl rfl ⟨rfl, Or.inr rfl, Nat.le_of_ble_eq_true rfl, Nat.le_of_ble_eq_true rfl⟩ rfl rfl rfl ?_
          refine vm_WM.seq 0 6 (pc' := 9) (L' := [.ref 48, .int (nI 4)]) (S' := [.int ((Int32.ofInt (-1000010)) - (nI 4))]) (M' := (vm_u2 (vm_u2 M4 48 1 (nI 0)) 48 1 (nI 4))) rfl ?_
          refine vm_WM.ret (r := some (.int ((Int32.ofInt (-1000010)) - (nI 4)))) 6 rfl rfl rfl ?_
          show vm_WM X 111 47 [.ref 48, .int a1, .int a2, .int a3, .null] [.int ((Int32.ofInt (-1000010)) - (nI 4))] (vm_u2 (vm_u2 M4 48 1 (nI 0)) 48 1 (nI 4)) _
          exact vm_WM.ret (r := some (.int ((Int32.ofInt (-1000010)) - (nI 4)))) 25 rfl rfl rfl ⟨_, rfl, h⟩
        · replace h := h.2 hc
          refine vm_WM.seq 26 4 (pc' := 54) (L' := [.ref 48, .int a1, .int a2, .int a3, .null]) (S' := [.int a2, .int a1, .ref 49]) (M' := (vm_u2 M4 48 1 (nI 0))) rfl ?_
          obtain ⟨j5, hj1, hj2, h⟩ := h
          refine vm_WM.ast (n := 8) (jj := j5) 30 rfl rfl hj1 hj2 ?_
          refine vm_WM.seq 31 4 (pc' := 61) (L' := [.ref 48, .int a1, .int a2, .int a3, .null]) (S' := [.int a3, .int a1, .ref 50]) (M' := (vm_u2 (vm_u2 M4 48 1 (nI 0)) 49 j5 a2)) rfl ?_
          obtain ⟨j6, hj1, hj2, h⟩ := h
          refine vm_WM.ast (n := 8) (jj := j6) 35 rfl rfl hj1 hj2 ?_
          refine vm_WM.seq 36 2 (pc' := 65) (L' := [.ref 48, .int a1, .int a2, .int a3, .int (nI 0)]) (S' := []) (M' := (vm_u2 (vm_u2 (vm_u2 M4 48 1 (nI 0)) 49 j5 a2) 50 j6 a3)) rfl ?_
          exact h
theorem v_M_row_65 {X : Nat × (Nat → Int32)} {x1 : Int32} {x2 : Int32} {x3 : Int32} {x4 : Int32} {M : vm_M} {P : Int32 → vm_M → Prop} (h : (x4 < (nI 40) → (∃ j1 : Nat, (((nI 40) * x1) + x4) = nI j1 ∧ j1 < 320 ∧ (C_M_row_65 X x1 x2 x3 (x4 + (nI 1)) (vm_u2 M 51 j1 (nI 0)) P))) ∧ (¬ (x4 < (nI 40)) → (P x3 M))) : C_M_row_65 X x1 x2 x3 x4 M P := by
  unfold C_M_row_65
  refine vm_WM.seq 38 2 (pc' := 69) (L' := [.ref 48, .int x1, .int x2, .int x3, .int x4]) (S' := [.int (nI 40), .int x4]) (M' := M) rfl ?_
  refine vm_WM.if (c := x4 < (nI 40)) (t1 := 72) (t2 := 91) (S' := []) 40 rfl rfl rfl (fun hc => ?_) (fun hc => ?_)
  · replace h := h.1 hc
    refine vm_WM.seq 41 8 (pc' := 84) (L' := [.ref 48, .int x1, .int x2, .int x3, .int x4]) (S' := [.int (nI 0), .int (((nI 40) * x1) + x4), .ref 51]) (M' := M) rfl ?_
    obtain ⟨j1, hj1, hj2, h⟩ := h
    refine vm_WM.ast (n := 320) (jj := j1) 49 rfl rfl hj1 hj2 ?_
    refine vm_WM.seq 50 2 (pc' := 65) (L' := [.ref 48, .int x1, .int x2, .int x3, .int (x4 + (nI 1))]) (S' := []) (M' := (vm_u2 M 51 j1 (nI 0))) rfl ?_
    exact h
  · replace h := h.2 hc
    refine vm_WM.seq 52 1 (pc' := 92) (L' := [.ref 48, .int x1, .int x2, .int x3, .int x4]) (S' := [.int x3]) (M' := M) rfl ?_
    exact vm_WM.ret (r := some (.int x3)) 53 rfl rfl rfl ⟨_, rfl, h⟩
theorem v_M_set {X : Nat × (Nat → Int32)} {a1 : Int32} {a2 : Int32} {a3 : Int32} {M : vm_M} {P : Int32 → vm_M → Prop} (h : E_M_isRow X a1 (vm_u2 M 48 0 (nI 0)) (fun v1 M2 => (v1 = 0 → (P (Int32.ofInt (-1000001)) M2)) ∧ (¬ (v1 = 0) → (∃ j3 : Nat, a1 = nI j3 ∧ j3 < 8 ∧ ((((vm_u2 M2 48 1 (nI 0)) 49 j3) < 0 → (P ((Int32.ofInt (-1000010)) - (nI 1)) (vm_u2 (vm_u2 M2 48 1 (nI 0)) 48 1 (nI 1)))) ∧ (¬ (((vm_u2 M2 48 1 (nI 0)) 49 j3) < 0) → (∃ j4 : Nat, a1 = nI j4 ∧ j4 < 8 ∧ (E_M_in X ((a2).toInt64) (Int64.ofNat 0) (((((vm_u2 M2 48 1 (nI 0)) 50 j4) - (nI 1))).toInt64) (vm_u2 M2 48 1 (nI 0)) (fun v5 M6 => (v5 = 0 → (P ((Int32.ofInt (-1000010)) - (nI 2)) (vm_u2 M6 48 1 (nI 2)))) ∧ (¬ (v5 = 0) → (∃ j7 : Nat, a1 = nI j7 ∧ j7 < 8 ∧ (((M6 49 j7) = 0 → (∃ j8 : Nat, (((nI 40) * a1) + a2) = nI j8 ∧ j8 < 320 ∧ (∃ j9 : Nat, (((nI 40) * a1) + a2) = nI j9 ∧ j9 < 320 ∧ (P ((vm_u2 M6 51 j8 ((a3).toInt8.toInt32)) 51 j9) (vm_u2 M6 51 j8 ((a3).toInt8.toInt32)))))) ∧ (¬ ((M6 49 j7) = 0) → (∃ j10 : Nat, a1 = nI j10 ∧ j10 < 8 ∧ (((M6 49 j10) = (nI 1) → (∃ j11 : Nat, (((nI 40) * a1) + a2) = nI j11 ∧ j11 < 320 ∧ (∃ j12 : Nat, (((nI 40) * a1) + a2) = nI j12 ∧ j12 < 320 ∧ (P ((vm_u2 M6 51 j11 ((a3).toInt16.toInt32)) 51 j12) (vm_u2 M6 51 j11 ((a3).toInt16.toInt32)))))) ∧ (¬ ((M6 49 j10) = (nI 1)) → (∃ j13 : Nat, (((nI 40) * a1) + a2) = nI j13 ∧ j13 < 320 ∧ (∃ j14 : Nat, (((nI 40) * a1) + a2) = nI j14 ∧ j14 < 320 ∧ (P ((vm_u2 M6 51 j13 a3) 51 j14) (vm_u2 M6 51 j13 a3)))))))))))))))))))) : E_M_set X a1 a2 a3 M P := by
  unfold E_M_set
  refine vm_WM.seq 0 4 (pc' := 6) (L' := [.ref 48, .int a1, .int a2, .int a3]) (S' := [.int a1]) (M' := (vm_u2 M 48 0 (nI 0))) rfl ?_
  refine vm_WM.call (a := 110) (as := [.int a1]) (rest := []) (L0 := [.int a1]) 4 rfl rfl (by decide) rfl rfl ⟨rfl, Or.inl rfl, Nat.le_of_ble_eq_true rfl, Nat.le_of_ble_eq_true rfl⟩ rfl rfl rfl ?_
  refine vm_WM.theni h (fun v1 M2 h => ?_)
  show vm_WM X 112 9 [.ref 48, .int a1, .int a2, .int a3] [.int v1] M2 _
  refine vm_WM.if (c := v1 = 0) (t1 := 12) (t2 := 15) (S' := []) 5 rfl rfl rfl (fun hc => ?_) (fun hc => ?_)
  · replace h := h.1 hc
    refine vm_WM.seq 6 1 (pc' := 14) (L' := [.ref 48, .int a1, .int a2, .int a3]) (S' := [.int (Int32.ofInt (-1000001))]) (M' := M2) rfl ?_
    exact vm_WM.ret (r := some (.int (Int32.ofInt (-1000001)))) 7 rfl rfl rfl ⟨_, rfl, h⟩
  · replace h := h.2 hc
    refine vm_WM.seq 8 6 (pc' := 25) (L' := [.ref 48, .int a1, .int a2, .int a3]) (S' := [.int a1, .ref 49]) (M' := (vm_u2 M2 48 1 (nI 0))) rfl ?_
    obtain ⟨j3, hj1, hj2, h⟩ := h
    refine vm_WM.ald (n := 8) (jj := j3) 14 rfl (Or.inl ⟨rfl, rfl⟩) (by decide) rfl hj1 hj2 ?_
    refine vm_WM.if (c := ((vm_u2 M2 48 1 (nI 0)) 49 j3) < 0) (t1 := 29) (t2 := 35) (S' := []) 15 rfl rfl rfl (fun hc => ?_) (fun hc => ?_)
    · replace h := h.1 hc
      refine vm_WM.seq 16 2 (pc' := 31) (L' := [.ref 48, .int a1, .int a2, .int a3]) (S' := [.int (nI 1), .ref 48]) (M' := (vm_u2 M2 48 1 (nI 0))) rfl ?_
      refine vm_WM.call (a := 109) (as := [.ref 48, .int (nI 1)]) (rest := []) (L0 := [.ref 48, .int (nI 1)]) 18 rfl rfl (by decide) rfl rfl ⟨rfl, Or.inr rfl, Nat.le_of_ble_eq_true rfl, Nat.le_of_ble_eq_true rfl⟩ rfl rfl rfl ?_
      refine vm_WM.seq 0 6 (pc' := 9) (L' := [.ref 48, .int (nI 1)]) (S' := [.int ((Int32.ofInt (-1000010)) - (nI 1))]) (M' := (vm_u2 (vm_u2 M2 48 1 (nI 0)) 48 1 (nI 1))) rfl ?_
      refine vm_WM.ret (r := some (.int ((Int32.ofInt (-1000010)) - (nI 1)))) 6 rfl rfl rfl ?_
      show vm_WM X 112 34 [.ref 48, .int a1, .int a2, .int a3] [.int ((Int32.ofInt (-1000010)) - (nI 1))] (vm_u2 (vm_u2 M2 48 1 (nI 0)) 48 1 (nI 1)) _
      exact vm_WM.ret (r := some (.int ((Int32.ofInt (-1000010)) - (nI 1)))) 19 rfl rfl rfl ⟨_, rfl, h⟩
    · replace h := h.2 hc
      refine vm_WM.seq 20 6 (pc' := 43) (L' := [.ref 48, .int a1, .int a2, .int a3]) (S' := [.int a1, .ref 50, .long (Int64.ofNat 0), .long ((a2).toInt64)]) (M' := (vm_u2 M2 48 1 (nI 0))) rfl ?_
      obtain ⟨j4, hj1, hj2, h⟩ := h
      refine vm_WM.ald (n := 8) (jj := j4) 26 rfl (Or.inl ⟨rfl, rfl⟩) (by decide) rfl hj1 hj2 ?_
      refine vm_WM.seq 27 3 (pc' := 47) (L' := [.ref 48, .int a1, .int a2, .int a3]) (S' := [.long (((((vm_u2 M2 48 1 (nI 0)) 50 j4) - (nI 1))).toInt64), .long (Int64.ofNat 0), .long ((a2).toInt64)]) (M' := (vm_u2 M2 48 1 (nI 0))) rfl ?_
      refine vm_WM.call (a := 108) (as := [.long ((a2).toInt64), .long (Int64.ofNat 0), .long (((((vm_u2 M2 48 1 (nI 0)) 50 j4) - (nI 1))).toInt64)]) (rest := []) (L0 := [.long ((a2).toInt64), .null, .long (Int64.ofNat 0), .null, .long (((((vm_u2 M2 48 1 (nI 0)) 50 j4) - (nI 1))).toInt64), .null]) 30 rfl rfl (by decide) rfl rfl ⟨rfl, Or.inl rfl, Nat.le_of_ble_eq_true rfl, Nat.le_of_ble_eq_true rfl⟩ rfl rfl rfl ?_
      refine vm_WM.theni h (fun v5 M6 h => ?_)
      show vm_WM X 112 50 [.ref 48, .int a1, .int a2, .int a3] [.int v5] M6 _
      refine vm_WM.if (c := v5 = 0) (t1 := 53) (t2 := 59) (S' := []) 31 rfl rfl rfl (fun hc => ?_) (fun hc => ?_)
      · replace h := h.1 hc
        refine vm_WM.seq 32 2 (pc' := 55) (L' := [.ref 48, .int a1, .int a2, .int a3]) (S' := [.int (nI 2), .ref 48]) (M' := M6) rfl ?_
        refine vm_WM.call (a := 109) (as := [.ref 48, .int (nI 2)]) (rest := []) (L0 := [.ref 48, .int (nI 2)]) 34 rfl rfl (by decide) rfl rfl ⟨rfl, Or.inr rfl, Nat.le_of_ble_eq_true rfl, Nat.le_of_ble_eq_true rfl⟩ rfl rfl rfl ?_
        refine vm_WM.seq 0 6 (pc' := 9) (L' := [.ref 48, .int (nI 2)]) (S' := [.int ((Int32.ofInt (-1000010)) - (nI 2))]) (M' := (vm_u2 M6 48 1 (nI 2))) rfl ?_
        refine vm_WM.ret (r := some (.int ((Int32.ofInt (-1000010)) - (nI 2)))) 6 rfl rfl rfl ?_
        show vm_WM X 112 58 [.ref 48, .int a1, .int a2, .int a3] [.int ((Int32.ofInt (-1000010)) - (nI 2))] (vm_u2 M6 48 1 (nI 2)) _
        exact vm_WM.ret (r := some (.int ((Int32.ofInt (-1000010)) - (nI 2)))) 35 rfl rfl rfl ⟨_, rfl, h⟩
      · replace h := h.2 hc
        refine vm_WM.seq 36 10 (pc' := 74) (L' := [.ref 48, .int a1, .int a2, .int a3]) (S' := [.int a1, .ref 49, .int (((nI 40) * a1) + a2), .ref 51]) (M' := M6) rfl ?_
        obtain ⟨j7, hj1, hj2, h⟩ := h
        refine vm_WM.ald (n := 8) (jj := j7) 46 rfl (Or.inl ⟨rfl, rfl⟩) (by decide) rfl hj1 hj2 ?_
        refine vm_WM.if (c := (M6 49 j7) = 0) (t1 := 78) (t2 := 83) (S' := [.int (((nI 40) * a1) + a2), .ref 51]) 47 rfl rfl rfl (fun hc => ?_) (fun hc => ?_)
        · replace h := h.1 hc
          refine vm_WM.seq 48 3 (pc' := 99) (L' := [.ref 48, .int a1, .int a2, .int a3]) (S' := [.int ((a3).toInt8.toInt32), .int (((nI 40) * a1) + a2), .ref 51]) (M' := M6) rfl ?_
          obtain ⟨j8, hj1, hj2, h⟩ := h
          refine vm_WM.ast (n := 320) (jj := j8) 61 rfl rfl hj1 hj2 ?_
          refine vm_WM.seq 62 7 (pc' := 110) (L' := [.ref 48, .int a1, .int a2, .int a3]) (S' := [.int (((nI 40) * a1) + a2), .ref 51]) (M' := (vm_u2 M6 51 j8 ((a3).toInt8.toInt32))) rfl ?_
          obtain ⟨j9, hj1, hj2, h⟩ := h
          refine vm_WM.ald (n := 320) (jj := j9) 69 rfl (Or.inl ⟨rfl, rfl⟩) (by decide) rfl hj1 hj2 ?_
          exact vm_WM.ret (r := some (.int ((vm_u2 M6 51 j8 ((a3).toInt8.toInt32)) 51 j9))) 70 rfl rfl rfl ⟨_, rfl, h⟩
        · replace h := h.2 hc
          refine vm_WM.seq 51 3 (pc' := 88) (L' := [.ref 48, .int a1, .int a2, .int a3]) (S' := [.int a1, .ref 49, .int (((nI 40) * a1) + a2), .ref 51]) (M' := M6) rfl ?_
          obtain ⟨j10, hj1, hj2, h⟩ := h
          refine vm_WM.ald (n := 8) (jj := j10) 54 rfl (Or.inl ⟨rfl, rfl⟩) (by decide) rfl hj1 hj2 ?_
          refine vm_WM.seq 55 1 (pc' := 90) (L' := [.ref 48, .int a1, .int a2, .int a3]) (S' := [.int (nI 1), .int (M6 49 j10), .int (((nI 40) * a1) + a2), .ref 51]) (M' := M6) rfl ?_
          refine vm_WM.if (c := (M6 49 j10) = (nI 1)) (t1 := 93) (t2 := 98) (S' := [.int (((nI 40) * a1) + a2), .ref 51]) 56 rfl rfl rfl (fun hc => ?_) (fun hc => ?_)
          · replace h := h.1 hc
            refine vm_WM.seq 57 3 (pc' := 99) (L' := [.ref 48, .int a1, .int a2, .int a3]) (S' := [.int ((a3).toInt16.toInt32), .int (((nI 40) * a1) + a2), .ref 51]) (M' := M6) rfl ?_
            obtain ⟨j11, hj1, hj2, h⟩ := h
            refine vm_WM.ast (n := 320) (jj := j11) 61 rfl rfl hj1 hj2 ?_
            refine vm_WM.seq 62 7 (pc' := 110) (L' := [.ref 48, .int a1, .int a2, .int a3]) (S' := [.int (((nI 40) * a1) + a2), .ref 51]) (M' := (vm_u2 M6 51 j11 ((a3).toInt16.toInt32))) rfl ?_
            obtain ⟨j12, hj1, hj2, h⟩ := h
            refine vm_WM.ald (n := 320) (jj := j12) 69 rfl (Or.inl ⟨rfl, rfl⟩) (by decide) rfl hj1 hj2 ?_
            exact vm_WM.ret (r := some (.int ((vm_u2 M6 51 j11 ((a3).toInt16.toInt32)) 51 j12))) 70 rfl rfl rfl ⟨_, rfl, h⟩
          · replace h := h.2 hc
            refine vm_WM.seq 60 1 (pc' := 99) (L' := [.ref 48, .int a1, .int a2, .int a3]) (S' := [.int a3, .int (((nI 40) * a1) + a2), .ref 51]) (M' := M6) rfl ?_
            obtain ⟨j13, hj1, hj2, h⟩ := h
            refine vm_WM.ast (n := 320) (jj := j13) 61 rfl rfl hj1 hj2 ?_
            refine vm_WM.seq 62 7 (pc' := 110) (L' := [.ref 48, .int a1, .int a2, .int a3]) (S' := [.int (((nI 40) * a1) + a2), .ref 51]) (M' := (vm_u2 M6 51 j13 a3)) rfl ?_
            obtain ⟨j14, hj1, hj2, h⟩ := h
            refine vm_WM.ald (n := 320) (jj := j14) 69 rfl (Or.inl ⟨rfl, rfl⟩) (by decide) rfl hj1 hj2 ?_
            exact vm_WM.ret (r := some (.int ((vm_u2 M6 51 j13 a3) 51 j14))) 70 rfl rfl rfl ⟨_, rfl, h⟩
theorem v_M_copy {X : Nat × (Nat → Int32)} {a1 : Int32} {a2 : Int32} {a3 : Int32} {a4 : Int32} {a5 : Int32} {M : vm_M} {P : Int32 → vm_M → Prop} (h : E_M_isRow X a1 (vm_u2 M 48 0 (nI 0)) (fun v1 M2 => (v1 = 0 → (P (Int32.ofInt (-1000001)) M2)) ∧ (¬ (v1 = 0) → (E_M_isRow X a3 M2 (fun v3 M4 => (v3 = 0 → (P (Int32.ofInt (-1000001)) M4)) ∧ (¬ (v3 = 0) → (∃ j5 : Nat, a1 = nI j5 ∧ j5 < 8 ∧ ((((vm_u2 M4 48 1 (nI 0)) 49 j5) < 0 → (P ((Int32.ofInt (-1000010)) - (nI 1)) (vm_u2 (vm_u2 M4 48 1 (nI 0)) 48 1 (nI 1)))) ∧ (¬ (((vm_u2 M4 48 1 (nI 0)) 49 j5) < 0) → (∃ j6 : Nat, a3 = nI j6 ∧ j6 < 8 ∧ ((((vm_u2 M4 48 1 (nI 0)) 49 j6) < 0 → (P ((Int32.ofInt (-1000010)) - (nI 1)) (vm_u2 (vm_u2 M4 48 1 (nI 0)) 48 1 (nI 1)))) ∧ (¬ (((vm_u2 M4 48 1 (nI 0)) 49 j6) < 0) → (∃ j7 : Nat, a1 = nI j7 ∧ j7 < 8 ∧ (∃ j8 : Nat, a3 = nI j8 ∧ j8 < 8 ∧ ((((vm_u2 M4 48 1 (nI 0)) 49 j7) = ((vm_u2 M4 48 1 (nI 0)) 49 j8) → ((a2 < 0 → (P ((Int32.ofInt (-1000010)) - (nI 2)) (vm_u2 (vm_u2 M4 48 1 (nI 0)) 48 1 (nI 2)))) ∧ (¬ (a2 < 0) → ((a4 < 0 → (P ((Int32.ofInt (-1000010)) - (nI 2)) (vm_u2 (vm_u2 M4 48 1 (nI 0)) 48 1 (nI 2)))) ∧ (¬ (a4 < 0) → ((a5 < 0 → (P ((Int32.ofInt (-1000010)) - (nI 2)) (vm_u2 (vm_u2 M4 48 1 (nI 0)) 48 1 (nI 2)))) ∧ (¬ (a5 < 0) → (∃ j9 : Nat, a1 = nI j9 ∧ j9 < 8 ∧ ((0 < (lg_cmp (((a2).toInt64) + ((a5).toInt64)) ((((vm_u2 M4 48 1 (nI 0)) 50 j9)).toInt64)) → (P ((Int32.ofInt (-1000010)) - (nI 2)) (vm_u2 (vm_u2 M4 48 1 (nI 0)) 48 1 (nI 2)))) ∧ (¬ (0 < (lg_cmp (((a2).toInt64) + ((a5).toInt64)) ((((vm_u2 M4 48 1 (nI 0)) 50 j9)).toInt64))) → (∃ j10 : Nat, a3 = nI j10 ∧ j10 < 8 ∧ ((0 < (lg_cmp (((a4).toInt64) + ((a5).toInt64)) ((((vm_u2 M4 48 1 (nI 0)) 50 j10)).toInt64)) → (P ((Int32.ofInt (-1000010)) - (nI 2)) (vm_u2 (vm_u2 M4 48 1 (nI 0)) 48 1 (nI 2)))) ∧ (¬ (0 < (lg_cmp (((a4).toInt64) + ((a5).toInt64)) ((((vm_u2 M4 48 1 (nI 0)) 50 j10)).toInt64))) → ((a2 < a4 → (C_M_copy_143 X a1 a2 a3 a4 a5 (nI 0) (nI 0) (.null) (vm_u2 M4 48 1 (nI 0)) P)) ∧ (¬ (a2 < a4) → (C_M_copy_143 X a1 a2 a3 a4 a5 (nI 1) (nI 0) (.null) (vm_u2 M4 48 1 (nI 0)) P)))))))))))))))) ∧ (¬ (((vm_u2 M4 48 1 (nI 0)) 49 j7) = ((vm_u2 M4 48 1 (nI 0)) 49 j8)) → (P ((Int32.ofInt (-1000010)) - (nI 5)) (vm_u2 (vm_u2 M4 48 1 (nI 0)) 48 1 (nI 5))))))))))))))))))) : E_M_copy X a1 a2 a3 a4 a5 M P := by
  unfold E_M_copy
  refine vm_WM.seq 0 4 (pc' := 6) (L' := [.ref 48, .int a1, .int a2, .int a3, .int a4, .int a5, .null, .null, .null]) (S' := [.int a1]) (M' := (vm_u2 M 48 0 (nI 0))) rfl ?_
  refine vm_WM.call (a := 110) (as := [.int a1]) (rest := []) (L0 := [.int a1]) 4 rfl rfl (by decide) rfl rfl ⟨rfl, Or.inl rfl, Nat.le_of_ble_eq_true rfl, Nat.le_of_ble_eq_true rfl⟩ rfl rfl rfl ?_
  refine vm_WM.theni h (fun v1 M2 h => ?_)
  show vm_WM X 113 9 [.ref 48, .int a1, .int a2, .int a3, .int a4, .int a5, .null, .null, .null] [.int v1] M2 _
  refine vm_WM.if (c := v1 = 0) (t1 := 19) (t2 := 12) (S' := []) 5 rfl rfl rfl (fun hc => ?_) (fun hc => ?_)
  · replace h := h.1 hc
    refine vm_WM.seq 9 1 (pc' := 21) (L' := [.ref 48, .int a1, .int a2, .int a3, .int a4, .int a5, .null, .null, .null]) (S' := [.int (Int32.ofInt (-1000001))]) (M' := M2) rfl ?_
    exact vm_WM.ret (r := some (.int (Int32.ofInt (-1000001)))) 10 rfl rfl rfl ⟨_, rfl, h⟩
  · replace h := h.2 hc
    refine vm_WM.seq 6 1 (pc' := 13) (L' := [.ref 48, .int a1, .int a2, .int a3, .int a4, .int a5, .null, .null, .null]) (S' := [.int a3]) (M' := M2) rfl ?_
    refine vm_WM.call (a := 110) (as := [.int a3]) (rest := []) (L0 := [.int a3]) 7 rfl rfl (by decide) rfl rfl ⟨rfl, Or.inl rfl, Nat.le_of_ble_eq_true rfl, Nat.le_of_ble_eq_true rfl⟩ rfl rfl rfl ?_
    refine vm_WM.theni h (fun v3 M4 h => ?_)
    show vm_WM X 113 16 [.ref 48, .int a1, .int a2, .int a3, .int a4, .int a5, .null, .null, .null] [.int v3] M4 _
    refine vm_WM.if (c := v3 = 0) (t1 := 19) (t2 := 22) (S' := []) 8 rfl rfl rfl (fun hc => ?_) (fun hc => ?_)
    · replace h := h.1 hc
      refine vm_WM.seq 9 1 (pc' := 21) (L' := [.ref 48, .int a1, .int a2, .int a3, .int a4, .int a5, .null, .null, .null]) (S' := [.int (Int32.ofInt (-1000001))]) (M' := M4) rfl ?_
      exact vm_WM.ret (r := some (.int (Int32.ofInt (-1000001)))) 10 rfl rfl rfl ⟨_, rfl, h⟩
    · replace h := h.2 hc
      refine vm_WM.seq 11 6 (pc' := 32) (L' := [.ref 48, .int a1, .int a2, .int a3, .int a4, .int a5, .null, .null, .null]) (S' := [.int a1, .ref 49]) (M' := (vm_u2 M4 48 1 (nI 0))) rfl ?_
      obtain ⟨j5, hj1, hj2, h⟩ := h
      refine vm_WM.ald (n := 8) (jj := j5) 17 rfl (Or.inl ⟨rfl, rfl⟩) (by decide) rfl hj1 hj2 ?_
      refine vm_WM.if (c := ((vm_u2 M4 48 1 (nI 0)) 49 j5) < 0) (t1 := 45) (t2 := 36) (S' := []) 18 rfl rfl rfl (fun hc => ?_) (fun hc => ?_)
      · replace h := h.1 hc
        refine vm_WM.seq 24 2 (pc' := 47) (L' := [.ref 48, .int a1, .int a2, .int a3, .int a4, .int a5, .null, .null, .null]) (S' := [.int (nI 1), .ref 48]) (M' := (vm_u2 M4 48 1 (nI 0))) rfl ?_
        refine vm_WM.call (a := 109) (as := [.ref 48, .int (nI 1)]) (rest := []) (L0 := [.ref 48, .int (nI 1)]) 26 rfl rfl (by decide) rfl rfl ⟨rfl, Or.inr rfl, Nat.le_of_ble_eq_true rfl, Nat.le_of_ble_eq_true rfl⟩ rfl rfl rfl ?_
        refine vm_WM.seq 0 6 (pc' := 9) (L' := [.ref 48, .int (nI 1)]) (S' := [.int ((Int32.ofInt (-1000010)) - (nI 1))]) (M' := (vm_u2 (vm_u2 M4 48 1 (nI 0)) 48 1 (nI 1))) rfl ?_
        refine vm_WM.ret (r := some (.int ((Int32.ofInt (-1000010)) - (nI 1)))) 6 rfl rfl rfl ?_
        show vm_WM X 113 50 [.ref 48, .int a1, .int a2, .int a3, .int a4, .int a5, .null, .null, .null] [.int ((Int32.ofInt (-1000010)) - (nI 1))] (vm_u2 (vm_u2 M4 48 1 (nI 0)) 48 1 (nI 1)) _
        exact vm_WM.ret (r := some (.int ((Int32.ofInt (-1000010)) - (nI 1)))) 27 rfl rfl rfl ⟨_, rfl, h⟩
      · replace h := h.2 hc
        refine vm_WM.seq 19 3 (pc' := 41) (L' := [.ref 48, .int a1, .int a2, .int a3, .int a4, .int a5, .null, .null, .null]) (S' := [.int a3, .ref 49]) (M' := (vm_u2 M4 48 1 (nI 0))) rfl ?_
        obtain ⟨j6, hj1, hj2, h⟩ := h
        refine vm_WM.ald (n := 8) (jj := j6) 22 rfl (Or.inl ⟨rfl, rfl⟩) (by decide) rfl hj1 hj2 ?_
        refine vm_WM.if (c := ((vm_u2 M4 48 1 (nI 0)) 49 j6) < 0) (t1 := 45) (t2 := 51) (S' := []) 23 rfl rfl rfl (fun hc => ?_) (fun hc => ?_)
        · replace h := h.1 hc
          refine vm_WM.seq 24 2 (pc' := 47) (L' := [.ref 48, .int a1, .int a2, .int a3, .int a4, .int a5, .null, .null, .null]) (S' := [.int (nI 1), .ref 48]) (M' := (vm_u2 M4 48 1 (nI 0))) rfl ?_
          refine vm_WM.call (a := 109) (as := [.ref 48, .int (nI 1)]) (rest := []) (L0 := [.ref 48, .int (nI 1)]) 26 rfl rfl (by decide) rfl rfl ⟨rfl, Or.inr rfl, Nat.le_of_ble_eq_true rfl, Nat.le_of_ble_eq_true rfl⟩ rfl rfl rfl ?_
          refine vm_WM.seq 0 6 (pc' := 9) (L' := [.ref 48, .int (nI 1)]) (S' := [.int ((Int32.ofInt (-1000010)) - (nI 1))]) (M' := (vm_u2 (vm_u2 M4 48 1 (nI 0)) 48 1 (nI 1))) rfl ?_
          refine vm_WM.ret (r := some (.int ((Int32.ofInt (-1000010)) - (nI 1)))) 6 rfl rfl rfl ?_
          show vm_WM X 113 50 [.ref 48, .int a1, .int a2, .int a3, .int a4, .int a5, .null, .null, .null] [.int ((Int32.ofInt (-1000010)) - (nI 1))] (vm_u2 (vm_u2 M4 48 1 (nI 0)) 48 1 (nI 1)) _
          exact vm_WM.ret (r := some (.int ((Int32.ofInt (-1000010)) - (nI 1)))) 27 rfl rfl rfl ⟨_, rfl, h⟩
        · replace h := h.2 hc
          refine vm_WM.seq 28 3 (pc' := 56) (L' := [.ref 48, .int a1, .int a2, .int a3, .int a4, .int a5, .null, .null, .null]) (S' := [.int a1, .ref 49]) (M' := (vm_u2 M4 48 1 (nI 0))) rfl ?_
          obtain ⟨j7, hj1, hj2, h⟩ := h
          refine vm_WM.ald (n := 8) (jj := j7) 31 rfl (Or.inl ⟨rfl, rfl⟩) (by decide) rfl hj1 hj2 ?_
          refine vm_WM.seq 32 3 (pc' := 62) (L' := [.ref 48, .int a1, .int a2, .int a3, .int a4, .int a5, .null, .null, .null]) (S' := [.int a3, .ref 49, .int ((vm_u2 M4 48 1 (nI 0)) 49 j7)]) (M' := (vm_u2 M4 48 1 (nI 0))) rfl ?_
          obtain ⟨j8, hj1, hj2, h⟩ := h
          refine vm_WM.ald (n := 8) (jj := j8) 35 rfl (Or.inl ⟨rfl, rfl⟩) (by decide) rfl hj1 hj2 ?_
          refine vm_WM.if (c := ((vm_u2 M4 48 1 (nI 0)) 49 j7) = ((vm_u2 M4 48 1 (nI 0)) 49 j8)) (t1 := 72) (t2 := 66) (S' := []) 36 rfl rfl rfl (fun hc => ?_) (fun hc => ?_)
          · replace h := h.1 hc
            refine vm_WM.seq 41 1 (pc' := 73) (L' := [.ref 48, .int a1, .int a2, .int a3, .int a4, .int a5, .null, .null, .null]) (S' := [.int a2]) (M' := (vm_u2 M4 48 1 (nI 0))) rfl ?_
            refine vm_WM.if (c := a2 < 0) (t1 := 121) (t2 := 76) (S' := []) 42 rfl rfl rfl (fun hc => ?_) (fun hc => ?_)
            · replace h := h.1 hc
              refine vm_WM.seq 71 2 (pc' := 123) (L' := [.ref 48, .int a1, .int a2, .int a3, .int a4, .int a5, .null, .null, .null]) (S' := [.int (nI 2), .ref 48]) (M' := (vm_u2 M4 48 1 (nI 0))) rfl ?_
              refine vm_WM.call (a := 109) (as := [.ref 48, .int (nI 2)]) (rest := []) (L0 := [.ref 48, .int (nI 2)]) 73 rfl rfl (by decide) rfl rfl ⟨rfl, Or.inr rfl, Nat.le_of_ble_eq_true rfl, Nat.le_of_ble_eq_true rfl⟩ rfl rfl rfl ?_
              refine vm_WM.seq 0 6 (pc' := 9) (L' := [.ref 48, .int (nI 2)]) (S' := [.int ((Int32.ofInt (-1000010)) - (nI 2))]) (M' := (vm_u2 (vm_u2 M4 48 1 (nI 0)) 48 1 (nI 2))) rfl ?_
              refine vm_WM.ret (r := some (.int ((Int32.ofInt (-1000010)) - (nI 2)))) 6 rfl rfl rfl ?_
              show vm_WM X 113 126 [.ref 48, .int a1, .int a2, .int a3, .int a4, .int a5, .null, .null, .null] [.int ((Int32.ofInt (-1000010)) - (nI 2))] (vm_u2 (vm_u2 M4 48 1 (nI 0)) 48 1 (nI 2)) _
              exact vm_WM.ret (r := some (.int ((Int32.ofInt (-1000010)) - (nI 2)))) 74 rfl rfl rfl ⟨_, rfl, h⟩
            · replace h := h.2 hc
              refine vm_WM.seq 43 1 (pc' := 78) (L' := [.ref 48, .int a1, .int a2, .int a3, .int a4, .int a5, .null, .null, .null]) (S' := [.int a4]) (M' := (vm_u2 M4 48 1 (nI 0))) rfl ?_
              refine vm_WM.if (c := a4 < 0) (t1 := 121) (t2 := 81) (S' := []) 44 rfl rfl rfl (fun hc => ?_) (fun hc => ?_)
              · replace h := h.1 hc
                refine vm_WM.seq 71 2 (pc' := 123) (L' := [.ref 48, .int a1, .int a2, .int a3, .int a4, .int a5, .null, .null, .null]) (S' := [.int (nI 2), .ref 48]) (M' := (vm_u2 M4 48 1 (nI 0))) rfl ?_
                refine vm_WM.call (a := 109) (as := [.ref 48, .int (nI 2)]) (rest := []) (L0 := [.ref 48, .int (nI 2)]) 73 rfl rfl (by decide) rfl rfl ⟨rfl, Or.inr rfl, Nat.le_of_ble_eq_true rfl, Nat.le_of_ble_eq_true rfl⟩ rfl rfl rfl ?_
                refine vm_WM.seq 0 6 (pc' := 9) (L' := [.ref 48, .int (nI 2)]) (S' := [.int ((Int32.ofInt (-1000010)) - (nI 2))]) (M' := (vm_u2 (vm_u2 M4 48 1 (nI 0)) 48 1 (nI 2))) rfl ?_
                refine vm_WM.ret (r := some (.int ((Int32.ofInt (-1000010)) - (nI 2)))) 6 rfl rfl rfl ?_
                show vm_WM X 113 126 [.ref 48, .int a1, .int a2, .int a3, .int a4, .int a5, .null, .null, .null] [.int ((Int32.ofInt (-1000010)) - (nI 2))] (vm_u2 (vm_u2 M4 48 1 (nI 0)) 48 1 (nI 2)) _
                exact vm_WM.ret (r := some (.int ((Int32.ofInt (-1000010)) - (nI 2)))) 74 rfl rfl rfl ⟨_, rfl, h⟩
              · replace h := h.2 hc
                refine vm_WM.seq 45 1 (pc' := 83) (L' := [.ref 48, .int a1, .int a2, .int a3, .int a4, .int a5, .null, .null, .null]) (S' := [.int a5]) (M' := (vm_u2 M4 48 1 (nI 0))) rfl ?_
                refine vm_WM.if (c := a5 < 0) (t1 := 121) (t2 := 86) (S' := []) 46 rfl rfl rfl (fun hc => ?_) (fun hc => ?_)
                · replace h := h.1 hc
                  refine vm_WM.seq 71 2 (pc' := 123) (L' := [.ref 48, .int a1, .int a2, .int a3, .int a4, .int a5, .null, .null, .null]) (S' := [.int (nI 2), .ref 48]) (M' := (vm_u2 M4 48 1 (nI 0))) rfl ?_
                  refine vm_WM.call (a := 109) (as := [.ref 48, .int (nI 2)]) (rest := []) (L0 := [.ref 48, .int (nI 2)]) 73 rfl rfl (by decide) rfl rfl ⟨rfl, Or.inr rfl, Nat.le_of_ble_eq_true rfl, Nat.le_of_ble_eq_true rfl⟩ rfl rfl rfl ?_
                  refine vm_WM.seq 0 6 (pc' := 9) (L' := [.ref 48, .int (nI 2)]) (S' := [.int ((Int32.ofInt (-1000010)) - (nI 2))]) (M' := (vm_u2 (vm_u2 M4 48 1 (nI 0)) 48 1 (nI 2))) rfl ?_
                  refine vm_WM.ret (r := some (.int ((Int32.ofInt (-1000010)) - (nI 2)))) 6 rfl rfl rfl ?_
                  show vm_WM X 113 126 [.ref 48, .int a1, .int a2, .int a3, .int a4, .int a5, .null, .null, .null] [.int ((Int32.ofInt (-1000010)) - (nI 2))] (vm_u2 (vm_u2 M4 48 1 (nI 0)) 48 1 (nI 2)) _
                  exact vm_WM.ret (r := some (.int ((Int32.ofInt (-1000010)) - (nI 2)))) 74 rfl rfl rfl ⟨_, rfl, h⟩
                · replace h := h.2 hc
                  refine vm_WM.seq 47 8 (pc' := 97) (L' := [.ref 48, .int a1, .int a2, .int a3, .int a4, .int a5, .null, .null, .null]) (S' := [.int a1, .ref 50, .long (((a2).toInt64) + ((a5).toInt64))]) (M' := (vm_u2 M4 48 1 (nI 0))) rfl ?_
                  obtain ⟨j9, hj1, hj2, h⟩ := h
                  refine vm_WM.ald (n := 8) (jj := j9) 55 rfl (Or.inl ⟨rfl, rfl⟩) (by decide) rfl hj1 hj2 ?_
                  refine vm_WM.seq 56 2 (pc' := 100) (L' := [.ref 48, .int a1, .int a2, .int a3, .int a4, .int a5, .null, .null, .null]) (S' := [.int (lg_cmp (((a2).toInt64) + ((a5).toInt64)) ((((vm_u2 M4 48 1 (nI 0)) 50 j9)).toInt64))]) (M' := (vm_u2 M4 48 1 (nI 0))) rfl ?_
                  refine vm_WM.if (c := 0 < (lg_cmp (((a2).toInt64) + ((a5).toInt64)) ((((vm_u2 M4 48 1 (nI 0)) 50 j9)).toInt64))) (t1 := 121) (t2 := 103) (S' := []) 58 rfl rfl rfl (fun hc => ?_) (fun hc => ?_)
                  · replace h := h.1 hc
                    refine vm_WM.seq 71 2 (pc' := 123) (L' := [.ref 48, .int a1, .int a2, .int a3, .int a4, .int a5, .null, .null, .null]) (S' := [.int (nI 2), .ref 48]) (M' := (vm_u2 M4 48 1 (nI 0))) rfl ?_
                    refine vm_WM.call (a := 109) (as := [.ref 48, .int (nI 2)]) (rest := []) (L0 := [.ref 48, .int (nI 2)]) 73 rfl rfl (by decide) rfl rfl ⟨rfl, Or.inr rfl, Nat.le_of_ble_eq_true rfl, Nat.le_of_ble_eq_true rfl⟩ rfl rfl rfl ?_
                    refine vm_WM.seq 0 6 (pc' := 9) (L' := [.ref 48, .int (nI 2)]) (S' := [.int ((Int32.ofInt (-1000010)) - (nI 2))]) (M' := (vm_u2 (vm_u2 M4 48 1 (nI 0)) 48 1 (nI 2))) rfl ?_
                    refine vm_WM.ret (r := some (.int ((Int32.ofInt (-1000010)) - (nI 2)))) 6 rfl rfl rfl ?_
                    show vm_WM X 113 126 [.ref 48, .int a1, .int a2, .int a3, .int a4, .int a5, .null, .null, .null] [.int ((Int32.ofInt (-1000010)) - (nI 2))] (vm_u2 (vm_u2 M4 48 1 (nI 0)) 48 1 (nI 2)) _
                    exact vm_WM.ret (r := some (.int ((Int32.ofInt (-1000010)) - (nI 2)))) 74 rfl rfl rfl ⟨_, rfl, h⟩
                  · replace h := h.2 hc
                    refine vm_WM.seq 59 8 (pc' := 115) (L' := [.ref 48, .int a1, .int a2, .int a3, .int a4, .int a5, .null, .null, .null]) (S' := [.int a3, .ref 50, .long (((a4).toInt64) + ((a5).toInt64))]) (M' := (vm_u2 M4 48 1 (nI 0))) rfl ?_
                    obtain ⟨j10, hj1, hj2, h⟩ := h
                    refine vm_WM.ald (n := 8) (jj := j10) 67 rfl (Or.inl ⟨rfl, rfl⟩) (by decide) rfl hj1 hj2 ?_
                    refine vm_WM.seq 68 2 (pc' := 118) (L' := [.ref 48, .int a1, .int a2, .int a3, .int a4, .int a5, .null, .null, .null]) (S' := [.int (lg_cmp (((a4).toInt64) + ((a5).toInt64)) ((((vm_u2 M4 48 1 (nI 0)) 50 j10)).toInt64))]) (M' := (vm_u2 M4 48 1 (nI 0))) rfl ?_
                    refine vm_WM.if (c := 0 < (lg_cmp (((a4).toInt64) + ((a5).toInt64)) ((((vm_u2 M4 48 1 (nI 0)) 50 j10)).toInt64))) (t1 := 121) (t2 := 127) (S' := []) 70 rfl rfl rfl (fun hc => ?_) (fun hc => ?_)
                    · replace h := h.1 hc
                      refine vm_WM.seq 71 2 (pc' := 123) (L' := [.ref 48, .int a1, .int a2, .int a3, .int a4, .int a5, .null, .null, .null]) (S' := [.int (nI 2), .ref 48]) (M' := (vm_u2 M4 48 1 (nI 0))) rfl ?_
                      refine vm_WM.call (a := 109) (as := [.ref 48, .int (nI 2)]) (rest := []) (L0 := [.ref 48, .int (nI 2)]) 73 rfl rfl (by decide) rfl rfl ⟨rfl, Or.inr rfl, Nat.le_of_ble_eq_true rfl, Nat.le_of_ble_eq_true rfl⟩ rfl rfl rfl ?_
                      refine vm_WM.seq 0 6 (pc' := 9) (L' := [.ref 48, .int (nI 2)]) (S' := [.int ((Int32.ofInt (-1000010)) - (nI 2))]) (M' := (vm_u2 (vm_u2 M4 48 1 (nI 0)) 48 1 (nI 2))) rfl ?_
                      refine vm_WM.ret (r := some (.int ((Int32.ofInt (-1000010)) - (nI 2)))) 6 rfl rfl rfl ?_
                      show vm_WM X 113 126 [.ref 48, .int a1, .int a2, .int a3, .int a4, .int a5, .null, .null, .null] [.int ((Int32.ofInt (-1000010)) - (nI 2))] (vm_u2 (vm_u2 M4 48 1 (nI 0)) 48 1 (nI 2)) _
                      exact vm_WM.ret (r := some (.int ((Int32.ofInt (-1000010)) - (nI 2)))) 74 rfl rfl rfl ⟨_, rfl, h⟩
                    · replace h := h.2 hc
                      refine vm_WM.seq 75 2 (pc' := 130) (L' := [.ref 48, .int a1, .int a2, .int a3, .int a4, .int a5, .null, .null, .null]) (S' := [.int a4, .int a2]) (M' := (vm_u2 M4 48 1 (nI 0))) rfl ?_
                      refine vm_WM.if (c := a2 < a4) (t1 := 137) (t2 := 133) (S' := []) 77 rfl rfl rfl (fun hc => ?_) (fun hc => ?_)
                      · replace h := h.1 hc
                        refine vm_WM.seq 80 4 (pc' := 143) (L' := [.ref 48, .int a1, .int a2, .int a3, .int a4, .int a5, .int (nI 0), .int (nI 0), .null]) (S' := []) (M' := (vm_u2 M4 48 1 (nI 0))) rfl ?_
                        exact h
                      · replace h := h.2 hc
                        refine vm_WM.seq 78 2 (pc' := 138) (L' := [.ref 48, .int a1, .int a2, .int a3, .int a4, .int a5, .null, .null, .null]) (S' := [.int (nI 1)]) (M' := (vm_u2 M4 48 1 (nI 0))) rfl ?_
                        refine vm_WM.seq 81 3 (pc' := 143) (L' := [.ref 48, .int a1, .int a2, .int a3, .int a4, .int a5, .int (nI 1), .int (nI 0), .null]) (S' := []) (M' := (vm_u2 M4 48 1 (nI 0))) rfl ?_
                        exact h
          · replace h := h.2 hc
            refine vm_WM.seq 37 2 (pc' := 68) (L' := [.ref 48, .int a1, .int a2, .int a3, .int a4, .int a5, .null, .null, .null]) (S' := [.int (nI 5), .ref 48]) (M' := (vm_u2 M4 48 1 (nI 0))) rfl ?_
            refine vm_WM.call (a := 109) (as := [.ref 48, .int (nI 5)]) (rest := []) (L0 := [.ref 48, .int (nI 5)]) 39 rfl rfl (by decide) rfl rfl ⟨rfl, Or.inr rfl, Nat.le_of_ble_eq_true rfl, Nat.le_of_ble_eq_true rfl⟩ rfl rfl rfl ?_
            refine vm_WM.seq 0 6 (pc' := 9) (L' := [.ref 48, .int (nI 5)]) (S' := [.int ((Int32.ofInt (-1000010)) - (nI 5))]) (M' := (vm_u2 (vm_u2 M4 48 1 (nI 0)) 48 1 (nI 5))) rfl ?_
            refine vm_WM.ret (r := some (.int ((Int32.ofInt (-1000010)) - (nI 5)))) 6 rfl rfl rfl ?_
            show vm_WM X 113 71 [.ref 48, .int a1, .int a2, .int a3, .int a4, .int a5, .null, .null, .null] [.int ((Int32.ofInt (-1000010)) - (nI 5))] (vm_u2 (vm_u2 M4 48 1 (nI 0)) 48 1 (nI 5)) _
            exact vm_WM.ret (r := some (.int ((Int32.ofInt (-1000010)) - (nI 5)))) 40 rfl rfl rfl ⟨_, rfl, h⟩
theorem v_M_copy_143 {X : Nat × (Nat → Int32)} {x1 : Int32} {x2 : Int32} {x3 : Int32} {x4 : Int32} {x5 : Int32} {x6 : Int32} {x7 : Int32} {w8 : Value} {M : vm_M} {P : Int32 → vm_M → Prop} (h : (x7 < x5 → ((x6 = 0 → (∃ j1 : Nat, ((((nI 40) * x1) + x2) + ((x5 - (nI 1)) - x7)) = nI j1 ∧ j1 < 320 ∧ (∃ j2 : Nat, ((((nI 40) * x3) + x4) + ((x5 - (nI 1)) - x7)) = nI j2 ∧ j2 < 320 ∧ (C_M_copy_143 X x1 x2 x3 x4 x5 x6 (x7 + (nI 1)) (.int ((x5 - (nI 1)) - x7)) (vm_u2 M 51 j2 (M 51 j1)) P)))) ∧ (¬ (x6 = 0) → (∃ j3 : Nat, ((((nI 40) * x1) + x2) + x7) = nI j3 ∧ j3 < 320 ∧ (∃ j4 : Nat, ((((nI 40) * x3) + x4) + x7) = nI j4 ∧ j4 < 320 ∧ (C_M_copy_143 X x1 x2 x3 x4 x5 x6 (x7 + (nI 1)) (.int x7) (vm_u2 M 51 j4 (M 51 j3)) P)))))) ∧ (¬ (x7 < x5) → (P x5 M))) : C_M_copy_143 X x1 x2 x3 x4 x5 x6 x7 w8 M P := by
  unfold C_M_copy_143
  refine vm_WM.seq 84 2 (pc' := 147) (L' := [.ref 48, .int x1, .int x2, .int x3, .int x4, .int x5, .int x6, .int x7, w8]) (S' := [.int x5, .int x7]) (M' := M) rfl ?_
  refine vm_WM.if (c := x7 < x5) (t1 := 150) (t2 := 204) (S' := []) 86 rfl rfl rfl (fun hc => ?_) (fun hc => ?_)
  · replace h := h.1 hc
    refine vm_WM.seq 87 1 (pc' := 152) (L' := [.ref 48, .int x1, .int x2, .int x3, .int x4, .int x5, .int x6, .int x7, w8]) (S' := [.int x6]) (M' := M) rfl ?_
    refine vm_WM.if (c := x6 = 0) (t1 := 160) (t2 := 155) (S' := []) 88 rfl rfl rfl (fun hc => ?_) (fun hc => ?_)
    · replace h := h.1 hc
      refine vm_WM.seq 91 24 (pc' := 196) (L' := [.ref 48, .int x1, .int x2, .int x3, .int x4, .int x5, .int x6, .int x7, .int ((x5 - (nI 1)) - x7)]) (S' := [.int ((((nI 40) * x1) + x2) + ((x5 - (nI 1)) - x7)), .ref 51, .int ((((nI 40) * x3) + x4) + ((x5 - (nI 1)) - x7)), .ref 51]) (M' := M) rfl ?_
      obtain ⟨j1, hj1, hj2, h⟩ := h
      refine vm_WM.ald (n := 320) (jj := j1) 115 rfl (Or.inl ⟨rfl, rfl⟩) (by decide) rfl hj1 hj2 ?_
      obtain ⟨j2, hj1, hj2, h⟩ := h
      refine vm_WM.ast (n := 320) (jj := j2) 116 rfl rfl hj1 hj2 ?_
      refine vm_WM.seq 117 2 (pc' := 143) (L' := [.ref 48, .int x1, .int x2, .int x3, .int x4, .int x5, .int x6, .int (x7 + (nI 1)), .int ((x5 - (nI 1)) - x7)]) (S' := []) (M' := (vm_u2 M 51 j2 (M 51 j1))) rfl ?_
      exact h
    · replace h := h.2 hc
      refine vm_WM.seq 89 2 (pc' := 167) (L' := [.ref 48, .int x1, .int x2, .int x3, .int x4, .int x5, .int x6, .int x7, w8]) (S' := [.int x7]) (M' := M) rfl ?_
      refine vm_WM.seq 96 19 (pc' := 196) (L' := [.ref 48, .int x1, .int x2, .int x3, .int x4, .int x5, .int x6, .int x7, .int x7]) (S' := [.int ((((nI 40) * x1) + x2) + x7), .ref 51, .int ((((nI 40) * x3) + x4) + x7), .ref 51]) (M' := M) rfl ?_
      obtain ⟨j3, hj1, hj2, h⟩ := h
      refine vm_WM.ald (n := 320) (jj := j3) 115 rfl (Or.inl ⟨rfl, rfl⟩) (by decide) rfl hj1 hj2 ?_
      obtain ⟨j4, hj1, hj2, h⟩ := h
      refine vm_WM.ast (n := 320) (jj := j4) 116 rfl rfl hj1 hj2 ?_
      refine vm_WM.seq 117 2 (pc' := 143) (L' := [.ref 48, .int x1, .int x2, .int x3, .int x4, .int x5, .int x6, .int (x7 + (nI 1)), .int x7]) (S' := []) (M' := (vm_u2 M 51 j4 (M 51 j3))) rfl ?_
      exact h
  · replace h := h.2 hc
    refine vm_WM.seq 119 1 (pc' := 206) (L' := [.ref 48, .int x1, .int x2, .int x3, .int x4, .int x5, .int x6, .int x7, w8]) (S' := [.int x5]) (M' := M) rfl ?_
    exact vm_WM.ret (r := some (.int x5)) 120 rfl rfl rfl ⟨_, rfl, h⟩
theorem v_M_drop {X : Nat × (Nat → Int32)} {a1 : Int32} {M : vm_M} {P : Int32 → vm_M → Prop} (h : E_M_isRow X a1 (vm_u2 M 48 0 (nI 0)) (fun v1 M2 => (v1 = 0 → (P (Int32.ofInt (-1000001)) M2)) ∧ (¬ (v1 = 0) → (∃ j3 : Nat, a1 = nI j3 ∧ j3 < 8 ∧ ((((vm_u2 M2 48 1 (nI 0)) 49 j3) < 0 → (P ((Int32.ofInt (-1000010)) - (nI 1)) (vm_u2 (vm_u2 M2 48 1 (nI 0)) 48 1 (nI 1)))) ∧ (¬ (((vm_u2 M2 48 1 (nI 0)) 49 j3) < 0) → (∃ j4 : Nat, a1 = nI j4 ∧ j4 < 8 ∧ (∃ j5 : Nat, a1 = nI j5 ∧ j5 < 8 ∧ (P ((vm_u2 (vm_u2 M2 48 1 (nI 0)) 49 j4 (Int32.ofInt (-1))) 50 j5) (vm_u2 (vm_u2 M2 48 1 (nI 0)) 49 j4 (Int32.ofInt (-1)))))))))))) : E_M_drop X a1 M P := by
  unfold E_M_drop
  refine vm_WM.seq 0 4 (pc' := 6) (L' := [.ref 48, .int a1]) (S' := [.int a1]) (M' := (vm_u2 M 48 0 (nI 0))) rfl ?_
  refine vm_WM.call (a := 110) (as := [.int a1]) (rest := []) (L0 := [.int a1]) 4 rfl rfl (by decide) rfl rfl ⟨rfl, Or.inl rfl, Nat.le_of_ble_eq_true rfl, Nat.le_of_ble_eq_true rfl⟩ rfl rfl rfl ?_
  refine vm_WM.theni h (fun v1 M2 h => ?_)
  show vm_WM X 114 9 [.ref 48, .int a1] [.int v1] M2 _
  refine vm_WM.if (c := v1 = 0) (t1 := 12) (t2 := 15) (S' := []) 5 rfl rfl rfl (fun hc => ?_) (fun hc => ?_)
  · replace h := h.1 hc
    refine vm_WM.seq 6 1 (pc' := 14) (L' := [.ref 48, .int a1]) (S' := [.int (Int32.ofInt (-1000001))]) (M' := M2) rfl ?_
    exact vm_WM.ret (r := some (.int (Int32.ofInt (-1000001)))) 7 rfl rfl rfl ⟨_, rfl, h⟩
  · replace h := h.2 hc
    refine vm_WM.seq 8 6 (pc' := 25) (L' := [.ref 48, .int a1]) (S' := [.int a1, .ref 49]) (M' := (vm_u2 M2 48 1 (nI 0))) rfl ?_
    obtain ⟨j3, hj1, hj2, h⟩ := h
    refine vm_WM.ald (n := 8) (jj := j3) 14 rfl (Or.inl ⟨rfl, rfl⟩) (by decide) rfl hj1 hj2 ?_
    refine vm_WM.if (c := ((vm_u2 M2 48 1 (nI 0)) 49 j3) < 0) (t1 := 29) (t2 := 35) (S' := []) 15 rfl rfl rfl (fun hc => ?_) (fun hc => ?_)
    · replace h := h.1 hc
      refine vm_WM.seq 16 2 (pc' := 31) (L' := [.ref 48, .int a1]) (S' := [.int (nI 1), .ref 48]) (M' := (vm_u2 M2 48 1 (nI 0))) rfl ?_
      refine vm_WM.call (a := 109) (as := [.ref 48, .int (nI 1)]) (rest := []) (L0 := [.ref 48, .int (nI 1)]) 18 rfl rfl (by decide) rfl rfl ⟨rfl, Or.inr rfl, Nat.le_of_ble_eq_true rfl, Nat.le_of_ble_eq_true rfl⟩ rfl rfl rfl ?_
      refine vm_WM.seq 0 6 (pc' := 9) (L' := [.ref 48, .int (nI 1)]) (S' := [.int ((Int32.ofInt (-1000010)) - (nI 1))]) (M' := (vm_u2 (vm_u2 M2 48 1 (nI 0)) 48 1 (nI 1))) rfl ?_
      refine vm_WM.ret (r := some (.int ((Int32.ofInt (-1000010)) - (nI 1)))) 6 rfl rfl rfl ?_
      show vm_WM X 114 34 [.ref 48, .int a1] [.int ((Int32.ofInt (-1000010)) - (nI 1))] (vm_u2 (vm_u2 M2 48 1 (nI 0)) 48 1 (nI 1)) _
      exact vm_WM.ret (r := some (.int ((Int32.ofInt (-1000010)) - (nI 1)))) 19 rfl rfl rfl ⟨_, rfl, h⟩
    · replace h := h.2 hc
      refine vm_WM.seq 20 4 (pc' := 41) (L' := [.ref 48, .int a1]) (S' := [.int (Int32.ofInt (-1)), .int a1, .ref 49]) (M' := (vm_u2 M2 48 1 (nI 0))) rfl ?_
      obtain ⟨j4, hj1, hj2, h⟩ := h
      refine vm_WM.ast (n := 8) (jj := j4) 24 rfl rfl hj1 hj2 ?_
      refine vm_WM.seq 25 3 (pc' := 47) (L' := [.ref 48, .int a1]) (S' := [.int a1, .ref 50]) (M' := (vm_u2 (vm_u2 M2 48 1 (nI 0)) 49 j4 (Int32.ofInt (-1)))) rfl ?_
      obtain ⟨j5, hj1, hj2, h⟩ := h
      refine vm_WM.ald (n := 8) (jj := j5) 28 rfl (Or.inl ⟨rfl, rfl⟩) (by decide) rfl hj1 hj2 ?_
      exact vm_WM.ret (r := some (.int ((vm_u2 (vm_u2 M2 48 1 (nI 0)) 49 j4 (Int32.ofInt (-1))) 50 j5))) 29 rfl rfl rfl ⟨_, rfl, h⟩
theorem v_M_feed {X : Nat × (Nat → Int32)} {a1 : Int64} {a2 : Int32} {M : vm_M} {P : Int32 → vm_M → Prop} (h : E_M_in X ((a2).toInt64) (Int64.ofNat 1) (Int64.ofInt 8) (vm_u2 M 48 0 (nI 0)) (fun v1 M2 => (v1 = 0 → (P (Int32.ofInt (-1000001)) M2)) ∧ (¬ (v1 = 0) → (((nI 400) < ((M2 48 10) + a2) → (P (Int32.ofInt (-1000003)) M2)) ∧ (¬ ((nI 400) < ((M2 48 10) + a2)) → (C_M_feed_40 X a1 (.null) a2 (a2 - (nI 1)) M2 P)))))) : E_M_feed X a1 a2 M P := by
  unfold E_M_feed
  refine vm_WM.seq 0 7 (pc' := 11) (L' := [.ref 48, .long a1, .null, .int a2, .null]) (S' := [.long (Int64.ofInt 8), .long (Int64.ofNat 1), .long ((a2).toInt64)]) (M' := (vm_u2 M 48 0 (nI 0))) rfl ?_
  refine vm_WM.call (a := 108) (as := [.long ((a2).toInt64), .long (Int64.ofNat 1), .long (Int64.ofInt 8)]) (rest := []) (L0 := [.long ((a2).toInt64), .null, .long (Int64.ofNat 1), .null, .long (Int64.ofInt 8), .null]) 7 rfl rfl (by decide) rfl rfl ⟨rfl, Or.inl rfl, Nat.le_of_ble_eq_true rfl, Nat.le_of_ble_eq_true rfl⟩ rfl rfl rfl ?_
  refine vm_WM.theni h (fun v1 M2 h => ?_)
  show vm_WM X 115 14 [.ref 48, .long a1, .null, .int a2, .null] [.int v1] M2 _
  refine vm_WM.if (c := v1 = 0) (t1 := 17) (t2 := 20) (S' := []) 8 rfl rfl rfl (fun hc => ?_) (fun hc => ?_)
  · replace h := h.1 hc
    refine vm_WM.seq 9 1 (pc' := 19) (L' := [.ref 48, .long a1, .null, .int a2, .null]) (S' := [.int (Int32.ofInt (-1000001))]) (M' := M2) rfl ?_
    exact vm_WM.ret (r := some (.int (Int32.ofInt (-1000001)))) 10 rfl rfl rfl ⟨_, rfl, h⟩
  · replace h := h.2 hc
    refine vm_WM.seq 11 5 (pc' := 29) (L' := [.ref 48, .long a1, .null, .int a2, .null]) (S' := [.int (nI 400), .int ((M2 48 10) + a2)]) (M' := M2) rfl ?_
    refine vm_WM.if (c := (nI 400) < ((M2 48 10) + a2)) (t1 := 32) (t2 := 35) (S' := []) 16 rfl rfl rfl (fun hc => ?_) (fun hc => ?_)
    · replace h := h.1 hc
      refine vm_WM.seq 17 1 (pc' := 34) (L' := [.ref 48, .long a1, .null, .int a2, .null]) (S' := [.int (Int32.ofInt (-1000003))]) (M' := M2) rfl ?_
      exact vm_WM.ret (r := some (.int (Int32.ofInt (-1000003)))) 18 rfl rfl rfl ⟨_, rfl, h⟩
    · replace h := h.2 hc
      refine vm_WM.seq 19 4 (pc' := 40) (L' := [.ref 48, .long a1, .null, .int a2, .int (a2 - (nI 1))]) (S' := []) (M' := M2) rfl ?_
      exact h
theorem v_M_feed_40 {X : Nat × (Nat → Int32)} {x1 : Int64} {w2 : Value} {x3 : Int32} {x4 : Int32} {M : vm_M} {P : Int32 → vm_M → Prop} (h : (x4 < 0 → (P (M 48 10) M)) ∧ (¬ (x4 < 0) → (∃ j1 : Nat, (M 48 10) = nI j1 ∧ j1 < 400 ∧ (C_M_feed_40 X x1 (w2) x3 (x4 + (Int32.ofInt (-1))) (vm_u2 (vm_u2 M 55 j1 ((((x1 >>> ((((nI 8) * x4)).toInt64 &&& 63)) &&& (Int64.ofInt 255))).toInt32)) 48 10 (((vm_u2 M 55 j1 ((((x1 >>> ((((nI 8) * x4)).toInt64 &&& 63)) &&& (Int64.ofInt 255))).toInt32)) 48 10) + (nI 1))) P)))) : C_M_feed_40 X x1 w2 x3 x4 M P := by
  unfold C_M_feed_40
  refine vm_WM.seq 23 1 (pc' := 42) (L' := [.ref 48, .long x1, w2, .int x3, .int x4]) (S' := [.int x4]) (M' := M) rfl ?_
  refine vm_WM.if (c := x4 < 0) (t1 := 82) (t2 := 45) (S' := []) 24 rfl rfl rfl (fun hc => ?_) (fun hc => ?_)
  · replace h := h.1 hc
    refine vm_WM.seq 46 2 (pc' := 86) (L' := [.ref 48, .long x1, w2, .int x3, .int x4]) (S' := [.int (M 48 10)]) (M' := M) rfl ?_
    exact vm_WM.ret (r := some (.int (M 48 10))) 48 rfl rfl rfl ⟨_, rfl, h⟩
  · replace h := h.2 hc
    refine vm_WM.seq 25 12 (pc' := 65) (L' := [.ref 48, .long x1, w2, .int x3, .int x4]) (S' := [.int ((((x1 >>> ((((nI 8) * x4)).toInt64 &&& 63)) &&& (Int64.ofInt 255))).toInt32), .int (M 48 10), .ref 55]) (M' := M) rfl ?_
    obtain ⟨j1, hj1, hj2, h⟩ := h
    refine vm_WM.ast (n := 400) (jj := j1) 37 rfl rfl hj1 hj2 ?_
    refine vm_WM.seq 38 8 (pc' := 40) (L' := [.ref 48, .long x1, w2, .int x3, .int (x4 + (Int32.ofInt (-1)))]) (S' := []) (M' := (vm_u2 (vm_u2 M 55 j1 ((((x1 >>> ((((nI 8) * x4)).toInt64 &&& 63)) &&& (Int64.ofInt 255))).toInt32)) 48 10 (((vm_u2 M 55 j1 ((((x1 >>> ((((nI 8) * x4)).toInt64 &&& 63)) &&& (Int64.ofInt 255))).toInt32)) 48 10) + (nI 1)))) rfl ?_
    exact h
theorem v_M_hill {X : Nat × (Nat → Int32)}  {M : vm_M} {P : Int32 → vm_M → Prop} (h : E_M_begin X  (vm_u2 M 48 0 (nI 0)) (fun M1 => C_M_hill_11 X (nI 0) M1 P)) : E_M_hill X  M P := by
  unfold E_M_hill
  refine vm_WM.seq 0 4 (pc' := 6) (L' := [.ref 48, .null]) (S' := [.ref 48]) (M' := (vm_u2 M 48 0 (nI 0))) rfl ?_
  refine vm_WM.call (a := 120) (as := [.ref 48]) (rest := []) (L0 := [.ref 48]) 4 rfl rfl (by decide) rfl rfl ⟨rfl, Or.inr rfl, Nat.le_of_ble_eq_true rfl, Nat.le_of_ble_eq_true rfl⟩ rfl rfl rfl ?_
  refine vm_WM.thenv h (fun M1 h => ?_)
  show vm_WM X 131 9 [.ref 48, .null] [] M1 _
  refine vm_WM.seq 5 2 (pc' := 11) (L' := [.ref 48, .int (nI 0)]) (S' := []) (M' := M1) rfl ?_
  exact h
theorem v_M_hill_11 {X : Nat × (Nat → Int32)} {x1 : Int32} {M : vm_M} {P : Int32 → vm_M → Prop} (h : (x1 < (nI 70) → (∃ j1 : Nat, x1 = nI j1 ∧ j1 < 70 ∧ (C_M_hill_11 X (x1 + (nI 1)) (vm_u2 M 53 j1 (nI 0)) P))) ∧ (¬ (x1 < (nI 70)) → (E_M_name X  M (fun v2 M3 => ((lg_cmp v2 (Int64.ofInt 474214787188)) = 0 → (E_M_must X (nI 1) M3 (fun M4 => E_M_number X (nI 1) (nI 60) M4 (fun v5 M6 => E_M_number X (nI 0) (nI 60) (vm_u2 M6 53 0 v5) (fun v7 M8 => E_M_mustEnd X  (vm_u2 M8 53 1 v7) (fun M9 => E_M_name X  M9 (fun v10 M11 => ((lg_cmp v10 (Int64.ofInt 128034609063282)) = 0 → (C_M_hill_96 X x1 M11 P)) ∧ (¬ ((lg_cmp v10 (Int64.ofInt 128034609063282)) = 0) → (E_M_bad X (nI 1) M11 (fun M12 => C_M_hill_96 X x1 M12 P)))))))))) ∧ (¬ ((lg_cmp v2 (Int64.ofInt 474214787188)) = 0) → (E_M_must X (nI 0) M3 (fun M13 => E_M_number X (nI 1) (nI 60) M13 (fun v14 M15 => E_M_number X (nI 0) (nI 60) (vm_u2 M15 53 0 v14) (fun v16 M17 => E_M_mustEnd X  (vm_u2 M17 53 1 v16) (fun M18 => E_M_name X  M18 (fun v19 M20 => ((lg_cmp v19 (Int64.ofInt 128034609063282)) = 0 → (C_M_hill_96 X x1 M20 P)) ∧ (¬ ((lg_cmp v19 (Int64.ofInt 128034609063282)) = 0) → (E_M_bad X (nI 1) M20 (fun M21 => C_M_hill_96 X x1 M21 P)))))))))))))) : C_M_hill_11 X x1 M P := by
  unfold C_M_hill_11
  refine vm_WM.seq 7 2 (pc' := 14) (L' := [.ref 48, .int x1]) (S' := [.int (nI 70), .int x1]) (M' := M) rfl ?_
  refine vm_WM.if (c := x1 < (nI 70)) (t1 := 17) (t2 := 30) (S' := []) 9 rfl rfl rfl (fun hc => ?_) (fun hc => ?_)
  · replace h := h.1 hc
    refine vm_WM.seq 10 4 (pc' := 23) (L' := [.ref 48, .int x1]) (S' := [.int (nI 0), .int x1, .ref 53]) (M' := M) rfl ?_
    obtain ⟨j1, hj1, hj2, h⟩ := h
    refine vm_WM.ast (n := 70) (jj := j1) 14 rfl rfl hj1 hj2 ?_
    refine vm_WM.seq 15 2 (pc' := 11) (L' := [.ref 48, .int (x1 + (nI 1))]) (S' := []) (M' := (vm_u2 M 53 j1 (nI 0))) rfl ?_
    exact h
  · replace h := h.2 hc
    refine vm_WM.seq 17 2 (pc' := 32) (L' := [.ref 48, .int x1]) (S' := [.ref 48, .ref 48]) (M' := M) rfl ?_
    refine vm_WM.call (a := 123) (as := [.ref 48]) (rest := [.ref 48]) (L0 := [.ref 48, .null, .null, .null]) 19 rfl rfl (by decide) rfl rfl ⟨rfl, Or.inr rfl, Nat.le_of_ble_eq_true rfl, Nat.le_of_ble_eq_true rfl⟩ rfl rfl rfl ?_
    refine vm_WM.thenl h (fun v2 M3 h => ?_)
    show vm_WM X 131 35 [.ref 48, .int x1] [.long v2, .ref 48] M3 _
    refine vm_WM.seq 20 2 (pc' := 39) (L' := [.ref 48, .int x1]) (S' := [.int (lg_cmp v2 (Int64.ofInt 474214787188)), .ref 48]) (M' := M3) rfl ?_
    refine vm_WM.if (c := (lg_cmp v2 (Int64.ofInt 474214787188)) = 0) (t1 := 42) (t2 := 46) (S' := [.ref 48]) 22 rfl rfl rfl (fun hc => ?_) (fun hc => ?_)
    · replace h := h.1 hc
      refine vm_WM.seq 23 2 (pc' := 47) (L' := [.ref 48, .int x1]) (S' := [.int (nI 1), .ref 48]) (M' := M3) rfl ?_
      refine vm_WM.call (a := 122) (as := [.ref 48, .int (nI 1)]) (rest := []) (L0 := [.ref 48, .int (nI 1)]) 26 rfl rfl (by decide) rfl rfl ⟨rfl, Or.inr rfl, Nat.le_of_ble_eq_true rfl, Nat.le_of_ble_eq_true rfl⟩ rfl rfl rfl ?_
      refine vm_WM.thenv h (fun M4 h => ?_)
      show vm_WM X 131 50 [.ref 48, .int x1] [] M4 _
      refine vm_WM.seq 27 6 (pc' := 59) (L' := [.ref 48, .int x1]) (S' := [.int (nI 60), .int (nI 1), .ref 48, .int (nI 0), .ref 53]) (M' := M4) rfl ?_
      refine vm_WM.call (a := 125) (as := [.ref 48, .int (nI 1), .int (nI 60)]) (rest := [.int (nI 0), .ref 53]) (L0 := [.ref 48, .int (nI 1), .int (nI 60), .null]) 33 rfl rfl (by decide) rfl rfl ⟨rfl, Or.inr rfl, Nat.le_of_ble_eq_true rfl, Nat.le_of_ble_eq_true rfl⟩ rfl rfl rfl ?_
      refine vm_WM.theni h (fun v5 M6 h => ?_)
      show vm_WM X 131 62 [.ref 48, .int x1] [.int v5, .int (nI 0), .ref 53] M6 _
      refine vm_WM.ast (n := 70) (jj := 0) 34 rfl rfl rfl (by decide) ?_
      refine vm_WM.seq 35 6 (pc' := 72) (L' := [.ref 48, .int x1]) (S' := [.int (nI 60), .int (nI 0), .ref 48, .int (nI 1), .ref 53]) (M' := (vm_u2 M6 53 0 v5)) rfl ?_
      refine vm_WM.call (a := 125) (as := [.ref 48, .int (nI 0), .int (nI 60)]) (rest := [.int (nI 1), .ref 53]) (L0 := [.ref 48, .int (nI 0), .int (nI 60), .null]) 41 rfl rfl (by decide) rfl rfl ⟨rfl, Or.inr rfl, Nat.le_of_ble_eq_true rfl, Nat.le_of_ble_eq_true rfl⟩ rfl rfl rfl ?_
      refine vm_WM.theni h (fun v7 M8 h => ?_)
      show vm_WM X 131 75 [.ref 48, .int x1] [.int v7, .int (nI 1), .ref 53] M8 _
      refine vm_WM.ast (n := 70) (jj := 1) 42 rfl rfl rfl (by decide) ?_
      refine vm_WM.seq 43 1 (pc' := 77) (L' := [.ref 48, .int x1]) (S' := [.ref 48]) (M' := (vm_u2 M8 53 1 v7)) rfl ?_
      refine vm_WM.call (a := 127) (as := [.ref 48]) (rest := []) (L0 := [.ref 48]) 44 rfl rfl (by decide) rfl rfl ⟨rfl, Or.inr rfl, Nat.le_of_ble_eq_true rfl, Nat.le_of_ble_eq_true rfl⟩ rfl rfl rfl ?_
      refine vm_WM.thenv h (fun M9 h => ?_)
      show vm_WM X 131 80 [.ref 48, .int x1] [] M9 _
      refine vm_WM.seq 45 1 (pc' := 81) (L' := [.ref 48, .int x1]) (S' := [.ref 48]) (M' := M9) rfl ?_
      refine vm_WM.call (a := 123) (as := [.ref 48]) (rest := []) (L0 := [.ref 48, .null, .null, .null]) 46 rfl rfl (by decide) rfl rfl ⟨rfl, Or.inr rfl, Nat.le_of_ble_eq_true rfl, Nat.le_of_ble_eq_true rfl⟩ rfl rfl rfl ?_
      refine vm_WM.thenl h (fun v10 M11 h => ?_)
      show vm_WM X 131 84 [.ref 48, .int x1] [.long v10] M11 _
      refine vm_WM.seq 47 2 (pc' := 88) (L' := [.ref 48, .int x1]) (S' := [.int (lg_cmp v10 (Int64.ofInt 128034609063282))]) (M' := M11) rfl ?_
      refine vm_WM.if (c := (lg_cmp v10 (Int64.ofInt 128034609063282)) = 0) (t1 := 96) (t2 := 91) (S' := []) 49 rfl rfl rfl (fun hc => ?_) (fun hc => ?_)
      · replace h := h.1 hc
        exact h
      · replace h := h.2 hc
        refine vm_WM.seq 50 2 (pc' := 93) (L' := [.ref 48, .int x1]) (S' := [.int (nI 1), .ref 48]) (M' := M11) rfl ?_
        refine vm_WM.call (a := 121) (as := [.ref 48, .int (nI 1)]) (rest := []) (L0 := [.ref 48, .int (nI 1)]) 52 rfl rfl (by decide) rfl rfl ⟨rfl, Or.inr rfl, Nat.le_of_ble_eq_true rfl, Nat.le_of_ble_eq_true rfl⟩ rfl rfl rfl ?_
        refine vm_WM.thenv h (fun M12 h => ?_)
        show vm_WM X 131 96 [.ref 48, .int x1] [] M12 _
        exact h
    · replace h := h.2 hc
      refine vm_WM.seq 25 1 (pc' := 47) (L' := [.ref 48, .int x1]) (S' := [.int (nI 0), .ref 48]) (M' := M3) rfl ?_
      refine vm_WM.call (a := 122) (as := [.ref 48, .int (nI 0)]) (rest := []) (L0 := [.ref 48, .int (nI 0)]) 26 rfl rfl (by decide) rfl rfl ⟨rfl, Or.inr rfl, Nat.le_of_ble_eq_true rfl, Nat.le_of_ble_eq_true rfl⟩ rfl rfl rfl ?_
      refine vm_WM.thenv h (fun M13 h => ?_)
      show vm_WM X 131 50 [.ref 48, .int x1] [] M13 _
      refine vm_WM.seq 27 6 (pc' := 59) (L' := [.ref 48, .int x1]) (S' := [.int (nI 60), .int (nI 1), .ref 48, .int (nI 0), .ref 53]) (M' := M13) rfl ?_
      refine vm_WM.call (a := 125) (as := [.ref 48, .int (nI 1), .int (nI 60)]) (rest := [.int (nI 0), .ref 53]) (L0 := [.ref 48, .int (nI 1), .int (nI 60), .null]) 33 rfl rfl (by decide) rfl rfl ⟨rfl, Or.inr rfl, Nat.le_of_ble_eq_true rfl, Nat.le_of_ble_eq_true rfl⟩ rfl rfl rfl ?_
      refine vm_WM.theni h (fun v14 M15 h => ?_)
      show vm_WM X 131 62 [.ref 48, .int x1] [.int v14, .int (nI 0), .ref 53] M15 _
      refine vm_WM.ast (n := 70) (jj := 0) 34 rfl rfl rfl (by decide) ?_
      refine vm_WM.seq 35 6 (pc' := 72) (L' := [.ref 48, .int x1]) (S' := [.int (nI 60), .int (nI 0), .ref 48, .int (nI 1), .ref 53]) (M' := (vm_u2 M15 53 0 v14)) rfl ?_
      refine vm_WM.call (a := 125) (as := [.ref 48, .int (nI 0), .int (nI 60)]) (rest := [.int (nI 1), .ref 53]) (L0 := [.ref 48, .int (nI 0), .int (nI 60), .null]) 41 rfl rfl (by decide) rfl rfl ⟨rfl, Or.inr rfl, Nat.le_of_ble_eq_true rfl, Nat.le_of_ble_eq_true rfl⟩ rfl rfl rfl ?_
      refine vm_WM.theni h (fun v16 M17 h => ?_)
      show vm_WM X 131 75 [.ref 48, .int x1] [.int v16, .int (nI 1), .ref 53] M17 _
      refine vm_WM.ast (n := 70) (jj := 1) 42 rfl rfl rfl (by decide) ?_
      refine vm_WM.seq 43 1 (pc' := 77) (L' := [.ref 48, .int x1]) (S' := [.ref 48]) (M' := (vm_u2 M17 53 1 v16)) rfl ?_
      refine vm_WM.call (a := 127) (as := [.ref 48]) (rest := []) (L0 := [.ref 48]) 44 rfl rfl (by decide) rfl rfl ⟨rfl, Or.inr rfl, Nat.le_of_ble_eq_true rfl, Nat.le_of_ble_eq_true rfl⟩ rfl rfl rfl ?_
      refine vm_WM.thenv h (fun M18 h => ?_)
      show vm_WM X 131 80 [.ref 48, .int x1] [] M18 _
      refine vm_WM.seq 45 1 (pc' := 81) (L' := [.ref 48, .int x1]) (S' := [.ref 48]) (M' := M18) rfl ?_
      refine vm_WM.call (a := 123) (as := [.ref 48]) (rest := []) (L0 := [.ref 48, .null, .null, .null]) 46 rfl rfl (by decide) rfl rfl ⟨rfl, Or.inr rfl, Nat.le_of_ble_eq_true rfl, Nat.le_of_ble_eq_true rfl⟩ rfl rfl rfl ?_
      refine vm_WM.thenl h (fun v19 M20 h => ?_)
      show vm_WM X 131 84 [.ref 48, .int x1] [.long v19] M20 _
      refine vm_WM.seq 47 2 (pc' := 88) (L' := [.ref 48, .int x1]) (S' := [.int (lg_cmp v19 (Int64.ofInt 128034609063282))]) (M' := M20) rfl ?_
      refine vm_WM.if (c := (lg_cmp v19 (Int64.ofInt 128034609063282)) = 0) (t1 := 96) (t2 := 91) (S' := []) 49 rfl rfl rfl (fun hc => ?_) (fun hc => ?_)
      · replace h := h.1 hc
        exact h
      · replace h := h.2 hc
        refine vm_WM.seq 50 2 (pc' := 93) (L' := [.ref 48, .int x1]) (S' := [.int (nI 1), .ref 48]) (M' := M20) rfl ?_
        refine vm_WM.call (a := 121) (as := [.ref 48, .int (nI 1)]) (rest := []) (L0 := [.ref 48, .int (nI 1)]) 52 rfl rfl (by decide) rfl rfl ⟨rfl, Or.inr rfl, Nat.le_of_ble_eq_true rfl, Nat.le_of_ble_eq_true rfl⟩ rfl rfl rfl ?_
        refine vm_WM.thenv h (fun M21 h => ?_)
        show vm_WM X 131 96 [.ref 48, .int x1] [] M21 _
        exact h
theorem v_M_hill_96 {X : Nat × (Nat → Int32)} {x1 : Int32} {M : vm_M} {P : Int32 → vm_M → Prop} (h : E_M_name X  M (fun v1 M2 => ((lg_cmp v1 (Int64.ofInt 128034609063282)) = 0 → (E_M_readTrader X  M2 (fun M3 => C_M_hill_96 X x1 M3 P))) ∧ (¬ ((lg_cmp v1 (Int64.ofInt 128034609063282)) = 0) → (C_M_hill_114 X x1 M2 P)))) : C_M_hill_96 X x1 M P := by
  unfold C_M_hill_96
  refine vm_WM.seq 53 1 (pc' := 97) (L' := [.ref 48, .int x1]) (S' := [.ref 48]) (M' := M) rfl ?_
  refine vm_WM.call (a := 123) (as := [.ref 48]) (rest := []) (L0 := [.ref 48, .null, .null, .null]) 54 rfl rfl (by decide) rfl rfl ⟨rfl, Or.inr rfl, Nat.le_of_ble_eq_true rfl, Nat.le_of_ble_eq_true rfl⟩ rfl rfl rfl ?_
  refine vm_WM.thenl h (fun v1 M2 h => ?_)
  show vm_WM X 131 100 [.ref 48, .int x1] [.long v1] M2 _
  refine vm_WM.seq 55 2 (pc' := 104) (L' := [.ref 48, .int x1]) (S' := [.int (lg_cmp v1 (Int64.ofInt 128034609063282))]) (M' := M2) rfl ?_
  refine vm_WM.if (c := (lg_cmp v1 (Int64.ofInt 128034609063282)) = 0) (t1 := 107) (t2 := 114) (S' := []) 57 rfl rfl rfl (fun hc => ?_) (fun hc => ?_)
  · replace h := h.1 hc
    refine vm_WM.seq 58 1 (pc' := 108) (L' := [.ref 48, .int x1]) (S' := [.ref 48]) (M' := M2) rfl ?_
    refine vm_WM.call (a := 129) (as := [.ref 48]) (rest := []) (L0 := [.ref 48, .null, .null, .null, .null]) 59 rfl rfl (by decide) rfl rfl ⟨rfl, Or.inr rfl, Nat.le_of_ble_eq_true rfl, Nat.le_of_ble_eq_true rfl⟩ rfl rfl rfl ?_
    refine vm_WM.thenv h (fun M3 h => ?_)
    show vm_WM X 131 111 [.ref 48, .int x1] [] M3 _
    refine vm_WM.seq 60 1 (pc' := 96) (L' := [.ref 48, .int x1]) (S' := []) (M' := M3) rfl ?_
    exact h
  · replace h := h.2 hc
    exact h
theorem v_M_hill_114 {X : Nat × (Nat → Int32)} {x1 : Int32} {M : vm_M} {P : Int32 → vm_M → Prop} (h : E_M_name X  M (fun v1 M2 => ((lg_cmp v1 (Int64.ofInt 7823737)) = 0 → (E_M_readWay X  M2 (fun M3 => C_M_hill_114 X x1 M3 P))) ∧ (¬ ((lg_cmp v1 (Int64.ofInt 7823737)) = 0) → (((M2 48 17) = 0 → (((M2 48 14) = (nI 1) → ((0 < (M2 48 17) → (P ((Int32.ofInt (-1000100)) - ((vm_u2 M2 48 11 (M2 48 17)) 48 18)) (vm_u2 M2 48 11 (M2 48 17)))) ∧ (¬ (0 < (M2 48 17)) → (C_M_hill_182 X (nI 0) (vm_u2 M2 48 8 (nI 0)) P)))) ∧ (¬ ((M2 48 14) = (nI 1)) → (E_M_bad X (nI 1) M2 (fun M4 => (0 < (M4 48 17) → (P ((Int32.ofInt (-1000100)) - ((vm_u2 M4 48 11 (M4 48 17)) 48 18)) (vm_u2 M4 48 11 (M4 48 17)))) ∧ (¬ (0 < (M4 48 17)) → (C_M_hill_182 X (nI 0) (vm_u2 M4 48 8 (nI 0)) P))))))) ∧ (¬ ((M2 48 17) = 0) → ((0 < (M2 48 17) → (P ((Int32.ofInt (-1000100)) - ((vm_u2 M2 48 11 (M2 48 17)) 48 18)) (vm_u2 M2 48 11 (M2 48 17)))) ∧ (¬ (0 < (M2 48 17)) → (C_M_hill_182 X (nI 0) (vm_u2 M2 48 8 (nI 0)) P)))))))) : C_M_hill_114 X x1 M P := by
  unfold C_M_hill_114
  refine vm_WM.seq 61 1 (pc' := 115) (L' := [.ref 48, .int x1]) (S' := [.ref 48]) (M' := M) rfl ?_
  refine vm_WM.call (a := 123) (as := [.ref 48]) (rest := []) (L0 := [.ref 48, .null, .null, .null]) 62 rfl rfl (by decide) rfl rfl ⟨rfl, Or.inr rfl, Nat.le_of_ble_eq_true rfl, Nat.le_of_ble_eq_true rfl⟩ rfl rfl rfl ?_
  refine vm_WM.thenl h (fun v1 M2 h => ?_)
  show vm_WM X 131 118 [.ref 48, .int x1] [.long v1] M2 _
  refine vm_WM.seq 63 2 (pc' := 122) (L' := [.ref 48, .int x1]) (S' := [.int (lg_cmp v1 (Int64.ofInt 7823737))]) (M' := M2) rfl ?_
  refine vm_WM.if (c := (lg_cmp v1 (Int64.ofInt 7823737)) = 0) (t1 := 125) (t2 := 132) (S' := []) 65 rfl rfl rfl (fun hc => ?_) (fun hc => ?_)
  · replace h := h.1 hc
    refine vm_WM.seq 66 1 (pc' := 126) (L' := [.ref 48, .int x1]) (S' := [.ref 48]) (M' := M2) rfl ?_
    refine vm_WM.call (a := 130) (as := [.ref 48]) (rest := []) (L0 := [.ref 48, .null, .null, .null, .null, .null]) 67 rfl rfl (by decide) rfl rfl ⟨rfl, Or.inr rfl, Nat.le_of_ble_eq_true rfl, Nat.le_of_ble_eq_true rfl⟩ rfl rfl rfl ?_
    refine vm_WM.thenv h (fun M3 h => ?_)
    show vm_WM X 131 129 [.ref 48, .int x1] [] M3 _
    refine vm_WM.seq 68 1 (pc' := 114) (L' := [.ref 48, .int x1]) (S' := []) (M' := M3) rfl ?_
    exact h
  · replace h := h.2 hc
    refine vm_WM.seq 69 2 (pc' := 136) (L' := [.ref 48, .int x1]) (S' := [.int (M2 48 17)]) (M' := M2) rfl ?_
    refine vm_WM.if (c := (M2 48 17) = 0) (t1 := 139) (t2 := 152) (S' := []) 71 rfl rfl rfl (fun hc => ?_) (fun hc => ?_)
    · replace h := h.1 hc
      refine vm_WM.seq 72 3 (pc' := 144) (L' := [.ref 48, .int x1]) (S' := [.int (nI 1), .int (M2 48 14)]) (M' := M2) rfl ?_
      refine vm_WM.if (c := (M2 48 14) = (nI 1)) (t1 := 152) (t2 := 147) (S' := []) 75 rfl rfl rfl (fun hc => ?_) (fun hc => ?_)
      · replace h := h.1 hc
        refine vm_WM.seq 79 2 (pc' := 156) (L' := [.ref 48, .int x1]) (S' := [.int (M2 48 17)]) (M' := M2) rfl ?_
        refine vm_WM.if (c := 0 < (M2 48 17)) (t1 := 159) (t2 := 175) (S' := []) 81 rfl rfl rfl (fun hc => ?_) (fun hc => ?_)
        · replace h := h.1 hc
          refine vm_WM.seq 82 8 (pc' := 174) (L' := [.ref 48, .int x1]) (S' := [.int ((Int32.ofInt (-1000100)) - ((vm_u2 M2 48 11 (M2 48 17)) 48 18))]) (M' := (vm_u2 M2 48 11 (M2 48 17))) rfl ?_
          exact vm_WM.ret (r := some (.int ((Int32.ofInt (-1000100)) - ((vm_u2 M2 48 11 (M2 48 17)) 48 18)))) 90 rfl rfl rfl ⟨_, rfl, h⟩
        · replace h := h.2 hc
          refine vm_WM.seq 91 5 (pc' := 182) (L' := [.ref 48, .int (nI 0)]) (S' := []) (M' := (vm_u2 M2 48 8 (nI 0))) rfl ?_
          exact h
      · replace h := h.2 hc
        refine vm_WM.seq 76 2 (pc' := 149) (L' := [.ref 48, .int x1]) (S' := [.int (nI 1), .ref 48]) (M' := M2) rfl ?_
        refine vm_WM.call (a := 121) (as := [.ref 48, .int (nI 1)]) (rest := []) (L0 := [.ref 48, .int (nI 1)]) 78 rfl rfl (by decide) rfl rfl ⟨rfl, Or.inr rfl, Nat.le_of_ble_eq_true rfl, Nat.le_of_ble_eq_true rfl⟩ rfl rfl rfl ?_
        refine vm_WM.thenv h (fun M4 h => ?_)
        show vm_WM X 131 152 [.ref 48, .int x1] [] M4 _
        refine vm_WM.seq 79 2 (pc' := 156) (L' := [.ref 48, .int x1]) (S' := [.int (M4 48 17)]) (M' := M4) rfl ?_
        refine vm_WM.if (c := 0 < (M4 48 17)) (t1 := 159) (t2 := 175) (S' := []) 81 rfl rfl rfl (fun hc => ?_) (fun hc => ?_)
        · replace h := h.1 hc
          refine vm_WM.seq 82 8 (pc' := 174) (L' := [.ref 48, .int x1]) (S' := [.int ((Int32.ofInt (-1000100)) - ((vm_u2 M4 48 11 (M4 48 17)) 48 18))]) (M' := (vm_u2 M4 48 11 (M4 48 17))) rfl ?_
          exact vm_WM.ret (r := some (.int ((Int32.ofInt (-1000100)) - ((vm_u2 M4 48 11 (M4 48 17)) 48 18)))) 90 rfl rfl rfl ⟨_, rfl, h⟩
        · replace h := h.2 hc
          refine vm_WM.seq 91 5 (pc' := 182) (L' := [.ref 48, .int (nI 0)]) (S' := []) (M' := (vm_u2 M4 48 8 (nI 0))) rfl ?_
          exact h
    · replace h := h.2 hc
      refine vm_WM.seq 79 2 (pc' := 156) (L' := [.ref 48, .int x1]) (S' := [.int (M2 48 17)]) (M' := M2) rfl ?_
      refine vm_WM.if (c := 0 < (M2 48 17)) (t1 := 159) (t2 := 175) (S' := []) 81 rfl rfl rfl (fun hc => ?_) (fun hc => ?_)
      · replace h := h.1 hc
        refine vm_WM.seq 82 8 (pc' := 174) (L' := [.ref 48, .int x1]) (S' := [.int ((Int32.ofInt (-1000100)) - ((vm_u2 M2 48 11 (M2 48 17)) 48 18))]) (M' := (vm_u2 M2 48 11 (M2 48 17))) rfl ?_
        exact vm_WM.ret (r := some (.int ((Int32.ofInt (-1000100)) - ((vm_u2 M2 48 11 (M2 48 17)) 48 18)))) 90 rfl rfl rfl ⟨_, rfl, h⟩
      · replace h := h.2 hc
        refine vm_WM.seq 91 5 (pc' := 182) (L' := [.ref 48, .int (nI 0)]) (S' := []) (M' := (vm_u2 M2 48 8 (nI 0))) rfl ?_
        exact h
theorem v_M_hill_182 {X : Nat × (Nat → Int32)} {x1 : Int32} {M : vm_M} {P : Int32 → vm_M → Prop} (h : (x1 < (nI 70) → (∃ j1 : Nat, x1 = nI j1 ∧ j1 < 70 ∧ (∃ j2 : Nat, x1 = nI j2 ∧ j2 < 70 ∧ (C_M_hill_182 X (x1 + (nI 1)) (vm_u2 M 52 j2 (M 53 j1)) P)))) ∧ (¬ (x1 < (nI 70)) → (P (M 52 2) M))) : C_M_hill_182 X x1 M P := by
  unfold C_M_hill_182
  refine vm_WM.seq 96 2 (pc' := 185) (L' := [.ref 48, .int x1]) (S' := [.int (nI 70), .int x1]) (M' := M) rfl ?_
  refine vm_WM.if (c := x1 < (nI 70)) (t1 := 188) (t2 := 206) (S' := []) 98 rfl rfl rfl (fun hc => ?_) (fun hc => ?_)
  · replace h := h.1 hc
    refine vm_WM.seq 99 6 (pc' := 198) (L' := [.ref 48, .int x1]) (S' := [.int x1, .ref 53, .int x1, .ref 52]) (M' := M) rfl ?_
    obtain ⟨j1, hj1, hj2, h⟩ := h
    refine vm_WM.ald (n := 70) (jj := j1) 105 rfl (Or.inl ⟨rfl, rfl⟩) (by decide) rfl hj1 hj2 ?_
    obtain ⟨j2, hj1, hj2, h⟩ := h
    refine vm_WM.ast (n := 70) (jj := j2) 106 rfl rfl hj1 hj2 ?_
    refine vm_WM.seq 107 2 (pc' := 182) (L' := [.ref 48, .int (x1 + (nI 1))]) (S' := []) (M' := (vm_u2 M 52 j2 (M 53 j1))) rfl ?_
    exact h
  · replace h := h.2 hc
    refine vm_WM.seq 109 3 (pc' := 211) (L' := [.ref 48, .int x1]) (S' := [.int (nI 2), .ref 52]) (M' := M) rfl ?_
    refine vm_WM.ald (n := 70) (jj := 2) 112 rfl (Or.inl ⟨rfl, rfl⟩) (by decide) rfl rfl (by decide) ?_
    exact vm_WM.ret (r := some (.int (M 52 2))) 113 rfl rfl rfl ⟨_, rfl, h⟩
theorem v_M_fault {X : Nat × (Nat → Int32)}  {M : vm_M} {P : Int32 → vm_M → Prop} (h : P ((vm_u2 M 48 0 (nI 0)) 48 11) (vm_u2 M 48 0 (nI 0))) : E_M_fault X  M P := by
  unfold E_M_fault
  refine vm_WM.seq 0 5 (pc' := 9) (L' := [.ref 48]) (S' := [.int ((vm_u2 M 48 0 (nI 0)) 48 11)]) (M' := (vm_u2 M 48 0 (nI 0))) rfl ?_
  exact vm_WM.ret (r := some (.int ((vm_u2 M 48 0 (nI 0)) 48 11))) 5 rfl rfl rfl ⟨_, rfl, h⟩
theorem v_M_pass {X : Nat × (Nat → Int32)} {a1 : Int32} {M : vm_M} {P : Int32 → vm_M → Prop} (h : E_M_isTrader X a1 (vm_u2 M 48 0 (nI 0)) (fun v1 M2 => (v1 = 0 → (P (Int32.ofInt (-1000001)) M2)) ∧ (¬ (v1 = 0) → (E_M_passedIn X (M2 52 5) a1 (M2 52 4) M2 (fun v3 M4 => (v3 = (Int32.ofInt (-1000000)) → (P (Int32.ofInt (-1000002)) M4)) ∧ (¬ (v3 = (Int32.ofInt (-1000000))) → (E_M_keep X  M4 (fun M5 => ∃ j6 : Nat, (((nI 6) + ((nI 4) * (M2 52 5))) + (nI 3)) = nI j6 ∧ j6 < 70 ∧ (E_M_priceOf X a1 M5 (fun v7 M8 => ∃ j9 : Nat, (((nI 6) + ((nI 4) * (M2 52 5))) + (nI 3)) = nI j9 ∧ j9 < 70 ∧ (∃ j10 : Nat, (((nI 6) + ((nI 4) * a1)) + (nI 3)) = nI j10 ∧ j10 < 70 ∧ (E_M_priceOf X a1 (vm_u2 M8 52 j9 ((M5 52 j6) + v7)) (fun v11 M12 => ∃ j13 : Nat, (((nI 6) + ((nI 4) * a1)) + (nI 3)) = nI j13 ∧ j13 < 70 ∧ (P v3 (vm_u2 (vm_u2 (vm_u2 M12 52 j13 (((vm_u2 M8 52 j9 ((M5 52 j6) + v7)) 52 j10) - v11)) 52 5 a1) 52 4 v3))))))))))))))) : E_M_pass X a1 M P := by
  unfold E_M_pass
  refine vm_WM.seq 0 5 (pc' := 7) (L' := [.ref 48, .int a1, .null, .null]) (S' := [.int a1, .ref 48]) (M' := (vm_u2 M 48 0 (nI 0))) rfl ?_
  refine vm_WM.call (a := 134) (as := [.ref 48, .int a1]) (rest := []) (L0 := [.ref 48, .int a1]) 5 rfl rfl (by decide) rfl rfl ⟨rfl, Or.inr rfl, Nat.le_of_ble_eq_true rfl, Nat.le_of_ble_eq_true rfl⟩ rfl rfl rfl ?_
  refine vm_WM.theni h (fun v1 M2 h => ?_)
  show vm_WM X 142 10 [.ref 48, .int a1, .null, .null] [.int v1] M2 _
  refine vm_WM.if (c := v1 = 0) (t1 := 13) (t2 := 16) (S' := []) 6 rfl rfl rfl (fun hc => ?_) (fun hc => ?_)
  · replace h := h.1 hc
    refine vm_WM.seq 7 1 (pc' := 15) (L' := [.ref 48, .int a1, .null, .null]) (S' := [.int (Int32.ofInt (-1000001))]) (M' := M2) rfl ?_
    exact vm_WM.ret (r := some (.int (Int32.ofInt (-1000001)))) 8 rfl rfl rfl ⟨_, rfl, h⟩
  · replace h := h.2 hc
    refine vm_WM.seq 9 3 (pc' := 21) (L' := [.ref 48, .int a1, .null, .null]) (S' := [.int (nI 5), .ref 52]) (M' := M2) rfl ?_
    refine vm_WM.ald (n := 70) (jj := 5) 12 rfl (Or.inl ⟨rfl, rfl⟩) (by decide) rfl rfl (by decide) ?_
    refine vm_WM.seq 13 7 (pc' := 31) (L' := [.ref 48, .int a1, .int (M2 52 5), .null]) (S' := [.int (nI 4), .ref 52, .int a1, .int (M2 52 5), .ref 48]) (M' := M2) rfl ?_
    refine vm_WM.ald (n := 70) (jj := 4) 20 rfl (Or.inl ⟨rfl, rfl⟩) (by decide) rfl rfl (by decide) ?_
    refine vm_WM.call (a := 140) (as := [.ref 48, .int (M2 52 5), .int a1, .int (M2 52 4)]) (rest := []) (L0 := [.ref 48, .int (M2 52 5), .int a1, .int (M2 52 4), .null]) 21 rfl rfl (by decide) rfl rfl ⟨rfl, Or.inr rfl, Nat.le_of_ble_eq_true rfl, Nat.le_of_ble_eq_true rfl⟩ rfl rfl rfl ?_
    refine vm_WM.theni h (fun v3 M4 h => ?_)
    show vm_WM X 142 35 [.ref 48, .int a1, .int (M2 52 5), .null] [.int v3] M4 _
    refine vm_WM.seq 22 3 (pc' := 39) (L' := [.ref 48, .int a1, .int (M2 52 5), .int v3]) (S' := [.int (Int32.ofInt (-1000000)), .int v3]) (M' := M4) rfl ?_
    refine vm_WM.if (c := v3 = (Int32.ofInt (-1000000))) (t1 := 42) (t2 := 45) (S' := []) 25 rfl rfl rfl (fun hc => ?_) (fun hc => ?_)
    · replace h := h.1 hc
      refine vm_WM.seq 26 1 (pc' := 44) (L' := [.ref 48, .int a1, .int (M2 52 5), .int v3]) (S' := [.int (Int32.ofInt (-1000002))]) (M' := M4) rfl ?_
      exact vm_WM.ret (r := some (.int (Int32.ofInt (-1000002)))) 27 rfl rfl rfl ⟨_, rfl, h⟩
    · replace h := h.2 hc
      refine vm_WM.seq 28 1 (pc' := 46) (L' := [.ref 48, .int a1, .int (M2 52 5), .int v3]) (S' := [.ref 48]) (M' := M4) rfl ?_
      refine vm_WM.call (a := 141) (as := [.ref 48]) (rest := []) (L0 := [.ref 48, .null]) 29 rfl rfl (by decide) rfl rfl ⟨rfl, Or.inr rfl, Nat.le_of_ble_eq_true rfl, Nat.le_of_ble_eq_true rfl⟩ rfl rfl rfl ?_
      refine vm_WM.thenv h (fun M5 h => ?_)
      show vm_WM X 142 49 [.ref 48, .int a1, .int (M2 52 5), .int v3] [] M5 _
      refine vm_WM.seq 30 10 (pc' := 62) (L' := [.ref 48, .int a1, .int (M2 52 5), .int v3]) (S' := [.int (((nI 6) + ((nI 4) * (M2 52 5))) + (nI 3)), .ref 52, .int (((nI 6) + ((nI 4) * (M2 52 5))) + (nI 3)), .ref 52]) (M' := M5) rfl ?_
      obtain ⟨j6, hj1, hj2, h⟩ := h
      refine vm_WM.ald (n := 70) (jj := j6) 40 rfl (Or.inl ⟨rfl, rfl⟩) (by decide) rfl hj1 hj2 ?_
      refine vm_WM.seq 41 2 (pc' := 65) (L' := [.ref 48, .int a1, .int (M2 52 5), .int v3]) (S' := [.int a1, .ref 48, .int (M5 52 j6), .int (((nI 6) + ((nI 4) * (M2 52 5))) + (nI 3)), .ref 52]) (M' := M5) rfl ?_
      refine vm_WM.call (a := 137) (as := [.ref 48, .int a1]) (rest := [.int (M5 52 j6), .int (((nI 6) + ((nI 4) * (M2 52 5))) + (nI 3)), .ref 52]) (L0 := [.ref 48, .int a1]) 43 rfl rfl (by decide) rfl rfl ⟨rfl, Or.inr rfl, Nat.le_of_ble_eq_true rfl, Nat.le_of_ble_eq_true rfl⟩ rfl rfl rfl ?_
      refine vm_WM.theni h (fun v7 M8 h => ?_)
      show vm_WM X 142 68 [.ref 48, .int a1, .int (M2 52 5), .int v3] [.int v7, .int (M5 52 j6), .int (((nI 6) + ((nI 4) * (M2 52 5))) + (nI 3)), .ref 52] M8 _
      refine vm_WM.seq 44 1 (pc' := 69) (L' := [.ref 48, .int a1, .int (M2 52 5), .int v3]) (S' := [.int ((M5 52 j6) + v7), .int (((nI 6) + ((nI 4) * (M2 52 5))) + (nI 3)), .ref 52]) (M' := M8) rfl ?_
      obtain ⟨j9, hj1, hj2, h⟩ := h
      refine vm_WM.ast (n := 70) (jj := j9) 45 rfl rfl hj1 hj2 ?_
      refine vm_WM.seq 46 10 (pc' := 83) (L' := [.ref 48, .int a1, .int (M2 52 5), .int v3]) (S' := [.int (((nI 6) + ((nI 4) * a1)) + (nI 3)), .ref 52, .int (((nI 6) + ((nI 4) * a1)) + (nI 3)), .ref 52]) (M' := (vm_u2 M8 52 j9 ((M5 52 j6) + v7))) rfl ?_
      obtain ⟨j10, hj1, hj2, h⟩ := h
      refine vm_WM.ald (n := 70) (jj := j10) 56 rfl (Or.inl ⟨rfl, rfl⟩) (by decide) rfl hj1 hj2 ?_
      refine vm_WM.seq 57 2 (pc' := 86) (L' := [.ref 48, .int a1, .int (M2 52 5), .int v3]) (S' := [.int a1, .ref 48, .int ((vm_u2 M8 52 j9 ((M5 52 j6) + v7)) 52 j10), .int (((nI 6) + ((nI 4) * a1)) + (nI 3)), .ref 52]) (M' := (vm_u2 M8 52 j9 ((M5 52 j6) + v7))) rfl ?_
      refine vm_WM.call (a := 137) (as := [.ref 48, .int a1]) (rest := [.int ((vm_u2 M8 52 j9 ((M5 52 j6) + v7)) 52 j10), .int (((nI 6) + ((nI 4) * a1)) + (nI 3)), .ref 52]) (L0 := [.ref 48, .int a1]) 59 rfl rfl (by decide) rfl rfl ⟨rfl, Or.inr rfl, Nat.le_of_ble_eq_true rfl, Nat.le_of_ble_eq_true rfl⟩ rfl rfl rfl ?_
      refine vm_WM.theni h (fun v11 M12 h => ?_)
      show vm_WM X 142 89 [.ref 48, .int a1, .int (M2 52 5), .int v3] [.int v11, .int ((vm_u2 M8 52 j9 ((M5 52 j6) + v7)) 52 j10), .int (((nI 6) + ((nI 4) * a1)) + (nI 3)), .ref 52] M12 _
      refine vm_WM.seq 60 1 (pc' := 90) (L' := [.ref 48, .int a1, .int (M2 52 5), .int v3]) (S' := [.int (((vm_u2 M8 52 j9 ((M5 52 j6) + v7)) 52 j10) - v11), .int (((nI 6) + ((nI 4) * a1)) + (nI 3)), .ref 52]) (M' := M12) rfl ?_
      obtain ⟨j13, hj1, hj2, h⟩ := h
      refine vm_WM.ast (n := 70) (jj := j13) 61 rfl rfl hj1 hj2 ?_
      refine vm_WM.seq 62 4 (pc' := 97) (L' := [.ref 48, .int a1, .int (M2 52 5), .int v3]) (S' := [.int a1, .int (nI 5), .ref 52]) (M' := (vm_u2 M12 52 j13 (((vm_u2 M8 52 j9 ((M5 52 j6) + v7)) 52 j10) - v11))) rfl ?_
      refine vm_WM.ast (n := 70) (jj := 5) 66 rfl rfl rfl (by decide) ?_
      refine vm_WM.seq 67 4 (pc' := 104) (L' := [.ref 48, .int a1, .int (M2 52 5), .int v3]) (S' := [.int v3, .int (nI 4), .ref 52]) (M' := (vm_u2 (vm_u2 M12 52 j13 (((vm_u2 M8 52 j9 ((M5 52 j6) + v7)) 52 j10) - v11)) 52 5 a1)) rfl ?_
      refine vm_WM.ast (n := 70) (jj := 4) 71 rfl rfl rfl (by decide) ?_
      refine vm_WM.seq 72 1 (pc' := 106) (L' := [.ref 48, .int a1, .int (M2 52 5), .int v3]) (S' := [.int v3]) (M' := (vm_u2 (vm_u2 (vm_u2 M12 52 j13 (((vm_u2 M8 52 j9 ((M5 52 j6) + v7)) 52 j10) - v11)) 52 5 a1) 52 4 v3)) rfl ?_
      exact vm_WM.ret (r := some (.int v3)) 73 rfl rfl rfl ⟨_, rfl, h⟩
