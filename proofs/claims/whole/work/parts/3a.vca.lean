/-! walks, by wip/whole/vcgen.py -/
theorem v_B_row {X : Nat × (Nat → Int32)} {a1 : Int32} {a2 : Int32} {a3 : Int32} {M : vm_M} {P : Int32 → vm_M → Prop} (h : (a1 < 0 → (P (Int32.ofInt (-1000001)) M)) ∧ (¬ (a1 < 0) → ((a1 < (nI 8) → ((a2 < 0 → (P (Int32.ofInt (-1000001)) M)) ∧ (¬ (a2 < 0) → ((a2 < (nI 3) → (((nI 40) < a3 → (P (Int32.ofInt (-1000001)) M)) ∧ (¬ ((nI 40) < a3) → ((a3 < 0 → (P ((Int32.ofInt (-1000010)) - (nI 4)) (vm_u2 M 0 9 (nI 4)))) ∧ (¬ (a3 < 0) → (E_Rows_make X a1 a2 a3 (vm_u2 M 0 9 (nI 0)) (fun M1 => P a3 M1))))))) ∧ (¬ (a2 < (nI 3)) → (P (Int32.ofInt (-1000001)) M)))))) ∧ (¬ (a1 < (nI 8)) → (P (Int32.ofInt (-1000001)) M))))) : E_B_row X a1 a2 a3 M P := by
  unfold E_B_row
  refine vm_WM.seq 0 1 (pc' := 1) (L' := [.ref 0, .int a1, .int a2, .int a3]) (S' := [.int a1]) (M' := M) rfl ?_
  refine vm_WM.call (a := 104) (as := [.int a1]) (rest := []) (L0 := [.int a1]) 1 rfl rfl (by decide) rfl rfl ⟨rfl, Or.inl rfl, Nat.le_of_ble_eq_true rfl, Nat.le_of_ble_eq_true rfl⟩ rfl rfl rfl ?_
  refine vm_WM.seq 0 1 (pc' := 1) (L' := [.int a1]) (S' := [.int a1]) (M' := M) rfl ?_
  refine vm_WM.if (c := a1 < 0) (t1 := 14) (t2 := 4) (S' := []) 1 rfl rfl rfl (fun hc => ?_) (fun hc => ?_)
  · replace h := h.1 hc
    refine vm_WM.seq 7 1 (pc' := 15) (L' := [.int a1]) (S' := [.int (nI 0)]) (M' := M) rfl ?_
    refine vm_WM.ret (r := some (.int (nI 0))) 8 rfl rfl rfl ?_
    show vm_WM X 74 4 [.ref 0, .int a1, .int a2, .int a3] [.int (nI 0)] M _
    refine vm_WM.seq 2 1 (pc' := 22) (L' := [.ref 0, .int a1, .int a2, .int a3]) (S' := []) (M' := M) rfl ?_
    refine vm_WM.seq 11 1 (pc' := 24) (L' := [.ref 0, .int a1, .int a2, .int a3]) (S' := [.int (Int32.ofInt (-1000001))]) (M' := M) rfl ?_
    exact vm_WM.ret (r := some (.int (Int32.ofInt (-1000001)))) 12 rfl rfl rfl ⟨_, rfl, h⟩
  · replace h := h.2 hc
    refine vm_WM.seq 2 2 (pc' := 7) (L' := [.int a1]) (S' := [.int (nI 8), .int a1]) (M' := M) rfl ?_
    refine vm_WM.if (c := a1 < (nI 8)) (t1 := 10) (t2 := 14) (S' := []) 4 rfl rfl rfl (fun hc => ?_) (fun hc => ?_)
    · replace h := h.1 hc
      refine vm_WM.seq 5 2 (pc' := 15) (L' := [.int a1]) (S' := [.int (nI 1)]) (M' := M) rfl ?_
      refine vm_WM.ret (r := some (.int (nI 1))) 8 rfl rfl rfl ?_
      show vm_WM X 74 4 [.ref 0, .int a1, .int a2, .int a3] [.int (nI 1)] M _
      refine vm_WM.seq 2 2 (pc' := 8) (L' := [.ref 0, .int a1, .int a2, .int a3]) (S' := [.int a2]) (M' := M) rfl ?_
      refine vm_WM.if (c := a2 < 0) (t1 := 22) (t2 := 11) (S' := []) 4 rfl rfl rfl (fun hc => ?_) (fun hc => ?_)
      · replace h := h.1 hc
        refine vm_WM.seq 11 1 (pc' := 24) (L' := [.ref 0, .int a1, .int a2, .int a3]) (S' := [.int (Int32.ofInt (-1000001))]) (M' := M) rfl ?_
        exact vm_WM.ret (r := some (.int (Int32.ofInt (-1000001)))) 12 rfl rfl rfl ⟨_, rfl, h⟩
      · replace h := h.2 hc
        refine vm_WM.seq 5 2 (pc' := 13) (L' := [.ref 0, .int a1, .int a2, .int a3]) (S' := [.int (nI 3), .int a2]) (M' := M) rfl ?_
        refine vm_WM.if (c := a2 < (nI 3)) (t1 := 16) (t2 := 22) (S' := []) 7 rfl rfl rfl (fun hc => ?_) (fun hc => ?_)
        · replace h := h.1 hc
          refine vm_WM.seq 8 2 (pc' := 19) (L' := [.ref 0, .int a1, .int a2, .int a3]) (S' := [.int (nI 40), .int a3]) (M' := M) rfl ?_
          refine vm_WM.if (c := (nI 40) < a3) (t1 := 22) (t2 := 25) (S' := []) 10 rfl rfl rfl (fun hc => ?_) (fun hc => ?_)
          · replace h := h.1 hc
            refine vm_WM.seq 11 1 (pc' := 24) (L' := [.ref 0, .int a1, .int a2, .int a3]) (S' := [.int (Int32.ofInt (-1000001))]) (M' := M) rfl ?_
            exact vm_WM.ret (r := some (.int (Int32.ofInt (-1000001)))) 12 rfl rfl rfl ⟨_, rfl, h⟩
          · replace h := h.2 hc
            refine vm_WM.seq 13 1 (pc' := 26) (L' := [.ref 0, .int a1, .int a2, .int a3]) (S' := [.int a3]) (M' := M) rfl ?_
            refine vm_WM.if (c := a3 < 0) (t1 := 29) (t2 := 35) (S' := []) 14 rfl rfl rfl (fun hc => ?_) (fun hc => ?_)
            · replace h := h.1 hc
              refine vm_WM.seq 15 2 (pc' := 31) (L' := [.ref 0, .int a1, .int a2, .int a3]) (S' := [.int (nI 4), .ref 0]) (M' := M) rfl ?_
              refine vm_WM.call (a := 102) (as := [.ref 0, .int (nI 4)]) (rest := []) (L0 := [.ref 0, .int (nI 4)]) 17 rfl rfl (by decide) rfl rfl ⟨rfl, Or.inr rfl, Nat.le_of_ble_eq_true rfl, Nat.le_of_ble_eq_true rfl⟩ rfl rfl rfl ?_
              refine vm_WM.seq 0 6 (pc' := 9) (L' := [.ref 0, .int (nI 4)]) (S' := [.int ((Int32.ofInt (-1000010)) - (nI 4))]) (M' := (vm_u2 M 0 9 (nI 4))) rfl ?_
              refine vm_WM.ret (r := some (.int ((Int32.ofInt (-1000010)) - (nI 4)))) 6 rfl rfl rfl ?_
              show vm_WM X 74 34 [.ref 0, .int a1, .int a2, .int a3] [.int ((Int32.ofInt (-1000010)) - (nI 4))] (vm_u2 M 0 9 (nI 4)) _
              exact vm_WM.ret (r := some (.int ((Int32.ofInt (-1000010)) - (nI 4)))) 18 rfl rfl rfl ⟨_, rfl, h⟩
            · replace h := h.2 hc
              refine vm_WM.seq 19 8 (pc' := 47) (L' := [.ref 0, .int a1, .int a2, .int a3]) (S' := [.int a3, .int a2, .int a1, .ref 1]) (M' := (vm_u2 M 0 9 (nI 0))) rfl ?_
              refine vm_WM.call (a := 50) (as := [.ref 1, .int a1, .int a2, .int a3]) (rest := []) (L0 := [.ref 1, .int a1, .int a2, .int a3, .null]) 27 rfl rfl (by decide) rfl rfl ⟨rfl, Or.inr rfl, Nat.le_of_ble_eq_true rfl, Nat.le_of_ble_eq_true rfl⟩ rfl rfl rfl ?_
              refine vm_WM.thenv h (fun M1 h => ?_)
              show vm_WM X 74 50 [.ref 0, .int a1, .int a2, .int a3] [] M1 _
              refine vm_WM.seq 28 1 (pc' := 51) (L' := [.ref 0, .int a1, .int a2, .int a3]) (S' := [.int a3]) (M' := M1) rfl ?_
              exact vm_WM.ret (r := some (.int a3)) 29 rfl rfl rfl ⟨_, rfl, h⟩
        · replace h := h.2 hc
          refine vm_WM.seq 11 1 (pc' := 24) (L' := [.ref 0, .int a1, .int a2, .int a3]) (S' := [.int (Int32.ofInt (-1000001))]) (M' := M) rfl ?_
          exact vm_WM.ret (r := some (.int (Int32.ofInt (-1000001)))) 12 rfl rfl rfl ⟨_, rfl, h⟩
    · replace h := h.2 hc
      refine vm_WM.seq 7 1 (pc' := 15) (L' := [.int a1]) (S' := [.int (nI 0)]) (M' := M) rfl ?_
      refine vm_WM.ret (r := some (.int (nI 0))) 8 rfl rfl rfl ?_
      show vm_WM X 74 4 [.ref 0, .int a1, .int a2, .int a3] [.int (nI 0)] M _
      refine vm_WM.seq 2 1 (pc' := 22) (L' := [.ref 0, .int a1, .int a2, .int a3]) (S' := []) (M' := M) rfl ?_
      refine vm_WM.seq 11 1 (pc' := 24) (L' := [.ref 0, .int a1, .int a2, .int a3]) (S' := [.int (Int32.ofInt (-1000001))]) (M' := M) rfl ?_
      exact vm_WM.ret (r := some (.int (Int32.ofInt (-1000001)))) 12 rfl rfl rfl ⟨_, rfl, h⟩
theorem v_B_set {X : Nat × (Nat → Int32)} {a1 : Int32} {a2 : Int32} {a3 : Int32} {M : vm_M} {P : Int32 → vm_M → Prop} (h : (a1 < 0 → (P (Int32.ofInt (-1000001)) M)) ∧ (¬ (a1 < 0) → ((a1 < (nI 8) → (E_Rows_lapse X a1 a2 (nI 1) M (fun v1 M2 => (v1 = 0 → (E_Rows_put X a1 a2 a3 (vm_u2 M2 0 9 (nI 0)) (fun v3 M4 => P v3 M4))) ∧ (¬ (v1 = 0) → (P ((Int32.ofInt (-1000010)) - v1) (vm_u2 M2 0 9 v1)))))) ∧ (¬ (a1 < (nI 8)) → (P (Int32.ofInt (-1000001)) M))))) : E_B_set X a1 a2 a3 M P := by
  unfold E_B_set
  refine vm_WM.seq 0 1 (pc' := 1) (L' := [.ref 0, .int a1, .int a2, .int a3, .null]) (S' := [.int a1]) (M' := M) rfl ?_
  refine vm_WM.call (a := 104) (as := [.int a1]) (rest := []) (L0 := [.int a1]) 1 rfl rfl (by decide) rfl rfl ⟨rfl, Or.inl rfl, Nat.le_of_ble_eq_true rfl, Nat.le_of_ble_eq_true rfl⟩ rfl rfl rfl ?_
  refine vm_WM.seq 0 1 (pc' := 1) (L' := [.int a1]) (S' := [.int a1]) (M' := M) rfl ?_
  refine vm_WM.if (c := a1 < 0) (t1 := 14) (t2 := 4) (S' := []) 1 rfl rfl rfl (fun hc => ?_) (fun hc => ?_)
  · replace h := h.1 hc
    refine vm_WM.seq 7 1 (pc' := 15) (L' := [.int a1]) (S' := [.int (nI 0)]) (M' := M) rfl ?_
    refine vm_WM.ret (r := some (.int (nI 0))) 8 rfl rfl rfl ?_
    show vm_WM X 75 4 [.ref 0, .int a1, .int a2, .int a3, .null] [.int (nI 0)] M _
    refine vm_WM.seq 2 2 (pc' := 9) (L' := [.ref 0, .int a1, .int a2, .int a3, .null]) (S' := [.int (Int32.ofInt (-1000001))]) (M' := M) rfl ?_
    exact vm_WM.ret (r := some (.int (Int32.ofInt (-1000001)))) 4 rfl rfl rfl ⟨_, rfl, h⟩
  · replace h := h.2 hc
    refine vm_WM.seq 2 2 (pc' := 7) (L' := [.int a1]) (S' := [.int (nI 8), .int a1]) (M' := M) rfl ?_
    refine vm_WM.if (c := a1 < (nI 8)) (t1 := 10) (t2 := 14) (S' := []) 4 rfl rfl rfl (fun hc => ?_) (fun hc => ?_)
    · replace h := h.1 hc
      refine vm_WM.seq 5 2 (pc' := 15) (L' := [.int a1]) (S' := [.int (nI 1)]) (M' := M) rfl ?_
      refine vm_WM.ret (r := some (.int (nI 1))) 8 rfl rfl rfl ?_
      show vm_WM X 75 4 [.ref 0, .int a1, .int a2, .int a3, .null] [.int (nI 1)] M _
      refine vm_WM.seq 2 1 (pc' := 10) (L' := [.ref 0, .int a1, .int a2, .int a3, .null]) (S' := []) (M' := M) rfl ?_
      refine vm_WM.seq 5 5 (pc' := 17) (L' := [.ref 0, .int a1, .int a2, .int a3, .null]) (S' := [.int (nI 1), .int a2, .int a1, .ref 1]) (M' := M) rfl ?_
      refine vm_WM.call (a := 52) (as := [.ref 1, .int a1, .int a2, .int (nI 1)]) (rest := []) (L0 := [.ref 1, .int a1, .int a2, .int (nI 1)]) 10 rfl rfl (by decide) rfl rfl ⟨rfl, Or.inr rfl, Nat.le_of_ble_eq_true rfl, Nat.le_of_ble_eq_true rfl⟩ rfl rfl rfl ?_
      refine vm_WM.theni h (fun v1 M2 h => ?_)
      show vm_WM X 75 20 [.ref 0, .int a1, .int a2, .int a3, .null] [.int v1] M2 _
      refine vm_WM.seq 11 2 (pc' := 24) (L' := [.ref 0, .int a1, .int a2, .int a3, .int v1]) (S' := [.int v1]) (M' := M2) rfl ?_
      refine vm_WM.if (c := v1 = 0) (t1 := 34) (t2 := 27) (S' := []) 13 rfl rfl rfl (fun hc => ?_) (fun hc => ?_)
      · replace h := h.1 hc
        refine vm_WM.seq 18 8 (pc' := 46) (L' := [.ref 0, .int a1, .int a2, .int a3, .int v1]) (S' := [.int a3, .int a2, .int a1, .ref 1]) (M' := (vm_u2 M2 0 9 (nI 0))) rfl ?_
        refine vm_WM.call (a := 56) (as := [.ref 1, .int a1, .int a2, .int a3]) (rest := []) (L0 := [.ref 1, .int a1, .int a2, .int a3, .null]) 26 rfl rfl (by decide) rfl rfl ⟨rfl, Or.inr rfl, Nat.le_of_ble_eq_true rfl, Nat.le_of_ble_eq_true rfl⟩ rfl rfl rfl ?_
        refine vm_WM.theni h (fun v3 M4 h => ?_)
        show vm_WM X 75 49 [.ref 0, .int a1, .int a2, .int a3, .int v1] [.int v3] M4 _
        exact vm_WM.ret (r := some (.int v3)) 27 rfl rfl rfl ⟨_, rfl, h⟩
      · replace h := h.2 hc
        refine vm_WM.seq 14 2 (pc' := 30) (L' := [.ref 0, .int a1, .int a2, .int a3, .int v1]) (S' := [.int v1, .ref 0]) (M' := M2) rfl ?_
        refine vm_WM.call (a := 102) (as := [.ref 0, .int v1]) (rest := []) (L0 := [.ref 0, .int v1]) 16 rfl rfl (by decide) rfl rfl ⟨rfl, Or.inr rfl, Nat.le_of_ble_eq_true rfl, Nat.le_of_ble_eq_true rfl⟩ rfl rfl rfl ?_
        refine vm_WM.seq 0 6 (pc' := 9) (L' := [.ref 0, .int v1]) (S' := [.int ((Int32.ofInt (-1000010)) - v1)]) (M' := (vm_u2 M2 0 9 v1)) rfl ?_
        refine vm_WM.ret (r := some (.int ((Int32.ofInt (-1000010)) - v1))) 6 rfl rfl rfl ?_
        show vm_WM X 75 33 [.ref 0, .int a1, .int a2, .int a3, .int v1] [.int ((Int32.ofInt (-1000010)) - v1)] (vm_u2 M2 0 9 v1) _
        exact vm_WM.ret (r := some (.int ((Int32.ofInt (-1000010)) - v1))) 17 rfl rfl rfl ⟨_, rfl, h⟩
    · replace h := h.2 hc
      refine vm_WM.seq 7 1 (pc' := 15) (L' := [.int a1]) (S' := [.int (nI 0)]) (M' := M) rfl ?_
      refine vm_WM.ret (r := some (.int (nI 0))) 8 rfl rfl rfl ?_
      show vm_WM X 75 4 [.ref 0, .int a1, .int a2, .int a3, .null] [.int (nI 0)] M _
      refine vm_WM.seq 2 2 (pc' := 9) (L' := [.ref 0, .int a1, .int a2, .int a3, .null]) (S' := [.int (Int32.ofInt (-1000001))]) (M' := M) rfl ?_
      exact vm_WM.ret (r := some (.int (Int32.ofInt (-1000001)))) 4 rfl rfl rfl ⟨_, rfl, h⟩
theorem v_B_copy {X : Nat × (Nat → Int32)} {a1 : Int32} {a2 : Int32} {a3 : Int32} {a4 : Int32} {a5 : Int32} {M : vm_M} {P : Int32 → vm_M → Prop} (h : (a1 < 0 → (P (Int32.ofInt (-1000001)) M)) ∧ (¬ (a1 < 0) → ((a1 < (nI 8) → ((a3 < 0 → (P (Int32.ofInt (-1000001)) M)) ∧ (¬ (a3 < 0) → ((a3 < (nI 8) → (E_Rows_lapseOfTwo X a1 a2 a3 a4 a5 M (fun v1 M2 => (v1 = 0 → (E_Rows_move X a1 a2 a3 a4 a5 (vm_u2 M2 0 9 (nI 0)) (fun M3 => P a5 M3))) ∧ (¬ (v1 = 0) → (P ((Int32.ofInt (-1000010)) - v1) (vm_u2 M2 0 9 v1)))))) ∧ (¬ (a3 < (nI 8)) → (P (Int32.ofInt (-1000001)) M)))))) ∧ (¬ (a1 < (nI 8)) → (P (Int32.ofInt (-1000001)) M))))) : E_B_copy X a1 a2 a3 a4 a5 M P := by
  unfold E_B_copy
  refine vm_WM.seq 0 1 (pc' := 1) (L' := [.ref 0, .int a1, .int a2, .int a3, .int a4, .int a5, .null]) (S' := [.int a1]) (M' := M) rfl ?_
  refine vm_WM.call (a := 104) (as := [.int a1]) (rest := []) (L0 := [.int a1]) 1 rfl rfl (by decide) rfl rfl ⟨rfl, Or.inl rfl, Nat.le_of_ble_eq_true rfl, Nat.le_of_ble_eq_true rfl⟩ rfl rfl rfl ?_
  refine vm_WM.seq 0 1 (pc' := 1) (L' := [.int a1]) (S' := [.int a1]) (M' := M) rfl ?_
  refine vm_WM.if (c := a1 < 0) (t1 := 14) (t2 := 4) (S' := []) 1 rfl rfl rfl (fun hc => ?_) (fun hc => ?_)
  · replace h := h.1 hc
    refine vm_WM.seq 7 1 (pc' := 15) (L' := [.int a1]) (S' := [.int (nI 0)]) (M' := M) rfl ?_
    refine vm_WM.ret (r := some (.int (nI 0))) 8 rfl rfl rfl ?_
    show vm_WM X 76 4 [.ref 0, .int a1, .int a2, .int a3, .int a4, .int a5, .null] [.int (nI 0)] M _
    refine vm_WM.seq 2 1 (pc' := 14) (L' := [.ref 0, .int a1, .int a2, .int a3, .int a4, .int a5, .null]) (S' := []) (M' := M) rfl ?_
    refine vm_WM.seq 6 1 (pc' := 16) (L' := [.ref 0, .int a1, .int a2, .int a3, .int a4, .int a5, .null]) (S' := [.int (Int32.ofInt (-1000001))]) (M' := M) rfl ?_
    exact vm_WM.ret (r := some (.int (Int32.ofInt (-1000001)))) 7 rfl rfl rfl ⟨_, rfl, h⟩
  · replace h := h.2 hc
    refine vm_WM.seq 2 2 (pc' := 7) (L' := [.int a1]) (S' := [.int (nI 8), .int a1]) (M' := M) rfl ?_
    refine vm_WM.if (c := a1 < (nI 8)) (t1 := 10) (t2 := 14) (S' := []) 4 rfl rfl rfl (fun hc => ?_) (fun hc => ?_)
    · replace h := h.1 hc
      refine vm_WM.seq 5 2 (pc' := 15) (L' := [.int a1]) (S' := [.int (nI 1)]) (M' := M) rfl ?_
      refine vm_WM.ret (r := some (.int (nI 1))) 8 rfl rfl rfl ?_
      show vm_WM X 76 4 [.ref 0, .int a1, .int a2, .int a3, .int a4, .int a5, .null] [.int (nI 1)] M _
      refine vm_WM.seq 2 2 (pc' := 8) (L' := [.ref 0, .int a1, .int a2, .int a3, .int a4, .int a5, .null]) (S' := [.int a3]) (M' := M) rfl ?_
      refine vm_WM.call (a := 104) (as := [.int a3]) (rest := []) (L0 := [.int a3]) 4 rfl rfl (by decide) rfl rfl ⟨rfl, Or.inl rfl, Nat.le_of_ble_eq_true rfl, Nat.le_of_ble_eq_true rfl⟩ rfl rfl rfl ?_
      refine vm_WM.seq 0 1 (pc' := 1) (L' := [.int a3]) (S' := [.int a3]) (M' := M) rfl ?_
      refine vm_WM.if (c := a3 < 0) (t1 := 14) (t2 := 4) (S' := []) 1 rfl rfl rfl (fun hc => ?_) (fun hc => ?_)
      · replace h := h.1 hc
        refine vm_WM.seq 7 1 (pc' := 15) (L' := [.int a3]) (S' := [.int (nI 0)]) (M' := M) rfl ?_
        refine vm_WM.ret (r := some (.int (nI 0))) 8 rfl rfl rfl ?_
        show vm_WM X 76 11 [.ref 0, .int a1, .int a2, .int a3, .int a4, .int a5, .null] [.int (nI 0)] M _
        refine vm_WM.seq 5 2 (pc' := 16) (L' := [.ref 0, .int a1, .int a2, .int a3, .int a4, .int a5, .null]) (S' := [.int (Int32.ofInt (-1000001))]) (M' := M) rfl ?_
        exact vm_WM.ret (r := some (.int (Int32.ofInt (-1000001)))) 7 rfl rfl rfl ⟨_, rfl, h⟩
      · replace h := h.2 hc
        refine vm_WM.seq 2 2 (pc' := 7) (L' := [.int a3]) (S' := [.int (nI 8), .int a3]) (M' := M) rfl ?_
        refine vm_WM.if (c := a3 < (nI 8)) (t1 := 10) (t2 := 14) (S' := []) 4 rfl rfl rfl (fun hc => ?_) (fun hc => ?_)
        · replace h := h.1 hc
          refine vm_WM.seq 5 2 (pc' := 15) (L' := [.int a3]) (S' := [.int (nI 1)]) (M' := M) rfl ?_
          refine vm_WM.ret (r := some (.int (nI 1))) 8 rfl rfl rfl ?_
          show vm_WM X 76 11 [.ref 0, .int a1, .int a2, .int a3, .int a4, .int a5, .null] [.int (nI 1)] M _
          refine vm_WM.seq 5 1 (pc' := 17) (L' := [.ref 0, .int a1, .int a2, .int a3, .int a4, .int a5, .null]) (S' := []) (M' := M) rfl ?_
          refine vm_WM.seq 8 7 (pc' := 28) (L' := [.ref 0, .int a1, .int a2, .int a3, .int a4, .int a5, .null]) (S' := [.int a5, .int a4, .int a3, .int a2, .int a1, .ref 1]) (M' := M) rfl ?_
          refine vm_WM.call (a := 53) (as := [.ref 1, .int a1, .int a2, .int a3, .int a4, .int a5]) (rest := []) (L0 := [.ref 1, .int a1, .int a2, .int a3, .int a4, .int a5]) 15 rfl rfl (by decide) rfl rfl ⟨rfl, Or.inr rfl, Nat.le_of_ble_eq_true rfl, Nat.le_of_ble_eq_true rfl⟩ rfl rfl rfl ?_
          refine vm_WM.theni h (fun v1 M2 h => ?_)
          show vm_WM X 76 31 [.ref 0, .int a1, .int a2, .int a3, .int a4, .int a5, .null] [.int v1] M2 _
          refine vm_WM.seq 16 2 (pc' := 35) (L' := [.ref 0, .int a1, .int a2, .int a3, .int a4, .int a5, .int v1]) (S' := [.int v1]) (M' := M2) rfl ?_
          refine vm_WM.if (c := v1 = 0) (t1 := 45) (t2 := 38) (S' := []) 18 rfl rfl rfl (fun hc => ?_) (fun hc => ?_)
          · replace h := h.1 hc
            refine vm_WM.seq 23 10 (pc' := 61) (L' := [.ref 0, .int a1, .int a2, .int a3, .int a4, .int a5, .int v1]) (S' := [.int a5, .int a4, .int a3, .int a2, .int a1, .ref 1]) (M' := (vm_u2 M2 0 9 (nI 0))) rfl ?_
            refine vm_WM.call (a := 57) (as := [.ref 1, .int a1, .int a2, .int a3, .int a4, .int a5]) (rest := []) (L0 := [.ref 1, .int a1, .int a2, .int a3, .int a4, .int a5]) 33 rfl rfl (by decide) rfl rfl ⟨rfl, Or.inr rfl, Nat.le_of_ble_eq_true rfl, Nat.le_of_ble_eq_true rfl⟩ rfl rfl rfl ?_
            refine vm_WM.thenv h (fun M3 h => ?_)
            show vm_WM X 76 64 [.ref 0, .int a1, .int a2, .int a3, .int a4, .int a5, .int v1] [] M3 _
            refine vm_WM.seq 34 1 (pc' := 66) (L' := [.ref 0, .int a1, .int a2, .int a3, .int a4, .int a5, .int v1]) (S' := [.int a5]) (M' := M3) rfl ?_
            exact vm_WM.ret (r := some (.int a5)) 35 rfl rfl rfl ⟨_, rfl, h⟩
          · replace h := h.2 hc
            refine vm_WM.seq 19 2 (pc' := 41) (L' := [.ref 0, .int a1, .int a2, .int a3, .int a4, .int a5, .int v1]) (S' := [.int v1, .ref 0]) (M' := M2) rfl ?_
            refine vm_WM.call (a := 102) (as := [.ref 0, .int v1]) (rest := []) (L0 := [.ref 0, .int v1]) 21 rfl rfl (by decide) rfl rfl ⟨rfl, Or.inr rfl, Nat.le_of_ble_eq_true rfl, Nat.le_of_ble_eq_true rfl⟩ rfl rfl rfl ?_
            refine vm_WM.seq 0 6 (pc' := 9) (L' := [.ref 0, .int v1]) (S' := [.int ((Int32.ofInt (-1000010)) - v1)]) (M' := (vm_u2 M2 0 9 v1)) rfl ?_
            refine vm_WM.ret (r := some (.int ((Int32.ofInt (-1000010)) - v1))) 6 rfl rfl rfl ?_
            show vm_WM X 76 44 [.ref 0, .int a1, .int a2, .int a3, .int a4, .int a5, .int v1] [.int ((Int32.ofInt (-1000010)) - v1)] (vm_u2 M2 0 9 v1) _
            exact vm_WM.ret (r := some (.int ((Int32.ofInt (-1000010)) - v1))) 22 rfl rfl rfl ⟨_, rfl, h⟩
        · replace h := h.2 hc
          refine vm_WM.seq 7 1 (pc' := 15) (L' := [.int a3]) (S' := [.int (nI 0)]) (M' := M) rfl ?_
          refine vm_WM.ret (r := some (.int (nI 0))) 8 rfl rfl rfl ?_
          show vm_WM X 76 11 [.ref 0, .int a1, .int a2, .int a3, .int a4, .int a5, .null] [.int (nI 0)] M _
          refine vm_WM.seq 5 2 (pc' := 16) (L' := [.ref 0, .int a1, .int a2, .int a3, .int a4, .int a5, .null]) (S' := [.int (Int32.ofInt (-1000001))]) (M' := M) rfl ?_
          exact vm_WM.ret (r := some (.int (Int32.ofInt (-1000001)))) 7 rfl rfl rfl ⟨_, rfl, h⟩
    · replace h := h.2 hc
      refine vm_WM.seq 7 1 (pc' := 15) (L' := [.int a1]) (S' := [.int (nI 0)]) (M' := M) rfl ?_
      refine vm_WM.ret (r := some (.int (nI 0))) 8 rfl rfl rfl ?_
      show vm_WM X 76 4 [.ref 0, .int a1, .int a2, .int a3, .int a4, .int a5, .null] [.int (nI 0)] M _
      refine vm_WM.seq 2 1 (pc' := 14) (L' := [.ref 0, .int a1, .int a2, .int a3, .int a4, .int a5, .null]) (S' := []) (M' := M) rfl ?_
      refine vm_WM.seq 6 1 (pc' := 16) (L' := [.ref 0, .int a1, .int a2, .int a3, .int a4, .int a5, .null]) (S' := [.int (Int32.ofInt (-1000001))]) (M' := M) rfl ?_
      exact vm_WM.ret (r := some (.int (Int32.ofInt (-1000001)))) 7 rfl rfl rfl ⟨_, rfl, h⟩
theorem v_B_drop {X : Nat × (Nat → Int32)} {a1 : Int32} {M : vm_M} {P : Int32 → vm_M → Prop} (h : (a1 < 0 → (P (Int32.ofInt (-1000001)) M)) ∧ (¬ (a1 < 0) → ((a1 < (nI 8) → (∃ j1 : Nat, a1 = nI j1 ∧ j1 < 8 ∧ (((M 2 j1) = 0 → (P ((Int32.ofInt (-1000010)) - (nI 1)) (vm_u2 M 0 9 (nI 1)))) ∧ (¬ ((M 2 j1) = 0) → (E_Rows_remove X a1 (vm_u2 M 0 9 (nI 0)) (fun v2 M3 => P v2 M3)))))) ∧ (¬ (a1 < (nI 8)) → (P (Int32.ofInt (-1000001)) M))))) : E_B_drop X a1 M P := by
  unfold E_B_drop
  refine vm_WM.seq 0 1 (pc' := 1) (L' := [.ref 0, .int a1]) (S' := [.int a1]) (M' := M) rfl ?_
  refine vm_WM.call (a := 104) (as := [.int a1]) (rest := []) (L0 := [.int a1]) 1 rfl rfl (by decide) rfl rfl ⟨rfl, Or.inl rfl, Nat.le_of_ble_eq_true rfl, Nat.le_of_ble_eq_true rfl⟩ rfl rfl rfl ?_
  refine vm_WM.seq 0 1 (pc' := 1) (L' := [.int a1]) (S' := [.int a1]) (M' := M) rfl ?_
  refine vm_WM.if (c := a1 < 0) (t1 := 14) (t2 := 4) (S' := []) 1 rfl rfl rfl (fun hc => ?_) (fun hc => ?_)
  · replace h := h.1 hc
    refine vm_WM.seq 7 1 (pc' := 15) (L' := [.int a1]) (S' := [.int (nI 0)]) (M' := M) rfl ?_
    refine vm_WM.ret (r := some (.int (nI 0))) 8 rfl rfl rfl ?_
    show vm_WM X 77 4 [.ref 0, .int a1] [.int (nI 0)] M _
    refine vm_WM.seq 2 2 (pc' := 9) (L' := [.ref 0, .int a1]) (S' := [.int (Int32.ofInt (-1000001))]) (M' := M) rfl ?_
    exact vm_WM.ret (r := some (.int (Int32.ofInt (-1000001)))) 4 rfl rfl rfl ⟨_, rfl, h⟩
  · replace h := h.2 hc
    refine vm_WM.seq 2 2 (pc' := 7) (L' := [.int a1]) (S' := [.int (nI 8), .int a1]) (M' := M) rfl ?_
    refine vm_WM.if (c := a1 < (nI 8)) (t1 := 10) (t2 := 14) (S' := []) 4 rfl rfl rfl (fun hc => ?_) (fun hc => ?_)
    · replace h := h.1 hc
      refine vm_WM.seq 5 2 (pc' := 15) (L' := [.int a1]) (S' := [.int (nI 1)]) (M' := M) rfl ?_
      refine vm_WM.ret (r := some (.int (nI 1))) 8 rfl rfl rfl ?_
      show vm_WM X 77 4 [.ref 0, .int a1] [.int (nI 1)] M _
      refine vm_WM.seq 2 1 (pc' := 10) (L' := [.ref 0, .int a1]) (S' := []) (M' := M) rfl ?_
      refine vm_WM.seq 5 3 (pc' := 15) (L' := [.ref 0, .int a1]) (S' := [.int a1, .ref 1]) (M' := M) rfl ?_
      refine vm_WM.call (a := 48) (as := [.ref 1, .int a1]) (rest := []) (L0 := [.ref 1, .int a1]) 8 rfl rfl (by decide) rfl rfl ⟨rfl, Or.inr rfl, Nat.le_of_ble_eq_true rfl, Nat.le_of_ble_eq_true rfl⟩ rfl rfl rfl ?_
      refine vm_WM.seq 0 3 (pc' := 5) (L' := [.ref 1, .int a1]) (S' := [.int a1, .ref 2]) (M' := M) rfl ?_
      obtain ⟨j1, hj1, hj2, h⟩ := h
      refine vm_WM.ald (n := 8) (jj := j1) 3 rfl (Or.inl ⟨rfl, rfl⟩) (by decide) rfl hj1 hj2 ?_
      refine vm_WM.if (c := (M 2 j1) = 0) (t1 := 9) (t2 := 13) (S' := []) 4 rfl rfl rfl (fun hc => ?_) (fun hc => ?_)
      · replace h := h.1 hc
        refine vm_WM.seq 5 2 (pc' := 14) (L' := [.ref 1, .int a1]) (S' := [.int (nI 1)]) (M' := M) rfl ?_
        refine vm_WM.ret (r := some (.int (nI 1))) 8 rfl rfl rfl ?_
        show vm_WM X 77 18 [.ref 0, .int a1] [.int (nI 1)] M _
        refine vm_WM.seq 9 3 (pc' := 23) (L' := [.ref 0, .int a1]) (S' := [.int (nI 1), .ref 0]) (M' := M) rfl ?_
        refine vm_WM.call (a := 102) (as := [.ref 0, .int (nI 1)]) (rest := []) (L0 := [.ref 0, .int (nI 1)]) 12 rfl rfl (by decide) rfl rfl ⟨rfl, Or.inr rfl, Nat.le_of_ble_eq_true rfl, Nat.le_of_ble_eq_true rfl⟩ rfl rfl rfl ?_
        refine vm_WM.seq 0 6 (pc' := 9) (L' := [.ref 0, .int (nI 1)]) (S' := [.int ((Int32.ofInt (-1000010)) - (nI 1))]) (M' := (vm_u2 M 0 9 (nI 1))) rfl ?_
        refine vm_WM.ret (r := some (.int ((Int32.ofInt (-1000010)) - (nI 1)))) 6 rfl rfl rfl ?_
        show vm_WM X 77 26 [.ref 0, .int a1] [.int ((Int32.ofInt (-1000010)) - (nI 1))] (vm_u2 M 0 9 (nI 1)) _
        exact vm_WM.ret (r := some (.int ((Int32.ofInt (-1000010)) - (nI 1)))) 13 rfl rfl rfl ⟨_, rfl, h⟩
      · replace h := h.2 hc
        refine vm_WM.seq 7 1 (pc' := 14) (L' := [.ref 1, .int a1]) (S' := [.int (nI 0)]) (M' := M) rfl ?_
        refine vm_WM.ret (r := some (.int (nI 0))) 8 rfl rfl rfl ?_
        show vm_WM X 77 18 [.ref 0, .int a1] [.int (nI 0)] M _
        refine vm_WM.seq 9 1 (pc' := 27) (L' := [.ref 0, .int a1]) (S' := []) (M' := M) rfl ?_
        refine vm_WM.seq 14 6 (pc' := 37) (L' := [.ref 0, .int a1]) (S' := [.int a1, .ref 1]) (M' := (vm_u2 M 0 9 (nI 0))) rfl ?_
        refine vm_WM.call (a := 51) (as := [.ref 1, .int a1]) (rest := []) (L0 := [.ref 1, .int a1]) 20 rfl rfl (by decide) rfl rfl ⟨rfl, Or.inr rfl, Nat.le_of_ble_eq_true rfl, Nat.le_of_ble_eq_true rfl⟩ rfl rfl rfl ?_
        refine vm_WM.theni h (fun v2 M3 h => ?_)
        show vm_WM X 77 40 [.ref 0, .int a1] [.int v2] M3 _
        exact vm_WM.ret (r := some (.int v2)) 21 rfl rfl rfl ⟨_, rfl, h⟩
    · replace h := h.2 hc
      refine vm_WM.seq 7 1 (pc' := 15) (L' := [.int a1]) (S' := [.int (nI 0)]) (M' := M) rfl ?_
      refine vm_WM.ret (r := some (.int (nI 0))) 8 rfl rfl rfl ?_
      show vm_WM X 77 4 [.ref 0, .int a1] [.int (nI 0)] M _
      refine vm_WM.seq 2 2 (pc' := 9) (L' := [.ref 0, .int a1]) (S' := [.int (Int32.ofInt (-1000001))]) (M' := M) rfl ?_
      exact vm_WM.ret (r := some (.int (Int32.ofInt (-1000001)))) 4 rfl rfl rfl ⟨_, rfl, h⟩
theorem v_B_feed {X : Nat × (Nat → Int32)} {a1 : Int64} {a2 : Int32} {M : vm_M} {P : Int32 → vm_M → Prop} (h : (a2 < (nI 1) → (P (Int32.ofInt (-1000001)) M)) ∧ (¬ (a2 < (nI 1)) → (((nI 8) < a2 → (P (Int32.ofInt (-1000001)) M)) ∧ (¬ ((nI 8) < a2) → (E_Tape_append X a1 a2 M (fun v1 M2 => P v1 M2)))))) : E_B_feed X a1 a2 M P := by
  unfold E_B_feed
  refine vm_WM.seq 0 2 (pc' := 2) (L' := [.ref 0, .long a1, .null, .int a2]) (S' := [.int (nI 1), .int a2]) (M' := M) rfl ?_
  refine vm_WM.if (c := a2 < (nI 1)) (t1 := 11) (t2 := 5) (S' := []) 2 rfl rfl rfl (fun hc => ?_) (fun hc => ?_)
  · replace h := h.1 hc
    refine vm_WM.seq 6 2 (pc' := 25) (L' := [.ref 0, .long a1, .null, .int a2]) (S' := [.int (Int32.ofInt (-1000001))]) (M' := M) rfl ?_
    exact vm_WM.ret (r := some (.int (Int32.ofInt (-1000001)))) 13 rfl rfl rfl ⟨_, rfl, h⟩
  · replace h := h.2 hc
    refine vm_WM.seq 3 2 (pc' := 8) (L' := [.ref 0, .long a1, .null, .int a2]) (S' := [.int (nI 8), .int a2]) (M' := M) rfl ?_
    refine vm_WM.if (c := (nI 8) < a2) (t1 := 11) (t2 := 16) (S' := []) 5 rfl rfl rfl (fun hc => ?_) (fun hc => ?_)
    · replace h := h.1 hc
      refine vm_WM.seq 6 2 (pc' := 25) (L' := [.ref 0, .long a1, .null, .int a2]) (S' := [.int (Int32.ofInt (-1000001))]) (M' := M) rfl ?_
      exact vm_WM.ret (r := some (.int (Int32.ofInt (-1000001)))) 13 rfl rfl rfl ⟨_, rfl, h⟩
    · replace h := h.2 hc
      refine vm_WM.seq 8 4 (pc' := 22) (L' := [.ref 0, .long a1, .null, .int a2]) (S' := [.int a2, .long a1, .ref 5]) (M' := M) rfl ?_
      refine vm_WM.call (a := 59) (as := [.ref 5, .long a1, .int a2]) (rest := []) (L0 := [.ref 5, .long a1, .null, .int a2, .null]) 12 rfl rfl (by decide) rfl rfl ⟨rfl, Or.inr rfl, Nat.le_of_ble_eq_true rfl, Nat.le_of_ble_eq_true rfl⟩ rfl rfl rfl ?_
      refine vm_WM.theni h (fun v1 M2 h => ?_)
      show vm_WM X 78 25 [.ref 0, .long a1, .null, .int a2] [.int v1] M2 _
      exact vm_WM.ret (r := some (.int v1)) 13 rfl rfl rfl ⟨_, rfl, h⟩
theorem v_B_hill {X : Nat × (Nat → Int32)}  {M : vm_M} {P : Int32 → vm_M → Prop} (h : E_Tape_readOnto_14 X  M (fun v1 M2 => (v1 < 0 → (E_Hill_become_7_14 X  M2 (fun M3 => P ((vm_u2 M3 35 1 (nI 0)) 7 0) (vm_u2 M3 35 1 (nI 0))))) ∧ (¬ (v1 < 0) → (P ((Int32.ofInt (-1000100)) - v1) M2)))) : E_B_hill X  M P := by
  unfold E_B_hill
  refine vm_WM.seq 0 4 (pc' := 8) (L' := [.ref 0, .null]) (S' := [.ref 14, .ref 5]) (M' := M) rfl ?_
  refine vm_WM.call (a := 60) (as := [.ref 5, .ref 14]) (rest := []) (L0 := [.ref 5, .ref 14, .null, .null]) 4 rfl rfl (by decide) rfl rfl ⟨rfl, Or.inr rfl, Nat.le_of_ble_eq_true rfl, Nat.le_of_ble_eq_true rfl⟩ rfl rfl rfl ?_
  refine vm_WM.theni h (fun v1 M2 h => ?_)
  show vm_WM X 79 11 [.ref 0, .null] [.int v1] M2 _
  refine vm_WM.seq 5 2 (pc' := 13) (L' := [.ref 0, .int v1]) (S' := [.int v1]) (M' := M2) rfl ?_
  refine vm_WM.if (c := v1 < 0) (t1 := 21) (t2 := 16) (S' := []) 7 rfl rfl rfl (fun hc => ?_) (fun hc => ?_)
  · replace h := h.1 hc
    refine vm_WM.seq 12 4 (pc' := 29) (L' := [.ref 0, .int v1]) (S' := [.ref 14, .ref 7]) (M' := M2) rfl ?_
    refine vm_WM.call (a := 42) (as := [.ref 7, .ref 14]) (rest := []) (L0 := [.ref 7, .ref 14]) 16 rfl rfl (by decide) rfl rfl ⟨rfl, Or.inr rfl, Nat.le_of_ble_eq_true rfl, Nat.le_of_ble_eq_true rfl⟩ rfl rfl rfl ?_
    refine vm_WM.thenv h (fun M3 h => ?_)
    show vm_WM X 79 32 [.ref 0, .int v1] [] M3 _
    refine vm_WM.seq 17 2 (pc' := 36) (L' := [.ref 0, .int v1]) (S' := [.ref 35]) (M' := M3) rfl ?_
    refine vm_WM.call (a := 1) (as := [.ref 35]) (rest := []) (L0 := [.ref 35]) 19 rfl rfl (by decide) rfl rfl ⟨rfl, Or.inr rfl, Nat.le_of_ble_eq_true rfl, Nat.le_of_ble_eq_true rfl⟩ rfl rfl rfl ?_
    refine vm_WM.seq 0 3 (pc' := 5) (L' := [.ref 35]) (S' := []) (M' := (vm_u2 M3 35 1 (nI 0))) rfl ?_
    refine vm_WM.ret (r := none) 3 rfl rfl rfl ?_
    show vm_WM X 79 39 [.ref 0, .int v1] [] (vm_u2 M3 35 1 (nI 0)) _
    refine vm_WM.seq 20 3 (pc' := 46) (L' := [.ref 0, .int v1]) (S' := [.int ((vm_u2 M3 35 1 (nI 0)) 7 0)]) (M' := (vm_u2 M3 35 1 (nI 0))) rfl ?_
    exact vm_WM.ret (r := some (.int ((vm_u2 M3 35 1 (nI 0)) 7 0))) 23 rfl rfl rfl ⟨_, rfl, h⟩
  · replace h := h.2 hc
    refine vm_WM.seq 8 3 (pc' := 20) (L' := [.ref 0, .int v1]) (S' := [.int ((Int32.ofInt (-1000100)) - v1)]) (M' := M2) rfl ?_
    exact vm_WM.ret (r := some (.int ((Int32.ofInt (-1000100)) - v1))) 11 rfl rfl rfl ⟨_, rfl, h⟩
theorem v_B_fault {X : Nat × (Nat → Int32)}  {M : vm_M} {P : Int32 → vm_M → Prop} (h : P (M 5 7) M) : E_B_fault X  M P := by
  unfold E_B_fault
  refine vm_WM.seq 0 3 (pc' := 7) (L' := [.ref 0]) (S' := [.int (M 5 7)]) (M' := M) rfl ?_
  exact vm_WM.ret (r := some (.int (M 5 7))) 3 rfl rfl rfl ⟨_, rfl, h⟩
theorem v_B_pass {X : Nat × (Nat → Int32)} {a1 : Int32} {M : vm_M} {P : Int32 → vm_M → Prop} (h : (a1 < 0 → (P (Int32.ofInt (-1000001)) M)) ∧ (¬ (a1 < 0) → ((a1 < (M 7 0) → (E_Hill_handed_7 X (M 7 5) a1 (M 7 4) (M 7 2) M (fun v1 M2 => (v1 = (Int32.ofInt (-1000000)) → (P (Int32.ofInt (-1000002)) M2)) ∧ (¬ (v1 = (Int32.ofInt (-1000000))) → (E_Acts_passTo X a1 v1 M2 (fun M3 => P v1 M3)))))) ∧ (¬ (a1 < (M 7 0)) → (P (Int32.ofInt (-1000001)) M))))) : E_B_pass X a1 M P := by
  unfold E_B_pass
  refine vm_WM.seq 0 3 (pc' := 5) (L' := [.ref 0, .int a1, .null]) (S' := [.int a1, .ref 7]) (M' := M) rfl ?_
  refine vm_WM.call (a := 38) (as := [.ref 7, .int a1]) (rest := []) (L0 := [.ref 7, .int a1]) 3 rfl rfl (by decide) rfl rfl ⟨rfl, Or.inr rfl, Nat.le_of_ble_eq_true rfl, Nat.le_of_ble_eq_true rfl⟩ rfl rfl rfl ?_
  refine vm_WM.seq 0 1 (pc' := 1) (L' := [.ref 7, .int a1]) (S' := [.int a1]) (M' := M) rfl ?_
  refine vm_WM.if (c := a1 < 0) (t1 := 16) (t2 := 4) (S' := []) 1 rfl rfl rfl (fun hc => ?_) (fun hc => ?_)
  · replace h := h.1 hc
    refine vm_WM.seq 8 1 (pc' := 17) (L' := [.ref 7, .int a1]) (S' := [.int (nI 0)]) (M' := M) rfl ?_
    refine vm_WM.ret (r := some (.int (nI 0))) 9 rfl rfl rfl ?_
    show vm_WM X 81 8 [.ref 0, .int a1, .null] [.int (nI 0)] M _
    refine vm_WM.seq 4 2 (pc' := 13) (L' := [.ref 0, .int a1, .null]) (S' := [.int (Int32.ofInt (-1000001))]) (M' := M) rfl ?_
    exact vm_WM.ret (r := some (.int (Int32.ofInt (-1000001)))) 6 rfl rfl rfl ⟨_, rfl, h⟩
  · replace h := h.2 hc
    refine vm_WM.seq 2 3 (pc' := 9) (L' := [.ref 7, .int a1]) (S' := [.int (M 7 0), .int a1]) (M' := M) rfl ?_
    refine vm_WM.if (c := a1 < (M 7 0)) (t1 := 12) (t2 := 16) (S' := []) 5 rfl rfl rfl (fun hc => ?_) (fun hc => ?_)
    · replace h := h.1 hc
      refine vm_WM.seq 6 2 (pc' := 17) (L' := [.ref 7, .int a1]) (S' := [.int (nI 1)]) (M' := M) rfl ?_
      refine vm_WM.ret (r := some (.int (nI 1))) 9 rfl rfl rfl ?_
      show vm_WM X 81 8 [.ref 0, .int a1, .null] [.int (nI 1)] M _
      refine vm_WM.seq 4 1 (pc' := 14) (L' := [.ref 0, .int a1, .null]) (S' := []) (M' := M) rfl ?_
      refine vm_WM.seq 7 12 (pc' := 40) (L' := [.ref 0, .int a1, .null]) (S' := [.int (M 7 2), .int (M 7 4), .int a1, .int (M 7 5), .ref 7]) (M' := M) rfl ?_
      refine vm_WM.call (a := 46) (as := [.ref 7, .int (M 7 5), .int a1, .int (M 7 4), .int (M 7 2)]) (rest := []) (L0 := [.ref 7, .int (M 7 5), .int a1, .int (M 7 4), .int (M 7 2), .null]) 19 rfl rfl (by decide) rfl rfl ⟨rfl, Or.inr rfl, Nat.le_of_ble_eq_true rfl, Nat.le_of_ble_eq_true rfl⟩ rfl rfl rfl ?_
      refine vm_WM.theni h (fun v1 M2 h => ?_)
      show vm_WM X 81 43 [.ref 0, .int a1, .null] [.int v1] M2 _
      refine vm_WM.seq 20 3 (pc' := 47) (L' := [.ref 0, .int a1, .int v1]) (S' := [.int (Int32.ofInt (-1000000)), .int v1]) (M' := M2) rfl ?_
      refine vm_WM.if (c := v1 = (Int32.ofInt (-1000000))) (t1 := 50) (t2 := 53) (S' := []) 23 rfl rfl rfl (fun hc => ?_) (fun hc => ?_)
      · replace h := h.1 hc
        refine vm_WM.seq 24 1 (pc' := 52) (L' := [.ref 0, .int a1, .int v1]) (S' := [.int (Int32.ofInt (-1000002))]) (M' := M2) rfl ?_
        exact vm_WM.ret (r := some (.int (Int32.ofInt (-1000002)))) 25 rfl rfl rfl ⟨_, rfl, h⟩
      · replace h := h.2 hc
        refine vm_WM.seq 26 4 (pc' := 59) (L' := [.ref 0, .int a1, .int v1]) (S' := [.int v1, .int a1, .ref 35]) (M' := M2) rfl ?_
        refine vm_WM.call (a := 2) (as := [.ref 35, .int a1, .int v1]) (rest := []) (L0 := [.ref 35, .int a1, .int v1, .null]) 30 rfl rfl (by decide) rfl rfl ⟨rfl, Or.inr rfl, Nat.le_of_ble_eq_true rfl, Nat.le_of_ble_eq_true rfl⟩ rfl rfl rfl ?_
        refine vm_WM.thenv h (fun M3 h => ?_)
        show vm_WM X 81 62 [.ref 0, .int a1, .int v1] [] M3 _
        refine vm_WM.seq 31 1 (pc' := 63) (L' := [.ref 0, .int a1, .int v1]) (S' := [.int v1]) (M' := M3) rfl ?_
        exact vm_WM.ret (r := some (.int v1)) 32 rfl rfl rfl ⟨_, rfl, h⟩
    · replace h := h.2 hc
      refine vm_WM.seq 8 1 (pc' := 17) (L' := [.ref 7, .int a1]) (S' := [.int (nI 0)]) (M' := M) rfl ?_
      refine vm_WM.ret (r := some (.int (nI 0))) 9 rfl rfl rfl ?_
      show vm_WM X 81 8 [.ref 0, .int a1, .null] [.int (nI 0)] M _
      refine vm_WM.seq 4 2 (pc' := 13) (L' := [.ref 0, .int a1, .null]) (S' := [.int (Int32.ofInt (-1000001))]) (M' := M) rfl ?_
      exact vm_WM.ret (r := some (.int (Int32.ofInt (-1000001)))) 6 rfl rfl rfl ⟨_, rfl, h⟩
theorem v_B_waits {X : Nat × (Nat → Int32)} {a1 : Int32} {M : vm_M} {P : Int32 → vm_M → Prop} (h : ((M 7 0) = 0 → (P (Int32.ofInt (-1000002)) M)) ∧ (¬ ((M 7 0) = 0) → ((a1 < (nI 1) → (P (Int32.ofInt (-1000001)) M)) ∧ (¬ (a1 < (nI 1)) → (((nI 60) < a1 → (P (Int32.ofInt (-1000001)) M)) ∧ (¬ ((nI 60) < a1) → ((((nI 60) - (M 7 4)) < a1 → (P (Int32.ofInt (-1000003)) M)) ∧ (¬ (((nI 60) - (M 7 4)) < a1) → (E_Acts_letPass X a1 M (fun M1 => P (M1 7 4) M1)))))))))) : E_B_waits X a1 M P := by
  unfold E_B_waits
  refine vm_WM.seq 0 2 (pc' := 4) (L' := [.ref 0, .int a1]) (S' := [.ref 7]) (M' := M) rfl ?_
  refine vm_WM.call (a := 37) (as := [.ref 7]) (rest := []) (L0 := [.ref 7]) 2 rfl rfl (by decide) rfl rfl ⟨rfl, Or.inr rfl, Nat.le_of_ble_eq_true rfl, Nat.le_of_ble_eq_true rfl⟩ rfl rfl rfl ?_
  refine vm_WM.seq 0 2 (pc' := 4) (L' := [.ref 7]) (S' := [.int (M 7 0)]) (M' := M) rfl ?_
  refine vm_WM.if (c := (M 7 0) = 0) (t1 := 7) (t2 := 11) (S' := []) 2 rfl rfl rfl (fun hc => ?_) (fun hc => ?_)
  · replace h := h.1 hc
    refine vm_WM.seq 3 2 (pc' := 12) (L' := [.ref 7]) (S' := [.int (nI 1)]) (M' := M) rfl ?_
    refine vm_WM.ret (r := some (.int (nI 1))) 6 rfl rfl rfl ?_
    show vm_WM X 82 7 [.ref 0, .int a1] [.int (nI 1)] M _
    refine vm_WM.seq 3 2 (pc' := 12) (L' := [.ref 0, .int a1]) (S' := [.int (Int32.ofInt (-1000002))]) (M' := M) rfl ?_
    exact vm_WM.ret (r := some (.int (Int32.ofInt (-1000002)))) 5 rfl rfl rfl ⟨_, rfl, h⟩
  · replace h := h.2 hc
    refine vm_WM.seq 5 1 (pc' := 12) (L' := [.ref 7]) (S' := [.int (nI 0)]) (M' := M) rfl ?_
    refine vm_WM.ret (r := some (.int (nI 0))) 6 rfl rfl rfl ?_
    show vm_WM X 82 7 [.ref 0, .int a1] [.int (nI 0)] M _
    refine vm_WM.seq 3 1 (pc' := 13) (L' := [.ref 0, .int a1]) (S' := []) (M' := M) rfl ?_
    refine vm_WM.seq 6 2 (pc' := 15) (L' := [.ref 0, .int a1]) (S' := [.int (nI 1), .int a1]) (M' := M) rfl ?_
    refine vm_WM.if (c := a1 < (nI 1)) (t1 := 24) (t2 := 18) (S' := []) 8 rfl rfl rfl (fun hc => ?_) (fun hc => ?_)
    · replace h := h.1 hc
      refine vm_WM.seq 12 1 (pc' := 26) (L' := [.ref 0, .int a1]) (S' := [.int (Int32.ofInt (-1000001))]) (M' := M) rfl ?_
      exact vm_WM.ret (r := some (.int (Int32.ofInt (-1000001)))) 13 rfl rfl rfl ⟨_, rfl, h⟩
    · replace h := h.2 hc
      refine vm_WM.seq 9 2 (pc' := 21) (L' := [.ref 0, .int a1]) (S' := [.int (nI 60), .int a1]) (M' := M) rfl ?_
      refine vm_WM.if (c := (nI 60) < a1) (t1 := 24) (t2 := 27) (S' := []) 11 rfl rfl rfl (fun hc => ?_) (fun hc => ?_)
      · replace h := h.1 hc
        refine vm_WM.seq 12 1 (pc' := 26) (L' := [.ref 0, .int a1]) (S' := [.int (Int32.ofInt (-1000001))]) (M' := M) rfl ?_
        exact vm_WM.ret (r := some (.int (Int32.ofInt (-1000001)))) 13 rfl rfl rfl ⟨_, rfl, h⟩
      · replace h := h.2 hc
        refine vm_WM.seq 14 6 (pc' := 38) (L' := [.ref 0, .int a1]) (S' := [.int ((nI 60) - (M 7 4)), .int a1]) (M' := M) rfl ?_
        refine vm_WM.if (c := ((nI 60) - (M 7 4)) < a1) (t1 := 41) (t2 := 44) (S' := []) 20 rfl rfl rfl (fun hc => ?_) (fun hc => ?_)
        · replace h := h.1 hc
          refine vm_WM.seq 21 1 (pc' := 43) (L' := [.ref 0, .int a1]) (S' := [.int (Int32.ofInt (-1000003))]) (M' := M) rfl ?_
          exact vm_WM.ret (r := some (.int (Int32.ofInt (-1000003)))) 22 rfl rfl rfl ⟨_, rfl, h⟩
        · replace h := h.2 hc
          refine vm_WM.seq 23 3 (pc' := 49) (L' := [.ref 0, .int a1]) (S' := [.int a1, .ref 35]) (M' := M) rfl ?_
          refine vm_WM.call (a := 3) (as := [.ref 35, .int a1]) (rest := []) (L0 := [.ref 35, .int a1]) 26 rfl rfl (by decide) rfl rfl ⟨rfl, Or.inr rfl, Nat.le_of_ble_eq_true rfl, Nat.le_of_ble_eq_true rfl⟩ rfl rfl rfl ?_
          refine vm_WM.thenv h (fun M1 h => ?_)
          show vm_WM X 82 52 [.ref 0, .int a1] [] M1 _
          refine vm_WM.seq 27 3 (pc' := 59) (L' := [.ref 0, .int a1]) (S' := [.int (M1 7 4)]) (M' := M1) rfl ?_
          exact vm_WM.ret (r := some (.int (M1 7 4))) 30 rfl rfl rfl ⟨_, rfl, h⟩
theorem v_B_bribe {X : Nat × (Nat → Int32)} {a1 : Int32} {M : vm_M} {P : Int32 → vm_M → Prop} (h : ((M 7 0) = 0 → (P (Int32.ofInt (-1000002)) M)) ∧ (¬ ((M 7 0) = 0) → ((a1 < (nI 1) → (P (Int32.ofInt (-1000001)) M)) ∧ (¬ (a1 < (nI 1)) → (((nI 60) < a1 → (P (Int32.ofInt (-1000001)) M)) ∧ (¬ ((nI 60) < a1) → (E_Acts_moveDawn X a1 M (fun M1 => P (M 7 2) M1)))))))) : E_B_bribe X a1 M P := by
  unfold E_B_bribe
  refine vm_WM.seq 0 2 (pc' := 4) (L' := [.ref 0, .int a1, .null]) (S' := [.ref 7]) (M' := M) rfl ?_
  refine vm_WM.call (a := 37) (as := [.ref 7]) (rest := []) (L0 := [.ref 7]) 2 rfl rfl (by decide) rfl rfl ⟨rfl, Or.inr rfl, Nat.le_of_ble_eq_true rfl, Nat.le_of_ble_eq_true rfl⟩ rfl rfl rfl ?_
  refine vm_WM.seq 0 2 (pc' := 4) (L' := [.ref 7]) (S' := [.int (M 7 0)]) (M' := M) rfl ?_
  refine vm_WM.if (c := (M 7 0) = 0) (t1 := 7) (t2 := 11) (S' := []) 2 rfl rfl rfl (fun hc => ?_) (fun hc => ?_)
  · replace h := h.1 hc
    refine vm_WM.seq 3 2 (pc' := 12) (L' := [.ref 7]) (S' := [.int (nI 1)]) (M' := M) rfl ?_
    refine vm_WM.ret (r := some (.int (nI 1))) 6 rfl rfl rfl ?_
    show vm_WM X 83 7 [.ref 0, .int a1, .null] [.int (nI 1)] M _
    refine vm_WM.seq 3 2 (pc' := 12) (L' := [.ref 0, .int a1, .null]) (S' := [.int (Int32.ofInt (-1000002))]) (M' := M) rfl ?_
    exact vm_WM.ret (r := some (.int (Int32.ofInt (-1000002)))) 5 rfl rfl rfl ⟨_, rfl, h⟩
  · replace h := h.2 hc
    refine vm_WM.seq 5 1 (pc' := 12) (L' := [.ref 7]) (S' := [.int (nI 0)]) (M' := M) rfl ?_
    refine vm_WM.ret (r := some (.int (nI 0))) 6 rfl rfl rfl ?_
    show vm_WM X 83 7 [.ref 0, .int a1, .null] [.int (nI 0)] M _
    refine vm_WM.seq 3 1 (pc' := 13) (L' := [.ref 0, .int a1, .null]) (S' := []) (M' := M) rfl ?_
    refine vm_WM.seq 6 2 (pc' := 15) (L' := [.ref 0, .int a1, .null]) (S' := [.int (nI 1), .int a1]) (M' := M) rfl ?_
    refine vm_WM.if (c := a1 < (nI 1)) (t1 := 24) (t2 := 18) (S' := []) 8 rfl rfl rfl (fun hc => ?_) (fun hc => ?_)
    · replace h := h.1 hc
      refine vm_WM.seq 12 1 (pc' := 26) (L' := [.ref 0, .int a1, .null]) (S' := [.int (Int32.ofInt (-1000001))]) (M' := M) rfl ?_
      exact vm_WM.ret (r := some (.int (Int32.ofInt (-1000001)))) 13 rfl rfl rfl ⟨_, rfl, h⟩
    · replace h := h.2 hc
      refine vm_WM.seq 9 2 (pc' := 21) (L' := [.ref 0, .int a1, .null]) (S' := [.int (nI 60), .int a1]) (M' := M) rfl ?_
      refine vm_WM.if (c := (nI 60) < a1) (t1 := 24) (t2 := 27) (S' := []) 11 rfl rfl rfl (fun hc => ?_) (fun hc => ?_)
      · replace h := h.1 hc
        refine vm_WM.seq 12 1 (pc' := 26) (L' := [.ref 0, .int a1, .null]) (S' := [.int (Int32.ofInt (-1000001))]) (M' := M) rfl ?_
        exact vm_WM.ret (r := some (.int (Int32.ofInt (-1000001)))) 13 rfl rfl rfl ⟨_, rfl, h⟩
      · replace h := h.2 hc
        refine vm_WM.seq 14 7 (pc' := 40) (L' := [.ref 0, .int a1, .int (M 7 2)]) (S' := [.int a1, .ref 35]) (M' := M) rfl ?_
        refine vm_WM.call (a := 4) (as := [.ref 35, .int a1]) (rest := []) (L0 := [.ref 35, .int a1]) 21 rfl rfl (by decide) rfl rfl ⟨rfl, Or.inr rfl, Nat.le_of_ble_eq_true rfl, Nat.le_of_ble_eq_true rfl⟩ rfl rfl rfl ?_
        refine vm_WM.thenv h (fun M1 h => ?_)
        show vm_WM X 83 43 [.ref 0, .int a1, .int (M 7 2)] [] M1 _
        refine vm_WM.seq 22 1 (pc' := 44) (L' := [.ref 0, .int a1, .int (M 7 2)]) (S' := [.int (M 7 2)]) (M' := M1) rfl ?_
        exact vm_WM.ret (r := some (.int (M 7 2))) 23 rfl rfl rfl ⟨_, rfl, h⟩
theorem v_B_undo {X : Nat × (Nat → Int32)}  {M : vm_M} {P : Int32 → vm_M → Prop} (h : E_Acts_takeBack X  M (fun v1 M2 => (v1 = 0 → (P (Int32.ofInt (-1000002)) M2)) ∧ (¬ (v1 = 0) → (P (M2 35 1) M2)))) : E_B_undo X  M P := by
  unfold E_B_undo
  refine vm_WM.seq 0 2 (pc' := 4) (L' := [.ref 0]) (S' := [.ref 35]) (M' := M) rfl ?_
  refine vm_WM.call (a := 5) (as := [.ref 35]) (rest := []) (L0 := [.ref 35]) 2 rfl rfl (by decide) rfl rfl ⟨rfl, Or.inr rfl, Nat.le_of_ble_eq_true rfl, Nat.le_of_ble_eq_true rfl⟩ rfl rfl rfl ?_
  refine vm_WM.theni h (fun v1 M2 h => ?_)
  show vm_WM X 84 7 [.ref 0] [.int v1] M2 _
  refine vm_WM.if (c := v1 = 0) (t1 := 20) (t2 := 10) (S' := []) 3 rfl rfl rfl (fun hc => ?_) (fun hc => ?_)
  · replace h := h.1 hc
    refine vm_WM.seq 8 1 (pc' := 22) (L' := [.ref 0]) (S' := [.int (Int32.ofInt (-1000002))]) (M' := M2) rfl ?_
    exact vm_WM.ret (r := some (.int (Int32.ofInt (-1000002)))) 9 rfl rfl rfl ⟨_, rfl, h⟩
  · replace h := h.2 hc
    refine vm_WM.seq 4 4 (pc' := 22) (L' := [.ref 0]) (S' := [.int (M2 35 1)]) (M' := M2) rfl ?_
    exact vm_WM.ret (r := some (.int (M2 35 1))) 9 rfl rfl rfl ⟨_, rfl, h⟩
theorem v_B_trader {X : Nat × (Nat → Int32)} {a1 : Int32} {a2 : Int32} {M : vm_M} {P : Int32 → vm_M → Prop} (h : (a1 < 0 → (P (Int32.ofInt (-1000001)) M)) ∧ (¬ (a1 < 0) → ((a1 < (M 7 0) → (((a2).toInt < 0 ∨ 3 < (a2).toInt → (P (Int32.ofInt (-1000001)) M)) ∧ ((a2 = (nI 0) → (∃ j1 : Nat, a1 = nI j1 ∧ j1 < 6 ∧ (P (M 9 j1) M))) ∧ (a2 = (nI 1) → (∃ j2 : Nat, a1 = nI j2 ∧ j2 < 6 ∧ (P (M 10 j2) M))) ∧ (a2 = (nI 2) → (E_Hill_price_7 X a1 M (fun v3 M4 => P v3 M4))) ∧ (a2 = (nI 3) → (∃ j5 : Nat, a1 = nI j5 ∧ j5 < 6 ∧ (P (M 11 j5) M)))))) ∧ (¬ (a1 < (M 7 0)) → (P (Int32.ofInt (-1000001)) M))))) : E_B_trader X a1 a2 M P := by
  unfold E_B_trader
  refine vm_WM.seq 0 3 (pc' := 5) (L' := [.ref 0, .int a1, .int a2]) (S' := [.int a1, .ref 7]) (M' := M) rfl ?_
  refine vm_WM.call (a := 38) (as := [.ref 7, .int a1]) (rest := []) (L0 := [.ref 7, .int a1]) 3 rfl rfl (by decide) rfl rfl ⟨rfl, Or.inr rfl, Nat.le_of_ble_eq_true rfl, Nat.le_of_ble_eq_true rfl⟩ rfl rfl rfl ?_
  refine vm_WM.seq 0 1 (pc' := 1) (L' := [.ref 7, .int a1]) (S' := [.int a1]) (M' := M) rfl ?_
  refine vm_WM.if (c := a1 < 0) (t1 := 16) (t2 := 4) (S' := []) 1 rfl rfl rfl (fun hc => ?_) (fun hc => ?_)
  · replace h := h.1 hc
    refine vm_WM.seq 8 1 (pc' := 17) (L' := [.ref 7, .int a1]) (S' := [.int (nI 0)]) (M' := M) rfl ?_
    refine vm_WM.ret (r := some (.int (nI 0))) 9 rfl rfl rfl ?_
    show vm_WM X 85 8 [.ref 0, .int a1, .int a2] [.int (nI 0)] M _
    refine vm_WM.seq 4 2 (pc' := 13) (L' := [.ref 0, .int a1, .int a2]) (S' := [.int (Int32.ofInt (-1000001))]) (M' := M) rfl ?_
    exact vm_WM.ret (r := some (.int (Int32.ofInt (-1000001)))) 6 rfl rfl rfl ⟨_, rfl, h⟩
  · replace h := h.2 hc
    refine vm_WM.seq 2 3 (pc' := 9) (L' := [.ref 7, .int a1]) (S' := [.int (M 7 0), .int a1]) (M' := M) rfl ?_
    refine vm_WM.if (c := a1 < (M 7 0)) (t1 := 12) (t2 := 16) (S' := []) 5 rfl rfl rfl (fun hc => ?_) (fun hc => ?_)
    · replace h := h.1 hc
      refine vm_WM.seq 6 2 (pc' := 17) (L' := [.ref 7, .int a1]) (S' := [.int (nI 1)]) (M' := M) rfl ?_
      refine vm_WM.ret (r := some (.int (nI 1))) 9 rfl rfl rfl ?_
      show vm_WM X 85 8 [.ref 0, .int a1, .int a2] [.int (nI 1)] M _
      refine vm_WM.seq 4 1 (pc' := 14) (L' := [.ref 0, .int a1, .int a2]) (S' := []) (M' := M) rfl ?_
      refine vm_WM.seq 7 1 (pc' := 15) (L' := [.ref 0, .int a1, .int a2]) (S' := [.int a2]) (M' := M) rfl ?_
      by_cases hlo : (a2).toInt < 0 ∨ 3 < (a2).toInt
      · replace h := h.1 hlo
        refine vm_WM.tso (t := 83) 8 rfl hlo rfl ?_
        refine vm_WM.seq 32 1 (pc' := 85) (L' := [.ref 0, .int a1, .int a2]) (S' := [.int (Int32.ofInt (-1000001))]) (M' := M) rfl ?_
        exact vm_WM.ret (r := some (.int (Int32.ofInt (-1000001)))) 33 rfl rfl rfl ⟨_, rfl, h⟩
      · replace h := h.2
        by_cases hq0 : a2 = (nI 0)
        · replace h := h.1 hq0
          refine vm_WM.tsi (t := 44) (v := 0) 8 rfl hq0 (by decide) rfl ?_
          refine vm_WM.seq 9 4 (pc' := 52) (L' := [.ref 0, .int a1, .int a2]) (S' := [.int a1, .ref 9]) (M' := M) rfl ?_
          obtain ⟨j1, hj1, hj2, h⟩ := h
          refine vm_WM.ald (n := 6) (jj := j1) 13 rfl (Or.inl ⟨rfl, rfl⟩) (by decide) rfl hj1 hj2 ?_
          exact vm_WM.ret (r := some (.int (M 9 j1))) 14 rfl rfl rfl ⟨_, rfl, h⟩
        by_cases hq1 : a2 = (nI 1)
        · replace h := h.2.1 hq1
          refine vm_WM.tsi (t := 54) (v := 1) 8 rfl hq1 (by decide) rfl ?_
          refine vm_WM.seq 15 4 (pc' := 62) (L' := [.ref 0, .int a1, .int a2]) (S' := [.int a1, .ref 10]) (M' := M) rfl ?_
          obtain ⟨j2, hj1, hj2, h⟩ := h
          refine vm_WM.ald (n := 6) (jj := j2) 19 rfl (Or.inl ⟨rfl, rfl⟩) (by decide) rfl hj1 hj2 ?_
          exact vm_WM.ret (r := some (.int (M 10 j2))) 20 rfl rfl rfl ⟨_, rfl, h⟩
        by_cases hq2 : a2 = (nI 2)
        · replace h := h.2.2.1 hq2
          refine vm_WM.tsi (t := 64) (v := 2) 8 rfl hq2 (by decide) rfl ?_
          refine vm_WM.seq 21 3 (pc' := 69) (L' := [.ref 0, .int a1, .int a2]) (S' := [.int a1, .ref 7]) (M' := M) rfl ?_
          refine vm_WM.call (a := 43) (as := [.ref 7, .int a1]) (rest := []) (L0 := [.ref 7, .int a1]) 24 rfl rfl (by decide) rfl rfl ⟨rfl, Or.inr rfl, Nat.le_of_ble_eq_true rfl, Nat.le_of_ble_eq_true rfl⟩ rfl rfl rfl ?_
          refine vm_WM.theni h (fun v3 M4 h => ?_)
          show vm_WM X 85 72 [.ref 0, .int a1, .int a2] [.int v3] M4 _
          exact vm_WM.ret (r := some (.int v3)) 25 rfl rfl rfl ⟨_, rfl, h⟩
        by_cases hq3 : a2 = (nI 3)
        · replace h := h.2.2.2 hq3
          refine vm_WM.tsi (t := 73) (v := 3) 8 rfl hq3 (by decide) rfl ?_
          refine vm_WM.seq 26 4 (pc' := 81) (L' := [.ref 0, .int a1, .int a2]) (S' := [.int a1, .ref 11]) (M' := M) rfl ?_
          obtain ⟨j5, hj1, hj2, h⟩ := h
          refine vm_WM.ald (n := 6) (jj := j5) 30 rfl (Or.inl ⟨rfl, rfl⟩) (by decide) rfl hj1 hj2 ?_
          exact vm_WM.ret (r := some (.int (M 11 j5))) 31 rfl rfl rfl ⟨_, rfl, h⟩
        exact absurd (vm_sw_no (lo := 0) (n := 4) (by decide) (fun q hq => by
          match q, hq with
          | 0, _ => exact hq0
          | 1, _ => exact hq1
          | 2, _ => exact hq2
          | 3, _ => exact hq3
          | q + 4, hq => omega)) hlo
    · replace h := h.2 hc
      refine vm_WM.seq 8 1 (pc' := 17) (L' := [.ref 7, .int a1]) (S' := [.int (nI 0)]) (M' := M) rfl ?_
      refine vm_WM.ret (r := some (.int (nI 0))) 9 rfl rfl rfl ?_
      show vm_WM X 85 8 [.ref 0, .int a1, .int a2] [.int (nI 0)] M _
      refine vm_WM.seq 4 2 (pc' := 13) (L' := [.ref 0, .int a1, .int a2]) (S' := [.int (Int32.ofInt (-1000001))]) (M' := M) rfl ?_
      exact vm_WM.ret (r := some (.int (Int32.ofInt (-1000001)))) 6 rfl rfl rfl ⟨_, rfl, h⟩
theorem v_B_takes {X : Nat × (Nat → Int32)} {a1 : Int32} {a2 : Int32} {M : vm_M} {P : Int32 → vm_M → Prop} (h : (a1 < 0 → (P (Int32.ofInt (-1000001)) M)) ∧ (¬ (a1 < 0) → ((a1 < (M 7 0) → ((a2 < 0 → (P (Int32.ofInt (-1000001)) M)) ∧ (¬ (a2 < 0) → (((nI 60) < a2 → (P (Int32.ofInt (-1000001)) M)) ∧ (¬ ((nI 60) < a2) → (E_Hill_accepts_7 X a1 a2 (M 7 2) M (fun v1 M2 => (v1 = 0 → (P (nI 0) M2)) ∧ (¬ (v1 = 0) → (P (nI 1) M2))))))))) ∧ (¬ (a1 < (M 7 0)) → (P (Int32.ofInt (-1000001)) M))))) : E_B_takes X a1 a2 M P := by
  unfold E_B_takes
  refine vm_WM.seq 0 3 (pc' := 5) (L' := [.ref 0, .int a1, .int a2]) (S' := [.int a1, .ref 7]) (M' := M) rfl ?_
  refine vm_WM.call (a := 38) (as := [.ref 7, .int a1]) (rest := []) (L0 := [.ref 7, .int a1]) 3 rfl rfl (by decide) rfl rfl ⟨rfl, Or.inr rfl, Nat.le_of_ble_eq_true rfl, Nat.le_of_ble_eq_true rfl⟩ rfl rfl rfl ?_
  refine vm_WM.seq 0 1 (pc' := 1) (L' := [.ref 7, .int a1]) (S' := [.int a1]) (M' := M) rfl ?_
  refine vm_WM.if (c := a1 < 0) (t1 := 16) (t2 := 4) (S' := []) 1 rfl rfl rfl (fun hc => ?_) (fun hc => ?_)
  · replace h := h.1 hc
    refine vm_WM.seq 8 1 (pc' := 17) (L' := [.ref 7, .int a1]) (S' := [.int (nI 0)]) (M' := M) rfl ?_
    refine vm_WM.ret (r := some (.int (nI 0))) 9 rfl rfl rfl ?_
    show vm_WM X 86 8 [.ref 0, .int a1, .int a2] [.int (nI 0)] M _
    refine vm_WM.seq 4 1 (pc' := 18) (L' := [.ref 0, .int a1, .int a2]) (S' := []) (M' := M) rfl ?_
    refine vm_WM.seq 8 1 (pc' := 20) (L' := [.ref 0, .int a1, .int a2]) (S' := [.int (Int32.ofInt (-1000001))]) (M' := M) rfl ?_
    exact vm_WM.ret (r := some (.int (Int32.ofInt (-1000001)))) 9 rfl rfl rfl ⟨_, rfl, h⟩
  · replace h := h.2 hc
    refine vm_WM.seq 2 3 (pc' := 9) (L' := [.ref 7, .int a1]) (S' := [.int (M 7 0), .int a1]) (M' := M) rfl ?_
    refine vm_WM.if (c := a1 < (M 7 0)) (t1 := 12) (t2 := 16) (S' := []) 5 rfl rfl rfl (fun hc => ?_) (fun hc => ?_)
    · replace h := h.1 hc
      refine vm_WM.seq 6 2 (pc' := 17) (L' := [.ref 7, .int a1]) (S' := [.int (nI 1)]) (M' := M) rfl ?_
      refine vm_WM.ret (r := some (.int (nI 1))) 9 rfl rfl rfl ?_
      show vm_WM X 86 8 [.ref 0, .int a1, .int a2] [.int (nI 1)] M _
      refine vm_WM.seq 4 2 (pc' := 12) (L' := [.ref 0, .int a1, .int a2]) (S' := [.int a2]) (M' := M) rfl ?_
      refine vm_WM.call (a := 105) (as := [.int a2]) (rest := []) (L0 := [.int a2]) 6 rfl rfl (by decide) rfl rfl ⟨rfl, Or.inl rfl, Nat.le_of_ble_eq_true rfl, Nat.le_of_ble_eq_true rfl⟩ rfl rfl rfl ?_
      refine vm_WM.seq 0 1 (pc' := 1) (L' := [.int a2]) (S' := [.int a2]) (M' := M) rfl ?_
      refine vm_WM.if (c := a2 < 0) (t1 := 14) (t2 := 4) (S' := []) 1 rfl rfl rfl (fun hc => ?_) (fun hc => ?_)
      · replace h := h.1 hc
        refine vm_WM.seq 7 1 (pc' := 15) (L' := [.int a2]) (S' := [.int (nI 0)]) (M' := M) rfl ?_
        refine vm_WM.ret (r := some (.int (nI 0))) 8 rfl rfl rfl ?_
        show vm_WM X 86 15 [.ref 0, .int a1, .int a2] [.int (nI 0)] M _
        refine vm_WM.seq 7 2 (pc' := 20) (L' := [.ref 0, .int a1, .int a2]) (S' := [.int (Int32.ofInt (-1000001))]) (M' := M) rfl ?_
        exact vm_WM.ret (r := some (.int (Int32.ofInt (-1000001)))) 9 rfl rfl rfl ⟨_, rfl, h⟩
      · replace h := h.2 hc
        refine vm_WM.seq 2 2 (pc' := 7) (L' := [.int a2]) (S' := [.int (nI 60), .int a2]) (M' := M) rfl ?_
        refine vm_WM.if (c := (nI 60) < a2) (t1 := 14) (t2 := 10) (S' := []) 4 rfl rfl rfl (fun hc => ?_) (fun hc => ?_)
        · replace h := h.1 hc
          refine vm_WM.seq 7 1 (pc' := 15) (L' := [.int a2]) (S' := [.int (nI 0)]) (M' := M) rfl ?_
          refine vm_WM.ret (r := some (.int (nI 0))) 8 rfl rfl rfl ?_
          show vm_WM X 86 15 [.ref 0, .int a1, .int a2] [.int (nI 0)] M _
          refine vm_WM.seq 7 2 (pc' := 20) (L' := [.ref 0, .int a1, .int a2]) (S' := [.int (Int32.ofInt (-1000001))]) (M' := M) rfl ?_
          exact vm_WM.ret (r := some (.int (Int32.ofInt (-1000001)))) 9 rfl rfl rfl ⟨_, rfl, h⟩
        · replace h := h.2 hc
          refine vm_WM.seq 5 2 (pc' := 15) (L' := [.int a2]) (S' := [.int (nI 1)]) (M' := M) rfl ?_
          refine vm_WM.ret (r := some (.int (nI 1))) 8 rfl rfl rfl ?_
          show vm_WM X 86 15 [.ref 0, .int a1, .int a2] [.int (nI 1)] M _
          refine vm_WM.seq 7 1 (pc' := 21) (L' := [.ref 0, .int a1, .int a2]) (S' := []) (M' := M) rfl ?_
          refine vm_WM.seq 10 7 (pc' := 34) (L' := [.ref 0, .int a1, .int a2]) (S' := [.int (M 7 2), .int a2, .int a1, .ref 7]) (M' := M) rfl ?_
          refine vm_WM.call (a := 44) (as := [.ref 7, .int a1, .int a2, .int (M 7 2)]) (rest := []) (L0 := [.ref 7, .int a1, .int a2, .int (M 7 2)]) 17 rfl rfl (by decide) rfl rfl ⟨rfl, Or.inr rfl, Nat.le_of_ble_eq_true rfl, Nat.le_of_ble_eq_true rfl⟩ rfl rfl rfl ?_
          refine vm_WM.theni h (fun v1 M2 h => ?_)
          show vm_WM X 86 37 [.ref 0, .int a1, .int a2] [.int v1] M2 _
          refine vm_WM.if (c := v1 = 0) (t1 := 44) (t2 := 40) (S' := []) 18 rfl rfl rfl (fun hc => ?_) (fun hc => ?_)
          · replace h := h.1 hc
            refine vm_WM.seq 21 1 (pc' := 45) (L' := [.ref 0, .int a1, .int a2]) (S' := [.int (nI 0)]) (M' := M2) rfl ?_
            exact vm_WM.ret (r := some (.int (nI 0))) 22 rfl rfl rfl ⟨_, rfl, h⟩
          · replace h := h.2 hc
            refine vm_WM.seq 19 2 (pc' := 45) (L' := [.ref 0, .int a1, .int a2]) (S' := [.int (nI 1)]) (M' := M2) rfl ?_
            exact vm_WM.ret (r := some (.int (nI 1))) 22 rfl rfl rfl ⟨_, rfl, h⟩
    · replace h := h.2 hc
      refine vm_WM.seq 8 1 (pc' := 17) (L' := [.ref 7, .int a1]) (S' := [.int (nI 0)]) (M' := M) rfl ?_
      refine vm_WM.ret (r := some (.int (nI 0))) 9 rfl rfl rfl ?_
      show vm_WM X 86 8 [.ref 0, .int a1, .int a2] [.int (nI 0)] M _
      refine vm_WM.seq 4 1 (pc' := 18) (L' := [.ref 0, .int a1, .int a2]) (S' := []) (M' := M) rfl ?_
      refine vm_WM.seq 8 1 (pc' := 20) (L' := [.ref 0, .int a1, .int a2]) (S' := [.int (Int32.ofInt (-1000001))]) (M' := M) rfl ?_
      exact vm_WM.ret (r := some (.int (Int32.ofInt (-1000001)))) 9 rfl rfl rfl ⟨_, rfl, h⟩
theorem v_B_there {X : Nat × (Nat → Int32)} {a1 : Int32} {a2 : Int32} {a3 : Int32} {M : vm_M} {P : Int32 → vm_M → Prop} (h : (a1 < 0 → (P (Int32.ofInt (-1000001)) M)) ∧ (¬ (a1 < 0) → ((a1 < (M 7 0) → ((a2 < 0 → (P (Int32.ofInt (-1000001)) M)) ∧ (¬ (a2 < 0) → ((a2 < (M 7 0) → ((a1 = a2 → (P (Int32.ofInt (-1000001)) M)) ∧ (¬ (a1 = a2) → ((a3 < 0 → (P (Int32.ofInt (-1000001)) M)) ∧ (¬ (a3 < 0) → (((nI 60) < a3 → (P (Int32.ofInt (-1000001)) M)) ∧ (¬ ((nI 60) < a3) → (E_Hill_arrival_7 X a1 a2 a3 M (fun v1 M2 => P v1 M2))))))))) ∧ (¬ (a2 < (M 7 0)) → (P (Int32.ofInt (-1000001)) M)))))) ∧ (¬ (a1 < (M 7 0)) → (P (Int32.ofInt (-1000001)) M))))) : E_B_there X a1 a2 a3 M P := by
  unfold E_B_there
  refine vm_WM.seq 0 3 (pc' := 5) (L' := [.ref 0, .int a1, .int a2, .int a3]) (S' := [.int a1, .ref 7]) (M' := M) rfl ?_
  refine vm_WM.call (a := 38) (as := [.ref 7, .int a1]) (rest := []) (L0 := [.ref 7, .int a1]) 3 rfl rfl (by decide) rfl rfl ⟨rfl, Or.inr rfl, Nat.le_of_ble_eq_true rfl, Nat.le_of_ble_eq_true rfl⟩ rfl rfl rfl ?_
  refine vm_WM.seq 0 1 (pc' := 1) (L' := [.ref 7, .int a1]) (S' := [.int a1]) (M' := M) rfl ?_
  refine vm_WM.if (c := a1 < 0) (t1 := 16) (t2 := 4) (S' := []) 1 rfl rfl rfl (fun hc => ?_) (fun hc => ?_)
  · replace h := h.1 hc
    refine vm_WM.seq 8 1 (pc' := 17) (L' := [.ref 7, .int a1]) (S' := [.int (nI 0)]) (M' := M) rfl ?_
    refine vm_WM.ret (r := some (.int (nI 0))) 9 rfl rfl rfl ?_
    show vm_WM X 87 8 [.ref 0, .int a1, .int a2, .int a3] [.int (nI 0)] M _
    refine vm_WM.seq 4 1 (pc' := 34) (L' := [.ref 0, .int a1, .int a2, .int a3]) (S' := []) (M' := M) rfl ?_
    refine vm_WM.seq 16 1 (pc' := 36) (L' := [.ref 0, .int a1, .int a2, .int a3]) (S' := [.int (Int32.ofInt (-1000001))]) (M' := M) rfl ?_
    exact vm_WM.ret (r := some (.int (Int32.ofInt (-1000001)))) 17 rfl rfl rfl ⟨_, rfl, h⟩
  · replace h := h.2 hc
    refine vm_WM.seq 2 3 (pc' := 9) (L' := [.ref 7, .int a1]) (S' := [.int (M 7 0), .int a1]) (M' := M) rfl ?_
    refine vm_WM.if (c := a1 < (M 7 0)) (t1 := 12) (t2 := 16) (S' := []) 5 rfl rfl rfl (fun hc => ?_) (fun hc => ?_)
    · replace h := h.1 hc
      refine vm_WM.seq 6 2 (pc' := 17) (L' := [.ref 7, .int a1]) (S' := [.int (nI 1)]) (M' := M) rfl ?_
      refine vm_WM.ret (r := some (.int (nI 1))) 9 rfl rfl rfl ?_
      show vm_WM X 87 8 [.ref 0, .int a1, .int a2, .int a3] [.int (nI 1)] M _
      refine vm_WM.seq 4 4 (pc' := 16) (L' := [.ref 0, .int a1, .int a2, .int a3]) (S' := [.int a2, .ref 7]) (M' := M) rfl ?_
      refine vm_WM.call (a := 38) (as := [.ref 7, .int a2]) (rest := []) (L0 := [.ref 7, .int a2]) 8 rfl rfl (by decide) rfl rfl ⟨rfl, Or.inr rfl, Nat.le_of_ble_eq_true rfl, Nat.le_of_ble_eq_true rfl⟩ rfl rfl rfl ?_
      refine vm_WM.seq 0 1 (pc' := 1) (L' := [.ref 7, .int a2]) (S' := [.int a2]) (M' := M) rfl ?_
      refine vm_WM.if (c := a2 < 0) (t1 := 16) (t2 := 4) (S' := []) 1 rfl rfl rfl (fun hc => ?_) (fun hc => ?_)
      · replace h := h.1 hc
        refine vm_WM.seq 8 1 (pc' := 17) (L' := [.ref 7, .int a2]) (S' := [.int (nI 0)]) (M' := M) rfl ?_
        refine vm_WM.ret (r := some (.int (nI 0))) 9 rfl rfl rfl ?_
        show vm_WM X 87 19 [.ref 0, .int a1, .int a2, .int a3] [.int (nI 0)] M _
        refine vm_WM.seq 9 1 (pc' := 34) (L' := [.ref 0, .int a1, .int a2, .int a3]) (S' := []) (M' := M) rfl ?_
        refine vm_WM.seq 16 1 (pc' := 36) (L' := [.ref 0, .int a1, .int a2, .int a3]) (S' := [.int (Int32.ofInt (-1000001))]) (M' := M) rfl ?_
        exact vm_WM.ret (r := some (.int (Int32.ofInt (-1000001)))) 17 rfl rfl rfl ⟨_, rfl, h⟩
      · replace h := h.2 hc
        refine vm_WM.seq 2 3 (pc' := 9) (L' := [.ref 7, .int a2]) (S' := [.int (M 7 0), .int a2]) (M' := M) rfl ?_
        refine vm_WM.if (c := a2 < (M 7 0)) (t1 := 12) (t2 := 16) (S' := []) 5 rfl rfl rfl (fun hc => ?_) (fun hc => ?_)
        · replace h := h.1 hc
          refine vm_WM.seq 6 2 (pc' := 17) (L' := [.ref 7, .int a2]) (S' := [.int (nI 1)]) (M' := M) rfl ?_
          refine vm_WM.ret (r := some (.int (nI 1))) 9 rfl rfl rfl ?_
          show vm_WM X 87 19 [.ref 0, .int a1, .int a2, .int a3] [.int (nI 1)] M _
          refine vm_WM.seq 9 3 (pc' := 24) (L' := [.ref 0, .int a1, .int a2, .int a3]) (S' := [.int a2, .int a1]) (M' := M) rfl ?_
          refine vm_WM.if (c := a1 = a2) (t1 := 34) (t2 := 27) (S' := []) 12 rfl rfl rfl (fun hc => ?_) (fun hc => ?_)
          · replace h := h.1 hc
            refine vm_WM.seq 16 1 (pc' := 36) (L' := [.ref 0, .int a1, .int a2, .int a3]) (S' := [.int (Int32.ofInt (-1000001))]) (M' := M) rfl ?_
            exact vm_WM.ret (r := some (.int (Int32.ofInt (-1000001)))) 17 rfl rfl rfl ⟨_, rfl, h⟩
          · replace h := h.2 hc
            refine vm_WM.seq 13 1 (pc' := 28) (L' := [.ref 0, .int a1, .int a2, .int a3]) (S' := [.int a3]) (M' := M) rfl ?_
            refine vm_WM.call (a := 105) (as := [.int a3]) (rest := []) (L0 := [.int a3]) 14 rfl rfl (by decide) rfl rfl ⟨rfl, Or.inl rfl, Nat.le_of_ble_eq_true rfl, Nat.le_of_ble_eq_true rfl⟩ rfl rfl rfl ?_
            refine vm_WM.seq 0 1 (pc' := 1) (L' := [.int a3]) (S' := [.int a3]) (M' := M) rfl ?_
            refine vm_WM.if (c := a3 < 0) (t1 := 14) (t2 := 4) (S' := []) 1 rfl rfl rfl (fun hc => ?_) (fun hc => ?_)
            · replace h := h.1 hc
              refine vm_WM.seq 7 1 (pc' := 15) (L' := [.int a3]) (S' := [.int (nI 0)]) (M' := M) rfl ?_
              refine vm_WM.ret (r := some (.int (nI 0))) 8 rfl rfl rfl ?_
              show vm_WM X 87 31 [.ref 0, .int a1, .int a2, .int a3] [.int (nI 0)] M _
              refine vm_WM.seq 15 2 (pc' := 36) (L' := [.ref 0, .int a1, .int a2, .int a3]) (S' := [.int (Int32.ofInt (-1000001))]) (M' := M) rfl ?_
              exact vm_WM.ret (r := some (.int (Int32.ofInt (-1000001)))) 17 rfl rfl rfl ⟨_, rfl, h⟩
            · replace h := h.2 hc
              refine vm_WM.seq 2 2 (pc' := 7) (L' := [.int a3]) (S' := [.int (nI 60), .int a3]) (M' := M) rfl ?_
              refine vm_WM.if (c := (nI 60) < a3) (t1 := 14) (t2 := 10) (S' := []) 4 rfl rfl rfl (fun hc => ?_) (fun hc => ?_)
              · replace h := h.1 hc
                refine vm_WM.seq 7 1 (pc' := 15) (L' := [.int a3]) (S' := [.int (nI 0)]) (M' := M) rfl ?_
                refine vm_WM.ret (r := some (.int (nI 0))) 8 rfl rfl rfl ?_
                show vm_WM X 87 31 [.ref 0, .int a1, .int a2, .int a3] [.int (nI 0)] M _
                refine vm_WM.seq 15 2 (pc' := 36) (L' := [.ref 0, .int a1, .int a2, .int a3]) (S' := [.int (Int32.ofInt (-1000001))]) (M' := M) rfl ?_
                exact vm_WM.ret (r := some (.int (Int32.ofInt (-1000001)))) 17 rfl rfl rfl ⟨_, rfl, h⟩
              · replace h := h.2 hc
                refine vm_WM.seq 5 2 (pc' := 15) (L' := [.int a3]) (S' := [.int (nI 1)]) (M' := M) rfl ?_
                refine vm_WM.ret (r := some (.int (nI 1))) 8 rfl rfl rfl ?_
                show vm_WM X 87 31 [.ref 0, .int a1, .int a2, .int a3] [.int (nI 1)] M _
                refine vm_WM.seq 15 1 (pc' := 37) (L' := [.ref 0, .int a1, .int a2, .int a3]) (S' := []) (M' := M) rfl ?_
                refine vm_WM.seq 18 5 (pc' := 44) (L' := [.ref 0, .int a1, .int a2, .int a3]) (S' := [.int a3, .int a2, .int a1, .ref 7]) (M' := M) rfl ?_
                refine vm_WM.call (a := 45) (as := [.ref 7, .int a1, .int a2, .int a3]) (rest := []) (L0 := [.ref 7, .int a1, .int a2, .int a3, .null, .null]) 23 rfl rfl (by decide) rfl rfl ⟨rfl, Or.inr rfl, Nat.le_of_ble_eq_true rfl, Nat.le_of_ble_eq_true rfl⟩ rfl rfl rfl ?_
                refine vm_WM.theni h (fun v1 M2 h => ?_)
                show vm_WM X 87 47 [.ref 0, .int a1, .int a2, .int a3] [.int v1] M2 _
                exact vm_WM.ret (r := some (.int v1)) 24 rfl rfl rfl ⟨_, rfl, h⟩
        · replace h := h.2 hc
          refine vm_WM.seq 8 1 (pc' := 17) (L' := [.ref 7, .int a2]) (S' := [.int (nI 0)]) (M' := M) rfl ?_
          refine vm_WM.ret (r := some (.int (nI 0))) 9 rfl rfl rfl ?_
          show vm_WM X 87 19 [.ref 0, .int a1, .int a2, .int a3] [.int (nI 0)] M _
          refine vm_WM.seq 9 1 (pc' := 34) (L' := [.ref 0, .int a1, .int a2, .int a3]) (S' := []) (M' := M) rfl ?_
          refine vm_WM.seq 16 1 (pc' := 36) (L' := [.ref 0, .int a1, .int a2, .int a3]) (S' := [.int (Int32.ofInt (-1000001))]) (M' := M) rfl ?_
          exact vm_WM.ret (r := some (.int (Int32.ofInt (-1000001)))) 17 rfl rfl rfl ⟨_, rfl, h⟩
    · replace h := h.2 hc
      refine vm_WM.seq 8 1 (pc' := 17) (L' := [.ref 7, .int a1]) (S' := [.int (nI 0)]) (M' := M) rfl ?_
      refine vm_WM.ret (r := some (.int (nI 0))) 9 rfl rfl rfl ?_
      show vm_WM X 87 8 [.ref 0, .int a1, .int a2, .int a3] [.int (nI 0)] M _
      refine vm_WM.seq 4 1 (pc' := 34) (L' := [.ref 0, .int a1, .int a2, .int a3]) (S' := []) (M' := M) rfl ?_
      refine vm_WM.seq 16 1 (pc' := 36) (L' := [.ref 0, .int a1, .int a2, .int a3]) (S' := [.int (Int32.ofInt (-1000001))]) (M' := M) rfl ?_
      exact vm_WM.ret (r := some (.int (Int32.ofInt (-1000001)))) 17 rfl rfl rfl ⟨_, rfl, h⟩
theorem v_B_worth {X : Nat × (Nat → Int32)} {a1 : Int32} {a2 : Int32} {M : vm_M} {P : Int32 → vm_M → Prop} (h : (a1 < 0 → (P (Int32.ofInt (-1000001)) M)) ∧ (¬ (a1 < 0) → ((a1 < (M 7 0) → ((a2 < 0 → (P (Int32.ofInt (-1000001)) M)) ∧ (¬ (a2 < 0) → (((nI 60) < a2 → (P (Int32.ofInt (-1000001)) M)) ∧ (¬ ((nI 60) < a2) → (E_Foretold_dearestFrom X a1 a2 M (fun v1 M2 => P v1 M2))))))) ∧ (¬ (a1 < (M 7 0)) → (P (Int32.ofInt (-1000001)) M))))) : E_B_worth X a1 a2 M P := by
  unfold E_B_worth
  refine vm_WM.seq 0 3 (pc' := 5) (L' := [.ref 0, .int a1, .int a2]) (S' := [.int a1, .ref 7]) (M' := M) rfl ?_
  refine vm_WM.call (a := 38) (as := [.ref 7, .int a1]) (rest := []) (L0 := [.ref 7, .int a1]) 3 rfl rfl (by decide) rfl rfl ⟨rfl, Or.inr rfl, Nat.le_of_ble_eq_true rfl, Nat.le_of_ble_eq_true rfl⟩ rfl rfl rfl ?_
  refine vm_WM.seq 0 1 (pc' := 1) (L' := [.ref 7, .int a1]) (S' := [.int a1]) (M' := M) rfl ?_
  refine vm_WM.if (c := a1 < 0) (t1 := 16) (t2 := 4) (S' := []) 1 rfl rfl rfl (fun hc => ?_) (fun hc => ?_)
  · replace h := h.1 hc
    refine vm_WM.seq 8 1 (pc' := 17) (L' := [.ref 7, .int a1]) (S' := [.int (nI 0)]) (M' := M) rfl ?_
    refine vm_WM.ret (r := some (.int (nI 0))) 9 rfl rfl rfl ?_
    show vm_WM X 88 8 [.ref 0, .int a1, .int a2] [.int (nI 0)] M _
    refine vm_WM.seq 4 1 (pc' := 30) (L' := [.ref 0, .int a1, .int a2]) (S' := []) (M' := M) rfl ?_
    refine vm_WM.seq 14 1 (pc' := 32) (L' := [.ref 0, .int a1, .int a2]) (S' := [.int (Int32.ofInt (-1000001))]) (M' := M) rfl ?_
    exact vm_WM.ret (r := some (.int (Int32.ofInt (-1000001)))) 15 rfl rfl rfl ⟨_, rfl, h⟩
  · replace h := h.2 hc
    refine vm_WM.seq 2 3 (pc' := 9) (L' := [.ref 7, .int a1]) (S' := [.int (M 7 0), .int a1]) (M' := M) rfl ?_
    refine vm_WM.if (c := a1 < (M 7 0)) (t1 := 12) (t2 := 16) (S' := []) 5 rfl rfl rfl (fun hc => ?_) (fun hc => ?_)
    · replace h := h.1 hc
      refine vm_WM.seq 6 2 (pc' := 17) (L' := [.ref 7, .int a1]) (S' := [.int (nI 1)]) (M' := M) rfl ?_
      refine vm_WM.ret (r := some (.int (nI 1))) 9 rfl rfl rfl ?_
      show vm_WM X 88 8 [.ref 0, .int a1, .int a2] [.int (nI 1)] M _
      refine vm_WM.seq 4 2 (pc' := 12) (L' := [.ref 0, .int a1, .int a2]) (S' := [.int a2]) (M' := M) rfl ?_
      refine vm_WM.call (a := 105) (as := [.int a2]) (rest := []) (L0 := [.int a2]) 6 rfl rfl (by decide) rfl rfl ⟨rfl, Or.inl rfl, Nat.le_of_ble_eq_true rfl, Nat.le_of_ble_eq_true rfl⟩ rfl rfl rfl ?_
      refine vm_WM.seq 0 1 (pc' := 1) (L' := [.int a2]) (S' := [.int a2]) (M' := M) rfl ?_
      refine vm_WM.if (c := a2 < 0) (t1 := 14) (t2 := 4) (S' := []) 1 rfl rfl rfl (fun hc => ?_) (fun hc => ?_)
      · replace h := h.1 hc
        refine vm_WM.seq 7 1 (pc' := 15) (L' := [.int a2]) (S' := [.int (nI 0)]) (M' := M) rfl ?_
        refine vm_WM.ret (r := some (.int (nI 0))) 8 rfl rfl rfl ?_
        show vm_WM X 88 15 [.ref 0, .int a1, .int a2] [.int (nI 0)] M _
        refine vm_WM.seq 7 1 (pc' := 30) (L' := [.ref 0, .int a1, .int a2]) (S' := []) (M' := M) rfl ?_
        refine vm_WM.seq 14 1 (pc' := 32) (L' := [.ref 0, .int a1, .int a2]) (S' := [.int (Int32.ofInt (-1000001))]) (M' := M) rfl ?_
        exact vm_WM.ret (r := some (.int (Int32.ofInt (-1000001)))) 15 rfl rfl rfl ⟨_, rfl, h⟩
      · replace h := h.2 hc
        refine vm_WM.seq 2 2 (pc' := 7) (L' := [.int a2]) (S' := [.int (nI 60), .int a2]) (M' := M) rfl ?_
        refine vm_WM.if (c := (nI 60) < a2) (t1 := 14) (t2 := 10) (S' := []) 4 rfl rfl rfl (fun hc => ?_) (fun hc => ?_)
        · replace h := h.1 hc
          refine vm_WM.seq 7 1 (pc' := 15) (L' := [.int a2]) (S' := [.int (nI 0)]) (M' := M) rfl ?_
          refine vm_WM.ret (r := some (.int (nI 0))) 8 rfl rfl rfl ?_
          show vm_WM X 88 15 [.ref 0, .int a1, .int a2] [.int (nI 0)] M _
          refine vm_WM.seq 7 1 (pc' := 30) (L' := [.ref 0, .int a1, .int a2]) (S' := []) (M' := M) rfl ?_
          refine vm_WM.seq 14 1 (pc' := 32) (L' := [.ref 0, .int a1, .int a2]) (S' := [.int (Int32.ofInt (-1000001))]) (M' := M) rfl ?_
          exact vm_WM.ret (r := some (.int (Int32.ofInt (-1000001)))) 15 rfl rfl rfl ⟨_, rfl, h⟩
        · replace h := h.2 hc
          refine vm_WM.seq 5 2 (pc' := 15) (L' := [.int a2]) (S' := [.int (nI 1)]) (M' := M) rfl ?_
          refine vm_WM.ret (r := some (.int (nI 1))) 8 rfl rfl rfl ?_
          show vm_WM X 88 15 [.ref 0, .int a1, .int a2] [.int (nI 1)] M _
          refine vm_WM.seq 7 5 (pc' := 24) (L' := [.ref 0, .int a1, .int a2]) (S' := [.int a2, .int a1, .ref 41]) (M' := M) rfl ?_
          refine vm_WM.call (a := 18) (as := [.ref 41, .int a1, .int a2]) (rest := []) (L0 := [.ref 41, .int a1, .int a2, .null, .null, .null]) 12 rfl rfl (by decide) rfl rfl ⟨rfl, Or.inr rfl, Nat.le_of_ble_eq_true rfl, Nat.le_of_ble_eq_true rfl⟩ rfl rfl rfl ?_
          refine vm_WM.theni h (fun v1 M2 h => ?_)
          show vm_WM X 88 27 [.ref 0, .int a1, .int a2] [.int v1] M2 _
          refine vm_WM.seq 13 1 (pc' := 32) (L' := [.ref 0, .int a1, .int a2]) (S' := [.int v1]) (M' := M2) rfl ?_
          exact vm_WM.ret (r := some (.int v1)) 15 rfl rfl rfl ⟨_, rfl, h⟩
    · replace h := h.2 hc
      refine vm_WM.seq 8 1 (pc' := 17) (L' := [.ref 7, .int a1]) (S' := [.int (nI 0)]) (M' := M) rfl ?_
      refine vm_WM.ret (r := some (.int (nI 0))) 9 rfl rfl rfl ?_
      show vm_WM X 88 8 [.ref 0, .int a1, .int a2] [.int (nI 0)] M _
      refine vm_WM.seq 4 1 (pc' := 30) (L' := [.ref 0, .int a1, .int a2]) (S' := []) (M' := M) rfl ?_
      refine vm_WM.seq 14 1 (pc' := 32) (L' := [.ref 0, .int a1, .int a2]) (S' := [.int (Int32.ofInt (-1000001))]) (M' := M) rfl ?_
      exact vm_WM.ret (r := some (.int (Int32.ofInt (-1000001)))) 15 rfl rfl rfl ⟨_, rfl, h⟩
theorem v_B_sure {X : Nat × (Nat → Int32)} {a1 : Int32} {a2 : Int32} {M : vm_M} {P : Int32 → vm_M → Prop} (h : (a1 < 0 → (P (Int32.ofInt (-1000001)) M)) ∧ (¬ (a1 < 0) → ((a1 < (M 7 0) → ((a2 < 0 → (P (Int32.ofInt (-1000001)) M)) ∧ (¬ (a2 < 0) → (((nI 60) < a2 → (P (Int32.ofInt (-1000001)) M)) ∧ (¬ ((nI 60) < a2) → (E_Foretold_surelyFrom X a1 a2 M (fun v1 M2 => P v1 M2))))))) ∧ (¬ (a1 < (M 7 0)) → (P (Int32.ofInt (-1000001)) M))))) : E_B_sure X a1 a2 M P := by
  unfold E_B_sure
  refine vm_WM.seq 0 3 (pc' := 5) (L' := [.ref 0, .int a1, .int a2]) (S' := [.int a1, .ref 7]) (M' := M) rfl ?_
  refine vm_WM.call (a := 38) (as := [.ref 7, .int a1]) (rest := []) (L0 := [.ref 7, .int a1]) 3 rfl rfl (by decide) rfl rfl ⟨rfl, Or.inr rfl, Nat.le_of_ble_eq_true rfl, Nat.le_of_ble_eq_true rfl⟩ rfl rfl rfl ?_
  refine vm_WM.seq 0 1 (pc' := 1) (L' := [.ref 7, .int a1]) (S' := [.int a1]) (M' := M) rfl ?_
  refine vm_WM.if (c := a1 < 0) (t1 := 16) (t2 := 4) (S' := []) 1 rfl rfl rfl (fun hc => ?_) (fun hc => ?_)
  · replace h := h.1 hc
    refine vm_WM.seq 8 1 (pc' := 17) (L' := [.ref 7, .int a1]) (S' := [.int (nI 0)]) (M' := M) rfl ?_
    refine vm_WM.ret (r := some (.int (nI 0))) 9 rfl rfl rfl ?_
    show vm_WM X 89 8 [.ref 0, .int a1, .int a2] [.int (nI 0)] M _
    refine vm_WM.seq 4 1 (pc' := 30) (L' := [.ref 0, .int a1, .int a2]) (S' := []) (M' := M) rfl ?_
    refine vm_WM.seq 14 1 (pc' := 32) (L' := [.ref 0, .int a1, .int a2]) (S' := [.int (Int32.ofInt (-1000001))]) (M' := M) rfl ?_
    exact vm_WM.ret (r := some (.int (Int32.ofInt (-1000001)))) 15 rfl rfl rfl ⟨_, rfl, h⟩
  · replace h := h.2 hc
    refine vm_WM.seq 2 3 (pc' := 9) (L' := [.ref 7, .int a1]) (S' := [.int (M 7 0), .int a1]) (M' := M) rfl ?_
    refine vm_WM.if (c := a1 < (M 7 0)) (t1 := 12) (t2 := 16) (S' := []) 5 rfl rfl rfl (fun hc => ?_) (fun hc => ?_)
    · replace h := h.1 hc
      refine vm_WM.seq 6 2 (pc' := 17) (L' := [.ref 7, .int a1]) (S' := [.int (nI 1)]) (M' := M) rfl ?_
      refine vm_WM.ret (r := some (.int (nI 1))) 9 rfl rfl rfl ?_
      show vm_WM X 89 8 [.ref 0, .int a1, .int a2] [.int (nI 1)] M _
      refine vm_WM.seq 4 2 (pc' := 12) (L' := [.ref 0, .int a1, .int a2]) (S' := [.int a2]) (M' := M) rfl ?_
      refine vm_WM.call (a := 105) (as := [.int a2]) (rest := []) (L0 := [.int a2]) 6 rfl rfl (by decide) rfl rfl ⟨rfl, Or.inl rfl, Nat.le_of_ble_eq_true rfl, Nat.le_of_ble_eq_true rfl⟩ rfl rfl rfl ?_
      refine vm_WM.seq 0 1 (pc' := 1) (L' := [.int a2]) (S' := [.int a2]) (M' := M) rfl ?_
      refine vm_WM.if (c := a2 < 0) (t1 := 14) (t2 := 4) (S' := []) 1 rfl rfl rfl (fun hc => ?_) (fun hc => ?_)
      · replace h := h.1 hc
        refine vm_WM.seq 7 1 (pc' := 15) (L' := [.int a2]) (S' := [.int (nI 0)]) (M' := M) rfl ?_
        refine vm_WM.ret (r := some (.int (nI 0))) 8 rfl rfl rfl ?_
        show vm_WM X 89 15 [.ref 0, .int a1, .int a2] [.int (nI 0)] M _
        refine vm_WM.seq 7 1 (pc' := 30) (L' := [.ref 0, .int a1, .int a2]) (S' := []) (M' := M) rfl ?_
        refine vm_WM.seq 14 1 (pc' := 32) (L' := [.ref 0, .int a1, .int a2]) (S' := [.int (Int32.ofInt (-1000001))]) (M' := M) rfl ?_
        exact vm_WM.ret (r := some (.int (Int32.ofInt (-1000001)))) 15 rfl rfl rfl ⟨_, rfl, h⟩
      · replace h := h.2 hc
        refine vm_WM.seq 2 2 (pc' := 7) (L' := [.int a2]) (S' := [.int (nI 60), .int a2]) (M' := M) rfl ?_
        refine vm_WM.if (c := (nI 60) < a2) (t1 := 14) (t2 := 10) (S' := []) 4 rfl rfl rfl (fun hc => ?_) (fun hc => ?_)
        · replace h := h.1 hc
          refine vm_WM.seq 7 1 (pc' := 15) (L' := [.int a2]) (S' := [.int (nI 0)]) (M' := M) rfl ?_
          refine vm_WM.ret (r := some (.int (nI 0))) 8 rfl rfl rfl ?_
          show vm_WM X 89 15 [.ref 0, .int a1, .int a2] [.int (nI 0)] M _
          refine vm_WM.seq 7 1 (pc' := 30) (L' := [.ref 0, .int a1, .int a2]) (S' := []) (M' := M) rfl ?_
          refine vm_WM.seq 14 1 (pc' := 32) (L' := [.ref 0, .int a1, .int a2]) (S' := [.int (Int32.ofInt (-1000001))]) (M' := M) rfl ?_
          exact vm_WM.ret (r := some (.int (Int32.ofInt (-1000001)))) 15 rfl rfl rfl ⟨_, rfl, h⟩
        · replace h := h.2 hc
          refine vm_WM.seq 5 2 (pc' := 15) (L' := [.int a2]) (S' := [.int (nI 1)]) (M' := M) rfl ?_
          refine vm_WM.ret (r := some (.int (nI 1))) 8 rfl rfl rfl ?_
          show vm_WM X 89 15 [.ref 0, .int a1, .int a2] [.int (nI 1)] M _
          refine vm_WM.seq 7 5 (pc' := 24) (L' := [.ref 0, .int a1, .int a2]) (S' := [.int a2, .int a1, .ref 41]) (M' := M) rfl ?_
          refine vm_WM.call (a := 19) (as := [.ref 41, .int a1, .int a2]) (rest := []) (L0 := [.ref 41, .int a1, .int a2]) 12 rfl rfl (by decide) rfl rfl ⟨rfl, Or.inr rfl, Nat.le_of_ble_eq_true rfl, Nat.le_of_ble_eq_true rfl⟩ rfl rfl rfl ?_
          refine vm_WM.theni h (fun v1 M2 h => ?_)
          show vm_WM X 89 27 [.ref 0, .int a1, .int a2] [.int v1] M2 _
          refine vm_WM.seq 13 1 (pc' := 32) (L' := [.ref 0, .int a1, .int a2]) (S' := [.int v1]) (M' := M2) rfl ?_
          exact vm_WM.ret (r := some (.int v1)) 15 rfl rfl rfl ⟨_, rfl, h⟩
    · replace h := h.2 hc
      refine vm_WM.seq 8 1 (pc' := 17) (L' := [.ref 7, .int a1]) (S' := [.int (nI 0)]) (M' := M) rfl ?_
      refine vm_WM.ret (r := some (.int (nI 0))) 9 rfl rfl rfl ?_
      show vm_WM X 89 8 [.ref 0, .int a1, .int a2] [.int (nI 0)] M _
      refine vm_WM.seq 4 1 (pc' := 30) (L' := [.ref 0, .int a1, .int a2]) (S' := []) (M' := M) rfl ?_
      refine vm_WM.seq 14 1 (pc' := 32) (L' := [.ref 0, .int a1, .int a2]) (S' := [.int (Int32.ofInt (-1000001))]) (M' := M) rfl ?_
      exact vm_WM.ret (r := some (.int (Int32.ofInt (-1000001)))) 15 rfl rfl rfl ⟨_, rfl, h⟩
