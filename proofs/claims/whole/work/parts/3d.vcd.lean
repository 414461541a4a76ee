/-! walks, by wip/whole/vcgen.py -/
theorem v_M_waits {X : Nat × (Nat → Int32)} {a1 : Int32} {M : vm_M} {P : Int32 → vm_M → Prop} (h : (0 < ((vm_u2 M 48 0 (nI 0)) 52 0) → (E_M_in X ((a1).toInt64) (Int64.ofNat 1) (Int64.ofInt 60) (vm_u2 M 48 0 (nI 0)) (fun v1 M2 => (v1 = 0 → (P (Int32.ofInt (-1000001)) M2)) ∧ (¬ (v1 = 0) → (((nI 60) < ((M2 52 4) + a1) → (P (Int32.ofInt (-1000003)) M2)) ∧ (¬ ((nI 60) < ((M2 52 4) + a1)) → (E_M_keep X  M2 (fun M3 => P ((vm_u2 M3 52 4 ((M3 52 4) + a1)) 52 4) (vm_u2 M3 52 4 ((M3 52 4) + a1)))))))))) ∧ (¬ (0 < ((vm_u2 M 48 0 (nI 0)) 52 0)) → (P (Int32.ofInt (-1000002)) (vm_u2 M 48 0 (nI 0))))) : E_M_waits X a1 M P := by
  unfold E_M_waits
  refine vm_WM.seq 0 4 (pc' := 6) (L' := [.ref 48, .int a1]) (S' := [.ref 48]) (M' := (vm_u2 M 48 0 (nI 0))) rfl ?_
  refine vm_WM.call (a := 133) (as := [.ref 48]) (rest := []) (L0 := [.ref 48]) 4 rfl rfl (by decide) rfl rfl ⟨rfl, Or.inr rfl, Nat.le_of_ble_eq_true rfl, Nat.le_of_ble_eq_true rfl⟩ rfl rfl rfl ?_
  refine vm_WM.seq 0 3 (pc' := 5) (L' := [.ref 48]) (S' := [.int (nI 0), .ref 52]) (M' := (vm_u2 M 48 0 (nI 0))) rfl ?_
  refine vm_WM.ald (n := 70) (jj := 0) 3 rfl (Or.inl ⟨rfl, rfl⟩) (by decide) rfl rfl (by decide) ?_
  refine vm_WM.if (c := 0 < ((vm_u2 M 48 0 (nI 0)) 52 0)) (t1 := 9) (t2 := 13) (S' := []) 4 rfl rfl rfl (fun hc => ?_) (fun hc => ?_)
  · replace h := h.1 hc
    refine vm_WM.seq 5 2 (pc' := 14) (L' := [.ref 48]) (S' := [.int (nI 1)]) (M' := (vm_u2 M 48 0 (nI 0))) rfl ?_
    refine vm_WM.ret (r := some (.int (nI 1))) 8 rfl rfl rfl ?_
    show vm_WM X 143 9 [.ref 48, .int a1] [.int (nI 1)] (vm_u2 M 48 0 (nI 0)) _
    refine vm_WM.seq 5 1 (pc' := 15) (L' := [.ref 48, .int a1]) (S' := []) (M' := (vm_u2 M 48 0 (nI 0))) rfl ?_
    refine vm_WM.seq 8 4 (pc' := 21) (L' := [.ref 48, .int a1]) (S' := [.long (Int64.ofInt 60), .long (Int64.ofNat 1), .long ((a1).toInt64)]) (M' := (vm_u2 M 48 0 (nI 0))) rfl ?_
    refine vm_WM.call (a := 108) (as := [.long ((a1).toInt64), .long (Int64.ofNat 1), .long (Int64.ofInt 60)]) (rest := []) (L0 := [.long ((a1).toInt64), .null, .long (Int64.ofNat 1), .null, .long (Int64.ofInt 60), .null]) 12 rfl rfl (by decide) rfl rfl ⟨rfl, Or.inl rfl, Nat.le_of_ble_eq_true rfl, Nat.le_of_ble_eq_true rfl⟩ rfl rfl rfl ?_
    refine vm_WM.theni h (fun v1 M2 h => ?_)
    show vm_WM X 143 24 [.ref 48, .int a1] [.int v1] M2 _
    refine vm_WM.if (c := v1 = 0) (t1 := 27) (t2 := 30) (S' := []) 13 rfl rfl rfl (fun hc => ?_) (fun hc => ?_)
    · replace h := h.1 hc
      refine vm_WM.seq 14 1 (pc' := 29) (L' := [.ref 48, .int a1]) (S' := [.int (Int32.ofInt (-1000001))]) (M' := M2) rfl ?_
      exact vm_WM.ret (r := some (.int (Int32.ofInt (-1000001)))) 15 rfl rfl rfl ⟨_, rfl, h⟩
    · replace h := h.2 hc
      refine vm_WM.seq 16 3 (pc' := 35) (L' := [.ref 48, .int a1]) (S' := [.int (nI 4), .ref 52]) (M' := M2) rfl ?_
      refine vm_WM.ald (n := 70) (jj := 4) 19 rfl (Or.inl ⟨rfl, rfl⟩) (by decide) rfl rfl (by decide) ?_
      refine vm_WM.seq 20 3 (pc' := 40) (L' := [.ref 48, .int a1]) (S' := [.int (nI 60), .int ((M2 52 4) + a1)]) (M' := M2) rfl ?_
      refine vm_WM.if (c := (nI 60) < ((M2 52 4) + a1)) (t1 := 43) (t2 := 46) (S' := []) 23 rfl rfl rfl (fun hc => ?_) (fun hc => ?_)
      · replace h := h.1 hc
        refine vm_WM.seq 24 1 (pc' := 45) (L' := [.ref 48, .int a1]) (S' := [.int (Int32.ofInt (-1000003))]) (M' := M2) rfl ?_
        exact vm_WM.ret (r := some (.int (Int32.ofInt (-1000003)))) 25 rfl rfl rfl ⟨_, rfl, h⟩
      · replace h := h.2 hc
        refine vm_WM.seq 26 1 (pc' := 47) (L' := [.ref 48, .int a1]) (S' := [.ref 48]) (M' := M2) rfl ?_
        refine vm_WM.call (a := 141) (as := [.ref 48]) (rest := []) (L0 := [.ref 48, .null]) 27 rfl rfl (by decide) rfl rfl ⟨rfl, Or.inr rfl, Nat.le_of_ble_eq_true rfl, Nat.le_of_ble_eq_true rfl⟩ rfl rfl rfl ?_
        refine vm_WM.thenv h (fun M3 h => ?_)
        show vm_WM X 143 50 [.ref 48, .int a1] [] M3 _
        refine vm_WM.seq 28 4 (pc' := 56) (L' := [.ref 48, .int a1]) (S' := [.int (nI 4), .ref 52, .int (nI 4), .ref 52]) (M' := M3) rfl ?_
        refine vm_WM.ald (n := 70) (jj := 4) 32 rfl (Or.inl ⟨rfl, rfl⟩) (by decide) rfl rfl (by decide) ?_
        refine vm_WM.seq 33 2 (pc' := 59) (L' := [.ref 48, .int a1]) (S' := [.int ((M3 52 4) + a1), .int (nI 4), .ref 52]) (M' := M3) rfl ?_
        refine vm_WM.ast (n := 70) (jj := 4) 35 rfl rfl rfl (by decide) ?_
        refine vm_WM.seq 36 3 (pc' := 65) (L' := [.ref 48, .int a1]) (S' := [.int (nI 4), .ref 52]) (M' := (vm_u2 M3 52 4 ((M3 52 4) + a1))) rfl ?_
        refine vm_WM.ald (n := 70) (jj := 4) 39 rfl (Or.inl ⟨rfl, rfl⟩) (by decide) rfl rfl (by decide) ?_
        exact vm_WM.ret (r := some (.int ((vm_u2 M3 52 4 ((M3 52 4) + a1)) 52 4))) 40 rfl rfl rfl ⟨_, rfl, h⟩
  · replace h := h.2 hc
    refine vm_WM.seq 7 1 (pc' := 14) (L' := [.ref 48]) (S' := [.int (nI 0)]) (M' := (vm_u2 M 48 0 (nI 0))) rfl ?_
    refine vm_WM.ret (r := some (.int (nI 0))) 8 rfl rfl rfl ?_
    show vm_WM X 143 9 [.ref 48, .int a1] [.int (nI 0)] (vm_u2 M 48 0 (nI 0)) _
    refine vm_WM.seq 5 2 (pc' := 14) (L' := [.ref 48, .int a1]) (S' := [.int (Int32.ofInt (-1000002))]) (M' := (vm_u2 M 48 0 (nI 0))) rfl ?_
    exact vm_WM.ret (r := some (.int (Int32.ofInt (-1000002)))) 7 rfl rfl rfl ⟨_, rfl, h⟩
theorem v_M_bribe {X : Nat × (Nat → Int32)} {a1 : Int32} {M : vm_M} {P : Int32 → vm_M → Prop} (h : (0 < ((vm_u2 M 48 0 (nI 0)) 52 0) → (E_M_in X ((a1).toInt64) (Int64.ofNat 1) (Int64.ofInt 60) (vm_u2 M 48 0 (nI 0)) (fun v1 M2 => (v1 = 0 → (P (Int32.ofInt (-1000001)) M2)) ∧ (¬ (v1 = 0) → (E_M_keep X  M2 (fun M3 => P (M3 52 0) (vm_u2 M3 52 0 a1))))))) ∧ (¬ (0 < ((vm_u2 M 48 0 (nI 0)) 52 0)) → (P (Int32.ofInt (-1000002)) (vm_u2 M 48 0 (nI 0))))) : E_M_bribe X a1 M P := by
  unfold E_M_bribe
  refine vm_WM.seq 0 4 (pc' := 6) (L' := [.ref 48, .int a1, .null]) (S' := [.ref 48]) (M' := (vm_u2 M 48 0 (nI 0))) rfl ?_
  refine vm_WM.call (a := 133) (as := [.ref 48]) (rest := []) (L0 := [.ref 48]) 4 rfl rfl (by decide) rfl rfl ⟨rfl, Or.inr rfl, Nat.le_of_ble_eq_true rfl, Nat.le_of_ble_eq_true rfl⟩ rfl rfl rfl ?_
  refine vm_WM.seq 0 3 (pc' := 5) (L' := [.ref 48]) (S' := [.int (nI 0), .ref 52]) (M' := (vm_u2 M 48 0 (nI 0))) rfl ?_
  refine vm_WM.ald (n := 70) (jj := 0) 3 rfl (Or.inl ⟨rfl, rfl⟩) (by decide) rfl rfl (by decide) ?_
  refine vm_WM.if (c := 0 < ((vm_u2 M 48 0 (nI 0)) 52 0)) (t1 := 9) (t2 := 13) (S' := []) 4 rfl rfl rfl (fun hc => ?_) (fun hc => ?_)
  · replace h := h.1 hc
    refine vm_WM.seq 5 2 (pc' := 14) (L' := [.ref 48]) (S' := [.int (nI 1)]) (M' := (vm_u2 M 48 0 (nI 0))) rfl ?_
    refine vm_WM.ret (r := some (.int (nI 1))) 8 rfl rfl rfl ?_
    show vm_WM X 144 9 [.ref 48, .int a1, .null] [.int (nI 1)] (vm_u2 M 48 0 (nI 0)) _
    refine vm_WM.seq 5 1 (pc' := 15) (L' := [.ref 48, .int a1, .null]) (S' := []) (M' := (vm_u2 M 48 0 (nI 0))) rfl ?_
    refine vm_WM.seq 8 4 (pc' := 21) (L' := [.ref 48, .int a1, .null]) (S' := [.long (Int64.ofInt 60), .long (Int64.ofNat 1), .long ((a1).toInt64)]) (M' := (vm_u2 M 48 0 (nI 0))) rfl ?_
    refine vm_WM.call (a := 108) (as := [.long ((a1).toInt64), .long (Int64.ofNat 1), .long (Int64.ofInt 60)]) (rest := []) (L0 := [.long ((a1).toInt64), .null, .long (Int64.ofNat 1), .null, .long (Int64.ofInt 60), .null]) 12 rfl rfl (by decide) rfl rfl ⟨rfl, Or.inl rfl, Nat.le_of_ble_eq_true rfl, Nat.le_of_ble_eq_true rfl⟩ rfl rfl rfl ?_
    refine vm_WM.theni h (fun v1 M2 h => ?_)
    show vm_WM X 144 24 [.ref 48, .int a1, .null] [.int v1] M2 _
    refine vm_WM.if (c := v1 = 0) (t1 := 27) (t2 := 30) (S' := []) 13 rfl rfl rfl (fun hc => ?_) (fun hc => ?_)
    · replace h := h.1 hc
      refine vm_WM.seq 14 1 (pc' := 29) (L' := [.ref 48, .int a1, .null]) (S' := [.int (Int32.ofInt (-1000001))]) (M' := M2) rfl ?_
      exact vm_WM.ret (r := some (.int (Int32.ofInt (-1000001)))) 15 rfl rfl rfl ⟨_, rfl, h⟩
    · replace h := h.2 hc
      refine vm_WM.seq 16 1 (pc' := 31) (L' := [.ref 48, .int a1, .null]) (S' := [.ref 48]) (M' := M2) rfl ?_
      refine vm_WM.call (a := 141) (as := [.ref 48]) (rest := []) (L0 := [.ref 48, .null]) 17 rfl rfl (by decide) rfl rfl ⟨rfl, Or.inr rfl, Nat.le_of_ble_eq_true rfl, Nat.le_of_ble_eq_true rfl⟩ rfl rfl rfl ?_
      refine vm_WM.thenv h (fun M3 h => ?_)
      show vm_WM X 144 34 [.ref 48, .int a1, .null] [] M3 _
      refine vm_WM.seq 18 3 (pc' := 39) (L' := [.ref 48, .int a1, .null]) (S' := [.int (nI 0), .ref 52]) (M' := M3) rfl ?_
      refine vm_WM.ald (n := 70) (jj := 0) 21 rfl (Or.inl ⟨rfl, rfl⟩) (by decide) rfl rfl (by decide) ?_
      refine vm_WM.seq 22 5 (pc' := 47) (L' := [.ref 48, .int a1, .int (M3 52 0)]) (S' := [.int a1, .int (nI 0), .ref 52]) (M' := M3) rfl ?_
      refine vm_WM.ast (n := 70) (jj := 0) 27 rfl rfl rfl (by decide) ?_
      refine vm_WM.seq 28 1 (pc' := 49) (L' := [.ref 48, .int a1, .int (M3 52 0)]) (S' := [.int (M3 52 0)]) (M' := (vm_u2 M3 52 0 a1)) rfl ?_
      exact vm_WM.ret (r := some (.int (M3 52 0))) 29 rfl rfl rfl ⟨_, rfl, h⟩
  · replace h := h.2 hc
    refine vm_WM.seq 7 1 (pc' := 14) (L' := [.ref 48]) (S' := [.int (nI 0)]) (M' := (vm_u2 M 48 0 (nI 0))) rfl ?_
    refine vm_WM.ret (r := some (.int (nI 0))) 8 rfl rfl rfl ?_
    show vm_WM X 144 9 [.ref 48, .int a1, .null] [.int (nI 0)] (vm_u2 M 48 0 (nI 0)) _
    refine vm_WM.seq 5 2 (pc' := 14) (L' := [.ref 48, .int a1, .null]) (S' := [.int (Int32.ofInt (-1000002))]) (M' := (vm_u2 M 48 0 (nI 0))) rfl ?_
    exact vm_WM.ret (r := some (.int (Int32.ofInt (-1000002)))) 7 rfl rfl rfl ⟨_, rfl, h⟩
theorem v_M_undo {X : Nat × (Nat → Int32)}  {M : vm_M} {P : Int32 → vm_M → Prop} (h : (((vm_u2 M 48 0 (nI 0)) 48 8) = 0 → (P (Int32.ofInt (-1000002)) (vm_u2 M 48 0 (nI 0)))) ∧ (¬ (((vm_u2 M 48 0 (nI 0)) 48 8) = 0) → (C_M_undo_27 X (nI 0) (vm_u2 (vm_u2 M 48 0 (nI 0)) 48 8 (((vm_u2 M 48 0 (nI 0)) 48 8) - (nI 1))) P))) : E_M_undo X  M P := by
  unfold E_M_undo
  refine vm_WM.seq 0 5 (pc' := 9) (L' := [.ref 48, .null]) (S' := [.int ((vm_u2 M 48 0 (nI 0)) 48 8)]) (M' := (vm_u2 M 48 0 (nI 0))) rfl ?_
  refine vm_WM.if (c := ((vm_u2 M 48 0 (nI 0)) 48 8) = 0) (t1 := 12) (t2 := 15) (S' := []) 5 rfl rfl rfl (fun hc => ?_) (fun hc => ?_)
  · replace h := h.1 hc
    refine vm_WM.seq 6 1 (pc' := 14) (L' := [.ref 48, .null]) (S' := [.int (Int32.ofInt (-1000002))]) (M' := (vm_u2 M 48 0 (nI 0))) rfl ?_
    exact vm_WM.ret (r := some (.int (Int32.ofInt (-1000002)))) 7 rfl rfl rfl ⟨_, rfl, h⟩
  · replace h := h.2 hc
    refine vm_WM.seq 8 8 (pc' := 27) (L' := [.ref 48, .int (nI 0)]) (S' := []) (M' := (vm_u2 (vm_u2 M 48 0 (nI 0)) 48 8 (((vm_u2 M 48 0 (nI 0)) 48 8) - (nI 1)))) rfl ?_
    exact h
theorem v_M_undo_27 {X : Nat × (Nat → Int32)} {x1 : Int32} {M : vm_M} {P : Int32 → vm_M → Prop} (h : (x1 < (nI 70) → (∃ j1 : Nat, (((nI 70) * (M 48 8)) + x1) = nI j1 ∧ j1 < 1680 ∧ (∃ j2 : Nat, x1 = nI j2 ∧ j2 < 70 ∧ (C_M_undo_27 X (x1 + (nI 1)) (vm_u2 M 52 j2 (M 54 j1)) P)))) ∧ (¬ (x1 < (nI 70)) → (P (M 48 8) M))) : C_M_undo_27 X x1 M P := by
  unfold C_M_undo_27
  refine vm_WM.seq 16 2 (pc' := 30) (L' := [.ref 48, .int x1]) (S' := [.int (nI 70), .int x1]) (M' := M) rfl ?_
  refine vm_WM.if (c := x1 < (nI 70)) (t1 := 33) (t2 := 59) (S' := []) 18 rfl rfl rfl (fun hc => ?_) (fun hc => ?_)
  · replace h := h.1 hc
    refine vm_WM.seq 19 11 (pc' := 51) (L' := [.ref 48, .int x1]) (S' := [.int (((nI 70) * (M 48 8)) + x1), .ref 54, .int x1, .ref 52]) (M' := M) rfl ?_
    obtain ⟨j1, hj1, hj2, h⟩ := h
    refine vm_WM.ald (n := 1680) (jj := j1) 30 rfl (Or.inl ⟨rfl, rfl⟩) (by decide) rfl hj1 hj2 ?_
    obtain ⟨j2, hj1, hj2, h⟩ := h
    refine vm_WM.ast (n := 70) (jj := j2) 31 rfl rfl hj1 hj2 ?_
    refine vm_WM.seq 32 2 (pc' := 27) (L' := [.ref 48, .int (x1 + (nI 1))]) (S' := []) (M' := (vm_u2 M 52 j2 (M 54 j1))) rfl ?_
    exact h
  · replace h := h.2 hc
    refine vm_WM.seq 34 2 (pc' := 63) (L' := [.ref 48, .int x1]) (S' := [.int (M 48 8)]) (M' := M) rfl ?_
    exact vm_WM.ret (r := some (.int (M 48 8))) 36 rfl rfl rfl ⟨_, rfl, h⟩
theorem v_M_trader {X : Nat × (Nat → Int32)} {a1 : Int32} {a2 : Int32} {M : vm_M} {P : Int32 → vm_M → Prop} (h : E_M_isTrader X a1 (vm_u2 M 48 0 (nI 0)) (fun v1 M2 => (v1 = 0 → (P (Int32.ofInt (-1000001)) M2)) ∧ (¬ (v1 = 0) → (E_M_in X ((a2).toInt64) (Int64.ofNat 0) (Int64.ofInt 3) M2 (fun v3 M4 => (v3 = 0 → (P (Int32.ofInt (-1000001)) M4)) ∧ (¬ (v3 = 0) → ((a2 = (nI 2) → (E_M_priceOf X a1 M4 (fun v5 M6 => P v5 M6))) ∧ (¬ (a2 = (nI 2)) → ((a2 = (nI 3) → (∃ j7 : Nat, (((nI 6) + ((nI 4) * a1)) + (nI 3)) = nI j7 ∧ j7 < 70 ∧ (P (M4 52 j7) M4))) ∧ (¬ (a2 = (nI 3)) → (∃ j8 : Nat, (((nI 6) + ((nI 4) * a1)) + ((nI 1) + a2)) = nI j8 ∧ j8 < 70 ∧ (P (M4 52 j8) M4)))))))))))) : E_M_trader X a1 a2 M P := by
  unfold E_M_trader
  refine vm_WM.seq 0 5 (pc' := 7) (L' := [.ref 48, .int a1, .int a2]) (S' := [.int a1, .ref 48]) (M' := (vm_u2 M 48 0 (nI 0))) rfl ?_
  refine vm_WM.call (a := 134) (as := [.ref 48, .int a1]) (rest := []) (L0 := [.ref 48, .int a1]) 5 rfl rfl (by decide) rfl rfl ⟨rfl, Or.inr rfl, Nat.le_of_ble_eq_true rfl, Nat.le_of_ble_eq_true rfl⟩ rfl rfl rfl ?_
  refine vm_WM.theni h (fun v1 M2 h => ?_)
  show vm_WM X 146 10 [.ref 48, .int a1, .int a2] [.int v1] M2 _
  refine vm_WM.if (c := v1 = 0) (t1 := 25) (t2 := 13) (S' := []) 6 rfl rfl rfl (fun hc => ?_) (fun hc => ?_)
  · replace h := h.1 hc
    refine vm_WM.seq 13 1 (pc' := 27) (L' := [.ref 48, .int a1, .int a2]) (S' := [.int (Int32.ofInt (-1000001))]) (M' := M2) rfl ?_
    exact vm_WM.ret (r := some (.int (Int32.ofInt (-1000001)))) 14 rfl rfl rfl ⟨_, rfl, h⟩
  · replace h := h.2 hc
    refine vm_WM.seq 7 4 (pc' := 19) (L' := [.ref 48, .int a1, .int a2]) (S' := [.long (Int64.ofInt 3), .long (Int64.ofNat 0), .long ((a2).toInt64)]) (M' := M2) rfl ?_
    refine vm_WM.call (a := 108) (as := [.long ((a2).toInt64), .long (Int64.ofNat 0), .long (Int64.ofInt 3)]) (rest := []) (L0 := [.long ((a2).toInt64), .null, .long (Int64.ofNat 0), .null, .long (Int64.ofInt 3), .null]) 11 rfl rfl (by decide) rfl rfl ⟨rfl, Or.inl rfl, Nat.le_of_ble_eq_true rfl, Nat.le_of_ble_eq_true rfl⟩ rfl rfl rfl ?_
    refine vm_WM.theni h (fun v3 M4 h => ?_)
    show vm_WM X 146 22 [.ref 48, .int a1, .int a2] [.int v3] M4 _
    refine vm_WM.if (c := v3 = 0) (t1 := 25) (t2 := 28) (S' := []) 12 rfl rfl rfl (fun hc => ?_) (fun hc => ?_)
    · replace h := h.1 hc
      refine vm_WM.seq 13 1 (pc' := 27) (L' := [.ref 48, .int a1, .int a2]) (S' := [.int (Int32.ofInt (-1000001))]) (M' := M4) rfl ?_
      exact vm_WM.ret (r := some (.int (Int32.ofInt (-1000001)))) 14 rfl rfl rfl ⟨_, rfl, h⟩
    · replace h := h.2 hc
      refine vm_WM.seq 15 2 (pc' := 30) (L' := [.ref 48, .int a1, .int a2]) (S' := [.int (nI 2), .int a2]) (M' := M4) rfl ?_
      refine vm_WM.if (c := a2 = (nI 2)) (t1 := 33) (t2 := 41) (S' := []) 17 rfl rfl rfl (fun hc => ?_) (fun hc => ?_)
      · replace h := h.1 hc
        refine vm_WM.seq 18 2 (pc' := 35) (L' := [.ref 48, .int a1, .int a2]) (S' := [.int a1, .ref 48]) (M' := M4) rfl ?_
        refine vm_WM.call (a := 137) (as := [.ref 48, .int a1]) (rest := []) (L0 := [.ref 48, .int a1]) 20 rfl rfl (by decide) rfl rfl ⟨rfl, Or.inr rfl, Nat.le_of_ble_eq_true rfl, Nat.le_of_ble_eq_true rfl⟩ rfl rfl rfl ?_
        refine vm_WM.theni h (fun v5 M6 h => ?_)
        show vm_WM X 146 38 [.ref 48, .int a1, .int a2] [.int v5] M6 _
        refine vm_WM.seq 21 1 (pc' := 58) (L' := [.ref 48, .int a1, .int a2]) (S' := [.int v5]) (M' := M6) rfl ?_
        exact vm_WM.ret (r := some (.int v5)) 33 rfl rfl rfl ⟨_, rfl, h⟩
      · replace h := h.2 hc
        refine vm_WM.seq 22 4 (pc' := 45) (L' := [.ref 48, .int a1, .int a2]) (S' := [.int (nI 3), .int a2, .int a1, .ref 48]) (M' := M4) rfl ?_
        refine vm_WM.if (c := a2 = (nI 3)) (t1 := 48) (t2 := 52) (S' := [.int a1, .ref 48]) 26 rfl rfl rfl (fun hc => ?_) (fun hc => ?_)
        · replace h := h.1 hc
          refine vm_WM.seq 27 2 (pc' := 55) (L' := [.ref 48, .int a1, .int a2]) (S' := [.int (nI 3), .int a1, .ref 48]) (M' := M4) rfl ?_
          refine vm_WM.call (a := 136) (as := [.ref 48, .int a1, .int (nI 3)]) (rest := []) (L0 := [.ref 48, .int a1, .int (nI 3)]) 32 rfl rfl (by decide) rfl rfl ⟨rfl, Or.inr rfl, Nat.le_of_ble_eq_true rfl, Nat.le_of_ble_eq_true rfl⟩ rfl rfl rfl ?_
          refine vm_WM.seq 0 9 (pc' := 12) (L' := [.ref 48, .int a1, .int (nI 3)]) (S' := [.int (((nI 6) + ((nI 4) * a1)) + (nI 3)), .ref 52]) (M' := M4) rfl ?_
          obtain ⟨j7, hj1, hj2, h⟩ := h
          refine vm_WM.ald (n := 70) (jj := j7) 9 rfl (Or.inl ⟨rfl, rfl⟩) (by decide) rfl hj1 hj2 ?_
          refine vm_WM.ret (r := some (.int (M4 52 j7))) 10 rfl rfl rfl ?_
          show vm_WM X 146 58 [.ref 48, .int a1, .int a2] [.int (M4 52 j7)] M4 _
          exact vm_WM.ret (r := some (.int (M4 52 j7))) 33 rfl rfl rfl ⟨_, rfl, h⟩
        · replace h := h.2 hc
          refine vm_WM.seq 29 3 (pc' := 55) (L' := [.ref 48, .int a1, .int a2]) (S' := [.int ((nI 1) + a2), .int a1, .ref 48]) (M' := M4) rfl ?_
          refine vm_WM.call (a := 136) (as := [.ref 48, .int a1, .int ((nI 1) + a2)]) (rest := []) (L0 := [.ref 48, .int a1, .int ((nI 1) + a2)]) 32 rfl rfl (by decide) rfl rfl ⟨rfl, Or.inr rfl, Nat.le_of_ble_eq_true rfl, Nat.le_of_ble_eq_true rfl⟩ rfl rfl rfl ?_
          refine vm_WM.seq 0 9 (pc' := 12) (L' := [.ref 48, .int a1, .int ((nI 1) + a2)]) (S' := [.int (((nI 6) + ((nI 4) * a1)) + ((nI 1) + a2)), .ref 52]) (M' := M4) rfl ?_
          obtain ⟨j8, hj1, hj2, h⟩ := h
          refine vm_WM.ald (n := 70) (jj := j8) 9 rfl (Or.inl ⟨rfl, rfl⟩) (by decide) rfl hj1 hj2 ?_
          refine vm_WM.ret (r := some (.int (M4 52 j8))) 10 rfl rfl rfl ?_
          show vm_WM X 146 58 [.ref 48, .int a1, .int a2] [.int (M4 52 j8)] M4 _
          exact vm_WM.ret (r := some (.int (M4 52 j8))) 33 rfl rfl rfl ⟨_, rfl, h⟩
theorem v_M_takes {X : Nat × (Nat → Int32)} {a1 : Int32} {a2 : Int32} {M : vm_M} {P : Int32 → vm_M → Prop} (h : E_M_isTrader X a1 (vm_u2 M 48 0 (nI 0)) (fun v1 M2 => (v1 = 0 → (P (Int32.ofInt (-1000001)) M2)) ∧ (¬ (v1 = 0) → (E_M_isMinute X a2 M2 (fun v3 M4 => (v3 = 0 → (P (Int32.ofInt (-1000001)) M4)) ∧ (¬ (v3 = 0) → (E_M_isTaken X a1 a2 M4 (fun v5 M6 => (v5 = 0 → (P (nI 0) M6)) ∧ (¬ (v5 = 0) → (P (nI 1) M6)))))))))) : E_M_takes X a1 a2 M P := by
  unfold E_M_takes
  refine vm_WM.seq 0 5 (pc' := 7) (L' := [.ref 48, .int a1, .int a2]) (S' := [.int a1, .ref 48]) (M' := (vm_u2 M 48 0 (nI 0))) rfl ?_
  refine vm_WM.call (a := 134) (as := [.ref 48, .int a1]) (rest := []) (L0 := [.ref 48, .int a1]) 5 rfl rfl (by decide) rfl rfl ⟨rfl, Or.inr rfl, Nat.le_of_ble_eq_true rfl, Nat.le_of_ble_eq_true rfl⟩ rfl rfl rfl ?_
  refine vm_WM.theni h (fun v1 M2 h => ?_)
  show vm_WM X 147 10 [.ref 48, .int a1, .int a2] [.int v1] M2 _
  refine vm_WM.if (c := v1 = 0) (t1 := 20) (t2 := 13) (S' := []) 6 rfl rfl rfl (fun hc => ?_) (fun hc => ?_)
  · replace h := h.1 hc
    refine vm_WM.seq 10 2 (pc' := 39) (L' := [.ref 48, .int a1, .int a2]) (S' := [.int (Int32.ofInt (-1000001))]) (M' := M2) rfl ?_
    exact vm_WM.ret (r := some (.int (Int32.ofInt (-1000001)))) 20 rfl rfl rfl ⟨_, rfl, h⟩
  · replace h := h.2 hc
    refine vm_WM.seq 7 1 (pc' := 14) (L' := [.ref 48, .int a1, .int a2]) (S' := [.int a2]) (M' := M2) rfl ?_
    refine vm_WM.call (a := 135) (as := [.int a2]) (rest := []) (L0 := [.int a2]) 8 rfl rfl (by decide) rfl rfl ⟨rfl, Or.inl rfl, Nat.le_of_ble_eq_true rfl, Nat.le_of_ble_eq_true rfl⟩ rfl rfl rfl ?_
    refine vm_WM.theni h (fun v3 M4 h => ?_)
    show vm_WM X 147 17 [.ref 48, .int a1, .int a2] [.int v3] M4 _
    refine vm_WM.if (c := v3 = 0) (t1 := 20) (t2 := 25) (S' := []) 9 rfl rfl rfl (fun hc => ?_) (fun hc => ?_)
    · replace h := h.1 hc
      refine vm_WM.seq 10 2 (pc' := 39) (L' := [.ref 48, .int a1, .int a2]) (S' := [.int (Int32.ofInt (-1000001))]) (M' := M4) rfl ?_
      exact vm_WM.ret (r := some (.int (Int32.ofInt (-1000001)))) 20 rfl rfl rfl ⟨_, rfl, h⟩
    · replace h := h.2 hc
      refine vm_WM.seq 12 3 (pc' := 28) (L' := [.ref 48, .int a1, .int a2]) (S' := [.int a2, .int a1, .ref 48]) (M' := M4) rfl ?_
      refine vm_WM.call (a := 138) (as := [.ref 48, .int a1, .int a2]) (rest := []) (L0 := [.ref 48, .int a1, .int a2]) 15 rfl rfl (by decide) rfl rfl ⟨rfl, Or.inr rfl, Nat.le_of_ble_eq_true rfl, Nat.le_of_ble_eq_true rfl⟩ rfl rfl rfl ?_
      refine vm_WM.theni h (fun v5 M6 h => ?_)
      show vm_WM X 147 31 [.ref 48, .int a1, .int a2] [.int v5] M6 _
      refine vm_WM.if (c := v5 = 0) (t1 := 38) (t2 := 34) (S' := []) 16 rfl rfl rfl (fun hc => ?_) (fun hc => ?_)
      · replace h := h.1 hc
        refine vm_WM.seq 19 1 (pc' := 39) (L' := [.ref 48, .int a1, .int a2]) (S' := [.int (nI 0)]) (M' := M6) rfl ?_
        exact vm_WM.ret (r := some (.int (nI 0))) 20 rfl rfl rfl ⟨_, rfl, h⟩
      · replace h := h.2 hc
        refine vm_WM.seq 17 2 (pc' := 39) (L' := [.ref 48, .int a1, .int a2]) (S' := [.int (nI 1)]) (M' := M6) rfl ?_
        exact vm_WM.ret (r := some (.int (nI 1))) 20 rfl rfl rfl ⟨_, rfl, h⟩
theorem v_M_there {X : Nat × (Nat → Int32)} {a1 : Int32} {a2 : Int32} {a3 : Int32} {M : vm_M} {P : Int32 → vm_M → Prop} (h : E_M_isTrader X a1 (vm_u2 M 48 0 (nI 0)) (fun v1 M2 => (v1 = 0 → (P (Int32.ofInt (-1000001)) M2)) ∧ (¬ (v1 = 0) → (E_M_isTrader X a2 M2 (fun v3 M4 => (v3 = 0 → (P (Int32.ofInt (-1000001)) M4)) ∧ (¬ (v3 = 0) → ((a1 = a2 → (P (Int32.ofInt (-1000001)) M4)) ∧ (¬ (a1 = a2) → (E_M_isMinute X a3 M4 (fun v5 M6 => (v5 = 0 → (P (Int32.ofInt (-1000001)) M6)) ∧ (¬ (v5 = 0) → (E_M_thereIn X a1 a2 a3 M6 (fun v7 M8 => P v7 M8))))))))))))) : E_M_there X a1 a2 a3 M P := by
  unfold E_M_there
  refine vm_WM.seq 0 5 (pc' := 7) (L' := [.ref 48, .int a1, .int a2, .int a3]) (S' := [.int a1, .ref 48]) (M' := (vm_u2 M 48 0 (nI 0))) rfl ?_
  refine vm_WM.call (a := 134) (as := [.ref 48, .int a1]) (rest := []) (L0 := [.ref 48, .int a1]) 5 rfl rfl (by decide) rfl rfl ⟨rfl, Or.inr rfl, Nat.le_of_ble_eq_true rfl, Nat.le_of_ble_eq_true rfl⟩ rfl rfl rfl ?_
  refine vm_WM.theni h (fun v1 M2 h => ?_)
  show vm_WM X 148 10 [.ref 48, .int a1, .int a2, .int a3] [.int v1] M2 _
  refine vm_WM.if (c := v1 = 0) (t1 := 43) (t2 := 13) (S' := []) 6 rfl rfl rfl (fun hc => ?_) (fun hc => ?_)
  · replace h := h.1 hc
    refine vm_WM.seq 23 1 (pc' := 45) (L' := [.ref 48, .int a1, .int a2, .int a3]) (S' := [.int (Int32.ofInt (-1000001))]) (M' := M2) rfl ?_
    exact vm_WM.ret (r := some (.int (Int32.ofInt (-1000001)))) 24 rfl rfl rfl ⟨_, rfl, h⟩
  · replace h := h.2 hc
    refine vm_WM.seq 7 2 (pc' := 15) (L' := [.ref 48, .int a1, .int a2, .int a3]) (S' := [.int a2, .ref 48]) (M' := M2) rfl ?_
    refine vm_WM.call (a := 134) (as := [.ref 48, .int a2]) (rest := []) (L0 := [.ref 48, .int a2]) 9 rfl rfl (by decide) rfl rfl ⟨rfl, Or.inr rfl, Nat.le_of_ble_eq_true rfl, Nat.le_of_ble_eq_true rfl⟩ rfl rfl rfl ?_
    refine vm_WM.theni h (fun v3 M4 h => ?_)
    show vm_WM X 148 18 [.ref 48, .int a1, .int a2, .int a3] [.int v3] M4 _
    refine vm_WM.if (c := v3 = 0) (t1 := 43) (t2 := 21) (S' := []) 10 rfl rfl rfl (fun hc => ?_) (fun hc => ?_)
    · replace h := h.1 hc
      refine vm_WM.seq 23 1 (pc' := 45) (L' := [.ref 48, .int a1, .int a2, .int a3]) (S' := [.int (Int32.ofInt (-1000001))]) (M' := M4) rfl ?_
      exact vm_WM.ret (r := some (.int (Int32.ofInt (-1000001)))) 24 rfl rfl rfl ⟨_, rfl, h⟩
    · replace h := h.2 hc
      refine vm_WM.seq 11 2 (pc' := 23) (L' := [.ref 48, .int a1, .int a2, .int a3]) (S' := [.int a2, .int a1]) (M' := M4) rfl ?_
      refine vm_WM.if (c := a1 = a2) (t1 := 43) (t2 := 26) (S' := []) 13 rfl rfl rfl (fun hc => ?_) (fun hc => ?_)
      · replace h := h.1 hc
        refine vm_WM.seq 23 1 (pc' := 45) (L' := [.ref 48, .int a1, .int a2, .int a3]) (S' := [.int (Int32.ofInt (-1000001))]) (M' := M4) rfl ?_
        exact vm_WM.ret (r := some (.int (Int32.ofInt (-1000001)))) 24 rfl rfl rfl ⟨_, rfl, h⟩
      · replace h := h.2 hc
        refine vm_WM.seq 14 1 (pc' := 27) (L' := [.ref 48, .int a1, .int a2, .int a3]) (S' := [.int a3]) (M' := M4) rfl ?_
        refine vm_WM.call (a := 135) (as := [.int a3]) (rest := []) (L0 := [.int a3]) 15 rfl rfl (by decide) rfl rfl ⟨rfl, Or.inl rfl, Nat.le_of_ble_eq_true rfl, Nat.le_of_ble_eq_true rfl⟩ rfl rfl rfl ?_
        refine vm_WM.theni h (fun v5 M6 h => ?_)
        show vm_WM X 148 30 [.ref 48, .int a1, .int a2, .int a3] [.int v5] M6 _
        refine vm_WM.if (c := v5 = 0) (t1 := 43) (t2 := 33) (S' := []) 16 rfl rfl rfl (fun hc => ?_) (fun hc => ?_)
        · replace h := h.1 hc
          refine vm_WM.seq 23 1 (pc' := 45) (L' := [.ref 48, .int a1, .int a2, .int a3]) (S' := [.int (Int32.ofInt (-1000001))]) (M' := M6) rfl ?_
          exact vm_WM.ret (r := some (.int (Int32.ofInt (-1000001)))) 24 rfl rfl rfl ⟨_, rfl, h⟩
        · replace h := h.2 hc
          refine vm_WM.seq 17 4 (pc' := 37) (L' := [.ref 48, .int a1, .int a2, .int a3]) (S' := [.int a3, .int a2, .int a1, .ref 48]) (M' := M6) rfl ?_
          refine vm_WM.call (a := 139) (as := [.ref 48, .int a1, .int a2, .int a3]) (rest := []) (L0 := [.ref 48, .int a1, .int a2, .int a3, .null, .null, .null, .null, .null]) 21 rfl rfl (by decide) rfl rfl ⟨rfl, Or.inr rfl, Nat.le_of_ble_eq_true rfl, Nat.le_of_ble_eq_true rfl⟩ rfl rfl rfl ?_
          refine vm_WM.theni h (fun v7 M8 h => ?_)
          show vm_WM X 148 40 [.ref 48, .int a1, .int a2, .int a3] [.int v7] M8 _
          refine vm_WM.seq 22 1 (pc' := 45) (L' := [.ref 48, .int a1, .int a2, .int a3]) (S' := [.int v7]) (M' := M8) rfl ?_
          exact vm_WM.ret (r := some (.int v7)) 24 rfl rfl rfl ⟨_, rfl, h⟩
theorem v_M_worth {X : Nat × (Nat → Int32)} {a1 : Int32} {a2 : Int32} {M : vm_M} {P : Int32 → vm_M → Prop} (h : E_M_isTrader X a1 (vm_u2 M 48 0 (nI 0)) (fun v1 M2 => (v1 = 0 → (P (Int32.ofInt (-1000001)) M2)) ∧ (¬ (v1 = 0) → (E_M_isMinute X a2 M2 (fun v3 M4 => (v3 = 0 → (P (Int32.ofInt (-1000001)) M4)) ∧ (¬ (v3 = 0) → (C_M_worth_28 X a1 a2 (nI 0) a2 (.null) M4 P))))))) : E_M_worth X a1 a2 M P := by
  unfold E_M_worth
  refine vm_WM.seq 0 5 (pc' := 7) (L' := [.ref 48, .int a1, .int a2, .null, .null, .null]) (S' := [.int a1, .ref 48]) (M' := (vm_u2 M 48 0 (nI 0))) rfl ?_
  refine vm_WM.call (a := 134) (as := [.ref 48, .int a1]) (rest := []) (L0 := [.ref 48, .int a1]) 5 rfl rfl (by decide) rfl rfl ⟨rfl, Or.inr rfl, Nat.le_of_ble_eq_true rfl, Nat.le_of_ble_eq_true rfl⟩ rfl rfl rfl ?_
  refine vm_WM.theni h (fun v1 M2 h => ?_)
  show vm_WM X 149 10 [.ref 48, .int a1, .int a2, .null, .null, .null] [.int v1] M2 _
  refine vm_WM.if (c := v1 = 0) (t1 := 20) (t2 := 13) (S' := []) 6 rfl rfl rfl (fun hc => ?_) (fun hc => ?_)
  · replace h := h.1 hc
    refine vm_WM.seq 10 1 (pc' := 22) (L' := [.ref 48, .int a1, .int a2, .null, .null, .null]) (S' := [.int (Int32.ofInt (-1000001))]) (M' := M2) rfl ?_
    exact vm_WM.ret (r := some (.int (Int32.ofInt (-1000001)))) 11 rfl rfl rfl ⟨_, rfl, h⟩
  · replace h := h.2 hc
    refine vm_WM.seq 7 1 (pc' := 14) (L' := [.ref 48, .int a1, .int a2, .null, .null, .null]) (S' := [.int a2]) (M' := M2) rfl ?_
    refine vm_WM.call (a := 135) (as := [.int a2]) (rest := []) (L0 := [.int a2]) 8 rfl rfl (by decide) rfl rfl ⟨rfl, Or.inl rfl, Nat.le_of_ble_eq_true rfl, Nat.le_of_ble_eq_true rfl⟩ rfl rfl rfl ?_
    refine vm_WM.theni h (fun v3 M4 h => ?_)
    show vm_WM X 149 17 [.ref 48, .int a1, .int a2, .null, .null, .null] [.int v3] M4 _
    refine vm_WM.if (c := v3 = 0) (t1 := 20) (t2 := 23) (S' := []) 9 rfl rfl rfl (fun hc => ?_) (fun hc => ?_)
    · replace h := h.1 hc
      refine vm_WM.seq 10 1 (pc' := 22) (L' := [.ref 48, .int a1, .int a2, .null, .null, .null]) (S' := [.int (Int32.ofInt (-1000001))]) (M' := M4) rfl ?_
      exact vm_WM.ret (r := some (.int (Int32.ofInt (-1000001)))) 11 rfl rfl rfl ⟨_, rfl, h⟩
    · replace h := h.2 hc
      refine vm_WM.seq 12 4 (pc' := 28) (L' := [.ref 48, .int a1, .int a2, .int (nI 0), .int a2, .null]) (S' := []) (M' := M4) rfl ?_
      exact h
theorem v_M_worth_28 {X : Nat × (Nat → Int32)} {x1 : Int32} {x2 : Int32} {x3 : Int32} {x4 : Int32} {w5 : Value} {M : vm_M} {P : Int32 → vm_M → Prop} (h : ((nI 60) < x4 → (P x3 M)) ∧ (¬ ((nI 60) < x4) → (C_M_worth_38 X x1 x2 x3 x4 (nI 0) M P))) : C_M_worth_28 X x1 x2 x3 x4 w5 M P := by
  unfold C_M_worth_28
  refine vm_WM.seq 16 2 (pc' := 32) (L' := [.ref 48, .int x1, .int x2, .int x3, .int x4, w5]) (S' := [.int (nI 60), .int x4]) (M' := M) rfl ?_
  refine vm_WM.if (c := (nI 60) < x4) (t1 := 96) (t2 := 35) (S' := []) 18 rfl rfl rfl (fun hc => ?_) (fun hc => ?_)
  · replace h := h.1 hc
    refine vm_WM.seq 49 1 (pc' := 97) (L' := [.ref 48, .int x1, .int x2, .int x3, .int x4, w5]) (S' := [.int x3]) (M' := M) rfl ?_
    exact vm_WM.ret (r := some (.int x3)) 50 rfl rfl rfl ⟨_, rfl, h⟩
  · replace h := h.2 hc
    refine vm_WM.seq 19 2 (pc' := 38) (L' := [.ref 48, .int x1, .int x2, .int x3, .int x4, .int (nI 0)]) (S' := []) (M' := M) rfl ?_
    exact h
theorem v_M_worth_38 {X : Nat × (Nat → Int32)} {x1 : Int32} {x2 : Int32} {x3 : Int32} {x4 : Int32} {x5 : Int32} {M : vm_M} {P : Int32 → vm_M → Prop} (h : (x5 < (M 52 2) → (E_M_passedIn X x1 x5 x4 M (fun v1 M2 => (v1 = (Int32.ofInt (-1000000)) → (C_M_worth_38 X x1 x2 x3 x4 (x5 + (nI 1)) M2 P)) ∧ (¬ (v1 = (Int32.ofInt (-1000000))) → (E_M_priceOf X x5 M2 (fun v3 M4 => (x3 < v3 → (E_M_priceOf X x5 M4 (fun v5 M6 => C_M_worth_38 X x1 x2 v5 x4 (x5 + (nI 1)) M6 P))) ∧ (¬ (x3 < v3) → (C_M_worth_38 X x1 x2 x3 x4 (x5 + (nI 1)) M4 P)))))))) ∧ (¬ (x5 < (M 52 2)) → (C_M_worth_28 X x1 x2 x3 (x4 + (nI 1)) (.int x5) M P))) : C_M_worth_38 X x1 x2 x3 x4 x5 M P := by
  unfold C_M_worth_38
  refine vm_WM.seq 21 4 (pc' := 45) (L' := [.ref 48, .int x1, .int x2, .int x3, .int x4, .int x5]) (S' := [.int (nI 2), .ref 52, .int x5]) (M' := M) rfl ?_
  refine vm_WM.ald (n := 70) (jj := 2) 25 rfl (Or.inl ⟨rfl, rfl⟩) (by decide) rfl rfl (by decide) ?_
  refine vm_WM.if (c := x5 < (M 52 2)) (t1 := 49) (t2 := 90) (S' := []) 26 rfl rfl rfl (fun hc => ?_) (fun hc => ?_)
  · replace h := h.1 hc
    refine vm_WM.seq 27 4 (pc' := 55) (L' := [.ref 48, .int x1, .int x2, .int x3, .int x4, .int x5]) (S' := [.int x4, .int x5, .int x1, .ref 48]) (M' := M) rfl ?_
    refine vm_WM.call (a := 140) (as := [.ref 48, .int x1, .int x5, .int x4]) (rest := []) (L0 := [.ref 48, .int x1, .int x5, .int x4, .null]) 31 rfl rfl (by decide) rfl rfl ⟨rfl, Or.inr rfl, Nat.le_of_ble_eq_true rfl, Nat.le_of_ble_eq_true rfl⟩ rfl rfl rfl ?_
    refine vm_WM.theni h (fun v1 M2 h => ?_)
    show vm_WM X 149 58 [.ref 48, .int x1, .int x2, .int x3, .int x4, .int x5] [.int v1] M2 _
    refine vm_WM.seq 32 1 (pc' := 60) (L' := [.ref 48, .int x1, .int x2, .int x3, .int x4, .int x5]) (S' := [.int (Int32.ofInt (-1000000)), .int v1]) (M' := M2) rfl ?_
    refine vm_WM.if (c := v1 = (Int32.ofInt (-1000000))) (t1 := 82) (t2 := 63) (S' := []) 33 rfl rfl rfl (fun hc => ?_) (fun hc => ?_)
    · replace h := h.1 hc
      refine vm_WM.seq 43 4 (pc' := 38) (L' := [.ref 48, .int x1, .int x2, .int x3, .int x4, .int (x5 + (nI 1))]) (S' := []) (M' := M2) rfl ?_
      exact h
    · replace h := h.2 hc
      refine vm_WM.seq 34 2 (pc' := 66) (L' := [.ref 48, .int x1, .int x2, .int x3, .int x4, .int x5]) (S' := [.int x5, .ref 48]) (M' := M2) rfl ?_
      refine vm_WM.call (a := 137) (as := [.ref 48, .int x5]) (rest := []) (L0 := [.ref 48, .int x5]) 36 rfl rfl (by decide) rfl rfl ⟨rfl, Or.inr rfl, Nat.le_of_ble_eq_true rfl, Nat.le_of_ble_eq_true rfl⟩ rfl rfl rfl ?_
      refine vm_WM.theni h (fun v3 M4 h => ?_)
      show vm_WM X 149 69 [.ref 48, .int x1, .int x2, .int x3, .int x4, .int x5] [.int v3] M4 _
      refine vm_WM.seq 37 1 (pc' := 70) (L' := [.ref 48, .int x1, .int x2, .int x3, .int x4, .int x5]) (S' := [.int x3, .int v3]) (M' := M4) rfl ?_
      refine vm_WM.if (c := x3 < v3) (t1 := 73) (t2 := 82) (S' := []) 38 rfl rfl rfl (fun hc => ?_) (fun hc => ?_)
      · replace h := h.1 hc
        refine vm_WM.seq 39 2 (pc' := 76) (L' := [.ref 48, .int x1, .int x2, .int x3, .int x4, .int x5]) (S' := [.int x5, .ref 48]) (M' := M4) rfl ?_
        refine vm_WM.call (a := 137) (as := [.ref 48, .int x5]) (rest := []) (L0 := [.ref 48, .int x5]) 41 rfl rfl (by decide) rfl rfl ⟨rfl, Or.inr rfl, Nat.le_of_ble_eq_true rfl, Nat.le_of_ble_eq_true rfl⟩ rfl rfl rfl ?_
        refine vm_WM.theni h (fun v5 M6 h => ?_)
        show vm_WM X 149 79 [.ref 48, .int x1, .int x2, .int x3, .int x4, .int x5] [.int v5] M6 _
        refine vm_WM.seq 42 1 (pc' := 83) (L' := [.ref 48, .int x1, .int x2, .int x3, .int x4, .int x5]) (S' := [.int v5]) (M' := M6) rfl ?_
        refine vm_WM.seq 44 3 (pc' := 38) (L' := [.ref 48, .int x1, .int x2, .int v5, .int x4, .int (x5 + (nI 1))]) (S' := []) (M' := M6) rfl ?_
        exact h
      · replace h := h.2 hc
        refine vm_WM.seq 43 4 (pc' := 38) (L' := [.ref 48, .int x1, .int x2, .int x3, .int x4, .int (x5 + (nI 1))]) (S' := []) (M' := M4) rfl ?_
        exact h
  · replace h := h.2 hc
    refine vm_WM.seq 47 2 (pc' := 28) (L' := [.ref 48, .int x1, .int x2, .int x3, .int (x4 + (nI 1)), .int x5]) (S' := []) (M' := M) rfl ?_
    exact h
theorem v_M_sure {X : Nat × (Nat → Int32)} {a1 : Int32} {a2 : Int32} {M : vm_M} {P : Int32 → vm_M → Prop} (h : E_M_isTrader X a1 (vm_u2 M 48 0 (nI 0)) (fun v1 M2 => (v1 = 0 → (P (Int32.ofInt (-1000001)) M2)) ∧ (¬ (v1 = 0) → (E_M_isMinute X a2 M2 (fun v3 M4 => (v3 = 0 → (P (Int32.ofInt (-1000001)) M4)) ∧ (¬ (v3 = 0) → (C_M_sure_25 X a1 a2 (nI 0) (.null) (.null) (.null) (.null) (.null) M4 P))))))) : E_M_sure X a1 a2 M P := by
  unfold E_M_sure
  refine vm_WM.seq 0 5 (pc' := 7) (L' := [.ref 48, .int a1, .int a2, .null, .null, .null, .null, .null, .null]) (S' := [.int a1, .ref 48]) (M' := (vm_u2 M 48 0 (nI 0))) rfl ?_
  refine vm_WM.call (a := 134) (as := [.ref 48, .int a1]) (rest := []) (L0 := [.ref 48, .int a1]) 5 rfl rfl (by decide) rfl rfl ⟨rfl, Or.inr rfl, Nat.le_of_ble_eq_true rfl, Nat.le_of_ble_eq_true rfl⟩ rfl rfl rfl ?_
  refine vm_WM.theni h (fun v1 M2 h => ?_)
  show vm_WM X 150 10 [.ref 48, .int a1, .int a2, .null, .null, .null, .null, .null, .null] [.int v1] M2 _
  refine vm_WM.if (c := v1 = 0) (t1 := 20) (t2 := 13) (S' := []) 6 rfl rfl rfl (fun hc => ?_) (fun hc => ?_)
  · replace h := h.1 hc
    refine vm_WM.seq 10 1 (pc' := 22) (L' := [.ref 48, .int a1, .int a2, .null, .null, .null, .null, .null, .null]) (S' := [.int (Int32.ofInt (-1000001))]) (M' := M2) rfl ?_
    exact vm_WM.ret (r := some (.int (Int32.ofInt (-1000001)))) 11 rfl rfl rfl ⟨_, rfl, h⟩
  · replace h := h.2 hc
    refine vm_WM.seq 7 1 (pc' := 14) (L' := [.ref 48, .int a1, .int a2, .null, .null, .null, .null, .null, .null]) (S' := [.int a2]) (M' := M2) rfl ?_
    refine vm_WM.call (a := 135) (as := [.int a2]) (rest := []) (L0 := [.int a2]) 8 rfl rfl (by decide) rfl rfl ⟨rfl, Or.inl rfl, Nat.le_of_ble_eq_true rfl, Nat.le_of_ble_eq_true rfl⟩ rfl rfl rfl ?_
    refine vm_WM.theni h (fun v3 M4 h => ?_)
    show vm_WM X 150 17 [.ref 48, .int a1, .int a2, .null, .null, .null, .null, .null, .null] [.int v3] M4 _
    refine vm_WM.if (c := v3 = 0) (t1 := 20) (t2 := 23) (S' := []) 9 rfl rfl rfl (fun hc => ?_) (fun hc => ?_)
    · replace h := h.1 hc
      refine vm_WM.seq 10 1 (pc' := 22) (L' := [.ref 48, .int a1, .int a2, .null, .null, .null, .null, .null, .null]) (S' := [.int (Int32.ofInt (-1000001))]) (M' := M4) rfl ?_
      exact vm_WM.ret (r := some (.int (Int32.ofInt (-1000001)))) 11 rfl rfl rfl ⟨_, rfl, h⟩
    · replace h := h.2 hc
      refine vm_WM.seq 12 2 (pc' := 25) (L' := [.ref 48, .int a1, .int a2, .int (nI 0), .null, .null, .null, .null, .null]) (S' := []) (M' := M4) rfl ?_
      exact h
theorem v_M_sure_25 {X : Nat × (Nat → Int32)} {x1 : Int32} {x2 : Int32} {x3 : Int32} {w4 : Value} {w5 : Value} {w6 : Value} {w7 : Value} {w8 : Value} {M : vm_M} {P : Int32 → vm_M → Prop} (h : (x3 < (nI 372) → (∃ j1 : Nat, x3 = nI j1 ∧ j1 < 372 ∧ (C_M_sure_25 X x1 x2 (x3 + (nI 1)) (w4) (w5) (w6) (w7) (w8) (vm_u2 M 56 j1 (nI 0)) P))) ∧ (¬ (x3 < (nI 372)) → (C_M_sure_48 X x1 x2 (nI 60) (w4) (w5) (w6) (w7) (w8) M P))) : C_M_sure_25 X x1 x2 x3 w4 w5 w6 w7 w8 M P := by
  unfold C_M_sure_25
  refine vm_WM.seq 14 2 (pc' := 29) (L' := [.ref 48, .int x1, .int x2, .int x3, w4, w5, w6, w7, w8]) (S' := [.int (nI 372), .int x3]) (M' := M) rfl ?_
  refine vm_WM.if (c := x3 < (nI 372)) (t1 := 32) (t2 := 45) (S' := []) 16 rfl rfl rfl (fun hc => ?_) (fun hc => ?_)
  · replace h := h.1 hc
    refine vm_WM.seq 17 4 (pc' := 38) (L' := [.ref 48, .int x1, .int x2, .int x3, w4, w5, w6, w7, w8]) (S' := [.int (nI 0), .int x3, .ref 56]) (M' := M) rfl ?_
    obtain ⟨j1, hj1, hj2, h⟩ := h
    refine vm_WM.ast (n := 372) (jj := j1) 21 rfl rfl hj1 hj2 ?_
    refine vm_WM.seq 22 2 (pc' := 25) (L' := [.ref 48, .int x1, .int x2, .int (x3 + (nI 1)), w4, w5, w6, w7, w8]) (S' := []) (M' := (vm_u2 M 56 j1 (nI 0))) rfl ?_
    exact h
  · replace h := h.2 hc
    refine vm_WM.seq 24 2 (pc' := 48) (L' := [.ref 48, .int x1, .int x2, .int (nI 60), w4, w5, w6, w7, w8]) (S' := []) (M' := M) rfl ?_
    exact h
theorem v_M_sure_48 {X : Nat × (Nat → Int32)} {x1 : Int32} {x2 : Int32} {x3 : Int32} {w4 : Value} {w5 : Value} {w6 : Value} {w7 : Value} {w8 : Value} {M : vm_M} {P : Int32 → vm_M → Prop} (h : (x3 < x2 → (∃ j1 : Nat, (((nI 6) * x2) + x1) = nI j1 ∧ j1 < 372 ∧ (P (M 56 j1) M))) ∧ (¬ (x3 < x2) → (C_M_sure_56 X x1 x2 x3 (nI 0) (w5) (w6) (w7) (w8) M P))) : C_M_sure_48 X x1 x2 x3 w4 w5 w6 w7 w8 M P := by
  unfold C_M_sure_48
  refine vm_WM.seq 26 2 (pc' := 50) (L' := [.ref 48, .int x1, .int x2, .int x3, w4, w5, w6, w7, w8]) (S' := [.int x2, .int x3]) (M' := M) rfl ?_
  refine vm_WM.if (c := x3 < x2) (t1 := 205) (t2 := 53) (S' := []) 28 rfl rfl rfl (fun hc => ?_) (fun hc => ?_)
  · replace h := h.1 hc
    refine vm_WM.seq 109 7 (pc' := 215) (L' := [.ref 48, .int x1, .int x2, .int x3, w4, w5, w6, w7, w8]) (S' := [.int (((nI 6) * x2) + x1), .ref 56]) (M' := M) rfl ?_
    obtain ⟨j1, hj1, hj2, h⟩ := h
    refine vm_WM.ald (n := 372) (jj := j1) 116 rfl (Or.inl ⟨rfl, rfl⟩) (by decide) rfl hj1 hj2 ?_
    exact vm_WM.ret (r := some (.int (M 56 j1))) 117 rfl rfl rfl ⟨_, rfl, h⟩
  · replace h := h.2 hc
    refine vm_WM.seq 29 2 (pc' := 56) (L' := [.ref 48, .int x1, .int x2, .int x3, .int (nI 0), w5, w6, w7, w8]) (S' := []) (M' := M) rfl ?_
    exact h
theorem v_M_sure_56 {X : Nat × (Nat → Int32)} {x1 : Int32} {x2 : Int32} {x3 : Int32} {x4 : Int32} {w5 : Value} {w6 : Value} {w7 : Value} {w8 : Value} {M : vm_M} {P : Int32 → vm_M → Prop} (h : (x4 < (M 52 2) → (∃ j1 : Nat, (((nI 6) * (x3 + (nI 1))) + x4) = nI j1 ∧ j1 < 372 ∧ (C_M_sure_86 X x1 x2 x3 x4 (M 56 j1) (nI 0) (w7) (w8) M P))) ∧ (¬ (x4 < (M 52 2)) → (C_M_sure_48 X x1 x2 (x3 + (Int32.ofInt (-1))) (.int x4) (w5) (w6) (w7) (w8) M P))) : C_M_sure_56 X x1 x2 x3 x4 w5 w6 w7 w8 M P := by
  unfold C_M_sure_56
  refine vm_WM.seq 31 4 (pc' := 63) (L' := [.ref 48, .int x1, .int x2, .int x3, .int x4, w5, w6, w7, w8]) (S' := [.int (nI 2), .ref 52, .int x4]) (M' := M) rfl ?_
  refine vm_WM.ald (n := 70) (jj := 2) 35 rfl (Or.inl ⟨rfl, rfl⟩) (by decide) rfl rfl (by decide) ?_
  refine vm_WM.if (c := x4 < (M 52 2)) (t1 := 67) (t2 := 199) (S' := []) 36 rfl rfl rfl (fun hc => ?_) (fun hc => ?_)
  · replace h := h.1 hc
    refine vm_WM.seq 37 9 (pc' := 80) (L' := [.ref 48, .int x1, .int x2, .int x3, .int x4, w5, w6, w7, w8]) (S' := [.int (((nI 6) * (x3 + (nI 1))) + x4), .ref 56]) (M' := M) rfl ?_
    obtain ⟨j1, hj1, hj2, h⟩ := h
    refine vm_WM.ald (n := 372) (jj := j1) 46 rfl (Or.inl ⟨rfl, rfl⟩) (by decide) rfl hj1 hj2 ?_
    refine vm_WM.seq 47 3 (pc' := 86) (L' := [.ref 48, .int x1, .int x2, .int x3, .int x4, .int (M 56 j1), .int (nI 0), w7, w8]) (S' := []) (M' := M) rfl ?_
    exact h
  · replace h := h.2 hc
    refine vm_WM.seq 107 2 (pc' := 48) (L' := [.ref 48, .int x1, .int x2, .int (x3 + (Int32.ofInt (-1))), .int x4, w5, w6, w7, w8]) (S' := []) (M' := M) rfl ?_
    exact h
theorem v_M_sure_86 {X : Nat × (Nat → Int32)} {x1 : Int32} {x2 : Int32} {x3 : Int32} {x4 : Int32} {x5 : Int32} {x6 : Int32} {w7 : Value} {w8 : Value} {M : vm_M} {P : Int32 → vm_M → Prop} (h : (x6 < (M 52 2) → (E_M_passedIn X x4 x6 x3 M (fun v1 M2 => (v1 = (Int32.ofInt (-1000000)) → (C_M_sure_86 X x1 x2 x3 x4 x5 (x6 + (nI 1)) (.int v1) (.int (nI 0)) M2 P)) ∧ (¬ (v1 = (Int32.ofInt (-1000000))) → (∃ j3 : Nat, (((nI 6) * v1) + x6) = nI j3 ∧ j3 < 372 ∧ (E_M_priceOf X x6 M2 (fun v4 M5 => ((M2 56 j3) < v4 → (C_M_sure_86 X x1 x2 x3 x4 x5 (x6 + (nI 1)) (.int v1) (.int (nI 0)) M5 P)) ∧ (¬ ((M2 56 j3) < v4) → (E_M_priceOf X x6 M5 (fun v6 M7 => (x5 < v6 → (E_M_priceOf X x6 M7 (fun v8 M9 => C_M_sure_86 X x1 x2 x3 x4 v8 (x6 + (nI 1)) (.int v1) (.int (nI 1)) M9 P))) ∧ (¬ (x5 < v6) → (C_M_sure_86 X x1 x2 x3 x4 x5 (x6 + (nI 1)) (.int v1) (.int (nI 1)) M7 P)))))))))))) ∧ (¬ (x6 < (M 52 2)) → (∃ j10 : Nat, (((nI 6) * x3) + x4) = nI j10 ∧ j10 < 372 ∧ (C_M_sure_56 X x1 x2 x3 (x4 + (nI 1)) (.int x5) (.int x6) (w7) (w8) (vm_u2 M 56 j10 x5) P)))) : C_M_sure_86 X x1 x2 x3 x4 x5 x6 w7 w8 M P := by
  unfold C_M_sure_86
  refine vm_WM.seq 50 4 (pc' := 93) (L' := [.ref 48, .int x1, .int x2, .int x3, .int x4, .int x5, .int x6, w7, w8]) (S' := [.int (nI 2), .ref 52, .int x6]) (M' := M) rfl ?_
  refine vm_WM.ald (n := 70) (jj := 2) 54 rfl (Or.inl ⟨rfl, rfl⟩) (by decide) rfl rfl (by decide) ?_
  refine vm_WM.if (c := x6 < (M 52 2)) (t1 := 97) (t2 := 179) (S' := []) 55 rfl rfl rfl (fun hc => ?_) (fun hc => ?_)
  · replace h := h.1 hc
    refine vm_WM.seq 56 4 (pc' := 103) (L' := [.ref 48, .int x1, .int x2, .int x3, .int x4, .int x5, .int x6, w7, w8]) (S' := [.int x3, .int x6, .int x4, .ref 48]) (M' := M) rfl ?_
    refine vm_WM.call (a := 140) (as := [.ref 48, .int x4, .int x6, .int x3]) (rest := []) (L0 := [.ref 48, .int x4, .int x6, .int x3, .null]) 60 rfl rfl (by decide) rfl rfl ⟨rfl, Or.inr rfl, Nat.le_of_ble_eq_true rfl, Nat.le_of_ble_eq_true rfl⟩ rfl rfl rfl ?_
    refine vm_WM.theni h (fun v1 M2 h => ?_)
    show vm_WM X 150 106 [.ref 48, .int x1, .int x2, .int x3, .int x4, .int x5, .int x6, w7, w8] [.int v1] M2 _
    refine vm_WM.seq 61 3 (pc' := 112) (L' := [.ref 48, .int x1, .int x2, .int x3, .int x4, .int x5, .int x6, .int v1, w8]) (S' := [.int (Int32.ofInt (-1000000)), .int v1]) (M' := M2) rfl ?_
    refine vm_WM.if (c := v1 = (Int32.ofInt (-1000000))) (t1 := 141) (t2 := 115) (S' := []) 64 rfl rfl rfl (fun hc => ?_) (fun hc => ?_)
    · replace h := h.1 hc
      refine vm_WM.seq 79 4 (pc' := 169) (L' := [.ref 48, .int x1, .int x2, .int x3, .int x4, .int x5, .int x6, .int v1, .int (nI 0)]) (S' := []) (M' := M2) rfl ?_
      refine vm_WM.seq 92 4 (pc' := 86) (L' := [.ref 48, .int x1, .int x2, .int x3, .int x4, .int x5, .int (x6 + (nI 1)), .int v1, .int (nI 0)]) (S' := []) (M' := M2) rfl ?_
      exact h
    · replace h := h.2 hc
      refine vm_WM.seq 65 7 (pc' := 127) (L' := [.ref 48, .int x1, .int x2, .int x3, .int x4, .int x5, .int x6, .int v1, w8]) (S' := [.int (((nI 6) * v1) + x6), .ref 56]) (M' := M2) rfl ?_
      obtain ⟨j3, hj1, hj2, h⟩ := h
      refine vm_WM.ald (n := 372) (jj := j3) 72 rfl (Or.inl ⟨rfl, rfl⟩) (by decide) rfl hj1 hj2 ?_
      refine vm_WM.seq 73 2 (pc' := 131) (L' := [.ref 48, .int x1, .int x2, .int x3, .int x4, .int x5, .int x6, .int v1, w8]) (S' := [.int x6, .ref 48, .int (M2 56 j3)]) (M' := M2) rfl ?_
      refine vm_WM.call (a := 137) (as := [.ref 48, .int x6]) (rest := [.int (M2 56 j3)]) (L0 := [.ref 48, .int x6]) 75 rfl rfl (by decide) rfl rfl ⟨rfl, Or.inr rfl, Nat.le_of_ble_eq_true rfl, Nat.le_of_ble_eq_true rfl⟩ rfl rfl rfl ?_
      refine vm_WM.theni h (fun v4 M5 h => ?_)
      show vm_WM X 150 134 [.ref 48, .int x1, .int x2, .int x3, .int x4, .int x5, .int x6, .int v1, w8] [.int v4, .int (M2 56 j3)] M5 _
      refine vm_WM.if (c := (M2 56 j3) < v4) (t1 := 141) (t2 := 137) (S' := []) 76 rfl rfl rfl (fun hc => ?_) (fun hc => ?_)
      · replace h := h.1 hc
        refine vm_WM.seq 79 4 (pc' := 169) (L' := [.ref 48, .int x1, .int x2, .int x3, .int x4, .int x5, .int x6, .int v1, .int (nI 0)]) (S' := []) (M' := M5) rfl ?_
        refine vm_WM.seq 92 4 (pc' := 86) (L' := [.ref 48, .int x1, .int x2, .int x3, .int x4, .int x5, .int (x6 + (nI 1)), .int v1, .int (nI 0)]) (S' := []) (M' := M5) rfl ?_
        exact h
      · replace h := h.2 hc
        refine vm_WM.seq 77 2 (pc' := 142) (L' := [.ref 48, .int x1, .int x2, .int x3, .int x4, .int x5, .int x6, .int v1, w8]) (S' := [.int (nI 1)]) (M' := M5) rfl ?_
        refine vm_WM.seq 80 5 (pc' := 152) (L' := [.ref 48, .int x1, .int x2, .int x3, .int x4, .int x5, .int x6, .int v1, .int (nI 1)]) (S' := [.int x6, .ref 48]) (M' := M5) rfl ?_
        refine vm_WM.call (a := 137) (as := [.ref 48, .int x6]) (rest := []) (L0 := [.ref 48, .int x6]) 85 rfl rfl (by decide) rfl rfl ⟨rfl, Or.inr rfl, Nat.le_of_ble_eq_true rfl, Nat.le_of_ble_eq_true rfl⟩ rfl rfl rfl ?_
        refine vm_WM.theni h (fun v6 M7 h => ?_)
        show vm_WM X 150 155 [.ref 48, .int x1, .int x2, .int x3, .int x4, .int x5, .int x6, .int v1, .int (nI 1)] [.int v6] M7 _
        refine vm_WM.seq 86 1 (pc' := 157) (L' := [.ref 48, .int x1, .int x2, .int x3, .int x4, .int x5, .int x6, .int v1, .int (nI 1)]) (S' := [.int x5, .int v6]) (M' := M7) rfl ?_
        refine vm_WM.if (c := x5 < v6) (t1 := 160) (t2 := 169) (S' := []) 87 rfl rfl rfl (fun hc => ?_) (fun hc => ?_)
        · replace h := h.1 hc
          refine vm_WM.seq 88 2 (pc' := 163) (L' := [.ref 48, .int x1, .int x2, .int x3, .int x4, .int x5, .int x6, .int v1, .int (nI 1)]) (S' := [.int x6, .ref 48]) (M' := M7) rfl ?_
          refine vm_WM.call (a := 137) (as := [.ref 48, .int x6]) (rest := []) (L0 := [.ref 48, .int x6]) 90 rfl rfl (by decide) rfl rfl ⟨rfl, Or.inr rfl, Nat.le_of_ble_eq_true rfl, Nat.le_of_ble_eq_true rfl⟩ rfl rfl rfl ?_
          refine vm_WM.theni h (fun v8 M9 h => ?_)
          show vm_WM X 150 166 [.ref 48, .int x1, .int x2, .int x3, .int x4, .int x5, .int x6, .int v1, .int (nI 1)] [.int v8] M9 _
          refine vm_WM.seq 91 1 (pc' := 171) (L' := [.ref 48, .int x1, .int x2, .int x3, .int x4, .int x5, .int x6, .int v1, .int (nI 1)]) (S' := [.int v8]) (M' := M9) rfl ?_
          refine vm_WM.seq 93 3 (pc' := 86) (L' := [.ref 48, .int x1, .int x2, .int x3, .int x4, .int v8, .int (x6 + (nI 1)), .int v1, .int (nI 1)]) (S' := []) (M' := M9) rfl ?_
          exact h
        · replace h := h.2 hc
          refine vm_WM.seq 92 4 (pc' := 86) (L' := [.ref 48, .int x1, .int x2, .int x3, .int x4, .int x5, .int (x6 + (nI 1)), .int v1, .int (nI 1)]) (S' := []) (M' := M7) rfl ?_
          exact h
  · replace h := h.2 hc
    refine vm_WM.seq 96 8 (pc' := 192) (L' := [.ref 48, .int x1, .int x2, .int x3, .int x4, .int x5, .int x6, w7, w8]) (S' := [.int x5, .int (((nI 6) * x3) + x4), .ref 56]) (M' := M) rfl ?_
    obtain ⟨j10, hj1, hj2, h⟩ := h
    refine vm_WM.ast (n := 372) (jj := j10) 104 rfl rfl hj1 hj2 ?_
    refine vm_WM.seq 105 2 (pc' := 56) (L' := [.ref 48, .int x1, .int x2, .int x3, .int (x4 + (nI 1)), .int x5, .int x6, w7, w8]) (S' := []) (M' := (vm_u2 M 56 j10 x5)) rfl ?_
    exact h
theorem v_M_most {X : Nat × (Nat → Int32)} {a1 : Int32} {a2 : Int32} {a3 : Int32} {M : vm_M} {P : Int32 → vm_M → Prop} (h : E_M_isTrader X a1 (vm_u2 M 48 0 (nI 0)) (fun v1 M2 => (v1 = 0 → (P (Int32.ofInt (-1000001)) M2)) ∧ (¬ (v1 = 0) → (E_M_isMinute X a2 M2 (fun v3 M4 => (v3 = 0 → (P (Int32.ofInt (-1000001)) M4)) ∧ (¬ (v3 = 0) → (E_M_in X ((a3).toInt64) (Int64.ofNat 0) (Int64.ofNat 1) M4 (fun v5 M6 => (v5 = 0 → (P (Int32.ofInt (-1000001)) M6)) ∧ (¬ (v5 = 0) → (C_M_most_36 X a1 a2 a3 (nI 0) (.null) (.null) (.null) (.null) (.null) (.null) (.null) M6 P)))))))))) : E_M_most X a1 a2 a3 M P := by
  unfold E_M_most
  refine vm_WM.seq 0 5 (pc' := 7) (L' := [.ref 48, .int a1, .int a2, .int a3, .null, .null, .null, .null, .null, .null, .null, .null]) (S' := [.int a1, .ref 48]) (M' := (vm_u2 M 48 0 (nI 0))) rfl ?_
  refine vm_WM.call (a := 134) (as := [.ref 48, .int a1]) (rest := []) (L0 := [.ref 48, .int a1]) 5 rfl rfl (by decide) rfl rfl ⟨rfl, Or.inr rfl, Nat.le_of_ble_eq_true rfl, Nat.le_of_ble_eq_true rfl⟩ rfl rfl rfl ?_
  refine vm_WM.theni h (fun v1 M2 h => ?_)
  show vm_WM X 151 10 [.ref 48, .int a1, .int a2, .int a3, .null, .null, .null, .null, .null, .null, .null, .null] [.int v1] M2 _
  refine vm_WM.if (c := v1 = 0) (t1 := 30) (t2 := 13) (S' := []) 6 rfl rfl rfl (fun hc => ?_) (fun hc => ?_)
  · replace h := h.1 hc
    refine vm_WM.seq 16 1 (pc' := 32) (L' := [.ref 48, .int a1, .int a2, .int a3, .null, .null, .null, .null, .null, .null, .null, .null]) (S' := [.int (Int32.ofInt (-1000001))]) (M' := M2) rfl ?_
    exact vm_WM.ret (r := some (.int (Int32.ofInt (-1000001)))) 17 rfl rfl rfl ⟨_, rfl, h⟩
  · replace h := h.2 hc
    refine vm_WM.seq 7 1 (pc' := 14) (L' := [.ref 48, .int a1, .int a2, .int a3, .null, .null, .null, .null, .null, .null, .null, .null]) (S' := [.int a2]) (M' := M2) rfl ?_
    refine vm_WM.call (a := 135) (as := [.int a2]) (rest := []) (L0 := [.int a2]) 8 rfl rfl (by decide) rfl rfl ⟨rfl, Or.inl rfl, Nat.le_of_ble_eq_true rfl, Nat.le_of_ble_eq_true rfl⟩ rfl rfl rfl ?_
    refine vm_WM.theni h (fun v3 M4 h => ?_)
    show vm_WM X 151 17 [.ref 48, .int a1, .int a2, .int a3, .null, .null, .null, .null, .null, .null, .null, .null] [.int v3] M4 _
    refine vm_WM.if (c := v3 = 0) (t1 := 30) (t2 := 20) (S' := []) 9 rfl rfl rfl (fun hc => ?_) (fun hc => ?_)
    · replace h := h.1 hc
      refine vm_WM.seq 16 1 (pc' := 32) (L' := [.ref 48, .int a1, .int a2, .int a3, .null, .null, .null, .null, .null, .null, .null, .null]) (S' := [.int (Int32.ofInt (-1000001))]) (M' := M4) rfl ?_
      exact vm_WM.ret (r := some (.int (Int32.ofInt (-1000001)))) 17 rfl rfl rfl ⟨_, rfl, h⟩
    · replace h := h.2 hc
      refine vm_WM.seq 10 4 (pc' := 24) (L' := [.ref 48, .int a1, .int a2, .int a3, .null, .null, .null, .null, .null, .null, .null, .null]) (S' := [.long (Int64.ofNat 1), .long (Int64.ofNat 0), .long ((a3).toInt64)]) (M' := M4) rfl ?_
      refine vm_WM.call (a := 108) (as := [.long ((a3).toInt64), .long (Int64.ofNat 0), .long (Int64.ofNat 1)]) (rest := []) (L0 := [.long ((a3).toInt64), .null, .long (Int64.ofNat 0), .null, .long (Int64.ofNat 1), .null]) 14 rfl rfl (by decide) rfl rfl ⟨rfl, Or.inl rfl, Nat.le_of_ble_eq_true rfl, Nat.le_of_ble_eq_true rfl⟩ rfl rfl rfl ?_
      refine vm_WM.theni h (fun v5 M6 h => ?_)
      show vm_WM X 151 27 [.ref 48, .int a1, .int a2, .int a3, .null, .null, .null, .null, .null, .null, .null, .null] [.int v5] M6 _
      refine vm_WM.if (c := v5 = 0) (t1 := 30) (t2 := 33) (S' := []) 15 rfl rfl rfl (fun hc => ?_) (fun hc => ?_)
      · replace h := h.1 hc
        refine vm_WM.seq 16 1 (pc' := 32) (L' := [.ref 48, .int a1, .int a2, .int a3, .null, .null, .null, .null, .null, .null, .null, .null]) (S' := [.int (Int32.ofInt (-1000001))]) (M' := M6) rfl ?_
        exact vm_WM.ret (r := some (.int (Int32.ofInt (-1000001)))) 17 rfl rfl rfl ⟨_, rfl, h⟩
      · replace h := h.2 hc
        refine vm_WM.seq 18 2 (pc' := 36) (L' := [.ref 48, .int a1, .int a2, .int a3, .int (nI 0), .null, .null, .null, .null, .null, .null, .null]) (S' := []) (M' := M6) rfl ?_
        exact h
theorem v_M_most_36 {X : Nat × (Nat → Int32)} {x1 : Int32} {x2 : Int32} {x3 : Int32} {x4 : Int32} {w5 : Value} {w6 : Value} {w7 : Value} {w8 : Value} {w9 : Value} {w10 : Value} {w11 : Value} {M : vm_M} {P : Int32 → vm_M → Prop} (h : (x4 < (nI 372) → (∃ j1 : Nat, x4 = nI j1 ∧ j1 < 372 ∧ (∃ j2 : Nat, x4 = nI j2 ∧ j2 < 372 ∧ (C_M_most_36 X x1 x2 x3 (x4 + (nI 1)) (w5) (w6) (w7) (w8) (w9) (w10) (w11) (vm_u2 (vm_u2 M 57 j1 (nI 0)) 58 j2 (nI 0)) P)))) ∧ (¬ (x4 < (nI 372)) → (C_M_most_70 X x1 x2 x3 (nI 60) (w5) (w6) (w7) (w8) (w9) (w10) (w11) M P))) : C_M_most_36 X x1 x2 x3 x4 w5 w6 w7 w8 w9 w10 w11 M P := by
  unfold C_M_most_36
  refine vm_WM.seq 20 2 (pc' := 41) (L' := [.ref 48, .int x1, .int x2, .int x3, .int x4, w5, w6, w7, w8, w9, w10, w11]) (S' := [.int (nI 372), .int x4]) (M' := M) rfl ?_
  refine vm_WM.if (c := x4 < (nI 372)) (t1 := 44) (t2 := 66) (S' := []) 22 rfl rfl rfl (fun hc => ?_) (fun hc => ?_)
  · replace h := h.1 hc
    refine vm_WM.seq 23 4 (pc' := 51) (L' := [.ref 48, .int x1, .int x2, .int x3, .int x4, w5, w6, w7, w8, w9, w10, w11]) (S' := [.int (nI 0), .int x4, .ref 57]) (M' := M) rfl ?_
    obtain ⟨j1, hj1, hj2, h⟩ := h
    refine vm_WM.ast (n := 372) (jj := j1) 27 rfl rfl hj1 hj2 ?_
    refine vm_WM.seq 28 4 (pc' := 59) (L' := [.ref 48, .int x1, .int x2, .int x3, .int x4, w5, w6, w7, w8, w9, w10, w11]) (S' := [.int (nI 0), .int x4, .ref 58]) (M' := (vm_u2 M 57 j1 (nI 0))) rfl ?_
    obtain ⟨j2, hj1, hj2, h⟩ := h
    refine vm_WM.ast (n := 372) (jj := j2) 32 rfl rfl hj1 hj2 ?_
    refine vm_WM.seq 33 2 (pc' := 36) (L' := [.ref 48, .int x1, .int x2, .int x3, .int (x4 + (nI 1)), w5, w6, w7, w8, w9, w10, w11]) (S' := []) (M' := (vm_u2 (vm_u2 M 57 j1 (nI 0)) 58 j2 (nI 0))) rfl ?_
    exact h
  · replace h := h.2 hc
    refine vm_WM.seq 35 2 (pc' := 70) (L' := [.ref 48, .int x1, .int x2, .int x3, .int (nI 60), w5, w6, w7, w8, w9, w10, w11]) (S' := []) (M' := M) rfl ?_
    exact h
theorem v_M_most_70 {X : Nat × (Nat → Int32)} {x1 : Int32} {x2 : Int32} {x3 : Int32} {x4 : Int32} {w5 : Value} {w6 : Value} {w7 : Value} {w8 : Value} {w9 : Value} {w10 : Value} {w11 : Value} {M : vm_M} {P : Int32 → vm_M → Prop} (h : (x4 < x2 → ((x3 = 0 → (∃ j1 : Nat, (((nI 6) * x2) + x1) = nI j1 ∧ j1 < 372 ∧ (P (M 57 j1) M))) ∧ (¬ (x3 = 0) → (∃ j2 : Nat, (((nI 6) * x2) + x1) = nI j2 ∧ j2 < 372 ∧ (P (M 58 j2) M))))) ∧ (¬ (x4 < x2) → (C_M_most_79 X x1 x2 x3 x4 (nI 0) (w6) (w7) (w8) (w9) (w10) (w11) M P))) : C_M_most_70 X x1 x2 x3 x4 w5 w6 w7 w8 w9 w10 w11 M P := by
  unfold C_M_most_70
  refine vm_WM.seq 37 2 (pc' := 73) (L' := [.ref 48, .int x1, .int x2, .int x3, .int x4, w5, w6, w7, w8, w9, w10, w11]) (S' := [.int x2, .int x4]) (M' := M) rfl ?_
  refine vm_WM.if (c := x4 < x2) (t1 := 290) (t2 := 76) (S' := []) 39 rfl rfl rfl (fun hc => ?_) (fun hc => ?_)
  · replace h := h.1 hc
    refine vm_WM.seq 155 1 (pc' := 291) (L' := [.ref 48, .int x1, .int x2, .int x3, .int x4, w5, w6, w7, w8, w9, w10, w11]) (S' := [.int x3]) (M' := M) rfl ?_
    refine vm_WM.if (c := x3 = 0) (t1 := 294) (t2 := 308) (S' := []) 156 rfl rfl rfl (fun hc => ?_) (fun hc => ?_)
    · replace h := h.1 hc
      refine vm_WM.seq 157 7 (pc' := 304) (L' := [.ref 48, .int x1, .int x2, .int x3, .int x4, w5, w6, w7, w8, w9, w10, w11]) (S' := [.int (((nI 6) * x2) + x1), .ref 57]) (M' := M) rfl ?_
      obtain ⟨j1, hj1, hj2, h⟩ := h
      refine vm_WM.ald (n := 372) (jj := j1) 164 rfl (Or.inl ⟨rfl, rfl⟩) (by decide) rfl hj1 hj2 ?_
      refine vm_WM.seq 165 1 (pc' := 319) (L' := [.ref 48, .int x1, .int x2, .int x3, .int x4, w5, w6, w7, w8, w9, w10, w11]) (S' := [.int (M 57 j1)]) (M' := M) rfl ?_
      exact vm_WM.ret (r := some (.int (M 57 j1))) 174 rfl rfl rfl ⟨_, rfl, h⟩
    · replace h := h.2 hc
      refine vm_WM.seq 166 7 (pc' := 318) (L' := [.ref 48, .int x1, .int x2, .int x3, .int x4, w5, w6, w7, w8, w9, w10, w11]) (S' := [.int (((nI 6) * x2) + x1), .ref 58]) (M' := M) rfl ?_
      obtain ⟨j2, hj1, hj2, h⟩ := h
      refine vm_WM.ald (n := 372) (jj := j2) 173 rfl (Or.inl ⟨rfl, rfl⟩) (by decide) rfl hj1 hj2 ?_
      exact vm_WM.ret (r := some (.int (M 58 j2))) 174 rfl rfl rfl ⟨_, rfl, h⟩
  · replace h := h.2 hc
    refine vm_WM.seq 40 2 (pc' := 79) (L' := [.ref 48, .int x1, .int x2, .int x3, .int x4, .int (nI 0), w6, w7, w8, w9, w10, w11]) (S' := []) (M' := M) rfl ?_
    exact h
theorem v_M_most_79 {X : Nat × (Nat → Int32)} {x1 : Int32} {x2 : Int32} {x3 : Int32} {x4 : Int32} {x5 : Int32} {w6 : Value} {w7 : Value} {w8 : Value} {w9 : Value} {w10 : Value} {w11 : Value} {M : vm_M} {P : Int32 → vm_M → Prop} (h : (x5 < (M 52 2) → (∃ j1 : Nat, (((nI 6) * (x4 + (nI 1))) + x5) = nI j1 ∧ j1 < 372 ∧ (∃ j2 : Nat, (((nI 6) * (x4 + (nI 1))) + x5) = nI j2 ∧ j2 < 372 ∧ (C_M_most_127 X x1 x2 x3 x4 x5 (M 57 j1) (M 58 j2) (nI 0) (w9) (w10) (w11) M P)))) ∧ (¬ (x5 < (M 52 2)) → (C_M_most_70 X x1 x2 x3 (x4 + (Int32.ofInt (-1))) (.int x5) (w6) (w7) (w8) (w9) (w10) (w11) M P))) : C_M_most_79 X x1 x2 x3 x4 x5 w6 w7 w8 w9 w10 w11 M P := by
  unfold C_M_most_79
  refine vm_WM.seq 42 4 (pc' := 86) (L' := [.ref 48, .int x1, .int x2, .int x3, .int x4, .int x5, w6, w7, w8, w9, w10, w11]) (S' := [.int (nI 2), .ref 52, .int x5]) (M' := M) rfl ?_
  refine vm_WM.ald (n := 70) (jj := 2) 46 rfl (Or.inl ⟨rfl, rfl⟩) (by decide) rfl rfl (by decide) ?_
  refine vm_WM.if (c := x5 < (M 52 2)) (t1 := 90) (t2 := 284) (S' := []) 47 rfl rfl rfl (fun hc => ?_) (fun hc => ?_)
  · replace h := h.1 hc
    refine vm_WM.seq 48 9 (pc' := 104) (L' := [.ref 48, .int x1, .int x2, .int x3, .int x4, .int x5, w6, w7, w8, w9, w10, w11]) (S' := [.int (((nI 6) * (x4 + (nI 1))) + x5), .ref 57]) (M' := M) rfl ?_
    obtain ⟨j1, hj1, hj2, h⟩ := h
    refine vm_WM.ald (n := 372) (jj := j1) 57 rfl (Or.inl ⟨rfl, rfl⟩) (by decide) rfl hj1 hj2 ?_
    refine vm_WM.seq 58 10 (pc' := 121) (L' := [.ref 48, .int x1, .int x2, .int x3, .int x4, .int x5, .int (M 57 j1), w7, w8, w9, w10, w11]) (S' := [.int (((nI 6) * (x4 + (nI 1))) + x5), .ref 58]) (M' := M) rfl ?_
    obtain ⟨j2, hj1, hj2, h⟩ := h
    refine vm_WM.ald (n := 372) (jj := j2) 68 rfl (Or.inl ⟨rfl, rfl⟩) (by decide) rfl hj1 hj2 ?_
    refine vm_WM.seq 69 3 (pc' := 127) (L' := [.ref 48, .int x1, .int x2, .int x3, .int x4, .int x5, .int (M 57 j1), .int (M 58 j2), .int (nI 0), w9, w10, w11]) (S' := []) (M' := M) rfl ?_
    exact h
  · replace h := h.2 hc
    refine vm_WM.seq 153 2 (pc' := 70) (L' := [.ref 48, .int x1, .int x2, .int x3, .int (x4 + (Int32.ofInt (-1))), .int x5, w6, w7, w8, w9, w10, w11]) (S' := []) (M' := M) rfl ?_
    exact h
theorem v_M_most_127 {X : Nat × (Nat → Int32)} {x1 : Int32} {x2 : Int32} {x3 : Int32} {x4 : Int32} {x5 : Int32} {x6 : Int32} {x7 : Int32} {x8 : Int32} {w9 : Value} {w10 : Value} {w11 : Value} {M : vm_M} {P : Int32 → vm_M → Prop} (h : (x8 < (M 52 2) → (E_M_passedIn X x5 x8 x4 M (fun v1 M2 => (v1 = (Int32.ofInt (-1000000)) → (C_M_most_127 X x1 x2 x3 x4 x5 x6 x7 (x8 + (nI 1)) (.int v1) (w10) (w11) M2 P)) ∧ (¬ (v1 = (Int32.ofInt (-1000000))) → (E_M_priceOf X x8 M2 (fun v3 M4 => ∃ j5 : Nat, (((nI 6) * v1) + x8) = nI j5 ∧ j5 < 372 ∧ (∃ j6 : Nat, (((nI 6) * v1) + x8) = nI j6 ∧ j6 < 372 ∧ ((x6 < (v3 + (M4 57 j5)) → ((x6 < (v3 + (M4 57 j5)) → (C_M_most_127 X x1 x2 x3 x4 x5 (v3 + (M4 57 j5)) ((nI 1) + (M4 58 j6)) (x8 + (nI 1)) (.int v1) (.int (v3 + (M4 57 j5))) (.int ((nI 1) + (M4 58 j6))) M4 P)) ∧ (¬ (x6 < (v3 + (M4 57 j5))) → (C_M_most_127 X x1 x2 x3 x4 x5 x6 ((nI 1) + (M4 58 j6)) (x8 + (nI 1)) (.int v1) (.int (v3 + (M4 57 j5))) (.int ((nI 1) + (M4 58 j6))) M4 P)))) ∧ (¬ (x6 < (v3 + (M4 57 j5))) → (((v3 + (M4 57 j5)) = x6 → ((((nI 1) + (M4 58 j6)) < x7 → ((x6 < (v3 + (M4 57 j5)) → (C_M_most_127 X x1 x2 x3 x4 x5 (v3 + (M4 57 j5)) ((nI 1) + (M4 58 j6)) (x8 + (nI 1)) (.int v1) (.int (v3 + (M4 57 j5))) (.int ((nI 1) + (M4 58 j6))) M4 P)) ∧ (¬ (x6 < (v3 + (M4 57 j5))) → (C_M_most_127 X x1 x2 x3 x4 x5 x6 ((nI 1) + (M4 58 j6)) (x8 + (nI 1)) (.int v1) (.int (v3 + (M4 57 j5))) (.int ((nI 1) + (M4 58 j6))) M4 P)))) ∧ (¬ (((nI 1) + (M4 58 j6)) < x7) → ((x6 < (v3 + (M4 57 j5)) → (C_M_most_127 X x1 x2 x3 x4 x5 (v3 + (M4 57 j5)) x7 (x8 + (nI 1)) (.int v1) (.int (v3 + (M4 57 j5))) (.int ((nI 1) + (M4 58 j6))) M4 P)) ∧ (¬ (x6 < (v3 + (M4 57 j5))) → (C_M_most_127 X x1 x2 x3 x4 x5 x6 x7 (x8 + (nI 1)) (.int v1) (.int (v3 + (M4 57 j5))) (.int ((nI 1) + (M4 58 j6))) M4 P)))))) ∧ (¬ ((v3 + (M4 57 j5)) = x6) → ((x6 < (v3 + (M4 57 j5)) → (C_M_most_127 X x1 x2 x3 x4 x5 (v3 + (M4 57 j5)) x7 (x8 + (nI 1)) (.int v1) (.int (v3 + (M4 57 j5))) (.int ((nI 1) + (M4 58 j6))) M4 P)) ∧ (¬ (x6 < (v3 + (M4 57 j5))) → (C_M_most_127 X x1 x2 x3 x4 x5 x6 x7 (x8 + (nI 1)) (.int v1) (.int (v3 + (M4 57 j5))) (.int ((nI 1) + (M4 58 j6))) M4 P)))))))))))))) ∧ (¬ (x8 < (M 52 2)) → (∃ j7 : Nat, (((nI 6) * x4) + x5) = nI j7 ∧ j7 < 372 ∧ (∃ j8 : Nat, (((nI 6) * x4) + x5) = nI j8 ∧ j8 < 372 ∧ (C_M_most_79 X x1 x2 x3 x4 (x5 + (nI 1)) (.int x6) (.int x7) (.int x8) (w9) (w10) (w11) (vm_u2 (vm_u2 M 57 j7 x6) 58 j8 x7) P))))) : C_M_most_127 X x1 x2 x3 x4 x5 x6 x7 x8 w9 w10 w11 M P := by
  unfold C_M_most_127
  refine vm_WM.seq 72 4 (pc' := 134) (L' := [.ref 48, .int x1, .int x2, .int x3, .int x4, .int x5, .int x6, .int x7, .int x8, w9, w10, w11]) (S' := [.int (nI 2), .ref 52, .int x8]) (M' := M) rfl ?_
  refine vm_WM.ald (n := 70) (jj := 2) 76 rfl (Or.inl ⟨rfl, rfl⟩) (by decide) rfl rfl (by decide) ?_
  refine vm_WM.if (c := x8 < (M 52 2)) (t1 := 138) (t2 := 248) (S' := []) 77 rfl rfl rfl (fun hc => ?_) (fun hc => ?_)
  · replace h := h.1 hc
    refine vm_WM.seq 78 4 (pc' := 145) (L' := [.ref 48, .int x1, .int x2, .int x3, .int x4, .int x5, .int x6, .int x7, .int x8, w9, w10, w11]) (S' := [.int x4, .int x8, .int x5, .ref 48]) (M' := M) rfl ?_
    refine vm_WM.call (a := 140) (as := [.ref 48, .int x5, .int x8, .int x4]) (rest := []) (L0 := [.ref 48, .int x5, .int x8, .int x4, .null]) 82 rfl rfl (by decide) rfl rfl ⟨rfl, Or.inr rfl, Nat.le_of_ble_eq_true rfl, Nat.le_of_ble_eq_true rfl⟩ rfl rfl rfl ?_
    refine vm_WM.theni h (fun v1 M2 h => ?_)
    show vm_WM X 151 148 [.ref 48, .int x1, .int x2, .int x3, .int x4, .int x5, .int x6, .int x7, .int x8, w9, w10, w11] [.int v1] M2 _
    refine vm_WM.seq 83 3 (pc' := 154) (L' := [.ref 48, .int x1, .int x2, .int x3, .int x4, .int x5, .int x6, .int x7, .int x8, .int v1, w10, w11]) (S' := [.int (Int32.ofInt (-1000000)), .int v1]) (M' := M2) rfl ?_
    refine vm_WM.if (c := v1 = (Int32.ofInt (-1000000))) (t1 := 242) (t2 := 157) (S' := []) 86 rfl rfl rfl (fun hc => ?_) (fun hc => ?_)
    · replace h := h.1 hc
      refine vm_WM.seq 131 2 (pc' := 127) (L' := [.ref 48, .int x1, .int x2, .int x3, .int x4, .int x5, .int x6, .int x7, .int (x8 + (nI 1)), .int v1, w10, w11]) (S' := []) (M' := M2) rfl ?_
      exact h
    · replace h := h.2 hc
      refine vm_WM.seq 87 2 (pc' := 160) (L' := [.ref 48, .int x1, .int x2, .int x3, .int x4, .int x5, .int x6, .int x7, .int x8, .int v1, w10, w11]) (S' := [.int x8, .ref 48]) (M' := M2) rfl ?_
      refine vm_WM.call (a := 137) (as := [.ref 48, .int x8]) (rest := []) (L0 := [.ref 48, .int x8]) 89 rfl rfl (by decide) rfl rfl ⟨rfl, Or.inr rfl, Nat.le_of_ble_eq_true rfl, Nat.le_of_ble_eq_true rfl⟩ rfl rfl rfl ?_
      refine vm_WM.theni h (fun v3 M4 h => ?_)
      show vm_WM X 151 163 [.ref 48, .int x1, .int x2, .int x3, .int x4, .int x5, .int x6, .int x7, .int x8, .int v1, w10, w11] [.int v3] M4 _
      refine vm_WM.seq 90 7 (pc' := 175) (L' := [.ref 48, .int x1, .int x2, .int x3, .int x4, .int x5, .int x6, .int x7, .int x8, .int v1, w10, w11]) (S' := [.int (((nI 6) * v1) + x8), .ref 57, .int v3]) (M' := M4) rfl ?_
      obtain ⟨j5, hj1, hj2, h⟩ := h
      refine vm_WM.ald (n := 372) (jj := j5) 97 rfl (Or.inl ⟨rfl, rfl⟩) (by decide) rfl hj1 hj2 ?_
      refine vm_WM.seq 98 10 (pc' := 192) (L' := [.ref 48, .int x1, .int x2, .int x3, .int x4, .int x5, .int x6, .int x7, .int x8, .int v1, .int (v3 + (M4 57 j5)), w11]) (S' := [.int (((nI 6) * v1) + x8), .ref 58, .int (nI 1)]) (M' := M4) rfl ?_
      obtain ⟨j6, hj1, hj2, h⟩ := h
      refine vm_WM.ald (n := 372) (jj := j6) 108 rfl (Or.inl ⟨rfl, rfl⟩) (by decide) rfl hj1 hj2 ?_
      refine vm_WM.seq 109 4 (pc' := 200) (L' := [.ref 48, .int x1, .int x2, .int x3, .int x4, .int x5, .int x6, .int x7, .int x8, .int v1, .int (v3 + (M4 57 j5)), .int ((nI 1) + (M4 58 j6))]) (S' := [.int x6, .int (v3 + (M4 57 j5))]) (M' := M4) rfl ?_
      refine vm_WM.if (c := x6 < (v3 + (M4 57 j5))) (t1 := 217) (t2 := 203) (S' := []) 113 rfl rfl rfl (fun hc => ?_) (fun hc => ?_)
      · replace h := h.1 hc
        refine vm_WM.seq 120 2 (pc' := 224) (L' := [.ref 48, .int x1, .int x2, .int x3, .int x4, .int x5, .int x6, .int x7, .int x8, .int v1, .int (v3 + (M4 57 j5)), .int ((nI 1) + (M4 58 j6))]) (S' := [.int ((nI 1) + (M4 58 j6))]) (M' := M4) rfl ?_
        refine vm_WM.seq 123 3 (pc' := 230) (L' := [.ref 48, .int x1, .int x2, .int x3, .int x4, .int x5, .int x6, .int ((nI 1) + (M4 58 j6)), .int x8, .int v1, .int (v3 + (M4 57 j5)), .int ((nI 1) + (M4 58 j6))]) (S' := [.int x6, .int (v3 + (M4 57 j5))]) (M' := M4) rfl ?_
        refine vm_WM.if (c := x6 < (v3 + (M4 57 j5))) (t1 := 233) (t2 := 238) (S' := []) 126 rfl rfl rfl (fun hc => ?_) (fun hc => ?_)
        · replace h := h.1 hc
          refine vm_WM.seq 127 2 (pc' := 240) (L' := [.ref 48, .int x1, .int x2, .int x3, .int x4, .int x5, .int x6, .int ((nI 1) + (M4 58 j6)), .int x8, .int v1, .int (v3 + (M4 57 j5)), .int ((nI 1) + (M4 58 j6))]) (S' := [.int (v3 + (M4 57 j5))]) (M' := M4) rfl ?_
          refine vm_WM.seq 130 3 (pc' := 127) (L' := [.ref 48, .int x1, .int x2, .int x3, .int x4, .int x5, .int (v3 + (M4 57 j5)), .int ((nI 1) + (M4 58 j6)), .int (x8 + (nI 1)), .int v1, .int (v3 + (M4 57 j5)), .int ((nI 1) + (M4 58 j6))]) (S' := []) (M' := M4) rfl ?_
          exact h
        · replace h := h.2 hc
          refine vm_WM.seq 129 4 (pc' := 127) (L' := [.ref 48, .int x1, .int x2, .int x3, .int x4, .int x5, .int x6, .int ((nI 1) + (M4 58 j6)), .int (x8 + (nI 1)), .int v1, .int (v3 + (M4 57 j5)), .int ((nI 1) + (M4 58 j6))]) (S' := []) (M' := M4) rfl ?_
          exact h
      · replace h := h.2 hc
        refine vm_WM.seq 114 2 (pc' := 207) (L' := [.ref 48, .int x1, .int x2, .int x3, .int x4, .int x5, .int x6, .int x7, .int x8, .int v1, .int (v3 + (M4 57 j5)), .int ((nI 1) + (M4 58 j6))]) (S' := [.int x6, .int (v3 + (M4 57 j5))]) (M' := M4) rfl ?_
        refine vm_WM.if (c := (v3 + (M4 57 j5)) = x6) (t1 := 210) (t2 := 222) (S' := []) 116 rfl rfl rfl (fun hc => ?_) (fun hc => ?_)
        · replace h := h.1 hc
          refine vm_WM.seq 117 2 (pc' := 214) (L' := [.ref 48, .int x1, .int x2, .int x3, .int x4, .int x5, .int x6, .int x7, .int x8, .int v1, .int (v3 + (M4 57 j5)), .int ((nI 1) + (M4 58 j6))]) (S' := [.int x7, .int ((nI 1) + (M4 58 j6))]) (M' := M4) rfl ?_
          refine vm_WM.if (c := ((nI 1) + (M4 58 j6)) < x7) (t1 := 217) (t2 := 222) (S' := []) 119 rfl rfl rfl (fun hc => ?_) (fun hc => ?_)
          · replace h := h.1 hc
            refine vm_WM.seq 120 2 (pc' := 224) (L' := [.ref 48, .int x1, .int x2, .int x3, .int x4, .int x5, .int x6, .int x7, .int x8, .int v1, .int (v3 + (M4 57 j5)), .int ((nI 1) + (M4 58 j6))]) (S' := [.int ((nI 1) + (M4 58 j6))]) (M' := M4) rfl ?_
            refine vm_WM.seq 123 3 (pc' := 230) (L' := [.ref 48, .int x1, .int x2, .int x3, .int x4, .int x5, .int x6, .int ((nI 1) + (M4 58 j6)), .int x8, .int v1, .int (v3 + (M4 57 j5)), .int ((nI 1) + (M4 58 j6))]) (S' := [.int x6, .int (v3 + (M4 57 j5))]) (M' := M4) rfl ?_
            refine vm_WM.if (c := x6 < (v3 + (M4 57 j5))) (t1 := 233) (t2 := 238) (S' := []) 126 rfl rfl rfl (fun hc => ?_) (fun hc => ?_)
            · replace h := h.1 hc
              refine vm_WM.seq 127 2 (pc' := 240) (L' := [.ref 48, .int x1, .int x2, .int x3, .int x4, .int x5, .int x6, .int ((nI 1) + (M4 58 j6)), .int x8, .int v1, .int (v3 + (M4 57 j5)), .int ((nI 1) + (M4 58 j6))]) (S' := [.int (v3 + (M4 57 j5))]) (M' := M4) rfl ?_
              refine vm_WM.seq 130 3 (pc' := 127) (L' := [.ref 48, .int x1, .int x2, .int x3, .int x4, .int x5, .int (v3 + (M4 57 j5)), .int ((nI 1) + (M4 58 j6)), .int (x8 + (nI 1)), .int v1, .int (v3 + (M4 57 j5)), .int ((nI 1) + (M4 58 j6))]) (S' := []) (M' := M4) rfl ?_
              exact h
            · replace h := h.2 hc
              refine vm_WM.seq 129 4 (pc' := 127) (L' := [.ref 48, .int x1, .int x2, .int x3, .int x4, .int x5, .int x6, .int ((nI 1) + (M4 58 j6)), .int (x8 + (nI 1)), .int v1, .int (v3 + (M4 57 j5)), .int ((nI 1) + (M4 58 j6))]) (S' := []) (M' := M4) rfl ?_
              exact h
          · replace h := h.2 hc
            refine vm_WM.seq 122 4 (pc' := 230) (L' := [.ref 48, .int x1, .int x2, .int x3, .int x4, .int x5, .int x6, .int x7, .int x8, .int v1, .int (v3 + (M4 57 j5)), .int ((nI 1) + (M4 58 j6))]) (S' := [.int x6, .int (v3 + (M4 57 j5))]) (M' := M4) rfl ?_
            refine vm_WM.if (c := x6 < (v3 + (M4 57 j5))) (t1 := 233) (t2 := 238) (S' := []) 126 rfl rfl rfl (fun hc => ?_) (fun hc => ?_)
            · replace h := h.1 hc
              refine vm_WM.seq 127 2 (pc' := 240) (L' := [.ref 48, .int x1, .int x2, .int x3, .int x4, .int x5, .int x6, .int x7, .int x8, .int v1, .int (v3 + (M4 57 j5)), .int ((nI 1) + (M4 58 j6))]) (S' := [.int (v3 + (M4 57 j5))]) (M' := M4) rfl ?_
              refine vm_WM.seq 130 3 (pc' := 127) (L' := [.ref 48, .int x1, .int x2, .int x3, .int x4, .int x5, .int (v3 + (M4 57 j5)), .int x7, .int (x8 + (nI 1)), .int v1, .int (v3 + (M4 57 j5)), .int ((nI 1) + (M4 58 j6))]) (S' := []) (M' := M4) rfl ?_
              exact h
            · replace h := h.2 hc
              refine vm_WM.seq 129 4 (pc' := 127) (L' := [.ref 48, .int x1, .int x2, .int x3, .int x4, .int x5, .int x6, .int x7, .int (x8 + (nI 1)), .int v1, .int (v3 + (M4 57 j5)), .int ((nI 1) + (M4 58 j6))]) (S' := []) (M' := M4) rfl ?_
              exact h
        · replace h := h.2 hc
          refine vm_WM.seq 122 4 (pc' := 230) (L' := [.ref 48, .int x1, .int x2, .int x3, .int x4, .int x5, .int x6, .int x7, .int x8, .int v1, .int (v3 + (M4 57 j5)), .int ((nI 1) + (M4 58 j6))]) (S' := [.int x6, .int (v3 + (M4 57 j5))]) (M' := M4) rfl ?_
          refine vm_WM.if (c := x6 < (v3 + (M4 57 j5))) (t1 := 233) (t2 := 238) (S' := []) 126 rfl rfl rfl (fun hc => ?_) (fun hc => ?_)
          · replace h := h.1 hc
            refine vm_WM.seq 127 2 (pc' := 240) (L' := [.ref 48, .int x1, .int x2, .int x3, .int x4, .int x5, .int x6, .int x7, .int x8, .int v1, .int (v3 + (M4 57 j5)), .int ((nI 1) + (M4 58 j6))]) (S' := [.int (v3 + (M4 57 j5))]) (M' := M4) rfl ?_
            refine vm_WM.seq 130 3 (pc' := 127) (L' := [.ref 48, .int x1, .int x2, .int x3, .int x4, .int x5, .int (v3 + (M4 57 j5)), .int x7, .int (x8 + (nI 1)), .int v1, .int (v3 + (M4 57 j5)), .int ((nI 1) + (M4 58 j6))]) (S' := []) (M' := M4) rfl ?_
            exact h
          · replace h := h.2 hc
            refine vm_WM.seq 129 4 (pc' := 127) (L' := [.ref 48, .int x1, .int x2, .int x3, .int x4, .int x5, .int x6, .int x7, .int (x8 + (nI 1)), .int v1, .int (v3 + (M4 57 j5)), .int ((nI 1) + (M4 58 j6))]) (S' := []) (M' := M4) rfl ?_
            exact h
  · replace h := h.2 hc
    refine vm_WM.seq 133 8 (pc' := 262) (L' := [.ref 48, .int x1, .int x2, .int x3, .int x4, .int x5, .int x6, .int x7, .int x8, w9, w10, w11]) (S' := [.int x6, .int (((nI 6) * x4) + x5), .ref 57]) (M' := M) rfl ?_
    obtain ⟨j7, hj1, hj2, h⟩ := h
    refine vm_WM.ast (n := 372) (jj := j7) 141 rfl rfl hj1 hj2 ?_
    refine vm_WM.seq 142 8 (pc' := 277) (L' := [.ref 48, .int x1, .int x2, .int x3, .int x4, .int x5, .int x6, .int x7, .int x8, w9, w10, w11]) (S' := [.int x7, .int (((nI 6) * x4) + x5), .ref 58]) (M' := (vm_u2 M 57 j7 x6)) rfl ?_
    obtain ⟨j8, hj1, hj2, h⟩ := h
    refine vm_WM.ast (n := 372) (jj := j8) 150 rfl rfl hj1 hj2 ?_
    refine vm_WM.seq 151 2 (pc' := 79) (L' := [.ref 48, .int x1, .int x2, .int x3, .int x4, .int (x5 + (nI 1)), .int x6, .int x7, .int x8, w9, w10, w11]) (S' := []) (M' := (vm_u2 (vm_u2 M 57 j7 x6) 58 j8 x7)) rfl ?_
    exact h
