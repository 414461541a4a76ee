/-! walks, by wip/whole/vcgen.py -/
theorem v_M_last {X : Nat × (Nat → Int32)} {a1 : Int32} {M : vm_M} {P : Int32 → vm_M → Prop} (h : (0 < ((vm_u2 M 48 0 (nI 0)) 52 0) → (E_M_in X ((a1).toInt64) (Int64.ofNat 0) (Int64.ofNat 1) (vm_u2 M 48 0 (nI 0)) (fun v1 M2 => (v1 = 0 → (P (Int32.ofInt (-1000001)) M2)) ∧ (¬ (v1 = 0) → (E_M_lastOne X  M2 (fun v3 M4 => (a1 = 0 → (P v3 M4)) ∧ (¬ (a1 = 0) → (P (M4 48 22) M4)))))))) ∧ (¬ (0 < ((vm_u2 M 48 0 (nI 0)) 52 0)) → (P (Int32.ofInt (-1000002)) (vm_u2 M 48 0 (nI 0))))) : E_M_last X a1 M P := by
  unfold E_M_last
  refine vm_WM.seq 0 4 (pc' := 6) (L' := [.ref 48, .int a1, .null]) (S' := [.ref 48]) (M' := (vm_u2 M 48 0 (nI 0))) rfl ?_
  refine vm_WM.call (a := 133) (as := [.ref 48]) (rest := []) (L0 := [.ref 48]) 4 rfl rfl (by decide) rfl rfl ⟨rfl, Or.inr rfl, Nat.le_of_ble_eq_true rfl, Nat.le_of_ble_eq_true rfl⟩ rfl rfl rfl ?_
  refine vm_WM.seq 0 3 (pc' := 5) (L' := [.ref 48]) (S' := [.int (nI 0), .ref 52]) (M' := (vm_u2 M 48 0 (nI 0))) rfl ?_
  refine vm_WM.ald (n := 70) (jj := 0) 3 rfl (Or.inl ⟨rfl, rfl⟩) (by decide) rfl rfl (by decide) ?_
  refine vm_WM.if (c := 0 < ((vm_u2 M 48 0 (nI 0)) 52 0)) (t1 := 9) (t2 := 13) (S' := []) 4 rfl rfl rfl (fun hc => ?_) (fun hc => ?_)
  · replace h := h.1 hc
    refine vm_WM.seq 5 2 (pc' := 14) (L' := [.ref 48]) (S' := [.int (nI 1)]) (M' := (vm_u2 M 48 0 (nI 0))) rfl ?_
    refine vm_WM.ret (r := some (.int (nI 1))) 8 rfl rfl rfl ?_
    show vm_WM X 153 9 [.ref 48, .int a1, .null] [.int (nI 1)] (vm_u2 M 48 0 (nI 0)) _
    refine vm_WM.seq 5 1 (pc' := 15) (L' := [.ref 48, .int a1, .null]) (S' := []) (M' := (vm_u2 M 48 0 (nI 0))) rfl ?_
    refine vm_WM.seq 8 4 (pc' := 19) (L' := [.ref 48, .int a1, .null]) (S' := [.long (Int64.ofNat 1), .long (Int64.ofNat 0), .long ((a1).toInt64)]) (M' := (vm_u2 M 48 0 (nI 0))) rfl ?_
    refine vm_WM.call (a := 108) (as := [.long ((a1).toInt64), .long (Int64.ofNat 0), .long (Int64.ofNat 1)]) (rest := []) (L0 := [.long ((a1).toInt64), .null, .long (Int64.ofNat 0), .null, .long (Int64.ofNat 1), .null]) 12 rfl rfl (by decide) rfl rfl ⟨rfl, Or.inl rfl, Nat.le_of_ble_eq_true rfl, Nat.le_of_ble_eq_true rfl⟩ rfl rfl rfl ?_
    refine vm_WM.theni h (fun v1 M2 h => ?_)
    show vm_WM X 153 22 [.ref 48, .int a1, .null] [.int v1] M2 _
    refine vm_WM.if (c := v1 = 0) (t1 := 25) (t2 := 28) (S' := []) 13 rfl rfl rfl (fun hc => ?_) (fun hc => ?_)
    · replace h := h.1 hc
      refine vm_WM.seq 14 1 (pc' := 27) (L' := [.ref 48, .int a1, .null]) (S' := [.int (Int32.ofInt (-1000001))]) (M' := M2) rfl ?_
      exact vm_WM.ret (r := some (.int (Int32.ofInt (-1000001)))) 15 rfl rfl rfl ⟨_, rfl, h⟩
    · replace h := h.2 hc
      refine vm_WM.seq 16 1 (pc' := 29) (L' := [.ref 48, .int a1, .null]) (S' := [.ref 48]) (M' := M2) rfl ?_
      refine vm_WM.call (a := 152) (as := [.ref 48]) (rest := []) (L0 := [.ref 48, .null, .null, .null, .null]) 17 rfl rfl (by decide) rfl rfl ⟨rfl, Or.inr rfl, Nat.le_of_ble_eq_true rfl, Nat.le_of_ble_eq_true rfl⟩ rfl rfl rfl ?_
      refine vm_WM.theni h (fun v3 M4 h => ?_)
      show vm_WM X 153 32 [.ref 48, .int a1, .null] [.int v3] M4 _
      refine vm_WM.seq 18 2 (pc' := 34) (L' := [.ref 48, .int a1, .int v3]) (S' := [.int a1]) (M' := M4) rfl ?_
      refine vm_WM.if (c := a1 = 0) (t1 := 37) (t2 := 41) (S' := []) 20 rfl rfl rfl (fun hc => ?_) (fun hc => ?_)
      · replace h := h.1 hc
        refine vm_WM.seq 21 2 (pc' := 45) (L' := [.ref 48, .int a1, .int v3]) (S' := [.int v3]) (M' := M4) rfl ?_
        exact vm_WM.ret (r := some (.int v3)) 25 rfl rfl rfl ⟨_, rfl, h⟩
      · replace h := h.2 hc
        refine vm_WM.seq 23 2 (pc' := 45) (L' := [.ref 48, .int a1, .int v3]) (S' := [.int (M4 48 22)]) (M' := M4) rfl ?_
        exact vm_WM.ret (r := some (.int (M4 48 22))) 25 rfl rfl rfl ⟨_, rfl, h⟩
  · replace h := h.2 hc
    refine vm_WM.seq 7 1 (pc' := 14) (L' := [.ref 48]) (S' := [.int (nI 0)]) (M' := (vm_u2 M 48 0 (nI 0))) rfl ?_
    refine vm_WM.ret (r := some (.int (nI 0))) 8 rfl rfl rfl ?_
    show vm_WM X 153 9 [.ref 48, .int a1, .null] [.int (nI 0)] (vm_u2 M 48 0 (nI 0)) _
    refine vm_WM.seq 5 2 (pc' := 14) (L' := [.ref 48, .int a1, .null]) (S' := [.int (Int32.ofInt (-1000002))]) (M' := (vm_u2 M 48 0 (nI 0))) rfl ?_
    exact vm_WM.ret (r := some (.int (Int32.ofInt (-1000002)))) 7 rfl rfl rfl ⟨_, rfl, h⟩
theorem v_M_crow {X : Nat × (Nat → Int32)} {a1 : Int32} {M : vm_M} {P : Int32 → vm_M → Prop} (h : E_M_isTrader X a1 (vm_u2 M 48 0 (nI 0)) (fun v1 M2 => (v1 = 0 → (P (Int32.ofInt (-1000001)) M2)) ∧ (¬ (v1 = 0) → (C_M_crow_30 X a1 (M2 52 0) (Int32.ofInt (-1000000)) (nI 60) M2 P)))) : E_M_crow X a1 M P := by
  unfold E_M_crow
  refine vm_WM.seq 0 5 (pc' := 7) (L' := [.ref 48, .int a1, .null, .null, .null]) (S' := [.int a1, .ref 48]) (M' := (vm_u2 M 48 0 (nI 0))) rfl ?_
  refine vm_WM.call (a := 134) (as := [.ref 48, .int a1]) (rest := []) (L0 := [.ref 48, .int a1]) 5 rfl rfl (by decide) rfl rfl ⟨rfl, Or.inr rfl, Nat.le_of_ble_eq_true rfl, Nat.le_of_ble_eq_true rfl⟩ rfl rfl rfl ?_
  refine vm_WM.theni h (fun v1 M2 h => ?_)
  show vm_WM X 154 10 [.ref 48, .int a1, .null, .null, .null] [.int v1] M2 _
  refine vm_WM.if (c := v1 = 0) (t1 := 13) (t2 := 16) (S' := []) 6 rfl rfl rfl (fun hc => ?_) (fun hc => ?_)
  · replace h := h.1 hc
    refine vm_WM.seq 7 1 (pc' := 15) (L' := [.ref 48, .int a1, .null, .null, .null]) (S' := [.int (Int32.ofInt (-1000001))]) (M' := M2) rfl ?_
    exact vm_WM.ret (r := some (.int (Int32.ofInt (-1000001)))) 8 rfl rfl rfl ⟨_, rfl, h⟩
  · replace h := h.2 hc
    refine vm_WM.seq 9 3 (pc' := 21) (L' := [.ref 48, .int a1, .null, .null, .null]) (S' := [.int (nI 0), .ref 52]) (M' := M2) rfl ?_
    refine vm_WM.ald (n := 70) (jj := 0) 12 rfl (Or.inl ⟨rfl, rfl⟩) (by decide) rfl rfl (by decide) ?_
    refine vm_WM.seq 13 5 (pc' := 30) (L' := [.ref 48, .int a1, .int (M2 52 0), .int (Int32.ofInt (-1000000)), .int (nI 60)]) (S' := []) (M' := M2) rfl ?_
    exact h
theorem v_M_crow_30 {X : Nat × (Nat → Int32)} {x1 : Int32} {x2 : Int32} {x3 : Int32} {x4 : Int32} {M : vm_M} {P : Int32 → vm_M → Prop} (h : (0 < x4 → (E_M_lastOne X  (vm_u2 M 52 0 x4) (fun v1 M2 => (v1 = x1 → (C_M_crow_30 X x1 x2 x4 (x4 + (Int32.ofInt (-1))) M2 P)) ∧ (¬ (v1 = x1) → (C_M_crow_30 X x1 x2 x3 (x4 + (Int32.ofInt (-1))) M2 P))))) ∧ (¬ (0 < x4) → (P x3 (vm_u2 M 52 0 x2)))) : C_M_crow_30 X x1 x2 x3 x4 M P := by
  unfold C_M_crow_30
  refine vm_WM.seq 18 1 (pc' := 32) (L' := [.ref 48, .int x1, .int x2, .int x3, .int x4]) (S' := [.int x4]) (M' := M) rfl ?_
  refine vm_WM.if (c := 0 < x4) (t1 := 35) (t2 := 64) (S' := []) 19 rfl rfl rfl (fun hc => ?_) (fun hc => ?_)
  · replace h := h.1 hc
    refine vm_WM.seq 20 4 (pc' := 42) (L' := [.ref 48, .int x1, .int x2, .int x3, .int x4]) (S' := [.int x4, .int (nI 0), .ref 52]) (M' := M) rfl ?_
    refine vm_WM.ast (n := 70) (jj := 0) 24 rfl rfl rfl (by decide) ?_
    refine vm_WM.seq 25 1 (pc' := 44) (L' := [.ref 48, .int x1, .int x2, .int x3, .int x4]) (S' := [.ref 48]) (M' := (vm_u2 M 52 0 x4)) rfl ?_
    refine vm_WM.call (a := 152) (as := [.ref 48]) (rest := []) (L0 := [.ref 48, .null, .null, .null, .null]) 26 rfl rfl (by decide) rfl rfl ⟨rfl, Or.inr rfl, Nat.le_of_ble_eq_true rfl, Nat.le_of_ble_eq_true rfl⟩ rfl rfl rfl ?_
    refine vm_WM.theni h (fun v1 M2 h => ?_)
    show vm_WM X 154 47 [.ref 48, .int x1, .int x2, .int x3, .int x4] [.int v1] M2 _
    refine vm_WM.seq 27 1 (pc' := 48) (L' := [.ref 48, .int x1, .int x2, .int x3, .int x4]) (S' := [.int x1, .int v1]) (M' := M2) rfl ?_
    refine vm_WM.if (c := v1 = x1) (t1 := 51) (t2 := 56) (S' := []) 28 rfl rfl rfl (fun hc => ?_) (fun hc => ?_)
    · replace h := h.1 hc
      refine vm_WM.seq 29 2 (pc' := 57) (L' := [.ref 48, .int x1, .int x2, .int x3, .int x4]) (S' := [.int x4]) (M' := M2) rfl ?_
      refine vm_WM.seq 32 3 (pc' := 30) (L' := [.ref 48, .int x1, .int x2, .int x4, .int (x4 + (Int32.ofInt (-1)))]) (S' := []) (M' := M2) rfl ?_
      exact h
    · replace h := h.2 hc
      refine vm_WM.seq 31 4 (pc' := 30) (L' := [.ref 48, .int x1, .int x2, .int x3, .int (x4 + (Int32.ofInt (-1)))]) (S' := []) (M' := M2) rfl ?_
      exact h
  · replace h := h.2 hc
    refine vm_WM.seq 35 4 (pc' := 70) (L' := [.ref 48, .int x1, .int x2, .int x3, .int x4]) (S' := [.int x2, .int (nI 0), .ref 52]) (M' := M) rfl ?_
    refine vm_WM.ast (n := 70) (jj := 0) 39 rfl rfl rfl (by decide) ?_
    refine vm_WM.seq 40 1 (pc' := 72) (L' := [.ref 48, .int x1, .int x2, .int x3, .int x4]) (S' := [.int x3]) (M' := (vm_u2 M 52 0 x2)) rfl ?_
    exact vm_WM.ret (r := some (.int x3)) 41 rfl rfl rfl ⟨_, rfl, h⟩
theorem v_M_where {X : Nat × (Nat → Int32)} {a1 : Int32} {a2 : Int32} {a3 : Int32} {a4 : Int32} {M : vm_M} {P : Int32 → vm_M → Prop} (h : (0 < ((vm_u2 M 48 0 (nI 0)) 52 0) → (E_M_isRow X a1 (vm_u2 M 48 0 (nI 0)) (fun v1 M2 => (v1 = 0 → (P (Int32.ofInt (-1000001)) M2)) ∧ (¬ (v1 = 0) → (E_M_in X ((a3).toInt64) (Int64.ofNat 0) (Int64.ofInt 10) M2 (fun v3 M4 => (v3 = 0 → (P (Int32.ofInt (-1000001)) M4)) ∧ (¬ (v3 = 0) → (E_M_isMinute X a4 M4 (fun v5 M6 => (v5 = 0 → (P (Int32.ofInt (-1000001)) M6)) ∧ (¬ (v5 = 0) → (∃ j7 : Nat, a1 = nI j7 ∧ j7 < 8 ∧ (((M6 49 j7) < 0 → (P ((Int32.ofInt (-1000010)) - (nI 1)) (vm_u2 M6 48 1 (nI 1)))) ∧ (¬ ((M6 49 j7) < 0) → ((a2 < 0 → (P ((Int32.ofInt (-1000010)) - (nI 2)) (vm_u2 M6 48 1 (nI 2)))) ∧ (¬ (a2 < 0) → (∃ j8 : Nat, a1 = nI j8 ∧ j8 < 8 ∧ ((0 < (lg_cmp (((a2).toInt64) + ((((nI 2) * a3)).toInt64)) (((M6 50 j8)).toInt64)) → (P ((Int32.ofInt (-1000010)) - (nI 2)) (vm_u2 M6 48 1 (nI 2)))) ∧ (¬ (0 < (lg_cmp (((a2).toInt64) + ((((nI 2) * a3)).toInt64)) (((M6 50 j8)).toInt64))) → (C_M_where_91 X a1 a2 a3 a4 (nI 0) (.null) (.null) (.null) M6 P))))))))))))))))))) ∧ (¬ (0 < ((vm_u2 M 48 0 (nI 0)) 52 0)) → (P (Int32.ofInt (-1000002)) (vm_u2 M 48 0 (nI 0))))) : E_M_where X a1 a2 a3 a4 M P := by
  unfold E_M_where
  refine vm_WM.seq 0 4 (pc' := 6) (L' := [.ref 48, .int a1, .int a2, .int a3, .int a4, .null, .null, .null, .null]) (S' := [.ref 48]) (M' := (vm_u2 M 48 0 (nI 0))) rfl ?_
  refine vm_WM.call (a := 133) (as := [.ref 48]) (rest := []) (L0 := [.ref 48]) 4 rfl rfl (by decide) rfl rfl ⟨rfl, Or.inr rfl, Nat.le_of_ble_eq_true rfl, Nat.le_of_ble_eq_true rfl⟩ rfl rfl rfl ?_
  refine vm_WM.seq 0 3 (pc' := 5) (L' := [.ref 48]) (S' := [.int (nI 0), .ref 52]) (M' := (vm_u2 M 48 0 (nI 0))) rfl ?_
  refine vm_WM.ald (n := 70) (jj := 0) 3 rfl (Or.inl ⟨rfl, rfl⟩) (by decide) rfl rfl (by decide) ?_
  refine vm_WM.if (c := 0 < ((vm_u2 M 48 0 (nI 0)) 52 0)) (t1 := 9) (t2 := 13) (S' := []) 4 rfl rfl rfl (fun hc => ?_) (fun hc => ?_)
  · replace h := h.1 hc
    refine vm_WM.seq 5 2 (pc' := 14) (L' := [.ref 48]) (S' := [.int (nI 1)]) (M' := (vm_u2 M 48 0 (nI 0))) rfl ?_
    refine vm_WM.ret (r := some (.int (nI 1))) 8 rfl rfl rfl ?_
    show vm_WM X 158 9 [.ref 48, .int a1, .int a2, .int a3, .int a4, .null, .null, .null, .null] [.int (nI 1)] (vm_u2 M 48 0 (nI 0)) _
    refine vm_WM.seq 5 1 (pc' := 15) (L' := [.ref 48, .int a1, .int a2, .int a3, .int a4, .null, .null, .null, .null]) (S' := []) (M' := (vm_u2 M 48 0 (nI 0))) rfl ?_
    refine vm_WM.seq 8 1 (pc' := 16) (L' := [.ref 48, .int a1, .int a2, .int a3, .int a4, .null, .null, .null, .null]) (S' := [.int a1]) (M' := (vm_u2 M 48 0 (nI 0))) rfl ?_
    refine vm_WM.call (a := 110) (as := [.int a1]) (rest := []) (L0 := [.int a1]) 9 rfl rfl (by decide) rfl rfl ⟨rfl, Or.inl rfl, Nat.le_of_ble_eq_true rfl, Nat.le_of_ble_eq_true rfl⟩ rfl rfl rfl ?_
    refine vm_WM.theni h (fun v1 M2 h => ?_)
    show vm_WM X 158 19 [.ref 48, .int a1, .int a2, .int a3, .int a4, .null, .null, .null, .null] [.int v1] M2 _
    refine vm_WM.if (c := v1 = 0) (t1 := 42) (t2 := 22) (S' := []) 10 rfl rfl rfl (fun hc => ?_) (fun hc => ?_)
    · replace h := h.1 hc
      refine vm_WM.seq 20 1 (pc' := 44) (L' := [.ref 48, .int a1, .int a2, .int a3, .int a4, .null, .null, .null, .null]) (S' := [.int (Int32.ofInt (-1000001))]) (M' := M2) rfl ?_
      exact vm_WM.ret (r := some (.int (Int32.ofInt (-1000001)))) 21 rfl rfl rfl ⟨_, rfl, h⟩
    · replace h := h.2 hc
      refine vm_WM.seq 11 4 (pc' := 28) (L' := [.ref 48, .int a1, .int a2, .int a3, .int a4, .null, .null, .null, .null]) (S' := [.long (Int64.ofInt 10), .long (Int64.ofNat 0), .long ((a3).toInt64)]) (M' := M2) rfl ?_
      refine vm_WM.call (a := 108) (as := [.long ((a3).toInt64), .long (Int64.ofNat 0), .long (Int64.ofInt 10)]) (rest := []) (L0 := [.long ((a3).toInt64), .null, .long (Int64.ofNat 0), .null, .long (Int64.ofInt 10), .null]) 15 rfl rfl (by decide) rfl rfl ⟨rfl, Or.inl rfl, Nat.le_of_ble_eq_true rfl, Nat.le_of_ble_eq_true rfl⟩ rfl rfl rfl ?_
      refine vm_WM.theni h (fun v3 M4 h => ?_)
      show vm_WM X 158 31 [.ref 48, .int a1, .int a2, .int a3, .int a4, .null, .null, .null, .null] [.int v3] M4 _
      refine vm_WM.if (c := v3 = 0) (t1 := 42) (t2 := 34) (S' := []) 16 rfl rfl rfl (fun hc => ?_) (fun hc => ?_)
      · replace h := h.1 hc
        refine vm_WM.seq 20 1 (pc' := 44) (L' := [.ref 48, .int a1, .int a2, .int a3, .int a4, .null, .null, .null, .null]) (S' := [.int (Int32.ofInt (-1000001))]) (M' := M4) rfl ?_
        exact vm_WM.ret (r := some (.int (Int32.ofInt (-1000001)))) 21 rfl rfl rfl ⟨_, rfl, h⟩
      · replace h := h.2 hc
        refine vm_WM.seq 17 1 (pc' := 36) (L' := [.ref 48, .int a1, .int a2, .int a3, .int a4, .null, .null, .null, .null]) (S' := [.int a4]) (M' := M4) rfl ?_
        refine vm_WM.call (a := 135) (as := [.int a4]) (rest := []) (L0 := [.int a4]) 18 rfl rfl (by decide) rfl rfl ⟨rfl, Or.inl rfl, Nat.le_of_ble_eq_true rfl, Nat.le_of_ble_eq_true rfl⟩ rfl rfl rfl ?_
        refine vm_WM.theni h (fun v5 M6 h => ?_)
        show vm_WM X 158 39 [.ref 48, .int a1, .int a2, .int a3, .int a4, .null, .null, .null, .null] [.int v5] M6 _
        refine vm_WM.if (c := v5 = 0) (t1 := 42) (t2 := 45) (S' := []) 19 rfl rfl rfl (fun hc => ?_) (fun hc => ?_)
        · replace h := h.1 hc
          refine vm_WM.seq 20 1 (pc' := 44) (L' := [.ref 48, .int a1, .int a2, .int a3, .int a4, .null, .null, .null, .null]) (S' := [.int (Int32.ofInt (-1000001))]) (M' := M6) rfl ?_
          exact vm_WM.ret (r := some (.int (Int32.ofInt (-1000001)))) 21 rfl rfl rfl ⟨_, rfl, h⟩
        · replace h := h.2 hc
          refine vm_WM.seq 22 3 (pc' := 50) (L' := [.ref 48, .int a1, .int a2, .int a3, .int a4, .null, .null, .null, .null]) (S' := [.int a1, .ref 49]) (M' := M6) rfl ?_
          obtain ⟨j7, hj1, hj2, h⟩ := h
          refine vm_WM.ald (n := 8) (jj := j7) 25 rfl (Or.inl ⟨rfl, rfl⟩) (by decide) rfl hj1 hj2 ?_
          refine vm_WM.if (c := (M6 49 j7) < 0) (t1 := 54) (t2 := 60) (S' := []) 26 rfl rfl rfl (fun hc => ?_) (fun hc => ?_)
          · replace h := h.1 hc
            refine vm_WM.seq 27 2 (pc' := 56) (L' := [.ref 48, .int a1, .int a2, .int a3, .int a4, .null, .null, .null, .null]) (S' := [.int (nI 1), .ref 48]) (M' := M6) rfl ?_
            refine vm_WM.call (a := 109) (as := [.ref 48, .int (nI 1)]) (rest := []) (L0 := [.ref 48, .int (nI 1)]) 29 rfl rfl (by decide) rfl rfl ⟨rfl, Or.inr rfl, Nat.le_of_ble_eq_true rfl, Nat.le_of_ble_eq_true rfl⟩ rfl rfl rfl ?_
            refine vm_WM.seq 0 6 (pc' := 9) (L' := [.ref 48, .int (nI 1)]) (S' := [.int ((Int32.ofInt (-1000010)) - (nI 1))]) (M' := (vm_u2 M6 48 1 (nI 1))) rfl ?_
            refine vm_WM.ret (r := some (.int ((Int32.ofInt (-1000010)) - (nI 1)))) 6 rfl rfl rfl ?_
            show vm_WM X 158 59 [.ref 48, .int a1, .int a2, .int a3, .int a4, .null, .null, .null, .null] [.int ((Int32.ofInt (-1000010)) - (nI 1))] (vm_u2 M6 48 1 (nI 1)) _
            exact vm_WM.ret (r := some (.int ((Int32.ofInt (-1000010)) - (nI 1)))) 30 rfl rfl rfl ⟨_, rfl, h⟩
          · replace h := h.2 hc
            refine vm_WM.seq 31 1 (pc' := 61) (L' := [.ref 48, .int a1, .int a2, .int a3, .int a4, .null, .null, .null, .null]) (S' := [.int a2]) (M' := M6) rfl ?_
            refine vm_WM.if (c := a2 < 0) (t1 := 82) (t2 := 64) (S' := []) 32 rfl rfl rfl (fun hc => ?_) (fun hc => ?_)
            · replace h := h.1 hc
              refine vm_WM.seq 47 2 (pc' := 84) (L' := [.ref 48, .int a1, .int a2, .int a3, .int a4, .null, .null, .null, .null]) (S' := [.int (nI 2), .ref 48]) (M' := M6) rfl ?_
              refine vm_WM.call (a := 109) (as := [.ref 48, .int (nI 2)]) (rest := []) (L0 := [.ref 48, .int (nI 2)]) 49 rfl rfl (by decide) rfl rfl ⟨rfl, Or.inr rfl, Nat.le_of_ble_eq_true rfl, Nat.le_of_ble_eq_true rfl⟩ rfl rfl rfl ?_
              refine vm_WM.seq 0 6 (pc' := 9) (L' := [.ref 48, .int (nI 2)]) (S' := [.int ((Int32.ofInt (-1000010)) - (nI 2))]) (M' := (vm_u2 M6 48 1 (nI 2))) rfl ?_
              refine vm_WM.ret (r := some (.int ((Int32.ofInt (-1000010)) - (nI 2)))) 6 rfl rfl rfl ?_
              show vm_WM X 158 87 [.ref 48, .int a1, .int a2, .int a3, .int a4, .null, .null, .null, .null] [.int ((Int32.ofInt (-1000010)) - (nI 2))] (vm_u2 M6 48 1 (nI 2)) _
              exact vm_WM.ret (r := some (.int ((Int32.ofInt (-1000010)) - (nI 2)))) 50 rfl rfl rfl ⟨_, rfl, h⟩
            · replace h := h.2 hc
              refine vm_WM.seq 33 10 (pc' := 76) (L' := [.ref 48, .int a1, .int a2, .int a3, .int a4, .null, .null, .null, .null]) (S' := [.int a1, .ref 50, .long (((a2).toInt64) + ((((nI 2) * a3)).toInt64))]) (M' := M6) rfl ?_
              obtain ⟨j8, hj1, hj2, h⟩ := h
              refine vm_WM.ald (n := 8) (jj := j8) 43 rfl (Or.inl ⟨rfl, rfl⟩) (by decide) rfl hj1 hj2 ?_
              refine vm_WM.seq 44 2 (pc' := 79) (L' := [.ref 48, .int a1, .int a2, .int a3, .int a4, .null, .null, .null, .null]) (S' := [.int (lg_cmp (((a2).toInt64) + ((((nI 2) * a3)).toInt64)) (((M6 50 j8)).toInt64))]) (M' := M6) rfl ?_
              refine vm_WM.if (c := 0 < (lg_cmp (((a2).toInt64) + ((((nI 2) * a3)).toInt64)) (((M6 50 j8)).toInt64))) (t1 := 82) (t2 := 88) (S' := []) 46 rfl rfl rfl (fun hc => ?_) (fun hc => ?_)
              · replace h := h.1 hc
                refine vm_WM.seq 47 2 (pc' := 84) (L' := [.ref 48, .int a1, .int a2, .int a3, .int a4, .null, .null, .null, .null]) (S' := [.int (nI 2), .ref 48]) (M' := M6) rfl ?_
                refine vm_WM.call (a := 109) (as := [.ref 48, .int (nI 2)]) (rest := []) (L0 := [.ref 48, .int (nI 2)]) 49 rfl rfl (by decide) rfl rfl ⟨rfl, Or.inr rfl, Nat.le_of_ble_eq_true rfl, Nat.le_of_ble_eq_true rfl⟩ rfl rfl rfl ?_
                refine vm_WM.seq 0 6 (pc' := 9) (L' := [.ref 48, .int (nI 2)]) (S' := [.int ((Int32.ofInt (-1000010)) - (nI 2))]) (M' := (vm_u2 M6 48 1 (nI 2))) rfl ?_
                refine vm_WM.ret (r := some (.int ((Int32.ofInt (-1000010)) - (nI 2)))) 6 rfl rfl rfl ?_
                show vm_WM X 158 87 [.ref 48, .int a1, .int a2, .int a3, .int a4, .null, .null, .null, .null] [.int ((Int32.ofInt (-1000010)) - (nI 2))] (vm_u2 M6 48 1 (nI 2)) _
                exact vm_WM.ret (r := some (.int ((Int32.ofInt (-1000010)) - (nI 2)))) 50 rfl rfl rfl ⟨_, rfl, h⟩
              · replace h := h.2 hc
                refine vm_WM.seq 51 2 (pc' := 91) (L' := [.ref 48, .int a1, .int a2, .int a3, .int a4, .int (nI 0), .null, .null, .null]) (S' := []) (M' := M6) rfl ?_
                exact h
  · replace h := h.2 hc
    refine vm_WM.seq 7 1 (pc' := 14) (L' := [.ref 48]) (S' := [.int (nI 0)]) (M' := (vm_u2 M 48 0 (nI 0))) rfl ?_
    refine vm_WM.ret (r := some (.int (nI 0))) 8 rfl rfl rfl ?_
    show vm_WM X 158 9 [.ref 48, .int a1, .int a2, .int a3, .int a4, .null, .null, .null, .null] [.int (nI 0)] (vm_u2 M 48 0 (nI 0)) _
    refine vm_WM.seq 5 2 (pc' := 14) (L' := [.ref 48, .int a1, .int a2, .int a3, .int a4, .null, .null, .null, .null]) (S' := [.int (Int32.ofInt (-1000002))]) (M' := (vm_u2 M 48 0 (nI 0))) rfl ?_
    exact vm_WM.ret (r := some (.int (Int32.ofInt (-1000002)))) 7 rfl rfl rfl ⟨_, rfl, h⟩
theorem v_M_where_91 {X : Nat × (Nat → Int32)} {x1 : Int32} {x2 : Int32} {x3 : Int32} {x4 : Int32} {x5 : Int32} {w6 : Value} {w7 : Value} {w8 : Value} {M : vm_M} {P : Int32 → vm_M → Prop} (h : ((nI 60) < x5 → (C_M_where_124 X x1 x2 x3 x4 (((nI 40) * x1) + x2) (nI 0) (w7) (w8) M P)) ∧ (¬ ((nI 60) < x5) → (∃ j1 : Nat, x5 = nI j1 ∧ j1 < 61 ∧ (C_M_where_91 X x1 x2 x3 x4 (x5 + (nI 1)) (w6) (w7) (w8) (vm_u2 M 59 j1 (Int32.ofInt (-1000000))) P)))) : C_M_where_91 X x1 x2 x3 x4 x5 w6 w7 w8 M P := by
  unfold C_M_where_91
  refine vm_WM.seq 53 2 (pc' := 95) (L' := [.ref 48, .int x1, .int x2, .int x3, .int x4, .int x5, w6, w7, w8]) (S' := [.int (nI 60), .int x5]) (M' := M) rfl ?_
  refine vm_WM.if (c := (nI 60) < x5) (t1 := 113) (t2 := 98) (S' := []) 55 rfl rfl rfl (fun hc => ?_) (fun hc => ?_)
  · replace h := h.1 hc
    refine vm_WM.seq 63 8 (pc' := 124) (L' := [.ref 48, .int x1, .int x2, .int x3, .int x4, .int (((nI 40) * x1) + x2), .int (nI 0), w7, w8]) (S' := []) (M' := M) rfl ?_
    exact h
  · replace h := h.2 hc
    refine vm_WM.seq 56 4 (pc' := 106) (L' := [.ref 48, .int x1, .int x2, .int x3, .int x4, .int x5, w6, w7, w8]) (S' := [.int (Int32.ofInt (-1000000)), .int x5, .ref 59]) (M' := M) rfl ?_
    obtain ⟨j1, hj1, hj2, h⟩ := h
    refine vm_WM.ast (n := 61) (jj := j1) 60 rfl rfl hj1 hj2 ?_
    refine vm_WM.seq 61 2 (pc' := 91) (L' := [.ref 48, .int x1, .int x2, .int x3, .int x4, .int (x5 + (nI 1)), w6, w7, w8]) (S' := []) (M' := (vm_u2 M 59 j1 (Int32.ofInt (-1000000)))) rfl ?_
    exact h
theorem v_M_where_124 {X : Nat × (Nat → Int32)} {x1 : Int32} {x2 : Int32} {x3 : Int32} {x4 : Int32} {x5 : Int32} {x6 : Int32} {w7 : Value} {w8 : Value} {M : vm_M} {P : Int32 → vm_M → Prop} (h : (x6 < x3 → (∃ j1 : Nat, (x5 + ((nI 2) * x6)) = nI j1 ∧ j1 < 320 ∧ (∃ j2 : Nat, ((x5 + ((nI 2) * x6)) + (nI 1)) = nI j2 ∧ j2 < 320 ∧ (E_M_isTrader X (M 51 j1) M (fun v3 M4 => (v3 = 0 → (P (Int32.ofInt (-1000001)) M4)) ∧ (¬ (v3 = 0) → (E_M_isMinute X (M 51 j2) M4 (fun v5 M6 => (v5 = 0 → (P (Int32.ofInt (-1000001)) M6)) ∧ (¬ (v5 = 0) → (∃ j7 : Nat, (M 51 j2) = nI j7 ∧ j7 < 61 ∧ (((M6 59 j7) = (Int32.ofInt (-1000000)) → (∃ j8 : Nat, (M 51 j2) = nI j8 ∧ j8 < 61 ∧ (C_M_where_124 X x1 x2 x3 x4 x5 (x6 + (nI 1)) (.int (M 51 j1)) (.int (M 51 j2)) (vm_u2 M6 59 j8 (M 51 j1)) P))) ∧ (¬ ((M6 59 j7) = (Int32.ofInt (-1000000))) → (∃ j9 : Nat, (M 51 j2) = nI j9 ∧ j9 < 61 ∧ (((M6 59 j9) = (M 51 j1) → (∃ j10 : Nat, (M 51 j2) = nI j10 ∧ j10 < 61 ∧ (C_M_where_124 X x1 x2 x3 x4 x5 (x6 + (nI 1)) (.int (M 51 j1)) (.int (M 51 j2)) (vm_u2 M6 59 j10 (M 51 j1)) P))) ∧ (¬ ((M6 59 j9) = (M 51 j1)) → (∃ j11 : Nat, (M 51 j2) = nI j11 ∧ j11 < 61 ∧ (C_M_where_124 X x1 x2 x3 x4 x5 (x6 + (nI 1)) (.int (M 51 j1)) (.int (M 51 j2)) (vm_u2 M6 59 j11 (Int32.ofInt (-1000001))) P))))))))))))))))) ∧ (¬ (x6 < x3) → (E_M_layComes X  (vm_u2 M 48 1 (nI 0)) (fun M12 => E_M_layGoesOn X  M12 (fun M13 => C_M_where_243 X x1 x2 x3 x4 x5 (nI 0) (nI 0) (w8) M13 P))))) : C_M_where_124 X x1 x2 x3 x4 x5 x6 w7 w8 M P := by
  unfold C_M_where_124
  refine vm_WM.seq 71 2 (pc' := 127) (L' := [.ref 48, .int x1, .int x2, .int x3, .int x4, .int x5, .int x6, w7, w8]) (S' := [.int x3, .int x6]) (M' := M) rfl ?_
  refine vm_WM.if (c := x6 < x3) (t1 := 130) (t2 := 224) (S' := []) 73 rfl rfl rfl (fun hc => ?_) (fun hc => ?_)
  · replace h := h.1 hc
    refine vm_WM.seq 74 7 (pc' := 141) (L' := [.ref 48, .int x1, .int x2, .int x3, .int x4, .int x5, .int x6, w7, w8]) (S' := [.int (x5 + ((nI 2) * x6)), .ref 51]) (M' := M) rfl ?_
    obtain ⟨j1, hj1, hj2, h⟩ := h
    refine vm_WM.ald (n := 320) (jj := j1) 81 rfl (Or.inl ⟨rfl, rfl⟩) (by decide) rfl hj1 hj2 ?_
    refine vm_WM.seq 82 10 (pc' := 157) (L' := [.ref 48, .int x1, .int x2, .int x3, .int x4, .int x5, .int x6, .int (M 51 j1), w8]) (S' := [.int ((x5 + ((nI 2) * x6)) + (nI 1)), .ref 51]) (M' := M) rfl ?_
    obtain ⟨j2, hj1, hj2, h⟩ := h
    refine vm_WM.ald (n := 320) (jj := j2) 92 rfl (Or.inl ⟨rfl, rfl⟩) (by decide) rfl hj1 hj2 ?_
    refine vm_WM.seq 93 3 (pc' := 163) (L' := [.ref 48, .int x1, .int x2, .int x3, .int x4, .int x5, .int x6, .int (M 51 j1), .int (M 51 j2)]) (S' := [.int (M 51 j1), .ref 48]) (M' := M) rfl ?_
    refine vm_WM.call (a := 134) (as := [.ref 48, .int (M 51 j1)]) (rest := []) (L0 := [.ref 48, .int (M 51 j1)]) 96 rfl rfl (by decide) rfl rfl ⟨rfl, Or.inr rfl, Nat.le_of_ble_eq_true rfl, Nat.le_of_ble_eq_true rfl⟩ rfl rfl rfl ?_
    refine vm_WM.theni h (fun v3 M4 h => ?_)
    show vm_WM X 158 166 [.ref 48, .int x1, .int x2, .int x3, .int x4, .int x5, .int x6, .int (M 51 j1), .int (M 51 j2)] [.int v3] M4 _
    refine vm_WM.if (c := v3 = 0) (t1 := 177) (t2 := 169) (S' := []) 97 rfl rfl rfl (fun hc => ?_) (fun hc => ?_)
    · replace h := h.1 hc
      refine vm_WM.seq 101 1 (pc' := 179) (L' := [.ref 48, .int x1, .int x2, .int x3, .int x4, .int x5, .int x6, .int (M 51 j1), .int (M 51 j2)]) (S' := [.int (Int32.ofInt (-1000001))]) (M' := M4) rfl ?_
      exact vm_WM.ret (r := some (.int (Int32.ofInt (-1000001)))) 102 rfl rfl rfl ⟨_, rfl, h⟩
    · replace h := h.2 hc
      refine vm_WM.seq 98 1 (pc' := 171) (L' := [.ref 48, .int x1, .int x2, .int x3, .int x4, .int x5, .int x6, .int (M 51 j1), .int (M 51 j2)]) (S' := [.int (M 51 j2)]) (M' := M4) rfl ?_
      refine vm_WM.call (a := 135) (as := [.int (M 51 j2)]) (rest := []) (L0 := [.int (M 51 j2)]) 99 rfl rfl (by decide) rfl rfl ⟨rfl, Or.inl rfl, Nat.le_of_ble_eq_true rfl, Nat.le_of_ble_eq_true rfl⟩ rfl rfl rfl ?_
      refine vm_WM.theni h (fun v5 M6 h => ?_)
      show vm_WM X 158 174 [.ref 48, .int x1, .int x2, .int x3, .int x4, .int x5, .int x6, .int (M 51 j1), .int (M 51 j2)] [.int v5] M6 _
      refine vm_WM.if (c := v5 = 0) (t1 := 177) (t2 := 180) (S' := []) 100 rfl rfl rfl (fun hc => ?_) (fun hc => ?_)
      · replace h := h.1 hc
        refine vm_WM.seq 101 1 (pc' := 179) (L' := [.ref 48, .int x1, .int x2, .int x3, .int x4, .int x5, .int x6, .int (M 51 j1), .int (M 51 j2)]) (S' := [.int (Int32.ofInt (-1000001))]) (M' := M6) rfl ?_
        exact vm_WM.ret (r := some (.int (Int32.ofInt (-1000001)))) 102 rfl rfl rfl ⟨_, rfl, h⟩
      · replace h := h.2 hc
        refine vm_WM.seq 103 6 (pc' := 192) (L' := [.ref 48, .int x1, .int x2, .int x3, .int x4, .int x5, .int x6, .int (M 51 j1), .int (M 51 j2)]) (S' := [.int (M 51 j2), .ref 59, .int (M 51 j2), .ref 59]) (M' := M6) rfl ?_
        obtain ⟨j7, hj1, hj2, h⟩ := h
        refine vm_WM.ald (n := 61) (jj := j7) 109 rfl (Or.inl ⟨rfl, rfl⟩) (by decide) rfl hj1 hj2 ?_
        refine vm_WM.seq 110 1 (pc' := 195) (L' := [.ref 48, .int x1, .int x2, .int x3, .int x4, .int x5, .int x6, .int (M 51 j1), .int (M 51 j2)]) (S' := [.int (Int32.ofInt (-1000000)), .int (M6 59 j7), .int (M 51 j2), .ref 59]) (M' := M6) rfl ?_
        refine vm_WM.if (c := (M6 59 j7) = (Int32.ofInt (-1000000))) (t1 := 210) (t2 := 198) (S' := [.int (M 51 j2), .ref 59]) 111 rfl rfl rfl (fun hc => ?_) (fun hc => ?_)
        · replace h := h.1 hc
          refine vm_WM.seq 118 2 (pc' := 217) (L' := [.ref 48, .int x1, .int x2, .int x3, .int x4, .int x5, .int x6, .int (M 51 j1), .int (M 51 j2)]) (S' := [.int (M 51 j1), .int (M 51 j2), .ref 59]) (M' := M6) rfl ?_
          obtain ⟨j8, hj1, hj2, h⟩ := h
          refine vm_WM.ast (n := 61) (jj := j8) 121 rfl rfl hj1 hj2 ?_
          refine vm_WM.seq 122 2 (pc' := 124) (L' := [.ref 48, .int x1, .int x2, .int x3, .int x4, .int x5, .int (x6 + (nI 1)), .int (M 51 j1), .int (M 51 j2)]) (S' := []) (M' := (vm_u2 M6 59 j8 (M 51 j1))) rfl ?_
          exact h
        · replace h := h.2 hc
          refine vm_WM.seq 112 3 (pc' := 204) (L' := [.ref 48, .int x1, .int x2, .int x3, .int x4, .int x5, .int x6, .int (M 51 j1), .int (M 51 j2)]) (S' := [.int (M 51 j2), .ref 59, .int (M 51 j2), .ref 59]) (M' := M6) rfl ?_
          obtain ⟨j9, hj1, hj2, h⟩ := h
          refine vm_WM.ald (n := 61) (jj := j9) 115 rfl (Or.inl ⟨rfl, rfl⟩) (by decide) rfl hj1 hj2 ?_
          refine vm_WM.seq 116 1 (pc' := 207) (L' := [.ref 48, .int x1, .int x2, .int x3, .int x4, .int x5, .int x6, .int (M 51 j1), .int (M 51 j2)]) (S' := [.int (M 51 j1), .int (M6 59 j9), .int (M 51 j2), .ref 59]) (M' := M6) rfl ?_
          refine vm_WM.if (c := (M6 59 j9) = (M 51 j1)) (t1 := 210) (t2 := 215) (S' := [.int (M 51 j2), .ref 59]) 117 rfl rfl rfl (fun hc => ?_) (fun hc => ?_)
          · replace h := h.1 hc
            refine vm_WM.seq 118 2 (pc' := 217) (L' := [.ref 48, .int x1, .int x2, .int x3, .int x4, .int x5, .int x6, .int (M 51 j1), .int (M 51 j2)]) (S' := [.int (M 51 j1), .int (M 51 j2), .ref 59]) (M' := M6) rfl ?_
            obtain ⟨j10, hj1, hj2, h⟩ := h
            refine vm_WM.ast (n := 61) (jj := j10) 121 rfl rfl hj1 hj2 ?_
            refine vm_WM.seq 122 2 (pc' := 124) (L' := [.ref 48, .int x1, .int x2, .int x3, .int x4, .int x5, .int (x6 + (nI 1)), .int (M 51 j1), .int (M 51 j2)]) (S' := []) (M' := (vm_u2 M6 59 j10 (M 51 j1))) rfl ?_
            exact h
          · replace h := h.2 hc
            refine vm_WM.seq 120 1 (pc' := 217) (L' := [.ref 48, .int x1, .int x2, .int x3, .int x4, .int x5, .int x6, .int (M 51 j1), .int (M 51 j2)]) (S' := [.int (Int32.ofInt (-1000001)), .int (M 51 j2), .ref 59]) (M' := M6) rfl ?_
            obtain ⟨j11, hj1, hj2, h⟩ := h
            refine vm_WM.ast (n := 61) (jj := j11) 121 rfl rfl hj1 hj2 ?_
            refine vm_WM.seq 122 2 (pc' := 124) (L' := [.ref 48, .int x1, .int x2, .int x3, .int x4, .int x5, .int (x6 + (nI 1)), .int (M 51 j1), .int (M 51 j2)]) (S' := []) (M' := (vm_u2 M6 59 j11 (Int32.ofInt (-1000001)))) rfl ?_
            exact h
  · replace h := h.2 hc
    refine vm_WM.seq 124 4 (pc' := 230) (L' := [.ref 48, .int x1, .int x2, .int x3, .int x4, .int x5, .int x6, w7, w8]) (S' := [.ref 48]) (M' := (vm_u2 M 48 1 (nI 0))) rfl ?_
    refine vm_WM.call (a := 156) (as := [.ref 48]) (rest := []) (L0 := [.ref 48, .null, .null, .null, .null]) 128 rfl rfl (by decide) rfl rfl ⟨rfl, Or.inr rfl, Nat.le_of_ble_eq_true rfl, Nat.le_of_ble_eq_true rfl⟩ rfl rfl rfl ?_
    refine vm_WM.thenv h (fun M12 h => ?_)
    show vm_WM X 158 233 [.ref 48, .int x1, .int x2, .int x3, .int x4, .int x5, .int x6, w7, w8] [] M12 _
    refine vm_WM.seq 129 1 (pc' := 234) (L' := [.ref 48, .int x1, .int x2, .int x3, .int x4, .int x5, .int x6, w7, w8]) (S' := [.ref 48]) (M' := M12) rfl ?_
    refine vm_WM.call (a := 157) (as := [.ref 48]) (rest := []) (L0 := [.ref 48, .null, .null, .null, .null, .null, .null]) 130 rfl rfl (by decide) rfl rfl ⟨rfl, Or.inr rfl, Nat.le_of_ble_eq_true rfl, Nat.le_of_ble_eq_true rfl⟩ rfl rfl rfl ?_
    refine vm_WM.thenv h (fun M13 h => ?_)
    show vm_WM X 158 237 [.ref 48, .int x1, .int x2, .int x3, .int x4, .int x5, .int x6, w7, w8] [] M13 _
    refine vm_WM.seq 131 4 (pc' := 243) (L' := [.ref 48, .int x1, .int x2, .int x3, .int x4, .int x5, .int (nI 0), .int (nI 0), w8]) (S' := []) (M' := M13) rfl ?_
    exact h
theorem v_M_where_243 {X : Nat × (Nat → Int32)} {x1 : Int32} {x2 : Int32} {x3 : Int32} {x4 : Int32} {x5 : Int32} {x6 : Int32} {x7 : Int32} {w8 : Value} {M : vm_M} {P : Int32 → vm_M → Prop} (h : (x7 < (M 52 2) → (∃ j1 : Nat, (((nI 6) * x4) + x7) = nI j1 ∧ j1 < 366 ∧ (((M 60 j1) = 0 → (C_M_where_243 X x1 x2 x3 x4 x5 (x6 ||| (nI 0)) (x7 + (nI 1)) (w8) M P)) ∧ (¬ ((M 60 j1) = 0) → (∃ j2 : Nat, (((nI 6) * x4) + x7) = nI j2 ∧ j2 < 366 ∧ (((M 61 j2) = 0 → (C_M_where_243 X x1 x2 x3 x4 x5 (x6 ||| (nI 0)) (x7 + (nI 1)) (w8) M P)) ∧ (¬ ((M 61 j2) = 0) → (C_M_where_243 X x1 x2 x3 x4 x5 (x6 ||| ((nI 1) <<< (x7 &&& 31))) (x7 + (nI 1)) (w8) M P)))))))) ∧ (¬ (x7 < (M 52 2)) → (P x6 M))) : C_M_where_243 X x1 x2 x3 x4 x5 x6 x7 w8 M P := by
  unfold C_M_where_243
  refine vm_WM.seq 135 4 (pc' := 250) (L' := [.ref 48, .int x1, .int x2, .int x3, .int x4, .int x5, .int x6, .int x7, w8]) (S' := [.int (nI 2), .ref 52, .int x7]) (M' := M) rfl ?_
  refine vm_WM.ald (n := 70) (jj := 2) 139 rfl (Or.inl ⟨rfl, rfl⟩) (by decide) rfl rfl (by decide) ?_
  refine vm_WM.if (c := x7 < (M 52 2)) (t1 := 254) (t2 := 305) (S' := []) 140 rfl rfl rfl (fun hc => ?_) (fun hc => ?_)
  · replace h := h.1 hc
    refine vm_WM.seq 141 8 (pc' := 268) (L' := [.ref 48, .int x1, .int x2, .int x3, .int x4, .int x5, .int x6, .int x7, w8]) (S' := [.int (((nI 6) * x4) + x7), .ref 60, .int x6]) (M' := M) rfl ?_
    obtain ⟨j1, hj1, hj2, h⟩ := h
    refine vm_WM.ald (n := 366) (jj := j1) 149 rfl (Or.inr ⟨rfl, Or.inr rfl⟩) (by decide) rfl hj1 hj2 ?_
    refine vm_WM.if (c := (M 60 j1) = 0) (t1 := 295) (t2 := 272) (S' := [.int x6]) 150 rfl rfl rfl (fun hc => ?_) (fun hc => ?_)
    · replace h := h.1 hc
      refine vm_WM.seq 164 5 (pc' := 243) (L' := [.ref 48, .int x1, .int x2, .int x3, .int x4, .int x5, .int (x6 ||| (nI 0)), .int (x7 + (nI 1)), w8]) (S' := []) (M' := M) rfl ?_
      exact h
    · replace h := h.2 hc
      refine vm_WM.seq 151 7 (pc' := 284) (L' := [.ref 48, .int x1, .int x2, .int x3, .int x4, .int x5, .int x6, .int x7, w8]) (S' := [.int (((nI 6) * x4) + x7), .ref 61, .int x6]) (M' := M) rfl ?_
      obtain ⟨j2, hj1, hj2, h⟩ := h
      refine vm_WM.ald (n := 366) (jj := j2) 158 rfl (Or.inr ⟨rfl, Or.inr rfl⟩) (by decide) rfl hj1 hj2 ?_
      refine vm_WM.if (c := (M 61 j2) = 0) (t1 := 295) (t2 := 288) (S' := [.int x6]) 159 rfl rfl rfl (fun hc => ?_) (fun hc => ?_)
      · replace h := h.1 hc
        refine vm_WM.seq 164 5 (pc' := 243) (L' := [.ref 48, .int x1, .int x2, .int x3, .int x4, .int x5, .int (x6 ||| (nI 0)), .int (x7 + (nI 1)), w8]) (S' := []) (M' := M) rfl ?_
        exact h
      · replace h := h.2 hc
        refine vm_WM.seq 160 4 (pc' := 296) (L' := [.ref 48, .int x1, .int x2, .int x3, .int x4, .int x5, .int x6, .int x7, w8]) (S' := [.int ((nI 1) <<< (x7 &&& 31)), .int x6]) (M' := M) rfl ?_
        refine vm_WM.seq 165 4 (pc' := 243) (L' := [.ref 48, .int x1, .int x2, .int x3, .int x4, .int x5, .int (x6 ||| ((nI 1) <<< (x7 &&& 31))), .int (x7 + (nI 1)), w8]) (S' := []) (M' := M) rfl ?_
        exact h
  · replace h := h.2 hc
    refine vm_WM.seq 169 1 (pc' := 307) (L' := [.ref 48, .int x1, .int x2, .int x3, .int x4, .int x5, .int x6, .int x7, w8]) (S' := [.int x6]) (M' := M) rfl ?_
    exact vm_WM.ret (r := some (.int x6)) 170 rfl rfl rfl ⟨_, rfl, h⟩
theorem v_M_image {X : Nat × (Nat → Int32)} {a1 : Int32} {M : vm_M} {P : Int32 → vm_M → Prop} (h : E_M_in X ((a1).toInt64) (Int64.ofNat 0) (Int64.ofNat 1) (vm_u2 M 48 0 (nI 0)) (fun v1 M2 => (v1 = 0 → (P (Int32.ofInt (-1000001)) M2)) ∧ (¬ (v1 = 0) → ((0 < (M2 52 0) → (C_M_image_30 X a1 (nI 0) M2 P)) ∧ (¬ (0 < (M2 52 0)) → (P (Int32.ofInt (-1000002)) M2)))))) : E_M_image X a1 M P := by
  unfold E_M_image
  refine vm_WM.seq 0 7 (pc' := 9) (L' := [.ref 48, .int a1, .null]) (S' := [.long (Int64.ofNat 1), .long (Int64.ofNat 0), .long ((a1).toInt64)]) (M' := (vm_u2 M 48 0 (nI 0))) rfl ?_
  refine vm_WM.call (a := 108) (as := [.long ((a1).toInt64), .long (Int64.ofNat 0), .long (Int64.ofNat 1)]) (rest := []) (L0 := [.long ((a1).toInt64), .null, .long (Int64.ofNat 0), .null, .long (Int64.ofNat 1), .null]) 7 rfl rfl (by decide) rfl rfl ⟨rfl, Or.inl rfl, Nat.le_of_ble_eq_true rfl, Nat.le_of_ble_eq_true rfl⟩ rfl rfl rfl ?_
  refine vm_WM.theni h (fun v1 M2 h => ?_)
  show vm_WM X 159 12 [.ref 48, .int a1, .null] [.int v1] M2 _
  refine vm_WM.if (c := v1 = 0) (t1 := 15) (t2 := 18) (S' := []) 8 rfl rfl rfl (fun hc => ?_) (fun hc => ?_)
  · replace h := h.1 hc
    refine vm_WM.seq 9 1 (pc' := 17) (L' := [.ref 48, .int a1, .null]) (S' := [.int (Int32.ofInt (-1000001))]) (M' := M2) rfl ?_
    exact vm_WM.ret (r := some (.int (Int32.ofInt (-1000001)))) 10 rfl rfl rfl ⟨_, rfl, h⟩
  · replace h := h.2 hc
    refine vm_WM.seq 11 1 (pc' := 19) (L' := [.ref 48, .int a1, .null]) (S' := [.ref 48]) (M' := M2) rfl ?_
    refine vm_WM.call (a := 133) (as := [.ref 48]) (rest := []) (L0 := [.ref 48]) 12 rfl rfl (by decide) rfl rfl ⟨rfl, Or.inr rfl, Nat.le_of_ble_eq_true rfl, Nat.le_of_ble_eq_true rfl⟩ rfl rfl rfl ?_
    refine vm_WM.seq 0 3 (pc' := 5) (L' := [.ref 48]) (S' := [.int (nI 0), .ref 52]) (M' := M2) rfl ?_
    refine vm_WM.ald (n := 70) (jj := 0) 3 rfl (Or.inl ⟨rfl, rfl⟩) (by decide) rfl rfl (by decide) ?_
    refine vm_WM.if (c := 0 < (M2 52 0)) (t1 := 9) (t2 := 13) (S' := []) 4 rfl rfl rfl (fun hc => ?_) (fun hc => ?_)
    · replace h := h.1 hc
      refine vm_WM.seq 5 2 (pc' := 14) (L' := [.ref 48]) (S' := [.int (nI 1)]) (M' := M2) rfl ?_
      refine vm_WM.ret (r := some (.int (nI 1))) 8 rfl rfl rfl ?_
      show vm_WM X 159 22 [.ref 48, .int a1, .null] [.int (nI 1)] M2 _
      refine vm_WM.seq 13 1 (pc' := 28) (L' := [.ref 48, .int a1, .null]) (S' := []) (M' := M2) rfl ?_
      refine vm_WM.seq 16 2 (pc' := 30) (L' := [.ref 48, .int a1, .int (nI 0)]) (S' := []) (M' := M2) rfl ?_
      exact h
    · replace h := h.2 hc
      refine vm_WM.seq 7 1 (pc' := 14) (L' := [.ref 48]) (S' := [.int (nI 0)]) (M' := M2) rfl ?_
      refine vm_WM.ret (r := some (.int (nI 0))) 8 rfl rfl rfl ?_
      show vm_WM X 159 22 [.ref 48, .int a1, .null] [.int (nI 0)] M2 _
      refine vm_WM.seq 13 2 (pc' := 27) (L' := [.ref 48, .int a1, .null]) (S' := [.int (Int32.ofInt (-1000002))]) (M' := M2) rfl ?_
      exact vm_WM.ret (r := some (.int (Int32.ofInt (-1000002)))) 15 rfl rfl rfl ⟨_, rfl, h⟩
theorem v_M_image_30 {X : Nat × (Nat → Int32)} {x1 : Int32} {x2 : Int32} {M : vm_M} {P : Int32 → vm_M → Prop} (h : (x2 < (nI 70) → (∃ j1 : Nat, x2 = nI j1 ∧ j1 < 70 ∧ (∃ j2 : Nat, (((nI 70) * x1) + x2) = nI j2 ∧ j2 < 140 ∧ (C_M_image_30 X x1 (x2 + (nI 1)) (vm_u2 M 63 j2 (M 52 j1)) P)))) ∧ (¬ (x2 < (nI 70)) → (∃ j3 : Nat, x1 = nI j3 ∧ j3 < 2 ∧ (P (nI 1) (vm_u2 M 62 j3 (nI 1)))))) : C_M_image_30 X x1 x2 M P := by
  unfold C_M_image_30
  refine vm_WM.seq 18 2 (pc' := 33) (L' := [.ref 48, .int x1, .int x2]) (S' := [.int (nI 70), .int x2]) (M' := M) rfl ?_
  refine vm_WM.if (c := x2 < (nI 70)) (t1 := 36) (t2 := 59) (S' := []) 20 rfl rfl rfl (fun hc => ?_) (fun hc => ?_)
  · replace h := h.1 hc
    refine vm_WM.seq 21 10 (pc' := 51) (L' := [.ref 48, .int x1, .int x2]) (S' := [.int x2, .ref 52, .int (((nI 70) * x1) + x2), .ref 63]) (M' := M) rfl ?_
    obtain ⟨j1, hj1, hj2, h⟩ := h
    refine vm_WM.ald (n := 70) (jj := j1) 31 rfl (Or.inl ⟨rfl, rfl⟩) (by decide) rfl hj1 hj2 ?_
    obtain ⟨j2, hj1, hj2, h⟩ := h
    refine vm_WM.ast (n := 140) (jj := j2) 32 rfl rfl hj1 hj2 ?_
    refine vm_WM.seq 33 2 (pc' := 30) (L' := [.ref 48, .int x1, .int (x2 + (nI 1))]) (S' := []) (M' := (vm_u2 M 63 j2 (M 52 j1))) rfl ?_
    exact h
  · replace h := h.2 hc
    refine vm_WM.seq 35 4 (pc' := 65) (L' := [.ref 48, .int x1, .int x2]) (S' := [.int (nI 1), .int x1, .ref 62]) (M' := M) rfl ?_
    obtain ⟨j3, hj1, hj2, h⟩ := h
    refine vm_WM.bst (n := 2) (t := 2) (w := (nI 1)) (jj := j3) 39 rfl (Or.inr rfl) rfl rfl hj1 hj2 ?_
    refine vm_WM.seq 40 1 (pc' := 67) (L' := [.ref 48, .int x1, .int x2]) (S' := [.int (nI 1)]) (M' := (vm_u2 M 62 j3 (nI 1))) rfl ?_
    exact vm_WM.ret (r := some (.int (nI 1))) 41 rfl rfl rfl ⟨_, rfl, h⟩
theorem v_M_restore {X : Nat × (Nat → Int32)} {a1 : Int32} {M : vm_M} {P : Int32 → vm_M → Prop} (h : E_M_in X ((a1).toInt64) (Int64.ofNat 0) (Int64.ofNat 1) (vm_u2 M 48 0 (nI 0)) (fun v1 M2 => (v1 = 0 → (P (Int32.ofInt (-1000001)) M2)) ∧ (¬ (v1 = 0) → (∃ j3 : Nat, a1 = nI j3 ∧ j3 < 2 ∧ (((M2 62 j3) = 0 → (P (Int32.ofInt (-1000002)) M2)) ∧ (¬ ((M2 62 j3) = 0) → (C_M_restore_32 X a1 (nI 0) M2 P))))))) : E_M_restore X a1 M P := by
  unfold E_M_restore
  refine vm_WM.seq 0 7 (pc' := 9) (L' := [.ref 48, .int a1, .null]) (S' := [.long (Int64.ofNat 1), .long (Int64.ofNat 0), .long ((a1).toInt64)]) (M' := (vm_u2 M 48 0 (nI 0))) rfl ?_
  refine vm_WM.call (a := 108) (as := [.long ((a1).toInt64), .long (Int64.ofNat 0), .long (Int64.ofNat 1)]) (rest := []) (L0 := [.long ((a1).toInt64), .null, .long (Int64.ofNat 0), .null, .long (Int64.ofNat 1), .null]) 7 rfl rfl (by decide) rfl rfl ⟨rfl, Or.inl rfl, Nat.le_of_ble_eq_true rfl, Nat.le_of_ble_eq_true rfl⟩ rfl rfl rfl ?_
  refine vm_WM.theni h (fun v1 M2 h => ?_)
  show vm_WM X 160 12 [.ref 48, .int a1, .null] [.int v1] M2 _
  refine vm_WM.if (c := v1 = 0) (t1 := 15) (t2 := 18) (S' := []) 8 rfl rfl rfl (fun hc => ?_) (fun hc => ?_)
  · replace h := h.1 hc
    refine vm_WM.seq 9 1 (pc' := 17) (L' := [.ref 48, .int a1, .null]) (S' := [.int (Int32.ofInt (-1000001))]) (M' := M2) rfl ?_
    exact vm_WM.ret (r := some (.int (Int32.ofInt (-1000001)))) 10 rfl rfl rfl ⟨_, rfl, h⟩
  · replace h := h.2 hc
    refine vm_WM.seq 11 3 (pc' := 23) (L' := [.ref 48, .int a1, .null]) (S' := [.int a1, .ref 62]) (M' := M2) rfl ?_
    obtain ⟨j3, hj1, hj2, h⟩ := h
    refine vm_WM.ald (n := 2) (jj := j3) 14 rfl (Or.inr ⟨rfl, Or.inr rfl⟩) (by decide) rfl hj1 hj2 ?_
    refine vm_WM.if (c := (M2 62 j3) = 0) (t1 := 27) (t2 := 30) (S' := []) 15 rfl rfl rfl (fun hc => ?_) (fun hc => ?_)
    · replace h := h.1 hc
      refine vm_WM.seq 16 1 (pc' := 29) (L' := [.ref 48, .int a1, .null]) (S' := [.int (Int32.ofInt (-1000002))]) (M' := M2) rfl ?_
      exact vm_WM.ret (r := some (.int (Int32.ofInt (-1000002)))) 17 rfl rfl rfl ⟨_, rfl, h⟩
    · replace h := h.2 hc
      refine vm_WM.seq 18 2 (pc' := 32) (L' := [.ref 48, .int a1, .int (nI 0)]) (S' := []) (M' := M2) rfl ?_
      exact h
theorem v_M_restore_32 {X : Nat × (Nat → Int32)} {x1 : Int32} {x2 : Int32} {M : vm_M} {P : Int32 → vm_M → Prop} (h : (x2 < (nI 70) → (∃ j1 : Nat, (((nI 70) * x1) + x2) = nI j1 ∧ j1 < 140 ∧ (∃ j2 : Nat, x2 = nI j2 ∧ j2 < 70 ∧ (C_M_restore_32 X x1 (x2 + (nI 1)) (vm_u2 M 52 j2 (M 63 j1)) P)))) ∧ (¬ (x2 < (nI 70)) → (P (nI 1) (vm_u2 M 48 8 (nI 0))))) : C_M_restore_32 X x1 x2 M P := by
  unfold C_M_restore_32
  refine vm_WM.seq 20 2 (pc' := 35) (L' := [.ref 48, .int x1, .int x2]) (S' := [.int (nI 70), .int x2]) (M' := M) rfl ?_
  refine vm_WM.if (c := x2 < (nI 70)) (t1 := 38) (t2 := 61) (S' := []) 22 rfl rfl rfl (fun hc => ?_) (fun hc => ?_)
  · replace h := h.1 hc
    refine vm_WM.seq 23 10 (pc' := 53) (L' := [.ref 48, .int x1, .int x2]) (S' := [.int (((nI 70) * x1) + x2), .ref 63, .int x2, .ref 52]) (M' := M) rfl ?_
    obtain ⟨j1, hj1, hj2, h⟩ := h
    refine vm_WM.ald (n := 140) (jj := j1) 33 rfl (Or.inl ⟨rfl, rfl⟩) (by decide) rfl hj1 hj2 ?_
    obtain ⟨j2, hj1, hj2, h⟩ := h
    refine vm_WM.ast (n := 70) (jj := j2) 34 rfl rfl hj1 hj2 ?_
    refine vm_WM.seq 35 2 (pc' := 32) (L' := [.ref 48, .int x1, .int (x2 + (nI 1))]) (S' := []) (M' := (vm_u2 M 52 j2 (M 63 j1))) rfl ?_
    exact h
  · replace h := h.2 hc
    refine vm_WM.seq 37 4 (pc' := 67) (L' := [.ref 48, .int x1, .int x2]) (S' := [.int (nI 1)]) (M' := (vm_u2 M 48 8 (nI 0))) rfl ?_
    exact vm_WM.ret (r := some (.int (nI 1))) 41 rfl rfl rfl ⟨_, rfl, h⟩
theorem v_M_kind {X : Nat × (Nat → Int32)} {a1 : Int32} {M : vm_M} {P : Int32 → vm_M → Prop} (h : E_M_isTrader X a1 (vm_u2 M 48 0 (nI 0)) (fun v1 M2 => (v1 = 0 → (P (Int32.ofInt (-1000001)) M2)) ∧ (¬ (v1 = 0) → (∃ j3 : Nat, (((nI 6) + ((nI 4) * a1)) + (nI 0)) = nI j3 ∧ j3 < 70 ∧ (P (M2 52 j3) M2))))) : E_M_kind X a1 M P := by
  unfold E_M_kind
  refine vm_WM.seq 0 5 (pc' := 7) (L' := [.ref 48, .int a1]) (S' := [.int a1, .ref 48]) (M' := (vm_u2 M 48 0 (nI 0))) rfl ?_
  refine vm_WM.call (a := 134) (as := [.ref 48, .int a1]) (rest := []) (L0 := [.ref 48, .int a1]) 5 rfl rfl (by decide) rfl rfl ⟨rfl, Or.inr rfl, Nat.le_of_ble_eq_true rfl, Nat.le_of_ble_eq_true rfl⟩ rfl rfl rfl ?_
  refine vm_WM.theni h (fun v1 M2 h => ?_)
  show vm_WM X 162 10 [.ref 48, .int a1] [.int v1] M2 _
  refine vm_WM.if (c := v1 = 0) (t1 := 22) (t2 := 13) (S' := []) 6 rfl rfl rfl (fun hc => ?_) (fun hc => ?_)
  · replace h := h.1 hc
    refine vm_WM.seq 12 1 (pc' := 24) (L' := [.ref 48, .int a1]) (S' := [.int (Int32.ofInt (-1000001))]) (M' := M2) rfl ?_
    exact vm_WM.ret (r := some (.int (Int32.ofInt (-1000001)))) 13 rfl rfl rfl ⟨_, rfl, h⟩
  · replace h := h.2 hc
    refine vm_WM.seq 7 3 (pc' := 16) (L' := [.ref 48, .int a1]) (S' := [.int (nI 0), .int a1, .ref 48]) (M' := M2) rfl ?_
    refine vm_WM.call (a := 136) (as := [.ref 48, .int a1, .int (nI 0)]) (rest := []) (L0 := [.ref 48, .int a1, .int (nI 0)]) 10 rfl rfl (by decide) rfl rfl ⟨rfl, Or.inr rfl, Nat.le_of_ble_eq_true rfl, Nat.le_of_ble_eq_true rfl⟩ rfl rfl rfl ?_
    refine vm_WM.seq 0 9 (pc' := 12) (L' := [.ref 48, .int a1, .int (nI 0)]) (S' := [.int (((nI 6) + ((nI 4) * a1)) + (nI 0)), .ref 52]) (M' := M2) rfl ?_
    obtain ⟨j3, hj1, hj2, h⟩ := h
    refine vm_WM.ald (n := 70) (jj := j3) 9 rfl (Or.inl ⟨rfl, rfl⟩) (by decide) rfl hj1 hj2 ?_
    refine vm_WM.ret (r := some (.int (M2 52 j3))) 10 rfl rfl rfl ?_
    show vm_WM X 162 19 [.ref 48, .int a1] [.int (M2 52 j3)] M2 _
    refine vm_WM.seq 11 1 (pc' := 24) (L' := [.ref 48, .int a1]) (S' := [.int (M2 52 j3)]) (M' := M2) rfl ?_
    exact vm_WM.ret (r := some (.int (M2 52 j3))) 13 rfl rfl rfl ⟨_, rfl, h⟩
theorem v_M_as {X : Nat × (Nat → Int32)} {a1 : Int32} {a2 : Int32} {M : vm_M} {P : Int32 → vm_M → Prop} (h : E_M_isTrader X a1 (vm_u2 M 48 0 (nI 0)) (fun v1 M2 => (v1 = 0 → (P (Int32.ofInt (-1000001)) M2)) ∧ (¬ (v1 = 0) → (E_M_in X ((a2).toInt64) (Int64.ofNat 0) (Int64.ofInt 5) M2 (fun v3 M4 => (v3 = 0 → (P (Int32.ofInt (-1000001)) M4)) ∧ (¬ (v3 = 0) → (∃ j5 : Nat, (((nI 6) + ((nI 4) * a1)) + (nI 0)) = nI j5 ∧ j5 < 70 ∧ (E_M_isOf X ((vm_u2 M4 48 1 (nI 0)) 52 j5) a2 (vm_u2 M4 48 1 (nI 0)) (fun v6 M7 => (v6 = 0 → (P ((Int32.ofInt (-1000010)) - (nI 3)) (vm_u2 M7 48 1 (nI 3)))) ∧ (¬ (v6 = 0) → (P a1 M7))))))))))) : E_M_as X a1 a2 M P := by
  unfold E_M_as
  refine vm_WM.seq 0 5 (pc' := 7) (L' := [.ref 48, .int a1, .int a2]) (S' := [.int a1, .ref 48]) (M' := (vm_u2 M 48 0 (nI 0))) rfl ?_
  refine vm_WM.call (a := 134) (as := [.ref 48, .int a1]) (rest := []) (L0 := [.ref 48, .int a1]) 5 rfl rfl (by decide) rfl rfl ⟨rfl, Or.inr rfl, Nat.le_of_ble_eq_true rfl, Nat.le_of_ble_eq_true rfl⟩ rfl rfl rfl ?_
  refine vm_WM.theni h (fun v1 M2 h => ?_)
  show vm_WM X 163 10 [.ref 48, .int a1, .int a2] [.int v1] M2 _
  refine vm_WM.if (c := v1 = 0) (t1 := 25) (t2 := 13) (S' := []) 6 rfl rfl rfl (fun hc => ?_) (fun hc => ?_)
  · replace h := h.1 hc
    refine vm_WM.seq 13 1 (pc' := 27) (L' := [.ref 48, .int a1, .int a2]) (S' := [.int (Int32.ofInt (-1000001))]) (M' := M2) rfl ?_
    exact vm_WM.ret (r := some (.int (Int32.ofInt (-1000001)))) 14 rfl rfl rfl ⟨_, rfl, h⟩
  · replace h := h.2 hc
    refine vm_WM.seq 7 4 (pc' := 19) (L' := [.ref 48, .int a1, .int a2]) (S' := [.long (Int64.ofInt 5), .long (Int64.ofNat 0), .long ((a2).toInt64)]) (M' := M2) rfl ?_
    refine vm_WM.call (a := 108) (as := [.long ((a2).toInt64), .long (Int64.ofNat 0), .long (Int64.ofInt 5)]) (rest := []) (L0 := [.long ((a2).toInt64), .null, .long (Int64.ofNat 0), .null, .long (Int64.ofInt 5), .null]) 11 rfl rfl (by decide) rfl rfl ⟨rfl, Or.inl rfl, Nat.le_of_ble_eq_true rfl, Nat.le_of_ble_eq_true rfl⟩ rfl rfl rfl ?_
    refine vm_WM.theni h (fun v3 M4 h => ?_)
    show vm_WM X 163 22 [.ref 48, .int a1, .int a2] [.int v3] M4 _
    refine vm_WM.if (c := v3 = 0) (t1 := 25) (t2 := 28) (S' := []) 12 rfl rfl rfl (fun hc => ?_) (fun hc => ?_)
    · replace h := h.1 hc
      refine vm_WM.seq 13 1 (pc' := 27) (L' := [.ref 48, .int a1, .int a2]) (S' := [.int (Int32.ofInt (-1000001))]) (M' := M4) rfl ?_
      exact vm_WM.ret (r := some (.int (Int32.ofInt (-1000001)))) 14 rfl rfl rfl ⟨_, rfl, h⟩
    · replace h := h.2 hc
      refine vm_WM.seq 15 6 (pc' := 36) (L' := [.ref 48, .int a1, .int a2]) (S' := [.int (nI 0), .int a1, .ref 48]) (M' := (vm_u2 M4 48 1 (nI 0))) rfl ?_
      refine vm_WM.call (a := 136) (as := [.ref 48, .int a1, .int (nI 0)]) (rest := []) (L0 := [.ref 48, .int a1, .int (nI 0)]) 21 rfl rfl (by decide) rfl rfl ⟨rfl, Or.inr rfl, Nat.le_of_ble_eq_true rfl, Nat.le_of_ble_eq_true rfl⟩ rfl rfl rfl ?_
      refine vm_WM.seq 0 9 (pc' := 12) (L' := [.ref 48, .int a1, .int (nI 0)]) (S' := [.int (((nI 6) + ((nI 4) * a1)) + (nI 0)), .ref 52]) (M' := (vm_u2 M4 48 1 (nI 0))) rfl ?_
      obtain ⟨j5, hj1, hj2, h⟩ := h
      refine vm_WM.ald (n := 70) (jj := j5) 9 rfl (Or.inl ⟨rfl, rfl⟩) (by decide) rfl hj1 hj2 ?_
      refine vm_WM.ret (r := some (.int ((vm_u2 M4 48 1 (nI 0)) 52 j5))) 10 rfl rfl rfl ?_
      show vm_WM X 163 39 [.ref 48, .int a1, .int a2] [.int ((vm_u2 M4 48 1 (nI 0)) 52 j5)] (vm_u2 M4 48 1 (nI 0)) _
      refine vm_WM.seq 22 1 (pc' := 40) (L' := [.ref 48, .int a1, .int a2]) (S' := [.int a2, .int ((vm_u2 M4 48 1 (nI 0)) 52 j5)]) (M' := (vm_u2 M4 48 1 (nI 0))) rfl ?_
      refine vm_WM.call (a := 161) (as := [.int ((vm_u2 M4 48 1 (nI 0)) 52 j5), .int a2]) (rest := []) (L0 := [.int ((vm_u2 M4 48 1 (nI 0)) 52 j5), .int a2]) 23 rfl rfl (by decide) rfl rfl ⟨rfl, Or.inl rfl, Nat.le_of_ble_eq_true rfl, Nat.le_of_ble_eq_true rfl⟩ rfl rfl rfl ?_
      refine vm_WM.theni h (fun v6 M7 h => ?_)
      show vm_WM X 163 43 [.ref 48, .int a1, .int a2] [.int v6] M7 _
      refine vm_WM.if (c := v6 = 0) (t1 := 50) (t2 := 46) (S' := []) 24 rfl rfl rfl (fun hc => ?_) (fun hc => ?_)
      · replace h := h.1 hc
        refine vm_WM.seq 27 2 (pc' := 52) (L' := [.ref 48, .int a1, .int a2]) (S' := [.int (nI 3), .ref 48]) (M' := M7) rfl ?_
        refine vm_WM.call (a := 109) (as := [.ref 48, .int (nI 3)]) (rest := []) (L0 := [.ref 48, .int (nI 3)]) 29 rfl rfl (by decide) rfl rfl ⟨rfl, Or.inr rfl, Nat.le_of_ble_eq_true rfl, Nat.le_of_ble_eq_true rfl⟩ rfl rfl rfl ?_
        refine vm_WM.seq 0 6 (pc' := 9) (L' := [.ref 48, .int (nI 3)]) (S' := [.int ((Int32.ofInt (-1000010)) - (nI 3))]) (M' := (vm_u2 M7 48 1 (nI 3))) rfl ?_
        refine vm_WM.ret (r := some (.int ((Int32.ofInt (-1000010)) - (nI 3)))) 6 rfl rfl rfl ?_
        show vm_WM X 163 55 [.ref 48, .int a1, .int a2] [.int ((Int32.ofInt (-1000010)) - (nI 3))] (vm_u2 M7 48 1 (nI 3)) _
        exact vm_WM.ret (r := some (.int ((Int32.ofInt (-1000010)) - (nI 3)))) 30 rfl rfl rfl ⟨_, rfl, h⟩
      · replace h := h.2 hc
        refine vm_WM.seq 25 2 (pc' := 55) (L' := [.ref 48, .int a1, .int a2]) (S' := [.int a1]) (M' := M7) rfl ?_
        exact vm_WM.ret (r := some (.int a1)) 30 rfl rfl rfl ⟨_, rfl, h⟩
theorem v_M_ask {X : Nat × (Nat → Int32)} {a1 : Int32} {a2 : Int32} {M : vm_M} {P : Int32 → vm_M → Prop} (h : E_M_isTrader X a1 (vm_u2 M 48 0 (nI 0)) (fun v1 M2 => (v1 = 0 → (P (Int32.ofInt (-1000001)) M2)) ∧ (¬ (v1 = 0) → (E_M_in X ((a2).toInt64) (Int64.ofNat 0) (Int64.ofNat 1) M2 (fun v3 M4 => (v3 = 0 → (P (Int32.ofInt (-1000001)) M4)) ∧ (¬ (v3 = 0) → ((a2 = 0 → (E_M_sizeOf X a1 (vm_u2 M4 48 29 (nI 0)) (fun v5 M6 => P v5 M6))) ∧ (¬ (a2 = 0) → (E_M_markOf X a1 (vm_u2 M4 48 29 (nI 0)) (fun v7 M8 => P v7 M8)))))))))) : E_M_ask X a1 a2 M P := by
  unfold E_M_ask
  refine vm_WM.seq 0 5 (pc' := 7) (L' := [.ref 48, .int a1, .int a2]) (S' := [.int a1, .ref 48]) (M' := (vm_u2 M 48 0 (nI 0))) rfl ?_
  refine vm_WM.call (a := 134) (as := [.ref 48, .int a1]) (rest := []) (L0 := [.ref 48, .int a1]) 5 rfl rfl (by decide) rfl rfl ⟨rfl, Or.inr rfl, Nat.le_of_ble_eq_true rfl, Nat.le_of_ble_eq_true rfl⟩ rfl rfl rfl ?_
  refine vm_WM.theni h (fun v1 M2 h => ?_)
  show vm_WM X 169 10 [.ref 48, .int a1, .int a2] [.int v1] M2 _
  refine vm_WM.if (c := v1 = 0) (t1 := 23) (t2 := 13) (S' := []) 6 rfl rfl rfl (fun hc => ?_) (fun hc => ?_)
  · replace h := h.1 hc
    refine vm_WM.seq 13 1 (pc' := 25) (L' := [.ref 48, .int a1, .int a2]) (S' := [.int (Int32.ofInt (-1000001))]) (M' := M2) rfl ?_
    exact vm_WM.ret (r := some (.int (Int32.ofInt (-1000001)))) 14 rfl rfl rfl ⟨_, rfl, h⟩
  · replace h := h.2 hc
    refine vm_WM.seq 7 4 (pc' := 17) (L' := [.ref 48, .int a1, .int a2]) (S' := [.long (Int64.ofNat 1), .long (Int64.ofNat 0), .long ((a2).toInt64)]) (M' := M2) rfl ?_
    refine vm_WM.call (a := 108) (as := [.long ((a2).toInt64), .long (Int64.ofNat 0), .long (Int64.ofNat 1)]) (rest := []) (L0 := [.long ((a2).toInt64), .null, .long (Int64.ofNat 0), .null, .long (Int64.ofNat 1), .null]) 11 rfl rfl (by decide) rfl rfl ⟨rfl, Or.inl rfl, Nat.le_of_ble_eq_true rfl, Nat.le_of_ble_eq_true rfl⟩ rfl rfl rfl ?_
    refine vm_WM.theni h (fun v3 M4 h => ?_)
    show vm_WM X 169 20 [.ref 48, .int a1, .int a2] [.int v3] M4 _
    refine vm_WM.if (c := v3 = 0) (t1 := 23) (t2 := 26) (S' := []) 12 rfl rfl rfl (fun hc => ?_) (fun hc => ?_)
    · replace h := h.1 hc
      refine vm_WM.seq 13 1 (pc' := 25) (L' := [.ref 48, .int a1, .int a2]) (S' := [.int (Int32.ofInt (-1000001))]) (M' := M4) rfl ?_
      exact vm_WM.ret (r := some (.int (Int32.ofInt (-1000001)))) 14 rfl rfl rfl ⟨_, rfl, h⟩
    · replace h := h.2 hc
      refine vm_WM.seq 15 4 (pc' := 32) (L' := [.ref 48, .int a1, .int a2]) (S' := [.int a2]) (M' := (vm_u2 M4 48 29 (nI 0))) rfl ?_
      refine vm_WM.if (c := a2 = 0) (t1 := 35) (t2 := 43) (S' := []) 19 rfl rfl rfl (fun hc => ?_) (fun hc => ?_)
      · replace h := h.1 hc
        refine vm_WM.seq 20 2 (pc' := 37) (L' := [.ref 48, .int a1, .int a2]) (S' := [.int a1, .ref 48]) (M' := (vm_u2 M4 48 29 (nI 0))) rfl ?_
        refine vm_WM.call (a := 168) (as := [.ref 48, .int a1]) (rest := []) (L0 := [.ref 48, .int a1, .null, .null]) 22 rfl rfl (by decide) rfl rfl ⟨rfl, Or.inr rfl, Nat.le_of_ble_eq_true rfl, Nat.le_of_ble_eq_true rfl⟩ rfl rfl rfl ?_
        refine vm_WM.theni h (fun v5 M6 h => ?_)
        show vm_WM X 169 40 [.ref 48, .int a1, .int a2] [.int v5] M6 _
        refine vm_WM.seq 23 1 (pc' := 48) (L' := [.ref 48, .int a1, .int a2]) (S' := [.int v5]) (M' := M6) rfl ?_
        exact vm_WM.ret (r := some (.int v5)) 27 rfl rfl rfl ⟨_, rfl, h⟩
      · replace h := h.2 hc
        refine vm_WM.seq 24 2 (pc' := 45) (L' := [.ref 48, .int a1, .int a2]) (S' := [.int a1, .ref 48]) (M' := (vm_u2 M4 48 29 (nI 0))) rfl ?_
        refine vm_WM.call (a := 167) (as := [.ref 48, .int a1]) (rest := []) (L0 := [.ref 48, .int a1, .null, .null]) 26 rfl rfl (by decide) rfl rfl ⟨rfl, Or.inr rfl, Nat.le_of_ble_eq_true rfl, Nat.le_of_ble_eq_true rfl⟩ rfl rfl rfl ?_
        refine vm_WM.theni h (fun v7 M8 h => ?_)
        show vm_WM X 169 48 [.ref 48, .int a1, .int a2] [.int v7] M8 _
        exact vm_WM.ret (r := some (.int v7)) 27 rfl rfl rfl ⟨_, rfl, h⟩
theorem v_M_trace {X : Nat × (Nat → Int32)} {a1 : Int32} {M : vm_M} {P : Int32 → vm_M → Prop} (h : E_M_in X ((a1).toInt64) (Int64.ofNat 0) (((((vm_u2 M 48 0 (nI 0)) 48 29) - (nI 1))).toInt64) (vm_u2 M 48 0 (nI 0)) (fun v1 M2 => (v1 = 0 → (P (Int32.ofInt (-1000000)) M2)) ∧ (¬ (v1 = 0) → (∃ j3 : Nat, a1 = nI j3 ∧ j3 < 16 ∧ (P (M2 64 j3) M2))))) : E_M_trace X a1 M P := by
  unfold E_M_trace
  refine vm_WM.seq 0 11 (pc' := 15) (L' := [.ref 48, .int a1]) (S' := [.long (((((vm_u2 M 48 0 (nI 0)) 48 29) - (nI 1))).toInt64), .long (Int64.ofNat 0), .long ((a1).toInt64)]) (M' := (vm_u2 M 48 0 (nI 0))) rfl ?_
  refine vm_WM.call (a := 108) (as := [.long ((a1).toInt64), .long (Int64.ofNat 0), .long (((((vm_u2 M 48 0 (nI 0)) 48 29) - (nI 1))).toInt64)]) (rest := []) (L0 := [.long ((a1).toInt64), .null, .long (Int64.ofNat 0), .null, .long (((((vm_u2 M 48 0 (nI 0)) 48 29) - (nI 1))).toInt64), .null]) 11 rfl rfl (by decide) rfl rfl ⟨rfl, Or.inl rfl, Nat.le_of_ble_eq_true rfl, Nat.le_of_ble_eq_true rfl⟩ rfl rfl rfl ?_
  refine vm_WM.theni h (fun v1 M2 h => ?_)
  show vm_WM X 170 18 [.ref 48, .int a1] [.int v1] M2 _
  refine vm_WM.if (c := v1 = 0) (t1 := 30) (t2 := 21) (S' := []) 12 rfl rfl rfl (fun hc => ?_) (fun hc => ?_)
  · replace h := h.1 hc
    refine vm_WM.seq 18 1 (pc' := 32) (L' := [.ref 48, .int a1]) (S' := [.int (Int32.ofInt (-1000000))]) (M' := M2) rfl ?_
    exact vm_WM.ret (r := some (.int (Int32.ofInt (-1000000)))) 19 rfl rfl rfl ⟨_, rfl, h⟩
  · replace h := h.2 hc
    refine vm_WM.seq 13 3 (pc' := 26) (L' := [.ref 48, .int a1]) (S' := [.int a1, .ref 64]) (M' := M2) rfl ?_
    obtain ⟨j3, hj1, hj2, h⟩ := h
    refine vm_WM.ald (n := 16) (jj := j3) 16 rfl (Or.inl ⟨rfl, rfl⟩) (by decide) rfl hj1 hj2 ?_
    refine vm_WM.seq 17 1 (pc' := 32) (L' := [.ref 48, .int a1]) (S' := [.int (M2 64 j3)]) (M' := M2) rfl ?_
    exact vm_WM.ret (r := some (.int (M2 64 j3))) 19 rfl rfl rfl ⟨_, rfl, h⟩
theorem v_M_count {X : Nat × (Nat → Int32)} {a1 : Int32} {M : vm_M} {P : Int32 → vm_M → Prop} (h : ((a1).toInt < 0 ∨ 7 < (a1).toInt → (P (Int32.ofInt (-1000001)) (vm_u2 M 48 0 (nI 0)))) ∧ ((a1 = (nI 0) → (C_M_count_58 X a1 (nI 0) (nI 0) (vm_u2 M 48 0 (nI 0)) P)) ∧ (a1 = (nI 1) → (P ((vm_u2 M 48 0 (nI 0)) 52 2) (vm_u2 M 48 0 (nI 0)))) ∧ (a1 = (nI 2) → (P ((vm_u2 M 48 0 (nI 0)) 52 3) (vm_u2 M 48 0 (nI 0)))) ∧ (a1 = (nI 3) → (P ((vm_u2 M 48 0 (nI 0)) 52 4) (vm_u2 M 48 0 (nI 0)))) ∧ (a1 = (nI 4) → (P ((vm_u2 M 48 0 (nI 0)) 48 8) (vm_u2 M 48 0 (nI 0)))) ∧ (a1 = (nI 5) → (P ((vm_u2 M 48 0 (nI 0)) 52 0) (vm_u2 M 48 0 (nI 0)))) ∧ (a1 = (nI 6) → (P ((vm_u2 M 48 0 (nI 0)) 52 5) (vm_u2 M 48 0 (nI 0)))) ∧ (a1 = (nI 7) → (P ((vm_u2 M 48 0 (nI 0)) 48 10) (vm_u2 M 48 0 (nI 0)))))) : E_M_count X a1 M P := by
  unfold E_M_count
  refine vm_WM.seq 0 6 (pc' := 8) (L' := [.ref 48, .int a1, .int (nI 0), .null]) (S' := [.int a1]) (M' := (vm_u2 M 48 0 (nI 0))) rfl ?_
  by_cases hlo : (a1).toInt < 0 ∨ 7 < (a1).toInt
  · replace h := h.1 hlo
    refine vm_WM.tso (t := 134) 6 rfl hlo rfl ?_
    refine vm_WM.seq 58 1 (pc' := 136) (L' := [.ref 48, .int a1, .int (nI 0), .null]) (S' := [.int (Int32.ofInt (-1000001))]) (M' := (vm_u2 M 48 0 (nI 0))) rfl ?_
    exact vm_WM.ret (r := some (.int (Int32.ofInt (-1000001)))) 59 rfl rfl rfl ⟨_, rfl, h⟩
  · replace h := h.2
    by_cases hq0 : a1 = (nI 0)
    · replace h := h.1 hq0
      refine vm_WM.tsi (t := 56) (v := 0) 6 rfl hq0 (by decide) rfl ?_
      refine vm_WM.seq 7 2 (pc' := 58) (L' := [.ref 48, .int a1, .int (nI 0), .int (nI 0)]) (S' := []) (M' := (vm_u2 M 48 0 (nI 0))) rfl ?_
      exact h
    by_cases hq1 : a1 = (nI 1)
    · replace h := h.2.1 hq1
      refine vm_WM.tsi (t := 89) (v := 1) 6 rfl hq1 (by decide) rfl ?_
      refine vm_WM.seq 27 3 (pc' := 94) (L' := [.ref 48, .int a1, .int (nI 0), .null]) (S' := [.int (nI 2), .ref 52]) (M' := (vm_u2 M 48 0 (nI 0))) rfl ?_
      refine vm_WM.ald (n := 70) (jj := 2) 30 rfl (Or.inl ⟨rfl, rfl⟩) (by decide) rfl rfl (by decide) ?_
      exact vm_WM.ret (r := some (.int ((vm_u2 M 48 0 (nI 0)) 52 2))) 31 rfl rfl rfl ⟨_, rfl, h⟩
    by_cases hq2 : a1 = (nI 2)
    · replace h := h.2.2.1 hq2
      refine vm_WM.tsi (t := 96) (v := 2) 6 rfl hq2 (by decide) rfl ?_
      refine vm_WM.seq 32 3 (pc' := 101) (L' := [.ref 48, .int a1, .int (nI 0), .null]) (S' := [.int (nI 3), .ref 52]) (M' := (vm_u2 M 48 0 (nI 0))) rfl ?_
      refine vm_WM.ald (n := 70) (jj := 3) 35 rfl (Or.inl ⟨rfl, rfl⟩) (by decide) rfl rfl (by decide) ?_
      exact vm_WM.ret (r := some (.int ((vm_u2 M 48 0 (nI 0)) 52 3))) 36 rfl rfl rfl ⟨_, rfl, h⟩
    by_cases hq3 : a1 = (nI 3)
    · replace h := h.2.2.2.1 hq3
      refine vm_WM.tsi (t := 103) (v := 3) 6 rfl hq3 (by decide) rfl ?_
      refine vm_WM.seq 37 3 (pc' := 108) (L' := [.ref 48, .int a1, .int (nI 0), .null]) (S' := [.int (nI 4), .ref 52]) (M' := (vm_u2 M 48 0 (nI 0))) rfl ?_
      refine vm_WM.ald (n := 70) (jj := 4) 40 rfl (Or.inl ⟨rfl, rfl⟩) (by decide) rfl rfl (by decide) ?_
      exact vm_WM.ret (r := some (.int ((vm_u2 M 48 0 (nI 0)) 52 4))) 41 rfl rfl rfl ⟨_, rfl, h⟩
    by_cases hq4 : a1 = (nI 4)
    · replace h := h.2.2.2.2.1 hq4
      refine vm_WM.tsi (t := 110) (v := 4) 6 rfl hq4 (by decide) rfl ?_
      refine vm_WM.seq 42 2 (pc' := 114) (L' := [.ref 48, .int a1, .int (nI 0), .null]) (S' := [.int ((vm_u2 M 48 0 (nI 0)) 48 8)]) (M' := (vm_u2 M 48 0 (nI 0))) rfl ?_
      exact vm_WM.ret (r := some (.int ((vm_u2 M 48 0 (nI 0)) 48 8))) 44 rfl rfl rfl ⟨_, rfl, h⟩
    by_cases hq5 : a1 = (nI 5)
    · replace h := h.2.2.2.2.2.1 hq5
      refine vm_WM.tsi (t := 115) (v := 5) 6 rfl hq5 (by decide) rfl ?_
      refine vm_WM.seq 45 3 (pc' := 120) (L' := [.ref 48, .int a1, .int (nI 0), .null]) (S' := [.int (nI 0), .ref 52]) (M' := (vm_u2 M 48 0 (nI 0))) rfl ?_
      refine vm_WM.ald (n := 70) (jj := 0) 48 rfl (Or.inl ⟨rfl, rfl⟩) (by decide) rfl rfl (by decide) ?_
      exact vm_WM.ret (r := some (.int ((vm_u2 M 48 0 (nI 0)) 52 0))) 49 rfl rfl rfl ⟨_, rfl, h⟩
    by_cases hq6 : a1 = (nI 6)
    · replace h := h.2.2.2.2.2.2.1 hq6
      refine vm_WM.tsi (t := 122) (v := 6) 6 rfl hq6 (by decide) rfl ?_
      refine vm_WM.seq 50 3 (pc' := 127) (L' := [.ref 48, .int a1, .int (nI 0), .null]) (S' := [.int (nI 5), .ref 52]) (M' := (vm_u2 M 48 0 (nI 0))) rfl ?_
      refine vm_WM.ald (n := 70) (jj := 5) 53 rfl (Or.inl ⟨rfl, rfl⟩) (by decide) rfl rfl (by decide) ?_
      exact vm_WM.ret (r := some (.int ((vm_u2 M 48 0 (nI 0)) 52 5))) 54 rfl rfl rfl ⟨_, rfl, h⟩
    by_cases hq7 : a1 = (nI 7)
    · replace h := h.2.2.2.2.2.2.2 hq7
      refine vm_WM.tsi (t := 129) (v := 7) 6 rfl hq7 (by decide) rfl ?_
      refine vm_WM.seq 55 2 (pc' := 133) (L' := [.ref 48, .int a1, .int (nI 0), .null]) (S' := [.int ((vm_u2 M 48 0 (nI 0)) 48 10)]) (M' := (vm_u2 M 48 0 (nI 0))) rfl ?_
      exact vm_WM.ret (r := some (.int ((vm_u2 M 48 0 (nI 0)) 48 10))) 57 rfl rfl rfl ⟨_, rfl, h⟩
    exact absurd (vm_sw_no (lo := 0) (n := 8) (by decide) (fun q hq => by
      match q, hq with
      | 0, _ => exact hq0
      | 1, _ => exact hq1
      | 2, _ => exact hq2
      | 3, _ => exact hq3
      | 4, _ => exact hq4
      | 5, _ => exact hq5
      | 6, _ => exact hq6
      | 7, _ => exact hq7
      | q + 8, hq => omega)) hlo
theorem v_M_count_58 {X : Nat × (Nat → Int32)} {x1 : Int32} {x2 : Int32} {x3 : Int32} {M : vm_M} {P : Int32 → vm_M → Prop} (h : (x3 < (nI 8) → (∃ j1 : Nat, x3 = nI j1 ∧ j1 < 8 ∧ (((M 49 j1) < 0 → (C_M_count_58 X x1 (x2 + (nI 0)) (x3 + (nI 1)) M P)) ∧ (¬ ((M 49 j1) < 0) → (C_M_count_58 X x1 (x2 + (nI 1)) (x3 + (nI 1)) M P))))) ∧ (¬ (x3 < (nI 8)) → (P x2 M))) : C_M_count_58 X x1 x2 x3 M P := by
  unfold C_M_count_58
  refine vm_WM.seq 9 2 (pc' := 61) (L' := [.ref 48, .int x1, .int x2, .int x3]) (S' := [.int (nI 8), .int x3]) (M' := M) rfl ?_
  refine vm_WM.if (c := x3 < (nI 8)) (t1 := 64) (t2 := 87) (S' := []) 11 rfl rfl rfl (fun hc => ?_) (fun hc => ?_)
  · replace h := h.1 hc
    refine vm_WM.seq 12 4 (pc' := 70) (L' := [.ref 48, .int x1, .int x2, .int x3]) (S' := [.int x3, .ref 49, .int x2]) (M' := M) rfl ?_
    obtain ⟨j1, hj1, hj2, h⟩ := h
    refine vm_WM.ald (n := 8) (jj := j1) 16 rfl (Or.inl ⟨rfl, rfl⟩) (by decide) rfl hj1 hj2 ?_
    refine vm_WM.if (c := (M 49 j1) < 0) (t1 := 78) (t2 := 74) (S' := [.int x2]) 17 rfl rfl rfl (fun hc => ?_) (fun hc => ?_)
    · replace h := h.1 hc
      refine vm_WM.seq 20 5 (pc' := 58) (L' := [.ref 48, .int x1, .int (x2 + (nI 0)), .int (x3 + (nI 1))]) (S' := []) (M' := M) rfl ?_
      exact h
    · replace h := h.2 hc
      refine vm_WM.seq 18 2 (pc' := 79) (L' := [.ref 48, .int x1, .int x2, .int x3]) (S' := [.int (nI 1), .int x2]) (M' := M) rfl ?_
      refine vm_WM.seq 21 4 (pc' := 58) (L' := [.ref 48, .int x1, .int (x2 + (nI 1)), .int (x3 + (nI 1))]) (S' := []) (M' := M) rfl ?_
      exact h
  · replace h := h.2 hc
    refine vm_WM.seq 25 1 (pc' := 88) (L' := [.ref 48, .int x1, .int x2, .int x3]) (S' := [.int x2]) (M' := M) rfl ?_
    exact vm_WM.ret (r := some (.int x2)) 26 rfl rfl rfl ⟨_, rfl, h⟩
theorem v_M_status {X : Nat × (Nat → Int32)}  {M : vm_M} {P : Int32 → vm_M → Prop} (h : P ((vm_u2 M 48 0 (nI 0)) 48 1) (vm_u2 M 48 0 (nI 0))) : E_M_status X  M P := by
  unfold E_M_status
  refine vm_WM.seq 0 5 (pc' := 9) (L' := [.ref 48]) (S' := [.int ((vm_u2 M 48 0 (nI 0)) 48 1)]) (M' := (vm_u2 M 48 0 (nI 0))) rfl ?_
  exact vm_WM.ret (r := some (.int ((vm_u2 M 48 0 (nI 0)) 48 1))) 5 rfl rfl rfl ⟨_, rfl, h⟩
theorem v_Rows_make {X : Nat × (Nat → Int32)} {a1 : Int32} {a2 : Int32} {a3 : Int32} {M : vm_M} {P : vm_M → Prop} (h : ∃ j1 : Nat, a1 = nI j1 ∧ j1 < 8 ∧ (∃ j2 : Nat, a1 = nI j2 ∧ j2 < 8 ∧ (C_Rows_make_19 X a1 a2 a3 (nI 0) (vm_u2 (vm_u2 M 2 j1 (a2 + (nI 1))) 3 j2 a3) P))) : E_Rows_make X a1 a2 a3 M P := by
  unfold E_Rows_make
  refine vm_WM.seq 0 6 (pc' := 8) (L' := [.ref 1, .int a1, .int a2, .int a3, .null]) (S' := [.int (a2 + (nI 1)), .int a1, .ref 2]) (M' := M) rfl ?_
  obtain ⟨j1, hj1, hj2, h⟩ := h
  refine vm_WM.ast (n := 8) (jj := j1) 6 rfl rfl hj1 hj2 ?_
  refine vm_WM.seq 7 4 (pc' := 15) (L' := [.ref 1, .int a1, .int a2, .int a3, .null]) (S' := [.int a3, .int a1, .ref 3]) (M' := (vm_u2 M 2 j1 (a2 + (nI 1)))) rfl ?_
  obtain ⟨j2, hj1, hj2, h⟩ := h
  refine vm_WM.ast (n := 8) (jj := j2) 11 rfl rfl hj1 hj2 ?_
  refine vm_WM.seq 12 2 (pc' := 19) (L' := [.ref 1, .int a1, .int a2, .int a3, .int (nI 0)]) (S' := []) (M' := (vm_u2 (vm_u2 M 2 j1 (a2 + (nI 1))) 3 j2 a3)) rfl ?_
  exact h
theorem v_Rows_make_19 {X : Nat × (Nat → Int32)} {x1 : Int32} {x2 : Int32} {x3 : Int32} {x4 : Int32} {M : vm_M} {P : vm_M → Prop} (h : (x4 < (nI 40) → (∃ j1 : Nat, ((x1 * (nI 40)) + x4) = nI j1 ∧ j1 < 320 ∧ (C_Rows_make_19 X x1 x2 x3 (x4 + (nI 1)) (vm_u2 M 4 j1 (nI 0)) P))) ∧ (¬ (x4 < (nI 40)) → (P  M))) : C_Rows_make_19 X x1 x2 x3 x4 M P := by
  unfold C_Rows_make_19
  refine vm_WM.seq 14 2 (pc' := 23) (L' := [.ref 1, .int x1, .int x2, .int x3, .int x4]) (S' := [.int (nI 40), .int x4]) (M' := M) rfl ?_
  refine vm_WM.if (c := x4 < (nI 40)) (t1 := 26) (t2 := 45) (S' := []) 16 rfl rfl rfl (fun hc => ?_) (fun hc => ?_)
  · replace h := h.1 hc
    refine vm_WM.seq 17 8 (pc' := 38) (L' := [.ref 1, .int x1, .int x2, .int x3, .int x4]) (S' := [.int (nI 0), .int ((x1 * (nI 40)) + x4), .ref 4]) (M' := M) rfl ?_
    obtain ⟨j1, hj1, hj2, h⟩ := h
    refine vm_WM.ast (n := 320) (jj := j1) 25 rfl rfl hj1 hj2 ?_
    refine vm_WM.seq 26 2 (pc' := 19) (L' := [.ref 1, .int x1, .int x2, .int x3, .int (x4 + (nI 1))]) (S' := []) (M' := (vm_u2 M 4 j1 (nI 0))) rfl ?_
    exact h
  · replace h := h.2 hc
    exact vm_WM.ret (r := none) 28 rfl rfl rfl ⟨rfl, h⟩
theorem v_Rows_lapse {X : Nat × (Nat → Int32)} {a1 : Int32} {a2 : Int32} {a3 : Int32} {M : vm_M} {P : Int32 → vm_M → Prop} (h : ∃ j1 : Nat, a1 = nI j1 ∧ j1 < 8 ∧ (((M 2 j1) = 0 → (P (nI 1) M)) ∧ (¬ ((M 2 j1) = 0) → (E_Rows_holds X a1 a2 a3 M (fun v2 M3 => (v2 = 0 → (P (nI 2) M3)) ∧ (¬ (v2 = 0) → (P (nI 0) M3))))))) : E_Rows_lapse X a1 a2 a3 M P := by
  unfold E_Rows_lapse
  refine vm_WM.seq 0 2 (pc' := 2) (L' := [.ref 1, .int a1, .int a2, .int a3]) (S' := [.int a1, .ref 1]) (M' := M) rfl ?_
  refine vm_WM.call (a := 48) (as := [.ref 1, .int a1]) (rest := []) (L0 := [.ref 1, .int a1]) 2 rfl rfl (by decide) rfl rfl ⟨rfl, Or.inr rfl, Nat.le_of_ble_eq_true rfl, Nat.le_of_ble_eq_true rfl⟩ rfl rfl rfl ?_
  refine vm_WM.seq 0 3 (pc' := 5) (L' := [.ref 1, .int a1]) (S' := [.int a1, .ref 2]) (M' := M) rfl ?_
  obtain ⟨j1, hj1, hj2, h⟩ := h
  refine vm_WM.ald (n := 8) (jj := j1) 3 rfl (Or.inl ⟨rfl, rfl⟩) (by decide) rfl hj1 hj2 ?_
  refine vm_WM.if (c := (M 2 j1) = 0) (t1 := 9) (t2 := 13) (S' := []) 4 rfl rfl rfl (fun hc => ?_) (fun hc => ?_)
  · replace h := h.1 hc
    refine vm_WM.seq 5 2 (pc' := 14) (L' := [.ref 1, .int a1]) (S' := [.int (nI 1)]) (M' := M) rfl ?_
    refine vm_WM.ret (r := some (.int (nI 1))) 8 rfl rfl rfl ?_
    show vm_WM X 52 5 [.ref 1, .int a1, .int a2, .int a3] [.int (nI 1)] M _
    refine vm_WM.seq 3 2 (pc' := 9) (L' := [.ref 1, .int a1, .int a2, .int a3]) (S' := [.int (nI 1)]) (M' := M) rfl ?_
    exact vm_WM.ret (r := some (.int (nI 1))) 5 rfl rfl rfl ⟨_, rfl, h⟩
  · replace h := h.2 hc
    refine vm_WM.seq 7 1 (pc' := 14) (L' := [.ref 1, .int a1]) (S' := [.int (nI 0)]) (M' := M) rfl ?_
    refine vm_WM.ret (r := some (.int (nI 0))) 8 rfl rfl rfl ?_
    show vm_WM X 52 5 [.ref 1, .int a1, .int a2, .int a3] [.int (nI 0)] M _
    refine vm_WM.seq 3 1 (pc' := 10) (L' := [.ref 1, .int a1, .int a2, .int a3]) (S' := []) (M' := M) rfl ?_
    refine vm_WM.seq 6 4 (pc' := 14) (L' := [.ref 1, .int a1, .int a2, .int a3]) (S' := [.int a3, .int a2, .int a1, .ref 1]) (M' := M) rfl ?_
    refine vm_WM.call (a := 54) (as := [.ref 1, .int a1, .int a2, .int a3]) (rest := []) (L0 := [.ref 1, .int a1, .int a2, .int a3]) 10 rfl rfl (by decide) rfl rfl ⟨rfl, Or.inr rfl, Nat.le_of_ble_eq_true rfl, Nat.le_of_ble_eq_true rfl⟩ rfl rfl rfl ?_
    refine vm_WM.theni h (fun v2 M3 h => ?_)
    show vm_WM X 52 17 [.ref 1, .int a1, .int a2, .int a3] [.int v2] M3 _
    refine vm_WM.if (c := v2 = 0) (t1 := 24) (t2 := 20) (S' := []) 11 rfl rfl rfl (fun hc => ?_) (fun hc => ?_)
    · replace h := h.1 hc
      refine vm_WM.seq 14 1 (pc' := 25) (L' := [.ref 1, .int a1, .int a2, .int a3]) (S' := [.int (nI 2)]) (M' := M3) rfl ?_
      exact vm_WM.ret (r := some (.int (nI 2))) 15 rfl rfl rfl ⟨_, rfl, h⟩
    · replace h := h.2 hc
      refine vm_WM.seq 12 2 (pc' := 25) (L' := [.ref 1, .int a1, .int a2, .int a3]) (S' := [.int (nI 0)]) (M' := M3) rfl ?_
      exact vm_WM.ret (r := some (.int (nI 0))) 15 rfl rfl rfl ⟨_, rfl, h⟩
theorem v_Rows_put {X : Nat × (Nat → Int32)} {a1 : Int32} {a2 : Int32} {a3 : Int32} {M : vm_M} {P : Int32 → vm_M → Prop} (h : ∃ j1 : Nat, a1 = nI j1 ∧ j1 < 8 ∧ (((M 2 j1) = (nI 1) → (∃ j2 : Nat, ((a1 * (nI 40)) + a2) = nI j2 ∧ j2 < 320 ∧ (P ((a3).toInt8.toInt32) (vm_u2 M 4 j2 ((a3).toInt8.toInt32))))) ∧ (¬ ((M 2 j1) = (nI 1)) → (∃ j3 : Nat, a1 = nI j3 ∧ j3 < 8 ∧ (((M 2 j3) = (nI 2) → (∃ j4 : Nat, ((a1 * (nI 40)) + a2) = nI j4 ∧ j4 < 320 ∧ (P ((a3).toInt16.toInt32) (vm_u2 M 4 j4 ((a3).toInt16.toInt32))))) ∧ (¬ ((M 2 j3) = (nI 2)) → (∃ j5 : Nat, ((a1 * (nI 40)) + a2) = nI j5 ∧ j5 < 320 ∧ (P a3 (vm_u2 M 4 j5 a3))))))))) : E_Rows_put X a1 a2 a3 M P := by
  unfold E_Rows_put
  refine vm_WM.seq 0 3 (pc' := 5) (L' := [.ref 1, .int a1, .int a2, .int a3, .null]) (S' := [.int a1, .ref 2]) (M' := M) rfl ?_
  obtain ⟨j1, hj1, hj2, h⟩ := h
  refine vm_WM.ald (n := 8) (jj := j1) 3 rfl (Or.inl ⟨rfl, rfl⟩) (by decide) rfl hj1 hj2 ?_
  refine vm_WM.seq 4 1 (pc' := 7) (L' := [.ref 1, .int a1, .int a2, .int a3, .null]) (S' := [.int (nI 1), .int (M 2 j1)]) (M' := M) rfl ?_
  refine vm_WM.if (c := (M 2 j1) = (nI 1)) (t1 := 10) (t2 := 15) (S' := []) 5 rfl rfl rfl (fun hc => ?_) (fun hc => ?_)
  · replace h := h.1 hc
    refine vm_WM.seq 6 3 (pc' := 31) (L' := [.ref 1, .int a1, .int a2, .int a3, .null]) (S' := [.int ((a3).toInt8.toInt32)]) (M' := M) rfl ?_
    refine vm_WM.seq 19 9 (pc' := 45) (L' := [.ref 1, .int a1, .int a2, .int a3, .int ((a3).toInt8.toInt32)]) (S' := [.int ((a3).toInt8.toInt32), .int ((a1 * (nI 40)) + a2), .ref 4]) (M' := M) rfl ?_
    obtain ⟨j2, hj1, hj2, h⟩ := h
    refine vm_WM.ast (n := 320) (jj := j2) 28 rfl rfl hj1 hj2 ?_
    refine vm_WM.seq 29 1 (pc' := 48) (L' := [.ref 1, .int a1, .int a2, .int a3, .int ((a3).toInt8.toInt32)]) (S' := [.int ((a3).toInt8.toInt32)]) (M' := (vm_u2 M 4 j2 ((a3).toInt8.toInt32))) rfl ?_
    exact vm_WM.ret (r := some (.int ((a3).toInt8.toInt32))) 30 rfl rfl rfl ⟨_, rfl, h⟩
  · replace h := h.2 hc
    refine vm_WM.seq 9 3 (pc' := 20) (L' := [.ref 1, .int a1, .int a2, .int a3, .null]) (S' := [.int a1, .ref 2]) (M' := M) rfl ?_
    obtain ⟨j3, hj1, hj2, h⟩ := h
    refine vm_WM.ald (n := 8) (jj := j3) 12 rfl (Or.inl ⟨rfl, rfl⟩) (by decide) rfl hj1 hj2 ?_
    refine vm_WM.seq 13 1 (pc' := 22) (L' := [.ref 1, .int a1, .int a2, .int a3, .null]) (S' := [.int (nI 2), .int (M 2 j3)]) (M' := M) rfl ?_
    refine vm_WM.if (c := (M 2 j3) = (nI 2)) (t1 := 25) (t2 := 30) (S' := []) 14 rfl rfl rfl (fun hc => ?_) (fun hc => ?_)
    · replace h := h.1 hc
      refine vm_WM.seq 15 3 (pc' := 31) (L' := [.ref 1, .int a1, .int a2, .int a3, .null]) (S' := [.int ((a3).toInt16.toInt32)]) (M' := M) rfl ?_
      refine vm_WM.seq 19 9 (pc' := 45) (L' := [.ref 1, .int a1, .int a2, .int a3, .int ((a3).toInt16.toInt32)]) (S' := [.int ((a3).toInt16.toInt32), .int ((a1 * (nI 40)) + a2), .ref 4]) (M' := M) rfl ?_
      obtain ⟨j4, hj1, hj2, h⟩ := h
      refine vm_WM.ast (n := 320) (jj := j4) 28 rfl rfl hj1 hj2 ?_
      refine vm_WM.seq 29 1 (pc' := 48) (L' := [.ref 1, .int a1, .int a2, .int a3, .int ((a3).toInt16.toInt32)]) (S' := [.int ((a3).toInt16.toInt32)]) (M' := (vm_u2 M 4 j4 ((a3).toInt16.toInt32))) rfl ?_
      exact vm_WM.ret (r := some (.int ((a3).toInt16.toInt32))) 30 rfl rfl rfl ⟨_, rfl, h⟩
    · replace h := h.2 hc
      refine vm_WM.seq 18 10 (pc' := 45) (L' := [.ref 1, .int a1, .int a2, .int a3, .int a3]) (S' := [.int a3, .int ((a1 * (nI 40)) + a2), .ref 4]) (M' := M) rfl ?_
      obtain ⟨j5, hj1, hj2, h⟩ := h
      refine vm_WM.ast (n := 320) (jj := j5) 28 rfl rfl hj1 hj2 ?_
      refine vm_WM.seq 29 1 (pc' := 48) (L' := [.ref 1, .int a1, .int a2, .int a3, .int a3]) (S' := [.int a3]) (M' := (vm_u2 M 4 j5 a3)) rfl ?_
      exact vm_WM.ret (r := some (.int a3)) 30 rfl rfl rfl ⟨_, rfl, h⟩
