/-! walks, by wip/whole/vcgen.py -/
theorem v_B_most {X : Nat × (Nat → Int32)} {a1 : Int32} {a2 : Int32} {a3 : Int32} {M : vm_M} {P : Int32 → vm_M → Prop} (h : (a1 < 0 → (P (Int32.ofInt (-1000001)) M)) ∧ (¬ (a1 < 0) → ((a1 < (M 7 0) → ((a2 < 0 → (P (Int32.ofInt (-1000001)) M)) ∧ (¬ (a2 < 0) → (((nI 60) < a2 → (P (Int32.ofInt (-1000001)) M)) ∧ (¬ ((nI 60) < a2) → ((a3 < 0 → (P (Int32.ofInt (-1000001)) M)) ∧ (¬ (a3 < 0) → (((nI 1) < a3 → (P (Int32.ofInt (-1000001)) M)) ∧ (¬ ((nI 1) < a3) → ((a3 = 0 → (E_Foretold_sumFrom X a1 a2 M (fun v1 M2 => P v1 M2))) ∧ (¬ (a3 = 0) → (E_Foretold_timesFrom X a1 a2 M (fun v3 M4 => P v3 M4))))))))))))) ∧ (¬ (a1 < (M 7 0)) → (P (Int32.ofInt (-1000001)) M))))) : E_B_most X a1 a2 a3 M P := by
  unfold E_B_most
  refine vm_WM.seq 0 3 (pc' := 5) (L' := [.ref 0, .int a1, .int a2, .int a3]) (S' := [.int a1, .ref 7]) (M' := M) rfl ?_
  refine vm_WM.call (a := 38) (as := [.ref 7, .int a1]) (rest := []) (L0 := [.ref 7, .int a1]) 3 rfl rfl (by decide) rfl rfl ⟨rfl, Or.inr rfl, Nat.le_of_ble_eq_true rfl, Nat.le_of_ble_eq_true rfl⟩ rfl rfl rfl ?_
  refine vm_WM.seq 0 1 (pc' := 1) (L' := [.ref 7, .int a1]) (S' := [.int a1]) (M' := M) rfl ?_
  refine vm_WM.if (c := a1 < 0) (t1 := 16) (t2 := 4) (S' := []) 1 rfl rfl rfl (fun hc => ?_) (fun hc => ?_)
  · replace h := h.1 hc
    refine vm_WM.seq 8 1 (pc' := 17) (L' := [.ref 7, .int a1]) (S' := [.int (nI 0)]) (M' := M) rfl ?_
    refine vm_WM.ret (r := some (.int (nI 0))) 9 rfl rfl rfl ?_
    show vm_WM X 90 8 [.ref 0, .int a1, .int a2, .int a3] [.int (nI 0)] M _
    refine vm_WM.seq 4 1 (pc' := 27) (L' := [.ref 0, .int a1, .int a2, .int a3]) (S' := []) (M' := M) rfl ?_
    refine vm_WM.seq 13 1 (pc' := 29) (L' := [.ref 0, .int a1, .int a2, .int a3]) (S' := [.int (Int32.ofInt (-1000001))]) (M' := M) rfl ?_
    exact vm_WM.ret (r := some (.int (Int32.ofInt (-1000001)))) 14 rfl rfl rfl ⟨_, rfl, h⟩
  · replace h := h.2 hc
    refine vm_WM.seq 2 3 (pc' := 9) (L' := [.ref 7, .int a1]) (S' := [.int (M 7 0), .int a1]) (M' := M) rfl ?_
    refine vm_WM.if (c := a1 < (M 7 0)) (t1 := 12) (t2 := 16) (S' := []) 5 rfl rfl rfl (fun hc => ?_) (fun hc => ?_)
    · replace h := h.1 hc
      refine vm_WM.seq 6 2 (pc' := 17) (L' := [.ref 7, .int a1]) (S' := [.int (nI 1)]) (M' := M) rfl ?_
      refine vm_WM.ret (r := some (.int (nI 1))) 9 rfl rfl rfl ?_
      show vm_WM X 90 8 [.ref 0, .int a1, .int a2, .int a3] [.int (nI 1)] M _
      refine vm_WM.seq 4 2 (pc' := 12) (L' := [.ref 0, .int a1, .int a2, .int a3]) (S' := [.int a2]) (M' := M) rfl ?_
      refine vm_WM.call (a := 105) (as := [.int a2]) (rest := []) (L0 := [.int a2]) 6 rfl rfl (by decide) rfl rfl ⟨rfl, Or.inl rfl, Nat.le_of_ble_eq_true rfl, Nat.le_of_ble_eq_true rfl⟩ rfl rfl rfl ?_
      refine vm_WM.seq 0 1 (pc' := 1) (L' := [.int a2]) (S' := [.int a2]) (M' := M) rfl ?_
      refine vm_WM.if (c := a2 < 0) (t1 := 14) (t2 := 4) (S' := []) 1 rfl rfl rfl (fun hc => ?_) (fun hc => ?_)
      · replace h := h.1 hc
        refine vm_WM.seq 7 1 (pc' := 15) (L' := [.int a2]) (S' := [.int (nI 0)]) (M' := M) rfl ?_
        refine vm_WM.ret (r := some (.int (nI 0))) 8 rfl rfl rfl ?_
        show vm_WM X 90 15 [.ref 0, .int a1, .int a2, .int a3] [.int (nI 0)] M _
        refine vm_WM.seq 7 1 (pc' := 27) (L' := [.ref 0, .int a1, .int a2, .int a3]) (S' := []) (M' := M) rfl ?_
        refine vm_WM.seq 13 1 (pc' := 29) (L' := [.ref 0, .int a1, .int a2, .int a3]) (S' := [.int (Int32.ofInt (-1000001))]) (M' := M) rfl ?_
        exact vm_WM.ret (r := some (.int (Int32.ofInt (-1000001)))) 14 rfl rfl rfl ⟨_, rfl, h⟩
      · replace h := h.2 hc
        refine vm_WM.seq 2 2 (pc' := 7) (L' := [.int a2]) (S' := [.int (nI 60), .int a2]) (M' := M) rfl ?_
        refine vm_WM.if (c := (nI 60) < a2) (t1 := 14) (t2 := 10) (S' := []) 4 rfl rfl rfl (fun hc => ?_) (fun hc => ?_)
        · replace h := h.1 hc
          refine vm_WM.seq 7 1 (pc' := 15) (L' := [.int a2]) (S' := [.int (nI 0)]) (M' := M) rfl ?_
          refine vm_WM.ret (r := some (.int (nI 0))) 8 rfl rfl rfl ?_
          show vm_WM X 90 15 [.ref 0, .int a1, .int a2, .int a3] [.int (nI 0)] M _
          refine vm_WM.seq 7 1 (pc' := 27) (L' := [.ref 0, .int a1, .int a2, .int a3]) (S' := []) (M' := M) rfl ?_
          refine vm_WM.seq 13 1 (pc' := 29) (L' := [.ref 0, .int a1, .int a2, .int a3]) (S' := [.int (Int32.ofInt (-1000001))]) (M' := M) rfl ?_
          exact vm_WM.ret (r := some (.int (Int32.ofInt (-1000001)))) 14 rfl rfl rfl ⟨_, rfl, h⟩
        · replace h := h.2 hc
          refine vm_WM.seq 5 2 (pc' := 15) (L' := [.int a2]) (S' := [.int (nI 1)]) (M' := M) rfl ?_
          refine vm_WM.ret (r := some (.int (nI 1))) 8 rfl rfl rfl ?_
          show vm_WM X 90 15 [.ref 0, .int a1, .int a2, .int a3] [.int (nI 1)] M _
          refine vm_WM.seq 7 2 (pc' := 19) (L' := [.ref 0, .int a1, .int a2, .int a3]) (S' := [.int a3]) (M' := M) rfl ?_
          refine vm_WM.if (c := a3 < 0) (t1 := 27) (t2 := 22) (S' := []) 9 rfl rfl rfl (fun hc => ?_) (fun hc => ?_)
          · replace h := h.1 hc
            refine vm_WM.seq 13 1 (pc' := 29) (L' := [.ref 0, .int a1, .int a2, .int a3]) (S' := [.int (Int32.ofInt (-1000001))]) (M' := M) rfl ?_
            exact vm_WM.ret (r := some (.int (Int32.ofInt (-1000001)))) 14 rfl rfl rfl ⟨_, rfl, h⟩
          · replace h := h.2 hc
            refine vm_WM.seq 10 2 (pc' := 24) (L' := [.ref 0, .int a1, .int a2, .int a3]) (S' := [.int (nI 1), .int a3]) (M' := M) rfl ?_
            refine vm_WM.if (c := (nI 1) < a3) (t1 := 27) (t2 := 30) (S' := []) 12 rfl rfl rfl (fun hc => ?_) (fun hc => ?_)
            · replace h := h.1 hc
              refine vm_WM.seq 13 1 (pc' := 29) (L' := [.ref 0, .int a1, .int a2, .int a3]) (S' := [.int (Int32.ofInt (-1000001))]) (M' := M) rfl ?_
              exact vm_WM.ret (r := some (.int (Int32.ofInt (-1000001)))) 14 rfl rfl rfl ⟨_, rfl, h⟩
            · replace h := h.2 hc
              refine vm_WM.seq 15 1 (pc' := 31) (L' := [.ref 0, .int a1, .int a2, .int a3]) (S' := [.int a3]) (M' := M) rfl ?_
              refine vm_WM.if (c := a3 = 0) (t1 := 34) (t2 := 46) (S' := []) 16 rfl rfl rfl (fun hc => ?_) (fun hc => ?_)
              · replace h := h.1 hc
                refine vm_WM.seq 17 4 (pc' := 40) (L' := [.ref 0, .int a1, .int a2, .int a3]) (S' := [.int a2, .int a1, .ref 41]) (M' := M) rfl ?_
                refine vm_WM.call (a := 20) (as := [.ref 41, .int a1, .int a2]) (rest := []) (L0 := [.ref 41, .int a1, .int a2]) 21 rfl rfl (by decide) rfl rfl ⟨rfl, Or.inr rfl, Nat.le_of_ble_eq_true rfl, Nat.le_of_ble_eq_true rfl⟩ rfl rfl rfl ?_
                refine vm_WM.theni h (fun v1 M2 h => ?_)
                show vm_WM X 90 43 [.ref 0, .int a1, .int a2, .int a3] [.int v1] M2 _
                refine vm_WM.seq 22 1 (pc' := 55) (L' := [.ref 0, .int a1, .int a2, .int a3]) (S' := [.int v1]) (M' := M2) rfl ?_
                exact vm_WM.ret (r := some (.int v1)) 28 rfl rfl rfl ⟨_, rfl, h⟩
              · replace h := h.2 hc
                refine vm_WM.seq 23 4 (pc' := 52) (L' := [.ref 0, .int a1, .int a2, .int a3]) (S' := [.int a2, .int a1, .ref 41]) (M' := M) rfl ?_
                refine vm_WM.call (a := 21) (as := [.ref 41, .int a1, .int a2]) (rest := []) (L0 := [.ref 41, .int a1, .int a2, .null]) 27 rfl rfl (by decide) rfl rfl ⟨rfl, Or.inr rfl, Nat.le_of_ble_eq_true rfl, Nat.le_of_ble_eq_true rfl⟩ rfl rfl rfl ?_
                refine vm_WM.theni h (fun v3 M4 h => ?_)
                show vm_WM X 90 55 [.ref 0, .int a1, .int a2, .int a3] [.int v3] M4 _
                exact vm_WM.ret (r := some (.int v3)) 28 rfl rfl rfl ⟨_, rfl, h⟩
    · replace h := h.2 hc
      refine vm_WM.seq 8 1 (pc' := 17) (L' := [.ref 7, .int a1]) (S' := [.int (nI 0)]) (M' := M) rfl ?_
      refine vm_WM.ret (r := some (.int (nI 0))) 9 rfl rfl rfl ?_
      show vm_WM X 90 8 [.ref 0, .int a1, .int a2, .int a3] [.int (nI 0)] M _
      refine vm_WM.seq 4 1 (pc' := 27) (L' := [.ref 0, .int a1, .int a2, .int a3]) (S' := []) (M' := M) rfl ?_
      refine vm_WM.seq 13 1 (pc' := 29) (L' := [.ref 0, .int a1, .int a2, .int a3]) (S' := [.int (Int32.ofInt (-1000001))]) (M' := M) rfl ?_
      exact vm_WM.ret (r := some (.int (Int32.ofInt (-1000001)))) 14 rfl rfl rfl ⟨_, rfl, h⟩
theorem v_B_last {X : Nat × (Nat → Int32)} {a1 : Int32} {M : vm_M} {P : Int32 → vm_M → Prop} (h : ((M 7 0) = 0 → (P (Int32.ofInt (-1000002)) M)) ∧ (¬ ((M 7 0) = 0) → ((a1 < 0 → (P (Int32.ofInt (-1000001)) M)) ∧ (¬ (a1 < 0) → (((nI 1) < a1 → (P (Int32.ofInt (-1000001)) M)) ∧ (¬ ((nI 1) < a1) → (E_Foretold_runOut X (M 7 2) M (fun M1 => (a1 = 0 → (P (M1 41 1) M1)) ∧ (¬ (a1 = 0) → (P (M1 41 2) M1)))))))))) : E_B_last X a1 M P := by
  unfold E_B_last
  refine vm_WM.seq 0 2 (pc' := 4) (L' := [.ref 0, .int a1]) (S' := [.ref 7]) (M' := M) rfl ?_
  refine vm_WM.call (a := 37) (as := [.ref 7]) (rest := []) (L0 := [.ref 7]) 2 rfl rfl (by decide) rfl rfl ⟨rfl, Or.inr rfl, Nat.le_of_ble_eq_true rfl, Nat.le_of_ble_eq_true rfl⟩ rfl rfl rfl ?_
  refine vm_WM.seq 0 2 (pc' := 4) (L' := [.ref 7]) (S' := [.int (M 7 0)]) (M' := M) rfl ?_
  refine vm_WM.if (c := (M 7 0) = 0) (t1 := 7) (t2 := 11) (S' := []) 2 rfl rfl rfl (fun hc => ?_) (fun hc => ?_)
  · replace h := h.1 hc
    refine vm_WM.seq 3 2 (pc' := 12) (L' := [.ref 7]) (S' := [.int (nI 1)]) (M' := M) rfl ?_
    refine vm_WM.ret (r := some (.int (nI 1))) 6 rfl rfl rfl ?_
    show vm_WM X 91 7 [.ref 0, .int a1] [.int (nI 1)] M _
    refine vm_WM.seq 3 2 (pc' := 12) (L' := [.ref 0, .int a1]) (S' := [.int (Int32.ofInt (-1000002))]) (M' := M) rfl ?_
    exact vm_WM.ret (r := some (.int (Int32.ofInt (-1000002)))) 5 rfl rfl rfl ⟨_, rfl, h⟩
  · replace h := h.2 hc
    refine vm_WM.seq 5 1 (pc' := 12) (L' := [.ref 7]) (S' := [.int (nI 0)]) (M' := M) rfl ?_
    refine vm_WM.ret (r := some (.int (nI 0))) 6 rfl rfl rfl ?_
    show vm_WM X 91 7 [.ref 0, .int a1] [.int (nI 0)] M _
    refine vm_WM.seq 3 1 (pc' := 13) (L' := [.ref 0, .int a1]) (S' := []) (M' := M) rfl ?_
    refine vm_WM.seq 6 1 (pc' := 14) (L' := [.ref 0, .int a1]) (S' := [.int a1]) (M' := M) rfl ?_
    refine vm_WM.if (c := a1 < 0) (t1 := 22) (t2 := 17) (S' := []) 7 rfl rfl rfl (fun hc => ?_) (fun hc => ?_)
    · replace h := h.1 hc
      refine vm_WM.seq 11 1 (pc' := 24) (L' := [.ref 0, .int a1]) (S' := [.int (Int32.ofInt (-1000001))]) (M' := M) rfl ?_
      exact vm_WM.ret (r := some (.int (Int32.ofInt (-1000001)))) 12 rfl rfl rfl ⟨_, rfl, h⟩
    · replace h := h.2 hc
      refine vm_WM.seq 8 2 (pc' := 19) (L' := [.ref 0, .int a1]) (S' := [.int (nI 1), .int a1]) (M' := M) rfl ?_
      refine vm_WM.if (c := (nI 1) < a1) (t1 := 22) (t2 := 25) (S' := []) 10 rfl rfl rfl (fun hc => ?_) (fun hc => ?_)
      · replace h := h.1 hc
        refine vm_WM.seq 11 1 (pc' := 24) (L' := [.ref 0, .int a1]) (S' := [.int (Int32.ofInt (-1000001))]) (M' := M) rfl ?_
        exact vm_WM.ret (r := some (.int (Int32.ofInt (-1000001)))) 12 rfl rfl rfl ⟨_, rfl, h⟩
      · replace h := h.2 hc
        refine vm_WM.seq 13 5 (pc' := 36) (L' := [.ref 0, .int a1]) (S' := [.int (M 7 2), .ref 41]) (M' := M) rfl ?_
        refine vm_WM.call (a := 26) (as := [.ref 41, .int (M 7 2)]) (rest := []) (L0 := [.ref 41, .int (M 7 2), .null, .null]) 18 rfl rfl (by decide) rfl rfl ⟨rfl, Or.inr rfl, Nat.le_of_ble_eq_true rfl, Nat.le_of_ble_eq_true rfl⟩ rfl rfl rfl ?_
        refine vm_WM.thenv h (fun M1 h => ?_)
        show vm_WM X 91 39 [.ref 0, .int a1] [] M1 _
        refine vm_WM.seq 19 1 (pc' := 40) (L' := [.ref 0, .int a1]) (S' := [.int a1]) (M' := M1) rfl ?_
        refine vm_WM.if (c := a1 = 0) (t1 := 43) (t2 := 53) (S' := []) 20 rfl rfl rfl (fun hc => ?_) (fun hc => ?_)
        · replace h := h.1 hc
          refine vm_WM.seq 21 4 (pc' := 60) (L' := [.ref 0, .int a1]) (S' := [.int (M1 41 1)]) (M' := M1) rfl ?_
          exact vm_WM.ret (r := some (.int (M1 41 1))) 28 rfl rfl rfl ⟨_, rfl, h⟩
        · replace h := h.2 hc
          refine vm_WM.seq 25 3 (pc' := 60) (L' := [.ref 0, .int a1]) (S' := [.int (M1 41 2)]) (M' := M1) rfl ?_
          exact vm_WM.ret (r := some (.int (M1 41 2))) 28 rfl rfl rfl ⟨_, rfl, h⟩
theorem v_B_crow {X : Nat × (Nat → Int32)} {a1 : Int32} {M : vm_M} {P : Int32 → vm_M → Prop} (h : (a1 < 0 → (P (Int32.ofInt (-1000001)) M)) ∧ (¬ (a1 < 0) → ((a1 < (M 7 0) → (E_Foretold_dawnFor X a1 M (fun v1 M2 => P v1 M2))) ∧ (¬ (a1 < (M 7 0)) → (P (Int32.ofInt (-1000001)) M))))) : E_B_crow X a1 M P := by
  unfold E_B_crow
  refine vm_WM.seq 0 3 (pc' := 5) (L' := [.ref 0, .int a1]) (S' := [.int a1, .ref 7]) (M' := M) rfl ?_
  refine vm_WM.call (a := 38) (as := [.ref 7, .int a1]) (rest := []) (L0 := [.ref 7, .int a1]) 3 rfl rfl (by decide) rfl rfl ⟨rfl, Or.inr rfl, Nat.le_of_ble_eq_true rfl, Nat.le_of_ble_eq_true rfl⟩ rfl rfl rfl ?_
  refine vm_WM.seq 0 1 (pc' := 1) (L' := [.ref 7, .int a1]) (S' := [.int a1]) (M' := M) rfl ?_
  refine vm_WM.if (c := a1 < 0) (t1 := 16) (t2 := 4) (S' := []) 1 rfl rfl rfl (fun hc => ?_) (fun hc => ?_)
  · replace h := h.1 hc
    refine vm_WM.seq 8 1 (pc' := 17) (L' := [.ref 7, .int a1]) (S' := [.int (nI 0)]) (M' := M) rfl ?_
    refine vm_WM.ret (r := some (.int (nI 0))) 9 rfl rfl rfl ?_
    show vm_WM X 92 8 [.ref 0, .int a1] [.int (nI 0)] M _
    refine vm_WM.seq 4 1 (pc' := 22) (L' := [.ref 0, .int a1]) (S' := []) (M' := M) rfl ?_
    refine vm_WM.seq 10 1 (pc' := 24) (L' := [.ref 0, .int a1]) (S' := [.int (Int32.ofInt (-1000001))]) (M' := M) rfl ?_
    exact vm_WM.ret (r := some (.int (Int32.ofInt (-1000001)))) 11 rfl rfl rfl ⟨_, rfl, h⟩
  · replace h := h.2 hc
    refine vm_WM.seq 2 3 (pc' := 9) (L' := [.ref 7, .int a1]) (S' := [.int (M 7 0), .int a1]) (M' := M) rfl ?_
    refine vm_WM.if (c := a1 < (M 7 0)) (t1 := 12) (t2 := 16) (S' := []) 5 rfl rfl rfl (fun hc => ?_) (fun hc => ?_)
    · replace h := h.1 hc
      refine vm_WM.seq 6 2 (pc' := 17) (L' := [.ref 7, .int a1]) (S' := [.int (nI 1)]) (M' := M) rfl ?_
      refine vm_WM.ret (r := some (.int (nI 1))) 9 rfl rfl rfl ?_
      show vm_WM X 92 8 [.ref 0, .int a1] [.int (nI 1)] M _
      refine vm_WM.seq 4 4 (pc' := 16) (L' := [.ref 0, .int a1]) (S' := [.int a1, .ref 41]) (M' := M) rfl ?_
      refine vm_WM.call (a := 27) (as := [.ref 41, .int a1]) (rest := []) (L0 := [.ref 41, .int a1, .null]) 8 rfl rfl (by decide) rfl rfl ⟨rfl, Or.inr rfl, Nat.le_of_ble_eq_true rfl, Nat.le_of_ble_eq_true rfl⟩ rfl rfl rfl ?_
      refine vm_WM.theni h (fun v1 M2 h => ?_)
      show vm_WM X 92 19 [.ref 0, .int a1] [.int v1] M2 _
      refine vm_WM.seq 9 1 (pc' := 24) (L' := [.ref 0, .int a1]) (S' := [.int v1]) (M' := M2) rfl ?_
      exact vm_WM.ret (r := some (.int v1)) 11 rfl rfl rfl ⟨_, rfl, h⟩
    · replace h := h.2 hc
      refine vm_WM.seq 8 1 (pc' := 17) (L' := [.ref 7, .int a1]) (S' := [.int (nI 0)]) (M' := M) rfl ?_
      refine vm_WM.ret (r := some (.int (nI 0))) 9 rfl rfl rfl ?_
      show vm_WM X 92 8 [.ref 0, .int a1] [.int (nI 0)] M _
      refine vm_WM.seq 4 1 (pc' := 22) (L' := [.ref 0, .int a1]) (S' := []) (M' := M) rfl ?_
      refine vm_WM.seq 10 1 (pc' := 24) (L' := [.ref 0, .int a1]) (S' := [.int (Int32.ofInt (-1000001))]) (M' := M) rfl ?_
      exact vm_WM.ret (r := some (.int (Int32.ofInt (-1000001)))) 11 rfl rfl rfl ⟨_, rfl, h⟩
theorem v_B_where {X : Nat × (Nat → Int32)} {a1 : Int32} {a2 : Int32} {a3 : Int32} {a4 : Int32} {M : vm_M} {P : Int32 → vm_M → Prop} (h : ((M 7 0) = 0 → (P (Int32.ofInt (-1000002)) M)) ∧ (¬ ((M 7 0) = 0) → ((a1 < 0 → (P (Int32.ofInt (-1000001)) M)) ∧ (¬ (a1 < 0) → ((a1 < (nI 8) → ((a3 < 0 → (P (Int32.ofInt (-1000001)) M)) ∧ (¬ (a3 < 0) → (((nI 10) < a3 → (P (Int32.ofInt (-1000001)) M)) ∧ (¬ ((nI 10) < a3) → ((a4 < 0 → (P (Int32.ofInt (-1000001)) M)) ∧ (¬ (a4 < 0) → (((nI 60) < a4 → (P (Int32.ofInt (-1000001)) M)) ∧ (¬ ((nI 60) < a4) → (E_Rows_lapse X a1 a2 ((nI 2) * a3) M (fun v1 M2 => (v1 = 0 → (E_Foretold_forgetSeen X  M2 (fun M3 => C_B_where_77 X a1 a2 a3 a4 v1 (nI 0) (.null) (.null) M3 P))) ∧ (¬ (v1 = 0) → (P ((Int32.ofInt (-1000010)) - v1) (vm_u2 M2 0 9 v1)))))))))))))) ∧ (¬ (a1 < (nI 8)) → (P (Int32.ofInt (-1000001)) M))))))) : E_B_where X a1 a2 a3 a4 M P := by
  unfold E_B_where
  refine vm_WM.seq 0 2 (pc' := 4) (L' := [.ref 0, .int a1, .int a2, .int a3, .int a4, .null, .null, .null, .null]) (S' := [.ref 7]) (M' := M) rfl ?_
  refine vm_WM.call (a := 37) (as := [.ref 7]) (rest := []) (L0 := [.ref 7]) 2 rfl rfl (by decide) rfl rfl ⟨rfl, Or.inr rfl, Nat.le_of_ble_eq_true rfl, Nat.le_of_ble_eq_true rfl⟩ rfl rfl rfl ?_
  refine vm_WM.seq 0 2 (pc' := 4) (L' := [.ref 7]) (S' := [.int (M 7 0)]) (M' := M) rfl ?_
  refine vm_WM.if (c := (M 7 0) = 0) (t1 := 7) (t2 := 11) (S' := []) 2 rfl rfl rfl (fun hc => ?_) (fun hc => ?_)
  · replace h := h.1 hc
    refine vm_WM.seq 3 2 (pc' := 12) (L' := [.ref 7]) (S' := [.int (nI 1)]) (M' := M) rfl ?_
    refine vm_WM.ret (r := some (.int (nI 1))) 6 rfl rfl rfl ?_
    show vm_WM X 93 7 [.ref 0, .int a1, .int a2, .int a3, .int a4, .null, .null, .null, .null] [.int (nI 1)] M _
    refine vm_WM.seq 3 2 (pc' := 12) (L' := [.ref 0, .int a1, .int a2, .int a3, .int a4, .null, .null, .null, .null]) (S' := [.int (Int32.ofInt (-1000002))]) (M' := M) rfl ?_
    exact vm_WM.ret (r := some (.int (Int32.ofInt (-1000002)))) 5 rfl rfl rfl ⟨_, rfl, h⟩
  · replace h := h.2 hc
    refine vm_WM.seq 5 1 (pc' := 12) (L' := [.ref 7]) (S' := [.int (nI 0)]) (M' := M) rfl ?_
    refine vm_WM.ret (r := some (.int (nI 0))) 6 rfl rfl rfl ?_
    show vm_WM X 93 7 [.ref 0, .int a1, .int a2, .int a3, .int a4, .null, .null, .null, .null] [.int (nI 0)] M _
    refine vm_WM.seq 3 1 (pc' := 13) (L' := [.ref 0, .int a1, .int a2, .int a3, .int a4, .null, .null, .null, .null]) (S' := []) (M' := M) rfl ?_
    refine vm_WM.seq 6 1 (pc' := 14) (L' := [.ref 0, .int a1, .int a2, .int a3, .int a4, .null, .null, .null, .null]) (S' := [.int a1]) (M' := M) rfl ?_
    refine vm_WM.call (a := 104) (as := [.int a1]) (rest := []) (L0 := [.int a1]) 7 rfl rfl (by decide) rfl rfl ⟨rfl, Or.inl rfl, Nat.le_of_ble_eq_true rfl, Nat.le_of_ble_eq_true rfl⟩ rfl rfl rfl ?_
    refine vm_WM.seq 0 1 (pc' := 1) (L' := [.int a1]) (S' := [.int a1]) (M' := M) rfl ?_
    refine vm_WM.if (c := a1 < 0) (t1 := 14) (t2 := 4) (S' := []) 1 rfl rfl rfl (fun hc => ?_) (fun hc => ?_)
    · replace h := h.1 hc
      refine vm_WM.seq 7 1 (pc' := 15) (L' := [.int a1]) (S' := [.int (nI 0)]) (M' := M) rfl ?_
      refine vm_WM.ret (r := some (.int (nI 0))) 8 rfl rfl rfl ?_
      show vm_WM X 93 17 [.ref 0, .int a1, .int a2, .int a3, .int a4, .null, .null, .null, .null] [.int (nI 0)] M _
      refine vm_WM.seq 8 1 (pc' := 38) (L' := [.ref 0, .int a1, .int a2, .int a3, .int a4, .null, .null, .null, .null]) (S' := []) (M' := M) rfl ?_
      refine vm_WM.seq 17 1 (pc' := 40) (L' := [.ref 0, .int a1, .int a2, .int a3, .int a4, .null, .null, .null, .null]) (S' := [.int (Int32.ofInt (-1000001))]) (M' := M) rfl ?_
      exact vm_WM.ret (r := some (.int (Int32.ofInt (-1000001)))) 18 rfl rfl rfl ⟨_, rfl, h⟩
    · replace h := h.2 hc
      refine vm_WM.seq 2 2 (pc' := 7) (L' := [.int a1]) (S' := [.int (nI 8), .int a1]) (M' := M) rfl ?_
      refine vm_WM.if (c := a1 < (nI 8)) (t1 := 10) (t2 := 14) (S' := []) 4 rfl rfl rfl (fun hc => ?_) (fun hc => ?_)
      · replace h := h.1 hc
        refine vm_WM.seq 5 2 (pc' := 15) (L' := [.int a1]) (S' := [.int (nI 1)]) (M' := M) rfl ?_
        refine vm_WM.ret (r := some (.int (nI 1))) 8 rfl rfl rfl ?_
        show vm_WM X 93 17 [.ref 0, .int a1, .int a2, .int a3, .int a4, .null, .null, .null, .null] [.int (nI 1)] M _
        refine vm_WM.seq 8 2 (pc' := 21) (L' := [.ref 0, .int a1, .int a2, .int a3, .int a4, .null, .null, .null, .null]) (S' := [.int a3]) (M' := M) rfl ?_
        refine vm_WM.if (c := a3 < 0) (t1 := 38) (t2 := 24) (S' := []) 10 rfl rfl rfl (fun hc => ?_) (fun hc => ?_)
        · replace h := h.1 hc
          refine vm_WM.seq 17 1 (pc' := 40) (L' := [.ref 0, .int a1, .int a2, .int a3, .int a4, .null, .null, .null, .null]) (S' := [.int (Int32.ofInt (-1000001))]) (M' := M) rfl ?_
          exact vm_WM.ret (r := some (.int (Int32.ofInt (-1000001)))) 18 rfl rfl rfl ⟨_, rfl, h⟩
        · replace h := h.2 hc
          refine vm_WM.seq 11 2 (pc' := 27) (L' := [.ref 0, .int a1, .int a2, .int a3, .int a4, .null, .null, .null, .null]) (S' := [.int (nI 10), .int a3]) (M' := M) rfl ?_
          refine vm_WM.if (c := (nI 10) < a3) (t1 := 38) (t2 := 30) (S' := []) 13 rfl rfl rfl (fun hc => ?_) (fun hc => ?_)
          · replace h := h.1 hc
            refine vm_WM.seq 17 1 (pc' := 40) (L' := [.ref 0, .int a1, .int a2, .int a3, .int a4, .null, .null, .null, .null]) (S' := [.int (Int32.ofInt (-1000001))]) (M' := M) rfl ?_
            exact vm_WM.ret (r := some (.int (Int32.ofInt (-1000001)))) 18 rfl rfl rfl ⟨_, rfl, h⟩
          · replace h := h.2 hc
            refine vm_WM.seq 14 1 (pc' := 32) (L' := [.ref 0, .int a1, .int a2, .int a3, .int a4, .null, .null, .null, .null]) (S' := [.int a4]) (M' := M) rfl ?_
            refine vm_WM.call (a := 105) (as := [.int a4]) (rest := []) (L0 := [.int a4]) 15 rfl rfl (by decide) rfl rfl ⟨rfl, Or.inl rfl, Nat.le_of_ble_eq_true rfl, Nat.le_of_ble_eq_true rfl⟩ rfl rfl rfl ?_
            refine vm_WM.seq 0 1 (pc' := 1) (L' := [.int a4]) (S' := [.int a4]) (M' := M) rfl ?_
            refine vm_WM.if (c := a4 < 0) (t1 := 14) (t2 := 4) (S' := []) 1 rfl rfl rfl (fun hc => ?_) (fun hc => ?_)
            · replace h := h.1 hc
              refine vm_WM.seq 7 1 (pc' := 15) (L' := [.int a4]) (S' := [.int (nI 0)]) (M' := M) rfl ?_
              refine vm_WM.ret (r := some (.int (nI 0))) 8 rfl rfl rfl ?_
              show vm_WM X 93 35 [.ref 0, .int a1, .int a2, .int a3, .int a4, .null, .null, .null, .null] [.int (nI 0)] M _
              refine vm_WM.seq 16 2 (pc' := 40) (L' := [.ref 0, .int a1, .int a2, .int a3, .int a4, .null, .null, .null, .null]) (S' := [.int (Int32.ofInt (-1000001))]) (M' := M) rfl ?_
              exact vm_WM.ret (r := some (.int (Int32.ofInt (-1000001)))) 18 rfl rfl rfl ⟨_, rfl, h⟩
            · replace h := h.2 hc
              refine vm_WM.seq 2 2 (pc' := 7) (L' := [.int a4]) (S' := [.int (nI 60), .int a4]) (M' := M) rfl ?_
              refine vm_WM.if (c := (nI 60) < a4) (t1 := 14) (t2 := 10) (S' := []) 4 rfl rfl rfl (fun hc => ?_) (fun hc => ?_)
              · replace h := h.1 hc
                refine vm_WM.seq 7 1 (pc' := 15) (L' := [.int a4]) (S' := [.int (nI 0)]) (M' := M) rfl ?_
                refine vm_WM.ret (r := some (.int (nI 0))) 8 rfl rfl rfl ?_
                show vm_WM X 93 35 [.ref 0, .int a1, .int a2, .int a3, .int a4, .null, .null, .null, .null] [.int (nI 0)] M _
                refine vm_WM.seq 16 2 (pc' := 40) (L' := [.ref 0, .int a1, .int a2, .int a3, .int a4, .null, .null, .null, .null]) (S' := [.int (Int32.ofInt (-1000001))]) (M' := M) rfl ?_
                exact vm_WM.ret (r := some (.int (Int32.ofInt (-1000001)))) 18 rfl rfl rfl ⟨_, rfl, h⟩
              · replace h := h.2 hc
                refine vm_WM.seq 5 2 (pc' := 15) (L' := [.int a4]) (S' := [.int (nI 1)]) (M' := M) rfl ?_
                refine vm_WM.ret (r := some (.int (nI 1))) 8 rfl rfl rfl ?_
                show vm_WM X 93 35 [.ref 0, .int a1, .int a2, .int a3, .int a4, .null, .null, .null, .null] [.int (nI 1)] M _
                refine vm_WM.seq 16 1 (pc' := 41) (L' := [.ref 0, .int a1, .int a2, .int a3, .int a4, .null, .null, .null, .null]) (S' := []) (M' := M) rfl ?_
                refine vm_WM.seq 19 7 (pc' := 50) (L' := [.ref 0, .int a1, .int a2, .int a3, .int a4, .null, .null, .null, .null]) (S' := [.int ((nI 2) * a3), .int a2, .int a1, .ref 1]) (M' := M) rfl ?_
                refine vm_WM.call (a := 52) (as := [.ref 1, .int a1, .int a2, .int ((nI 2) * a3)]) (rest := []) (L0 := [.ref 1, .int a1, .int a2, .int ((nI 2) * a3)]) 26 rfl rfl (by decide) rfl rfl ⟨rfl, Or.inr rfl, Nat.le_of_ble_eq_true rfl, Nat.le_of_ble_eq_true rfl⟩ rfl rfl rfl ?_
                refine vm_WM.theni h (fun v1 M2 h => ?_)
                show vm_WM X 93 53 [.ref 0, .int a1, .int a2, .int a3, .int a4, .null, .null, .null, .null] [.int v1] M2 _
                refine vm_WM.seq 27 2 (pc' := 57) (L' := [.ref 0, .int a1, .int a2, .int a3, .int a4, .int v1, .null, .null, .null]) (S' := [.int v1]) (M' := M2) rfl ?_
                refine vm_WM.if (c := v1 = 0) (t1 := 67) (t2 := 60) (S' := []) 29 rfl rfl rfl (fun hc => ?_) (fun hc => ?_)
                · replace h := h.1 hc
                  refine vm_WM.seq 34 2 (pc' := 71) (L' := [.ref 0, .int a1, .int a2, .int a3, .int a4, .int v1, .null, .null, .null]) (S' := [.ref 41]) (M' := M2) rfl ?_
                  refine vm_WM.call (a := 28) (as := [.ref 41]) (rest := []) (L0 := [.ref 41, .null]) 36 rfl rfl (by decide) rfl rfl ⟨rfl, Or.inr rfl, Nat.le_of_ble_eq_true rfl, Nat.le_of_ble_eq_true rfl⟩ rfl rfl rfl ?_
                  refine vm_WM.thenv h (fun M3 h => ?_)
                  show vm_WM X 93 74 [.ref 0, .int a1, .int a2, .int a3, .int a4, .int v1, .null, .null, .null] [] M3 _
                  refine vm_WM.seq 37 2 (pc' := 77) (L' := [.ref 0, .int a1, .int a2, .int a3, .int a4, .int v1, .int (nI 0), .null, .null]) (S' := []) (M' := M3) rfl ?_
                  exact h
                · replace h := h.2 hc
                  refine vm_WM.seq 30 2 (pc' := 63) (L' := [.ref 0, .int a1, .int a2, .int a3, .int a4, .int v1, .null, .null, .null]) (S' := [.int v1, .ref 0]) (M' := M2) rfl ?_
                  refine vm_WM.call (a := 102) (as := [.ref 0, .int v1]) (rest := []) (L0 := [.ref 0, .int v1]) 32 rfl rfl (by decide) rfl rfl ⟨rfl, Or.inr rfl, Nat.le_of_ble_eq_true rfl, Nat.le_of_ble_eq_true rfl⟩ rfl rfl rfl ?_
                  refine vm_WM.seq 0 6 (pc' := 9) (L' := [.ref 0, .int v1]) (S' := [.int ((Int32.ofInt (-1000010)) - v1)]) (M' := (vm_u2 M2 0 9 v1)) rfl ?_
                  refine vm_WM.ret (r := some (.int ((Int32.ofInt (-1000010)) - v1))) 6 rfl rfl rfl ?_
                  show vm_WM X 93 66 [.ref 0, .int a1, .int a2, .int a3, .int a4, .int v1, .null, .null, .null] [.int ((Int32.ofInt (-1000010)) - v1)] (vm_u2 M2 0 9 v1) _
                  exact vm_WM.ret (r := some (.int ((Int32.ofInt (-1000010)) - v1))) 33 rfl rfl rfl ⟨_, rfl, h⟩
      · replace h := h.2 hc
        refine vm_WM.seq 7 1 (pc' := 15) (L' := [.int a1]) (S' := [.int (nI 0)]) (M' := M) rfl ?_
        refine vm_WM.ret (r := some (.int (nI 0))) 8 rfl rfl rfl ?_
        show vm_WM X 93 17 [.ref 0, .int a1, .int a2, .int a3, .int a4, .null, .null, .null, .null] [.int (nI 0)] M _
        refine vm_WM.seq 8 1 (pc' := 38) (L' := [.ref 0, .int a1, .int a2, .int a3, .int a4, .null, .null, .null, .null]) (S' := []) (M' := M) rfl ?_
        refine vm_WM.seq 17 1 (pc' := 40) (L' := [.ref 0, .int a1, .int a2, .int a3, .int a4, .null, .null, .null, .null]) (S' := [.int (Int32.ofInt (-1000001))]) (M' := M) rfl ?_
        exact vm_WM.ret (r := some (.int (Int32.ofInt (-1000001)))) 18 rfl rfl rfl ⟨_, rfl, h⟩
theorem v_B_where_77 {X : Nat × (Nat → Int32)} {x1 : Int32} {x2 : Int32} {x3 : Int32} {x4 : Int32} {x5 : Int32} {x6 : Int32} {w7 : Value} {w8 : Value} {M : vm_M} {P : Int32 → vm_M → Prop} (h : (x6 < x3 → (∃ j1 : Nat, ((x1 * (nI 40)) + (x2 + ((nI 2) * x6))) = nI j1 ∧ j1 < 320 ∧ (∃ j2 : Nat, ((x1 * (nI 40)) + ((x2 + ((nI 2) * x6)) + (nI 1))) = nI j2 ∧ j2 < 320 ∧ (((M 4 j1) < 0 → (P (Int32.ofInt (-1000001)) M)) ∧ (¬ ((M 4 j1) < 0) → (((M 4 j1) < (M 7 0) → (((M 4 j2) < 0 → (P (Int32.ofInt (-1000001)) M)) ∧ (¬ ((M 4 j2) < 0) → (((nI 60) < (M 4 j2) → (P (Int32.ofInt (-1000001)) M)) ∧ (¬ ((nI 60) < (M 4 j2)) → (E_Foretold_noteSeen X (M 4 j1) (M 4 j2) M (fun M3 => C_B_where_77 X x1 x2 x3 x4 x5 (x6 + (nI 1)) (.int (M 4 j1)) (.int (M 4 j2)) M3 P))))))) ∧ (¬ ((M 4 j1) < (M 7 0)) → (P (Int32.ofInt (-1000001)) M)))))))) ∧ (¬ (x6 < x3) → (E_Foretold_withWhom X x4 (vm_u2 M 0 9 (nI 0)) (fun v4 M5 => P v4 M5)))) : C_B_where_77 X x1 x2 x3 x4 x5 x6 w7 w8 M P := by
  unfold C_B_where_77
  refine vm_WM.seq 39 2 (pc' := 80) (L' := [.ref 0, .int x1, .int x2, .int x3, .int x4, .int x5, .int x6, w7, w8]) (S' := [.int x3, .int x6]) (M' := M) rfl ?_
  refine vm_WM.if (c := x6 < x3) (t1 := 83) (t2 := 157) (S' := []) 41 rfl rfl rfl (fun hc => ?_) (fun hc => ?_)
  · replace h := h.1 hc
    refine vm_WM.seq 42 8 (pc' := 94) (L' := [.ref 0, .int x1, .int x2, .int x3, .int x4, .int x5, .int x6, w7, w8]) (S' := [.int (x2 + ((nI 2) * x6)), .int x1, .ref 1]) (M' := M) rfl ?_
    refine vm_WM.call (a := 55) (as := [.ref 1, .int x1, .int (x2 + ((nI 2) * x6))]) (rest := []) (L0 := [.ref 1, .int x1, .int (x2 + ((nI 2) * x6))]) 50 rfl rfl (by decide) rfl rfl ⟨rfl, Or.inr rfl, Nat.le_of_ble_eq_true rfl, Nat.le_of_ble_eq_true rfl⟩ rfl rfl rfl ?_
    refine vm_WM.seq 0 7 (pc' := 10) (L' := [.ref 1, .int x1, .int (x2 + ((nI 2) * x6))]) (S' := [.int ((x1 * (nI 40)) + (x2 + ((nI 2) * x6))), .ref 4]) (M' := M) rfl ?_
    obtain ⟨j1, hj1, hj2, h⟩ := h
    refine vm_WM.ald (n := 320) (jj := j1) 7 rfl (Or.inl ⟨rfl, rfl⟩) (by decide) rfl hj1 hj2 ?_
    refine vm_WM.ret (r := some (.int (M 4 j1))) 8 rfl rfl rfl ?_
    show vm_WM X 93 97 [.ref 0, .int x1, .int x2, .int x3, .int x4, .int x5, .int x6, w7, w8] [.int (M 4 j1)] M _
    refine vm_WM.seq 51 11 (pc' := 112) (L' := [.ref 0, .int x1, .int x2, .int x3, .int x4, .int x5, .int x6, .int (M 4 j1), w8]) (S' := [.int ((x2 + ((nI 2) * x6)) + (nI 1)), .int x1, .ref 1]) (M' := M) rfl ?_
    refine vm_WM.call (a := 55) (as := [.ref 1, .int x1, .int ((x2 + ((nI 2) * x6)) + (nI 1))]) (rest := []) (L0 := [.ref 1, .int x1, .int ((x2 + ((nI 2) * x6)) + (nI 1))]) 62 rfl rfl (by decide) rfl rfl ⟨rfl, Or.inr rfl, Nat.le_of_ble_eq_true rfl, Nat.le_of_ble_eq_true rfl⟩ rfl rfl rfl ?_
    refine vm_WM.seq 0 7 (pc' := 10) (L' := [.ref 1, .int x1, .int ((x2 + ((nI 2) * x6)) + (nI 1))]) (S' := [.int ((x1 * (nI 40)) + ((x2 + ((nI 2) * x6)) + (nI 1))), .ref 4]) (M' := M) rfl ?_
    obtain ⟨j2, hj1, hj2, h⟩ := h
    refine vm_WM.ald (n := 320) (jj := j2) 7 rfl (Or.inl ⟨rfl, rfl⟩) (by decide) rfl hj1 hj2 ?_
    refine vm_WM.ret (r := some (.int (M 4 j2))) 8 rfl rfl rfl ?_
    show vm_WM X 93 115 [.ref 0, .int x1, .int x2, .int x3, .int x4, .int x5, .int x6, .int (M 4 j1), w8] [.int (M 4 j2)] M _
    refine vm_WM.seq 63 4 (pc' := 123) (L' := [.ref 0, .int x1, .int x2, .int x3, .int x4, .int x5, .int x6, .int (M 4 j1), .int (M 4 j2)]) (S' := [.int (M 4 j1), .ref 7]) (M' := M) rfl ?_
    refine vm_WM.call (a := 38) (as := [.ref 7, .int (M 4 j1)]) (rest := []) (L0 := [.ref 7, .int (M 4 j1)]) 67 rfl rfl (by decide) rfl rfl ⟨rfl, Or.inr rfl, Nat.le_of_ble_eq_true rfl, Nat.le_of_ble_eq_true rfl⟩ rfl rfl rfl ?_
    refine vm_WM.seq 0 1 (pc' := 1) (L' := [.ref 7, .int (M 4 j1)]) (S' := [.int (M 4 j1)]) (M' := M) rfl ?_
    refine vm_WM.if (c := (M 4 j1) < 0) (t1 := 16) (t2 := 4) (S' := []) 1 rfl rfl rfl (fun hc => ?_) (fun hc => ?_)
    · replace h := h.1 hc
      refine vm_WM.seq 8 1 (pc' := 17) (L' := [.ref 7, .int (M 4 j1)]) (S' := [.int (nI 0)]) (M' := M) rfl ?_
      refine vm_WM.ret (r := some (.int (nI 0))) 9 rfl rfl rfl ?_
      show vm_WM X 93 126 [.ref 0, .int x1, .int x2, .int x3, .int x4, .int x5, .int x6, .int (M 4 j1), .int (M 4 j2)] [.int (nI 0)] M _
      refine vm_WM.seq 68 1 (pc' := 137) (L' := [.ref 0, .int x1, .int x2, .int x3, .int x4, .int x5, .int x6, .int (M 4 j1), .int (M 4 j2)]) (S' := []) (M' := M) rfl ?_
      refine vm_WM.seq 72 1 (pc' := 139) (L' := [.ref 0, .int x1, .int x2, .int x3, .int x4, .int x5, .int x6, .int (M 4 j1), .int (M 4 j2)]) (S' := [.int (Int32.ofInt (-1000001))]) (M' := M) rfl ?_
      exact vm_WM.ret (r := some (.int (Int32.ofInt (-1000001)))) 73 rfl rfl rfl ⟨_, rfl, h⟩
    · replace h := h.2 hc
      refine vm_WM.seq 2 3 (pc' := 9) (L' := [.ref 7, .int (M 4 j1)]) (S' := [.int (M 7 0), .int (M 4 j1)]) (M' := M) rfl ?_
      refine vm_WM.if (c := (M 4 j1) < (M 7 0)) (t1 := 12) (t2 := 16) (S' := []) 5 rfl rfl rfl (fun hc => ?_) (fun hc => ?_)
      · replace h := h.1 hc
        refine vm_WM.seq 6 2 (pc' := 17) (L' := [.ref 7, .int (M 4 j1)]) (S' := [.int (nI 1)]) (M' := M) rfl ?_
        refine vm_WM.ret (r := some (.int (nI 1))) 9 rfl rfl rfl ?_
        show vm_WM X 93 126 [.ref 0, .int x1, .int x2, .int x3, .int x4, .int x5, .int x6, .int (M 4 j1), .int (M 4 j2)] [.int (nI 1)] M _
        refine vm_WM.seq 68 2 (pc' := 131) (L' := [.ref 0, .int x1, .int x2, .int x3, .int x4, .int x5, .int x6, .int (M 4 j1), .int (M 4 j2)]) (S' := [.int (M 4 j2)]) (M' := M) rfl ?_
        refine vm_WM.call (a := 105) (as := [.int (M 4 j2)]) (rest := []) (L0 := [.int (M 4 j2)]) 70 rfl rfl (by decide) rfl rfl ⟨rfl, Or.inl rfl, Nat.le_of_ble_eq_true rfl, Nat.le_of_ble_eq_true rfl⟩ rfl rfl rfl ?_
        refine vm_WM.seq 0 1 (pc' := 1) (L' := [.int (M 4 j2)]) (S' := [.int (M 4 j2)]) (M' := M) rfl ?_
        refine vm_WM.if (c := (M 4 j2) < 0) (t1 := 14) (t2 := 4) (S' := []) 1 rfl rfl rfl (fun hc => ?_) (fun hc => ?_)
        · replace h := h.1 hc
          refine vm_WM.seq 7 1 (pc' := 15) (L' := [.int (M 4 j2)]) (S' := [.int (nI 0)]) (M' := M) rfl ?_
          refine vm_WM.ret (r := some (.int (nI 0))) 8 rfl rfl rfl ?_
          show vm_WM X 93 134 [.ref 0, .int x1, .int x2, .int x3, .int x4, .int x5, .int x6, .int (M 4 j1), .int (M 4 j2)] [.int (nI 0)] M _
          refine vm_WM.seq 71 2 (pc' := 139) (L' := [.ref 0, .int x1, .int x2, .int x3, .int x4, .int x5, .int x6, .int (M 4 j1), .int (M 4 j2)]) (S' := [.int (Int32.ofInt (-1000001))]) (M' := M) rfl ?_
          exact vm_WM.ret (r := some (.int (Int32.ofInt (-1000001)))) 73 rfl rfl rfl ⟨_, rfl, h⟩
        · replace h := h.2 hc
          refine vm_WM.seq 2 2 (pc' := 7) (L' := [.int (M 4 j2)]) (S' := [.int (nI 60), .int (M 4 j2)]) (M' := M) rfl ?_
          refine vm_WM.if (c := (nI 60) < (M 4 j2)) (t1 := 14) (t2 := 10) (S' := []) 4 rfl rfl rfl (fun hc => ?_) (fun hc => ?_)
          · replace h := h.1 hc
            refine vm_WM.seq 7 1 (pc' := 15) (L' := [.int (M 4 j2)]) (S' := [.int (nI 0)]) (M' := M) rfl ?_
            refine vm_WM.ret (r := some (.int (nI 0))) 8 rfl rfl rfl ?_
            show vm_WM X 93 134 [.ref 0, .int x1, .int x2, .int x3, .int x4, .int x5, .int x6, .int (M 4 j1), .int (M 4 j2)] [.int (nI 0)] M _
            refine vm_WM.seq 71 2 (pc' := 139) (L' := [.ref 0, .int x1, .int x2, .int x3, .int x4, .int x5, .int x6, .int (M 4 j1), .int (M 4 j2)]) (S' := [.int (Int32.ofInt (-1000001))]) (M' := M) rfl ?_
            exact vm_WM.ret (r := some (.int (Int32.ofInt (-1000001)))) 73 rfl rfl rfl ⟨_, rfl, h⟩
          · replace h := h.2 hc
            refine vm_WM.seq 5 2 (pc' := 15) (L' := [.int (M 4 j2)]) (S' := [.int (nI 1)]) (M' := M) rfl ?_
            refine vm_WM.ret (r := some (.int (nI 1))) 8 rfl rfl rfl ?_
            show vm_WM X 93 134 [.ref 0, .int x1, .int x2, .int x3, .int x4, .int x5, .int x6, .int (M 4 j1), .int (M 4 j2)] [.int (nI 1)] M _
            refine vm_WM.seq 71 1 (pc' := 140) (L' := [.ref 0, .int x1, .int x2, .int x3, .int x4, .int x5, .int x6, .int (M 4 j1), .int (M 4 j2)]) (S' := []) (M' := M) rfl ?_
            refine vm_WM.seq 74 4 (pc' := 148) (L' := [.ref 0, .int x1, .int x2, .int x3, .int x4, .int x5, .int x6, .int (M 4 j1), .int (M 4 j2)]) (S' := [.int (M 4 j2), .int (M 4 j1), .ref 41]) (M' := M) rfl ?_
            refine vm_WM.call (a := 29) (as := [.ref 41, .int (M 4 j1), .int (M 4 j2)]) (rest := []) (L0 := [.ref 41, .int (M 4 j1), .int (M 4 j2)]) 78 rfl rfl (by decide) rfl rfl ⟨rfl, Or.inr rfl, Nat.le_of_ble_eq_true rfl, Nat.le_of_ble_eq_true rfl⟩ rfl rfl rfl ?_
            refine vm_WM.thenv h (fun M3 h => ?_)
            show vm_WM X 93 151 [.ref 0, .int x1, .int x2, .int x3, .int x4, .int x5, .int x6, .int (M 4 j1), .int (M 4 j2)] [] M3 _
            refine vm_WM.seq 79 2 (pc' := 77) (L' := [.ref 0, .int x1, .int x2, .int x3, .int x4, .int x5, .int (x6 + (nI 1)), .int (M 4 j1), .int (M 4 j2)]) (S' := []) (M' := M3) rfl ?_
            exact h
      · replace h := h.2 hc
        refine vm_WM.seq 8 1 (pc' := 17) (L' := [.ref 7, .int (M 4 j1)]) (S' := [.int (nI 0)]) (M' := M) rfl ?_
        refine vm_WM.ret (r := some (.int (nI 0))) 9 rfl rfl rfl ?_
        show vm_WM X 93 126 [.ref 0, .int x1, .int x2, .int x3, .int x4, .int x5, .int x6, .int (M 4 j1), .int (M 4 j2)] [.int (nI 0)] M _
        refine vm_WM.seq 68 1 (pc' := 137) (L' := [.ref 0, .int x1, .int x2, .int x3, .int x4, .int x5, .int x6, .int (M 4 j1), .int (M 4 j2)]) (S' := []) (M' := M) rfl ?_
        refine vm_WM.seq 72 1 (pc' := 139) (L' := [.ref 0, .int x1, .int x2, .int x3, .int x4, .int x5, .int x6, .int (M 4 j1), .int (M 4 j2)]) (S' := [.int (Int32.ofInt (-1000001))]) (M' := M) rfl ?_
        exact vm_WM.ret (r := some (.int (Int32.ofInt (-1000001)))) 73 rfl rfl rfl ⟨_, rfl, h⟩
  · replace h := h.2 hc
    refine vm_WM.seq 81 6 (pc' := 168) (L' := [.ref 0, .int x1, .int x2, .int x3, .int x4, .int x5, .int x6, w7, w8]) (S' := [.int x4, .ref 41]) (M' := (vm_u2 M 0 9 (nI 0))) rfl ?_
    refine vm_WM.call (a := 30) (as := [.ref 41, .int x4]) (rest := []) (L0 := [.ref 41, .int x4]) 87 rfl rfl (by decide) rfl rfl ⟨rfl, Or.inr rfl, Nat.le_of_ble_eq_true rfl, Nat.le_of_ble_eq_true rfl⟩ rfl rfl rfl ?_
    refine vm_WM.theni h (fun v4 M5 h => ?_)
    show vm_WM X 93 171 [.ref 0, .int x1, .int x2, .int x3, .int x4, .int x5, .int x6, w7, w8] [.int v4] M5 _
    exact vm_WM.ret (r := some (.int v4)) 88 rfl rfl rfl ⟨_, rfl, h⟩
theorem v_B_image {X : Nat × (Nat → Int32)} {a1 : Int32} {M : vm_M} {P : Int32 → vm_M → Prop} (h : (a1 < 0 → (P (Int32.ofInt (-1000001)) M)) ∧ (¬ (a1 < 0) → (((nI 1) < a1 → (P (Int32.ofInt (-1000001)) M)) ∧ (¬ ((nI 1) < a1) → (((M 7 0) = 0 → (P (Int32.ofInt (-1000002)) M)) ∧ (¬ ((M 7 0) = 0) → ((a1 = 0 → (E_Hill_become_21_7 X  M (fun M1 => P (nI 1) M1))) ∧ (¬ (a1 = 0) → (E_Hill_become_28_7 X  M (fun M2 => P (nI 1) M2)))))))))) : E_B_image X a1 M P := by
  unfold E_B_image
  refine vm_WM.seq 0 1 (pc' := 1) (L' := [.ref 0, .int a1]) (S' := [.int a1]) (M' := M) rfl ?_
  refine vm_WM.if (c := a1 < 0) (t1 := 9) (t2 := 4) (S' := []) 1 rfl rfl rfl (fun hc => ?_) (fun hc => ?_)
  · replace h := h.1 hc
    refine vm_WM.seq 5 1 (pc' := 11) (L' := [.ref 0, .int a1]) (S' := [.int (Int32.ofInt (-1000001))]) (M' := M) rfl ?_
    exact vm_WM.ret (r := some (.int (Int32.ofInt (-1000001)))) 6 rfl rfl rfl ⟨_, rfl, h⟩
  · replace h := h.2 hc
    refine vm_WM.seq 2 2 (pc' := 6) (L' := [.ref 0, .int a1]) (S' := [.int (nI 1), .int a1]) (M' := M) rfl ?_
    refine vm_WM.if (c := (nI 1) < a1) (t1 := 9) (t2 := 12) (S' := []) 4 rfl rfl rfl (fun hc => ?_) (fun hc => ?_)
    · replace h := h.1 hc
      refine vm_WM.seq 5 1 (pc' := 11) (L' := [.ref 0, .int a1]) (S' := [.int (Int32.ofInt (-1000001))]) (M' := M) rfl ?_
      exact vm_WM.ret (r := some (.int (Int32.ofInt (-1000001)))) 6 rfl rfl rfl ⟨_, rfl, h⟩
    · replace h := h.2 hc
      refine vm_WM.seq 7 2 (pc' := 16) (L' := [.ref 0, .int a1]) (S' := [.ref 7]) (M' := M) rfl ?_
      refine vm_WM.call (a := 37) (as := [.ref 7]) (rest := []) (L0 := [.ref 7]) 9 rfl rfl (by decide) rfl rfl ⟨rfl, Or.inr rfl, Nat.le_of_ble_eq_true rfl, Nat.le_of_ble_eq_true rfl⟩ rfl rfl rfl ?_
      refine vm_WM.seq 0 2 (pc' := 4) (L' := [.ref 7]) (S' := [.int (M 7 0)]) (M' := M) rfl ?_
      refine vm_WM.if (c := (M 7 0) = 0) (t1 := 7) (t2 := 11) (S' := []) 2 rfl rfl rfl (fun hc => ?_) (fun hc => ?_)
      · replace h := h.1 hc
        refine vm_WM.seq 3 2 (pc' := 12) (L' := [.ref 7]) (S' := [.int (nI 1)]) (M' := M) rfl ?_
        refine vm_WM.ret (r := some (.int (nI 1))) 6 rfl rfl rfl ?_
        show vm_WM X 94 19 [.ref 0, .int a1] [.int (nI 1)] M _
        refine vm_WM.seq 10 2 (pc' := 24) (L' := [.ref 0, .int a1]) (S' := [.int (Int32.ofInt (-1000002))]) (M' := M) rfl ?_
        exact vm_WM.ret (r := some (.int (Int32.ofInt (-1000002)))) 12 rfl rfl rfl ⟨_, rfl, h⟩
      · replace h := h.2 hc
        refine vm_WM.seq 5 1 (pc' := 12) (L' := [.ref 7]) (S' := [.int (nI 0)]) (M' := M) rfl ?_
        refine vm_WM.ret (r := some (.int (nI 0))) 6 rfl rfl rfl ?_
        show vm_WM X 94 19 [.ref 0, .int a1] [.int (nI 0)] M _
        refine vm_WM.seq 10 1 (pc' := 25) (L' := [.ref 0, .int a1]) (S' := []) (M' := M) rfl ?_
        refine vm_WM.seq 13 2 (pc' := 27) (L' := [.ref 0, .int a1]) (S' := [.int a1, .ref 0]) (M' := M) rfl ?_
        refine vm_WM.call (a := 103) (as := [.ref 0, .int a1]) (rest := []) (L0 := [.ref 0, .int a1]) 15 rfl rfl (by decide) rfl rfl ⟨rfl, Or.inr rfl, Nat.le_of_ble_eq_true rfl, Nat.le_of_ble_eq_true rfl⟩ rfl rfl rfl ?_
        refine vm_WM.seq 0 1 (pc' := 1) (L' := [.ref 0, .int a1]) (S' := [.int a1]) (M' := M) rfl ?_
        refine vm_WM.if (c := a1 = 0) (t1 := 4) (t2 := 11) (S' := []) 1 rfl rfl rfl (fun hc => ?_) (fun hc => ?_)
        · replace h := h.1 hc
          refine vm_WM.seq 2 3 (pc' := 15) (L' := [.ref 0, .int a1]) (S' := [.ref 21]) (M' := M) rfl ?_
          refine vm_WM.ret (r := some (.ref 21)) 7 rfl rfl rfl ?_
          show vm_WM X 94 30 [.ref 0, .int a1] [.ref 21] M _
          refine vm_WM.seq 16 2 (pc' := 34) (L' := [.ref 0, .int a1]) (S' := [.ref 7, .ref 21]) (M' := M) rfl ?_
          refine vm_WM.call (a := 42) (as := [.ref 21, .ref 7]) (rest := []) (L0 := [.ref 21, .ref 7]) 18 rfl rfl (by decide) rfl rfl ⟨rfl, Or.inr rfl, Nat.le_of_ble_eq_true rfl, Nat.le_of_ble_eq_true rfl⟩ rfl rfl rfl ?_
          refine vm_WM.thenv h (fun M1 h => ?_)
          show vm_WM X 94 37 [.ref 0, .int a1] [] M1 _
          refine vm_WM.seq 19 1 (pc' := 38) (L' := [.ref 0, .int a1]) (S' := [.int (nI 1)]) (M' := M1) rfl ?_
          exact vm_WM.ret (r := some (.int (nI 1))) 20 rfl rfl rfl ⟨_, rfl, h⟩
        · replace h := h.2 hc
          refine vm_WM.seq 5 2 (pc' := 15) (L' := [.ref 0, .int a1]) (S' := [.ref 28]) (M' := M) rfl ?_
          refine vm_WM.ret (r := some (.ref 28)) 7 rfl rfl rfl ?_
          show vm_WM X 94 30 [.ref 0, .int a1] [.ref 28] M _
          refine vm_WM.seq 16 2 (pc' := 34) (L' := [.ref 0, .int a1]) (S' := [.ref 7, .ref 28]) (M' := M) rfl ?_
          refine vm_WM.call (a := 42) (as := [.ref 28, .ref 7]) (rest := []) (L0 := [.ref 28, .ref 7]) 18 rfl rfl (by decide) rfl rfl ⟨rfl, Or.inr rfl, Nat.le_of_ble_eq_true rfl, Nat.le_of_ble_eq_true rfl⟩ rfl rfl rfl ?_
          refine vm_WM.thenv h (fun M2 h => ?_)
          show vm_WM X 94 37 [.ref 0, .int a1] [] M2 _
          refine vm_WM.seq 19 1 (pc' := 38) (L' := [.ref 0, .int a1]) (S' := [.int (nI 1)]) (M' := M2) rfl ?_
          exact vm_WM.ret (r := some (.int (nI 1))) 20 rfl rfl rfl ⟨_, rfl, h⟩
theorem v_B_restore {X : Nat × (Nat → Int32)} {a1 : Int32} {M : vm_M} {P : Int32 → vm_M → Prop} (h : (a1 < 0 → (P (Int32.ofInt (-1000001)) M)) ∧ (¬ (a1 < 0) → (((nI 1) < a1 → (P (Int32.ofInt (-1000001)) M)) ∧ (¬ ((nI 1) < a1) → ((a1 = 0 → (((M 21 0) = 0 → (P (Int32.ofInt (-1000002)) M)) ∧ (¬ ((M 21 0) = 0) → ((a1 = 0 → (E_Hill_become_7_21 X  M (fun M1 => P (nI 1) (vm_u2 M1 35 1 (nI 0))))) ∧ (¬ (a1 = 0) → (E_Hill_become_7_28 X  M (fun M2 => P (nI 1) (vm_u2 M2 35 1 (nI 0))))))))) ∧ (¬ (a1 = 0) → (((M 28 0) = 0 → (P (Int32.ofInt (-1000002)) M)) ∧ (¬ ((M 28 0) = 0) → ((a1 = 0 → (E_Hill_become_7_21 X  M (fun M3 => P (nI 1) (vm_u2 M3 35 1 (nI 0))))) ∧ (¬ (a1 = 0) → (E_Hill_become_7_28 X  M (fun M4 => P (nI 1) (vm_u2 M4 35 1 (nI 0)))))))))))))) : E_B_restore X a1 M P := by
  unfold E_B_restore
  refine vm_WM.seq 0 1 (pc' := 1) (L' := [.ref 0, .int a1]) (S' := [.int a1]) (M' := M) rfl ?_
  refine vm_WM.if (c := a1 < 0) (t1 := 9) (t2 := 4) (S' := []) 1 rfl rfl rfl (fun hc => ?_) (fun hc => ?_)
  · replace h := h.1 hc
    refine vm_WM.seq 5 1 (pc' := 11) (L' := [.ref 0, .int a1]) (S' := [.int (Int32.ofInt (-1000001))]) (M' := M) rfl ?_
    exact vm_WM.ret (r := some (.int (Int32.ofInt (-1000001)))) 6 rfl rfl rfl ⟨_, rfl, h⟩
  · replace h := h.2 hc
    refine vm_WM.seq 2 2 (pc' := 6) (L' := [.ref 0, .int a1]) (S' := [.int (nI 1), .int a1]) (M' := M) rfl ?_
    refine vm_WM.if (c := (nI 1) < a1) (t1 := 9) (t2 := 12) (S' := []) 4 rfl rfl rfl (fun hc => ?_) (fun hc => ?_)
    · replace h := h.1 hc
      refine vm_WM.seq 5 1 (pc' := 11) (L' := [.ref 0, .int a1]) (S' := [.int (Int32.ofInt (-1000001))]) (M' := M) rfl ?_
      exact vm_WM.ret (r := some (.int (Int32.ofInt (-1000001)))) 6 rfl rfl rfl ⟨_, rfl, h⟩
    · replace h := h.2 hc
      refine vm_WM.seq 7 2 (pc' := 14) (L' := [.ref 0, .int a1]) (S' := [.int a1, .ref 0]) (M' := M) rfl ?_
      refine vm_WM.call (a := 103) (as := [.ref 0, .int a1]) (rest := []) (L0 := [.ref 0, .int a1]) 9 rfl rfl (by decide) rfl rfl ⟨rfl, Or.inr rfl, Nat.le_of_ble_eq_true rfl, Nat.le_of_ble_eq_true rfl⟩ rfl rfl rfl ?_
      refine vm_WM.seq 0 1 (pc' := 1) (L' := [.ref 0, .int a1]) (S' := [.int a1]) (M' := M) rfl ?_
      refine vm_WM.if (c := a1 = 0) (t1 := 4) (t2 := 11) (S' := []) 1 rfl rfl rfl (fun hc => ?_) (fun hc => ?_)
      · replace h := h.1 hc
        refine vm_WM.seq 2 3 (pc' := 15) (L' := [.ref 0, .int a1]) (S' := [.ref 21]) (M' := M) rfl ?_
        refine vm_WM.ret (r := some (.ref 21)) 7 rfl rfl rfl ?_
        show vm_WM X 95 17 [.ref 0, .int a1] [.ref 21] M _
        refine vm_WM.call (a := 37) (as := [.ref 21]) (rest := []) (L0 := [.ref 21]) 10 rfl rfl (by decide) rfl rfl ⟨rfl, Or.inr rfl, Nat.le_of_ble_eq_true rfl, Nat.le_of_ble_eq_true rfl⟩ rfl rfl rfl ?_
        refine vm_WM.seq 0 2 (pc' := 4) (L' := [.ref 21]) (S' := [.int (M 21 0)]) (M' := M) rfl ?_
        refine vm_WM.if (c := (M 21 0) = 0) (t1 := 7) (t2 := 11) (S' := []) 2 rfl rfl rfl (fun hc => ?_) (fun hc => ?_)
        · replace h := h.1 hc
          refine vm_WM.seq 3 2 (pc' := 12) (L' := [.ref 21]) (S' := [.int (nI 1)]) (M' := M) rfl ?_
          refine vm_WM.ret (r := some (.int (nI 1))) 6 rfl rfl rfl ?_
          show vm_WM X 95 20 [.ref 0, .int a1] [.int (nI 1)] M _
          refine vm_WM.seq 11 2 (pc' := 25) (L' := [.ref 0, .int a1]) (S' := [.int (Int32.ofInt (-1000002))]) (M' := M) rfl ?_
          exact vm_WM.ret (r := some (.int (Int32.ofInt (-1000002)))) 13 rfl rfl rfl ⟨_, rfl, h⟩
        · replace h := h.2 hc
          refine vm_WM.seq 5 1 (pc' := 12) (L' := [.ref 21]) (S' := [.int (nI 0)]) (M' := M) rfl ?_
          refine vm_WM.ret (r := some (.int (nI 0))) 6 rfl rfl rfl ?_
          show vm_WM X 95 20 [.ref 0, .int a1] [.int (nI 0)] M _
          refine vm_WM.seq 11 1 (pc' := 26) (L' := [.ref 0, .int a1]) (S' := []) (M' := M) rfl ?_
          refine vm_WM.seq 14 4 (pc' := 32) (L' := [.ref 0, .int a1]) (S' := [.int a1, .ref 0, .ref 7]) (M' := M) rfl ?_
          refine vm_WM.call (a := 103) (as := [.ref 0, .int a1]) (rest := [.ref 7]) (L0 := [.ref 0, .int a1]) 18 rfl rfl (by decide) rfl rfl ⟨rfl, Or.inr rfl, Nat.le_of_ble_eq_true rfl, Nat.le_of_ble_eq_true rfl⟩ rfl rfl rfl ?_
          refine vm_WM.seq 0 1 (pc' := 1) (L' := [.ref 0, .int a1]) (S' := [.int a1]) (M' := M) rfl ?_
          refine vm_WM.if (c := a1 = 0) (t1 := 4) (t2 := 11) (S' := []) 1 rfl rfl rfl (fun hc => ?_) (fun hc => ?_)
          · replace h := h.1 hc
            refine vm_WM.seq 2 3 (pc' := 15) (L' := [.ref 0, .int a1]) (S' := [.ref 21]) (M' := M) rfl ?_
            refine vm_WM.ret (r := some (.ref 21)) 7 rfl rfl rfl ?_
            show vm_WM X 95 35 [.ref 0, .int a1] [.ref 21, .ref 7] M _
            refine vm_WM.call (a := 42) (as := [.ref 7, .ref 21]) (rest := []) (L0 := [.ref 7, .ref 21]) 19 rfl rfl (by decide) rfl rfl ⟨rfl, Or.inr rfl, Nat.le_of_ble_eq_true rfl, Nat.le_of_ble_eq_true rfl⟩ rfl rfl rfl ?_
            refine vm_WM.thenv h (fun M1 h => ?_)
            show vm_WM X 95 38 [.ref 0, .int a1] [] M1 _
            refine vm_WM.seq 20 2 (pc' := 42) (L' := [.ref 0, .int a1]) (S' := [.ref 35]) (M' := M1) rfl ?_
            refine vm_WM.call (a := 1) (as := [.ref 35]) (rest := []) (L0 := [.ref 35]) 22 rfl rfl (by decide) rfl rfl ⟨rfl, Or.inr rfl, Nat.le_of_ble_eq_true rfl, Nat.le_of_ble_eq_true rfl⟩ rfl rfl rfl ?_
            refine vm_WM.seq 0 3 (pc' := 5) (L' := [.ref 35]) (S' := []) (M' := (vm_u2 M1 35 1 (nI 0))) rfl ?_
            refine vm_WM.ret (r := none) 3 rfl rfl rfl ?_
            show vm_WM X 95 45 [.ref 0, .int a1] [] (vm_u2 M1 35 1 (nI 0)) _
            refine vm_WM.seq 23 1 (pc' := 46) (L' := [.ref 0, .int a1]) (S' := [.int (nI 1)]) (M' := (vm_u2 M1 35 1 (nI 0))) rfl ?_
            exact vm_WM.ret (r := some (.int (nI 1))) 24 rfl rfl rfl ⟨_, rfl, h⟩
          · replace h := h.2 hc
            refine vm_WM.seq 5 2 (pc' := 15) (L' := [.ref 0, .int a1]) (S' := [.ref 28]) (M' := M) rfl ?_
            refine vm_WM.ret (r := some (.ref 28)) 7 rfl rfl rfl ?_
            show vm_WM X 95 35 [.ref 0, .int a1] [.ref 28, .ref 7] M _
            refine vm_WM.call (a := 42) (as := [.ref 7, .ref 28]) (rest := []) (L0 := [.ref 7, .ref 28]) 19 rfl rfl (by decide) rfl rfl ⟨rfl, Or.inr rfl, Nat.le_of_ble_eq_true rfl, Nat.le_of_ble_eq_true rfl⟩ rfl rfl rfl ?_
            refine vm_WM.thenv h (fun M2 h => ?_)
            show vm_WM X 95 38 [.ref 0, .int a1] [] M2 _
            refine vm_WM.seq 20 2 (pc' := 42) (L' := [.ref 0, .int a1]) (S' := [.ref 35]) (M' := M2) rfl ?_
            refine vm_WM.call (a := 1) (as := [.ref 35]) (rest := []) (L0 := [.ref 35]) 22 rfl rfl (by decide) rfl rfl ⟨rfl, Or.inr rfl, Nat.le_of_ble_eq_true rfl, Nat.le_of_ble_eq_true rfl⟩ rfl rfl rfl ?_
            refine vm_WM.seq 0 3 (pc' := 5) (L' := [.ref 35]) (S' := []) (M' := (vm_u2 M2 35 1 (nI 0))) rfl ?_
            refine vm_WM.ret (r := none) 3 rfl rfl rfl ?_
            show vm_WM X 95 45 [.ref 0, .int a1] [] (vm_u2 M2 35 1 (nI 0)) _
            refine vm_WM.seq 23 1 (pc' := 46) (L' := [.ref 0, .int a1]) (S' := [.int (nI 1)]) (M' := (vm_u2 M2 35 1 (nI 0))) rfl ?_
            exact vm_WM.ret (r := some (.int (nI 1))) 24 rfl rfl rfl ⟨_, rfl, h⟩
      · replace h := h.2 hc
        refine vm_WM.seq 5 2 (pc' := 15) (L' := [.ref 0, .int a1]) (S' := [.ref 28]) (M' := M) rfl ?_
        refine vm_WM.ret (r := some (.ref 28)) 7 rfl rfl rfl ?_
        show vm_WM X 95 17 [.ref 0, .int a1] [.ref 28] M _
        refine vm_WM.call (a := 37) (as := [.ref 28]) (rest := []) (L0 := [.ref 28]) 10 rfl rfl (by decide) rfl rfl ⟨rfl, Or.inr rfl, Nat.le_of_ble_eq_true rfl, Nat.le_of_ble_eq_true rfl⟩ rfl rfl rfl ?_
        refine vm_WM.seq 0 2 (pc' := 4) (L' := [.ref 28]) (S' := [.int (M 28 0)]) (M' := M) rfl ?_
        refine vm_WM.if (c := (M 28 0) = 0) (t1 := 7) (t2 := 11) (S' := []) 2 rfl rfl rfl (fun hc => ?_) (fun hc => ?_)
        · replace h := h.1 hc
          refine vm_WM.seq 3 2 (pc' := 12) (L' := [.ref 28]) (S' := [.int (nI 1)]) (M' := M) rfl ?_
          refine vm_WM.ret (r := some (.int (nI 1))) 6 rfl rfl rfl ?_
          show vm_WM X 95 20 [.ref 0, .int a1] [.int (nI 1)] M _
          refine vm_WM.seq 11 2 (pc' := 25) (L' := [.ref 0, .int a1]) (S' := [.int (Int32.ofInt (-1000002))]) (M' := M) rfl ?_
          exact vm_WM.ret (r := some (.int (Int32.ofInt (-1000002)))) 13 rfl rfl rfl ⟨_, rfl, h⟩
        · replace h := h.2 hc
          refine vm_WM.seq 5 1 (pc' := 12) (L' := [.ref 28]) (S' := [.int (nI 0)]) (M' := M) rfl ?_
          refine vm_WM.ret (r := some (.int (nI 0))) 6 rfl rfl rfl ?_
          show vm_WM X 95 20 [.ref 0, .int a1] [.int (nI 0)] M _
          refine vm_WM.seq 11 1 (pc' := 26) (L' := [.ref 0, .int a1]) (S' := []) (M' := M) rfl ?_
          refine vm_WM.seq 14 4 (pc' := 32) (L' := [.ref 0, .int a1]) (S' := [.int a1, .ref 0, .ref 7]) (M' := M) rfl ?_
          refine vm_WM.call (a := 103) (as := [.ref 0, .int a1]) (rest := [.ref 7]) (L0 := [.ref 0, .int a1]) 18 rfl rfl (by decide) rfl rfl ⟨rfl, Or.inr rfl, Nat.le_of_ble_eq_true rfl, Nat.le_of_ble_eq_true rfl⟩ rfl rfl rfl ?_
          refine vm_WM.seq 0 1 (pc' := 1) (L' := [.ref 0, .int a1]) (S' := [.int a1]) (M' := M) rfl ?_
          refine vm_WM.if (c := a1 = 0) (t1 := 4) (t2 := 11) (S' := []) 1 rfl rfl rfl (fun hc => ?_) (fun hc => ?_)
          · replace h := h.1 hc
            refine vm_WM.seq 2 3 (pc' := 15) (L' := [.ref 0, .int a1]) (S' := [.ref 21]) (M' := M) rfl ?_
            refine vm_WM.ret (r := some (.ref 21)) 7 rfl rfl rfl ?_
            show vm_WM X 95 35 [.ref 0, .int a1] [.ref 21, .ref 7] M _
            refine vm_WM.call (a := 42) (as := [.ref 7, .ref 21]) (rest := []) (L0 := [.ref 7, .ref 21]) 19 rfl rfl (by decide) rfl rfl ⟨rfl, Or.inr rfl, Nat.le_of_ble_eq_true rfl, Nat.le_of_ble_eq_true rfl⟩ rfl rfl rfl ?_
            refine vm_WM.thenv h (fun M3 h => ?_)
            show vm_WM X 95 38 [.ref 0, .int a1] [] M3 _
            refine vm_WM.seq 20 2 (pc' := 42) (L' := [.ref 0, .int a1]) (S' := [.ref 35]) (M' := M3) rfl ?_
            refine vm_WM.call (a := 1) (as := [.ref 35]) (rest := []) (L0 := [.ref 35]) 22 rfl rfl (by decide) rfl rfl ⟨rfl, Or.inr rfl, Nat.le_of_ble_eq_true rfl, Nat.le_of_ble_eq_true rfl⟩ rfl rfl rfl ?_
            refine vm_WM.seq 0 3 (pc' := 5) (L' := [.ref 35]) (S' := []) (M' := (vm_u2 M3 35 1 (nI 0))) rfl ?_
            refine vm_WM.ret (r := none) 3 rfl rfl rfl ?_
            show vm_WM X 95 45 [.ref 0, .int a1] [] (vm_u2 M3 35 1 (nI 0)) _
            refine vm_WM.seq 23 1 (pc' := 46) (L' := [.ref 0, .int a1]) (S' := [.int (nI 1)]) (M' := (vm_u2 M3 35 1 (nI 0))) rfl ?_
            exact vm_WM.ret (r := some (.int (nI 1))) 24 rfl rfl rfl ⟨_, rfl, h⟩
          · replace h := h.2 hc
            refine vm_WM.seq 5 2 (pc' := 15) (L' := [.ref 0, .int a1]) (S' := [.ref 28]) (M' := M) rfl ?_
            refine vm_WM.ret (r := some (.ref 28)) 7 rfl rfl rfl ?_
            show vm_WM X 95 35 [.ref 0, .int a1] [.ref 28, .ref 7] M _
            refine vm_WM.call (a := 42) (as := [.ref 7, .ref 28]) (rest := []) (L0 := [.ref 7, .ref 28]) 19 rfl rfl (by decide) rfl rfl ⟨rfl, Or.inr rfl, Nat.le_of_ble_eq_true rfl, Nat.le_of_ble_eq_true rfl⟩ rfl rfl rfl ?_
            refine vm_WM.thenv h (fun M4 h => ?_)
            show vm_WM X 95 38 [.ref 0, .int a1] [] M4 _
            refine vm_WM.seq 20 2 (pc' := 42) (L' := [.ref 0, .int a1]) (S' := [.ref 35]) (M' := M4) rfl ?_
            refine vm_WM.call (a := 1) (as := [.ref 35]) (rest := []) (L0 := [.ref 35]) 22 rfl rfl (by decide) rfl rfl ⟨rfl, Or.inr rfl, Nat.le_of_ble_eq_true rfl, Nat.le_of_ble_eq_true rfl⟩ rfl rfl rfl ?_
            refine vm_WM.seq 0 3 (pc' := 5) (L' := [.ref 35]) (S' := []) (M' := (vm_u2 M4 35 1 (nI 0))) rfl ?_
            refine vm_WM.ret (r := none) 3 rfl rfl rfl ?_
            show vm_WM X 95 45 [.ref 0, .int a1] [] (vm_u2 M4 35 1 (nI 0)) _
            refine vm_WM.seq 23 1 (pc' := 46) (L' := [.ref 0, .int a1]) (S' := [.int (nI 1)]) (M' := (vm_u2 M4 35 1 (nI 0))) rfl ?_
            exact vm_WM.ret (r := some (.int (nI 1))) 24 rfl rfl rfl ⟨_, rfl, h⟩
theorem v_B_kind {X : Nat × (Nat → Int32)} {a1 : Int32} {M : vm_M} {P : Int32 → vm_M → Prop} (h : (a1 < 0 → (P (Int32.ofInt (-1000001)) M)) ∧ (¬ (a1 < 0) → ((a1 < (M 7 0) → (∃ j1 : Nat, a1 = nI j1 ∧ j1 < 6 ∧ (P (M 8 j1) M))) ∧ (¬ (a1 < (M 7 0)) → (P (Int32.ofInt (-1000001)) M))))) : E_B_kind X a1 M P := by
  unfold E_B_kind
  refine vm_WM.seq 0 3 (pc' := 5) (L' := [.ref 0, .int a1]) (S' := [.int a1, .ref 7]) (M' := M) rfl ?_
  refine vm_WM.call (a := 38) (as := [.ref 7, .int a1]) (rest := []) (L0 := [.ref 7, .int a1]) 3 rfl rfl (by decide) rfl rfl ⟨rfl, Or.inr rfl, Nat.le_of_ble_eq_true rfl, Nat.le_of_ble_eq_true rfl⟩ rfl rfl rfl ?_
  refine vm_WM.seq 0 1 (pc' := 1) (L' := [.ref 7, .int a1]) (S' := [.int a1]) (M' := M) rfl ?_
  refine vm_WM.if (c := a1 < 0) (t1 := 16) (t2 := 4) (S' := []) 1 rfl rfl rfl (fun hc => ?_) (fun hc => ?_)
  · replace h := h.1 hc
    refine vm_WM.seq 8 1 (pc' := 17) (L' := [.ref 7, .int a1]) (S' := [.int (nI 0)]) (M' := M) rfl ?_
    refine vm_WM.ret (r := some (.int (nI 0))) 9 rfl rfl rfl ?_
    show vm_WM X 96 8 [.ref 0, .int a1] [.int (nI 0)] M _
    refine vm_WM.seq 4 1 (pc' := 23) (L' := [.ref 0, .int a1]) (S' := []) (M' := M) rfl ?_
    refine vm_WM.seq 11 1 (pc' := 25) (L' := [.ref 0, .int a1]) (S' := [.int (Int32.ofInt (-1000001))]) (M' := M) rfl ?_
    exact vm_WM.ret (r := some (.int (Int32.ofInt (-1000001)))) 12 rfl rfl rfl ⟨_, rfl, h⟩
  · replace h := h.2 hc
    refine vm_WM.seq 2 3 (pc' := 9) (L' := [.ref 7, .int a1]) (S' := [.int (M 7 0), .int a1]) (M' := M) rfl ?_
    refine vm_WM.if (c := a1 < (M 7 0)) (t1 := 12) (t2 := 16) (S' := []) 5 rfl rfl rfl (fun hc => ?_) (fun hc => ?_)
    · replace h := h.1 hc
      refine vm_WM.seq 6 2 (pc' := 17) (L' := [.ref 7, .int a1]) (S' := [.int (nI 1)]) (M' := M) rfl ?_
      refine vm_WM.ret (r := some (.int (nI 1))) 9 rfl rfl rfl ?_
      show vm_WM X 96 8 [.ref 0, .int a1] [.int (nI 1)] M _
      refine vm_WM.seq 4 5 (pc' := 19) (L' := [.ref 0, .int a1]) (S' := [.int a1, .ref 8]) (M' := M) rfl ?_
      obtain ⟨j1, hj1, hj2, h⟩ := h
      refine vm_WM.ald (n := 6) (jj := j1) 9 rfl (Or.inl ⟨rfl, rfl⟩) (by decide) rfl hj1 hj2 ?_
      refine vm_WM.seq 10 1 (pc' := 25) (L' := [.ref 0, .int a1]) (S' := [.int (M 8 j1)]) (M' := M) rfl ?_
      exact vm_WM.ret (r := some (.int (M 8 j1))) 12 rfl rfl rfl ⟨_, rfl, h⟩
    · replace h := h.2 hc
      refine vm_WM.seq 8 1 (pc' := 17) (L' := [.ref 7, .int a1]) (S' := [.int (nI 0)]) (M' := M) rfl ?_
      refine vm_WM.ret (r := some (.int (nI 0))) 9 rfl rfl rfl ?_
      show vm_WM X 96 8 [.ref 0, .int a1] [.int (nI 0)] M _
      refine vm_WM.seq 4 1 (pc' := 23) (L' := [.ref 0, .int a1]) (S' := []) (M' := M) rfl ?_
      refine vm_WM.seq 11 1 (pc' := 25) (L' := [.ref 0, .int a1]) (S' := [.int (Int32.ofInt (-1000001))]) (M' := M) rfl ?_
      exact vm_WM.ret (r := some (.int (Int32.ofInt (-1000001)))) 12 rfl rfl rfl ⟨_, rfl, h⟩
theorem v_B_as {X : Nat × (Nat → Int32)} {a1 : Int32} {a2 : Int32} {M : vm_M} {P : Int32 → vm_M → Prop} (h : (a1 < 0 → (P (Int32.ofInt (-1000001)) M)) ∧ (¬ (a1 < 0) → ((a1 < (M 7 0) → ((a2 < 0 → (P (Int32.ofInt (-1000001)) M)) ∧ (¬ (a2 < 0) → (((nI 5) < a2 → (P (Int32.ofInt (-1000001)) M)) ∧ (¬ ((nI 5) < a2) → (∃ j1 : Nat, a1 = nI j1 ∧ j1 < 6 ∧ (E_B_isOne X (M 8 j1) a2 M (fun v2 M3 => (v2 = 0 → (P ((Int32.ofInt (-1000010)) - (nI 3)) (vm_u2 M3 0 9 (nI 3)))) ∧ (¬ (v2 = 0) → (P a1 (vm_u2 M3 0 9 (nI 0)))))))))))) ∧ (¬ (a1 < (M 7 0)) → (P (Int32.ofInt (-1000001)) M))))) : E_B_as X a1 a2 M P := by
  unfold E_B_as
  refine vm_WM.seq 0 3 (pc' := 5) (L' := [.ref 0, .int a1, .int a2]) (S' := [.int a1, .ref 7]) (M' := M) rfl ?_
  refine vm_WM.call (a := 38) (as := [.ref 7, .int a1]) (rest := []) (L0 := [.ref 7, .int a1]) 3 rfl rfl (by decide) rfl rfl ⟨rfl, Or.inr rfl, Nat.le_of_ble_eq_true rfl, Nat.le_of_ble_eq_true rfl⟩ rfl rfl rfl ?_
  refine vm_WM.seq 0 1 (pc' := 1) (L' := [.ref 7, .int a1]) (S' := [.int a1]) (M' := M) rfl ?_
  refine vm_WM.if (c := a1 < 0) (t1 := 16) (t2 := 4) (S' := []) 1 rfl rfl rfl (fun hc => ?_) (fun hc => ?_)
  · replace h := h.1 hc
    refine vm_WM.seq 8 1 (pc' := 17) (L' := [.ref 7, .int a1]) (S' := [.int (nI 0)]) (M' := M) rfl ?_
    refine vm_WM.ret (r := some (.int (nI 0))) 9 rfl rfl rfl ?_
    show vm_WM X 97 8 [.ref 0, .int a1, .int a2] [.int (nI 0)] M _
    refine vm_WM.seq 4 1 (pc' := 20) (L' := [.ref 0, .int a1, .int a2]) (S' := []) (M' := M) rfl ?_
    refine vm_WM.seq 10 1 (pc' := 22) (L' := [.ref 0, .int a1, .int a2]) (S' := [.int (Int32.ofInt (-1000001))]) (M' := M) rfl ?_
    exact vm_WM.ret (r := some (.int (Int32.ofInt (-1000001)))) 11 rfl rfl rfl ⟨_, rfl, h⟩
  · replace h := h.2 hc
    refine vm_WM.seq 2 3 (pc' := 9) (L' := [.ref 7, .int a1]) (S' := [.int (M 7 0), .int a1]) (M' := M) rfl ?_
    refine vm_WM.if (c := a1 < (M 7 0)) (t1 := 12) (t2 := 16) (S' := []) 5 rfl rfl rfl (fun hc => ?_) (fun hc => ?_)
    · replace h := h.1 hc
      refine vm_WM.seq 6 2 (pc' := 17) (L' := [.ref 7, .int a1]) (S' := [.int (nI 1)]) (M' := M) rfl ?_
      refine vm_WM.ret (r := some (.int (nI 1))) 9 rfl rfl rfl ?_
      show vm_WM X 97 8 [.ref 0, .int a1, .int a2] [.int (nI 1)] M _
      refine vm_WM.seq 4 2 (pc' := 12) (L' := [.ref 0, .int a1, .int a2]) (S' := [.int a2]) (M' := M) rfl ?_
      refine vm_WM.if (c := a2 < 0) (t1 := 20) (t2 := 15) (S' := []) 6 rfl rfl rfl (fun hc => ?_) (fun hc => ?_)
      · replace h := h.1 hc
        refine vm_WM.seq 10 1 (pc' := 22) (L' := [.ref 0, .int a1, .int a2]) (S' := [.int (Int32.ofInt (-1000001))]) (M' := M) rfl ?_
        exact vm_WM.ret (r := some (.int (Int32.ofInt (-1000001)))) 11 rfl rfl rfl ⟨_, rfl, h⟩
      · replace h := h.2 hc
        refine vm_WM.seq 7 2 (pc' := 17) (L' := [.ref 0, .int a1, .int a2]) (S' := [.int (nI 5), .int a2]) (M' := M) rfl ?_
        refine vm_WM.if (c := (nI 5) < a2) (t1 := 20) (t2 := 23) (S' := []) 9 rfl rfl rfl (fun hc => ?_) (fun hc => ?_)
        · replace h := h.1 hc
          refine vm_WM.seq 10 1 (pc' := 22) (L' := [.ref 0, .int a1, .int a2]) (S' := [.int (Int32.ofInt (-1000001))]) (M' := M) rfl ?_
          exact vm_WM.ret (r := some (.int (Int32.ofInt (-1000001)))) 11 rfl rfl rfl ⟨_, rfl, h⟩
        · replace h := h.2 hc
          refine vm_WM.seq 12 4 (pc' := 31) (L' := [.ref 0, .int a1, .int a2]) (S' := [.int a1, .ref 8]) (M' := M) rfl ?_
          obtain ⟨j1, hj1, hj2, h⟩ := h
          refine vm_WM.ald (n := 6) (jj := j1) 16 rfl (Or.inl ⟨rfl, rfl⟩) (by decide) rfl hj1 hj2 ?_
          refine vm_WM.seq 17 1 (pc' := 33) (L' := [.ref 0, .int a1, .int a2]) (S' := [.int a2, .int (M 8 j1)]) (M' := M) rfl ?_
          refine vm_WM.call (a := 106) (as := [.int (M 8 j1), .int a2]) (rest := []) (L0 := [.int (M 8 j1), .int a2]) 18 rfl rfl (by decide) rfl rfl ⟨rfl, Or.inl rfl, Nat.le_of_ble_eq_true rfl, Nat.le_of_ble_eq_true rfl⟩ rfl rfl rfl ?_
          refine vm_WM.theni h (fun v2 M3 h => ?_)
          show vm_WM X 97 36 [.ref 0, .int a1, .int a2] [.int v2] M3 _
          refine vm_WM.if (c := v2 = 0) (t1 := 39) (t2 := 45) (S' := []) 19 rfl rfl rfl (fun hc => ?_) (fun hc => ?_)
          · replace h := h.1 hc
            refine vm_WM.seq 20 2 (pc' := 41) (L' := [.ref 0, .int a1, .int a2]) (S' := [.int (nI 3), .ref 0]) (M' := M3) rfl ?_
            refine vm_WM.call (a := 102) (as := [.ref 0, .int (nI 3)]) (rest := []) (L0 := [.ref 0, .int (nI 3)]) 22 rfl rfl (by decide) rfl rfl ⟨rfl, Or.inr rfl, Nat.le_of_ble_eq_true rfl, Nat.le_of_ble_eq_true rfl⟩ rfl rfl rfl ?_
            refine vm_WM.seq 0 6 (pc' := 9) (L' := [.ref 0, .int (nI 3)]) (S' := [.int ((Int32.ofInt (-1000010)) - (nI 3))]) (M' := (vm_u2 M3 0 9 (nI 3))) rfl ?_
            refine vm_WM.ret (r := some (.int ((Int32.ofInt (-1000010)) - (nI 3)))) 6 rfl rfl rfl ?_
            show vm_WM X 97 44 [.ref 0, .int a1, .int a2] [.int ((Int32.ofInt (-1000010)) - (nI 3))] (vm_u2 M3 0 9 (nI 3)) _
            exact vm_WM.ret (r := some (.int ((Int32.ofInt (-1000010)) - (nI 3)))) 23 rfl rfl rfl ⟨_, rfl, h⟩
          · replace h := h.2 hc
            refine vm_WM.seq 24 4 (pc' := 51) (L' := [.ref 0, .int a1, .int a2]) (S' := [.int a1]) (M' := (vm_u2 M3 0 9 (nI 0))) rfl ?_
            exact vm_WM.ret (r := some (.int a1)) 28 rfl rfl rfl ⟨_, rfl, h⟩
    · replace h := h.2 hc
      refine vm_WM.seq 8 1 (pc' := 17) (L' := [.ref 7, .int a1]) (S' := [.int (nI 0)]) (M' := M) rfl ?_
      refine vm_WM.ret (r := some (.int (nI 0))) 9 rfl rfl rfl ?_
      show vm_WM X 97 8 [.ref 0, .int a1, .int a2] [.int (nI 0)] M _
      refine vm_WM.seq 4 1 (pc' := 20) (L' := [.ref 0, .int a1, .int a2]) (S' := []) (M' := M) rfl ?_
      refine vm_WM.seq 10 1 (pc' := 22) (L' := [.ref 0, .int a1, .int a2]) (S' := [.int (Int32.ofInt (-1000001))]) (M' := M) rfl ?_
      exact vm_WM.ret (r := some (.int (Int32.ofInt (-1000001)))) 11 rfl rfl rfl ⟨_, rfl, h⟩
theorem v_B_ask {X : Nat × (Nat → Int32)} {a1 : Int32} {a2 : Int32} {M : vm_M} {P : Int32 → vm_M → Prop} (h : (a1 < 0 → (P (Int32.ofInt (-1000001)) M)) ∧ (¬ (a1 < 0) → ((a1 < (M 7 0) → ((a2 < 0 → (P (Int32.ofInt (-1000001)) M)) ∧ (¬ (a2 < 0) → (((nI 1) < a2 → (P (Int32.ofInt (-1000001)) M)) ∧ (¬ ((nI 1) < a2) → ((a2 = 0 → (E_Asks_size X a1 (vm_u2 M 46 2 (nI 0)) (fun v1 M2 => P v1 M2))) ∧ (¬ (a2 = 0) → (E_Asks_mark X a1 (vm_u2 M 46 2 (nI 0)) (fun v3 M4 => P v3 M4))))))))) ∧ (¬ (a1 < (M 7 0)) → (P (Int32.ofInt (-1000001)) M))))) : E_B_ask X a1 a2 M P := by
  unfold E_B_ask
  refine vm_WM.seq 0 3 (pc' := 5) (L' := [.ref 0, .int a1, .int a2]) (S' := [.int a1, .ref 7]) (M' := M) rfl ?_
  refine vm_WM.call (a := 38) (as := [.ref 7, .int a1]) (rest := []) (L0 := [.ref 7, .int a1]) 3 rfl rfl (by decide) rfl rfl ⟨rfl, Or.inr rfl, Nat.le_of_ble_eq_true rfl, Nat.le_of_ble_eq_true rfl⟩ rfl rfl rfl ?_
  refine vm_WM.seq 0 1 (pc' := 1) (L' := [.ref 7, .int a1]) (S' := [.int a1]) (M' := M) rfl ?_
  refine vm_WM.if (c := a1 < 0) (t1 := 16) (t2 := 4) (S' := []) 1 rfl rfl rfl (fun hc => ?_) (fun hc => ?_)
  · replace h := h.1 hc
    refine vm_WM.seq 8 1 (pc' := 17) (L' := [.ref 7, .int a1]) (S' := [.int (nI 0)]) (M' := M) rfl ?_
    refine vm_WM.ret (r := some (.int (nI 0))) 9 rfl rfl rfl ?_
    show vm_WM X 98 8 [.ref 0, .int a1, .int a2] [.int (nI 0)] M _
    refine vm_WM.seq 4 1 (pc' := 20) (L' := [.ref 0, .int a1, .int a2]) (S' := []) (M' := M) rfl ?_
    refine vm_WM.seq 10 1 (pc' := 22) (L' := [.ref 0, .int a1, .int a2]) (S' := [.int (Int32.ofInt (-1000001))]) (M' := M) rfl ?_
    exact vm_WM.ret (r := some (.int (Int32.ofInt (-1000001)))) 11 rfl rfl rfl ⟨_, rfl, h⟩
  · replace h := h.2 hc
    refine vm_WM.seq 2 3 (pc' := 9) (L' := [.ref 7, .int a1]) (S' := [.int (M 7 0), .int a1]) (M' := M) rfl ?_
    refine vm_WM.if (c := a1 < (M 7 0)) (t1 := 12) (t2 := 16) (S' := []) 5 rfl rfl rfl (fun hc => ?_) (fun hc => ?_)
    · replace h := h.1 hc
      refine vm_WM.seq 6 2 (pc' := 17) (L' := [.ref 7, .int a1]) (S' := [.int (nI 1)]) (M' := M) rfl ?_
      refine vm_WM.ret (r := some (.int (nI 1))) 9 rfl rfl rfl ?_
      show vm_WM X 98 8 [.ref 0, .int a1, .int a2] [.int (nI 1)] M _
      refine vm_WM.seq 4 2 (pc' := 12) (L' := [.ref 0, .int a1, .int a2]) (S' := [.int a2]) (M' := M) rfl ?_
      refine vm_WM.if (c := a2 < 0) (t1 := 20) (t2 := 15) (S' := []) 6 rfl rfl rfl (fun hc => ?_) (fun hc => ?_)
      · replace h := h.1 hc
        refine vm_WM.seq 10 1 (pc' := 22) (L' := [.ref 0, .int a1, .int a2]) (S' := [.int (Int32.ofInt (-1000001))]) (M' := M) rfl ?_
        exact vm_WM.ret (r := some (.int (Int32.ofInt (-1000001)))) 11 rfl rfl rfl ⟨_, rfl, h⟩
      · replace h := h.2 hc
        refine vm_WM.seq 7 2 (pc' := 17) (L' := [.ref 0, .int a1, .int a2]) (S' := [.int (nI 1), .int a2]) (M' := M) rfl ?_
        refine vm_WM.if (c := (nI 1) < a2) (t1 := 20) (t2 := 23) (S' := []) 9 rfl rfl rfl (fun hc => ?_) (fun hc => ?_)
        · replace h := h.1 hc
          refine vm_WM.seq 10 1 (pc' := 22) (L' := [.ref 0, .int a1, .int a2]) (S' := [.int (Int32.ofInt (-1000001))]) (M' := M) rfl ?_
          exact vm_WM.ret (r := some (.int (Int32.ofInt (-1000001)))) 11 rfl rfl rfl ⟨_, rfl, h⟩
        · replace h := h.2 hc
          refine vm_WM.seq 12 2 (pc' := 27) (L' := [.ref 0, .int a1, .int a2]) (S' := [.ref 46]) (M' := M) rfl ?_
          refine vm_WM.call (a := 9) (as := [.ref 46]) (rest := []) (L0 := [.ref 46]) 14 rfl rfl (by decide) rfl rfl ⟨rfl, Or.inr rfl, Nat.le_of_ble_eq_true rfl, Nat.le_of_ble_eq_true rfl⟩ rfl rfl rfl ?_
          refine vm_WM.seq 0 3 (pc' := 5) (L' := [.ref 46]) (S' := []) (M' := (vm_u2 M 46 2 (nI 0))) rfl ?_
          refine vm_WM.ret (r := none) 3 rfl rfl rfl ?_
          show vm_WM X 98 30 [.ref 0, .int a1, .int a2] [] (vm_u2 M 46 2 (nI 0)) _
          refine vm_WM.seq 15 1 (pc' := 31) (L' := [.ref 0, .int a1, .int a2]) (S' := [.int a2]) (M' := (vm_u2 M 46 2 (nI 0))) rfl ?_
          refine vm_WM.if (c := a2 = 0) (t1 := 34) (t2 := 45) (S' := []) 16 rfl rfl rfl (fun hc => ?_) (fun hc => ?_)
          · replace h := h.1 hc
            refine vm_WM.seq 17 3 (pc' := 39) (L' := [.ref 0, .int a1, .int a2]) (S' := [.int a1, .ref 46]) (M' := (vm_u2 M 46 2 (nI 0))) rfl ?_
            refine vm_WM.call (a := 11) (as := [.ref 46, .int a1]) (rest := []) (L0 := [.ref 46, .int a1]) 20 rfl rfl (by decide) rfl rfl ⟨rfl, Or.inr rfl, Nat.le_of_ble_eq_true rfl, Nat.le_of_ble_eq_true rfl⟩ rfl rfl rfl ?_
            refine vm_WM.theni h (fun v1 M2 h => ?_)
            show vm_WM X 98 42 [.ref 0, .int a1, .int a2] [.int v1] M2 _
            refine vm_WM.seq 21 1 (pc' := 53) (L' := [.ref 0, .int a1, .int a2]) (S' := [.int v1]) (M' := M2) rfl ?_
            exact vm_WM.ret (r := some (.int v1)) 26 rfl rfl rfl ⟨_, rfl, h⟩
          · replace h := h.2 hc
            refine vm_WM.seq 22 3 (pc' := 50) (L' := [.ref 0, .int a1, .int a2]) (S' := [.int a1, .ref 46]) (M' := (vm_u2 M 46 2 (nI 0))) rfl ?_
            refine vm_WM.call (a := 12) (as := [.ref 46, .int a1]) (rest := []) (L0 := [.ref 46, .int a1]) 25 rfl rfl (by decide) rfl rfl ⟨rfl, Or.inr rfl, Nat.le_of_ble_eq_true rfl, Nat.le_of_ble_eq_true rfl⟩ rfl rfl rfl ?_
            refine vm_WM.theni h (fun v3 M4 h => ?_)
            show vm_WM X 98 53 [.ref 0, .int a1, .int a2] [.int v3] M4 _
            exact vm_WM.ret (r := some (.int v3)) 26 rfl rfl rfl ⟨_, rfl, h⟩
    · replace h := h.2 hc
      refine vm_WM.seq 8 1 (pc' := 17) (L' := [.ref 7, .int a1]) (S' := [.int (nI 0)]) (M' := M) rfl ?_
      refine vm_WM.ret (r := some (.int (nI 0))) 9 rfl rfl rfl ?_
      show vm_WM X 98 8 [.ref 0, .int a1, .int a2] [.int (nI 0)] M _
      refine vm_WM.seq 4 1 (pc' := 20) (L' := [.ref 0, .int a1, .int a2]) (S' := []) (M' := M) rfl ?_
      refine vm_WM.seq 10 1 (pc' := 22) (L' := [.ref 0, .int a1, .int a2]) (S' := [.int (Int32.ofInt (-1000001))]) (M' := M) rfl ?_
      exact vm_WM.ret (r := some (.int (Int32.ofInt (-1000001)))) 11 rfl rfl rfl ⟨_, rfl, h⟩
theorem v_B_trace {X : Nat × (Nat → Int32)} {a1 : Int32} {M : vm_M} {P : Int32 → vm_M → Prop} (h : (a1 < 0 → (P (Int32.ofInt (-1000000)) M)) ∧ (¬ (a1 < 0) → ((a1 < (M 46 2) → ((a1 < (nI 16) → (∃ j1 : Nat, a1 = nI j1 ∧ j1 < 16 ∧ (P (M 47 j1) M))) ∧ (¬ (a1 < (nI 16)) → (P (Int32.ofInt (-1000000)) M)))) ∧ (¬ (a1 < (M 46 2)) → (P (Int32.ofInt (-1000000)) M))))) : E_B_trace X a1 M P := by
  unfold E_B_trace
  refine vm_WM.seq 0 1 (pc' := 1) (L' := [.ref 0, .int a1]) (S' := [.int a1]) (M' := M) rfl ?_
  refine vm_WM.if (c := a1 < 0) (t1 := 33) (t2 := 4) (S' := []) 1 rfl rfl rfl (fun hc => ?_) (fun hc => ?_)
  · replace h := h.1 hc
    refine vm_WM.seq 16 1 (pc' := 35) (L' := [.ref 0, .int a1]) (S' := [.int (Int32.ofInt (-1000000))]) (M' := M) rfl ?_
    exact vm_WM.ret (r := some (.int (Int32.ofInt (-1000000)))) 17 rfl rfl rfl ⟨_, rfl, h⟩
  · replace h := h.2 hc
    refine vm_WM.seq 2 4 (pc' := 12) (L' := [.ref 0, .int a1]) (S' := [.int (M 46 2), .int a1]) (M' := M) rfl ?_
    refine vm_WM.if (c := a1 < (M 46 2)) (t1 := 15) (t2 := 33) (S' := []) 6 rfl rfl rfl (fun hc => ?_) (fun hc => ?_)
    · replace h := h.1 hc
      refine vm_WM.seq 7 2 (pc' := 18) (L' := [.ref 0, .int a1]) (S' := [.int (nI 16), .int a1]) (M' := M) rfl ?_
      refine vm_WM.if (c := a1 < (nI 16)) (t1 := 21) (t2 := 33) (S' := []) 9 rfl rfl rfl (fun hc => ?_) (fun hc => ?_)
      · replace h := h.1 hc
        refine vm_WM.seq 10 4 (pc' := 29) (L' := [.ref 0, .int a1]) (S' := [.int a1, .ref 47]) (M' := M) rfl ?_
        obtain ⟨j1, hj1, hj2, h⟩ := h
        refine vm_WM.ald (n := 16) (jj := j1) 14 rfl (Or.inl ⟨rfl, rfl⟩) (by decide) rfl hj1 hj2 ?_
        refine vm_WM.seq 15 1 (pc' := 35) (L' := [.ref 0, .int a1]) (S' := [.int (M 47 j1)]) (M' := M) rfl ?_
        exact vm_WM.ret (r := some (.int (M 47 j1))) 17 rfl rfl rfl ⟨_, rfl, h⟩
      · replace h := h.2 hc
        refine vm_WM.seq 16 1 (pc' := 35) (L' := [.ref 0, .int a1]) (S' := [.int (Int32.ofInt (-1000000))]) (M' := M) rfl ?_
        exact vm_WM.ret (r := some (.int (Int32.ofInt (-1000000)))) 17 rfl rfl rfl ⟨_, rfl, h⟩
    · replace h := h.2 hc
      refine vm_WM.seq 16 1 (pc' := 35) (L' := [.ref 0, .int a1]) (S' := [.int (Int32.ofInt (-1000000))]) (M' := M) rfl ?_
      exact vm_WM.ret (r := some (.int (Int32.ofInt (-1000000)))) 17 rfl rfl rfl ⟨_, rfl, h⟩
