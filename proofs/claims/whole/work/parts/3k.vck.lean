/-! walks, by wip/whole/vcgen.py -/
theorem v_Tape_readPart_14 {X : Nat × (Nat → Int32)}  {M : vm_M} {P : Int32 → vm_M → Prop} (h : E_Tape_next X  M (fun M1 => ((M1 5 4) = 0 → ((0 < (M1 14 0) → (P (nI 0) M1)) ∧ (¬ (0 < (M1 14 0)) → (E_Tape_isWord_1002 X  M1 (fun v2 M3 => (v2 = 0 → (E_Tape_isWord_1014 X  M3 (fun v4 M5 => (v4 = 0 → (E_Tape_fail X (nI 1) M5 (fun M6 => ((M6 5 6) < 0 → (P (nI 1) M6)) ∧ (¬ ((M6 5 6) < 0) → (P (nI 0) M6))))) ∧ (¬ (v4 = 0) → ((0 < (M5 14 0) → (E_Tape_readWay_14 X  M5 (fun M7 => ((M7 5 6) < 0 → (P (nI 1) M7)) ∧ (¬ ((M7 5 6) < 0) → (P (nI 0) M7))))) ∧ (¬ (0 < (M5 14 0)) → (E_Tape_fail X (nI 1) M5 (fun M8 => ((M8 5 6) < 0 → (P (nI 1) M8)) ∧ (¬ ((M8 5 6) < 0) → (P (nI 0) M8)))))))))) ∧ (¬ (v2 = 0) → (((M3 14 1) = 0 → (E_Tape_readTrader_14 X  M3 (fun M9 => ((M9 5 6) < 0 → (P (nI 1) M9)) ∧ (¬ ((M9 5 6) < 0) → (P (nI 0) M9))))) ∧ (¬ ((M3 14 1) = 0) → (E_Tape_isWord_1014 X  M3 (fun v10 M11 => (v10 = 0 → (E_Tape_fail X (nI 1) M11 (fun M12 => ((M12 5 6) < 0 → (P (nI 1) M12)) ∧ (¬ ((M12 5 6) < 0) → (P (nI 0) M12))))) ∧ (¬ (v10 = 0) → ((0 < (M11 14 0) → (E_Tape_readWay_14 X  M11 (fun M13 => ((M13 5 6) < 0 → (P (nI 1) M13)) ∧ (¬ ((M13 5 6) < 0) → (P (nI 0) M13))))) ∧ (¬ (0 < (M11 14 0)) → (E_Tape_fail X (nI 1) M11 (fun M14 => ((M14 5 6) < 0 → (P (nI 1) M14)) ∧ (¬ ((M14 5 6) < 0) → (P (nI 0) M14))))))))))))))))) ∧ (¬ ((M1 5 4) = 0) → (E_Tape_isWord_1002 X  M1 (fun v15 M16 => (v15 = 0 → (E_Tape_isWord_1014 X  M16 (fun v17 M18 => (v17 = 0 → (E_Tape_fail X (nI 1) M18 (fun M19 => ((M19 5 6) < 0 → (P (nI 1) M19)) ∧ (¬ ((M19 5 6) < 0) → (P (nI 0) M19))))) ∧ (¬ (v17 = 0) → ((0 < (M18 14 0) → (E_Tape_readWay_14 X  M18 (fun M20 => ((M20 5 6) < 0 → (P (nI 1) M20)) ∧ (¬ ((M20 5 6) < 0) → (P (nI 0) M20))))) ∧ (¬ (0 < (M18 14 0)) → (E_Tape_fail X (nI 1) M18 (fun M21 => ((M21 5 6) < 0 → (P (nI 1) M21)) ∧ (¬ ((M21 5 6) < 0) → (P (nI 0) M21)))))))))) ∧ (¬ (v15 = 0) → (((M16 14 1) = 0 → (E_Tape_readTrader_14 X  M16 (fun M22 => ((M22 5 6) < 0 → (P (nI 1) M22)) ∧ (¬ ((M22 5 6) < 0) → (P (nI 0) M22))))) ∧ (¬ ((M16 14 1) = 0) → (E_Tape_isWord_1014 X  M16 (fun v23 M24 => (v23 = 0 → (E_Tape_fail X (nI 1) M24 (fun M25 => ((M25 5 6) < 0 → (P (nI 1) M25)) ∧ (¬ ((M25 5 6) < 0) → (P (nI 0) M25))))) ∧ (¬ (v23 = 0) → ((0 < (M24 14 0) → (E_Tape_readWay_14 X  M24 (fun M26 => ((M26 5 6) < 0 → (P (nI 1) M26)) ∧ (¬ ((M26 5 6) < 0) → (P (nI 0) M26))))) ∧ (¬ (0 < (M24 14 0)) → (E_Tape_fail X (nI 1) M24 (fun M27 => ((M27 5 6) < 0 → (P (nI 1) M27)) ∧ (¬ ((M27 5 6) < 0) → (P (nI 0) M27))))))))))))))))) : E_Tape_readPart_14 X  M P := by
  unfold E_Tape_readPart_14
  refine vm_WM.seq 0 1 (pc' := 1) (L' := [.ref 5, .ref 14]) (S' := [.ref 5]) (M' := M) rfl ?_
  refine vm_WM.call (a := 70) (as := [.ref 5]) (rest := []) (L0 := [.ref 5]) 1 rfl rfl (by decide) rfl rfl ⟨rfl, Or.inr rfl, Nat.le_of_ble_eq_true rfl, Nat.le_of_ble_eq_true rfl⟩ rfl rfl rfl ?_
  refine vm_WM.thenv h (fun M1 h => ?_)
  show vm_WM X 62 4 [.ref 5, .ref 14] [] M1 _
  refine vm_WM.seq 2 2 (pc' := 8) (L' := [.ref 5, .ref 14]) (S' := [.int (M1 5 4)]) (M' := M1) rfl ?_
  refine vm_WM.if (c := (M1 5 4) = 0) (t1 := 11) (t2 := 20) (S' := []) 4 rfl rfl rfl (fun hc => ?_) (fun hc => ?_)
  · replace h := h.1 hc
    refine vm_WM.seq 5 2 (pc' := 15) (L' := [.ref 5, .ref 14]) (S' := [.int (M1 14 0)]) (M' := M1) rfl ?_
    refine vm_WM.if (c := 0 < (M1 14 0)) (t1 := 18) (t2 := 20) (S' := []) 7 rfl rfl rfl (fun hc => ?_) (fun hc => ?_)
    · replace h := h.1 hc
      refine vm_WM.seq 8 1 (pc' := 19) (L' := [.ref 5, .ref 14]) (S' := [.int (nI 0)]) (M' := M1) rfl ?_
      exact vm_WM.ret (r := some (.int (nI 0))) 9 rfl rfl rfl ⟨_, rfl, h⟩
    · replace h := h.2 hc
      refine vm_WM.seq 10 2 (pc' := 23) (L' := [.ref 5, .ref 14]) (S' := [.ref 1002, .ref 5]) (M' := M1) rfl ?_
      refine vm_WM.call (a := 69) (as := [.ref 5, .ref 1002]) (rest := []) (L0 := [.ref 5, .ref 1002, .null]) 12 rfl rfl (by decide) rfl rfl ⟨rfl, Or.inr rfl, Nat.le_of_ble_eq_true rfl, Nat.le_of_ble_eq_true rfl⟩ rfl rfl rfl ?_
      refine vm_WM.theni h (fun v2 M3 h => ?_)
      show vm_WM X 62 26 [.ref 5, .ref 14] [.int v2] M3 _
      refine vm_WM.if (c := v2 = 0) (t1 := 44) (t2 := 29) (S' := []) 13 rfl rfl rfl (fun hc => ?_) (fun hc => ?_)
      · replace h := h.1 hc
        refine vm_WM.seq 21 2 (pc' := 47) (L' := [.ref 5, .ref 14]) (S' := [.ref 1014, .ref 5]) (M' := M3) rfl ?_
        refine vm_WM.call (a := 69) (as := [.ref 5, .ref 1014]) (rest := []) (L0 := [.ref 5, .ref 1014, .null]) 23 rfl rfl (by decide) rfl rfl ⟨rfl, Or.inr rfl, Nat.le_of_ble_eq_true rfl, Nat.le_of_ble_eq_true rfl⟩ rfl rfl rfl ?_
        refine vm_WM.theni h (fun v4 M5 h => ?_)
        show vm_WM X 62 50 [.ref 5, .ref 14] [.int v4] M5 _
        refine vm_WM.if (c := v4 = 0) (t1 := 68) (t2 := 53) (S' := []) 24 rfl rfl rfl (fun hc => ?_) (fun hc => ?_)
        · replace h := h.1 hc
          refine vm_WM.seq 32 2 (pc' := 70) (L' := [.ref 5, .ref 14]) (S' := [.int (nI 1), .ref 5]) (M' := M5) rfl ?_
          refine vm_WM.call (a := 68) (as := [.ref 5, .int (nI 1)]) (rest := []) (L0 := [.ref 5, .int (nI 1)]) 34 rfl rfl (by decide) rfl rfl ⟨rfl, Or.inr rfl, Nat.le_of_ble_eq_true rfl, Nat.le_of_ble_eq_true rfl⟩ rfl rfl rfl ?_
          refine vm_WM.thenv h (fun M6 h => ?_)
          show vm_WM X 62 73 [.ref 5, .ref 14] [] M6 _
          refine vm_WM.seq 35 2 (pc' := 77) (L' := [.ref 5, .ref 14]) (S' := [.int (M6 5 6)]) (M' := M6) rfl ?_
          refine vm_WM.if (c := (M6 5 6) < 0) (t1 := 80) (t2 := 84) (S' := []) 37 rfl rfl rfl (fun hc => ?_) (fun hc => ?_)
          · replace h := h.1 hc
            refine vm_WM.seq 38 2 (pc' := 85) (L' := [.ref 5, .ref 14]) (S' := [.int (nI 1)]) (M' := M6) rfl ?_
            exact vm_WM.ret (r := some (.int (nI 1))) 41 rfl rfl rfl ⟨_, rfl, h⟩
          · replace h := h.2 hc
            refine vm_WM.seq 40 1 (pc' := 85) (L' := [.ref 5, .ref 14]) (S' := [.int (nI 0)]) (M' := M6) rfl ?_
            exact vm_WM.ret (r := some (.int (nI 0))) 41 rfl rfl rfl ⟨_, rfl, h⟩
        · replace h := h.2 hc
          refine vm_WM.seq 25 2 (pc' := 57) (L' := [.ref 5, .ref 14]) (S' := [.int (M5 14 0)]) (M' := M5) rfl ?_
          refine vm_WM.if (c := 0 < (M5 14 0)) (t1 := 60) (t2 := 68) (S' := []) 27 rfl rfl rfl (fun hc => ?_) (fun hc => ?_)
          · replace h := h.1 hc
            refine vm_WM.seq 28 2 (pc' := 62) (L' := [.ref 5, .ref 14]) (S' := [.ref 14, .ref 5]) (M' := M5) rfl ?_
            refine vm_WM.call (a := 64) (as := [.ref 5, .ref 14]) (rest := []) (L0 := [.ref 5, .ref 14, .null, .null, .null, .null]) 30 rfl rfl (by decide) rfl rfl ⟨rfl, Or.inr rfl, Nat.le_of_ble_eq_true rfl, Nat.le_of_ble_eq_true rfl⟩ rfl rfl rfl ?_
            refine vm_WM.thenv h (fun M7 h => ?_)
            show vm_WM X 62 65 [.ref 5, .ref 14] [] M7 _
            refine vm_WM.seq 31 1 (pc' := 73) (L' := [.ref 5, .ref 14]) (S' := []) (M' := M7) rfl ?_
            refine vm_WM.seq 35 2 (pc' := 77) (L' := [.ref 5, .ref 14]) (S' := [.int (M7 5 6)]) (M' := M7) rfl ?_
            refine vm_WM.if (c := (M7 5 6) < 0) (t1 := 80) (t2 := 84) (S' := []) 37 rfl rfl rfl (fun hc => ?_) (fun hc => ?_)
            · replace h := h.1 hc
              refine vm_WM.seq 38 2 (pc' := 85) (L' := [.ref 5, .ref 14]) (S' := [.int (nI 1)]) (M' := M7) rfl ?_
              exact vm_WM.ret (r := some (.int (nI 1))) 41 rfl rfl rfl ⟨_, rfl, h⟩
            · replace h := h.2 hc
              refine vm_WM.seq 40 1 (pc' := 85) (L' := [.ref 5, .ref 14]) (S' := [.int (nI 0)]) (M' := M7) rfl ?_
              exact vm_WM.ret (r := some (.int (nI 0))) 41 rfl rfl rfl ⟨_, rfl, h⟩
          · replace h := h.2 hc
            refine vm_WM.seq 32 2 (pc' := 70) (L' := [.ref 5, .ref 14]) (S' := [.int (nI 1), .ref 5]) (M' := M5) rfl ?_
            refine vm_WM.call (a := 68) (as := [.ref 5, .int (nI 1)]) (rest := []) (L0 := [.ref 5, .int (nI 1)]) 34 rfl rfl (by decide) rfl rfl ⟨rfl, Or.inr rfl, Nat.le_of_ble_eq_true rfl, Nat.le_of_ble_eq_true rfl⟩ rfl rfl rfl ?_
            refine vm_WM.thenv h (fun M8 h => ?_)
            show vm_WM X 62 73 [.ref 5, .ref 14] [] M8 _
            refine vm_WM.seq 35 2 (pc' := 77) (L' := [.ref 5, .ref 14]) (S' := [.int (M8 5 6)]) (M' := M8) rfl ?_
            refine vm_WM.if (c := (M8 5 6) < 0) (t1 := 80) (t2 := 84) (S' := []) 37 rfl rfl rfl (fun hc => ?_) (fun hc => ?_)
            · replace h := h.1 hc
              refine vm_WM.seq 38 2 (pc' := 85) (L' := [.ref 5, .ref 14]) (S' := [.int (nI 1)]) (M' := M8) rfl ?_
              exact vm_WM.ret (r := some (.int (nI 1))) 41 rfl rfl rfl ⟨_, rfl, h⟩
            · replace h := h.2 hc
              refine vm_WM.seq 40 1 (pc' := 85) (L' := [.ref 5, .ref 14]) (S' := [.int (nI 0)]) (M' := M8) rfl ?_
              exact vm_WM.ret (r := some (.int (nI 0))) 41 rfl rfl rfl ⟨_, rfl, h⟩
      · replace h := h.2 hc
        refine vm_WM.seq 14 2 (pc' := 33) (L' := [.ref 5, .ref 14]) (S' := [.int (M3 14 1)]) (M' := M3) rfl ?_
        refine vm_WM.if (c := (M3 14 1) = 0) (t1 := 36) (t2 := 44) (S' := []) 16 rfl rfl rfl (fun hc => ?_) (fun hc => ?_)
        · replace h := h.1 hc
          refine vm_WM.seq 17 2 (pc' := 38) (L' := [.ref 5, .ref 14]) (S' := [.ref 14, .ref 5]) (M' := M3) rfl ?_
          refine vm_WM.call (a := 63) (as := [.ref 5, .ref 14]) (rest := []) (L0 := [.ref 5, .ref 14, .null, .null, .null]) 19 rfl rfl (by decide) rfl rfl ⟨rfl, Or.inr rfl, Nat.le_of_ble_eq_true rfl, Nat.le_of_ble_eq_true rfl⟩ rfl rfl rfl ?_
          refine vm_WM.thenv h (fun M9 h => ?_)
          show vm_WM X 62 41 [.ref 5, .ref 14] [] M9 _
          refine vm_WM.seq 20 1 (pc' := 73) (L' := [.ref 5, .ref 14]) (S' := []) (M' := M9) rfl ?_
          refine vm_WM.seq 35 2 (pc' := 77) (L' := [.ref 5, .ref 14]) (S' := [.int (M9 5 6)]) (M' := M9) rfl ?_
          refine vm_WM.if (c := (M9 5 6) < 0) (t1 := 80) (t2 := 84) (S' := []) 37 rfl rfl rfl (fun hc => ?_) (fun hc => ?_)
          · replace h := h.1 hc
            refine vm_WM.seq 38 2 (pc' := 85) (L' := [.ref 5, .ref 14]) (S' := [.int (nI 1)]) (M' := M9) rfl ?_
            exact vm_WM.ret (r := some (.int (nI 1))) 41 rfl rfl rfl ⟨_, rfl, h⟩
          · replace h := h.2 hc
            refine vm_WM.seq 40 1 (pc' := 85) (L' := [.ref 5, .ref 14]) (S' := [.int (nI 0)]) (M' := M9) rfl ?_
            exact vm_WM.ret (r := some (.int (nI 0))) 41 rfl rfl rfl ⟨_, rfl, h⟩
        · replace h := h.2 hc
          refine vm_WM.seq 21 2 (pc' := 47) (L' := [.ref 5, .ref 14]) (S' := [.ref 1014, .ref 5]) (M' := M3) rfl ?_
          refine vm_WM.call (a := 69) (as := [.ref 5, .ref 1014]) (rest := []) (L0 := [.ref 5, .ref 1014, .null]) 23 rfl rfl (by decide) rfl rfl ⟨rfl, Or.inr rfl, Nat.le_of_ble_eq_true rfl, Nat.le_of_ble_eq_true rfl⟩ rfl rfl rfl ?_
          refine vm_WM.theni h (fun v10 M11 h => ?_)
          show vm_WM X 62 50 [.ref 5, .ref 14] [.int v10] M11 _
          refine vm_WM.if (c := v10 = 0) (t1 := 68) (t2 := 53) (S' := []) 24 rfl rfl rfl (fun hc => ?_) (fun hc => ?_)
          · replace h := h.1 hc
            refine vm_WM.seq 32 2 (pc' := 70) (L' := [.ref 5, .ref 14]) (S' := [.int (nI 1), .ref 5]) (M' := M11) rfl ?_
            refine vm_WM.call (a := 68) (as := [.ref 5, .int (nI 1)]) (rest := []) (L0 := [.ref 5, .int (nI 1)]) 34 rfl rfl (by decide) rfl rfl ⟨rfl, Or.inr rfl, Nat.le_of_ble_eq_true rfl, Nat.le_of_ble_eq_true rfl⟩ rfl rfl rfl ?_
            refine vm_WM.thenv h (fun M12 h => ?_)
            show vm_WM X 62 73 [.ref 5, .ref 14] [] M12 _
            refine vm_WM.seq 35 2 (pc' := 77) (L' := [.ref 5, .ref 14]) (S' := [.int (M12 5 6)]) (M' := M12) rfl ?_
            refine vm_WM.if (c := (M12 5 6) < 0) (t1 := 80) (t2 := 84) (S' := []) 37 rfl rfl rfl (fun hc => ?_) (fun hc => ?_)
            · replace h := h.1 hc
              refine vm_WM.seq 38 2 (pc' := 85) (L' := [.ref 5, .ref 14]) (S' := [.int (nI 1)]) (M' := M12) rfl ?_
              exact vm_WM.ret (r := some (.int (nI 1))) 41 rfl rfl rfl ⟨_, rfl, h⟩
            · replace h := h.2 hc
              refine vm_WM.seq 40 1 (pc' := 85) (L' := [.ref 5, .ref 14]) (S' := [.int (nI 0)]) (M' := M12) rfl ?_
              exact vm_WM.ret (r := some (.int (nI 0))) 41 rfl rfl rfl ⟨_, rfl, h⟩
          · replace h := h.2 hc
            refine vm_WM.seq 25 2 (pc' := 57) (L' := [.ref 5, .ref 14]) (S' := [.int (M11 14 0)]) (M' := M11) rfl ?_
            refine vm_WM.if (c := 0 < (M11 14 0)) (t1 := 60) (t2 := 68) (S' := []) 27 rfl rfl rfl (fun hc => ?_) (fun hc => ?_)
            · replace h := h.1 hc
              refine vm_WM.seq 28 2 (pc' := 62) (L' := [.ref 5, .ref 14]) (S' := [.ref 14, .ref 5]) (M' := M11) rfl ?_
              refine vm_WM.call (a := 64) (as := [.ref 5, .ref 14]) (rest := []) (L0 := [.ref 5, .ref 14, .null, .null, .null, .null]) 30 rfl rfl (by decide) rfl rfl ⟨rfl, Or.inr rfl, Nat.le_of_ble_eq_true rfl, Nat.le_of_ble_eq_true rfl⟩ rfl rfl rfl ?_
              refine vm_WM.thenv h (fun M13 h => ?_)
              show vm_WM X 62 65 [.ref 5, .ref 14] [] M13 _
              refine vm_WM.seq 31 1 (pc' := 73) (L' := [.ref 5, .ref 14]) (S' := []) (M' := M13) rfl ?_
              refine vm_WM.seq 35 2 (pc' := 77) (L' := [.ref 5, .ref 14]) (S' := [.int (M13 5 6)]) (M' := M13) rfl ?_
              refine vm_WM.if (c := (M13 5 6) < 0) (t1 := 80) (t2 := 84) (S' := []) 37 rfl rfl rfl (fun hc => ?_) (fun hc => ?_)
              · replace h := h.1 hc
                refine vm_WM.seq 38 2 (pc' := 85) (L' := [.ref 5, .ref 14]) (S' := [.int (nI 1)]) (M' := M13) rfl ?_
                exact vm_WM.ret (r := some (.int (nI 1))) 41 rfl rfl rfl ⟨_, rfl, h⟩
              · replace h := h.2 hc
                refine vm_WM.seq 40 1 (pc' := 85) (L' := [.ref 5, .ref 14]) (S' := [.int (nI 0)]) (M' := M13) rfl ?_
                exact vm_WM.ret (r := some (.int (nI 0))) 41 rfl rfl rfl ⟨_, rfl, h⟩
            · replace h := h.2 hc
              refine vm_WM.seq 32 2 (pc' := 70) (L' := [.ref 5, .ref 14]) (S' := [.int (nI 1), .ref 5]) (M' := M11) rfl ?_
              refine vm_WM.call (a := 68) (as := [.ref 5, .int (nI 1)]) (rest := []) (L0 := [.ref 5, .int (nI 1)]) 34 rfl rfl (by decide) rfl rfl ⟨rfl, Or.inr rfl, Nat.le_of_ble_eq_true rfl, Nat.le_of_ble_eq_true rfl⟩ rfl rfl rfl ?_
              refine vm_WM.thenv h (fun M14 h => ?_)
              show vm_WM X 62 73 [.ref 5, .ref 14] [] M14 _
              refine vm_WM.seq 35 2 (pc' := 77) (L' := [.ref 5, .ref 14]) (S' := [.int (M14 5 6)]) (M' := M14) rfl ?_
              refine vm_WM.if (c := (M14 5 6) < 0) (t1 := 80) (t2 := 84) (S' := []) 37 rfl rfl rfl (fun hc => ?_) (fun hc => ?_)
              · replace h := h.1 hc
                refine vm_WM.seq 38 2 (pc' := 85) (L' := [.ref 5, .ref 14]) (S' := [.int (nI 1)]) (M' := M14) rfl ?_
                exact vm_WM.ret (r := some (.int (nI 1))) 41 rfl rfl rfl ⟨_, rfl, h⟩
              · replace h := h.2 hc
                refine vm_WM.seq 40 1 (pc' := 85) (L' := [.ref 5, .ref 14]) (S' := [.int (nI 0)]) (M' := M14) rfl ?_
                exact vm_WM.ret (r := some (.int (nI 0))) 41 rfl rfl rfl ⟨_, rfl, h⟩
  · replace h := h.2 hc
    refine vm_WM.seq 10 2 (pc' := 23) (L' := [.ref 5, .ref 14]) (S' := [.ref 1002, .ref 5]) (M' := M1) rfl ?_
    refine vm_WM.call (a := 69) (as := [.ref 5, .ref 1002]) (rest := []) (L0 := [.ref 5, .ref 1002, .null]) 12 rfl rfl (by decide) rfl rfl ⟨rfl, Or.inr rfl, Nat.le_of_ble_eq_true rfl, Nat.le_of_ble_eq_true rfl⟩ rfl rfl rfl ?_
    refine vm_WM.theni h (fun v15 M16 h => ?_)
    show vm_WM X 62 26 [.ref 5, .ref 14] [.int v15] M16 _
    refine vm_WM.if (c := v15 = 0) (t1 := 44) (t2 := 29) (S' := []) 13 rfl rfl rfl (fun hc => ?_) (fun hc => ?_)
    · replace h := h.1 hc
      refine vm_WM.seq 21 2 (pc' := 47) (L' := [.ref 5, .ref 14]) (S' := [.ref 1014, .ref 5]) (M' := M16) rfl ?_
      refine vm_WM.call (a := 69) (as := [.ref 5, .ref 1014]) (rest := []) (L0 := [.ref 5, .ref 1014, .null]) 23 rfl rfl (by decide) rfl rfl ⟨rfl, Or.inr rfl, Nat.le_of_ble_eq_true rfl, Nat.le_of_ble_eq_true rfl⟩ rfl rfl rfl ?_
      refine vm_WM.theni h (fun v17 M18 h => ?_)
      show vm_WM X 62 50 [.ref 5, .ref 14] [.int v17] M18 _
      refine vm_WM.if (c := v17 = 0) (t1 := 68) (t2 := 53) (S' := []) 24 rfl rfl rfl (fun hc => ?_) (fun hc => ?_)
      · replace h := h.1 hc
        refine vm_WM.seq 32 2 (pc' := 70) (L' := [.ref 5, .ref 14]) (S' := [.int (nI 1), .ref 5]) (M' := M18) rfl ?_
        refine vm_WM.call (a := 68) (as := [.ref 5, .int (nI 1)]) (rest := []) (L0 := [.ref 5, .int (nI 1)]) 34 rfl rfl (by decide) rfl rfl ⟨rfl, Or.inr rfl, Nat.le_of_ble_eq_true rfl, Nat.le_of_ble_eq_true rfl⟩ rfl rfl rfl ?_
        refine vm_WM.thenv h (fun M19 h => ?_)
        show vm_WM X 62 73 [.ref 5, .ref 14] [] M19 _
        refine vm_WM.seq 35 2 (pc' := 77) (L' := [.ref 5, .ref 14]) (S' := [.int (M19 5 6)]) (M' := M19) rfl ?_
        refine vm_WM.if (c := (M19 5 6) < 0) (t1 := 80) (t2 := 84) (S' := []) 37 rfl rfl rfl (fun hc => ?_) (fun hc => ?_)
        · replace h := h.1 hc
          refine vm_WM.seq 38 2 (pc' := 85) (L' := [.ref 5, .ref 14]) (S' := [.int (nI 1)]) (M' := M19) rfl ?_
          exact vm_WM.ret (r := some (.int (nI 1))) 41 rfl rfl rfl ⟨_, rfl, h⟩
        · replace h := h.2 hc
          refine vm_WM.seq 40 1 (pc' := 85) (L' := [.ref 5, .ref 14]) (S' := [.int (nI 0)]) (M' := M19) rfl ?_
          exact vm_WM.ret (r := some (.int (nI 0))) 41 rfl rfl rfl ⟨_, rfl, h⟩
      · replace h := h.2 hc
        refine vm_WM.seq 25 2 (pc' := 57) (L' := [.ref 5, .ref 14]) (S' := [.int (M18 14 0)]) (M' := M18) rfl ?_
        refine vm_WM.if (c := 0 < (M18 14 0)) (t1 := 60) (t2 := 68) (S' := []) 27 rfl rfl rfl (fun hc => ?_) (fun hc => ?_)
        · replace h := h.1 hc
          refine vm_WM.seq 28 2 (pc' := 62) (L' := [.ref 5, .ref 14]) (S' := [.ref 14, .ref 5]) (M' := M18) rfl ?_
          refine vm_WM.call (a := 64) (as := [.ref 5, .ref 14]) (rest := []) (L0 := [.ref 5, .ref 14, .null, .null, .null, .null]) 30 rfl rfl (by decide) rfl rfl ⟨rfl, Or.inr rfl, Nat.le_of_ble_eq_true rfl, Nat.le_of_ble_eq_true rfl⟩ rfl rfl rfl ?_
          refine vm_WM.thenv h (fun M20 h => ?_)
          show vm_WM X 62 65 [.ref 5, .ref 14] [] M20 _
          refine vm_WM.seq 31 1 (pc' := 73) (L' := [.ref 5, .ref 14]) (S' := []) (M' := M20) rfl ?_
          refine vm_WM.seq 35 2 (pc' := 77) (L' := [.ref 5, .ref 14]) (S' := [.int (M20 5 6)]) (M' := M20) rfl ?_
          refine vm_WM.if (c := (M20 5 6) < 0) (t1 := 80) (t2 := 84) (S' := []) 37 rfl rfl rfl (fun hc => ?_) (fun hc => ?_)
          · replace h := h.1 hc
            refine vm_WM.seq 38 2 (pc' := 85) (L' := [.ref 5, .ref 14]) (S' := [.int (nI 1)]) (M' := M20) rfl ?_
            exact vm_WM.ret (r := some (.int (nI 1))) 41 rfl rfl rfl ⟨_, rfl, h⟩
          · replace h := h.2 hc
            refine vm_WM.seq 40 1 (pc' := 85) (L' := [.ref 5, .ref 14]) (S' := [.int (nI 0)]) (M' := M20) rfl ?_
            exact vm_WM.ret (r := some (.int (nI 0))) 41 rfl rfl rfl ⟨_, rfl, h⟩
        · replace h := h.2 hc
          refine vm_WM.seq 32 2 (pc' := 70) (L' := [.ref 5, .ref 14]) (S' := [.int (nI 1), .ref 5]) (M' := M18) rfl ?_
          refine vm_WM.call (a := 68) (as := [.ref 5, .int (nI 1)]) (rest := []) (L0 := [.ref 5, .int (nI 1)]) 34 rfl rfl (by decide) rfl rfl ⟨rfl, Or.inr rfl, Nat.le_of_ble_eq_true rfl, Nat.le_of_ble_eq_true rfl⟩ rfl rfl rfl ?_
          refine vm_WM.thenv h (fun M21 h => ?_)
          show vm_WM X 62 73 [.ref 5, .ref 14] [] M21 _
          refine vm_WM.seq 35 2 (pc' := 77) (L' := [.ref 5, .ref 14]) (S' := [.int (M21 5 6)]) (M' := M21) rfl ?_
          refine vm_WM.if (c := (M21 5 6) < 0) (t1 := 80) (t2 := 84) (S' := []) 37 rfl rfl rfl (fun hc => ?_) (fun hc => ?_)
          · replace h := h.1 hc
            refine vm_WM.seq 38 2 (pc' := 85) (L' := [.ref 5, .ref 14]) (S' := [.int (nI 1)]) (M' := M21) rfl ?_
            exact vm_WM.ret (r := some (.int (nI 1))) 41 rfl rfl rfl ⟨_, rfl, h⟩
          · replace h := h.2 hc
            refine vm_WM.seq 40 1 (pc' := 85) (L' := [.ref 5, .ref 14]) (S' := [.int (nI 0)]) (M' := M21) rfl ?_
            exact vm_WM.ret (r := some (.int (nI 0))) 41 rfl rfl rfl ⟨_, rfl, h⟩
    · replace h := h.2 hc
      refine vm_WM.seq 14 2 (pc' := 33) (L' := [.ref 5, .ref 14]) (S' := [.int (M16 14 1)]) (M' := M16) rfl ?_
      refine vm_WM.if (c := (M16 14 1) = 0) (t1 := 36) (t2 := 44) (S' := []) 16 rfl rfl rfl (fun hc => ?_) (fun hc => ?_)
      · replace h := h.1 hc
        refine vm_WM.seq 17 2 (pc' := 38) (L' := [.ref 5, .ref 14]) (S' := [.ref 14, .ref 5]) (M' := M16) rfl ?_
        refine vm_WM.call (a := 63) (as := [.ref 5, .ref 14]) (rest := []) (L0 := [.ref 5, .ref 14, .null, .null, .null]) 19 rfl rfl (by decide) rfl rfl ⟨rfl, Or.inr rfl, Nat.le_of_ble_eq_true rfl, Nat.le_of_ble_eq_true rfl⟩ rfl rfl rfl ?_
        refine vm_WM.thenv h (fun M22 h => ?_)
        show vm_WM X 62 41 [.ref 5, .ref 14] [] M22 _
        refine vm_WM.seq 20 1 (pc' := 73) (L' := [.ref 5, .ref 14]) (S' := []) (M' := M22) rfl ?_
        refine vm_WM.seq 35 2 (pc' := 77) (L' := [.ref 5, .ref 14]) (S' := [.int (M22 5 6)]) (M' := M22) rfl ?_
        refine vm_WM.if (c := (M22 5 6) < 0) (t1 := 80) (t2 := 84) (S' := []) 37 rfl rfl rfl (fun hc => ?_) (fun hc => ?_)
        · replace h := h.1 hc
          refine vm_WM.seq 38 2 (pc' := 85) (L' := [.ref 5, .ref 14]) (S' := [.int (nI 1)]) (M' := M22) rfl ?_
          exact vm_WM.ret (r := some (.int (nI 1))) 41 rfl rfl rfl ⟨_, rfl, h⟩
        · replace h := h.2 hc
          refine vm_WM.seq 40 1 (pc' := 85) (L' := [.ref 5, .ref 14]) (S' := [.int (nI 0)]) (M' := M22) rfl ?_
          exact vm_WM.ret (r := some (.int (nI 0))) 41 rfl rfl rfl ⟨_, rfl, h⟩
      · replace h := h.2 hc
        refine vm_WM.seq 21 2 (pc' := 47) (L' := [.ref 5, .ref 14]) (S' := [.ref 1014, .ref 5]) (M' := M16) rfl ?_
        refine vm_WM.call (a := 69) (as := [.ref 5, .ref 1014]) (rest := []) (L0 := [.ref 5, .ref 1014, .null]) 23 rfl rfl (by decide) rfl rfl ⟨rfl, Or.inr rfl, Nat.le_of_ble_eq_true rfl, Nat.le_of_ble_eq_true rfl⟩ rfl rfl rfl ?_
        refine vm_WM.theni h (fun v23 M24 h => ?_)
        show vm_WM X 62 50 [.ref 5, .ref 14] [.int v23] M24 _
        refine vm_WM.if (c := v23 = 0) (t1 := 68) (t2 := 53) (S' := []) 24 rfl rfl rfl (fun hc => ?_) (fun hc => ?_)
        · replace h := h.1 hc
          refine vm_WM.seq 32 2 (pc' := 70) (L' := [.ref 5, .ref 14]) (S' := [.int (nI 1), .ref 5]) (M' := M24) rfl ?_
          refine vm_WM.call (a := 68) (as := [.ref 5, .int (nI 1)]) (rest := []) (L0 := [.ref 5, .int (nI 1)]) 34 rfl rfl (by decide) rfl rfl ⟨rfl, Or.inr rfl, Nat.le_of_ble_eq_true rfl, Nat.le_of_ble_eq_true rfl⟩ rfl rfl rfl ?_
          refine vm_WM.thenv h (fun M25 h => ?_)
          show vm_WM X 62 73 [.ref 5, .ref 14] [] M25 _
          refine vm_WM.seq 35 2 (pc' := 77) (L' := [.ref 5, .ref 14]) (S' := [.int (M25 5 6)]) (M' := M25) rfl ?_
          refine vm_WM.if (c := (M25 5 6) < 0) (t1 := 80) (t2 := 84) (S' := []) 37 rfl rfl rfl (fun hc => ?_) (fun hc => ?_)
          · replace h := h.1 hc
            refine vm_WM.seq 38 2 (pc' := 85) (L' := [.ref 5, .ref 14]) (S' := [.int (nI 1)]) (M' := M25) rfl ?_
            exact vm_WM.ret (r := some (.int (nI 1))) 41 rfl rfl rfl ⟨_, rfl, h⟩
          · replace h := h.2 hc
            refine vm_WM.seq 40 1 (pc' := 85) (L' := [.ref 5, .ref 14]) (S' := [.int (nI 0)]) (M' := M25) rfl ?_
            exact vm_WM.ret (r := some (.int (nI 0))) 41 rfl rfl rfl ⟨_, rfl, h⟩
        · replace h := h.2 hc
          refine vm_WM.seq 25 2 (pc' := 57) (L' := [.ref 5, .ref 14]) (S' := [.int (M24 14 0)]) (M' := M24) rfl ?_
          refine vm_WM.if (c := 0 < (M24 14 0)) (t1 := 60) (t2 := 68) (S' := []) 27 rfl rfl rfl (fun hc => ?_) (fun hc => ?_)
          · replace h := h.1 hc
            refine vm_WM.seq 28 2 (pc' := 62) (L' := [.ref 5, .ref 14]) (S' := [.ref 14, .ref 5]) (M' := M24) rfl ?_
            refine vm_WM.call (a := 64) (as := [.ref 5, .ref 14]) (rest := []) (L0 := [.ref 5, .ref 14, .null, .null, .null, .null]) 30 rfl rfl (by decide) rfl rfl ⟨rfl, Or.inr rfl, Nat.le_of_ble_eq_true rfl, Nat.le_of_ble_eq_true rfl⟩ rfl rfl rfl ?_
            refine vm_WM.thenv h (fun M26 h => ?_)
            show vm_WM X 62 65 [.ref 5, .ref 14] [] M26 _
            refine vm_WM.seq 31 1 (pc' := 73) (L' := [.ref 5, .ref 14]) (S' := []) (M' := M26) rfl ?_
            refine vm_WM.seq 35 2 (pc' := 77) (L' := [.ref 5, .ref 14]) (S' := [.int (M26 5 6)]) (M' := M26) rfl ?_
            refine vm_WM.if (c := (M26 5 6) < 0) (t1 := 80) (t2 := 84) (S' := []) 37 rfl rfl rfl (fun hc => ?_) (fun hc => ?_)
            · replace h := h.1 hc
              refine vm_WM.seq 38 2 (pc' := 85) (L' := [.ref 5, .ref 14]) (S' := [.int (nI 1)]) (M' := M26) rfl ?_
              exact vm_WM.ret (r := some (.int (nI 1))) 41 rfl rfl rfl ⟨_, rfl, h⟩
            · replace h := h.2 hc
              refine vm_WM.seq 40 1 (pc' := 85) (L' := [.ref 5, .ref 14]) (S' := [.int (nI 0)]) (M' := M26) rfl ?_
              exact vm_WM.ret (r := some (.int (nI 0))) 41 rfl rfl rfl ⟨_, rfl, h⟩
          · replace h := h.2 hc
            refine vm_WM.seq 32 2 (pc' := 70) (L' := [.ref 5, .ref 14]) (S' := [.int (nI 1), .ref 5]) (M' := M24) rfl ?_
            refine vm_WM.call (a := 68) (as := [.ref 5, .int (nI 1)]) (rest := []) (L0 := [.ref 5, .int (nI 1)]) 34 rfl rfl (by decide) rfl rfl ⟨rfl, Or.inr rfl, Nat.le_of_ble_eq_true rfl, Nat.le_of_ble_eq_true rfl⟩ rfl rfl rfl ?_
            refine vm_WM.thenv h (fun M27 h => ?_)
            show vm_WM X 62 73 [.ref 5, .ref 14] [] M27 _
            refine vm_WM.seq 35 2 (pc' := 77) (L' := [.ref 5, .ref 14]) (S' := [.int (M27 5 6)]) (M' := M27) rfl ?_
            refine vm_WM.if (c := (M27 5 6) < 0) (t1 := 80) (t2 := 84) (S' := []) 37 rfl rfl rfl (fun hc => ?_) (fun hc => ?_)
            · replace h := h.1 hc
              refine vm_WM.seq 38 2 (pc' := 85) (L' := [.ref 5, .ref 14]) (S' := [.int (nI 1)]) (M' := M27) rfl ?_
              exact vm_WM.ret (r := some (.int (nI 1))) 41 rfl rfl rfl ⟨_, rfl, h⟩
            · replace h := h.2 hc
              refine vm_WM.seq 40 1 (pc' := 85) (L' := [.ref 5, .ref 14]) (S' := [.int (nI 0)]) (M' := M27) rfl ?_
              exact vm_WM.ret (r := some (.int (nI 0))) 41 rfl rfl rfl ⟨_, rfl, h⟩
theorem v_Acts_keep {X : Nat × (Nat → Int32)} {a1 : Int32} {a2 : Int32} {M : vm_M} {P : vm_M → Prop} (h : ∃ j1 : Nat, (M 35 2) = nI j1 ∧ j1 < 24 ∧ (∃ j2 : Nat, ((vm_u2 M 36 j1 (M 7 4)) 35 2) = nI j2 ∧ j2 < 24 ∧ (∃ j3 : Nat, ((vm_u2 (vm_u2 M 36 j1 (M 7 4)) 37 j2 ((vm_u2 M 36 j1 (M 7 4)) 7 2)) 35 2) = nI j3 ∧ j3 < 24 ∧ (∃ j4 : Nat, ((vm_u2 (vm_u2 (vm_u2 M 36 j1 (M 7 4)) 37 j2 ((vm_u2 M 36 j1 (M 7 4)) 7 2)) 38 j3 ((vm_u2 (vm_u2 M 36 j1 (M 7 4)) 37 j2 ((vm_u2 M 36 j1 (M 7 4)) 7 2)) 7 5)) 35 2) = nI j4 ∧ j4 < 24 ∧ (∃ j5 : Nat, ((vm_u2 (vm_u2 (vm_u2 (vm_u2 M 36 j1 (M 7 4)) 37 j2 ((vm_u2 M 36 j1 (M 7 4)) 7 2)) 38 j3 ((vm_u2 (vm_u2 M 36 j1 (M 7 4)) 37 j2 ((vm_u2 M 36 j1 (M 7 4)) 7 2)) 7 5)) 39 j4 a1) 35 2) = nI j5 ∧ j5 < 24 ∧ ((((vm_u2 (vm_u2 (vm_u2 (vm_u2 (vm_u2 M 36 j1 (M 7 4)) 37 j2 ((vm_u2 M 36 j1 (M 7 4)) 7 2)) 38 j3 ((vm_u2 (vm_u2 M 36 j1 (M 7 4)) 37 j2 ((vm_u2 M 36 j1 (M 7 4)) 7 2)) 7 5)) 39 j4 a1) 40 j5 a2) 35 2) < (nI 23) → (P  (vm_u2 (vm_u2 (vm_u2 (vm_u2 (vm_u2 (vm_u2 (vm_u2 M 36 j1 (M 7 4)) 37 j2 ((vm_u2 M 36 j1 (M 7 4)) 7 2)) 38 j3 ((vm_u2 (vm_u2 M 36 j1 (M 7 4)) 37 j2 ((vm_u2 M 36 j1 (M 7 4)) 7 2)) 7 5)) 39 j4 a1) 40 j5 a2) 35 2 (((vm_u2 (vm_u2 (vm_u2 (vm_u2 (vm_u2 M 36 j1 (M 7 4)) 37 j2 ((vm_u2 M 36 j1 (M 7 4)) 7 2)) 38 j3 ((vm_u2 (vm_u2 M 36 j1 (M 7 4)) 37 j2 ((vm_u2 M 36 j1 (M 7 4)) 7 2)) 7 5)) 39 j4 a1) 40 j5 a2) 35 2) + (nI 1))) 35 1 (if (nI 24) < (((vm_u2 (vm_u2 (vm_u2 (vm_u2 (vm_u2 (vm_u2 M 36 j1 (M 7 4)) 37 j2 ((vm_u2 M 36 j1 (M 7 4)) 7 2)) 38 j3 ((vm_u2 (vm_u2 M 36 j1 (M 7 4)) 37 j2 ((vm_u2 M 36 j1 (M 7 4)) 7 2)) 7 5)) 39 j4 a1) 40 j5 a2) 35 2 (((vm_u2 (vm_u2 (vm_u2 (vm_u2 (vm_u2 M 36 j1 (M 7 4)) 37 j2 ((vm_u2 M 36 j1 (M 7 4)) 7 2)) 38 j3 ((vm_u2 (vm_u2 M 36 j1 (M 7 4)) 37 j2 ((vm_u2 M 36 j1 (M 7 4)) 7 2)) 7 5)) 39 j4 a1) 40 j5 a2) 35 2) + (nI 1))) 35 1) + (nI 1)) then (nI 24) else (((vm_u2 (vm_u2 (vm_u2 (vm_u2 (vm_u2 (vm_u2 M 36 j1 (M 7 4)) 37 j2 ((vm_u2 M 36 j1 (M 7 4)) 7 2)) 38 j3 ((vm_u2 (vm_u2 M 36 j1 (M 7 4)) 37 j2 ((vm_u2 M 36 j1 (M 7 4)) 7 2)) 7 5)) 39 j4 a1) 40 j5 a2) 35 2 (((vm_u2 (vm_u2 (vm_u2 (vm_u2 (vm_u2 M 36 j1 (M 7 4)) 37 j2 ((vm_u2 M 36 j1 (M 7 4)) 7 2)) 38 j3 ((vm_u2 (vm_u2 M 36 j1 (M 7 4)) 37 j2 ((vm_u2 M 36 j1 (M 7 4)) 7 2)) 7 5)) 39 j4 a1) 40 j5 a2) 35 2) + (nI 1))) 35 1) + (nI 1)))))) ∧ (¬ (((vm_u2 (vm_u2 (vm_u2 (vm_u2 (vm_u2 M 36 j1 (M 7 4)) 37 j2 ((vm_u2 M 36 j1 (M 7 4)) 7 2)) 38 j3 ((vm_u2 (vm_u2 M 36 j1 (M 7 4)) 37 j2 ((vm_u2 M 36 j1 (M 7 4)) 7 2)) 7 5)) 39 j4 a1) 40 j5 a2) 35 2) < (nI 23)) → (P  (vm_u2 (vm_u2 (vm_u2 (vm_u2 (vm_u2 (vm_u2 (vm_u2 M 36 j1 (M 7 4)) 37 j2 ((vm_u2 M 36 j1 (M 7 4)) 7 2)) 38 j3 ((vm_u2 (vm_u2 M 36 j1 (M 7 4)) 37 j2 ((vm_u2 M 36 j1 (M 7 4)) 7 2)) 7 5)) 39 j4 a1) 40 j5 a2) 35 2 (nI 0)) 35 1 (if (nI 24) < (((vm_u2 (vm_u2 (vm_u2 (vm_u2 (vm_u2 (vm_u2 M 36 j1 (M 7 4)) 37 j2 ((vm_u2 M 36 j1 (M 7 4)) 7 2)) 38 j3 ((vm_u2 (vm_u2 M 36 j1 (M 7 4)) 37 j2 ((vm_u2 M 36 j1 (M 7 4)) 7 2)) 7 5)) 39 j4 a1) 40 j5 a2) 35 2 (nI 0)) 35 1) + (nI 1)) then (nI 24) else (((vm_u2 (vm_u2 (vm_u2 (vm_u2 (vm_u2 (vm_u2 M 36 j1 (M 7 4)) 37 j2 ((vm_u2 M 36 j1 (M 7 4)) 7 2)) 38 j3 ((vm_u2 (vm_u2 M 36 j1 (M 7 4)) 37 j2 ((vm_u2 M 36 j1 (M 7 4)) 7 2)) 7 5)) 39 j4 a1) 40 j5 a2) 35 2 (nI 0)) 35 1) + (nI 1)))))))))))) : E_Acts_keep X a1 a2 M P := by
  unfold E_Acts_keep
  refine vm_WM.seq 0 7 (pc' := 15) (L' := [.ref 35, .int a1, .int a2]) (S' := [.int (M 7 4), .int (M 35 2), .ref 36]) (M' := M) rfl ?_
  obtain ⟨j1, hj1, hj2, h⟩ := h
  refine vm_WM.ast (n := 24) (jj := j1) 7 rfl rfl hj1 hj2 ?_
  refine vm_WM.seq 8 7 (pc' := 31) (L' := [.ref 35, .int a1, .int a2]) (S' := [.int ((vm_u2 M 36 j1 (M 7 4)) 7 2), .int ((vm_u2 M 36 j1 (M 7 4)) 35 2), .ref 37]) (M' := (vm_u2 M 36 j1 (M 7 4))) rfl ?_
  obtain ⟨j2, hj1, hj2, h⟩ := h
  refine vm_WM.ast (n := 24) (jj := j2) 15 rfl rfl hj1 hj2 ?_
  refine vm_WM.seq 16 7 (pc' := 47) (L' := [.ref 35, .int a1, .int a2]) (S' := [.int ((vm_u2 (vm_u2 M 36 j1 (M 7 4)) 37 j2 ((vm_u2 M 36 j1 (M 7 4)) 7 2)) 7 5), .int ((vm_u2 (vm_u2 M 36 j1 (M 7 4)) 37 j2 ((vm_u2 M 36 j1 (M 7 4)) 7 2)) 35 2), .ref 38]) (M' := (vm_u2 (vm_u2 M 36 j1 (M 7 4)) 37 j2 ((vm_u2 M 36 j1 (M 7 4)) 7 2))) rfl ?_
  obtain ⟨j3, hj1, hj2, h⟩ := h
  refine vm_WM.ast (n := 24) (jj := j3) 23 rfl rfl hj1 hj2 ?_
  refine vm_WM.seq 24 5 (pc' := 57) (L' := [.ref 35, .int a1, .int a2]) (S' := [.int a1, .int ((vm_u2 (vm_u2 (vm_u2 M 36 j1 (M 7 4)) 37 j2 ((vm_u2 M 36 j1 (M 7 4)) 7 2)) 38 j3 ((vm_u2 (vm_u2 M 36 j1 (M 7 4)) 37 j2 ((vm_u2 M 36 j1 (M 7 4)) 7 2)) 7 5)) 35 2), .ref 39]) (M' := (vm_u2 (vm_u2 (vm_u2 M 36 j1 (M 7 4)) 37 j2 ((vm_u2 M 36 j1 (M 7 4)) 7 2)) 38 j3 ((vm_u2 (vm_u2 M 36 j1 (M 7 4)) 37 j2 ((vm_u2 M 36 j1 (M 7 4)) 7 2)) 7 5))) rfl ?_
  obtain ⟨j4, hj1, hj2, h⟩ := h
  refine vm_WM.ast (n := 24) (jj := j4) 29 rfl rfl hj1 hj2 ?_
  refine vm_WM.seq 30 5 (pc' := 67) (L' := [.ref 35, .int a1, .int a2]) (S' := [.int a2, .int ((vm_u2 (vm_u2 (vm_u2 (vm_u2 M 36 j1 (M 7 4)) 37 j2 ((vm_u2 M 36 j1 (M 7 4)) 7 2)) 38 j3 ((vm_u2 (vm_u2 M 36 j1 (M 7 4)) 37 j2 ((vm_u2 M 36 j1 (M 7 4)) 7 2)) 7 5)) 39 j4 a1) 35 2), .ref 40]) (M' := (vm_u2 (vm_u2 (vm_u2 (vm_u2 M 36 j1 (M 7 4)) 37 j2 ((vm_u2 M 36 j1 (M 7 4)) 7 2)) 38 j3 ((vm_u2 (vm_u2 M 36 j1 (M 7 4)) 37 j2 ((vm_u2 M 36 j1 (M 7 4)) 7 2)) 7 5)) 39 j4 a1)) rfl ?_
  obtain ⟨j5, hj1, hj2, h⟩ := h
  refine vm_WM.ast (n := 24) (jj := j5) 35 rfl rfl hj1 hj2 ?_
  refine vm_WM.seq 36 4 (pc' := 75) (L' := [.ref 35, .int a1, .int a2]) (S' := [.int (nI 23), .int ((vm_u2 (vm_u2 (vm_u2 (vm_u2 (vm_u2 M 36 j1 (M 7 4)) 37 j2 ((vm_u2 M 36 j1 (M 7 4)) 7 2)) 38 j3 ((vm_u2 (vm_u2 M 36 j1 (M 7 4)) 37 j2 ((vm_u2 M 36 j1 (M 7 4)) 7 2)) 7 5)) 39 j4 a1) 40 j5 a2) 35 2), .ref 35]) (M' := (vm_u2 (vm_u2 (vm_u2 (vm_u2 (vm_u2 M 36 j1 (M 7 4)) 37 j2 ((vm_u2 M 36 j1 (M 7 4)) 7 2)) 38 j3 ((vm_u2 (vm_u2 M 36 j1 (M 7 4)) 37 j2 ((vm_u2 M 36 j1 (M 7 4)) 7 2)) 7 5)) 39 j4 a1) 40 j5 a2)) rfl ?_
  refine vm_WM.if (c := ((vm_u2 (vm_u2 (vm_u2 (vm_u2 (vm_u2 M 36 j1 (M 7 4)) 37 j2 ((vm_u2 M 36 j1 (M 7 4)) 7 2)) 38 j3 ((vm_u2 (vm_u2 M 36 j1 (M 7 4)) 37 j2 ((vm_u2 M 36 j1 (M 7 4)) 7 2)) 7 5)) 39 j4 a1) 40 j5 a2) 35 2) < (nI 23)) (t1 := 78) (t2 := 87) (S' := [.ref 35]) 40 rfl rfl rfl (fun hc => ?_) (fun hc => ?_)
  · replace h := h.1 hc
    refine vm_WM.seq 41 5 (pc' := 88) (L' := [.ref 35, .int a1, .int a2]) (S' := [.int (((vm_u2 (vm_u2 (vm_u2 (vm_u2 (vm_u2 M 36 j1 (M 7 4)) 37 j2 ((vm_u2 M 36 j1 (M 7 4)) 7 2)) 38 j3 ((vm_u2 (vm_u2 M 36 j1 (M 7 4)) 37 j2 ((vm_u2 M 36 j1 (M 7 4)) 7 2)) 7 5)) 39 j4 a1) 40 j5 a2) 35 2) + (nI 1)), .ref 35]) (M' := (vm_u2 (vm_u2 (vm_u2 (vm_u2 (vm_u2 M 36 j1 (M 7 4)) 37 j2 ((vm_u2 M 36 j1 (M 7 4)) 7 2)) 38 j3 ((vm_u2 (vm_u2 M 36 j1 (M 7 4)) 37 j2 ((vm_u2 M 36 j1 (M 7 4)) 7 2)) 7 5)) 39 j4 a1) 40 j5 a2)) rfl ?_
    refine vm_WM.seq 47 7 (pc' := 100) (L' := [.ref 35, .int a1, .int a2]) (S' := [.int (nI 24), .int (((vm_u2 (vm_u2 (vm_u2 (vm_u2 (vm_u2 (vm_u2 M 36 j1 (M 7 4)) 37 j2 ((vm_u2 M 36 j1 (M 7 4)) 7 2)) 38 j3 ((vm_u2 (vm_u2 M 36 j1 (M 7 4)) 37 j2 ((vm_u2 M 36 j1 (M 7 4)) 7 2)) 7 5)) 39 j4 a1) 40 j5 a2) 35 2 (((vm_u2 (vm_u2 (vm_u2 (vm_u2 (vm_u2 M 36 j1 (M 7 4)) 37 j2 ((vm_u2 M 36 j1 (M 7 4)) 7 2)) 38 j3 ((vm_u2 (vm_u2 M 36 j1 (M 7 4)) 37 j2 ((vm_u2 M 36 j1 (M 7 4)) 7 2)) 7 5)) 39 j4 a1) 40 j5 a2) 35 2) + (nI 1))) 35 1) + (nI 1)), .ref 35]) (M' := (vm_u2 (vm_u2 (vm_u2 (vm_u2 (vm_u2 (vm_u2 M 36 j1 (M 7 4)) 37 j2 ((vm_u2 M 36 j1 (M 7 4)) 7 2)) 38 j3 ((vm_u2 (vm_u2 M 36 j1 (M 7 4)) 37 j2 ((vm_u2 M 36 j1 (M 7 4)) 7 2)) 7 5)) 39 j4 a1) 40 j5 a2) 35 2 (((vm_u2 (vm_u2 (vm_u2 (vm_u2 (vm_u2 M 36 j1 (M 7 4)) 37 j2 ((vm_u2 M 36 j1 (M 7 4)) 7 2)) 38 j3 ((vm_u2 (vm_u2 M 36 j1 (M 7 4)) 37 j2 ((vm_u2 M 36 j1 (M 7 4)) 7 2)) 7 5)) 39 j4 a1) 40 j5 a2) 35 2) + (nI 1)))) rfl ?_
    refine vm_WM.mm (w := (if (nI 24) < (((vm_u2 (vm_u2 (vm_u2 (vm_u2 (vm_u2 (vm_u2 M 36 j1 (M 7 4)) 37 j2 ((vm_u2 M 36 j1 (M 7 4)) 7 2)) 38 j3 ((vm_u2 (vm_u2 M 36 j1 (M 7 4)) 37 j2 ((vm_u2 M 36 j1 (M 7 4)) 7 2)) 7 5)) 39 j4 a1) 40 j5 a2) 35 2 (((vm_u2 (vm_u2 (vm_u2 (vm_u2 (vm_u2 M 36 j1 (M 7 4)) 37 j2 ((vm_u2 M 36 j1 (M 7 4)) 7 2)) 38 j3 ((vm_u2 (vm_u2 M 36 j1 (M 7 4)) 37 j2 ((vm_u2 M 36 j1 (M 7 4)) 7 2)) 7 5)) 39 j4 a1) 40 j5 a2) 35 2) + (nI 1))) 35 1) + (nI 1)) then (nI 24) else (((vm_u2 (vm_u2 (vm_u2 (vm_u2 (vm_u2 (vm_u2 M 36 j1 (M 7 4)) 37 j2 ((vm_u2 M 36 j1 (M 7 4)) 7 2)) 38 j3 ((vm_u2 (vm_u2 M 36 j1 (M 7 4)) 37 j2 ((vm_u2 M 36 j1 (M 7 4)) 7 2)) 7 5)) 39 j4 a1) 40 j5 a2) 35 2 (((vm_u2 (vm_u2 (vm_u2 (vm_u2 (vm_u2 M 36 j1 (M 7 4)) 37 j2 ((vm_u2 M 36 j1 (M 7 4)) 7 2)) 38 j3 ((vm_u2 (vm_u2 M 36 j1 (M 7 4)) 37 j2 ((vm_u2 M 36 j1 (M 7 4)) 7 2)) 7 5)) 39 j4 a1) 40 j5 a2) 35 2) + (nI 1))) 35 1) + (nI 1)))) 54 rfl rfl (Or.inr rfl) rfl (Nat.le_of_ble_eq_true rfl) ?_
    refine vm_WM.seq 55 1 (pc' := 106) (L' := [.ref 35, .int a1, .int a2]) (S' := []) (M' := (vm_u2 (vm_u2 (vm_u2 (vm_u2 (vm_u2 (vm_u2 (vm_u2 M 36 j1 (M 7 4)) 37 j2 ((vm_u2 M 36 j1 (M 7 4)) 7 2)) 38 j3 ((vm_u2 (vm_u2 M 36 j1 (M 7 4)) 37 j2 ((vm_u2 M 36 j1 (M 7 4)) 7 2)) 7 5)) 39 j4 a1) 40 j5 a2) 35 2 (((vm_u2 (vm_u2 (vm_u2 (vm_u2 (vm_u2 M 36 j1 (M 7 4)) 37 j2 ((vm_u2 M 36 j1 (M 7 4)) 7 2)) 38 j3 ((vm_u2 (vm_u2 M 36 j1 (M 7 4)) 37 j2 ((vm_u2 M 36 j1 (M 7 4)) 7 2)) 7 5)) 39 j4 a1) 40 j5 a2) 35 2) + (nI 1))) 35 1 (if (nI 24) < (((vm_u2 (vm_u2 (vm_u2 (vm_u2 (vm_u2 (vm_u2 M 36 j1 (M 7 4)) 37 j2 ((vm_u2 M 36 j1 (M 7 4)) 7 2)) 38 j3 ((vm_u2 (vm_u2 M 36 j1 (M 7 4)) 37 j2 ((vm_u2 M 36 j1 (M 7 4)) 7 2)) 7 5)) 39 j4 a1) 40 j5 a2) 35 2 (((vm_u2 (vm_u2 (vm_u2 (vm_u2 (vm_u2 M 36 j1 (M 7 4)) 37 j2 ((vm_u2 M 36 j1 (M 7 4)) 7 2)) 38 j3 ((vm_u2 (vm_u2 M 36 j1 (M 7 4)) 37 j2 ((vm_u2 M 36 j1 (M 7 4)) 7 2)) 7 5)) 39 j4 a1) 40 j5 a2) 35 2) + (nI 1))) 35 1) + (nI 1)) then (nI 24) else (((vm_u2 (vm_u2 (vm_u2 (vm_u2 (vm_u2 (vm_u2 M 36 j1 (M 7 4)) 37 j2 ((vm_u2 M 36 j1 (M 7 4)) 7 2)) 38 j3 ((vm_u2 (vm_u2 M 36 j1 (M 7 4)) 37 j2 ((vm_u2 M 36 j1 (M 7 4)) 7 2)) 7 5)) 39 j4 a1) 40 j5 a2) 35 2 (((vm_u2 (vm_u2 (vm_u2 (vm_u2 (vm_u2 M 36 j1 (M 7 4)) 37 j2 ((vm_u2 M 36 j1 (M 7 4)) 7 2)) 38 j3 ((vm_u2 (vm_u2 M 36 j1 (M 7 4)) 37 j2 ((vm_u2 M 36 j1 (M 7 4)) 7 2)) 7 5)) 39 j4 a1) 40 j5 a2) 35 2) + (nI 1))) 35 1) + (nI 1))))) rfl ?_
    exact vm_WM.ret (r := none) 56 rfl rfl rfl ⟨rfl, h⟩
  · replace h := h.2 hc
    refine vm_WM.seq 46 8 (pc' := 100) (L' := [.ref 35, .int a1, .int a2]) (S' := [.int (nI 24), .int (((vm_u2 (vm_u2 (vm_u2 (vm_u2 (vm_u2 (vm_u2 M 36 j1 (M 7 4)) 37 j2 ((vm_u2 M 36 j1 (M 7 4)) 7 2)) 38 j3 ((vm_u2 (vm_u2 M 36 j1 (M 7 4)) 37 j2 ((vm_u2 M 36 j1 (M 7 4)) 7 2)) 7 5)) 39 j4 a1) 40 j5 a2) 35 2 (nI 0)) 35 1) + (nI 1)), .ref 35]) (M' := (vm_u2 (vm_u2 (vm_u2 (vm_u2 (vm_u2 (vm_u2 M 36 j1 (M 7 4)) 37 j2 ((vm_u2 M 36 j1 (M 7 4)) 7 2)) 38 j3 ((vm_u2 (vm_u2 M 36 j1 (M 7 4)) 37 j2 ((vm_u2 M 36 j1 (M 7 4)) 7 2)) 7 5)) 39 j4 a1) 40 j5 a2) 35 2 (nI 0))) rfl ?_
    refine vm_WM.mm (w := (if (nI 24) < (((vm_u2 (vm_u2 (vm_u2 (vm_u2 (vm_u2 (vm_u2 M 36 j1 (M 7 4)) 37 j2 ((vm_u2 M 36 j1 (M 7 4)) 7 2)) 38 j3 ((vm_u2 (vm_u2 M 36 j1 (M 7 4)) 37 j2 ((vm_u2 M 36 j1 (M 7 4)) 7 2)) 7 5)) 39 j4 a1) 40 j5 a2) 35 2 (nI 0)) 35 1) + (nI 1)) then (nI 24) else (((vm_u2 (vm_u2 (vm_u2 (vm_u2 (vm_u2 (vm_u2 M 36 j1 (M 7 4)) 37 j2 ((vm_u2 M 36 j1 (M 7 4)) 7 2)) 38 j3 ((vm_u2 (vm_u2 M 36 j1 (M 7 4)) 37 j2 ((vm_u2 M 36 j1 (M 7 4)) 7 2)) 7 5)) 39 j4 a1) 40 j5 a2) 35 2 (nI 0)) 35 1) + (nI 1)))) 54 rfl rfl (Or.inr rfl) rfl (Nat.le_of_ble_eq_true rfl) ?_
    refine vm_WM.seq 55 1 (pc' := 106) (L' := [.ref 35, .int a1, .int a2]) (S' := []) (M' := (vm_u2 (vm_u2 (vm_u2 (vm_u2 (vm_u2 (vm_u2 (vm_u2 M 36 j1 (M 7 4)) 37 j2 ((vm_u2 M 36 j1 (M 7 4)) 7 2)) 38 j3 ((vm_u2 (vm_u2 M 36 j1 (M 7 4)) 37 j2 ((vm_u2 M 36 j1 (M 7 4)) 7 2)) 7 5)) 39 j4 a1) 40 j5 a2) 35 2 (nI 0)) 35 1 (if (nI 24) < (((vm_u2 (vm_u2 (vm_u2 (vm_u2 (vm_u2 (vm_u2 M 36 j1 (M 7 4)) 37 j2 ((vm_u2 M 36 j1 (M 7 4)) 7 2)) 38 j3 ((vm_u2 (vm_u2 M 36 j1 (M 7 4)) 37 j2 ((vm_u2 M 36 j1 (M 7 4)) 7 2)) 7 5)) 39 j4 a1) 40 j5 a2) 35 2 (nI 0)) 35 1) + (nI 1)) then (nI 24) else (((vm_u2 (vm_u2 (vm_u2 (vm_u2 (vm_u2 (vm_u2 M 36 j1 (M 7 4)) 37 j2 ((vm_u2 M 36 j1 (M 7 4)) 7 2)) 38 j3 ((vm_u2 (vm_u2 M 36 j1 (M 7 4)) 37 j2 ((vm_u2 M 36 j1 (M 7 4)) 7 2)) 7 5)) 39 j4 a1) 40 j5 a2) 35 2 (nI 0)) 35 1) + (nI 1))))) rfl ?_
    exact vm_WM.ret (r := none) 56 rfl rfl rfl ⟨rfl, h⟩
theorem v_Acts_pay {X : Nat × (Nat → Int32)} {a1 : Int32} {a2 : Int32} {a3 : Int32} {M : vm_M} {P : vm_M → Prop} (h : ∃ j1 : Nat, a1 = nI j1 ∧ j1 < 6 ∧ (∃ j2 : Nat, a1 = nI j2 ∧ j2 < 6 ∧ (∃ j3 : Nat, a2 = nI j3 ∧ j3 < 6 ∧ (∃ j4 : Nat, a2 = nI j4 ∧ j4 < 6 ∧ (P  (vm_u2 (vm_u2 M 11 j2 ((M 11 j1) - a3)) 11 j4 (((vm_u2 M 11 j2 ((M 11 j1) - a3)) 11 j3) + a3))))))) : E_Acts_pay X a1 a2 a3 M P := by
  unfold E_Acts_pay
  refine vm_WM.seq 0 5 (pc' := 9) (L' := [.ref 35, .int a1, .int a2, .int a3]) (S' := [.int a1, .ref 11, .int a1, .ref 11]) (M' := M) rfl ?_
  obtain ⟨j1, hj1, hj2, h⟩ := h
  refine vm_WM.ald (n := 6) (jj := j1) 5 rfl (Or.inl ⟨rfl, rfl⟩) (by decide) rfl hj1 hj2 ?_
  refine vm_WM.seq 6 2 (pc' := 12) (L' := [.ref 35, .int a1, .int a2, .int a3]) (S' := [.int ((M 11 j1) - a3), .int a1, .ref 11]) (M' := M) rfl ?_
  obtain ⟨j2, hj1, hj2, h⟩ := h
  refine vm_WM.ast (n := 6) (jj := j2) 8 rfl rfl hj1 hj2 ?_
  refine vm_WM.seq 9 5 (pc' := 22) (L' := [.ref 35, .int a1, .int a2, .int a3]) (S' := [.int a2, .ref 11, .int a2, .ref 11]) (M' := (vm_u2 M 11 j2 ((M 11 j1) - a3))) rfl ?_
  obtain ⟨j3, hj1, hj2, h⟩ := h
  refine vm_WM.ald (n := 6) (jj := j3) 14 rfl (Or.inl ⟨rfl, rfl⟩) (by decide) rfl hj1 hj2 ?_
  refine vm_WM.seq 15 2 (pc' := 25) (L' := [.ref 35, .int a1, .int a2, .int a3]) (S' := [.int (((vm_u2 M 11 j2 ((M 11 j1) - a3)) 11 j3) + a3), .int a2, .ref 11]) (M' := (vm_u2 M 11 j2 ((M 11 j1) - a3))) rfl ?_
  obtain ⟨j4, hj1, hj2, h⟩ := h
  refine vm_WM.ast (n := 6) (jj := j4) 17 rfl rfl hj1 hj2 ?_
  exact vm_WM.ret (r := none) 18 rfl rfl rfl ⟨rfl, h⟩
theorem v_Foretold_dearest {X : Nat × (Nat → Int32)} {a1 : Int32} {a2 : Int32} {a3 : Int32} {M : vm_M} {P : Int32 → vm_M → Prop} (h : C_Foretold_dearest_7 X a1 a2 a3 (Int32.ofInt (-1000000)) (nI 0) (.null) M P) : E_Foretold_dearest X a1 a2 a3 M P := by
  unfold E_Foretold_dearest
  refine vm_WM.seq 0 4 (pc' := 7) (L' := [.ref 41, .int a1, .int a2, .int a3, .int (Int32.ofInt (-1000000)), .int (nI 0), .null]) (S' := []) (M' := M) rfl ?_
  exact h
theorem v_Foretold_dearest_7 {X : Nat × (Nat → Int32)} {x1 : Int32} {x2 : Int32} {x3 : Int32} {x4 : Int32} {x5 : Int32} {w6 : Value} {M : vm_M} {P : Int32 → vm_M → Prop} (h : (x5 < (M 7 0) → ((x4 = (Int32.ofInt (-1000000)) → (E_Hill_handed_7 X x1 x5 x2 x3 M (fun v1 M2 => (v1 = (Int32.ofInt (-1000000)) → (C_Foretold_dearest_7 X x1 x2 x3 x4 (x5 + (nI 1)) (.int (nI 1)) M2 P)) ∧ (¬ (v1 = (Int32.ofInt (-1000000))) → (C_Foretold_dearest_7 X x1 x2 x3 x5 (x5 + (nI 1)) (.int (nI 1)) M2 P))))) ∧ (¬ (x4 = (Int32.ofInt (-1000000))) → (E_Hill_price_7 X x5 M (fun v3 M4 => E_Hill_price_7 X x4 M4 (fun v5 M6 => (v5 < v3 → (E_Hill_handed_7 X x1 x5 x2 x3 M6 (fun v7 M8 => (v7 = (Int32.ofInt (-1000000)) → (C_Foretold_dearest_7 X x1 x2 x3 x4 (x5 + (nI 1)) (.int (nI 1)) M8 P)) ∧ (¬ (v7 = (Int32.ofInt (-1000000))) → (C_Foretold_dearest_7 X x1 x2 x3 x5 (x5 + (nI 1)) (.int (nI 1)) M8 P))))) ∧ (¬ (v5 < v3) → (C_Foretold_dearest_7 X x1 x2 x3 x4 (x5 + (nI 1)) (.int (nI 0)) M6 P)))))))) ∧ (¬ (x5 < (M 7 0)) → (P x4 M))) : C_Foretold_dearest_7 X x1 x2 x3 x4 x5 w6 M P := by
  unfold C_Foretold_dearest_7
  refine vm_WM.seq 4 4 (pc' := 16) (L' := [.ref 41, .int x1, .int x2, .int x3, .int x4, .int x5, w6]) (S' := [.int (M 7 0), .int x5]) (M' := M) rfl ?_
  refine vm_WM.if (c := x5 < (M 7 0)) (t1 := 19) (t2 := 86) (S' := []) 8 rfl rfl rfl (fun hc => ?_) (fun hc => ?_)
  · replace h := h.1 hc
    refine vm_WM.seq 9 2 (pc' := 23) (L' := [.ref 41, .int x1, .int x2, .int x3, .int x4, .int x5, w6]) (S' := [.int (Int32.ofInt (-1000000)), .int x4]) (M' := M) rfl ?_
    refine vm_WM.if (c := x4 = (Int32.ofInt (-1000000))) (t1 := 47) (t2 := 26) (S' := []) 11 rfl rfl rfl (fun hc => ?_) (fun hc => ?_)
    · replace h := h.1 hc
      refine vm_WM.seq 21 2 (pc' := 52) (L' := [.ref 41, .int x1, .int x2, .int x3, .int x4, .int x5, w6]) (S' := [.int (nI 1)]) (M' := M) rfl ?_
      refine vm_WM.seq 24 9 (pc' := 68) (L' := [.ref 41, .int x1, .int x2, .int x3, .int x4, .int x5, .int (nI 1)]) (S' := [.int x3, .int x2, .int x5, .int x1, .ref 7]) (M' := M) rfl ?_
      refine vm_WM.call (a := 46) (as := [.ref 7, .int x1, .int x5, .int x2, .int x3]) (rest := []) (L0 := [.ref 7, .int x1, .int x5, .int x2, .int x3, .null]) 33 rfl rfl (by decide) rfl rfl ⟨rfl, Or.inr rfl, Nat.le_of_ble_eq_true rfl, Nat.le_of_ble_eq_true rfl⟩ rfl rfl rfl ?_
      refine vm_WM.theni h (fun v1 M2 h => ?_)
      show vm_WM X 25 71 [.ref 41, .int x1, .int x2, .int x3, .int x4, .int x5, .int (nI 1)] [.int v1] M2 _
      refine vm_WM.seq 34 1 (pc' := 73) (L' := [.ref 41, .int x1, .int x2, .int x3, .int x4, .int x5, .int (nI 1)]) (S' := [.int (Int32.ofInt (-1000000)), .int v1]) (M' := M2) rfl ?_
      refine vm_WM.if (c := v1 = (Int32.ofInt (-1000000))) (t1 := 80) (t2 := 76) (S' := []) 35 rfl rfl rfl (fun hc => ?_) (fun hc => ?_)
      · replace h := h.1 hc
        refine vm_WM.seq 38 2 (pc' := 7) (L' := [.ref 41, .int x1, .int x2, .int x3, .int x4, .int (x5 + (nI 1)), .int (nI 1)]) (S' := []) (M' := M2) rfl ?_
        exact h
      · replace h := h.2 hc
        refine vm_WM.seq 36 4 (pc' := 7) (L' := [.ref 41, .int x1, .int x2, .int x3, .int x5, .int (x5 + (nI 1)), .int (nI 1)]) (S' := []) (M' := M2) rfl ?_
        exact h
    · replace h := h.2 hc
      refine vm_WM.seq 12 3 (pc' := 32) (L' := [.ref 41, .int x1, .int x2, .int x3, .int x4, .int x5, w6]) (S' := [.int x5, .ref 7]) (M' := M) rfl ?_
      refine vm_WM.call (a := 43) (as := [.ref 7, .int x5]) (rest := []) (L0 := [.ref 7, .int x5]) 15 rfl rfl (by decide) rfl rfl ⟨rfl, Or.inr rfl, Nat.le_of_ble_eq_true rfl, Nat.le_of_ble_eq_true rfl⟩ rfl rfl rfl ?_
      refine vm_WM.theni h (fun v3 M4 h => ?_)
      show vm_WM X 25 35 [.ref 41, .int x1, .int x2, .int x3, .int x4, .int x5, w6] [.int v3] M4 _
      refine vm_WM.seq 16 3 (pc' := 41) (L' := [.ref 41, .int x1, .int x2, .int x3, .int x4, .int x5, w6]) (S' := [.int x4, .ref 7, .int v3]) (M' := M4) rfl ?_
      refine vm_WM.call (a := 43) (as := [.ref 7, .int x4]) (rest := [.int v3]) (L0 := [.ref 7, .int x4]) 19 rfl rfl (by decide) rfl rfl ⟨rfl, Or.inr rfl, Nat.le_of_ble_eq_true rfl, Nat.le_of_ble_eq_true rfl⟩ rfl rfl rfl ?_
      refine vm_WM.theni h (fun v5 M6 h => ?_)
      show vm_WM X 25 44 [.ref 41, .int x1, .int x2, .int x3, .int x4, .int x5, w6] [.int v5, .int v3] M6 _
      refine vm_WM.if (c := v5 < v3) (t1 := 47) (t2 := 51) (S' := []) 20 rfl rfl rfl (fun hc => ?_) (fun hc => ?_)
      · replace h := h.1 hc
        refine vm_WM.seq 21 2 (pc' := 52) (L' := [.ref 41, .int x1, .int x2, .int x3, .int x4, .int x5, w6]) (S' := [.int (nI 1)]) (M' := M6) rfl ?_
        refine vm_WM.seq 24 9 (pc' := 68) (L' := [.ref 41, .int x1, .int x2, .int x3, .int x4, .int x5, .int (nI 1)]) (S' := [.int x3, .int x2, .int x5, .int x1, .ref 7]) (M' := M6) rfl ?_
        refine vm_WM.call (a := 46) (as := [.ref 7, .int x1, .int x5, .int x2, .int x3]) (rest := []) (L0 := [.ref 7, .int x1, .int x5, .int x2, .int x3, .null]) 33 rfl rfl (by decide) rfl rfl ⟨rfl, Or.inr rfl, Nat.le_of_ble_eq_true rfl, Nat.le_of_ble_eq_true rfl⟩ rfl rfl rfl ?_
        refine vm_WM.theni h (fun v7 M8 h => ?_)
        show vm_WM X 25 71 [.ref 41, .int x1, .int x2, .int x3, .int x4, .int x5, .int (nI 1)] [.int v7] M8 _
        refine vm_WM.seq 34 1 (pc' := 73) (L' := [.ref 41, .int x1, .int x2, .int x3, .int x4, .int x5, .int (nI 1)]) (S' := [.int (Int32.ofInt (-1000000)), .int v7]) (M' := M8) rfl ?_
        refine vm_WM.if (c := v7 = (Int32.ofInt (-1000000))) (t1 := 80) (t2 := 76) (S' := []) 35 rfl rfl rfl (fun hc => ?_) (fun hc => ?_)
        · replace h := h.1 hc
          refine vm_WM.seq 38 2 (pc' := 7) (L' := [.ref 41, .int x1, .int x2, .int x3, .int x4, .int (x5 + (nI 1)), .int (nI 1)]) (S' := []) (M' := M8) rfl ?_
          exact h
        · replace h := h.2 hc
          refine vm_WM.seq 36 4 (pc' := 7) (L' := [.ref 41, .int x1, .int x2, .int x3, .int x5, .int (x5 + (nI 1)), .int (nI 1)]) (S' := []) (M' := M8) rfl ?_
          exact h
      · replace h := h.2 hc
        refine vm_WM.seq 23 4 (pc' := 80) (L' := [.ref 41, .int x1, .int x2, .int x3, .int x4, .int x5, .int (nI 0)]) (S' := []) (M' := M6) rfl ?_
        refine vm_WM.seq 38 2 (pc' := 7) (L' := [.ref 41, .int x1, .int x2, .int x3, .int x4, .int (x5 + (nI 1)), .int (nI 0)]) (S' := []) (M' := M6) rfl ?_
        exact h
  · replace h := h.2 hc
    refine vm_WM.seq 40 1 (pc' := 88) (L' := [.ref 41, .int x1, .int x2, .int x3, .int x4, .int x5, w6]) (S' := [.int x4]) (M' := M) rfl ?_
    exact vm_WM.ret (r := some (.int x4)) 41 rfl rfl rfl ⟨_, rfl, h⟩
theorem v_Foretold_fillBest {X : Nat × (Nat → Int32)} {a1 : Int32} {a2 : Int32} {M : vm_M} {P : vm_M → Prop} (h : C_Foretold_fillBest_3 X a1 a2 (nI 60) (.null) M P) : E_Foretold_fillBest X a1 a2 M P := by
  unfold E_Foretold_fillBest
  refine vm_WM.seq 0 2 (pc' := 3) (L' := [.ref 41, .int a1, .int a2, .int (nI 60), .null]) (S' := []) (M' := M) rfl ?_
  exact h
theorem v_Foretold_fillBest_3 {X : Nat × (Nat → Int32)} {x1 : Int32} {x2 : Int32} {x3 : Int32} {w4 : Value} {M : vm_M} {P : vm_M → Prop} (h : (x3 < x1 → (P  M)) ∧ (¬ (x3 < x1) → (C_Foretold_fillBest_11 X x1 x2 x3 (nI 0) M P))) : C_Foretold_fillBest_3 X x1 x2 x3 w4 M P := by
  unfold C_Foretold_fillBest_3
  refine vm_WM.seq 2 2 (pc' := 5) (L' := [.ref 41, .int x1, .int x2, .int x3, w4]) (S' := [.int x1, .int x3]) (M' := M) rfl ?_
  refine vm_WM.if (c := x3 < x1) (t1 := 55) (t2 := 8) (S' := []) 4 rfl rfl rfl (fun hc => ?_) (fun hc => ?_)
  · replace h := h.1 hc
    exact vm_WM.ret (r := none) 29 rfl rfl rfl ⟨rfl, h⟩
  · replace h := h.2 hc
    refine vm_WM.seq 5 2 (pc' := 11) (L' := [.ref 41, .int x1, .int x2, .int x3, .int (nI 0)]) (S' := []) (M' := M) rfl ?_
    exact h
theorem v_Foretold_fillBest_11 {X : Nat × (Nat → Int32)} {x1 : Int32} {x2 : Int32} {x3 : Int32} {x4 : Int32} {M : vm_M} {P : vm_M → Prop} (h : (x4 < (M 7 0) → (E_Foretold_bestOf X x4 x3 x2 M (fun v1 M2 => ∃ j3 : Nat, ((x3 * (nI 6)) + x4) = nI j3 ∧ j3 < 366 ∧ (C_Foretold_fillBest_11 X x1 x2 x3 (x4 + (nI 1)) (vm_u2 M2 42 j3 v1) P)))) ∧ (¬ (x4 < (M 7 0)) → (C_Foretold_fillBest_3 X x1 x2 (x3 + (Int32.ofInt (-1))) (.int x4) M P))) : C_Foretold_fillBest_11 X x1 x2 x3 x4 M P := by
  unfold C_Foretold_fillBest_11
  refine vm_WM.seq 7 4 (pc' := 20) (L' := [.ref 41, .int x1, .int x2, .int x3, .int x4]) (S' := [.int (M 7 0), .int x4]) (M' := M) rfl ?_
  refine vm_WM.if (c := x4 < (M 7 0)) (t1 := 23) (t2 := 49) (S' := []) 11 rfl rfl rfl (fun hc => ?_) (fun hc => ?_)
  · replace h := h.1 hc
    refine vm_WM.seq 12 11 (pc' := 39) (L' := [.ref 41, .int x1, .int x2, .int x3, .int x4]) (S' := [.int x2, .int x3, .int x4, .ref 41, .int ((x3 * (nI 6)) + x4), .ref 42]) (M' := M) rfl ?_
    refine vm_WM.call (a := 24) (as := [.ref 41, .int x4, .int x3, .int x2]) (rest := [.int ((x3 * (nI 6)) + x4), .ref 42]) (L0 := [.ref 41, .int x4, .int x3, .int x2, .null, .null, .null, .null, .null, .null]) 23 rfl rfl (by decide) rfl rfl ⟨rfl, Or.inr rfl, Nat.le_of_ble_eq_true rfl, Nat.le_of_ble_eq_true rfl⟩ rfl rfl rfl ?_
    refine vm_WM.theni h (fun v1 M2 h => ?_)
    show vm_WM X 23 42 [.ref 41, .int x1, .int x2, .int x3, .int x4] [.int v1, .int ((x3 * (nI 6)) + x4), .ref 42] M2 _
    obtain ⟨j3, hj1, hj2, h⟩ := h
    refine vm_WM.ast (n := 366) (jj := j3) 24 rfl rfl hj1 hj2 ?_
    refine vm_WM.seq 25 2 (pc' := 11) (L' := [.ref 41, .int x1, .int x2, .int x3, .int (x4 + (nI 1))]) (S' := []) (M' := (vm_u2 M2 42 j3 v1)) rfl ?_
    exact h
  · replace h := h.2 hc
    refine vm_WM.seq 27 2 (pc' := 3) (L' := [.ref 41, .int x1, .int x2, .int (x3 + (Int32.ofInt (-1))), .int x4]) (S' := []) (M' := M) rfl ?_
    exact h
theorem v_Foretold_coins {X : Nat × (Nat → Int32)} {a0 : Int32} {M : vm_M} {P : Int32 → vm_M → Prop} (h : P (((a0 + (nI 64)) - (nI 1)) / (nI 64)) M) : E_Foretold_coins X a0 M P := by
  unfold E_Foretold_coins
  refine vm_WM.seq 0 7 (pc' := 9) (L' := [.int a0]) (S' := [.int (((a0 + (nI 64)) - (nI 1)) / (nI 64))]) (M' := M) rfl ?_
  exact vm_WM.ret (r := some (.int (((a0 + (nI 64)) - (nI 1)) / (nI 64)))) 7 rfl rfl rfl ⟨_, rfl, h⟩
theorem v_Foretold_fillCame {X : Nat × (Nat → Int32)}  {M : vm_M} {P : vm_M → Prop} (h : C_Foretold_fillCame_2 X (nI 1) (.null) (.null) M P) : E_Foretold_fillCame X  M P := by
  unfold E_Foretold_fillCame
  refine vm_WM.seq 0 2 (pc' := 2) (L' := [.ref 41, .int (nI 1), .null, .null]) (S' := []) (M' := M) rfl ?_
  exact h
theorem v_Foretold_fillCame_2 {X : Nat × (Nat → Int32)} {x1 : Int32} {w2 : Value} {w3 : Value} {M : vm_M} {P : vm_M → Prop} (h : ((nI 60) < x1 → (C_Foretold_fillCame_30 X (nI 0) (w2) (w3) (vm_u2 M 44 0 (nI 1)) P)) ∧ (¬ ((nI 60) < x1) → (∃ j1 : Nat, x1 = nI j1 ∧ j1 < 61 ∧ (C_Foretold_fillCame_2 X (x1 + (nI 1)) (w2) (w3) (vm_u2 M 44 j1 (nI 0)) P)))) : C_Foretold_fillCame_2 X x1 w2 w3 M P := by
  unfold C_Foretold_fillCame_2
  refine vm_WM.seq 2 2 (pc' := 5) (L' := [.ref 41, .int x1, w2, w3]) (S' := [.int (nI 60), .int x1]) (M' := M) rfl ?_
  refine vm_WM.if (c := (nI 60) < x1) (t1 := 21) (t2 := 8) (S' := []) 4 rfl rfl rfl (fun hc => ?_) (fun hc => ?_)
  · replace h := h.1 hc
    refine vm_WM.seq 12 4 (pc' := 27) (L' := [.ref 41, .int x1, w2, w3]) (S' := [.int (nI 1), .int (nI 0), .ref 44]) (M' := M) rfl ?_
    refine vm_WM.ast (n := 61) (jj := 0) 16 rfl rfl rfl (by decide) ?_
    refine vm_WM.seq 17 2 (pc' := 30) (L' := [.ref 41, .int (nI 0), w2, w3]) (S' := []) (M' := (vm_u2 M 44 0 (nI 1))) rfl ?_
    exact h
  · replace h := h.2 hc
    refine vm_WM.seq 5 4 (pc' := 14) (L' := [.ref 41, .int x1, w2, w3]) (S' := [.int (nI 0), .int x1, .ref 44]) (M' := M) rfl ?_
    obtain ⟨j1, hj1, hj2, h⟩ := h
    refine vm_WM.ast (n := 61) (jj := j1) 9 rfl rfl hj1 hj2 ?_
    refine vm_WM.seq 10 2 (pc' := 2) (L' := [.ref 41, .int (x1 + (nI 1)), w2, w3]) (S' := []) (M' := (vm_u2 M 44 j1 (nI 0))) rfl ?_
    exact h
theorem v_Foretold_fillCame_30 {X : Nat × (Nat → Int32)} {x1 : Int32} {w2 : Value} {w3 : Value} {M : vm_M} {P : vm_M → Prop} (h : ((nI 60) < x1 → (P  M)) ∧ (¬ ((nI 60) < x1) → (∃ j1 : Nat, x1 = nI j1 ∧ j1 < 61 ∧ (∃ j2 : Nat, x1 = nI j2 ∧ j2 < 61 ∧ (∃ j3 : Nat, x1 = nI j3 ∧ j3 < 61 ∧ (E_Foretold_nextTold X x1 (vm_u2 M 44 j3 ((M 44 j1) &&& (M 43 j2))) (fun v4 M5 => C_Foretold_fillCame_59 X x1 v4 (nI 0) M5 P))))))) : C_Foretold_fillCame_30 X x1 w2 w3 M P := by
  unfold C_Foretold_fillCame_30
  refine vm_WM.seq 19 2 (pc' := 33) (L' := [.ref 41, .int x1, w2, w3]) (S' := [.int (nI 60), .int x1]) (M' := M) rfl ?_
  refine vm_WM.if (c := (nI 60) < x1) (t1 := 102) (t2 := 36) (S' := []) 21 rfl rfl rfl (fun hc => ?_) (fun hc => ?_)
  · replace h := h.1 hc
    exact vm_WM.ret (r := none) 62 rfl rfl rfl ⟨rfl, h⟩
  · replace h := h.2 hc
    refine vm_WM.seq 22 4 (pc' := 42) (L' := [.ref 41, .int x1, w2, w3]) (S' := [.int x1, .ref 44, .int x1, .ref 44]) (M' := M) rfl ?_
    obtain ⟨j1, hj1, hj2, h⟩ := h
    refine vm_WM.ald (n := 61) (jj := j1) 26 rfl (Or.inl ⟨rfl, rfl⟩) (by decide) rfl hj1 hj2 ?_
    refine vm_WM.seq 27 3 (pc' := 48) (L' := [.ref 41, .int x1, w2, w3]) (S' := [.int x1, .ref 43, .int (M 44 j1), .int x1, .ref 44]) (M' := M) rfl ?_
    obtain ⟨j2, hj1, hj2, h⟩ := h
    refine vm_WM.ald (n := 61) (jj := j2) 30 rfl (Or.inl ⟨rfl, rfl⟩) (by decide) rfl hj1 hj2 ?_
    refine vm_WM.seq 31 1 (pc' := 50) (L' := [.ref 41, .int x1, w2, w3]) (S' := [.int ((M 44 j1) &&& (M 43 j2)), .int x1, .ref 44]) (M' := M) rfl ?_
    obtain ⟨j3, hj1, hj2, h⟩ := h
    refine vm_WM.ast (n := 61) (jj := j3) 32 rfl rfl hj1 hj2 ?_
    refine vm_WM.seq 33 2 (pc' := 53) (L' := [.ref 41, .int x1, w2, w3]) (S' := [.int x1, .ref 41]) (M' := (vm_u2 M 44 j3 ((M 44 j1) &&& (M 43 j2)))) rfl ?_
    refine vm_WM.call (a := 35) (as := [.ref 41, .int x1]) (rest := []) (L0 := [.ref 41, .int x1, .null]) 35 rfl rfl (by decide) rfl rfl ⟨rfl, Or.inr rfl, Nat.le_of_ble_eq_true rfl, Nat.le_of_ble_eq_true rfl⟩ rfl rfl rfl ?_
    refine vm_WM.theni h (fun v4 M5 h => ?_)
    show vm_WM X 31 56 [.ref 41, .int x1, w2, w3] [.int v4] M5 _
    refine vm_WM.seq 36 3 (pc' := 59) (L' := [.ref 41, .int x1, .int v4, .int (nI 0)]) (S' := []) (M' := M5) rfl ?_
    exact h
theorem v_Foretold_fillCame_59 {X : Nat × (Nat → Int32)} {x1 : Int32} {x2 : Int32} {x3 : Int32} {M : vm_M} {P : vm_M → Prop} (h : (x3 < (M 7 0) → (∃ j1 : Nat, x1 = nI j1 ∧ j1 < 61 ∧ (((((M 44 j1) >>> (x3 &&& 31)) &&& (nI 1)) = 0 → (C_Foretold_fillCame_59 X x1 x2 (x3 + (nI 1)) M P)) ∧ (¬ ((((M 44 j1) >>> (x3 &&& 31)) &&& (nI 1)) = 0) → (E_Foretold_goFrom X x3 x1 x2 M (fun M2 => C_Foretold_fillCame_59 X x1 x2 (x3 + (nI 1)) M2 P)))))) ∧ (¬ (x3 < (M 7 0)) → (C_Foretold_fillCame_30 X (x1 + (nI 1)) (.int x2) (.int x3) M P))) : C_Foretold_fillCame_59 X x1 x2 x3 M P := by
  unfold C_Foretold_fillCame_59
  refine vm_WM.seq 39 4 (pc' := 67) (L' := [.ref 41, .int x1, .int x2, .int x3]) (S' := [.int (M 7 0), .int x3]) (M' := M) rfl ?_
  refine vm_WM.if (c := x3 < (M 7 0)) (t1 := 70) (t2 := 96) (S' := []) 43 rfl rfl rfl (fun hc => ?_) (fun hc => ?_)
  · replace h := h.1 hc
    refine vm_WM.seq 44 3 (pc' := 75) (L' := [.ref 41, .int x1, .int x2, .int x3]) (S' := [.int x1, .ref 44]) (M' := M) rfl ?_
    obtain ⟨j1, hj1, hj2, h⟩ := h
    refine vm_WM.ald (n := 61) (jj := j1) 47 rfl (Or.inl ⟨rfl, rfl⟩) (by decide) rfl hj1 hj2 ?_
    refine vm_WM.seq 48 4 (pc' := 80) (L' := [.ref 41, .int x1, .int x2, .int x3]) (S' := [.int (((M 44 j1) >>> (x3 &&& 31)) &&& (nI 1))]) (M' := M) rfl ?_
    refine vm_WM.if (c := (((M 44 j1) >>> (x3 &&& 31)) &&& (nI 1)) = 0) (t1 := 90) (t2 := 83) (S' := []) 52 rfl rfl rfl (fun hc => ?_) (fun hc => ?_)
    · replace h := h.1 hc
      refine vm_WM.seq 58 2 (pc' := 59) (L' := [.ref 41, .int x1, .int x2, .int (x3 + (nI 1))]) (S' := []) (M' := M) rfl ?_
      exact h
    · replace h := h.2 hc
      refine vm_WM.seq 53 4 (pc' := 87) (L' := [.ref 41, .int x1, .int x2, .int x3]) (S' := [.int x2, .int x1, .int x3, .ref 41]) (M' := M) rfl ?_
      refine vm_WM.call (a := 32) (as := [.ref 41, .int x3, .int x1, .int x2]) (rest := []) (L0 := [.ref 41, .int x3, .int x1, .int x2, .null, .null]) 57 rfl rfl (by decide) rfl rfl ⟨rfl, Or.inr rfl, Nat.le_of_ble_eq_true rfl, Nat.le_of_ble_eq_true rfl⟩ rfl rfl rfl ?_
      refine vm_WM.thenv h (fun M2 h => ?_)
      show vm_WM X 31 90 [.ref 41, .int x1, .int x2, .int x3] [] M2 _
      refine vm_WM.seq 58 2 (pc' := 59) (L' := [.ref 41, .int x1, .int x2, .int (x3 + (nI 1))]) (S' := []) (M' := M2) rfl ?_
      exact h
  · replace h := h.2 hc
    refine vm_WM.seq 60 2 (pc' := 30) (L' := [.ref 41, .int (x1 + (nI 1)), .int x2, .int x3]) (S' := []) (M' := M) rfl ?_
    exact h
theorem v_Foretold_fillGoesOn {X : Nat × (Nat → Int32)}  {M : vm_M} {P : vm_M → Prop} (h : C_Foretold_fillGoesOn_3 X (nI 60) (.null) (.null) (.null) M P) : E_Foretold_fillGoesOn X  M P := by
  unfold E_Foretold_fillGoesOn
  refine vm_WM.seq 0 2 (pc' := 3) (L' := [.ref 41, .int (nI 60), .null, .null, .null]) (S' := []) (M' := M) rfl ?_
  exact h
theorem v_Foretold_fillGoesOn_3 {X : Nat × (Nat → Int32)} {x1 : Int32} {w2 : Value} {w3 : Value} {w4 : Value} {M : vm_M} {P : vm_M → Prop} (h : (x1 < 0 → (P  M)) ∧ (¬ (x1 < 0) → ((x1 < (nI 60) → (∃ j1 : Nat, (x1 + (nI 1)) = nI j1 ∧ j1 < 61 ∧ (E_Foretold_nextTold X x1 M (fun v2 M3 => C_Foretold_fillGoesOn_36 X x1 (M 45 j1) v2 (nI 0) M3 P)))) ∧ (¬ (x1 < (nI 60)) → (E_Foretold_nextTold X x1 M (fun v4 M5 => C_Foretold_fillGoesOn_36 X x1 (nI 63) v4 (nI 0) M5 P)))))) : C_Foretold_fillGoesOn_3 X x1 w2 w3 w4 M P := by
  unfold C_Foretold_fillGoesOn_3
  refine vm_WM.seq 2 1 (pc' := 4) (L' := [.ref 41, .int x1, w2, w3, w4]) (S' := [.int x1]) (M' := M) rfl ?_
  refine vm_WM.if (c := x1 < 0) (t1 := 92) (t2 := 7) (S' := []) 3 rfl rfl rfl (fun hc => ?_) (fun hc => ?_)
  · replace h := h.1 hc
    exact vm_WM.ret (r := none) 53 rfl rfl rfl ⟨rfl, h⟩
  · replace h := h.2 hc
    refine vm_WM.seq 4 2 (pc' := 10) (L' := [.ref 41, .int x1, w2, w3, w4]) (S' := [.int (nI 60), .int x1]) (M' := M) rfl ?_
    refine vm_WM.if (c := x1 < (nI 60)) (t1 := 13) (t2 := 24) (S' := []) 6 rfl rfl rfl (fun hc => ?_) (fun hc => ?_)
    · replace h := h.1 hc
      refine vm_WM.seq 7 5 (pc' := 20) (L' := [.ref 41, .int x1, w2, w3, w4]) (S' := [.int (x1 + (nI 1)), .ref 45]) (M' := M) rfl ?_
      obtain ⟨j1, hj1, hj2, h⟩ := h
      refine vm_WM.ald (n := 61) (jj := j1) 12 rfl (Or.inl ⟨rfl, rfl⟩) (by decide) rfl hj1 hj2 ?_
      refine vm_WM.seq 13 1 (pc' := 26) (L' := [.ref 41, .int x1, w2, w3, w4]) (S' := [.int (M 45 j1)]) (M' := M) rfl ?_
      refine vm_WM.seq 15 3 (pc' := 29) (L' := [.ref 41, .int x1, .int (M 45 j1), w3, w4]) (S' := [.int x1, .ref 41]) (M' := M) rfl ?_
      refine vm_WM.call (a := 35) (as := [.ref 41, .int x1]) (rest := []) (L0 := [.ref 41, .int x1, .null]) 18 rfl rfl (by decide) rfl rfl ⟨rfl, Or.inr rfl, Nat.le_of_ble_eq_true rfl, Nat.le_of_ble_eq_true rfl⟩ rfl rfl rfl ?_
      refine vm_WM.theni h (fun v2 M3 h => ?_)
      show vm_WM X 33 32 [.ref 41, .int x1, .int (M 45 j1), w3, w4] [.int v2] M3 _
      refine vm_WM.seq 19 3 (pc' := 36) (L' := [.ref 41, .int x1, .int (M 45 j1), .int v2, .int (nI 0)]) (S' := []) (M' := M3) rfl ?_
      exact h
    · replace h := h.2 hc
      refine vm_WM.seq 14 4 (pc' := 29) (L' := [.ref 41, .int x1, .int (nI 63), w3, w4]) (S' := [.int x1, .ref 41]) (M' := M) rfl ?_
      refine vm_WM.call (a := 35) (as := [.ref 41, .int x1]) (rest := []) (L0 := [.ref 41, .int x1, .null]) 18 rfl rfl (by decide) rfl rfl ⟨rfl, Or.inr rfl, Nat.le_of_ble_eq_true rfl, Nat.le_of_ble_eq_true rfl⟩ rfl rfl rfl ?_
      refine vm_WM.theni h (fun v4 M5 h => ?_)
      show vm_WM X 33 32 [.ref 41, .int x1, .int (nI 63), w3, w4] [.int v4] M5 _
      refine vm_WM.seq 19 3 (pc' := 36) (L' := [.ref 41, .int x1, .int (nI 63), .int v4, .int (nI 0)]) (S' := []) (M' := M5) rfl ?_
      exact h
theorem v_Foretold_fillGoesOn_36 {X : Nat × (Nat → Int32)} {x1 : Int32} {x2 : Int32} {x3 : Int32} {x4 : Int32} {M : vm_M} {P : vm_M → Prop} (h : (x4 < (M 7 0) → (E_Foretold_canGoOn X x4 x1 x3 M (fun v1 M2 => (v1 = 0 → (C_Foretold_fillGoesOn_36 X x1 x2 x3 (x4 + (nI 1)) M2 P)) ∧ (¬ (v1 = 0) → (C_Foretold_fillGoesOn_36 X x1 (x2 ||| ((nI 1) <<< (x4 &&& 31))) x3 (x4 + (nI 1)) M2 P))))) ∧ (¬ (x4 < (M 7 0)) → (∃ j3 : Nat, x1 = nI j3 ∧ j3 < 61 ∧ (∃ j4 : Nat, x1 = nI j4 ∧ j4 < 61 ∧ (C_Foretold_fillGoesOn_3 X (x1 + (Int32.ofInt (-1))) (.int x2) (.int x3) (.int x4) (vm_u2 M 45 j4 (x2 &&& (M 43 j3))) P))))) : C_Foretold_fillGoesOn_36 X x1 x2 x3 x4 M P := by
  unfold C_Foretold_fillGoesOn_36
  refine vm_WM.seq 22 4 (pc' := 45) (L' := [.ref 41, .int x1, .int x2, .int x3, .int x4]) (S' := [.int (M 7 0), .int x4]) (M' := M) rfl ?_
  refine vm_WM.if (c := x4 < (M 7 0)) (t1 := 48) (t2 := 72) (S' := []) 26 rfl rfl rfl (fun hc => ?_) (fun hc => ?_)
  · replace h := h.1 hc
    refine vm_WM.seq 27 4 (pc' := 53) (L' := [.ref 41, .int x1, .int x2, .int x3, .int x4]) (S' := [.int x3, .int x1, .int x4, .ref 41]) (M' := M) rfl ?_
    refine vm_WM.call (a := 34) (as := [.ref 41, .int x4, .int x1, .int x3]) (rest := []) (L0 := [.ref 41, .int x4, .int x1, .int x3, .null, .null]) 31 rfl rfl (by decide) rfl rfl ⟨rfl, Or.inr rfl, Nat.le_of_ble_eq_true rfl, Nat.le_of_ble_eq_true rfl⟩ rfl rfl rfl ?_
    refine vm_WM.theni h (fun v1 M2 h => ?_)
    show vm_WM X 33 56 [.ref 41, .int x1, .int x2, .int x3, .int x4] [.int v1] M2 _
    refine vm_WM.if (c := v1 = 0) (t1 := 66) (t2 := 59) (S' := []) 32 rfl rfl rfl (fun hc => ?_) (fun hc => ?_)
    · replace h := h.1 hc
      refine vm_WM.seq 39 2 (pc' := 36) (L' := [.ref 41, .int x1, .int x2, .int x3, .int (x4 + (nI 1))]) (S' := []) (M' := M2) rfl ?_
      exact h
    · replace h := h.2 hc
      refine vm_WM.seq 33 8 (pc' := 36) (L' := [.ref 41, .int x1, .int (x2 ||| ((nI 1) <<< (x4 &&& 31))), .int x3, .int (x4 + (nI 1))]) (S' := []) (M' := M2) rfl ?_
      exact h
  · replace h := h.2 hc
    refine vm_WM.seq 41 7 (pc' := 83) (L' := [.ref 41, .int x1, .int x2, .int x3, .int x4]) (S' := [.int x1, .ref 43, .int x2, .int x1, .ref 45]) (M' := M) rfl ?_
    obtain ⟨j3, hj1, hj2, h⟩ := h
    refine vm_WM.ald (n := 61) (jj := j3) 48 rfl (Or.inl ⟨rfl, rfl⟩) (by decide) rfl hj1 hj2 ?_
    refine vm_WM.seq 49 1 (pc' := 85) (L' := [.ref 41, .int x1, .int x2, .int x3, .int x4]) (S' := [.int (x2 &&& (M 43 j3)), .int x1, .ref 45]) (M' := M) rfl ?_
    obtain ⟨j4, hj1, hj2, h⟩ := h
    refine vm_WM.ast (n := 61) (jj := j4) 50 rfl rfl hj1 hj2 ?_
    refine vm_WM.seq 51 2 (pc' := 3) (L' := [.ref 41, .int (x1 + (Int32.ofInt (-1))), .int x2, .int x3, .int x4]) (S' := []) (M' := (vm_u2 M 45 j4 (x2 &&& (M 43 j3)))) rfl ?_
    exact h
theorem v_Asks_priestSize {X : Nat × (Nat → Int32)} {a1 : Int32} {M : vm_M} {P : Int32 → vm_M → Prop} (h : ∃ j1 : Nat, a1 = nI j1 ∧ j1 < 6 ∧ (((M 8 j1) = (nI 5) → (E_Asks_enter X (nI 14) M (fun M2 => E_Asks_enter X (nI 13) M2 (fun M3 => E_Asks_enter X (nI 10) M3 (fun M4 => ∃ j5 : Nat, a1 = nI j5 ∧ j5 < 6 ∧ (P ((nI 2) * ((M4 9 j5) - (nI 100))) M4)))))) ∧ (¬ ((M 8 j1) = (nI 5)) → (E_Asks_enter X (nI 13) M (fun M6 => E_Asks_enter X (nI 10) M6 (fun M7 => ∃ j8 : Nat, a1 = nI j8 ∧ j8 < 6 ∧ (P ((M7 9 j8) - (nI 100)) M7))))))) : E_Asks_priestSize X a1 M P := by
  unfold E_Asks_priestSize
  refine vm_WM.seq 0 4 (pc' := 8) (L' := [.ref 46, .int a1, .null, .null]) (S' := [.int a1, .ref 8]) (M' := M) rfl ?_
  obtain ⟨j1, hj1, hj2, h⟩ := h
  refine vm_WM.ald (n := 6) (jj := j1) 4 rfl (Or.inl ⟨rfl, rfl⟩) (by decide) rfl hj1 hj2 ?_
  refine vm_WM.seq 5 1 (pc' := 10) (L' := [.ref 46, .int a1, .null, .null]) (S' := [.int (nI 5), .int (M 8 j1)]) (M' := M) rfl ?_
  refine vm_WM.if (c := (M 8 j1) = (nI 5)) (t1 := 13) (t2 := 17) (S' := []) 6 rfl rfl rfl (fun hc => ?_) (fun hc => ?_)
  · replace h := h.1 hc
    refine vm_WM.seq 7 2 (pc' := 18) (L' := [.ref 46, .int a1, .null, .null]) (S' := [.int (nI 1)]) (M' := M) rfl ?_
    refine vm_WM.seq 10 5 (pc' := 26) (L' := [.ref 46, .int a1, .int (nI 1), .null]) (S' := [.int (nI 14), .ref 46]) (M' := M) rfl ?_
    refine vm_WM.call (a := 10) (as := [.ref 46, .int (nI 14)]) (rest := []) (L0 := [.ref 46, .int (nI 14)]) 15 rfl rfl (by decide) rfl rfl ⟨rfl, Or.inr rfl, Nat.le_of_ble_eq_true rfl, Nat.le_of_ble_eq_true rfl⟩ rfl rfl rfl ?_
    refine vm_WM.thenv h (fun M2 h => ?_)
    show vm_WM X 15 29 [.ref 46, .int a1, .int (nI 1), .null] [] M2 _
    refine vm_WM.seq 16 2 (pc' := 32) (L' := [.ref 46, .int a1, .int (nI 1), .null]) (S' := [.int (nI 13), .ref 46]) (M' := M2) rfl ?_
    refine vm_WM.call (a := 10) (as := [.ref 46, .int (nI 13)]) (rest := []) (L0 := [.ref 46, .int (nI 13)]) 18 rfl rfl (by decide) rfl rfl ⟨rfl, Or.inr rfl, Nat.le_of_ble_eq_true rfl, Nat.le_of_ble_eq_true rfl⟩ rfl rfl rfl ?_
    refine vm_WM.thenv h (fun M3 h => ?_)
    show vm_WM X 15 35 [.ref 46, .int a1, .int (nI 1), .null] [] M3 _
    refine vm_WM.seq 19 2 (pc' := 38) (L' := [.ref 46, .int a1, .int (nI 1), .null]) (S' := [.int (nI 10), .ref 46]) (M' := M3) rfl ?_
    refine vm_WM.call (a := 10) (as := [.ref 46, .int (nI 10)]) (rest := []) (L0 := [.ref 46, .int (nI 10)]) 21 rfl rfl (by decide) rfl rfl ⟨rfl, Or.inr rfl, Nat.le_of_ble_eq_true rfl, Nat.le_of_ble_eq_true rfl⟩ rfl rfl rfl ?_
    refine vm_WM.thenv h (fun M4 h => ?_)
    show vm_WM X 15 41 [.ref 46, .int a1, .int (nI 1), .null] [] M4 _
    refine vm_WM.seq 22 4 (pc' := 49) (L' := [.ref 46, .int a1, .int (nI 1), .null]) (S' := [.int a1, .ref 9]) (M' := M4) rfl ?_
    obtain ⟨j5, hj1, hj2, h⟩ := h
    refine vm_WM.ald (n := 6) (jj := j5) 26 rfl (Or.inl ⟨rfl, rfl⟩) (by decide) rfl hj1 hj2 ?_
    refine vm_WM.seq 27 9 (pc' := 65) (L' := [.ref 46, .int a1, .int (nI 1), .int ((M4 9 j5) - (nI 100))]) (S' := [.int ((nI 2) * ((M4 9 j5) - (nI 100)))]) (M' := M4) rfl ?_
    exact vm_WM.ret (r := some (.int ((nI 2) * ((M4 9 j5) - (nI 100))))) 37 rfl rfl rfl ⟨_, rfl, h⟩
  · replace h := h.2 hc
    refine vm_WM.seq 9 4 (pc' := 29) (L' := [.ref 46, .int a1, .int (nI 0), .null]) (S' := []) (M' := M) rfl ?_
    refine vm_WM.seq 16 2 (pc' := 32) (L' := [.ref 46, .int a1, .int (nI 0), .null]) (S' := [.int (nI 13), .ref 46]) (M' := M) rfl ?_
    refine vm_WM.call (a := 10) (as := [.ref 46, .int (nI 13)]) (rest := []) (L0 := [.ref 46, .int (nI 13)]) 18 rfl rfl (by decide) rfl rfl ⟨rfl, Or.inr rfl, Nat.le_of_ble_eq_true rfl, Nat.le_of_ble_eq_true rfl⟩ rfl rfl rfl ?_
    refine vm_WM.thenv h (fun M6 h => ?_)
    show vm_WM X 15 35 [.ref 46, .int a1, .int (nI 0), .null] [] M6 _
    refine vm_WM.seq 19 2 (pc' := 38) (L' := [.ref 46, .int a1, .int (nI 0), .null]) (S' := [.int (nI 10), .ref 46]) (M' := M6) rfl ?_
    refine vm_WM.call (a := 10) (as := [.ref 46, .int (nI 10)]) (rest := []) (L0 := [.ref 46, .int (nI 10)]) 21 rfl rfl (by decide) rfl rfl ⟨rfl, Or.inr rfl, Nat.le_of_ble_eq_true rfl, Nat.le_of_ble_eq_true rfl⟩ rfl rfl rfl ?_
    refine vm_WM.thenv h (fun M7 h => ?_)
    show vm_WM X 15 41 [.ref 46, .int a1, .int (nI 0), .null] [] M7 _
    refine vm_WM.seq 22 4 (pc' := 49) (L' := [.ref 46, .int a1, .int (nI 0), .null]) (S' := [.int a1, .ref 9]) (M' := M7) rfl ?_
    obtain ⟨j8, hj1, hj2, h⟩ := h
    refine vm_WM.ald (n := 6) (jj := j8) 26 rfl (Or.inl ⟨rfl, rfl⟩) (by decide) rfl hj1 hj2 ?_
    refine vm_WM.seq 27 5 (pc' := 64) (L' := [.ref 46, .int a1, .int (nI 0), .int ((M7 9 j8) - (nI 100))]) (S' := []) (M' := M7) rfl ?_
    refine vm_WM.seq 36 1 (pc' := 65) (L' := [.ref 46, .int a1, .int (nI 0), .int ((M7 9 j8) - (nI 100))]) (S' := [.int ((M7 9 j8) - (nI 100))]) (M' := M7) rfl ?_
    exact vm_WM.ret (r := some (.int ((M7 9 j8) - (nI 100)))) 37 rfl rfl rfl ⟨_, rfl, h⟩
theorem v_Asks_bakerSize {X : Nat × (Nat → Int32)} {a1 : Int32} {M : vm_M} {P : Int32 → vm_M → Prop} (h : ∃ j1 : Nat, a1 = nI j1 ∧ j1 < 6 ∧ (((M 8 j1) = (nI 2) → (E_Asks_enter X (nI 12) M (fun M2 => E_Asks_enter X (nI 11) M2 (fun M3 => E_Asks_enter X (nI 10) M3 (fun M4 => ∃ j5 : Nat, a1 = nI j5 ∧ j5 < 6 ∧ (E_Asks_bakerMark X a1 M4 (fun v6 M7 => P ((nI 0) - ((M4 9 j5) + v6)) M7))))))) ∧ (¬ ((M 8 j1) = (nI 2)) → (E_Asks_enter X (nI 11) M (fun M8 => E_Asks_enter X (nI 10) M8 (fun M9 => ∃ j10 : Nat, a1 = nI j10 ∧ j10 < 6 ∧ (E_Asks_bakerMark X a1 M9 (fun v11 M12 => P ((M9 9 j10) + v11) M12)))))))) : E_Asks_bakerSize X a1 M P := by
  unfold E_Asks_bakerSize
  refine vm_WM.seq 0 4 (pc' := 8) (L' := [.ref 46, .int a1, .null, .null]) (S' := [.int a1, .ref 8]) (M' := M) rfl ?_
  obtain ⟨j1, hj1, hj2, h⟩ := h
  refine vm_WM.ald (n := 6) (jj := j1) 4 rfl (Or.inl ⟨rfl, rfl⟩) (by decide) rfl hj1 hj2 ?_
  refine vm_WM.seq 5 1 (pc' := 10) (L' := [.ref 46, .int a1, .null, .null]) (S' := [.int (nI 2), .int (M 8 j1)]) (M' := M) rfl ?_
  refine vm_WM.if (c := (M 8 j1) = (nI 2)) (t1 := 13) (t2 := 17) (S' := []) 6 rfl rfl rfl (fun hc => ?_) (fun hc => ?_)
  · replace h := h.1 hc
    refine vm_WM.seq 7 2 (pc' := 18) (L' := [.ref 46, .int a1, .null, .null]) (S' := [.int (nI 1)]) (M' := M) rfl ?_
    refine vm_WM.seq 10 5 (pc' := 26) (L' := [.ref 46, .int a1, .int (nI 1), .null]) (S' := [.int (nI 12), .ref 46]) (M' := M) rfl ?_
    refine vm_WM.call (a := 10) (as := [.ref 46, .int (nI 12)]) (rest := []) (L0 := [.ref 46, .int (nI 12)]) 15 rfl rfl (by decide) rfl rfl ⟨rfl, Or.inr rfl, Nat.le_of_ble_eq_true rfl, Nat.le_of_ble_eq_true rfl⟩ rfl rfl rfl ?_
    refine vm_WM.thenv h (fun M2 h => ?_)
    show vm_WM X 13 29 [.ref 46, .int a1, .int (nI 1), .null] [] M2 _
    refine vm_WM.seq 16 2 (pc' := 32) (L' := [.ref 46, .int a1, .int (nI 1), .null]) (S' := [.int (nI 11), .ref 46]) (M' := M2) rfl ?_
    refine vm_WM.call (a := 10) (as := [.ref 46, .int (nI 11)]) (rest := []) (L0 := [.ref 46, .int (nI 11)]) 18 rfl rfl (by decide) rfl rfl ⟨rfl, Or.inr rfl, Nat.le_of_ble_eq_true rfl, Nat.le_of_ble_eq_true rfl⟩ rfl rfl rfl ?_
    refine vm_WM.thenv h (fun M3 h => ?_)
    show vm_WM X 13 35 [.ref 46, .int a1, .int (nI 1), .null] [] M3 _
    refine vm_WM.seq 19 2 (pc' := 38) (L' := [.ref 46, .int a1, .int (nI 1), .null]) (S' := [.int (nI 10), .ref 46]) (M' := M3) rfl ?_
    refine vm_WM.call (a := 10) (as := [.ref 46, .int (nI 10)]) (rest := []) (L0 := [.ref 46, .int (nI 10)]) 21 rfl rfl (by decide) rfl rfl ⟨rfl, Or.inr rfl, Nat.le_of_ble_eq_true rfl, Nat.le_of_ble_eq_true rfl⟩ rfl rfl rfl ?_
    refine vm_WM.thenv h (fun M4 h => ?_)
    show vm_WM X 13 41 [.ref 46, .int a1, .int (nI 1), .null] [] M4 _
    refine vm_WM.seq 22 4 (pc' := 49) (L' := [.ref 46, .int a1, .int (nI 1), .null]) (S' := [.int a1, .ref 9]) (M' := M4) rfl ?_
    obtain ⟨j5, hj1, hj2, h⟩ := h
    refine vm_WM.ald (n := 6) (jj := j5) 26 rfl (Or.inl ⟨rfl, rfl⟩) (by decide) rfl hj1 hj2 ?_
    refine vm_WM.seq 27 2 (pc' := 52) (L' := [.ref 46, .int a1, .int (nI 1), .null]) (S' := [.int a1, .ref 46, .int (M4 9 j5)]) (M' := M4) rfl ?_
    refine vm_WM.call (a := 14) (as := [.ref 46, .int a1]) (rest := [.int (M4 9 j5)]) (L0 := [.ref 46, .int a1, .null, .null, .null]) 29 rfl rfl (by decide) rfl rfl ⟨rfl, Or.inr rfl, Nat.le_of_ble_eq_true rfl, Nat.le_of_ble_eq_true rfl⟩ rfl rfl rfl ?_
    refine vm_WM.theni h (fun v6 M7 h => ?_)
    show vm_WM X 13 55 [.ref 46, .int a1, .int (nI 1), .null] [.int v6, .int (M4 9 j5)] M7 _
    refine vm_WM.seq 30 8 (pc' := 68) (L' := [.ref 46, .int a1, .int (nI 1), .int ((M4 9 j5) + v6)]) (S' := [.int ((nI 0) - ((M4 9 j5) + v6))]) (M' := M7) rfl ?_
    exact vm_WM.ret (r := some (.int ((nI 0) - ((M4 9 j5) + v6)))) 39 rfl rfl rfl ⟨_, rfl, h⟩
  · replace h := h.2 hc
    refine vm_WM.seq 9 4 (pc' := 29) (L' := [.ref 46, .int a1, .int (nI 0), .null]) (S' := []) (M' := M) rfl ?_
    refine vm_WM.seq 16 2 (pc' := 32) (L' := [.ref 46, .int a1, .int (nI 0), .null]) (S' := [.int (nI 11), .ref 46]) (M' := M) rfl ?_
    refine vm_WM.call (a := 10) (as := [.ref 46, .int (nI 11)]) (rest := []) (L0 := [.ref 46, .int (nI 11)]) 18 rfl rfl (by decide) rfl rfl ⟨rfl, Or.inr rfl, Nat.le_of_ble_eq_true rfl, Nat.le_of_ble_eq_true rfl⟩ rfl rfl rfl ?_
    refine vm_WM.thenv h (fun M8 h => ?_)
    show vm_WM X 13 35 [.ref 46, .int a1, .int (nI 0), .null] [] M8 _
    refine vm_WM.seq 19 2 (pc' := 38) (L' := [.ref 46, .int a1, .int (nI 0), .null]) (S' := [.int (nI 10), .ref 46]) (M' := M8) rfl ?_
    refine vm_WM.call (a := 10) (as := [.ref 46, .int (nI 10)]) (rest := []) (L0 := [.ref 46, .int (nI 10)]) 21 rfl rfl (by decide) rfl rfl ⟨rfl, Or.inr rfl, Nat.le_of_ble_eq_true rfl, Nat.le_of_ble_eq_true rfl⟩ rfl rfl rfl ?_
    refine vm_WM.thenv h (fun M9 h => ?_)
    show vm_WM X 13 41 [.ref 46, .int a1, .int (nI 0), .null] [] M9 _
    refine vm_WM.seq 22 4 (pc' := 49) (L' := [.ref 46, .int a1, .int (nI 0), .null]) (S' := [.int a1, .ref 9]) (M' := M9) rfl ?_
    obtain ⟨j10, hj1, hj2, h⟩ := h
    refine vm_WM.ald (n := 6) (jj := j10) 26 rfl (Or.inl ⟨rfl, rfl⟩) (by decide) rfl hj1 hj2 ?_
    refine vm_WM.seq 27 2 (pc' := 52) (L' := [.ref 46, .int a1, .int (nI 0), .null]) (S' := [.int a1, .ref 46, .int (M9 9 j10)]) (M' := M9) rfl ?_
    refine vm_WM.call (a := 14) (as := [.ref 46, .int a1]) (rest := [.int (M9 9 j10)]) (L0 := [.ref 46, .int a1, .null, .null, .null]) 29 rfl rfl (by decide) rfl rfl ⟨rfl, Or.inr rfl, Nat.le_of_ble_eq_true rfl, Nat.le_of_ble_eq_true rfl⟩ rfl rfl rfl ?_
    refine vm_WM.theni h (fun v11 M12 h => ?_)
    show vm_WM X 13 55 [.ref 46, .int a1, .int (nI 0), .null] [.int v11, .int (M9 9 j10)] M12 _
    refine vm_WM.seq 30 4 (pc' := 67) (L' := [.ref 46, .int a1, .int (nI 0), .int ((M9 9 j10) + v11)]) (S' := []) (M' := M12) rfl ?_
    refine vm_WM.seq 38 1 (pc' := 68) (L' := [.ref 46, .int a1, .int (nI 0), .int ((M9 9 j10) + v11)]) (S' := [.int ((M9 9 j10) + v11)]) (M' := M12) rfl ?_
    exact vm_WM.ret (r := some (.int ((M9 9 j10) + v11))) 39 rfl rfl rfl ⟨_, rfl, h⟩
