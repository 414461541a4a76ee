/-! walks, by wip/whole/vcgen.py -/
theorem v_M_readWay {X : Nat × (Nat → Int32)}  {M : vm_M} {P : vm_M → Prop} (h : E_M_begins X (nI 3) (nI 10) M (fun M1 => E_M_number X (nI 0) ((M1 53 2) - (nI 1)) M1 (fun v2 M3 => ((M3 48 17) = 0 → (((M3 48 14) = (nI 3) → (E_M_figures X  M3 (fun v4 M5 => (v4 = v2 → (E_M_bad X (nI 2) M5 (fun M6 => E_M_number X (nI 0) ((M6 53 2) - (nI 1)) M6 (fun v7 M8 => E_M_number X (nI 1) (nI 30) M8 (fun v9 M10 => E_M_number X (nI 0) (nI 1) M10 (fun v11 M12 => E_M_mustEnd X  M12 (fun M13 => ((M13 48 17) = 0 → (∃ j14 : Nat, ((nI 30) + ((nI 4) * (M13 53 3))) = nI j14 ∧ j14 < 70 ∧ (∃ j15 : Nat, (((nI 30) + ((nI 4) * (M13 53 3))) + (nI 1)) = nI j15 ∧ j15 < 70 ∧ (∃ j16 : Nat, (((nI 30) + ((nI 4) * (M13 53 3))) + (nI 2)) = nI j16 ∧ j16 < 70 ∧ (∃ j17 : Nat, (((nI 30) + ((nI 4) * (M13 53 3))) + (nI 3)) = nI j17 ∧ j17 < 70 ∧ (P  (vm_u2 (vm_u2 (vm_u2 (vm_u2 (vm_u2 M13 53 j14 v2) 53 j15 v7) 53 j16 v9) 53 j17 v11) 53 3 (((vm_u2 (vm_u2 (vm_u2 (vm_u2 M13 53 j14 v2) 53 j15 v7) 53 j16 v9) 53 j17 v11) 53 3) + (nI 1))))))))) ∧ (¬ ((M13 48 17) = 0) → (P  M13))))))))) ∧ (¬ (v4 = v2) → (E_M_number X (nI 0) ((M5 53 2) - (nI 1)) M5 (fun v18 M19 => E_M_number X (nI 1) (nI 30) M19 (fun v20 M21 => E_M_number X (nI 0) (nI 1) M21 (fun v22 M23 => E_M_mustEnd X  M23 (fun M24 => ((M24 48 17) = 0 → (∃ j25 : Nat, ((nI 30) + ((nI 4) * (M24 53 3))) = nI j25 ∧ j25 < 70 ∧ (∃ j26 : Nat, (((nI 30) + ((nI 4) * (M24 53 3))) + (nI 1)) = nI j26 ∧ j26 < 70 ∧ (∃ j27 : Nat, (((nI 30) + ((nI 4) * (M24 53 3))) + (nI 2)) = nI j27 ∧ j27 < 70 ∧ (∃ j28 : Nat, (((nI 30) + ((nI 4) * (M24 53 3))) + (nI 3)) = nI j28 ∧ j28 < 70 ∧ (P  (vm_u2 (vm_u2 (vm_u2 (vm_u2 (vm_u2 M24 53 j25 v2) 53 j26 v18) 53 j27 v20) 53 j28 v22) 53 3 (((vm_u2 (vm_u2 (vm_u2 (vm_u2 M24 53 j25 v2) 53 j26 v18) 53 j27 v20) 53 j28 v22) 53 3) + (nI 1))))))))) ∧ (¬ ((M24 48 17) = 0) → (P  M24))))))))))) ∧ (¬ ((M3 48 14) = (nI 3)) → (E_M_number X (nI 0) ((M3 53 2) - (nI 1)) M3 (fun v29 M30 => E_M_number X (nI 1) (nI 30) M30 (fun v31 M32 => E_M_number X (nI 0) (nI 1) M32 (fun v33 M34 => E_M_mustEnd X  M34 (fun M35 => ((M35 48 17) = 0 → (∃ j36 : Nat, ((nI 30) + ((nI 4) * (M35 53 3))) = nI j36 ∧ j36 < 70 ∧ (∃ j37 : Nat, (((nI 30) + ((nI 4) * (M35 53 3))) + (nI 1)) = nI j37 ∧ j37 < 70 ∧ (∃ j38 : Nat, (((nI 30) + ((nI 4) * (M35 53 3))) + (nI 2)) = nI j38 ∧ j38 < 70 ∧ (∃ j39 : Nat, (((nI 30) + ((nI 4) * (M35 53 3))) + (nI 3)) = nI j39 ∧ j39 < 70 ∧ (P  (vm_u2 (vm_u2 (vm_u2 (vm_u2 (vm_u2 M35 53 j36 v2) 53 j37 v29) 53 j38 v31) 53 j39 v33) 53 3 (((vm_u2 (vm_u2 (vm_u2 (vm_u2 M35 53 j36 v2) 53 j37 v29) 53 j38 v31) 53 j39 v33) 53 3) + (nI 1))))))))) ∧ (¬ ((M35 48 17) = 0) → (P  M35)))))))))) ∧ (¬ ((M3 48 17) = 0) → (E_M_number X (nI 0) ((M3 53 2) - (nI 1)) M3 (fun v40 M41 => E_M_number X (nI 1) (nI 30) M41 (fun v42 M43 => E_M_number X (nI 0) (nI 1) M43 (fun v44 M45 => E_M_mustEnd X  M45 (fun M46 => ((M46 48 17) = 0 → (∃ j47 : Nat, ((nI 30) + ((nI 4) * (M46 53 3))) = nI j47 ∧ j47 < 70 ∧ (∃ j48 : Nat, (((nI 30) + ((nI 4) * (M46 53 3))) + (nI 1)) = nI j48 ∧ j48 < 70 ∧ (∃ j49 : Nat, (((nI 30) + ((nI 4) * (M46 53 3))) + (nI 2)) = nI j49 ∧ j49 < 70 ∧ (∃ j50 : Nat, (((nI 30) + ((nI 4) * (M46 53 3))) + (nI 3)) = nI j50 ∧ j50 < 70 ∧ (P  (vm_u2 (vm_u2 (vm_u2 (vm_u2 (vm_u2 M46 53 j47 v2) 53 j48 v40) 53 j49 v42) 53 j50 v44) 53 3 (((vm_u2 (vm_u2 (vm_u2 (vm_u2 M46 53 j47 v2) 53 j48 v40) 53 j49 v42) 53 j50 v44) 53 3) + (nI 1))))))))) ∧ (¬ ((M46 48 17) = 0) → (P  M46))))))))))) : E_M_readWay X  M P := by
  unfold E_M_readWay
  refine vm_WM.seq 0 3 (pc' := 4) (L' := [.ref 48, .null, .null, .null, .null, .null]) (S' := [.int (nI 10), .int (nI 3), .ref 48]) (M' := M) rfl ?_
  refine vm_WM.call (a := 128) (as := [.ref 48, .int (nI 3), .int (nI 10)]) (rest := []) (L0 := [.ref 48, .int (nI 3), .int (nI 10)]) 3 rfl rfl (by decide) rfl rfl ⟨rfl, Or.inr rfl, Nat.le_of_ble_eq_true rfl, Nat.le_of_ble_eq_true rfl⟩ rfl rfl rfl ?_
  refine vm_WM.thenv h (fun M1 h => ?_)
  show vm_WM X 130 7 [.ref 48, .null, .null, .null, .null, .null] [] M1 _
  refine vm_WM.seq 4 5 (pc' := 14) (L' := [.ref 48, .null, .null, .null, .null, .null]) (S' := [.int (nI 2), .ref 53, .int (nI 0), .ref 48]) (M' := M1) rfl ?_
  refine vm_WM.ald (n := 70) (jj := 2) 9 rfl (Or.inl ⟨rfl, rfl⟩) (by decide) rfl rfl (by decide) ?_
  refine vm_WM.seq 10 2 (pc' := 17) (L' := [.ref 48, .null, .null, .null, .null, .null]) (S' := [.int ((M1 53 2) - (nI 1)), .int (nI 0), .ref 48]) (M' := M1) rfl ?_
  refine vm_WM.call (a := 125) (as := [.ref 48, .int (nI 0), .int ((M1 53 2) - (nI 1))]) (rest := []) (L0 := [.ref 48, .int (nI 0), .int ((M1 53 2) - (nI 1)), .null]) 12 rfl rfl (by decide) rfl rfl ⟨rfl, Or.inr rfl, Nat.le_of_ble_eq_true rfl, Nat.le_of_ble_eq_true rfl⟩ rfl rfl rfl ?_
  refine vm_WM.theni h (fun v2 M3 h => ?_)
  show vm_WM X 130 20 [.ref 48, .null, .null, .null, .null, .null] [.int v2] M3 _
  refine vm_WM.seq 13 3 (pc' := 25) (L' := [.ref 48, .int v2, .null, .null, .null, .null]) (S' := [.int (M3 48 17)]) (M' := M3) rfl ?_
  refine vm_WM.if (c := (M3 48 17) = 0) (t1 := 28) (t2 := 49) (S' := []) 16 rfl rfl rfl (fun hc => ?_) (fun hc => ?_)
  · replace h := h.1 hc
    refine vm_WM.seq 17 3 (pc' := 33) (L' := [.ref 48, .int v2, .null, .null, .null, .null]) (S' := [.int (nI 3), .int (M3 48 14)]) (M' := M3) rfl ?_
    refine vm_WM.if (c := (M3 48 14) = (nI 3)) (t1 := 36) (t2 := 49) (S' := []) 20 rfl rfl rfl (fun hc => ?_) (fun hc => ?_)
    · replace h := h.1 hc
      refine vm_WM.seq 21 1 (pc' := 37) (L' := [.ref 48, .int v2, .null, .null, .null, .null]) (S' := [.ref 48]) (M' := M3) rfl ?_
      refine vm_WM.call (a := 124) (as := [.ref 48]) (rest := []) (L0 := [.ref 48, .null, .null]) 22 rfl rfl (by decide) rfl rfl ⟨rfl, Or.inr rfl, Nat.le_of_ble_eq_true rfl, Nat.le_of_ble_eq_true rfl⟩ rfl rfl rfl ?_
      refine vm_WM.theni h (fun v4 M5 h => ?_)
      show vm_WM X 130 40 [.ref 48, .int v2, .null, .null, .null, .null] [.int v4] M5 _
      refine vm_WM.seq 23 1 (pc' := 41) (L' := [.ref 48, .int v2, .null, .null, .null, .null]) (S' := [.int v2, .int v4]) (M' := M5) rfl ?_
      refine vm_WM.if (c := v4 = v2) (t1 := 44) (t2 := 49) (S' := []) 24 rfl rfl rfl (fun hc => ?_) (fun hc => ?_)
      · replace h := h.1 hc
        refine vm_WM.seq 25 2 (pc' := 46) (L' := [.ref 48, .int v2, .null, .null, .null, .null]) (S' := [.int (nI 2), .ref 48]) (M' := M5) rfl ?_
        refine vm_WM.call (a := 121) (as := [.ref 48, .int (nI 2)]) (rest := []) (L0 := [.ref 48, .int (nI 2)]) 27 rfl rfl (by decide) rfl rfl ⟨rfl, Or.inr rfl, Nat.le_of_ble_eq_true rfl, Nat.le_of_ble_eq_true rfl⟩ rfl rfl rfl ?_
        refine vm_WM.thenv h (fun M6 h => ?_)
        show vm_WM X 130 49 [.ref 48, .int v2, .null, .null, .null, .null] [] M6 _
        refine vm_WM.seq 28 5 (pc' := 56) (L' := [.ref 48, .int v2, .null, .null, .null, .null]) (S' := [.int (nI 2), .ref 53, .int (nI 0), .ref 48]) (M' := M6) rfl ?_
        refine vm_WM.ald (n := 70) (jj := 2) 33 rfl (Or.inl ⟨rfl, rfl⟩) (by decide) rfl rfl (by decide) ?_
        refine vm_WM.seq 34 2 (pc' := 59) (L' := [.ref 48, .int v2, .null, .null, .null, .null]) (S' := [.int ((M6 53 2) - (nI 1)), .int (nI 0), .ref 48]) (M' := M6) rfl ?_
        refine vm_WM.call (a := 125) (as := [.ref 48, .int (nI 0), .int ((M6 53 2) - (nI 1))]) (rest := []) (L0 := [.ref 48, .int (nI 0), .int ((M6 53 2) - (nI 1)), .null]) 36 rfl rfl (by decide) rfl rfl ⟨rfl, Or.inr rfl, Nat.le_of_ble_eq_true rfl, Nat.le_of_ble_eq_true rfl⟩ rfl rfl rfl ?_
        refine vm_WM.theni h (fun v7 M8 h => ?_)
        show vm_WM X 130 62 [.ref 48, .int v2, .null, .null, .null, .null] [.int v7] M8 _
        refine vm_WM.seq 37 4 (pc' := 67) (L' := [.ref 48, .int v2, .int v7, .null, .null, .null]) (S' := [.int (nI 30), .int (nI 1), .ref 48]) (M' := M8) rfl ?_
        refine vm_WM.call (a := 125) (as := [.ref 48, .int (nI 1), .int (nI 30)]) (rest := []) (L0 := [.ref 48, .int (nI 1), .int (nI 30), .null]) 41 rfl rfl (by decide) rfl rfl ⟨rfl, Or.inr rfl, Nat.le_of_ble_eq_true rfl, Nat.le_of_ble_eq_true rfl⟩ rfl rfl rfl ?_
        refine vm_WM.theni h (fun v9 M10 h => ?_)
        show vm_WM X 130 70 [.ref 48, .int v2, .int v7, .null, .null, .null] [.int v9] M10 _
        refine vm_WM.seq 42 4 (pc' := 74) (L' := [.ref 48, .int v2, .int v7, .int v9, .null, .null]) (S' := [.int (nI 1), .int (nI 0), .ref 48]) (M' := M10) rfl ?_
        refine vm_WM.call (a := 125) (as := [.ref 48, .int (nI 0), .int (nI 1)]) (rest := []) (L0 := [.ref 48, .int (nI 0), .int (nI 1), .null]) 46 rfl rfl (by decide) rfl rfl ⟨rfl, Or.inr rfl, Nat.le_of_ble_eq_true rfl, Nat.le_of_ble_eq_true rfl⟩ rfl rfl rfl ?_
        refine vm_WM.theni h (fun v11 M12 h => ?_)
        show vm_WM X 130 77 [.ref 48, .int v2, .int v7, .int v9, .null, .null] [.int v11] M12 _
        refine vm_WM.seq 47 2 (pc' := 80) (L' := [.ref 48, .int v2, .int v7, .int v9, .int v11, .null]) (S' := [.ref 48]) (M' := M12) rfl ?_
        refine vm_WM.call (a := 127) (as := [.ref 48]) (rest := []) (L0 := [.ref 48]) 49 rfl rfl (by decide) rfl rfl ⟨rfl, Or.inr rfl, Nat.le_of_ble_eq_true rfl, Nat.le_of_ble_eq_true rfl⟩ rfl rfl rfl ?_
        refine vm_WM.thenv h (fun M13 h => ?_)
        show vm_WM X 130 83 [.ref 48, .int v2, .int v7, .int v9, .int v11, .null] [] M13 _
        refine vm_WM.seq 50 2 (pc' := 87) (L' := [.ref 48, .int v2, .int v7, .int v9, .int v11, .null]) (S' := [.int (M13 48 17)]) (M' := M13) rfl ?_
        refine vm_WM.if (c := (M13 48 17) = 0) (t1 := 90) (t2 := 152) (S' := []) 52 rfl rfl rfl (fun hc => ?_) (fun hc => ?_)
        · replace h := h.1 hc
          refine vm_WM.seq 53 5 (pc' := 98) (L' := [.ref 48, .int v2, .int v7, .int v9, .int v11, .null]) (S' := [.int (nI 3), .ref 53, .int (nI 4), .int (nI 30)]) (M' := M13) rfl ?_
          refine vm_WM.ald (n := 70) (jj := 3) 58 rfl (Or.inl ⟨rfl, rfl⟩) (by decide) rfl rfl (by decide) ?_
          refine vm_WM.seq 59 7 (pc' := 110) (L' := [.ref 48, .int v2, .int v7, .int v9, .int v11, .int ((nI 30) + ((nI 4) * (M13 53 3)))]) (S' := [.int v2, .int ((nI 30) + ((nI 4) * (M13 53 3))), .ref 53]) (M' := M13) rfl ?_
          obtain ⟨j14, hj1, hj2, h⟩ := h
          refine vm_WM.ast (n := 70) (jj := j14) 66 rfl rfl hj1 hj2 ?_
          refine vm_WM.seq 67 6 (pc' := 120) (L' := [.ref 48, .int v2, .int v7, .int v9, .int v11, .int ((nI 30) + ((nI 4) * (M13 53 3)))]) (S' := [.int v7, .int (((nI 30) + ((nI 4) * (M13 53 3))) + (nI 1)), .ref 53]) (M' := (vm_u2 M13 53 j14 v2)) rfl ?_
          obtain ⟨j15, hj1, hj2, h⟩ := h
          refine vm_WM.ast (n := 70) (jj := j15) 73 rfl rfl hj1 hj2 ?_
          refine vm_WM.seq 74 6 (pc' := 130) (L' := [.ref 48, .int v2, .int v7, .int v9, .int v11, .int ((nI 30) + ((nI 4) * (M13 53 3)))]) (S' := [.int v9, .int (((nI 30) + ((nI 4) * (M13 53 3))) + (nI 2)), .ref 53]) (M' := (vm_u2 (vm_u2 M13 53 j14 v2) 53 j15 v7)) rfl ?_
          obtain ⟨j16, hj1, hj2, h⟩ := h
          refine vm_WM.ast (n := 70) (jj := j16) 80 rfl rfl hj1 hj2 ?_
          refine vm_WM.seq 81 6 (pc' := 141) (L' := [.ref 48, .int v2, .int v7, .int v9, .int v11, .int ((nI 30) + ((nI 4) * (M13 53 3)))]) (S' := [.int v11, .int (((nI 30) + ((nI 4) * (M13 53 3))) + (nI 3)), .ref 53]) (M' := (vm_u2 (vm_u2 (vm_u2 M13 53 j14 v2) 53 j15 v7) 53 j16 v9)) rfl ?_
          obtain ⟨j17, hj1, hj2, h⟩ := h
          refine vm_WM.ast (n := 70) (jj := j17) 87 rfl rfl hj1 hj2 ?_
          refine vm_WM.seq 88 4 (pc' := 148) (L' := [.ref 48, .int v2, .int v7, .int v9, .int v11, .int ((nI 30) + ((nI 4) * (M13 53 3)))]) (S' := [.int (nI 3), .ref 53, .int (nI 3), .ref 53]) (M' := (vm_u2 (vm_u2 (vm_u2 (vm_u2 M13 53 j14 v2) 53 j15 v7) 53 j16 v9) 53 j17 v11)) rfl ?_
          refine vm_WM.ald (n := 70) (jj := 3) 92 rfl (Or.inl ⟨rfl, rfl⟩) (by decide) rfl rfl (by decide) ?_
          refine vm_WM.seq 93 2 (pc' := 151) (L' := [.ref 48, .int v2, .int v7, .int v9, .int v11, .int ((nI 30) + ((nI 4) * (M13 53 3)))]) (S' := [.int (((vm_u2 (vm_u2 (vm_u2 (vm_u2 M13 53 j14 v2) 53 j15 v7) 53 j16 v9) 53 j17 v11) 53 3) + (nI 1)), .int (nI 3), .ref 53]) (M' := (vm_u2 (vm_u2 (vm_u2 (vm_u2 M13 53 j14 v2) 53 j15 v7) 53 j16 v9) 53 j17 v11)) rfl ?_
          refine vm_WM.ast (n := 70) (jj := 3) 95 rfl rfl rfl (by decide) ?_
          exact vm_WM.ret (r := none) 96 rfl rfl rfl ⟨rfl, h⟩
        · replace h := h.2 hc
          exact vm_WM.ret (r := none) 96 rfl rfl rfl ⟨rfl, h⟩
      · replace h := h.2 hc
        refine vm_WM.seq 28 5 (pc' := 56) (L' := [.ref 48, .int v2, .null, .null, .null, .null]) (S' := [.int (nI 2), .ref 53, .int (nI 0), .ref 48]) (M' := M5) rfl ?_
        refine vm_WM.ald (n := 70) (jj := 2) 33 rfl (Or.inl ⟨rfl, rfl⟩) (by decide) rfl rfl (by decide) ?_
        refine vm_WM.seq 34 2 (pc' := 59) (L' := [.ref 48, .int v2, .null, .null, .null, .null]) (S' := [.int ((M5 53 2) - (nI 1)), .int (nI 0), .ref 48]) (M' := M5) rfl ?_
        refine vm_WM.call (a := 125) (as := [.ref 48, .int (nI 0), .int ((M5 53 2) - (nI 1))]) (rest := []) (L0 := [.ref 48, .int (nI 0), .int ((M5 53 2) - (nI 1)), .null]) 36 rfl rfl (by decide) rfl rfl ⟨rfl, Or.inr rfl, Nat.le_of_ble_eq_true rfl, Nat.le_of_ble_eq_true rfl⟩ rfl rfl rfl ?_
        refine vm_WM.theni h (fun v18 M19 h => ?_)
        show vm_WM X 130 62 [.ref 48, .int v2, .null, .null, .null, .null] [.int v18] M19 _
        refine vm_WM.seq 37 4 (pc' := 67) (L' := [.ref 48, .int v2, .int v18, .null, .null, .null]) (S' := [.int (nI 30), .int (nI 1), .ref 48]) (M' := M19) rfl ?_
        refine vm_WM.call (a := 125) (as := [.ref 48, .int (nI 1), .int (nI 30)]) (rest := []) (L0 := [.ref 48, .int (nI 1), .int (nI 30), .null]) 41 rfl rfl (by decide) rfl rfl ⟨rfl, Or.inr rfl, Nat.le_of_ble_eq_true rfl, Nat.le_of_ble_eq_true rfl⟩ rfl rfl rfl ?_
        refine vm_WM.theni h (fun v20 M21 h => ?_)
        show vm_WM X 130 70 [.ref 48, .int v2, .int v18, .null, .null, .null] [.int v20] M21 _
        refine vm_WM.seq 42 4 (pc' := 74) (L' := [.ref 48, .int v2, .int v18, .int v20, .null, .null]) (S' := [.int (nI 1), .int (nI 0), .ref 48]) (M' := M21) rfl ?_
        refine vm_WM.call (a := 125) (as := [.ref 48, .int (nI 0), .int (nI 1)]) (rest := []) (L0 := [.ref 48, .int (nI 0), .int (nI 1), .null]) 46 rfl rfl (by decide) rfl rfl ⟨rfl, Or.inr rfl, Nat.le_of_ble_eq_true rfl, Nat.le_of_ble_eq_true rfl⟩ rfl rfl rfl ?_
        refine vm_WM.theni h (fun v22 M23 h => ?_)
        show vm_WM X 130 77 [.ref 48, .int v2, .int v18, .int v20, .null, .null] [.int v22] M23 _
        refine vm_WM.seq 47 2 (pc' := 80) (L' := [.ref 48, .int v2, .int v18, .int v20, .int v22, .null]) (S' := [.ref 48]) (M' := M23) rfl ?_
        refine vm_WM.call (a := 127) (as := [.ref 48]) (rest := []) (L0 := [.ref 48]) 49 rfl rfl (by decide) rfl rfl ⟨rfl, Or.inr rfl, Nat.le_of_ble_eq_true rfl, Nat.le_of_ble_eq_true rfl⟩ rfl rfl rfl ?_
        refine vm_WM.thenv h (fun M24 h => ?_)
        show vm_WM X 130 83 [.ref 48, .int v2, .int v18, .int v20, .int v22, .null] [] M24 _
        refine vm_WM.seq 50 2 (pc' := 87) (L' := [.ref 48, .int v2, .int v18, .int v20, .int v22, .null]) (S' := [.int (M24 48 17)]) (M' := M24) rfl ?_
        refine vm_WM.if (c := (M24 48 17) = 0) (t1 := 90) (t2 := 152) (S' := []) 52 rfl rfl rfl (fun hc => ?_) (fun hc => ?_)
        · replace h := h.1 hc
          refine vm_WM.seq 53 5 (pc' := 98) (L' := [.ref 48, .int v2, .int v18, .int v20, .int v22, .null]) (S' := [.int (nI 3), .ref 53, .int (nI 4), .int (nI 30)]) (M' := M24) rfl ?_
          refine vm_WM.ald (n := 70) (jj := 3) 58 rfl (Or.inl ⟨rfl, rfl⟩) (by decide) rfl rfl (by decide) ?_
          refine vm_WM.seq 59 7 (pc' := 110) (L' := [.ref 48, .int v2, .int v18, .int v20, .int v22, .int ((nI 30) + ((nI 4) * (M24 53 3)))]) (S' := [.int v2, .int ((nI 30) + ((nI 4) * (M24 53 3))), .ref 53]) (M' := M24) rfl ?_
          obtain ⟨j25, hj1, hj2, h⟩ := h
          refine vm_WM.ast (n := 70) (jj := j25) 66 rfl rfl hj1 hj2 ?_
          refine vm_WM.seq 67 6 (pc' := 120) (L' := [.ref 48, .int v2, .int v18, .int v20, .int v22, .int ((nI 30) + ((nI 4) * (M24 53 3)))]) (S' := [.int v18, .int (((nI 30) + ((nI 4) * (M24 53 3))) + (nI 1)), .ref 53]) (M' := (vm_u2 M24 53 j25 v2)) rfl ?_
          obtain ⟨j26, hj1, hj2, h⟩ := h
          refine vm_WM.ast (n := 70) (jj := j26) 73 rfl rfl hj1 hj2 ?_
          refine vm_WM.seq 74 6 (pc' := 130) (L' := [.ref 48, .int v2, .int v18, .int v20, .int v22, .int ((nI 30) + ((nI 4) * (M24 53 3)))]) (S' := [.int v20, .int (((nI 30) + ((nI 4) * (M24 53 3))) + (nI 2)), .ref 53]) (M' := (vm_u2 (vm_u2 M24 53 j25 v2) 53 j26 v18)) rfl ?_
          obtain ⟨j27, hj1, hj2, h⟩ := h
          refine vm_WM.ast (n := 70) (jj := j27) 80 rfl rfl hj1 hj2 ?_
          refine vm_WM.seq 81 6 (pc' := 141) (L' := [.ref 48, .int v2, .int v18, .int v20, .int v22, .int ((nI 30) + ((nI 4) * (M24 53 3)))]) (S' := [.int v22, .int (((nI 30) + ((nI 4) * (M24 53 3))) + (nI 3)), .ref 53]) (M' := (vm_u2 (vm_u2 (vm_u2 M24 53 j25 v2) 53 j26 v18) 53 j27 v20)) rfl ?_
          obtain ⟨j28, hj1, hj2, h⟩ := h
          refine vm_WM.ast (n := 70) (jj := j28) 87 rfl rfl hj1 hj2 ?_
          refine vm_WM.seq 88 4 (pc' := 148) (L' := [.ref 48, .int v2, .int v18, .int v20, .int v22, .int ((nI 30) + ((nI 4) * (M24 53 3)))]) (S' := [.int (nI 3), .ref 53, .int (nI 3), .ref 53]) (M' := (vm_u2 (vm_u2 (vm_u2 (vm_u2 M24 53 j25 v2) 53 j26 v18) 53 j27 v20) 53 j28 v22)) rfl ?_
          refine vm_WM.ald (n := 70) (jj := 3) 92 rfl (Or.inl ⟨rfl, rfl⟩) (by decide) rfl rfl (by decide) ?_
          refine vm_WM.seq 93 2 (pc' := 151) (L' := [.ref 48, .int v2, .int v18, .int v20, .int v22, .int ((nI 30) + ((nI 4) * (M24 53 3)))]) (S' := [.int (((vm_u2 (vm_u2 (vm_u2 (vm_u2 M24 53 j25 v2) 53 j26 v18) 53 j27 v20) 53 j28 v22) 53 3) + (nI 1)), .int (nI 3), .ref 53]) (M' := (vm_u2 (vm_u2 (vm_u2 (vm_u2 M24 53 j25 v2) 53 j26 v18) 53 j27 v20) 53 j28 v22)) rfl ?_
          refine vm_WM.ast (n := 70) (jj := 3) 95 rfl rfl rfl (by decide) ?_
          exact vm_WM.ret (r := none) 96 rfl rfl rfl ⟨rfl, h⟩
        · replace h := h.2 hc
          exact vm_WM.ret (r := none) 96 rfl rfl rfl ⟨rfl, h⟩
    · replace h := h.2 hc
      refine vm_WM.seq 28 5 (pc' := 56) (L' := [.ref 48, .int v2, .null, .null, .null, .null]) (S' := [.int (nI 2), .ref 53, .int (nI 0), .ref 48]) (M' := M3) rfl ?_
      refine vm_WM.ald (n := 70) (jj := 2) 33 rfl (Or.inl ⟨rfl, rfl⟩) (by decide) rfl rfl (by decide) ?_
      refine vm_WM.seq 34 2 (pc' := 59) (L' := [.ref 48, .int v2, .null, .null, .null, .null]) (S' := [.int ((M3 53 2) - (nI 1)), .int (nI 0), .ref 48]) (M' := M3) rfl ?_
      refine vm_WM.call (a := 125) (as := [.ref 48, .int (nI 0), .int ((M3 53 2) - (nI 1))]) (rest := []) (L0 := [.ref 48, .int (nI 0), .int ((M3 53 2) - (nI 1)), .null]) 36 rfl rfl (by decide) rfl rfl ⟨rfl, Or.inr rfl, Nat.le_of_ble_eq_true rfl, Nat.le_of_ble_eq_true rfl⟩ rfl rfl rfl ?_
      refine vm_WM.theni h (fun v29 M30 h => ?_)
      show vm_WM X 130 62 [.ref 48, .int v2, .null, .null, .null, .null] [.int v29] M30 _
      refine vm_WM.seq 37 4 (pc' := 67) (L' := [.ref 48, .int v2, .int v29, .null, .null, .null]) (S' := [.int (nI 30), .int (nI 1), .ref 48]) (M' := M30) rfl ?_
      refine vm_WM.call (a := 125) (as := [.ref 48, .int (nI 1), .int (nI 30)]) (rest := []) (L0 := [.ref 48, .int (nI 1), .int (nI 30), .null]) 41 rfl rfl (by decide) rfl rfl ⟨rfl, Or.inr rfl, Nat.le_of_ble_eq_true rfl, Nat.le_of_ble_eq_true rfl⟩ rfl rfl rfl ?_
      refine vm_WM.theni h (fun v31 M32 h => ?_)
      show vm_WM X 130 70 [.ref 48, .int v2, .int v29, .null, .null, .null] [.int v31] M32 _
      refine vm_WM.seq 42 4 (pc' := 74) (L' := [.ref 48, .int v2, .int v29, .int v31, .null, .null]) (S' := [.int (nI 1), .int (nI 0), .ref 48]) (M' := M32) rfl ?_
      refine vm_WM.call (a := 125) (as := [.ref 48, .int (nI 0), .int (nI 1)]) (rest := []) (L0 := [.ref 48, .int (nI 0), .int (nI 1), .null]) 46 rfl rfl (by decide) rfl rfl ⟨rfl, Or.inr rfl, Nat.le_of_ble_eq_true rfl, Nat.le_of_ble_eq_true rfl⟩ rfl rfl rfl ?_
      refine vm_WM.theni h (fun v33 M34 h => ?_)
      show vm_WM X 130 77 [.ref 48, .int v2, .int v29, .int v31, .null, .null] [.int v33] M34 _
      refine vm_WM.seq 47 2 (pc' := 80) (L' := [.ref 48, .int v2, .int v29, .int v31, .int v33, .null]) (S' := [.ref 48]) (M' := M34) rfl ?_
      refine vm_WM.call (a := 127) (as := [.ref 48]) (rest := []) (L0 := [.ref 48]) 49 rfl rfl (by decide) rfl rfl ⟨rfl, Or.inr rfl, Nat.le_of_ble_eq_true rfl, Nat.le_of_ble_eq_true rfl⟩ rfl rfl rfl ?_
      refine vm_WM.thenv h (fun M35 h => ?_)
      show vm_WM X 130 83 [.ref 48, .int v2, .int v29, .int v31, .int v33, .null] [] M35 _
      refine vm_WM.seq 50 2 (pc' := 87) (L' := [.ref 48, .int v2, .int v29, .int v31, .int v33, .null]) (S' := [.int (M35 48 17)]) (M' := M35) rfl ?_
      refine vm_WM.if (c := (M35 48 17) = 0) (t1 := 90) (t2 := 152) (S' := []) 52 rfl rfl rfl (fun hc => ?_) (fun hc => ?_)
      · replace h := h.1 hc
        refine vm_WM.seq 53 5 (pc' := 98) (L' := [.ref 48, .int v2, .int v29, .int v31, .int v33, .null]) (S' := [.int (nI 3), .ref 53, .int (nI 4), .int (nI 30)]) (M' := M35) rfl ?_
        refine vm_WM.ald (n := 70) (jj := 3) 58 rfl (Or.inl ⟨rfl, rfl⟩) (by decide) rfl rfl (by decide) ?_
        refine vm_WM.seq 59 7 (pc' := 110) (L' := [.ref 48, .int v2, .int v29, .int v31, .int v33, .int ((nI 30) + ((nI 4) * (M35 53 3)))]) (S' := [.int v2, .int ((nI 30) + ((nI 4) * (M35 53 3))), .ref 53]) (M' := M35) rfl ?_
        obtain ⟨j36, hj1, hj2, h⟩ := h
        refine vm_WM.ast (n := 70) (jj := j36) 66 rfl rfl hj1 hj2 ?_
        refine vm_WM.seq 67 6 (pc' := 120) (L' := [.ref 48, .int v2, .int v29, .int v31, .int v33, .int ((nI 30) + ((nI 4) * (M35 53 3)))]) (S' := [.int v29, .int (((nI 30) + ((nI 4) * (M35 53 3))) + (nI 1)), .ref 53]) (M' := (vm_u2 M35 53 j36 v2)) rfl ?_
        obtain ⟨j37, hj1, hj2, h⟩ := h
        refine vm_WM.ast (n := 70) (jj := j37) 73 rfl rfl hj1 hj2 ?_
        refine vm_WM.seq 74 6 (pc' := 130) (L' := [.ref 48, .int v2, .int v29, .int v31, .int v33, .int ((nI 30) + ((nI 4) * (M35 53 3)))]) (S' := [.int v31, .int (((nI 30) + ((nI 4) * (M35 53 3))) + (nI 2)), .ref 53]) (M' := (vm_u2 (vm_u2 M35 53 j36 v2) 53 j37 v29)) rfl ?_
        obtain ⟨j38, hj1, hj2, h⟩ := h
        refine vm_WM.ast (n := 70) (jj := j38) 80 rfl rfl hj1 hj2 ?_
        refine vm_WM.seq 81 6 (pc' := 141) (L' := [.ref 48, .int v2, .int v29, .int v31, .int v33, .int ((nI 30) + ((nI 4) * (M35 53 3)))]) (S' := [.int v33, .int (((nI 30) + ((nI 4) * (M35 53 3))) + (nI 3)), .ref 53]) (M' := (vm_u2 (vm_u2 (vm_u2 M35 53 j36 v2) 53 j37 v29) 53 j38 v31)) rfl ?_
        obtain ⟨j39, hj1, hj2, h⟩ := h
        refine vm_WM.ast (n := 70) (jj := j39) 87 rfl rfl hj1 hj2 ?_
        refine vm_WM.seq 88 4 (pc' := 148) (L' := [.ref 48, .int v2, .int v29, .int v31, .int v33, .int ((nI 30) + ((nI 4) * (M35 53 3)))]) (S' := [.int (nI 3), .ref 53, .int (nI 3), .ref 53]) (M' := (vm_u2 (vm_u2 (vm_u2 (vm_u2 M35 53 j36 v2) 53 j37 v29) 53 j38 v31) 53 j39 v33)) rfl ?_
        refine vm_WM.ald (n := 70) (jj := 3) 92 rfl (Or.inl ⟨rfl, rfl⟩) (by decide) rfl rfl (by decide) ?_
        refine vm_WM.seq 93 2 (pc' := 151) (L' := [.ref 48, .int v2, .int v29, .int v31, .int v33, .int ((nI 30) + ((nI 4) * (M35 53 3)))]) (S' := [.int (((vm_u2 (vm_u2 (vm_u2 (vm_u2 M35 53 j36 v2) 53 j37 v29) 53 j38 v31) 53 j39 v33) 53 3) + (nI 1)), .int (nI 3), .ref 53]) (M' := (vm_u2 (vm_u2 (vm_u2 (vm_u2 M35 53 j36 v2) 53 j37 v29) 53 j38 v31) 53 j39 v33)) rfl ?_
        refine vm_WM.ast (n := 70) (jj := 3) 95 rfl rfl rfl (by decide) ?_
        exact vm_WM.ret (r := none) 96 rfl rfl rfl ⟨rfl, h⟩
      · replace h := h.2 hc
        exact vm_WM.ret (r := none) 96 rfl rfl rfl ⟨rfl, h⟩
  · replace h := h.2 hc
    refine vm_WM.seq 28 5 (pc' := 56) (L' := [.ref 48, .int v2, .null, .null, .null, .null]) (S' := [.int (nI 2), .ref 53, .int (nI 0), .ref 48]) (M' := M3) rfl ?_
    refine vm_WM.ald (n := 70) (jj := 2) 33 rfl (Or.inl ⟨rfl, rfl⟩) (by decide) rfl rfl (by decide) ?_
    refine vm_WM.seq 34 2 (pc' := 59) (L' := [.ref 48, .int v2, .null, .null, .null, .null]) (S' := [.int ((M3 53 2) - (nI 1)), .int (nI 0), .ref 48]) (M' := M3) rfl ?_
    refine vm_WM.call (a := 125) (as := [.ref 48, .int (nI 0), .int ((M3 53 2) - (nI 1))]) (rest := []) (L0 := [.ref 48, .int (nI 0), .int ((M3 53 2) - (nI 1)), .null]) 36 rfl rfl (by decide) rfl rfl ⟨rfl, Or.inr rfl, Nat.le_of_ble_eq_true rfl, Nat.le_of_ble_eq_true rfl⟩ rfl rfl rfl ?_
    refine vm_WM.theni h (fun v40 M41 h => ?_)
    show vm_WM X 130 62 [.ref 48, .int v2, .null, .null, .null, .null] [.int v40] M41 _
    refine vm_WM.seq 37 4 (pc' := 67) (L' := [.ref 48, .int v2, .int v40, .null, .null, .null]) (S' := [.int (nI 30), .int (nI 1), .ref 48]) (M' := M41) rfl ?_
    refine vm_WM.call (a := 125) (as := [.ref 48, .int (nI 1), .int (nI 30)]) (rest := []) (L0 := [.ref 48, .int (nI 1), .int (nI 30), .null]) 41 rfl rfl (by decide) rfl rfl ⟨rfl, Or.inr rfl, Nat.le_of_ble_eq_true rfl, Nat.le_of_ble_eq_true rfl⟩ rfl rfl rfl ?_
    refine vm_WM.theni h (fun v42 M43 h => ?_)
    show vm_WM X 130 70 [.ref 48, .int v2, .int v40, .null, .null, .null] [.int v42] M43 _
    refine vm_WM.seq 42 4 (pc' := 74) (L' := [.ref 48, .int v2, .int v40, .int v42, .null, .null]) (S' := [.int (nI 1), .int (nI 0), .ref 48]) (M' := M43) rfl ?_
    refine vm_WM.call (a := 125) (as := [.ref 48, .int (nI 0), .int (nI 1)]) (rest := []) (L0 := [.ref 48, .int (nI 0), .int (nI 1), .null]) 46 rfl rfl (by decide) rfl rfl ⟨rfl, Or.inr rfl, Nat.le_of_ble_eq_true rfl, Nat.le_of_ble_eq_true rfl⟩ rfl rfl rfl ?_
    refine vm_WM.theni h (fun v44 M45 h => ?_)
    show vm_WM X 130 77 [.ref 48, .int v2, .int v40, .int v42, .null, .null] [.int v44] M45 _
    refine vm_WM.seq 47 2 (pc' := 80) (L' := [.ref 48, .int v2, .int v40, .int v42, .int v44, .null]) (S' := [.ref 48]) (M' := M45) rfl ?_
    refine vm_WM.call (a := 127) (as := [.ref 48]) (rest := []) (L0 := [.ref 48]) 49 rfl rfl (by decide) rfl rfl ⟨rfl, Or.inr rfl, Nat.le_of_ble_eq_true rfl, Nat.le_of_ble_eq_true rfl⟩ rfl rfl rfl ?_
    refine vm_WM.thenv h (fun M46 h => ?_)
    show vm_WM X 130 83 [.ref 48, .int v2, .int v40, .int v42, .int v44, .null] [] M46 _
    refine vm_WM.seq 50 2 (pc' := 87) (L' := [.ref 48, .int v2, .int v40, .int v42, .int v44, .null]) (S' := [.int (M46 48 17)]) (M' := M46) rfl ?_
    refine vm_WM.if (c := (M46 48 17) = 0) (t1 := 90) (t2 := 152) (S' := []) 52 rfl rfl rfl (fun hc => ?_) (fun hc => ?_)
    · replace h := h.1 hc
      refine vm_WM.seq 53 5 (pc' := 98) (L' := [.ref 48, .int v2, .int v40, .int v42, .int v44, .null]) (S' := [.int (nI 3), .ref 53, .int (nI 4), .int (nI 30)]) (M' := M46) rfl ?_
      refine vm_WM.ald (n := 70) (jj := 3) 58 rfl (Or.inl ⟨rfl, rfl⟩) (by decide) rfl rfl (by decide) ?_
      refine vm_WM.seq 59 7 (pc' := 110) (L' := [.ref 48, .int v2, .int v40, .int v42, .int v44, .int ((nI 30) + ((nI 4) * (M46 53 3)))]) (S' := [.int v2, .int ((nI 30) + ((nI 4) * (M46 53 3))), .ref 53]) (M' := M46) rfl ?_
      obtain ⟨j47, hj1, hj2, h⟩ := h
      refine vm_WM.ast (n := 70) (jj := j47) 66 rfl rfl hj1 hj2 ?_
      refine vm_WM.seq 67 6 (pc' := 120) (L' := [.ref 48, .int v2, .int v40, .int v42, .int v44, .int ((nI 30) + ((nI 4) * (M46 53 3)))]) (S' := [.int v40, .int (((nI 30) + ((nI 4) * (M46 53 3))) + (nI 1)), .ref 53]) (M' := (vm_u2 M46 53 j47 v2)) rfl ?_
      obtain ⟨j48, hj1, hj2, h⟩ := h
      refine vm_WM.ast (n := 70) (jj := j48) 73 rfl rfl hj1 hj2 ?_
      refine vm_WM.seq 74 6 (pc' := 130) (L' := [.ref 48, .int v2, .int v40, .int v42, .int v44, .int ((nI 30) + ((nI 4) * (M46 53 3)))]) (S' := [.int v42, .int (((nI 30) + ((nI 4) * (M46 53 3))) + (nI 2)), .ref 53]) (M' := (vm_u2 (vm_u2 M46 53 j47 v2) 53 j48 v40)) rfl ?_
      obtain ⟨j49, hj1, hj2, h⟩ := h
      refine vm_WM.ast (n := 70) (jj := j49) 80 rfl rfl hj1 hj2 ?_
      refine vm_WM.seq 81 6 (pc' := 141) (L' := [.ref 48, .int v2, .int v40, .int v42, .int v44, .int ((nI 30) + ((nI 4) * (M46 53 3)))]) (S' := [.int v44, .int (((nI 30) + ((nI 4) * (M46 53 3))) + (nI 3)), .ref 53]) (M' := (vm_u2 (vm_u2 (vm_u2 M46 53 j47 v2) 53 j48 v40) 53 j49 v42)) rfl ?_
      obtain ⟨j50, hj1, hj2, h⟩ := h
      refine vm_WM.ast (n := 70) (jj := j50) 87 rfl rfl hj1 hj2 ?_
      refine vm_WM.seq 88 4 (pc' := 148) (L' := [.ref 48, .int v2, .int v40, .int v42, .int v44, .int ((nI 30) + ((nI 4) * (M46 53 3)))]) (S' := [.int (nI 3), .ref 53, .int (nI 3), .ref 53]) (M' := (vm_u2 (vm_u2 (vm_u2 (vm_u2 M46 53 j47 v2) 53 j48 v40) 53 j49 v42) 53 j50 v44)) rfl ?_
      refine vm_WM.ald (n := 70) (jj := 3) 92 rfl (Or.inl ⟨rfl, rfl⟩) (by decide) rfl rfl (by decide) ?_
      refine vm_WM.seq 93 2 (pc' := 151) (L' := [.ref 48, .int v2, .int v40, .int v42, .int v44, .int ((nI 30) + ((nI 4) * (M46 53 3)))]) (S' := [.int (((vm_u2 (vm_u2 (vm_u2 (vm_u2 M46 53 j47 v2) 53 j48 v40) 53 j49 v42) 53 j50 v44) 53 3) + (nI 1)), .int (nI 3), .ref 53]) (M' := (vm_u2 (vm_u2 (vm_u2 (vm_u2 M46 53 j47 v2) 53 j48 v40) 53 j49 v42) 53 j50 v44)) rfl ?_
      refine vm_WM.ast (n := 70) (jj := 3) 95 rfl rfl rfl (by decide) ?_
      exact vm_WM.ret (r := none) 96 rfl rfl rfl ⟨rfl, h⟩
    · replace h := h.2 hc
      exact vm_WM.ret (r := none) 96 rfl rfl rfl ⟨rfl, h⟩
theorem v_M_isTrader {X : Nat × (Nat → Int32)} {a1 : Int32} {M : vm_M} {P : Int32 → vm_M → Prop} (h : E_M_in X ((a1).toInt64) (Int64.ofNat 0) ((((M 52 2) - (nI 1))).toInt64) M (fun v1 M2 => (v1 = 0 ∨ v1 = 1) ∧ P v1 M2)) : E_M_isTrader X a1 M P := by
  unfold E_M_isTrader
  refine vm_WM.seq 0 6 (pc' := 8) (L' := [.ref 48, .int a1]) (S' := [.int (nI 2), .ref 52, .long (Int64.ofNat 0), .long ((a1).toInt64)]) (M' := M) rfl ?_
  refine vm_WM.ald (n := 70) (jj := 2) 6 rfl (Or.inl ⟨rfl, rfl⟩) (by decide) rfl rfl (by decide) ?_
  refine vm_WM.seq 7 3 (pc' := 12) (L' := [.ref 48, .int a1]) (S' := [.long ((((M 52 2) - (nI 1))).toInt64), .long (Int64.ofNat 0), .long ((a1).toInt64)]) (M' := M) rfl ?_
  refine vm_WM.call (a := 108) (as := [.long ((a1).toInt64), .long (Int64.ofNat 0), .long ((((M 52 2) - (nI 1))).toInt64)]) (rest := []) (L0 := [.long ((a1).toInt64), .null, .long (Int64.ofNat 0), .null, .long ((((M 52 2) - (nI 1))).toInt64), .null]) 10 rfl rfl (by decide) rfl rfl ⟨rfl, Or.inl rfl, Nat.le_of_ble_eq_true rfl, Nat.le_of_ble_eq_true rfl⟩ rfl rfl rfl ?_
  refine vm_WM.theni h (fun v1 M2 h => ?_)
  show vm_WM X 134 15 [.ref 48, .int a1] [.int v1] M2 _
  obtain ⟨hz, h⟩ := h
  exact vm_WM.ret (r := some (.int v1)) 11 rfl rfl (vm_rtZ rfl hz) ⟨_, rfl, h⟩
theorem v_M_passedIn {X : Nat × (Nat → Int32)} {a1 : Int32} {a2 : Int32} {a3 : Int32} {M : vm_M} {P : Int32 → vm_M → Prop} (h : (a1 = a2 → (P (Int32.ofInt (-1000000)) M)) ∧ (¬ (a1 = a2) → (E_M_thereIn X a1 a2 a3 M (fun v1 M2 => (v1 = (Int32.ofInt (-1000000)) → (P (Int32.ofInt (-1000000)) M2)) ∧ (¬ (v1 = (Int32.ofInt (-1000000))) → (E_M_isTaken X a2 v1 M2 (fun v3 M4 => (v3 = 0 → (P (Int32.ofInt (-1000000)) M4)) ∧ (¬ (v3 = 0) → (P v1 M4))))))))) : E_M_passedIn X a1 a2 a3 M P := by
  unfold E_M_passedIn
  refine vm_WM.seq 0 2 (pc' := 2) (L' := [.ref 48, .int a1, .int a2, .int a3, .null]) (S' := [.int a2, .int a1]) (M' := M) rfl ?_
  refine vm_WM.if (c := a1 = a2) (t1 := 5) (t2 := 10) (S' := []) 2 rfl rfl rfl (fun hc => ?_) (fun hc => ?_)
  · replace h := h.1 hc
    refine vm_WM.seq 3 2 (pc' := 17) (L' := [.ref 48, .int a1, .int a2, .int a3, .null]) (S' := [.int (Int32.ofInt (-1000000))]) (M' := M) rfl ?_
    refine vm_WM.seq 10 4 (pc' := 41) (L' := [.ref 48, .int a1, .int a2, .int a3, .int (Int32.ofInt (-1000000))]) (S' := []) (M' := M) rfl ?_
    refine vm_WM.seq 21 1 (pc' := 43) (L' := [.ref 48, .int a1, .int a2, .int a3, .int (Int32.ofInt (-1000000))]) (S' := [.int (Int32.ofInt (-1000000))]) (M' := M) rfl ?_
    exact vm_WM.ret (r := some (.int (Int32.ofInt (-1000000)))) 22 rfl rfl rfl ⟨_, rfl, h⟩
  · replace h := h.2 hc
    refine vm_WM.seq 5 4 (pc' := 14) (L' := [.ref 48, .int a1, .int a2, .int a3, .null]) (S' := [.int a3, .int a2, .int a1, .ref 48]) (M' := M) rfl ?_
    refine vm_WM.call (a := 139) (as := [.ref 48, .int a1, .int a2, .int a3]) (rest := []) (L0 := [.ref 48, .int a1, .int a2, .int a3, .null, .null, .null, .null, .null]) 9 rfl rfl (by decide) rfl rfl ⟨rfl, Or.inr rfl, Nat.le_of_ble_eq_true rfl, Nat.le_of_ble_eq_true rfl⟩ rfl rfl rfl ?_
    refine vm_WM.theni h (fun v1 M2 h => ?_)
    show vm_WM X 140 17 [.ref 48, .int a1, .int a2, .int a3, .null] [.int v1] M2 _
    refine vm_WM.seq 10 3 (pc' := 23) (L' := [.ref 48, .int a1, .int a2, .int a3, .int v1]) (S' := [.int (Int32.ofInt (-1000000)), .int v1]) (M' := M2) rfl ?_
    refine vm_WM.if (c := v1 = (Int32.ofInt (-1000000))) (t1 := 41) (t2 := 26) (S' := []) 13 rfl rfl rfl (fun hc => ?_) (fun hc => ?_)
    · replace h := h.1 hc
      refine vm_WM.seq 21 1 (pc' := 43) (L' := [.ref 48, .int a1, .int a2, .int a3, .int v1]) (S' := [.int (Int32.ofInt (-1000000))]) (M' := M2) rfl ?_
      exact vm_WM.ret (r := some (.int (Int32.ofInt (-1000000)))) 22 rfl rfl rfl ⟨_, rfl, h⟩
    · replace h := h.2 hc
      refine vm_WM.seq 14 3 (pc' := 30) (L' := [.ref 48, .int a1, .int a2, .int a3, .int v1]) (S' := [.int v1, .int a2, .ref 48]) (M' := M2) rfl ?_
      refine vm_WM.call (a := 138) (as := [.ref 48, .int a2, .int v1]) (rest := []) (L0 := [.ref 48, .int a2, .int v1]) 17 rfl rfl (by decide) rfl rfl ⟨rfl, Or.inr rfl, Nat.le_of_ble_eq_true rfl, Nat.le_of_ble_eq_true rfl⟩ rfl rfl rfl ?_
      refine vm_WM.theni h (fun v3 M4 h => ?_)
      show vm_WM X 140 33 [.ref 48, .int a1, .int a2, .int a3, .int v1] [.int v3] M4 _
      refine vm_WM.if (c := v3 = 0) (t1 := 41) (t2 := 36) (S' := []) 18 rfl rfl rfl (fun hc => ?_) (fun hc => ?_)
      · replace h := h.1 hc
        refine vm_WM.seq 21 1 (pc' := 43) (L' := [.ref 48, .int a1, .int a2, .int a3, .int v1]) (S' := [.int (Int32.ofInt (-1000000))]) (M' := M4) rfl ?_
        exact vm_WM.ret (r := some (.int (Int32.ofInt (-1000000)))) 22 rfl rfl rfl ⟨_, rfl, h⟩
      · replace h := h.2 hc
        refine vm_WM.seq 19 2 (pc' := 43) (L' := [.ref 48, .int a1, .int a2, .int a3, .int v1]) (S' := [.int v1]) (M' := M4) rfl ?_
        exact vm_WM.ret (r := some (.int v1)) 22 rfl rfl rfl ⟨_, rfl, h⟩
theorem v_M_keep {X : Nat × (Nat → Int32)}  {M : vm_M} {P : vm_M → Prop} (h : ((M 48 8) = (nI 24) → (C_M_keep_11 X (nI 0) M P)) ∧ (¬ ((M 48 8) = (nI 24)) → (C_M_keep_51 X (nI 0) M P))) : E_M_keep X  M P := by
  unfold E_M_keep
  refine vm_WM.seq 0 3 (pc' := 6) (L' := [.ref 48, .null]) (S' := [.int (nI 24), .int (M 48 8)]) (M' := M) rfl ?_
  refine vm_WM.if (c := (M 48 8) = (nI 24)) (t1 := 9) (t2 := 49) (S' := []) 3 rfl rfl rfl (fun hc => ?_) (fun hc => ?_)
  · replace h := h.1 hc
    refine vm_WM.seq 4 2 (pc' := 11) (L' := [.ref 48, .int (nI 0)]) (S' := []) (M' := M) rfl ?_
    exact h
  · replace h := h.2 hc
    refine vm_WM.seq 27 2 (pc' := 51) (L' := [.ref 48, .int (nI 0)]) (S' := []) (M' := M) rfl ?_
    exact h
theorem v_M_keep_11 {X : Nat × (Nat → Int32)} {x1 : Int32} {M : vm_M} {P : vm_M → Prop} (h : (x1 < (nI 1610) → (∃ j1 : Nat, (x1 + (nI 70)) = nI j1 ∧ j1 < 1680 ∧ (∃ j2 : Nat, x1 = nI j2 ∧ j2 < 1680 ∧ (C_M_keep_11 X (x1 + (nI 1)) (vm_u2 M 54 j2 (M 54 j1)) P)))) ∧ (¬ (x1 < (nI 1610)) → (C_M_keep_51 X (nI 0) (vm_u2 M 48 8 ((M 48 8) - (nI 1))) P))) : C_M_keep_11 X x1 M P := by
  unfold C_M_keep_11
  refine vm_WM.seq 6 2 (pc' := 15) (L' := [.ref 48, .int x1]) (S' := [.int (nI 1610), .int x1]) (M' := M) rfl ?_
  refine vm_WM.if (c := x1 < (nI 1610)) (t1 := 18) (t2 := 39) (S' := []) 8 rfl rfl rfl (fun hc => ?_) (fun hc => ?_)
  · replace h := h.1 hc
    refine vm_WM.seq 9 8 (pc' := 31) (L' := [.ref 48, .int x1]) (S' := [.int (x1 + (nI 70)), .ref 54, .int x1, .ref 54]) (M' := M) rfl ?_
    obtain ⟨j1, hj1, hj2, h⟩ := h
    refine vm_WM.ald (n := 1680) (jj := j1) 17 rfl (Or.inl ⟨rfl, rfl⟩) (by decide) rfl hj1 hj2 ?_
    obtain ⟨j2, hj1, hj2, h⟩ := h
    refine vm_WM.ast (n := 1680) (jj := j2) 18 rfl rfl hj1 hj2 ?_
    refine vm_WM.seq 19 2 (pc' := 11) (L' := [.ref 48, .int (x1 + (nI 1))]) (S' := []) (M' := (vm_u2 M 54 j2 (M 54 j1))) rfl ?_
    exact h
  · replace h := h.2 hc
    refine vm_WM.seq 21 8 (pc' := 51) (L' := [.ref 48, .int (nI 0)]) (S' := []) (M' := (vm_u2 M 48 8 ((M 48 8) - (nI 1)))) rfl ?_
    exact h
theorem v_M_keep_51 {X : Nat × (Nat → Int32)} {x1 : Int32} {M : vm_M} {P : vm_M → Prop} (h : (x1 < (nI 70) → (∃ j1 : Nat, x1 = nI j1 ∧ j1 < 70 ∧ (∃ j2 : Nat, (((nI 70) * (M 48 8)) + x1) = nI j2 ∧ j2 < 1680 ∧ (C_M_keep_51 X (x1 + (nI 1)) (vm_u2 M 54 j2 (M 52 j1)) P)))) ∧ (¬ (x1 < (nI 70)) → (P  (vm_u2 M 48 8 ((M 48 8) + (nI 1)))))) : C_M_keep_51 X x1 M P := by
  unfold C_M_keep_51
  refine vm_WM.seq 29 2 (pc' := 54) (L' := [.ref 48, .int x1]) (S' := [.int (nI 70), .int x1]) (M' := M) rfl ?_
  refine vm_WM.if (c := x1 < (nI 70)) (t1 := 57) (t2 := 83) (S' := []) 31 rfl rfl rfl (fun hc => ?_) (fun hc => ?_)
  · replace h := h.1 hc
    refine vm_WM.seq 32 11 (pc' := 75) (L' := [.ref 48, .int x1]) (S' := [.int x1, .ref 52, .int (((nI 70) * (M 48 8)) + x1), .ref 54]) (M' := M) rfl ?_
    obtain ⟨j1, hj1, hj2, h⟩ := h
    refine vm_WM.ald (n := 70) (jj := j1) 43 rfl (Or.inl ⟨rfl, rfl⟩) (by decide) rfl hj1 hj2 ?_
    obtain ⟨j2, hj1, hj2, h⟩ := h
    refine vm_WM.ast (n := 1680) (jj := j2) 44 rfl rfl hj1 hj2 ?_
    refine vm_WM.seq 45 2 (pc' := 51) (L' := [.ref 48, .int (x1 + (nI 1))]) (S' := []) (M' := (vm_u2 M 54 j2 (M 52 j1))) rfl ?_
    exact h
  · replace h := h.2 hc
    refine vm_WM.seq 47 6 (pc' := 93) (L' := [.ref 48, .int x1]) (S' := []) (M' := (vm_u2 M 48 8 ((M 48 8) + (nI 1)))) rfl ?_
    exact vm_WM.ret (r := none) 53 rfl rfl rfl ⟨rfl, h⟩
theorem v_M_priceOf {X : Nat × (Nat → Int32)} {a1 : Int32} {M : vm_M} {P : Int32 → vm_M → Prop} (h : ∃ j1 : Nat, (((nI 6) + ((nI 4) * a1)) + (nI 0)) = nI j1 ∧ j1 < 70 ∧ (((M 52 j1) = (nI 2) → (∃ j2 : Nat, (((nI 6) + ((nI 4) * a1)) + (nI 1)) = nI j2 ∧ j2 < 70 ∧ (P ((M 52 j2) / (nI 2)) M))) ∧ (¬ ((M 52 j1) = (nI 2)) → (∃ j3 : Nat, (((nI 6) + ((nI 4) * a1)) + (nI 1)) = nI j3 ∧ j3 < 70 ∧ (P (M 52 j3) M))))) : E_M_priceOf X a1 M P := by
  unfold E_M_priceOf
  refine vm_WM.seq 0 3 (pc' := 3) (L' := [.ref 48, .int a1]) (S' := [.int (nI 0), .int a1, .ref 48]) (M' := M) rfl ?_
  refine vm_WM.call (a := 136) (as := [.ref 48, .int a1, .int (nI 0)]) (rest := []) (L0 := [.ref 48, .int a1, .int (nI 0)]) 3 rfl rfl (by decide) rfl rfl ⟨rfl, Or.inr rfl, Nat.le_of_ble_eq_true rfl, Nat.le_of_ble_eq_true rfl⟩ rfl rfl rfl ?_
  refine vm_WM.seq 0 9 (pc' := 12) (L' := [.ref 48, .int a1, .int (nI 0)]) (S' := [.int (((nI 6) + ((nI 4) * a1)) + (nI 0)), .ref 52]) (M' := M) rfl ?_
  obtain ⟨j1, hj1, hj2, h⟩ := h
  refine vm_WM.ald (n := 70) (jj := j1) 9 rfl (Or.inl ⟨rfl, rfl⟩) (by decide) rfl hj1 hj2 ?_
  refine vm_WM.ret (r := some (.int (M 52 j1))) 10 rfl rfl rfl ?_
  show vm_WM X 137 6 [.ref 48, .int a1] [.int (M 52 j1)] M _
  refine vm_WM.seq 4 1 (pc' := 7) (L' := [.ref 48, .int a1]) (S' := [.int (nI 2), .int (M 52 j1)]) (M' := M) rfl ?_
  refine vm_WM.if (c := (M 52 j1) = (nI 2)) (t1 := 10) (t2 := 21) (S' := []) 5 rfl rfl rfl (fun hc => ?_) (fun hc => ?_)
  · replace h := h.1 hc
    refine vm_WM.seq 6 3 (pc' := 13) (L' := [.ref 48, .int a1]) (S' := [.int (nI 1), .int a1, .ref 48]) (M' := M) rfl ?_
    refine vm_WM.call (a := 136) (as := [.ref 48, .int a1, .int (nI 1)]) (rest := []) (L0 := [.ref 48, .int a1, .int (nI 1)]) 9 rfl rfl (by decide) rfl rfl ⟨rfl, Or.inr rfl, Nat.le_of_ble_eq_true rfl, Nat.le_of_ble_eq_true rfl⟩ rfl rfl rfl ?_
    refine vm_WM.seq 0 9 (pc' := 12) (L' := [.ref 48, .int a1, .int (nI 1)]) (S' := [.int (((nI 6) + ((nI 4) * a1)) + (nI 1)), .ref 52]) (M' := M) rfl ?_
    obtain ⟨j2, hj1, hj2, h⟩ := h
    refine vm_WM.ald (n := 70) (jj := j2) 9 rfl (Or.inl ⟨rfl, rfl⟩) (by decide) rfl hj1 hj2 ?_
    refine vm_WM.ret (r := some (.int (M 52 j2))) 10 rfl rfl rfl ?_
    show vm_WM X 137 16 [.ref 48, .int a1] [.int (M 52 j2)] M _
    refine vm_WM.seq 10 3 (pc' := 27) (L' := [.ref 48, .int a1]) (S' := [.int ((M 52 j2) / (nI 2))]) (M' := M) rfl ?_
    exact vm_WM.ret (r := some (.int ((M 52 j2) / (nI 2)))) 17 rfl rfl rfl ⟨_, rfl, h⟩
  · replace h := h.2 hc
    refine vm_WM.seq 13 3 (pc' := 24) (L' := [.ref 48, .int a1]) (S' := [.int (nI 1), .int a1, .ref 48]) (M' := M) rfl ?_
    refine vm_WM.call (a := 136) (as := [.ref 48, .int a1, .int (nI 1)]) (rest := []) (L0 := [.ref 48, .int a1, .int (nI 1)]) 16 rfl rfl (by decide) rfl rfl ⟨rfl, Or.inr rfl, Nat.le_of_ble_eq_true rfl, Nat.le_of_ble_eq_true rfl⟩ rfl rfl rfl ?_
    refine vm_WM.seq 0 9 (pc' := 12) (L' := [.ref 48, .int a1, .int (nI 1)]) (S' := [.int (((nI 6) + ((nI 4) * a1)) + (nI 1)), .ref 52]) (M' := M) rfl ?_
    obtain ⟨j3, hj1, hj2, h⟩ := h
    refine vm_WM.ald (n := 70) (jj := j3) 9 rfl (Or.inl ⟨rfl, rfl⟩) (by decide) rfl hj1 hj2 ?_
    refine vm_WM.ret (r := some (.int (M 52 j3))) 10 rfl rfl rfl ?_
    show vm_WM X 137 27 [.ref 48, .int a1] [.int (M 52 j3)] M _
    exact vm_WM.ret (r := some (.int (M 52 j3))) 17 rfl rfl rfl ⟨_, rfl, h⟩
theorem v_M_isMinute {X : Nat × (Nat → Int32)} {a0 : Int32} {M : vm_M} {P : Int32 → vm_M → Prop} (h : E_M_in X ((a0).toInt64) (Int64.ofNat 0) (Int64.ofInt 60) M (fun v1 M2 => (v1 = 0 ∨ v1 = 1) ∧ P v1 M2)) : E_M_isMinute X a0 M P := by
  unfold E_M_isMinute
  refine vm_WM.seq 0 4 (pc' := 6) (L' := [.int a0]) (S' := [.long (Int64.ofInt 60), .long (Int64.ofNat 0), .long ((a0).toInt64)]) (M' := M) rfl ?_
  refine vm_WM.call (a := 108) (as := [.long ((a0).toInt64), .long (Int64.ofNat 0), .long (Int64.ofInt 60)]) (rest := []) (L0 := [.long ((a0).toInt64), .null, .long (Int64.ofNat 0), .null, .long (Int64.ofInt 60), .null]) 4 rfl rfl (by decide) rfl rfl ⟨rfl, Or.inl rfl, Nat.le_of_ble_eq_true rfl, Nat.le_of_ble_eq_true rfl⟩ rfl rfl rfl ?_
  refine vm_WM.theni h (fun v1 M2 h => ?_)
  show vm_WM X 135 9 [.int a0] [.int v1] M2 _
  obtain ⟨hz, h⟩ := h
  exact vm_WM.ret (r := some (.int v1)) 5 rfl rfl (vm_rtZ rfl hz) ⟨_, rfl, h⟩
theorem v_M_isTaken {X : Nat × (Nat → Int32)} {a1 : Int32} {a2 : Int32} {M : vm_M} {P : Int32 → vm_M → Prop} (h : (a2 < (M 52 0) → (∃ j1 : Nat, (((nI 6) + ((nI 4) * a1)) + (nI 0)) = nI j1 ∧ j1 < 70 ∧ ((((M 52 j1)).toInt < 1 ∨ 5 < ((M 52 j1)).toInt → (P (nI 1) M)) ∧ (((M 52 j1) = (nI 1) → (∃ j2 : Nat, (((nI 6) + ((nI 4) * a1)) + (nI 2)) = nI j2 ∧ j2 < 70 ∧ (((M 52 j2) < a2 → (P (nI 0) M)) ∧ (¬ ((M 52 j2) < a2) → (P (nI 1) M))))) ∧ ((M 52 j1) = (nI 2) → (∃ j3 : Nat, (((nI 6) + ((nI 4) * a1)) + (nI 2)) = nI j3 ∧ j3 < 70 ∧ ((((M 52 j3) + (nI 5)) < a2 → (P (nI 0) M)) ∧ (¬ (((M 52 j3) + (nI 5)) < a2) → (P (nI 1) M))))) ∧ ((M 52 j1) = (nI 3) → (∃ j4 : Nat, (((nI 6) + ((nI 4) * a1)) + (nI 2)) = nI j4 ∧ j4 < 70 ∧ (((M 52 j4) < a2 → (P (nI 0) M)) ∧ (¬ ((M 52 j4) < a2) → ((((M 52 0) - a2) < (nI 10) → (P (nI 0) M)) ∧ (¬ (((M 52 0) - a2) < (nI 10)) → (P (nI 1) M))))))) ∧ ((M 52 j1) = (nI 4) → (P (nI 1) M)) ∧ ((M 52 j1) = (nI 5) → (((a2 - a2 / (nI 2) * (nI 2)) = 0 → (P (nI 1) M)) ∧ (¬ ((a2 - a2 / (nI 2) * (nI 2)) = 0) → (P (nI 0) M)))))))) ∧ (¬ (a2 < (M 52 0)) → (P (nI 0) M))) : E_M_isTaken X a1 a2 M P := by
  unfold E_M_isTaken
  refine vm_WM.seq 0 4 (pc' := 6) (L' := [.ref 48, .int a1, .int a2]) (S' := [.int (nI 0), .ref 52, .int a2]) (M' := M) rfl ?_
  refine vm_WM.ald (n := 70) (jj := 0) 4 rfl (Or.inl ⟨rfl, rfl⟩) (by decide) rfl rfl (by decide) ?_
  refine vm_WM.if (c := a2 < (M 52 0)) (t1 := 12) (t2 := 10) (S' := []) 5 rfl rfl rfl (fun hc => ?_) (fun hc => ?_)
  · replace h := h.1 hc
    refine vm_WM.seq 8 3 (pc' := 15) (L' := [.ref 48, .int a1, .int a2]) (S' := [.int (nI 0), .int a1, .ref 48]) (M' := M) rfl ?_
    refine vm_WM.call (a := 136) (as := [.ref 48, .int a1, .int (nI 0)]) (rest := []) (L0 := [.ref 48, .int a1, .int (nI 0)]) 11 rfl rfl (by decide) rfl rfl ⟨rfl, Or.inr rfl, Nat.le_of_ble_eq_true rfl, Nat.le_of_ble_eq_true rfl⟩ rfl rfl rfl ?_
    refine vm_WM.seq 0 9 (pc' := 12) (L' := [.ref 48, .int a1, .int (nI 0)]) (S' := [.int (((nI 6) + ((nI 4) * a1)) + (nI 0)), .ref 52]) (M' := M) rfl ?_
    obtain ⟨j1, hj1, hj2, h⟩ := h
    refine vm_WM.ald (n := 70) (jj := j1) 9 rfl (Or.inl ⟨rfl, rfl⟩) (by decide) rfl hj1 hj2 ?_
    refine vm_WM.ret (r := some (.int (M 52 j1))) 10 rfl rfl rfl ?_
    show vm_WM X 138 18 [.ref 48, .int a1, .int a2] [.int (M 52 j1)] M _
    by_cases hlo : ((M 52 j1)).toInt < 1 ∨ 5 < ((M 52 j1)).toInt
    · replace h := h.1 hlo
      refine vm_WM.tso (t := 127) 12 rfl hlo rfl ?_
      refine vm_WM.seq 61 1 (pc' := 128) (L' := [.ref 48, .int a1, .int a2]) (S' := [.int (nI 1)]) (M' := M) rfl ?_
      exact vm_WM.ret (r := some (.int (nI 1))) 62 rfl rfl rfl ⟨_, rfl, h⟩
    · replace h := h.2
      by_cases hq0 : (M 52 j1) = (nI 1)
      · replace h := h.1 hq0
        refine vm_WM.tsi (t := 52) (v := 1) 12 rfl hq0 (by decide) rfl ?_
        refine vm_WM.seq 13 4 (pc' := 56) (L' := [.ref 48, .int a1, .int a2]) (S' := [.int (nI 2), .int a1, .ref 48, .int a2]) (M' := M) rfl ?_
        refine vm_WM.call (a := 136) (as := [.ref 48, .int a1, .int (nI 2)]) (rest := [.int a2]) (L0 := [.ref 48, .int a1, .int (nI 2)]) 17 rfl rfl (by decide) rfl rfl ⟨rfl, Or.inr rfl, Nat.le_of_ble_eq_true rfl, Nat.le_of_ble_eq_true rfl⟩ rfl rfl rfl ?_
        refine vm_WM.seq 0 9 (pc' := 12) (L' := [.ref 48, .int a1, .int (nI 2)]) (S' := [.int (((nI 6) + ((nI 4) * a1)) + (nI 2)), .ref 52]) (M' := M) rfl ?_
        obtain ⟨j2, hj1, hj2, h⟩ := h
        refine vm_WM.ald (n := 70) (jj := j2) 9 rfl (Or.inl ⟨rfl, rfl⟩) (by decide) rfl hj1 hj2 ?_
        refine vm_WM.ret (r := some (.int (M 52 j2))) 10 rfl rfl rfl ?_
        show vm_WM X 138 59 [.ref 48, .int a1, .int a2] [.int (M 52 j2), .int a2] M _
        refine vm_WM.if (c := (M 52 j2) < a2) (t1 := 66) (t2 := 62) (S' := []) 18 rfl rfl rfl (fun hc => ?_) (fun hc => ?_)
        · replace h := h.1 hc
          refine vm_WM.seq 21 1 (pc' := 67) (L' := [.ref 48, .int a1, .int a2]) (S' := [.int (nI 0)]) (M' := M) rfl ?_
          exact vm_WM.ret (r := some (.int (nI 0))) 22 rfl rfl rfl ⟨_, rfl, h⟩
        · replace h := h.2 hc
          refine vm_WM.seq 19 2 (pc' := 67) (L' := [.ref 48, .int a1, .int a2]) (S' := [.int (nI 1)]) (M' := M) rfl ?_
          exact vm_WM.ret (r := some (.int (nI 1))) 22 rfl rfl rfl ⟨_, rfl, h⟩
      by_cases hq1 : (M 52 j1) = (nI 2)
      · replace h := h.2.1 hq1
        refine vm_WM.tsi (t := 68) (v := 2) 12 rfl hq1 (by decide) rfl ?_
        refine vm_WM.seq 23 4 (pc' := 72) (L' := [.ref 48, .int a1, .int a2]) (S' := [.int (nI 2), .int a1, .ref 48, .int a2]) (M' := M) rfl ?_
        refine vm_WM.call (a := 136) (as := [.ref 48, .int a1, .int (nI 2)]) (rest := [.int a2]) (L0 := [.ref 48, .int a1, .int (nI 2)]) 27 rfl rfl (by decide) rfl rfl ⟨rfl, Or.inr rfl, Nat.le_of_ble_eq_true rfl, Nat.le_of_ble_eq_true rfl⟩ rfl rfl rfl ?_
        refine vm_WM.seq 0 9 (pc' := 12) (L' := [.ref 48, .int a1, .int (nI 2)]) (S' := [.int (((nI 6) + ((nI 4) * a1)) + (nI 2)), .ref 52]) (M' := M) rfl ?_
        obtain ⟨j3, hj1, hj2, h⟩ := h
        refine vm_WM.ald (n := 70) (jj := j3) 9 rfl (Or.inl ⟨rfl, rfl⟩) (by decide) rfl hj1 hj2 ?_
        refine vm_WM.ret (r := some (.int (M 52 j3))) 10 rfl rfl rfl ?_
        show vm_WM X 138 75 [.ref 48, .int a1, .int a2] [.int (M 52 j3), .int a2] M _
        refine vm_WM.seq 28 2 (pc' := 77) (L' := [.ref 48, .int a1, .int a2]) (S' := [.int ((M 52 j3) + (nI 5)), .int a2]) (M' := M) rfl ?_
        refine vm_WM.if (c := ((M 52 j3) + (nI 5)) < a2) (t1 := 84) (t2 := 80) (S' := []) 30 rfl rfl rfl (fun hc => ?_) (fun hc => ?_)
        · replace h := h.1 hc
          refine vm_WM.seq 33 1 (pc' := 85) (L' := [.ref 48, .int a1, .int a2]) (S' := [.int (nI 0)]) (M' := M) rfl ?_
          exact vm_WM.ret (r := some (.int (nI 0))) 34 rfl rfl rfl ⟨_, rfl, h⟩
        · replace h := h.2 hc
          refine vm_WM.seq 31 2 (pc' := 85) (L' := [.ref 48, .int a1, .int a2]) (S' := [.int (nI 1)]) (M' := M) rfl ?_
          exact vm_WM.ret (r := some (.int (nI 1))) 34 rfl rfl rfl ⟨_, rfl, h⟩
      by_cases hq2 : (M 52 j1) = (nI 3)
      · replace h := h.2.2.1 hq2
        refine vm_WM.tsi (t := 86) (v := 3) 12 rfl hq2 (by decide) rfl ?_
        refine vm_WM.seq 35 4 (pc' := 90) (L' := [.ref 48, .int a1, .int a2]) (S' := [.int (nI 2), .int a1, .ref 48, .int a2]) (M' := M) rfl ?_
        refine vm_WM.call (a := 136) (as := [.ref 48, .int a1, .int (nI 2)]) (rest := [.int a2]) (L0 := [.ref 48, .int a1, .int (nI 2)]) 39 rfl rfl (by decide) rfl rfl ⟨rfl, Or.inr rfl, Nat.le_of_ble_eq_true rfl, Nat.le_of_ble_eq_true rfl⟩ rfl rfl rfl ?_
        refine vm_WM.seq 0 9 (pc' := 12) (L' := [.ref 48, .int a1, .int (nI 2)]) (S' := [.int (((nI 6) + ((nI 4) * a1)) + (nI 2)), .ref 52]) (M' := M) rfl ?_
        obtain ⟨j4, hj1, hj2, h⟩ := h
        refine vm_WM.ald (n := 70) (jj := j4) 9 rfl (Or.inl ⟨rfl, rfl⟩) (by decide) rfl hj1 hj2 ?_
        refine vm_WM.ret (r := some (.int (M 52 j4))) 10 rfl rfl rfl ?_
        show vm_WM X 138 93 [.ref 48, .int a1, .int a2] [.int (M 52 j4), .int a2] M _
        refine vm_WM.if (c := (M 52 j4) < a2) (t1 := 113) (t2 := 96) (S' := []) 40 rfl rfl rfl (fun hc => ?_) (fun hc => ?_)
        · replace h := h.1 hc
          refine vm_WM.seq 51 1 (pc' := 114) (L' := [.ref 48, .int a1, .int a2]) (S' := [.int (nI 0)]) (M' := M) rfl ?_
          exact vm_WM.ret (r := some (.int (nI 0))) 52 rfl rfl rfl ⟨_, rfl, h⟩
        · replace h := h.2 hc
          refine vm_WM.seq 41 3 (pc' := 101) (L' := [.ref 48, .int a1, .int a2]) (S' := [.int (nI 0), .ref 52]) (M' := M) rfl ?_
          refine vm_WM.ald (n := 70) (jj := 0) 44 rfl (Or.inl ⟨rfl, rfl⟩) (by decide) rfl rfl (by decide) ?_
          refine vm_WM.seq 45 3 (pc' := 106) (L' := [.ref 48, .int a1, .int a2]) (S' := [.int (nI 10), .int ((M 52 0) - a2)]) (M' := M) rfl ?_
          refine vm_WM.if (c := ((M 52 0) - a2) < (nI 10)) (t1 := 113) (t2 := 109) (S' := []) 48 rfl rfl rfl (fun hc => ?_) (fun hc => ?_)
          · replace h := h.1 hc
            refine vm_WM.seq 51 1 (pc' := 114) (L' := [.ref 48, .int a1, .int a2]) (S' := [.int (nI 0)]) (M' := M) rfl ?_
            exact vm_WM.ret (r := some (.int (nI 0))) 52 rfl rfl rfl ⟨_, rfl, h⟩
          · replace h := h.2 hc
            refine vm_WM.seq 49 2 (pc' := 114) (L' := [.ref 48, .int a1, .int a2]) (S' := [.int (nI 1)]) (M' := M) rfl ?_
            exact vm_WM.ret (r := some (.int (nI 1))) 52 rfl rfl rfl ⟨_, rfl, h⟩
      by_cases hq3 : (M 52 j1) = (nI 4)
      · replace h := h.2.2.2.1 hq3
        refine vm_WM.tsi (t := 127) (v := 4) 12 rfl hq3 (by decide) rfl ?_
        refine vm_WM.seq 61 1 (pc' := 128) (L' := [.ref 48, .int a1, .int a2]) (S' := [.int (nI 1)]) (M' := M) rfl ?_
        exact vm_WM.ret (r := some (.int (nI 1))) 62 rfl rfl rfl ⟨_, rfl, h⟩
      by_cases hq4 : (M 52 j1) = (nI 5)
      · replace h := h.2.2.2.2 hq4
        refine vm_WM.tsi (t := 115) (v := 5) 12 rfl hq4 (by decide) rfl ?_
        refine vm_WM.seq 53 3 (pc' := 118) (L' := [.ref 48, .int a1, .int a2]) (S' := [.int (a2 - a2 / (nI 2) * (nI 2))]) (M' := M) rfl ?_
        refine vm_WM.if (c := (a2 - a2 / (nI 2) * (nI 2)) = 0) (t1 := 121) (t2 := 125) (S' := []) 56 rfl rfl rfl (fun hc => ?_) (fun hc => ?_)
        · replace h := h.1 hc
          refine vm_WM.seq 57 2 (pc' := 126) (L' := [.ref 48, .int a1, .int a2]) (S' := [.int (nI 1)]) (M' := M) rfl ?_
          exact vm_WM.ret (r := some (.int (nI 1))) 60 rfl rfl rfl ⟨_, rfl, h⟩
        · replace h := h.2 hc
          refine vm_WM.seq 59 1 (pc' := 126) (L' := [.ref 48, .int a1, .int a2]) (S' := [.int (nI 0)]) (M' := M) rfl ?_
          exact vm_WM.ret (r := some (.int (nI 0))) 60 rfl rfl rfl ⟨_, rfl, h⟩
      exact absurd (vm_sw_no (lo := 1) (n := 5) (by decide) (fun q hq => by
        match q, hq with
        | 0, _ => exact hq0
        | 1, _ => exact hq1
        | 2, _ => exact hq2
        | 3, _ => exact hq3
        | 4, _ => exact hq4
        | q + 5, hq => omega)) hlo
  · replace h := h.2 hc
    refine vm_WM.seq 6 1 (pc' := 11) (L' := [.ref 48, .int a1, .int a2]) (S' := [.int (nI 0)]) (M' := M) rfl ?_
    exact vm_WM.ret (r := some (.int (nI 0))) 7 rfl rfl rfl ⟨_, rfl, h⟩
theorem v_M_thereIn {X : Nat × (Nat → Int32)} {a1 : Int32} {a2 : Int32} {a3 : Int32} {M : vm_M} {P : Int32 → vm_M → Prop} (h : C_M_thereIn_7 X a1 a2 a3 (Int32.ofInt (-1000000)) (nI 0) (.null) (.null) (.null) M P) : E_M_thereIn X a1 a2 a3 M P := by
  unfold E_M_thereIn
  refine vm_WM.seq 0 4 (pc' := 7) (L' := [.ref 48, .int a1, .int a2, .int a3, .int (Int32.ofInt (-1000000)), .int (nI 0), .null, .null, .null]) (S' := []) (M' := M) rfl ?_
  exact h
theorem v_M_thereIn_7 {X : Nat × (Nat → Int32)} {x1 : Int32} {x2 : Int32} {x3 : Int32} {x4 : Int32} {x5 : Int32} {w6 : Value} {w7 : Value} {w8 : Value} {M : vm_M} {P : Int32 → vm_M → Prop} (h : (x5 < (M 52 3) → (∃ j1 : Nat, ((nI 30) + ((nI 4) * x5)) = nI j1 ∧ j1 < 70 ∧ (((M 52 j1) = x1 → (∃ j2 : Nat, (((nI 30) + ((nI 4) * x5)) + (nI 1)) = nI j2 ∧ j2 < 70 ∧ (((M 52 j2) = x2 → (C_M_thereIn_80 X x1 x2 x3 x4 x5 ((nI 30) + ((nI 4) * x5)) (w7) (w8) (nI 1) M P)) ∧ (¬ ((M 52 j2) = x2) → (∃ j3 : Nat, ((nI 30) + ((nI 4) * x5)) = nI j3 ∧ j3 < 70 ∧ (((M 52 j3) = x2 → (∃ j4 : Nat, (((nI 30) + ((nI 4) * x5)) + (nI 1)) = nI j4 ∧ j4 < 70 ∧ (((M 52 j4) = x1 → (C_M_thereIn_80 X x1 x2 x3 x4 x5 ((nI 30) + ((nI 4) * x5)) (w7) (w8) (nI 1) M P)) ∧ (¬ ((M 52 j4) = x1) → (C_M_thereIn_80 X x1 x2 x3 x4 x5 ((nI 30) + ((nI 4) * x5)) (w7) (w8) (nI 0) M P))))) ∧ (¬ ((M 52 j3) = x2) → (C_M_thereIn_80 X x1 x2 x3 x4 x5 ((nI 30) + ((nI 4) * x5)) (w7) (w8) (nI 0) M P)))))))) ∧ (¬ ((M 52 j1) = x1) → (∃ j5 : Nat, ((nI 30) + ((nI 4) * x5)) = nI j5 ∧ j5 < 70 ∧ (((M 52 j5) = x2 → (∃ j6 : Nat, (((nI 30) + ((nI 4) * x5)) + (nI 1)) = nI j6 ∧ j6 < 70 ∧ (((M 52 j6) = x1 → (C_M_thereIn_80 X x1 x2 x3 x4 x5 ((nI 30) + ((nI 4) * x5)) (w7) (w8) (nI 1) M P)) ∧ (¬ ((M 52 j6) = x1) → (C_M_thereIn_80 X x1 x2 x3 x4 x5 ((nI 30) + ((nI 4) * x5)) (w7) (w8) (nI 0) M P))))) ∧ (¬ ((M 52 j5) = x2) → (C_M_thereIn_80 X x1 x2 x3 x4 x5 ((nI 30) + ((nI 4) * x5)) (w7) (w8) (nI 0) M P)))))))) ∧ (¬ (x5 < (M 52 3)) → ((x4 = (Int32.ofInt (-1000000)) → (P (Int32.ofInt (-1000000)) M)) ∧ (¬ (x4 = (Int32.ofInt (-1000000))) → (P (x3 + x4) M))))) : C_M_thereIn_7 X x1 x2 x3 x4 x5 w6 w7 w8 M P := by
  unfold C_M_thereIn_7
  refine vm_WM.seq 4 4 (pc' := 14) (L' := [.ref 48, .int x1, .int x2, .int x3, .int x4, .int x5, w6, w7, w8]) (S' := [.int (nI 3), .ref 52, .int x5]) (M' := M) rfl ?_
  refine vm_WM.ald (n := 70) (jj := 3) 8 rfl (Or.inl ⟨rfl, rfl⟩) (by decide) rfl rfl (by decide) ?_
  refine vm_WM.if (c := x5 < (M 52 3)) (t1 := 18) (t2 := 174) (S' := []) 9 rfl rfl rfl (fun hc => ?_) (fun hc => ?_)
  · replace h := h.1 hc
    refine vm_WM.seq 10 9 (pc' := 33) (L' := [.ref 48, .int x1, .int x2, .int x3, .int x4, .int x5, .int ((nI 30) + ((nI 4) * x5)), w7, w8]) (S' := [.int ((nI 30) + ((nI 4) * x5)), .ref 52]) (M' := M) rfl ?_
    obtain ⟨j1, hj1, hj2, h⟩ := h
    refine vm_WM.ald (n := 70) (jj := j1) 19 rfl (Or.inl ⟨rfl, rfl⟩) (by decide) rfl hj1 hj2 ?_
    refine vm_WM.seq 20 1 (pc' := 35) (L' := [.ref 48, .int x1, .int x2, .int x3, .int x4, .int x5, .int ((nI 30) + ((nI 4) * x5)), w7, w8]) (S' := [.int x1, .int (M 52 j1)]) (M' := M) rfl ?_
    refine vm_WM.if (c := (M 52 j1) = x1) (t1 := 38) (t2 := 51) (S' := []) 21 rfl rfl rfl (fun hc => ?_) (fun hc => ?_)
    · replace h := h.1 hc
      refine vm_WM.seq 22 5 (pc' := 46) (L' := [.ref 48, .int x1, .int x2, .int x3, .int x4, .int x5, .int ((nI 30) + ((nI 4) * x5)), w7, w8]) (S' := [.int (((nI 30) + ((nI 4) * x5)) + (nI 1)), .ref 52]) (M' := M) rfl ?_
      obtain ⟨j2, hj1, hj2, h⟩ := h
      refine vm_WM.ald (n := 70) (jj := j2) 27 rfl (Or.inl ⟨rfl, rfl⟩) (by decide) rfl hj1 hj2 ?_
      refine vm_WM.seq 28 1 (pc' := 48) (L' := [.ref 48, .int x1, .int x2, .int x3, .int x4, .int x5, .int ((nI 30) + ((nI 4) * x5)), w7, w8]) (S' := [.int x2, .int (M 52 j2)]) (M' := M) rfl ?_
      refine vm_WM.if (c := (M 52 j2) = x2) (t1 := 75) (t2 := 51) (S' := []) 29 rfl rfl rfl (fun hc => ?_) (fun hc => ?_)
      · replace h := h.1 hc
        refine vm_WM.seq 44 2 (pc' := 80) (L' := [.ref 48, .int x1, .int x2, .int x3, .int x4, .int x5, .int ((nI 30) + ((nI 4) * x5)), w7, w8]) (S' := [.int (nI 1)]) (M' := M) rfl ?_
        exact h
      · replace h := h.2 hc
        refine vm_WM.seq 30 3 (pc' := 57) (L' := [.ref 48, .int x1, .int x2, .int x3, .int x4, .int x5, .int ((nI 30) + ((nI 4) * x5)), w7, w8]) (S' := [.int ((nI 30) + ((nI 4) * x5)), .ref 52]) (M' := M) rfl ?_
        obtain ⟨j3, hj1, hj2, h⟩ := h
        refine vm_WM.ald (n := 70) (jj := j3) 33 rfl (Or.inl ⟨rfl, rfl⟩) (by decide) rfl hj1 hj2 ?_
        refine vm_WM.seq 34 1 (pc' := 59) (L' := [.ref 48, .int x1, .int x2, .int x3, .int x4, .int x5, .int ((nI 30) + ((nI 4) * x5)), w7, w8]) (S' := [.int x2, .int (M 52 j3)]) (M' := M) rfl ?_
        refine vm_WM.if (c := (M 52 j3) = x2) (t1 := 62) (t2 := 79) (S' := []) 35 rfl rfl rfl (fun hc => ?_) (fun hc => ?_)
        · replace h := h.1 hc
          refine vm_WM.seq 36 5 (pc' := 70) (L' := [.ref 48, .int x1, .int x2, .int x3, .int x4, .int x5, .int ((nI 30) + ((nI 4) * x5)), w7, w8]) (S' := [.int (((nI 30) + ((nI 4) * x5)) + (nI 1)), .ref 52]) (M' := M) rfl ?_
          obtain ⟨j4, hj1, hj2, h⟩ := h
          refine vm_WM.ald (n := 70) (jj := j4) 41 rfl (Or.inl ⟨rfl, rfl⟩) (by decide) rfl hj1 hj2 ?_
          refine vm_WM.seq 42 1 (pc' := 72) (L' := [.ref 48, .int x1, .int x2, .int x3, .int x4, .int x5, .int ((nI 30) + ((nI 4) * x5)), w7, w8]) (S' := [.int x1, .int (M 52 j4)]) (M' := M) rfl ?_
          refine vm_WM.if (c := (M 52 j4) = x1) (t1 := 75) (t2 := 79) (S' := []) 43 rfl rfl rfl (fun hc => ?_) (fun hc => ?_)
          · replace h := h.1 hc
            refine vm_WM.seq 44 2 (pc' := 80) (L' := [.ref 48, .int x1, .int x2, .int x3, .int x4, .int x5, .int ((nI 30) + ((nI 4) * x5)), w7, w8]) (S' := [.int (nI 1)]) (M' := M) rfl ?_
            exact h
          · replace h := h.2 hc
            refine vm_WM.seq 46 1 (pc' := 80) (L' := [.ref 48, .int x1, .int x2, .int x3, .int x4, .int x5, .int ((nI 30) + ((nI 4) * x5)), w7, w8]) (S' := [.int (nI 0)]) (M' := M) rfl ?_
            exact h
        · replace h := h.2 hc
          refine vm_WM.seq 46 1 (pc' := 80) (L' := [.ref 48, .int x1, .int x2, .int x3, .int x4, .int x5, .int ((nI 30) + ((nI 4) * x5)), w7, w8]) (S' := [.int (nI 0)]) (M' := M) rfl ?_
          exact h
    · replace h := h.2 hc
      refine vm_WM.seq 30 3 (pc' := 57) (L' := [.ref 48, .int x1, .int x2, .int x3, .int x4, .int x5, .int ((nI 30) + ((nI 4) * x5)), w7, w8]) (S' := [.int ((nI 30) + ((nI 4) * x5)), .ref 52]) (M' := M) rfl ?_
      obtain ⟨j5, hj1, hj2, h⟩ := h
      refine vm_WM.ald (n := 70) (jj := j5) 33 rfl (Or.inl ⟨rfl, rfl⟩) (by decide) rfl hj1 hj2 ?_
      refine vm_WM.seq 34 1 (pc' := 59) (L' := [.ref 48, .int x1, .int x2, .int x3, .int x4, .int x5, .int ((nI 30) + ((nI 4) * x5)), w7, w8]) (S' := [.int x2, .int (M 52 j5)]) (M' := M) rfl ?_
      refine vm_WM.if (c := (M 52 j5) = x2) (t1 := 62) (t2 := 79) (S' := []) 35 rfl rfl rfl (fun hc => ?_) (fun hc => ?_)
      · replace h := h.1 hc
        refine vm_WM.seq 36 5 (pc' := 70) (L' := [.ref 48, .int x1, .int x2, .int x3, .int x4, .int x5, .int ((nI 30) + ((nI 4) * x5)), w7, w8]) (S' := [.int (((nI 30) + ((nI 4) * x5)) + (nI 1)), .ref 52]) (M' := M) rfl ?_
        obtain ⟨j6, hj1, hj2, h⟩ := h
        refine vm_WM.ald (n := 70) (jj := j6) 41 rfl (Or.inl ⟨rfl, rfl⟩) (by decide) rfl hj1 hj2 ?_
        refine vm_WM.seq 42 1 (pc' := 72) (L' := [.ref 48, .int x1, .int x2, .int x3, .int x4, .int x5, .int ((nI 30) + ((nI 4) * x5)), w7, w8]) (S' := [.int x1, .int (M 52 j6)]) (M' := M) rfl ?_
        refine vm_WM.if (c := (M 52 j6) = x1) (t1 := 75) (t2 := 79) (S' := []) 43 rfl rfl rfl (fun hc => ?_) (fun hc => ?_)
        · replace h := h.1 hc
          refine vm_WM.seq 44 2 (pc' := 80) (L' := [.ref 48, .int x1, .int x2, .int x3, .int x4, .int x5, .int ((nI 30) + ((nI 4) * x5)), w7, w8]) (S' := [.int (nI 1)]) (M' := M) rfl ?_
          exact h
        · replace h := h.2 hc
          refine vm_WM.seq 46 1 (pc' := 80) (L' := [.ref 48, .int x1, .int x2, .int x3, .int x4, .int x5, .int ((nI 30) + ((nI 4) * x5)), w7, w8]) (S' := [.int (nI 0)]) (M' := M) rfl ?_
          exact h
      · replace h := h.2 hc
        refine vm_WM.seq 46 1 (pc' := 80) (L' := [.ref 48, .int x1, .int x2, .int x3, .int x4, .int x5, .int ((nI 30) + ((nI 4) * x5)), w7, w8]) (S' := [.int (nI 0)]) (M' := M) rfl ?_
        exact h
  · replace h := h.2 hc
    refine vm_WM.seq 98 2 (pc' := 178) (L' := [.ref 48, .int x1, .int x2, .int x3, .int x4, .int x5, w6, w7, w8]) (S' := [.int (Int32.ofInt (-1000000)), .int x4]) (M' := M) rfl ?_
    refine vm_WM.if (c := x4 = (Int32.ofInt (-1000000))) (t1 := 181) (t2 := 186) (S' := []) 100 rfl rfl rfl (fun hc => ?_) (fun hc => ?_)
    · replace h := h.1 hc
      refine vm_WM.seq 101 2 (pc' := 190) (L' := [.ref 48, .int x1, .int x2, .int x3, .int x4, .int x5, w6, w7, w8]) (S' := [.int (Int32.ofInt (-1000000))]) (M' := M) rfl ?_
      exact vm_WM.ret (r := some (.int (Int32.ofInt (-1000000)))) 106 rfl rfl rfl ⟨_, rfl, h⟩
    · replace h := h.2 hc
      refine vm_WM.seq 103 3 (pc' := 190) (L' := [.ref 48, .int x1, .int x2, .int x3, .int x4, .int x5, w6, w7, w8]) (S' := [.int (x3 + x4)]) (M' := M) rfl ?_
      exact vm_WM.ret (r := some (.int (x3 + x4))) 106 rfl rfl rfl ⟨_, rfl, h⟩
theorem v_M_thereIn_80 {X : Nat × (Nat → Int32)} {x1 : Int32} {x2 : Int32} {x3 : Int32} {x4 : Int32} {x5 : Int32} {x6 : Int32} {w7 : Value} {w8 : Value} {s0 : Int32} {M : vm_M} {P : Int32 → vm_M → Prop} (h : ∃ j1 : Nat, (x6 + (nI 3)) = nI j1 ∧ j1 < 70 ∧ (((M 52 j1) = 0 → (C_M_thereIn_119 X x1 x2 x3 x4 x5 x6 s0 (w8) (nI 1) M P)) ∧ (¬ ((M 52 j1) = 0) → (∃ j2 : Nat, (x6 + (nI 2)) = nI j2 ∧ j2 < 70 ∧ (((M 52 1) < (x3 + (M 52 j2)) → (C_M_thereIn_119 X x1 x2 x3 x4 x5 x6 s0 (w8) (nI 0) M P)) ∧ (¬ ((M 52 1) < (x3 + (M 52 j2))) → (C_M_thereIn_119 X x1 x2 x3 x4 x5 x6 s0 (w8) (nI 1) M P))))))) : C_M_thereIn_80 X x1 x2 x3 x4 x5 x6 w7 w8 s0 M P := by
  unfold C_M_thereIn_80
  refine vm_WM.seq 47 6 (pc' := 90) (L' := [.ref 48, .int x1, .int x2, .int x3, .int x4, .int x5, .int x6, .int s0, w8]) (S' := [.int (x6 + (nI 3)), .ref 52]) (M' := M) rfl ?_
  obtain ⟨j1, hj1, hj2, h⟩ := h
  refine vm_WM.ald (n := 70) (jj := j1) 53 rfl (Or.inl ⟨rfl, rfl⟩) (by decide) rfl hj1 hj2 ?_
  refine vm_WM.if (c := (M 52 j1) = 0) (t1 := 114) (t2 := 94) (S' := []) 54 rfl rfl rfl (fun hc => ?_) (fun hc => ?_)
  · replace h := h.1 hc
    refine vm_WM.seq 68 2 (pc' := 119) (L' := [.ref 48, .int x1, .int x2, .int x3, .int x4, .int x5, .int x6, .int s0, w8]) (S' := [.int (nI 1)]) (M' := M) rfl ?_
    exact h
  · replace h := h.2 hc
    refine vm_WM.seq 55 6 (pc' := 103) (L' := [.ref 48, .int x1, .int x2, .int x3, .int x4, .int x5, .int x6, .int s0, w8]) (S' := [.int (x6 + (nI 2)), .ref 52, .int x3]) (M' := M) rfl ?_
    obtain ⟨j2, hj1, hj2, h⟩ := h
    refine vm_WM.ald (n := 70) (jj := j2) 61 rfl (Or.inl ⟨rfl, rfl⟩) (by decide) rfl hj1 hj2 ?_
    refine vm_WM.seq 62 4 (pc' := 110) (L' := [.ref 48, .int x1, .int x2, .int x3, .int x4, .int x5, .int x6, .int s0, w8]) (S' := [.int (nI 1), .ref 52, .int (x3 + (M 52 j2))]) (M' := M) rfl ?_
    refine vm_WM.ald (n := 70) (jj := 1) 66 rfl (Or.inl ⟨rfl, rfl⟩) (by decide) rfl rfl (by decide) ?_
    refine vm_WM.if (c := (M 52 1) < (x3 + (M 52 j2))) (t1 := 118) (t2 := 114) (S' := []) 67 rfl rfl rfl (fun hc => ?_) (fun hc => ?_)
    · replace h := h.1 hc
      refine vm_WM.seq 70 1 (pc' := 119) (L' := [.ref 48, .int x1, .int x2, .int x3, .int x4, .int x5, .int x6, .int s0, w8]) (S' := [.int (nI 0)]) (M' := M) rfl ?_
      exact h
    · replace h := h.2 hc
      refine vm_WM.seq 68 2 (pc' := 119) (L' := [.ref 48, .int x1, .int x2, .int x3, .int x4, .int x5, .int x6, .int s0, w8]) (S' := [.int (nI 1)]) (M' := M) rfl ?_
      exact h
theorem v_M_thereIn_119 {X : Nat × (Nat → Int32)} {x1 : Int32} {x2 : Int32} {x3 : Int32} {x4 : Int32} {x5 : Int32} {x6 : Int32} {x7 : Int32} {w8 : Value} {s0 : Int32} {M : vm_M} {P : Int32 → vm_M → Prop} (h : (x7 = 0 → (C_M_thereIn_7 X x1 x2 x3 x4 (x5 + (nI 1)) (.int x6) (.int x7) (.int s0) M P)) ∧ (¬ (x7 = 0) → ((s0 = 0 → (C_M_thereIn_7 X x1 x2 x3 x4 (x5 + (nI 1)) (.int x6) (.int x7) (.int s0) M P)) ∧ (¬ (s0 = 0) → ((x4 = (Int32.ofInt (-1000000)) → (∃ j1 : Nat, (x6 + (nI 2)) = nI j1 ∧ j1 < 70 ∧ (C_M_thereIn_7 X x1 x2 x3 (M 52 j1) (x5 + (nI 1)) (.int x6) (.int x7) (.int s0) M P))) ∧ (¬ (x4 = (Int32.ofInt (-1000000))) → (∃ j2 : Nat, (x6 + (nI 2)) = nI j2 ∧ j2 < 70 ∧ (((M 52 j2) < x4 → (∃ j3 : Nat, (x6 + (nI 2)) = nI j3 ∧ j3 < 70 ∧ (C_M_thereIn_7 X x1 x2 x3 (M 52 j3) (x5 + (nI 1)) (.int x6) (.int x7) (.int s0) M P))) ∧ (¬ ((M 52 j2) < x4) → (C_M_thereIn_7 X x1 x2 x3 x4 (x5 + (nI 1)) (.int x6) (.int x7) (.int s0) M P)))))))))) : C_M_thereIn_119 X x1 x2 x3 x4 x5 x6 x7 w8 s0 M P := by
  unfold C_M_thereIn_119
  refine vm_WM.seq 71 2 (pc' := 123) (L' := [.ref 48, .int x1, .int x2, .int x3, .int x4, .int x5, .int x6, .int x7, .int s0]) (S' := [.int x7]) (M' := M) rfl ?_
  refine vm_WM.if (c := x7 = 0) (t1 := 164) (t2 := 126) (S' := []) 73 rfl rfl rfl (fun hc => ?_) (fun hc => ?_)
  · replace h := h.1 hc
    refine vm_WM.seq 94 4 (pc' := 7) (L' := [.ref 48, .int x1, .int x2, .int x3, .int x4, .int (x5 + (nI 1)), .int x6, .int x7, .int s0]) (S' := []) (M' := M) rfl ?_
    exact h
  · replace h := h.2 hc
    refine vm_WM.seq 74 1 (pc' := 128) (L' := [.ref 48, .int x1, .int x2, .int x3, .int x4, .int x5, .int x6, .int x7, .int s0]) (S' := [.int s0]) (M' := M) rfl ?_
    refine vm_WM.if (c := s0 = 0) (t1 := 164) (t2 := 131) (S' := []) 75 rfl rfl rfl (fun hc => ?_) (fun hc => ?_)
    · replace h := h.1 hc
      refine vm_WM.seq 94 4 (pc' := 7) (L' := [.ref 48, .int x1, .int x2, .int x3, .int x4, .int (x5 + (nI 1)), .int x6, .int x7, .int s0]) (S' := []) (M' := M) rfl ?_
      exact h
    · replace h := h.2 hc
      refine vm_WM.seq 76 2 (pc' := 135) (L' := [.ref 48, .int x1, .int x2, .int x3, .int x4, .int x5, .int x6, .int x7, .int s0]) (S' := [.int (Int32.ofInt (-1000000)), .int x4]) (M' := M) rfl ?_
      refine vm_WM.if (c := x4 = (Int32.ofInt (-1000000))) (t1 := 152) (t2 := 138) (S' := []) 78 rfl rfl rfl (fun hc => ?_) (fun hc => ?_)
      · replace h := h.1 hc
        refine vm_WM.seq 87 5 (pc' := 160) (L' := [.ref 48, .int x1, .int x2, .int x3, .int x4, .int x5, .int x6, .int x7, .int s0]) (S' := [.int (x6 + (nI 2)), .ref 52]) (M' := M) rfl ?_
        obtain ⟨j1, hj1, hj2, h⟩ := h
        refine vm_WM.ald (n := 70) (jj := j1) 92 rfl (Or.inl ⟨rfl, rfl⟩) (by decide) rfl hj1 hj2 ?_
        refine vm_WM.seq 93 1 (pc' := 166) (L' := [.ref 48, .int x1, .int x2, .int x3, .int x4, .int x5, .int x6, .int x7, .int s0]) (S' := [.int (M 52 j1)]) (M' := M) rfl ?_
        refine vm_WM.seq 95 3 (pc' := 7) (L' := [.ref 48, .int x1, .int x2, .int x3, .int (M 52 j1), .int (x5 + (nI 1)), .int x6, .int x7, .int s0]) (S' := []) (M' := M) rfl ?_
        exact h
      · replace h := h.2 hc
        refine vm_WM.seq 79 5 (pc' := 146) (L' := [.ref 48, .int x1, .int x2, .int x3, .int x4, .int x5, .int x6, .int x7, .int s0]) (S' := [.int (x6 + (nI 2)), .ref 52]) (M' := M) rfl ?_
        obtain ⟨j2, hj1, hj2, h⟩ := h
        refine vm_WM.ald (n := 70) (jj := j2) 84 rfl (Or.inl ⟨rfl, rfl⟩) (by decide) rfl hj1 hj2 ?_
        refine vm_WM.seq 85 1 (pc' := 149) (L' := [.ref 48, .int x1, .int x2, .int x3, .int x4, .int x5, .int x6, .int x7, .int s0]) (S' := [.int x4, .int (M 52 j2)]) (M' := M) rfl ?_
        refine vm_WM.if (c := (M 52 j2) < x4) (t1 := 152) (t2 := 164) (S' := []) 86 rfl rfl rfl (fun hc => ?_) (fun hc => ?_)
        · replace h := h.1 hc
          refine vm_WM.seq 87 5 (pc' := 160) (L' := [.ref 48, .int x1, .int x2, .int x3, .int x4, .int x5, .int x6, .int x7, .int s0]) (S' := [.int (x6 + (nI 2)), .ref 52]) (M' := M) rfl ?_
          obtain ⟨j3, hj1, hj2, h⟩ := h
          refine vm_WM.ald (n := 70) (jj := j3) 92 rfl (Or.inl ⟨rfl, rfl⟩) (by decide) rfl hj1 hj2 ?_
          refine vm_WM.seq 93 1 (pc' := 166) (L' := [.ref 48, .int x1, .int x2, .int x3, .int x4, .int x5, .int x6, .int x7, .int s0]) (S' := [.int (M 52 j3)]) (M' := M) rfl ?_
          refine vm_WM.seq 95 3 (pc' := 7) (L' := [.ref 48, .int x1, .int x2, .int x3, .int (M 52 j3), .int (x5 + (nI 1)), .int x6, .int x7, .int s0]) (S' := []) (M' := M) rfl ?_
          exact h
        · replace h := h.2 hc
          refine vm_WM.seq 94 4 (pc' := 7) (L' := [.ref 48, .int x1, .int x2, .int x3, .int x4, .int (x5 + (nI 1)), .int x6, .int x7, .int s0]) (S' := []) (M' := M) rfl ?_
          exact h
theorem v_M_lastOne {X : Nat × (Nat → Int32)}  {M : vm_M} {P : Int32 → vm_M → Prop} (h : C_M_lastOne_19 X (M 52 5) (M 52 5) (.null) (.null) (vm_u2 M 48 22 (M 52 4)) P) : E_M_lastOne X  M P := by
  unfold E_M_lastOne
  refine vm_WM.seq 0 3 (pc' := 5) (L' := [.ref 48, .null, .null, .null, .null]) (S' := [.int (nI 5), .ref 52]) (M' := M) rfl ?_
  refine vm_WM.ald (n := 70) (jj := 5) 3 rfl (Or.inl ⟨rfl, rfl⟩) (by decide) rfl rfl (by decide) ?_
  refine vm_WM.seq 4 5 (pc' := 13) (L' := [.ref 48, .int (M 52 5), .null, .null, .null]) (S' := [.int (nI 4), .ref 52, .ref 48]) (M' := M) rfl ?_
  refine vm_WM.ald (n := 70) (jj := 4) 9 rfl (Or.inl ⟨rfl, rfl⟩) (by decide) rfl rfl (by decide) ?_
  refine vm_WM.seq 10 3 (pc' := 19) (L' := [.ref 48, .int (M 52 5), .int (M 52 5), .null, .null]) (S' := []) (M' := (vm_u2 M 48 22 (M 52 4))) rfl ?_
  exact h
theorem v_M_lastOne_19 {X : Nat × (Nat → Int32)} {x1 : Int32} {x2 : Int32} {w3 : Value} {w4 : Value} {M : vm_M} {P : Int32 → vm_M → Prop} (h : (x2 = (Int32.ofInt (-1000000)) → (P x1 M)) ∧ (¬ (x2 = (Int32.ofInt (-1000000))) → (C_M_lastOne_30 X x1 (Int32.ofInt (-1000000)) (nI 0) (w4) M P))) : C_M_lastOne_19 X x1 x2 w3 w4 M P := by
  unfold C_M_lastOne_19
  refine vm_WM.seq 13 2 (pc' := 22) (L' := [.ref 48, .int x1, .int x2, w3, w4]) (S' := [.int (Int32.ofInt (-1000000)), .int x2]) (M' := M) rfl ?_
  refine vm_WM.if (c := x2 = (Int32.ofInt (-1000000))) (t1 := 123) (t2 := 25) (S' := []) 15 rfl rfl rfl (fun hc => ?_) (fun hc => ?_)
  · replace h := h.1 hc
    refine vm_WM.seq 70 1 (pc' := 124) (L' := [.ref 48, .int x1, .int x2, w3, w4]) (S' := [.int x1]) (M' := M) rfl ?_
    exact vm_WM.ret (r := some (.int x1)) 71 rfl rfl rfl ⟨_, rfl, h⟩
  · replace h := h.2 hc
    refine vm_WM.seq 16 4 (pc' := 30) (L' := [.ref 48, .int x1, .int (Int32.ofInt (-1000000)), .int (nI 0), w4]) (S' := []) (M' := M) rfl ?_
    exact h
theorem v_M_lastOne_30 {X : Nat × (Nat → Int32)} {x1 : Int32} {x2 : Int32} {x3 : Int32} {w4 : Value} {M : vm_M} {P : Int32 → vm_M → Prop} (h : (x3 < (M 52 2) → (E_M_passedIn X x1 x3 (M 48 22) M (fun v1 M2 => (v1 = (Int32.ofInt (-1000000)) → (C_M_lastOne_30 X x1 x2 (x3 + (nI 1)) (.int (nI 0)) M2 P)) ∧ (¬ (v1 = (Int32.ofInt (-1000000))) → ((x2 = (Int32.ofInt (-1000000)) → (C_M_lastOne_30 X x1 x3 (x3 + (nI 1)) (.int (nI 1)) M2 P)) ∧ (¬ (x2 = (Int32.ofInt (-1000000))) → (E_M_priceOf X x3 M2 (fun v3 M4 => E_M_priceOf X x2 M4 (fun v5 M6 => (v5 < v3 → (C_M_lastOne_30 X x1 x3 (x3 + (nI 1)) (.int (nI 1)) M6 P)) ∧ (¬ (v5 < v3) → (C_M_lastOne_30 X x1 x2 (x3 + (nI 1)) (.int (nI 1)) M6 P))))))))))) ∧ (¬ (x3 < (M 52 2)) → ((x2 = (Int32.ofInt (-1000000)) → (C_M_lastOne_19 X x1 x2 (.int x3) (w4) M P)) ∧ (¬ (x2 = (Int32.ofInt (-1000000))) → (E_M_passedIn X x1 x2 (M 48 22) M (fun v7 M8 => C_M_lastOne_19 X x2 x2 (.int x3) (w4) (vm_u2 M8 48 22 v7) P)))))) : C_M_lastOne_30 X x1 x2 x3 w4 M P := by
  unfold C_M_lastOne_30
  refine vm_WM.seq 20 4 (pc' := 36) (L' := [.ref 48, .int x1, .int x2, .int x3, w4]) (S' := [.int (nI 2), .ref 52, .int x3]) (M' := M) rfl ?_
  refine vm_WM.ald (n := 70) (jj := 2) 24 rfl (Or.inl ⟨rfl, rfl⟩) (by decide) rfl rfl (by decide) ?_
  refine vm_WM.if (c := x3 < (M 52 2)) (t1 := 40) (t2 := 98) (S' := []) 25 rfl rfl rfl (fun hc => ?_) (fun hc => ?_)
  · replace h := h.1 hc
    refine vm_WM.seq 26 5 (pc' := 47) (L' := [.ref 48, .int x1, .int x2, .int x3, w4]) (S' := [.int (M 48 22), .int x3, .int x1, .ref 48]) (M' := M) rfl ?_
    refine vm_WM.call (a := 140) (as := [.ref 48, .int x1, .int x3, .int (M 48 22)]) (rest := []) (L0 := [.ref 48, .int x1, .int x3, .int (M 48 22), .null]) 31 rfl rfl (by decide) rfl rfl ⟨rfl, Or.inr rfl, Nat.le_of_ble_eq_true rfl, Nat.le_of_ble_eq_true rfl⟩ rfl rfl rfl ?_
    refine vm_WM.theni h (fun v1 M2 h => ?_)
    show vm_WM X 152 50 [.ref 48, .int x1, .int x2, .int x3, w4] [.int v1] M2 _
    refine vm_WM.seq 32 1 (pc' := 52) (L' := [.ref 48, .int x1, .int x2, .int x3, w4]) (S' := [.int (Int32.ofInt (-1000000)), .int v1]) (M' := M2) rfl ?_
    refine vm_WM.if (c := v1 = (Int32.ofInt (-1000000))) (t1 := 59) (t2 := 55) (S' := []) 33 rfl rfl rfl (fun hc => ?_) (fun hc => ?_)
    · replace h := h.1 hc
      refine vm_WM.seq 36 4 (pc' := 90) (L' := [.ref 48, .int x1, .int x2, .int x3, .int (nI 0)]) (S' := []) (M' := M2) rfl ?_
      refine vm_WM.seq 52 4 (pc' := 30) (L' := [.ref 48, .int x1, .int x2, .int (x3 + (nI 1)), .int (nI 0)]) (S' := []) (M' := M2) rfl ?_
      exact h
    · replace h := h.2 hc
      refine vm_WM.seq 34 2 (pc' := 60) (L' := [.ref 48, .int x1, .int x2, .int x3, w4]) (S' := [.int (nI 1)]) (M' := M2) rfl ?_
      refine vm_WM.seq 37 5 (pc' := 70) (L' := [.ref 48, .int x1, .int x2, .int x3, .int (nI 1)]) (S' := [.int (Int32.ofInt (-1000000)), .int x2]) (M' := M2) rfl ?_
      refine vm_WM.if (c := x2 = (Int32.ofInt (-1000000))) (t1 := 86) (t2 := 73) (S' := []) 42 rfl rfl rfl (fun hc => ?_) (fun hc => ?_)
      · replace h := h.1 hc
        refine vm_WM.seq 50 2 (pc' := 91) (L' := [.ref 48, .int x1, .int x2, .int x3, .int (nI 1)]) (S' := [.int x3]) (M' := M2) rfl ?_
        refine vm_WM.seq 53 3 (pc' := 30) (L' := [.ref 48, .int x1, .int x3, .int (x3 + (nI 1)), .int (nI 1)]) (S' := []) (M' := M2) rfl ?_
        exact h
      · replace h := h.2 hc
        refine vm_WM.seq 43 2 (pc' := 75) (L' := [.ref 48, .int x1, .int x2, .int x3, .int (nI 1)]) (S' := [.int x3, .ref 48]) (M' := M2) rfl ?_
        refine vm_WM.call (a := 137) (as := [.ref 48, .int x3]) (rest := []) (L0 := [.ref 48, .int x3]) 45 rfl rfl (by decide) rfl rfl ⟨rfl, Or.inr rfl, Nat.le_of_ble_eq_true rfl, Nat.le_of_ble_eq_true rfl⟩ rfl rfl rfl ?_
        refine vm_WM.theni h (fun v3 M4 h => ?_)
        show vm_WM X 152 78 [.ref 48, .int x1, .int x2, .int x3, .int (nI 1)] [.int v3] M4 _
        refine vm_WM.seq 46 2 (pc' := 80) (L' := [.ref 48, .int x1, .int x2, .int x3, .int (nI 1)]) (S' := [.int x2, .ref 48, .int v3]) (M' := M4) rfl ?_
        refine vm_WM.call (a := 137) (as := [.ref 48, .int x2]) (rest := [.int v3]) (L0 := [.ref 48, .int x2]) 48 rfl rfl (by decide) rfl rfl ⟨rfl, Or.inr rfl, Nat.le_of_ble_eq_true rfl, Nat.le_of_ble_eq_true rfl⟩ rfl rfl rfl ?_
        refine vm_WM.theni h (fun v5 M6 h => ?_)
        show vm_WM X 152 83 [.ref 48, .int x1, .int x2, .int x3, .int (nI 1)] [.int v5, .int v3] M6 _
        refine vm_WM.if (c := v5 < v3) (t1 := 86) (t2 := 90) (S' := []) 49 rfl rfl rfl (fun hc => ?_) (fun hc => ?_)
        · replace h := h.1 hc
          refine vm_WM.seq 50 2 (pc' := 91) (L' := [.ref 48, .int x1, .int x2, .int x3, .int (nI 1)]) (S' := [.int x3]) (M' := M6) rfl ?_
          refine vm_WM.seq 53 3 (pc' := 30) (L' := [.ref 48, .int x1, .int x3, .int (x3 + (nI 1)), .int (nI 1)]) (S' := []) (M' := M6) rfl ?_
          exact h
        · replace h := h.2 hc
          refine vm_WM.seq 52 4 (pc' := 30) (L' := [.ref 48, .int x1, .int x2, .int (x3 + (nI 1)), .int (nI 1)]) (S' := []) (M' := M6) rfl ?_
          exact h
  · replace h := h.2 hc
    refine vm_WM.seq 56 2 (pc' := 101) (L' := [.ref 48, .int x1, .int x2, .int x3, w4]) (S' := [.int (Int32.ofInt (-1000000)), .int x2]) (M' := M) rfl ?_
    refine vm_WM.if (c := x2 = (Int32.ofInt (-1000000))) (t1 := 19) (t2 := 104) (S' := []) 58 rfl rfl rfl (fun hc => ?_) (fun hc => ?_)
    · replace h := h.1 hc
      exact h
    · replace h := h.2 hc
      refine vm_WM.seq 59 6 (pc' := 112) (L' := [.ref 48, .int x1, .int x2, .int x3, w4]) (S' := [.int (M 48 22), .int x2, .int x1, .ref 48, .ref 48]) (M' := M) rfl ?_
      refine vm_WM.call (a := 140) (as := [.ref 48, .int x1, .int x2, .int (M 48 22)]) (rest := [.ref 48]) (L0 := [.ref 48, .int x1, .int x2, .int (M 48 22), .null]) 65 rfl rfl (by decide) rfl rfl ⟨rfl, Or.inr rfl, Nat.le_of_ble_eq_true rfl, Nat.le_of_ble_eq_true rfl⟩ rfl rfl rfl ?_
      refine vm_WM.theni h (fun v7 M8 h => ?_)
      show vm_WM X 152 115 [.ref 48, .int x1, .int x2, .int x3, w4] [.int v7, .ref 48] M8 _
      refine vm_WM.seq 66 4 (pc' := 19) (L' := [.ref 48, .int x2, .int x2, .int x3, w4]) (S' := []) (M' := (vm_u2 M8 48 22 v7)) rfl ?_
      exact h
