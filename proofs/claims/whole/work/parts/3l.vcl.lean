/-! walks, by wip/whole/vcgen.py -/
theorem v_Asks_priestMark {X : Nat × (Nat → Int32)} {a1 : Int32} {M : vm_M} {P : Int32 → vm_M → Prop} (h : E_Asks_enter X (nI 23) M (fun M1 => E_Asks_enter X (nI 20) M1 (fun M2 => E_Asks_priestSize X a1 M2 (fun v3 M4 => P (a1 - v3) M4)))) : E_Asks_priestMark X a1 M P := by
  unfold E_Asks_priestMark
  refine vm_WM.seq 0 2 (pc' := 3) (L' := [.ref 46, .int a1]) (S' := [.int (nI 23), .ref 46]) (M' := M) rfl ?_
  refine vm_WM.call (a := 10) (as := [.ref 46, .int (nI 23)]) (rest := []) (L0 := [.ref 46, .int (nI 23)]) 2 rfl rfl (by decide) rfl rfl ⟨rfl, Or.inr rfl, Nat.le_of_ble_eq_true rfl, Nat.le_of_ble_eq_true rfl⟩ rfl rfl rfl ?_
  refine vm_WM.thenv h (fun M1 h => ?_)
  show vm_WM X 16 6 [.ref 46, .int a1] [] M1 _
  refine vm_WM.seq 3 2 (pc' := 9) (L' := [.ref 46, .int a1]) (S' := [.int (nI 20), .ref 46]) (M' := M1) rfl ?_
  refine vm_WM.call (a := 10) (as := [.ref 46, .int (nI 20)]) (rest := []) (L0 := [.ref 46, .int (nI 20)]) 5 rfl rfl (by decide) rfl rfl ⟨rfl, Or.inr rfl, Nat.le_of_ble_eq_true rfl, Nat.le_of_ble_eq_true rfl⟩ rfl rfl rfl ?_
  refine vm_WM.thenv h (fun M2 h => ?_)
  show vm_WM X 16 12 [.ref 46, .int a1] [] M2 _
  refine vm_WM.seq 6 3 (pc' := 15) (L' := [.ref 46, .int a1]) (S' := [.int a1, .ref 46, .int a1]) (M' := M2) rfl ?_
  refine vm_WM.call (a := 15) (as := [.ref 46, .int a1]) (rest := [.int a1]) (L0 := [.ref 46, .int a1, .null, .null]) 9 rfl rfl (by decide) rfl rfl ⟨rfl, Or.inr rfl, Nat.le_of_ble_eq_true rfl, Nat.le_of_ble_eq_true rfl⟩ rfl rfl rfl ?_
  refine vm_WM.theni h (fun v3 M4 h => ?_)
  show vm_WM X 16 18 [.ref 46, .int a1] [.int v3, .int a1] M4 _
  refine vm_WM.seq 10 1 (pc' := 19) (L' := [.ref 46, .int a1]) (S' := [.int (a1 - v3)]) (M' := M4) rfl ?_
  exact vm_WM.ret (r := some (.int (a1 - v3))) 11 rfl rfl rfl ⟨_, rfl, h⟩
theorem v_Asks_bakerMark {X : Nat × (Nat → Int32)} {a1 : Int32} {M : vm_M} {P : Int32 → vm_M → Prop} (h : ∃ j1 : Nat, a1 = nI j1 ∧ j1 < 6 ∧ (((M 8 j1) = (nI 2) → (∃ j2 : Nat, a1 = nI j2 ∧ j2 < 6 ∧ (((M 8 j2) = (nI 3) → (E_Asks_enter X (nI 24) M (fun M3 => E_Asks_enter X (nI 21) M3 (fun M4 => E_Asks_enter X (nI 20) M4 (fun M5 => ∃ j6 : Nat, a1 = nI j6 ∧ j6 < 6 ∧ (P ((nI 2) * (a1 + (M5 11 j6))) M5)))))) ∧ (¬ ((M 8 j2) = (nI 3)) → (E_Asks_enter X (nI 24) M (fun M7 => E_Asks_enter X (nI 21) M7 (fun M8 => E_Asks_enter X (nI 20) M8 (fun M9 => ∃ j10 : Nat, a1 = nI j10 ∧ j10 < 6 ∧ (P ((nI 2) * (a1 + (M9 11 j10))) M9))))))))) ∧ (¬ ((M 8 j1) = (nI 2)) → (∃ j11 : Nat, a1 = nI j11 ∧ j11 < 6 ∧ (((M 8 j11) = (nI 3) → (E_Asks_enter X (nI 22) M (fun M12 => E_Asks_enter X (nI 21) M12 (fun M13 => E_Asks_enter X (nI 20) M13 (fun M14 => ∃ j15 : Nat, a1 = nI j15 ∧ j15 < 6 ∧ (P ((a1 + (M14 11 j15)) - (nI 1000)) M14)))))) ∧ (¬ ((M 8 j11) = (nI 3)) → (E_Asks_enter X (nI 21) M (fun M16 => E_Asks_enter X (nI 20) M16 (fun M17 => ∃ j18 : Nat, a1 = nI j18 ∧ j18 < 6 ∧ (P (a1 + (M17 11 j18)) M17)))))))))) : E_Asks_bakerMark X a1 M P := by
  unfold E_Asks_bakerMark
  refine vm_WM.seq 0 4 (pc' := 8) (L' := [.ref 46, .int a1, .null, .null, .null]) (S' := [.int a1, .ref 8]) (M' := M) rfl ?_
  obtain ⟨j1, hj1, hj2, h⟩ := h
  refine vm_WM.ald (n := 6) (jj := j1) 4 rfl (Or.inl ⟨rfl, rfl⟩) (by decide) rfl hj1 hj2 ?_
  refine vm_WM.seq 5 1 (pc' := 10) (L' := [.ref 46, .int a1, .null, .null, .null]) (S' := [.int (nI 2), .int (M 8 j1)]) (M' := M) rfl ?_
  refine vm_WM.if (c := (M 8 j1) = (nI 2)) (t1 := 13) (t2 := 17) (S' := []) 6 rfl rfl rfl (fun hc => ?_) (fun hc => ?_)
  · replace h := h.1 hc
    refine vm_WM.seq 7 2 (pc' := 18) (L' := [.ref 46, .int a1, .null, .null, .null]) (S' := [.int (nI 1)]) (M' := M) rfl ?_
    refine vm_WM.seq 10 5 (pc' := 27) (L' := [.ref 46, .int a1, .int (nI 1), .null, .null]) (S' := [.int a1, .ref 8]) (M' := M) rfl ?_
    obtain ⟨j2, hj1, hj2, h⟩ := h
    refine vm_WM.ald (n := 6) (jj := j2) 15 rfl (Or.inl ⟨rfl, rfl⟩) (by decide) rfl hj1 hj2 ?_
    refine vm_WM.seq 16 1 (pc' := 29) (L' := [.ref 46, .int a1, .int (nI 1), .null, .null]) (S' := [.int (nI 3), .int (M 8 j2)]) (M' := M) rfl ?_
    refine vm_WM.if (c := (M 8 j2) = (nI 3)) (t1 := 32) (t2 := 36) (S' := []) 17 rfl rfl rfl (fun hc => ?_) (fun hc => ?_)
    · replace h := h.1 hc
      refine vm_WM.seq 18 2 (pc' := 37) (L' := [.ref 46, .int a1, .int (nI 1), .null, .null]) (S' := [.int (nI 1)]) (M' := M) rfl ?_
      refine vm_WM.seq 21 3 (pc' := 46) (L' := [.ref 46, .int a1, .int (nI 1), .int (nI 1), .null]) (S' := []) (M' := M) rfl ?_
      refine vm_WM.seq 26 5 (pc' := 58) (L' := [.ref 46, .int a1, .int (nI 1), .int (nI 1), .null]) (S' := [.int (nI 24), .ref 46]) (M' := M) rfl ?_
      refine vm_WM.call (a := 10) (as := [.ref 46, .int (nI 24)]) (rest := []) (L0 := [.ref 46, .int (nI 24)]) 32 rfl rfl (by decide) rfl rfl ⟨rfl, Or.inr rfl, Nat.le_of_ble_eq_true rfl, Nat.le_of_ble_eq_true rfl⟩ rfl rfl rfl ?_
      refine vm_WM.thenv h (fun M3 h => ?_)
      show vm_WM X 14 61 [.ref 46, .int a1, .int (nI 1), .int (nI 1), .null] [] M3 _
      refine vm_WM.seq 33 2 (pc' := 64) (L' := [.ref 46, .int a1, .int (nI 1), .int (nI 1), .null]) (S' := [.int (nI 21), .ref 46]) (M' := M3) rfl ?_
      refine vm_WM.call (a := 10) (as := [.ref 46, .int (nI 21)]) (rest := []) (L0 := [.ref 46, .int (nI 21)]) 35 rfl rfl (by decide) rfl rfl ⟨rfl, Or.inr rfl, Nat.le_of_ble_eq_true rfl, Nat.le_of_ble_eq_true rfl⟩ rfl rfl rfl ?_
      refine vm_WM.thenv h (fun M4 h => ?_)
      show vm_WM X 14 67 [.ref 46, .int a1, .int (nI 1), .int (nI 1), .null] [] M4 _
      refine vm_WM.seq 36 2 (pc' := 70) (L' := [.ref 46, .int a1, .int (nI 1), .int (nI 1), .null]) (S' := [.int (nI 20), .ref 46]) (M' := M4) rfl ?_
      refine vm_WM.call (a := 10) (as := [.ref 46, .int (nI 20)]) (rest := []) (L0 := [.ref 46, .int (nI 20)]) 38 rfl rfl (by decide) rfl rfl ⟨rfl, Or.inr rfl, Nat.le_of_ble_eq_true rfl, Nat.le_of_ble_eq_true rfl⟩ rfl rfl rfl ?_
      refine vm_WM.thenv h (fun M5 h => ?_)
      show vm_WM X 14 73 [.ref 46, .int a1, .int (nI 1), .int (nI 1), .null] [] M5 _
      refine vm_WM.seq 39 5 (pc' := 82) (L' := [.ref 46, .int a1, .int (nI 1), .int (nI 1), .null]) (S' := [.int a1, .ref 11, .int a1]) (M' := M5) rfl ?_
      obtain ⟨j6, hj1, hj2, h⟩ := h
      refine vm_WM.ald (n := 6) (jj := j6) 44 rfl (Or.inl ⟨rfl, rfl⟩) (by decide) rfl hj1 hj2 ?_
      refine vm_WM.seq 45 8 (pc' := 112) (L' := [.ref 46, .int a1, .int (nI 1), .int (nI 1), .int (a1 + (M5 11 j6))]) (S' := [.int ((nI 2) * (a1 + (M5 11 j6)))]) (M' := M5) rfl ?_
      exact vm_WM.ret (r := some (.int ((nI 2) * (a1 + (M5 11 j6))))) 60 rfl rfl rfl ⟨_, rfl, h⟩
    · replace h := h.2 hc
      refine vm_WM.seq 20 4 (pc' := 46) (L' := [.ref 46, .int a1, .int (nI 1), .int (nI 0), .null]) (S' := []) (M' := M) rfl ?_
      refine vm_WM.seq 26 5 (pc' := 58) (L' := [.ref 46, .int a1, .int (nI 1), .int (nI 0), .null]) (S' := [.int (nI 24), .ref 46]) (M' := M) rfl ?_
      refine vm_WM.call (a := 10) (as := [.ref 46, .int (nI 24)]) (rest := []) (L0 := [.ref 46, .int (nI 24)]) 32 rfl rfl (by decide) rfl rfl ⟨rfl, Or.inr rfl, Nat.le_of_ble_eq_true rfl, Nat.le_of_ble_eq_true rfl⟩ rfl rfl rfl ?_
      refine vm_WM.thenv h (fun M7 h => ?_)
      show vm_WM X 14 61 [.ref 46, .int a1, .int (nI 1), .int (nI 0), .null] [] M7 _
      refine vm_WM.seq 33 2 (pc' := 64) (L' := [.ref 46, .int a1, .int (nI 1), .int (nI 0), .null]) (S' := [.int (nI 21), .ref 46]) (M' := M7) rfl ?_
      refine vm_WM.call (a := 10) (as := [.ref 46, .int (nI 21)]) (rest := []) (L0 := [.ref 46, .int (nI 21)]) 35 rfl rfl (by decide) rfl rfl ⟨rfl, Or.inr rfl, Nat.le_of_ble_eq_true rfl, Nat.le_of_ble_eq_true rfl⟩ rfl rfl rfl ?_
      refine vm_WM.thenv h (fun M8 h => ?_)
      show vm_WM X 14 67 [.ref 46, .int a1, .int (nI 1), .int (nI 0), .null] [] M8 _
      refine vm_WM.seq 36 2 (pc' := 70) (L' := [.ref 46, .int a1, .int (nI 1), .int (nI 0), .null]) (S' := [.int (nI 20), .ref 46]) (M' := M8) rfl ?_
      refine vm_WM.call (a := 10) (as := [.ref 46, .int (nI 20)]) (rest := []) (L0 := [.ref 46, .int (nI 20)]) 38 rfl rfl (by decide) rfl rfl ⟨rfl, Or.inr rfl, Nat.le_of_ble_eq_true rfl, Nat.le_of_ble_eq_true rfl⟩ rfl rfl rfl ?_
      refine vm_WM.thenv h (fun M9 h => ?_)
      show vm_WM X 14 73 [.ref 46, .int a1, .int (nI 1), .int (nI 0), .null] [] M9 _
      refine vm_WM.seq 39 5 (pc' := 82) (L' := [.ref 46, .int a1, .int (nI 1), .int (nI 0), .null]) (S' := [.int a1, .ref 11, .int a1]) (M' := M9) rfl ?_
      obtain ⟨j10, hj1, hj2, h⟩ := h
      refine vm_WM.ald (n := 6) (jj := j10) 44 rfl (Or.inl ⟨rfl, rfl⟩) (by decide) rfl hj1 hj2 ?_
      refine vm_WM.seq 45 8 (pc' := 112) (L' := [.ref 46, .int a1, .int (nI 1), .int (nI 0), .int (a1 + (M9 11 j10))]) (S' := [.int ((nI 2) * (a1 + (M9 11 j10)))]) (M' := M9) rfl ?_
      exact vm_WM.ret (r := some (.int ((nI 2) * (a1 + (M9 11 j10))))) 60 rfl rfl rfl ⟨_, rfl, h⟩
  · replace h := h.2 hc
    refine vm_WM.seq 9 6 (pc' := 27) (L' := [.ref 46, .int a1, .int (nI 0), .null, .null]) (S' := [.int a1, .ref 8]) (M' := M) rfl ?_
    obtain ⟨j11, hj1, hj2, h⟩ := h
    refine vm_WM.ald (n := 6) (jj := j11) 15 rfl (Or.inl ⟨rfl, rfl⟩) (by decide) rfl hj1 hj2 ?_
    refine vm_WM.seq 16 1 (pc' := 29) (L' := [.ref 46, .int a1, .int (nI 0), .null, .null]) (S' := [.int (nI 3), .int (M 8 j11)]) (M' := M) rfl ?_
    refine vm_WM.if (c := (M 8 j11) = (nI 3)) (t1 := 32) (t2 := 36) (S' := []) 17 rfl rfl rfl (fun hc => ?_) (fun hc => ?_)
    · replace h := h.1 hc
      refine vm_WM.seq 18 2 (pc' := 37) (L' := [.ref 46, .int a1, .int (nI 0), .null, .null]) (S' := [.int (nI 1)]) (M' := M) rfl ?_
      refine vm_WM.seq 21 8 (pc' := 56) (L' := [.ref 46, .int a1, .int (nI 0), .int (nI 1), .null]) (S' := [.ref 46]) (M' := M) rfl ?_
      refine vm_WM.seq 31 1 (pc' := 58) (L' := [.ref 46, .int a1, .int (nI 0), .int (nI 1), .null]) (S' := [.int (nI 22), .ref 46]) (M' := M) rfl ?_
      refine vm_WM.call (a := 10) (as := [.ref 46, .int (nI 22)]) (rest := []) (L0 := [.ref 46, .int (nI 22)]) 32 rfl rfl (by decide) rfl rfl ⟨rfl, Or.inr rfl, Nat.le_of_ble_eq_true rfl, Nat.le_of_ble_eq_true rfl⟩ rfl rfl rfl ?_
      refine vm_WM.thenv h (fun M12 h => ?_)
      show vm_WM X 14 61 [.ref 46, .int a1, .int (nI 0), .int (nI 1), .null] [] M12 _
      refine vm_WM.seq 33 2 (pc' := 64) (L' := [.ref 46, .int a1, .int (nI 0), .int (nI 1), .null]) (S' := [.int (nI 21), .ref 46]) (M' := M12) rfl ?_
      refine vm_WM.call (a := 10) (as := [.ref 46, .int (nI 21)]) (rest := []) (L0 := [.ref 46, .int (nI 21)]) 35 rfl rfl (by decide) rfl rfl ⟨rfl, Or.inr rfl, Nat.le_of_ble_eq_true rfl, Nat.le_of_ble_eq_true rfl⟩ rfl rfl rfl ?_
      refine vm_WM.thenv h (fun M13 h => ?_)
      show vm_WM X 14 67 [.ref 46, .int a1, .int (nI 0), .int (nI 1), .null] [] M13 _
      refine vm_WM.seq 36 2 (pc' := 70) (L' := [.ref 46, .int a1, .int (nI 0), .int (nI 1), .null]) (S' := [.int (nI 20), .ref 46]) (M' := M13) rfl ?_
      refine vm_WM.call (a := 10) (as := [.ref 46, .int (nI 20)]) (rest := []) (L0 := [.ref 46, .int (nI 20)]) 38 rfl rfl (by decide) rfl rfl ⟨rfl, Or.inr rfl, Nat.le_of_ble_eq_true rfl, Nat.le_of_ble_eq_true rfl⟩ rfl rfl rfl ?_
      refine vm_WM.thenv h (fun M14 h => ?_)
      show vm_WM X 14 73 [.ref 46, .int a1, .int (nI 0), .int (nI 1), .null] [] M14 _
      refine vm_WM.seq 39 5 (pc' := 82) (L' := [.ref 46, .int a1, .int (nI 0), .int (nI 1), .null]) (S' := [.int a1, .ref 11, .int a1]) (M' := M14) rfl ?_
      obtain ⟨j15, hj1, hj2, h⟩ := h
      refine vm_WM.ald (n := 6) (jj := j15) 44 rfl (Or.inl ⟨rfl, rfl⟩) (by decide) rfl hj1 hj2 ?_
      refine vm_WM.seq 45 4 (pc' := 97) (L' := [.ref 46, .int a1, .int (nI 0), .int (nI 1), .int (a1 + (M14 11 j15))]) (S' := []) (M' := M14) rfl ?_
      refine vm_WM.seq 53 6 (pc' := 112) (L' := [.ref 46, .int a1, .int (nI 0), .int (nI 1), .int (a1 + (M14 11 j15))]) (S' := [.int ((a1 + (M14 11 j15)) - (nI 1000))]) (M' := M14) rfl ?_
      exact vm_WM.ret (r := some (.int ((a1 + (M14 11 j15)) - (nI 1000)))) 60 rfl rfl rfl ⟨_, rfl, h⟩
    · replace h := h.2 hc
      refine vm_WM.seq 20 6 (pc' := 61) (L' := [.ref 46, .int a1, .int (nI 0), .int (nI 0), .null]) (S' := []) (M' := M) rfl ?_
      refine vm_WM.seq 33 2 (pc' := 64) (L' := [.ref 46, .int a1, .int (nI 0), .int (nI 0), .null]) (S' := [.int (nI 21), .ref 46]) (M' := M) rfl ?_
      refine vm_WM.call (a := 10) (as := [.ref 46, .int (nI 21)]) (rest := []) (L0 := [.ref 46, .int (nI 21)]) 35 rfl rfl (by decide) rfl rfl ⟨rfl, Or.inr rfl, Nat.le_of_ble_eq_true rfl, Nat.le_of_ble_eq_true rfl⟩ rfl rfl rfl ?_
      refine vm_WM.thenv h (fun M16 h => ?_)
      show vm_WM X 14 67 [.ref 46, .int a1, .int (nI 0), .int (nI 0), .null] [] M16 _
      refine vm_WM.seq 36 2 (pc' := 70) (L' := [.ref 46, .int a1, .int (nI 0), .int (nI 0), .null]) (S' := [.int (nI 20), .ref 46]) (M' := M16) rfl ?_
      refine vm_WM.call (a := 10) (as := [.ref 46, .int (nI 20)]) (rest := []) (L0 := [.ref 46, .int (nI 20)]) 38 rfl rfl (by decide) rfl rfl ⟨rfl, Or.inr rfl, Nat.le_of_ble_eq_true rfl, Nat.le_of_ble_eq_true rfl⟩ rfl rfl rfl ?_
      refine vm_WM.thenv h (fun M17 h => ?_)
      show vm_WM X 14 73 [.ref 46, .int a1, .int (nI 0), .int (nI 0), .null] [] M17 _
      refine vm_WM.seq 39 5 (pc' := 82) (L' := [.ref 46, .int a1, .int (nI 0), .int (nI 0), .null]) (S' := [.int a1, .ref 11, .int a1]) (M' := M17) rfl ?_
      obtain ⟨j18, hj1, hj2, h⟩ := h
      refine vm_WM.ald (n := 6) (jj := j18) 44 rfl (Or.inl ⟨rfl, rfl⟩) (by decide) rfl hj1 hj2 ?_
      refine vm_WM.seq 45 4 (pc' := 97) (L' := [.ref 46, .int a1, .int (nI 0), .int (nI 0), .int (a1 + (M17 11 j18))]) (S' := []) (M' := M17) rfl ?_
      refine vm_WM.seq 53 2 (pc' := 110) (L' := [.ref 46, .int a1, .int (nI 0), .int (nI 0), .int (a1 + (M17 11 j18))]) (S' := []) (M' := M17) rfl ?_
      refine vm_WM.seq 59 1 (pc' := 112) (L' := [.ref 46, .int a1, .int (nI 0), .int (nI 0), .int (a1 + (M17 11 j18))]) (S' := [.int (a1 + (M17 11 j18))]) (M' := M17) rfl ?_
      exact vm_WM.ret (r := some (.int (a1 + (M17 11 j18)))) 60 rfl rfl rfl ⟨_, rfl, h⟩
theorem v_M_next {X : Nat × (Nat → Int32)}  {M : vm_M} {P : vm_M → Prop} (h : E_M_byteAt X (M 48 13) M (fun v1 M2 => (v1 = (nI 32) → (C_M_next_0 X (.null) (vm_u2 M2 48 13 ((M2 48 13) + (nI 1))) P)) ∧ (¬ (v1 = (nI 32)) → (E_M_byteAt X (M2 48 13) M2 (fun v3 M4 => (v3 = (nI 10) → (C_M_next_0 X (.null) (vm_u2 M4 48 13 ((M4 48 13) + (nI 1))) P)) ∧ (¬ (v3 = (nI 10)) → (E_M_byteAt X ((vm_u2 M4 48 15 (M4 48 13)) 48 13) (vm_u2 M4 48 15 (M4 48 13)) (fun v5 M6 => (v5 = (Int32.ofInt (-1000000)) → (P  (vm_u2 (vm_u2 M6 48 14 (nI 1)) 48 16 ((vm_u2 M6 48 14 (nI 1)) 48 13)))) ∧ (¬ (v5 = (Int32.ofInt (-1000000))) → (E_M_isLetter X v5 M6 (fun v7 M8 => (v7 = 0 → (E_M_isFigure X v5 M8 (fun v9 M10 => (v9 = 0 → ((v5 = (nI 59) → (P  (vm_u2 (vm_u2 (vm_u2 M10 48 13 ((M10 48 13) + (nI 1))) 48 14 (nI 4)) 48 16 ((vm_u2 (vm_u2 M10 48 13 ((M10 48 13) + (nI 1))) 48 14 (nI 4)) 48 13)))) ∧ (¬ (v5 = (nI 59)) → (P  (vm_u2 (vm_u2 (vm_u2 M10 48 13 ((M10 48 13) + (nI 1))) 48 14 (nI 0)) 48 16 ((vm_u2 (vm_u2 M10 48 13 ((M10 48 13) + (nI 1))) 48 14 (nI 0)) 48 13)))))) ∧ (¬ (v9 = 0) → (C_M_next_119 X v5 M10 P))))) ∧ (¬ (v7 = 0) → (C_M_next_77 X v5 M8 P))))))))))))) : E_M_next X  M P := by
  unfold E_M_next
  refine vm_WM.seq 0 3 (pc' := 5) (L' := [.ref 48, .null]) (S' := [.int (M 48 13), .ref 48]) (M' := M) rfl ?_
  refine vm_WM.call (a := 116) (as := [.ref 48, .int (M 48 13)]) (rest := []) (L0 := [.ref 48, .int (M 48 13)]) 3 rfl rfl (by decide) rfl rfl ⟨rfl, Or.inr rfl, Nat.le_of_ble_eq_true rfl, Nat.le_of_ble_eq_true rfl⟩ rfl rfl rfl ?_
  refine vm_WM.theni h (fun v1 M2 h => ?_)
  show vm_WM X 119 8 [.ref 48, .null] [.int v1] M2 _
  refine vm_WM.seq 4 1 (pc' := 10) (L' := [.ref 48, .null]) (S' := [.int (nI 32), .int v1]) (M' := M2) rfl ?_
  refine vm_WM.if (c := v1 = (nI 32)) (t1 := 26) (t2 := 13) (S' := []) 5 rfl rfl rfl (fun hc => ?_) (fun hc => ?_)
  · replace h := h.1 hc
    refine vm_WM.seq 12 7 (pc' := 0) (L' := [.ref 48, .null]) (S' := []) (M' := (vm_u2 M2 48 13 ((M2 48 13) + (nI 1)))) rfl ?_
    exact h
  · replace h := h.2 hc
    refine vm_WM.seq 6 3 (pc' := 18) (L' := [.ref 48, .null]) (S' := [.int (M2 48 13), .ref 48]) (M' := M2) rfl ?_
    refine vm_WM.call (a := 116) (as := [.ref 48, .int (M2 48 13)]) (rest := []) (L0 := [.ref 48, .int (M2 48 13)]) 9 rfl rfl (by decide) rfl rfl ⟨rfl, Or.inr rfl, Nat.le_of_ble_eq_true rfl, Nat.le_of_ble_eq_true rfl⟩ rfl rfl rfl ?_
    refine vm_WM.theni h (fun v3 M4 h => ?_)
    show vm_WM X 119 21 [.ref 48, .null] [.int v3] M4 _
    refine vm_WM.seq 10 1 (pc' := 23) (L' := [.ref 48, .null]) (S' := [.int (nI 10), .int v3]) (M' := M4) rfl ?_
    refine vm_WM.if (c := v3 = (nI 10)) (t1 := 26) (t2 := 39) (S' := []) 11 rfl rfl rfl (fun hc => ?_) (fun hc => ?_)
    · replace h := h.1 hc
      refine vm_WM.seq 12 7 (pc' := 0) (L' := [.ref 48, .null]) (S' := []) (M' := (vm_u2 M4 48 13 ((M4 48 13) + (nI 1)))) rfl ?_
      exact h
    · replace h := h.2 hc
      refine vm_WM.seq 19 7 (pc' := 52) (L' := [.ref 48, .null]) (S' := [.int ((vm_u2 M4 48 15 (M4 48 13)) 48 13), .ref 48]) (M' := (vm_u2 M4 48 15 (M4 48 13))) rfl ?_
      refine vm_WM.call (a := 116) (as := [.ref 48, .int ((vm_u2 M4 48 15 (M4 48 13)) 48 13)]) (rest := []) (L0 := [.ref 48, .int ((vm_u2 M4 48 15 (M4 48 13)) 48 13)]) 26 rfl rfl (by decide) rfl rfl ⟨rfl, Or.inr rfl, Nat.le_of_ble_eq_true rfl, Nat.le_of_ble_eq_true rfl⟩ rfl rfl rfl ?_
      refine vm_WM.theni h (fun v5 M6 h => ?_)
      show vm_WM X 119 55 [.ref 48, .null] [.int v5] M6 _
      refine vm_WM.seq 27 3 (pc' := 59) (L' := [.ref 48, .int v5]) (S' := [.int (Int32.ofInt (-1000000)), .int v5]) (M' := M6) rfl ?_
      refine vm_WM.if (c := v5 = (Int32.ofInt (-1000000))) (t1 := 62) (t2 := 70) (S' := []) 30 rfl rfl rfl (fun hc => ?_) (fun hc => ?_)
      · replace h := h.1 hc
        refine vm_WM.seq 31 4 (pc' := 196) (L' := [.ref 48, .int v5]) (S' := []) (M' := (vm_u2 M6 48 14 (nI 1))) rfl ?_
        refine vm_WM.seq 98 4 (pc' := 204) (L' := [.ref 48, .int v5]) (S' := []) (M' := (vm_u2 (vm_u2 M6 48 14 (nI 1)) 48 16 ((vm_u2 M6 48 14 (nI 1)) 48 13))) rfl ?_
        exact vm_WM.ret (r := none) 102 rfl rfl rfl ⟨rfl, h⟩
      · replace h := h.2 hc
        refine vm_WM.seq 35 1 (pc' := 71) (L' := [.ref 48, .int v5]) (S' := [.int v5]) (M' := M6) rfl ?_
        refine vm_WM.call (a := 117) (as := [.int v5]) (rest := []) (L0 := [.int v5]) 36 rfl rfl (by decide) rfl rfl ⟨rfl, Or.inl rfl, Nat.le_of_ble_eq_true rfl, Nat.le_of_ble_eq_true rfl⟩ rfl rfl rfl ?_
        refine vm_WM.theni h (fun v7 M8 h => ?_)
        show vm_WM X 119 74 [.ref 48, .int v5] [.int v7] M8 _
        refine vm_WM.if (c := v7 = 0) (t1 := 112) (t2 := 77) (S' := []) 37 rfl rfl rfl (fun hc => ?_) (fun hc => ?_)
        · replace h := h.1 hc
          refine vm_WM.seq 55 1 (pc' := 113) (L' := [.ref 48, .int v5]) (S' := [.int v5]) (M' := M8) rfl ?_
          refine vm_WM.call (a := 118) (as := [.int v5]) (rest := []) (L0 := [.int v5]) 56 rfl rfl (by decide) rfl rfl ⟨rfl, Or.inl rfl, Nat.le_of_ble_eq_true rfl, Nat.le_of_ble_eq_true rfl⟩ rfl rfl rfl ?_
          refine vm_WM.theni h (fun v9 M10 h => ?_)
          show vm_WM X 119 116 [.ref 48, .int v5] [.int v9] M10 _
          refine vm_WM.if (c := v9 = 0) (t1 := 171) (t2 := 119) (S' := []) 57 rfl rfl rfl (fun hc => ?_) (fun hc => ?_)
          · replace h := h.1 hc
            refine vm_WM.seq 84 9 (pc' := 185) (L' := [.ref 48, .int v5]) (S' := [.int (nI 59), .int v5, .ref 48]) (M' := (vm_u2 M10 48 13 ((M10 48 13) + (nI 1)))) rfl ?_
            refine vm_WM.if (c := v5 = (nI 59)) (t1 := 188) (t2 := 192) (S' := [.ref 48]) 93 rfl rfl rfl (fun hc => ?_) (fun hc => ?_)
            · replace h := h.1 hc
              refine vm_WM.seq 94 2 (pc' := 193) (L' := [.ref 48, .int v5]) (S' := [.int (nI 4), .ref 48]) (M' := (vm_u2 M10 48 13 ((M10 48 13) + (nI 1)))) rfl ?_
              refine vm_WM.seq 97 5 (pc' := 204) (L' := [.ref 48, .int v5]) (S' := []) (M' := (vm_u2 (vm_u2 (vm_u2 M10 48 13 ((M10 48 13) + (nI 1))) 48 14 (nI 4)) 48 16 ((vm_u2 (vm_u2 M10 48 13 ((M10 48 13) + (nI 1))) 48 14 (nI 4)) 48 13))) rfl ?_
              exact vm_WM.ret (r := none) 102 rfl rfl rfl ⟨rfl, h⟩
            · replace h := h.2 hc
              refine vm_WM.seq 96 6 (pc' := 204) (L' := [.ref 48, .int v5]) (S' := []) (M' := (vm_u2 (vm_u2 (vm_u2 M10 48 13 ((M10 48 13) + (nI 1))) 48 14 (nI 0)) 48 16 ((vm_u2 (vm_u2 M10 48 13 ((M10 48 13) + (nI 1))) 48 14 (nI 0)) 48 13))) rfl ?_
              exact vm_WM.ret (r := none) 102 rfl rfl rfl ⟨rfl, h⟩
          · replace h := h.2 hc
            exact h
        · replace h := h.2 hc
          exact h
theorem v_M_next_0 {X : Nat × (Nat → Int32)} {w1 : Value} {M : vm_M} {P : vm_M → Prop} (h : E_M_byteAt X (M 48 13) M (fun v1 M2 => (v1 = (nI 32) → (C_M_next_0 X (w1) (vm_u2 M2 48 13 ((M2 48 13) + (nI 1))) P)) ∧ (¬ (v1 = (nI 32)) → (E_M_byteAt X (M2 48 13) M2 (fun v3 M4 => (v3 = (nI 10) → (C_M_next_0 X (w1) (vm_u2 M4 48 13 ((M4 48 13) + (nI 1))) P)) ∧ (¬ (v3 = (nI 10)) → (E_M_byteAt X ((vm_u2 M4 48 15 (M4 48 13)) 48 13) (vm_u2 M4 48 15 (M4 48 13)) (fun v5 M6 => (v5 = (Int32.ofInt (-1000000)) → (P  (vm_u2 (vm_u2 M6 48 14 (nI 1)) 48 16 ((vm_u2 M6 48 14 (nI 1)) 48 13)))) ∧ (¬ (v5 = (Int32.ofInt (-1000000))) → (E_M_isLetter X v5 M6 (fun v7 M8 => (v7 = 0 → (E_M_isFigure X v5 M8 (fun v9 M10 => (v9 = 0 → ((v5 = (nI 59) → (P  (vm_u2 (vm_u2 (vm_u2 M10 48 13 ((M10 48 13) + (nI 1))) 48 14 (nI 4)) 48 16 ((vm_u2 (vm_u2 M10 48 13 ((M10 48 13) + (nI 1))) 48 14 (nI 4)) 48 13)))) ∧ (¬ (v5 = (nI 59)) → (P  (vm_u2 (vm_u2 (vm_u2 M10 48 13 ((M10 48 13) + (nI 1))) 48 14 (nI 0)) 48 16 ((vm_u2 (vm_u2 M10 48 13 ((M10 48 13) + (nI 1))) 48 14 (nI 0)) 48 13)))))) ∧ (¬ (v9 = 0) → (C_M_next_119 X v5 M10 P))))) ∧ (¬ (v7 = 0) → (C_M_next_77 X v5 M8 P))))))))))))) : C_M_next_0 X w1 M P := by
  unfold C_M_next_0
  refine vm_WM.seq 0 3 (pc' := 5) (L' := [.ref 48, w1]) (S' := [.int (M 48 13), .ref 48]) (M' := M) rfl ?_
  refine vm_WM.call (a := 116) (as := [.ref 48, .int (M 48 13)]) (rest := []) (L0 := [.ref 48, .int (M 48 13)]) 3 rfl rfl (by decide) rfl rfl ⟨rfl, Or.inr rfl, Nat.le_of_ble_eq_true rfl, Nat.le_of_ble_eq_true rfl⟩ rfl rfl rfl ?_
  refine vm_WM.theni h (fun v1 M2 h => ?_)
  show vm_WM X 119 8 [.ref 48, w1] [.int v1] M2 _
  refine vm_WM.seq 4 1 (pc' := 10) (L' := [.ref 48, w1]) (S' := [.int (nI 32), .int v1]) (M' := M2) rfl ?_
  refine vm_WM.if (c := v1 = (nI 32)) (t1 := 26) (t2 := 13) (S' := []) 5 rfl rfl rfl (fun hc => ?_) (fun hc => ?_)
  · replace h := h.1 hc
    refine vm_WM.seq 12 7 (pc' := 0) (L' := [.ref 48, w1]) (S' := []) (M' := (vm_u2 M2 48 13 ((M2 48 13) + (nI 1)))) rfl ?_
    exact h
  · replace h := h.2 hc
    refine vm_WM.seq 6 3 (pc' := 18) (L' := [.ref 48, w1]) (S' := [.int (M2 48 13), .ref 48]) (M' := M2) rfl ?_
    refine vm_WM.call (a := 116) (as := [.ref 48, .int (M2 48 13)]) (rest := []) (L0 := [.ref 48, .int (M2 48 13)]) 9 rfl rfl (by decide) rfl rfl ⟨rfl, Or.inr rfl, Nat.le_of_ble_eq_true rfl, Nat.le_of_ble_eq_true rfl⟩ rfl rfl rfl ?_
    refine vm_WM.theni h (fun v3 M4 h => ?_)
    show vm_WM X 119 21 [.ref 48, w1] [.int v3] M4 _
    refine vm_WM.seq 10 1 (pc' := 23) (L' := [.ref 48, w1]) (S' := [.int (nI 10), .int v3]) (M' := M4) rfl ?_
    refine vm_WM.if (c := v3 = (nI 10)) (t1 := 26) (t2 := 39) (S' := []) 11 rfl rfl rfl (fun hc => ?_) (fun hc => ?_)
    · replace h := h.1 hc
      refine vm_WM.seq 12 7 (pc' := 0) (L' := [.ref 48, w1]) (S' := []) (M' := (vm_u2 M4 48 13 ((M4 48 13) + (nI 1)))) rfl ?_
      exact h
    · replace h := h.2 hc
      refine vm_WM.seq 19 7 (pc' := 52) (L' := [.ref 48, w1]) (S' := [.int ((vm_u2 M4 48 15 (M4 48 13)) 48 13), .ref 48]) (M' := (vm_u2 M4 48 15 (M4 48 13))) rfl ?_
      refine vm_WM.call (a := 116) (as := [.ref 48, .int ((vm_u2 M4 48 15 (M4 48 13)) 48 13)]) (rest := []) (L0 := [.ref 48, .int ((vm_u2 M4 48 15 (M4 48 13)) 48 13)]) 26 rfl rfl (by decide) rfl rfl ⟨rfl, Or.inr rfl, Nat.le_of_ble_eq_true rfl, Nat.le_of_ble_eq_true rfl⟩ rfl rfl rfl ?_
      refine vm_WM.theni h (fun v5 M6 h => ?_)
      show vm_WM X 119 55 [.ref 48, w1] [.int v5] M6 _
      refine vm_WM.seq 27 3 (pc' := 59) (L' := [.ref 48, .int v5]) (S' := [.int (Int32.ofInt (-1000000)), .int v5]) (M' := M6) rfl ?_
      refine vm_WM.if (c := v5 = (Int32.ofInt (-1000000))) (t1 := 62) (t2 := 70) (S' := []) 30 rfl rfl rfl (fun hc => ?_) (fun hc => ?_)
      · replace h := h.1 hc
        refine vm_WM.seq 31 4 (pc' := 196) (L' := [.ref 48, .int v5]) (S' := []) (M' := (vm_u2 M6 48 14 (nI 1))) rfl ?_
        refine vm_WM.seq 98 4 (pc' := 204) (L' := [.ref 48, .int v5]) (S' := []) (M' := (vm_u2 (vm_u2 M6 48 14 (nI 1)) 48 16 ((vm_u2 M6 48 14 (nI 1)) 48 13))) rfl ?_
        exact vm_WM.ret (r := none) 102 rfl rfl rfl ⟨rfl, h⟩
      · replace h := h.2 hc
        refine vm_WM.seq 35 1 (pc' := 71) (L' := [.ref 48, .int v5]) (S' := [.int v5]) (M' := M6) rfl ?_
        refine vm_WM.call (a := 117) (as := [.int v5]) (rest := []) (L0 := [.int v5]) 36 rfl rfl (by decide) rfl rfl ⟨rfl, Or.inl rfl, Nat.le_of_ble_eq_true rfl, Nat.le_of_ble_eq_true rfl⟩ rfl rfl rfl ?_
        refine vm_WM.theni h (fun v7 M8 h => ?_)
        show vm_WM X 119 74 [.ref 48, .int v5] [.int v7] M8 _
        refine vm_WM.if (c := v7 = 0) (t1 := 112) (t2 := 77) (S' := []) 37 rfl rfl rfl (fun hc => ?_) (fun hc => ?_)
        · replace h := h.1 hc
          refine vm_WM.seq 55 1 (pc' := 113) (L' := [.ref 48, .int v5]) (S' := [.int v5]) (M' := M8) rfl ?_
          refine vm_WM.call (a := 118) (as := [.int v5]) (rest := []) (L0 := [.int v5]) 56 rfl rfl (by decide) rfl rfl ⟨rfl, Or.inl rfl, Nat.le_of_ble_eq_true rfl, Nat.le_of_ble_eq_true rfl⟩ rfl rfl rfl ?_
          refine vm_WM.theni h (fun v9 M10 h => ?_)
          show vm_WM X 119 116 [.ref 48, .int v5] [.int v9] M10 _
          refine vm_WM.if (c := v9 = 0) (t1 := 171) (t2 := 119) (S' := []) 57 rfl rfl rfl (fun hc => ?_) (fun hc => ?_)
          · replace h := h.1 hc
            refine vm_WM.seq 84 9 (pc' := 185) (L' := [.ref 48, .int v5]) (S' := [.int (nI 59), .int v5, .ref 48]) (M' := (vm_u2 M10 48 13 ((M10 48 13) + (nI 1)))) rfl ?_
            refine vm_WM.if (c := v5 = (nI 59)) (t1 := 188) (t2 := 192) (S' := [.ref 48]) 93 rfl rfl rfl (fun hc => ?_) (fun hc => ?_)
            · replace h := h.1 hc
              refine vm_WM.seq 94 2 (pc' := 193) (L' := [.ref 48, .int v5]) (S' := [.int (nI 4), .ref 48]) (M' := (vm_u2 M10 48 13 ((M10 48 13) + (nI 1)))) rfl ?_
              refine vm_WM.seq 97 5 (pc' := 204) (L' := [.ref 48, .int v5]) (S' := []) (M' := (vm_u2 (vm_u2 (vm_u2 M10 48 13 ((M10 48 13) + (nI 1))) 48 14 (nI 4)) 48 16 ((vm_u2 (vm_u2 M10 48 13 ((M10 48 13) + (nI 1))) 48 14 (nI 4)) 48 13))) rfl ?_
              exact vm_WM.ret (r := none) 102 rfl rfl rfl ⟨rfl, h⟩
            · replace h := h.2 hc
              refine vm_WM.seq 96 6 (pc' := 204) (L' := [.ref 48, .int v5]) (S' := []) (M' := (vm_u2 (vm_u2 (vm_u2 M10 48 13 ((M10 48 13) + (nI 1))) 48 14 (nI 0)) 48 16 ((vm_u2 (vm_u2 M10 48 13 ((M10 48 13) + (nI 1))) 48 14 (nI 0)) 48 13))) rfl ?_
              exact vm_WM.ret (r := none) 102 rfl rfl rfl ⟨rfl, h⟩
          · replace h := h.2 hc
            exact h
        · replace h := h.2 hc
          exact h
theorem v_M_next_77 {X : Nat × (Nat → Int32)} {x1 : Int32} {M : vm_M} {P : vm_M → Prop} (h : E_M_byteAt X (M 48 13) M (fun v1 M2 => E_M_isLetter X v1 M2 (fun v3 M4 => (v3 = 0 → (P  (vm_u2 (vm_u2 M4 48 14 (nI 2)) 48 16 ((vm_u2 M4 48 14 (nI 2)) 48 13)))) ∧ (¬ (v3 = 0) → (C_M_next_77 X x1 (vm_u2 M4 48 13 ((M4 48 13) + (nI 1))) P))))) : C_M_next_77 X x1 M P := by
  unfold C_M_next_77
  refine vm_WM.seq 38 3 (pc' := 82) (L' := [.ref 48, .int x1]) (S' := [.int (M 48 13), .ref 48]) (M' := M) rfl ?_
  refine vm_WM.call (a := 116) (as := [.ref 48, .int (M 48 13)]) (rest := []) (L0 := [.ref 48, .int (M 48 13)]) 41 rfl rfl (by decide) rfl rfl ⟨rfl, Or.inr rfl, Nat.le_of_ble_eq_true rfl, Nat.le_of_ble_eq_true rfl⟩ rfl rfl rfl ?_
  refine vm_WM.theni h (fun v1 M2 h => ?_)
  show vm_WM X 119 85 [.ref 48, .int x1] [.int v1] M2 _
  refine vm_WM.call (a := 117) (as := [.int v1]) (rest := []) (L0 := [.int v1]) 42 rfl rfl (by decide) rfl rfl ⟨rfl, Or.inl rfl, Nat.le_of_ble_eq_true rfl, Nat.le_of_ble_eq_true rfl⟩ rfl rfl rfl ?_
  refine vm_WM.theni h (fun v3 M4 h => ?_)
  show vm_WM X 119 88 [.ref 48, .int x1] [.int v3] M4 _
  refine vm_WM.if (c := v3 = 0) (t1 := 104) (t2 := 91) (S' := []) 43 rfl rfl rfl (fun hc => ?_) (fun hc => ?_)
  · replace h := h.1 hc
    refine vm_WM.seq 51 4 (pc' := 196) (L' := [.ref 48, .int x1]) (S' := []) (M' := (vm_u2 M4 48 14 (nI 2))) rfl ?_
    refine vm_WM.seq 98 4 (pc' := 204) (L' := [.ref 48, .int x1]) (S' := []) (M' := (vm_u2 (vm_u2 M4 48 14 (nI 2)) 48 16 ((vm_u2 M4 48 14 (nI 2)) 48 13))) rfl ?_
    exact vm_WM.ret (r := none) 102 rfl rfl rfl ⟨rfl, h⟩
  · replace h := h.2 hc
    refine vm_WM.seq 44 7 (pc' := 77) (L' := [.ref 48, .int x1]) (S' := []) (M' := (vm_u2 M4 48 13 ((M4 48 13) + (nI 1)))) rfl ?_
    exact h
theorem v_M_next_119 {X : Nat × (Nat → Int32)} {x1 : Int32} {M : vm_M} {P : vm_M → Prop} (h : E_M_byteAt X (M 48 13) M (fun v1 M2 => E_M_isFigure X v1 M2 (fun v3 M4 => (v3 = 0 → (((nI 3) < ((M4 48 13) - (M4 48 15)) → (P  (vm_u2 (vm_u2 M4 48 14 (nI 0)) 48 16 ((vm_u2 M4 48 14 (nI 0)) 48 13)))) ∧ (¬ ((nI 3) < ((M4 48 13) - (M4 48 15))) → (P  (vm_u2 (vm_u2 M4 48 14 (nI 3)) 48 16 ((vm_u2 M4 48 14 (nI 3)) 48 13)))))) ∧ (¬ (v3 = 0) → (C_M_next_119 X x1 (vm_u2 M4 48 13 ((M4 48 13) + (nI 1))) P))))) : C_M_next_119 X x1 M P := by
  unfold C_M_next_119
  refine vm_WM.seq 58 3 (pc' := 124) (L' := [.ref 48, .int x1]) (S' := [.int (M 48 13), .ref 48]) (M' := M) rfl ?_
  refine vm_WM.call (a := 116) (as := [.ref 48, .int (M 48 13)]) (rest := []) (L0 := [.ref 48, .int (M 48 13)]) 61 rfl rfl (by decide) rfl rfl ⟨rfl, Or.inr rfl, Nat.le_of_ble_eq_true rfl, Nat.le_of_ble_eq_true rfl⟩ rfl rfl rfl ?_
  refine vm_WM.theni h (fun v1 M2 h => ?_)
  show vm_WM X 119 127 [.ref 48, .int x1] [.int v1] M2 _
  refine vm_WM.call (a := 118) (as := [.int v1]) (rest := []) (L0 := [.int v1]) 62 rfl rfl (by decide) rfl rfl ⟨rfl, Or.inl rfl, Nat.le_of_ble_eq_true rfl, Nat.le_of_ble_eq_true rfl⟩ rfl rfl rfl ?_
  refine vm_WM.theni h (fun v3 M4 h => ?_)
  show vm_WM X 119 130 [.ref 48, .int x1] [.int v3] M4 _
  refine vm_WM.if (c := v3 = 0) (t1 := 146) (t2 := 133) (S' := []) 63 rfl rfl rfl (fun hc => ?_) (fun hc => ?_)
  · replace h := h.1 hc
    refine vm_WM.seq 71 7 (pc' := 157) (L' := [.ref 48, .int x1]) (S' := [.int (nI 3), .int ((M4 48 13) - (M4 48 15)), .ref 48]) (M' := M4) rfl ?_
    refine vm_WM.if (c := (nI 3) < ((M4 48 13) - (M4 48 15))) (t1 := 160) (t2 := 164) (S' := [.ref 48]) 78 rfl rfl rfl (fun hc => ?_) (fun hc => ?_)
    · replace h := h.1 hc
      refine vm_WM.seq 79 2 (pc' := 165) (L' := [.ref 48, .int x1]) (S' := [.int (nI 0), .ref 48]) (M' := M4) rfl ?_
      refine vm_WM.seq 82 2 (pc' := 196) (L' := [.ref 48, .int x1]) (S' := []) (M' := (vm_u2 M4 48 14 (nI 0))) rfl ?_
      refine vm_WM.seq 98 4 (pc' := 204) (L' := [.ref 48, .int x1]) (S' := []) (M' := (vm_u2 (vm_u2 M4 48 14 (nI 0)) 48 16 ((vm_u2 M4 48 14 (nI 0)) 48 13))) rfl ?_
      exact vm_WM.ret (r := none) 102 rfl rfl rfl ⟨rfl, h⟩
    · replace h := h.2 hc
      refine vm_WM.seq 81 3 (pc' := 196) (L' := [.ref 48, .int x1]) (S' := []) (M' := (vm_u2 M4 48 14 (nI 3))) rfl ?_
      refine vm_WM.seq 98 4 (pc' := 204) (L' := [.ref 48, .int x1]) (S' := []) (M' := (vm_u2 (vm_u2 M4 48 14 (nI 3)) 48 16 ((vm_u2 M4 48 14 (nI 3)) 48 13))) rfl ?_
      exact vm_WM.ret (r := none) 102 rfl rfl rfl ⟨rfl, h⟩
  · replace h := h.2 hc
    refine vm_WM.seq 64 7 (pc' := 119) (L' := [.ref 48, .int x1]) (S' := []) (M' := (vm_u2 M4 48 13 ((M4 48 13) + (nI 1)))) rfl ?_
    exact h
theorem v_M_figures {X : Nat × (Nat → Int32)}  {M : vm_M} {P : Int32 → vm_M → Prop} (h : C_M_figures_7 X (nI 0) (M 48 15) M P) : E_M_figures X  M P := by
  unfold E_M_figures
  refine vm_WM.seq 0 5 (pc' := 7) (L' := [.ref 48, .int (nI 0), .int (M 48 15)]) (S' := []) (M' := M) rfl ?_
  exact h
theorem v_M_figures_7 {X : Nat × (Nat → Int32)} {x1 : Int32} {x2 : Int32} {M : vm_M} {P : Int32 → vm_M → Prop} (h : (x2 < (M 48 16) → (((M 48 14) = (nI 3) → (∃ j1 : Nat, x2 = nI j1 ∧ j1 < 400 ∧ (C_M_figures_7 X ((((nI 10) * x1) + (M 55 j1)) - (nI 48)) (x2 + (nI 1)) M P))) ∧ (¬ ((M 48 14) = (nI 3)) → (P x1 M)))) ∧ (¬ (x2 < (M 48 16)) → (P x1 M))) : C_M_figures_7 X x1 x2 M P := by
  unfold C_M_figures_7
  refine vm_WM.seq 5 3 (pc' := 12) (L' := [.ref 48, .int x1, .int x2]) (S' := [.int (M 48 16), .int x2]) (M' := M) rfl ?_
  refine vm_WM.if (c := x2 < (M 48 16)) (t1 := 15) (t2 := 44) (S' := []) 8 rfl rfl rfl (fun hc => ?_) (fun hc => ?_)
  · replace h := h.1 hc
    refine vm_WM.seq 9 3 (pc' := 20) (L' := [.ref 48, .int x1, .int x2]) (S' := [.int (nI 3), .int (M 48 14)]) (M' := M) rfl ?_
    refine vm_WM.if (c := (M 48 14) = (nI 3)) (t1 := 23) (t2 := 44) (S' := []) 12 rfl rfl rfl (fun hc => ?_) (fun hc => ?_)
    · replace h := h.1 hc
      refine vm_WM.seq 13 6 (pc' := 32) (L' := [.ref 48, .int x1, .int x2]) (S' := [.int x2, .ref 55, .int ((nI 10) * x1)]) (M' := M) rfl ?_
      obtain ⟨j1, hj1, hj2, h⟩ := h
      refine vm_WM.ald (n := 400) (jj := j1) 19 rfl (Or.inl ⟨rfl, rfl⟩) (by decide) rfl hj1 hj2 ?_
      refine vm_WM.seq 20 6 (pc' := 7) (L' := [.ref 48, .int ((((nI 10) * x1) + (M 55 j1)) - (nI 48)), .int (x2 + (nI 1))]) (S' := []) (M' := M) rfl ?_
      exact h
    · replace h := h.2 hc
      refine vm_WM.seq 26 1 (pc' := 45) (L' := [.ref 48, .int x1, .int x2]) (S' := [.int x1]) (M' := M) rfl ?_
      exact vm_WM.ret (r := some (.int x1)) 27 rfl rfl rfl ⟨_, rfl, h⟩
  · replace h := h.2 hc
    refine vm_WM.seq 26 1 (pc' := 45) (L' := [.ref 48, .int x1, .int x2]) (S' := [.int x1]) (M' := M) rfl ?_
    exact vm_WM.ret (r := some (.int x1)) 27 rfl rfl rfl ⟨_, rfl, h⟩
theorem v_M_begins {X : Nat × (Nat → Int32)} {a1 : Int32} {a2 : Int32} {M : vm_M} {P : vm_M → Prop} (h : ∃ j1 : Nat, a1 = nI j1 ∧ j1 < 70 ∧ (((M 53 j1) = a2 → (E_M_bad X (nI 3) M (fun M2 => E_M_must X (nI 1) M2 (fun M3 => P  M3)))) ∧ (¬ ((M 53 j1) = a2) → (E_M_must X (nI 1) M (fun M4 => P  M4))))) : E_M_begins X a1 a2 M P := by
  unfold E_M_begins
  refine vm_WM.seq 0 3 (pc' := 5) (L' := [.ref 48, .int a1, .int a2]) (S' := [.int a1, .ref 53]) (M' := M) rfl ?_
  obtain ⟨j1, hj1, hj2, h⟩ := h
  refine vm_WM.ald (n := 70) (jj := j1) 3 rfl (Or.inl ⟨rfl, rfl⟩) (by decide) rfl hj1 hj2 ?_
  refine vm_WM.seq 4 1 (pc' := 7) (L' := [.ref 48, .int a1, .int a2]) (S' := [.int a2, .int (M 53 j1)]) (M' := M) rfl ?_
  refine vm_WM.if (c := (M 53 j1) = a2) (t1 := 10) (t2 := 15) (S' := []) 5 rfl rfl rfl (fun hc => ?_) (fun hc => ?_)
  · replace h := h.1 hc
    refine vm_WM.seq 6 2 (pc' := 12) (L' := [.ref 48, .int a1, .int a2]) (S' := [.int (nI 3), .ref 48]) (M' := M) rfl ?_
    refine vm_WM.call (a := 121) (as := [.ref 48, .int (nI 3)]) (rest := []) (L0 := [.ref 48, .int (nI 3)]) 8 rfl rfl (by decide) rfl rfl ⟨rfl, Or.inr rfl, Nat.le_of_ble_eq_true rfl, Nat.le_of_ble_eq_true rfl⟩ rfl rfl rfl ?_
    refine vm_WM.thenv h (fun M2 h => ?_)
    show vm_WM X 128 15 [.ref 48, .int a1, .int a2] [] M2 _
    refine vm_WM.seq 9 2 (pc' := 17) (L' := [.ref 48, .int a1, .int a2]) (S' := [.int (nI 1), .ref 48]) (M' := M2) rfl ?_
    refine vm_WM.call (a := 122) (as := [.ref 48, .int (nI 1)]) (rest := []) (L0 := [.ref 48, .int (nI 1)]) 11 rfl rfl (by decide) rfl rfl ⟨rfl, Or.inr rfl, Nat.le_of_ble_eq_true rfl, Nat.le_of_ble_eq_true rfl⟩ rfl rfl rfl ?_
    refine vm_WM.thenv h (fun M3 h => ?_)
    show vm_WM X 128 20 [.ref 48, .int a1, .int a2] [] M3 _
    exact vm_WM.ret (r := none) 12 rfl rfl rfl ⟨rfl, h⟩
  · replace h := h.2 hc
    refine vm_WM.seq 9 2 (pc' := 17) (L' := [.ref 48, .int a1, .int a2]) (S' := [.int (nI 1), .ref 48]) (M' := M) rfl ?_
    refine vm_WM.call (a := 122) (as := [.ref 48, .int (nI 1)]) (rest := []) (L0 := [.ref 48, .int (nI 1)]) 11 rfl rfl (by decide) rfl rfl ⟨rfl, Or.inr rfl, Nat.le_of_ble_eq_true rfl, Nat.le_of_ble_eq_true rfl⟩ rfl rfl rfl ?_
    refine vm_WM.thenv h (fun M4 h => ?_)
    show vm_WM X 128 20 [.ref 48, .int a1, .int a2] [] M4 _
    exact vm_WM.ret (r := none) 12 rfl rfl rfl ⟨rfl, h⟩
theorem v_M_kindBy {X : Nat × (Nat → Int32)} {a0 : Int64} {M : vm_M} {P : Int32 → vm_M → Prop} (h : ((lg_cmp a0 (Int64.ofInt 422541223282)) = 0 → (P (nI 1) M)) ∧ (¬ ((lg_cmp a0 (Int64.ofInt 422541223282)) = 0) → (((lg_cmp a0 (Int64.ofInt 120299558036850)) = 0 → (P (nI 2) M)) ∧ (¬ ((lg_cmp a0 (Int64.ofInt 120299558036850)) = 0) → (((lg_cmp a0 (Int64.ofInt 118122060670322)) = 0 → (P (nI 3) M)) ∧ (¬ ((lg_cmp a0 (Int64.ofInt 118122060670322)) = 0) → (((lg_cmp a0 (Int64.ofInt 123636696839028)) = 0 → (P (nI 4) M)) ∧ (¬ ((lg_cmp a0 (Int64.ofInt 123636696839028)) = 0) → (((lg_cmp a0 (Int64.ofInt 422725643876)) = 0 → (P (nI 5) M)) ∧ (¬ ((lg_cmp a0 (Int64.ofInt 422725643876)) = 0) → (P (Int32.ofInt (-1000000)) M))))))))))) : E_M_kindBy X a0 M P := by
  unfold E_M_kindBy
  refine vm_WM.seq 0 3 (pc' := 5) (L' := [.long a0, .null]) (S' := [.int (lg_cmp a0 (Int64.ofInt 422541223282))]) (M' := M) rfl ?_
  refine vm_WM.if (c := (lg_cmp a0 (Int64.ofInt 422541223282)) = 0) (t1 := 8) (t2 := 12) (S' := []) 3 rfl rfl rfl (fun hc => ?_) (fun hc => ?_)
  · replace h := h.1 hc
    refine vm_WM.seq 4 2 (pc' := 62) (L' := [.long a0, .null]) (S' := [.int (nI 1)]) (M' := M) rfl ?_
    exact vm_WM.ret (r := some (.int (nI 1))) 31 rfl rfl rfl ⟨_, rfl, h⟩
  · replace h := h.2 hc
    refine vm_WM.seq 6 3 (pc' := 17) (L' := [.long a0, .null]) (S' := [.int (lg_cmp a0 (Int64.ofInt 120299558036850))]) (M' := M) rfl ?_
    refine vm_WM.if (c := (lg_cmp a0 (Int64.ofInt 120299558036850)) = 0) (t1 := 20) (t2 := 24) (S' := []) 9 rfl rfl rfl (fun hc => ?_) (fun hc => ?_)
    · replace h := h.1 hc
      refine vm_WM.seq 10 2 (pc' := 62) (L' := [.long a0, .null]) (S' := [.int (nI 2)]) (M' := M) rfl ?_
      exact vm_WM.ret (r := some (.int (nI 2))) 31 rfl rfl rfl ⟨_, rfl, h⟩
    · replace h := h.2 hc
      refine vm_WM.seq 12 3 (pc' := 29) (L' := [.long a0, .null]) (S' := [.int (lg_cmp a0 (Int64.ofInt 118122060670322))]) (M' := M) rfl ?_
      refine vm_WM.if (c := (lg_cmp a0 (Int64.ofInt 118122060670322)) = 0) (t1 := 32) (t2 := 36) (S' := []) 15 rfl rfl rfl (fun hc => ?_) (fun hc => ?_)
      · replace h := h.1 hc
        refine vm_WM.seq 16 2 (pc' := 62) (L' := [.long a0, .null]) (S' := [.int (nI 3)]) (M' := M) rfl ?_
        exact vm_WM.ret (r := some (.int (nI 3))) 31 rfl rfl rfl ⟨_, rfl, h⟩
      · replace h := h.2 hc
        refine vm_WM.seq 18 3 (pc' := 41) (L' := [.long a0, .null]) (S' := [.int (lg_cmp a0 (Int64.ofInt 123636696839028))]) (M' := M) rfl ?_
        refine vm_WM.if (c := (lg_cmp a0 (Int64.ofInt 123636696839028)) = 0) (t1 := 44) (t2 := 48) (S' := []) 21 rfl rfl rfl (fun hc => ?_) (fun hc => ?_)
        · replace h := h.1 hc
          refine vm_WM.seq 22 2 (pc' := 62) (L' := [.long a0, .null]) (S' := [.int (nI 4)]) (M' := M) rfl ?_
          exact vm_WM.ret (r := some (.int (nI 4))) 31 rfl rfl rfl ⟨_, rfl, h⟩
        · replace h := h.2 hc
          refine vm_WM.seq 24 3 (pc' := 53) (L' := [.long a0, .null]) (S' := [.int (lg_cmp a0 (Int64.ofInt 422725643876))]) (M' := M) rfl ?_
          refine vm_WM.if (c := (lg_cmp a0 (Int64.ofInt 422725643876)) = 0) (t1 := 56) (t2 := 60) (S' := []) 27 rfl rfl rfl (fun hc => ?_) (fun hc => ?_)
          · replace h := h.1 hc
            refine vm_WM.seq 28 2 (pc' := 62) (L' := [.long a0, .null]) (S' := [.int (nI 5)]) (M' := M) rfl ?_
            exact vm_WM.ret (r := some (.int (nI 5))) 31 rfl rfl rfl ⟨_, rfl, h⟩
          · replace h := h.2 hc
            refine vm_WM.seq 30 1 (pc' := 62) (L' := [.long a0, .null]) (S' := [.int (Int32.ofInt (-1000000))]) (M' := M) rfl ?_
            exact vm_WM.ret (r := some (.int (Int32.ofInt (-1000000)))) 31 rfl rfl rfl ⟨_, rfl, h⟩
theorem v_M_isUnseen {X : Nat × (Nat → Int32)} {a1 : Int32} {a2 : Int32} {a3 : Int32} {M : vm_M} {P : Int32 → vm_M → Prop} (h : ∃ j1 : Nat, a2 = nI j1 ∧ j1 < 61 ∧ (((M 59 j1) = (Int32.ofInt (-1000000)) → (C_M_isUnseen_33 X a1 a2 a3 (nI 1) (a1 + (nI 1)) M P)) ∧ (¬ ((M 59 j1) = (Int32.ofInt (-1000000))) → (∃ j2 : Nat, a2 = nI j2 ∧ j2 < 61 ∧ (((M 59 j2) = a3 → (C_M_isUnseen_33 X a1 a2 a3 (nI 1) (a1 + (nI 1)) M P)) ∧ (¬ ((M 59 j2) = a3) → (C_M_isUnseen_33 X a1 a2 a3 (nI 0) (a1 + (nI 1)) M P))))))) : E_M_isUnseen X a1 a2 a3 M P := by
  unfold E_M_isUnseen
  refine vm_WM.seq 0 3 (pc' := 5) (L' := [.ref 48, .int a1, .int a2, .int a3, .null, .null]) (S' := [.int a2, .ref 59]) (M' := M) rfl ?_
  obtain ⟨j1, hj1, hj2, h⟩ := h
  refine vm_WM.ald (n := 61) (jj := j1) 3 rfl (Or.inl ⟨rfl, rfl⟩) (by decide) rfl hj1 hj2 ?_
  refine vm_WM.seq 4 1 (pc' := 8) (L' := [.ref 48, .int a1, .int a2, .int a3, .null, .null]) (S' := [.int (Int32.ofInt (-1000000)), .int (M 59 j1)]) (M' := M) rfl ?_
  refine vm_WM.if (c := (M 59 j1) = (Int32.ofInt (-1000000))) (t1 := 21) (t2 := 11) (S' := []) 5 rfl rfl rfl (fun hc => ?_) (fun hc => ?_)
  · replace h := h.1 hc
    refine vm_WM.seq 12 2 (pc' := 26) (L' := [.ref 48, .int a1, .int a2, .int a3, .null, .null]) (S' := [.int (nI 1)]) (M' := M) rfl ?_
    refine vm_WM.seq 15 5 (pc' := 33) (L' := [.ref 48, .int a1, .int a2, .int a3, .int (nI 1), .int (a1 + (nI 1))]) (S' := []) (M' := M) rfl ?_
    exact h
  · replace h := h.2 hc
    refine vm_WM.seq 6 3 (pc' := 16) (L' := [.ref 48, .int a1, .int a2, .int a3, .null, .null]) (S' := [.int a2, .ref 59]) (M' := M) rfl ?_
    obtain ⟨j2, hj1, hj2, h⟩ := h
    refine vm_WM.ald (n := 61) (jj := j2) 9 rfl (Or.inl ⟨rfl, rfl⟩) (by decide) rfl hj1 hj2 ?_
    refine vm_WM.seq 10 1 (pc' := 18) (L' := [.ref 48, .int a1, .int a2, .int a3, .null, .null]) (S' := [.int a3, .int (M 59 j2)]) (M' := M) rfl ?_
    refine vm_WM.if (c := (M 59 j2) = a3) (t1 := 21) (t2 := 25) (S' := []) 11 rfl rfl rfl (fun hc => ?_) (fun hc => ?_)
    · replace h := h.1 hc
      refine vm_WM.seq 12 2 (pc' := 26) (L' := [.ref 48, .int a1, .int a2, .int a3, .null, .null]) (S' := [.int (nI 1)]) (M' := M) rfl ?_
      refine vm_WM.seq 15 5 (pc' := 33) (L' := [.ref 48, .int a1, .int a2, .int a3, .int (nI 1), .int (a1 + (nI 1))]) (S' := []) (M' := M) rfl ?_
      exact h
    · replace h := h.2 hc
      refine vm_WM.seq 14 6 (pc' := 33) (L' := [.ref 48, .int a1, .int a2, .int a3, .int (nI 0), .int (a1 + (nI 1))]) (S' := []) (M' := M) rfl ?_
      exact h
theorem v_M_isUnseen_33 {X : Nat × (Nat → Int32)} {x1 : Int32} {x2 : Int32} {x3 : Int32} {x4 : Int32} {x5 : Int32} {M : vm_M} {P : Int32 → vm_M → Prop} (h : (x5 < x2 → ((x4 = 0 → (C_M_isUnseen_33 X x1 x2 x3 (nI 0) (x5 + (nI 1)) M P)) ∧ (¬ (x4 = 0) → (∃ j1 : Nat, x5 = nI j1 ∧ j1 < 61 ∧ (((M 59 j1) = (Int32.ofInt (-1000000)) → (C_M_isUnseen_33 X x1 x2 x3 (nI 1) (x5 + (nI 1)) M P)) ∧ (¬ ((M 59 j1) = (Int32.ofInt (-1000000))) → (C_M_isUnseen_33 X x1 x2 x3 (nI 0) (x5 + (nI 1)) M P))))))) ∧ (¬ (x5 < x2) → ((x4 = 0 ∨ x4 = 1) ∧ P x4 M))) : C_M_isUnseen_33 X x1 x2 x3 x4 x5 M P := by
  unfold C_M_isUnseen_33
  refine vm_WM.seq 20 2 (pc' := 36) (L' := [.ref 48, .int x1, .int x2, .int x3, .int x4, .int x5]) (S' := [.int x2, .int x5]) (M' := M) rfl ?_
  refine vm_WM.if (c := x5 < x2) (t1 := 39) (t2 := 69) (S' := []) 22 rfl rfl rfl (fun hc => ?_) (fun hc => ?_)
  · replace h := h.1 hc
    refine vm_WM.seq 23 1 (pc' := 41) (L' := [.ref 48, .int x1, .int x2, .int x3, .int x4, .int x5]) (S' := [.int x4]) (M' := M) rfl ?_
    refine vm_WM.if (c := x4 = 0) (t1 := 60) (t2 := 44) (S' := []) 24 rfl rfl rfl (fun hc => ?_) (fun hc => ?_)
    · replace h := h.1 hc
      refine vm_WM.seq 33 4 (pc' := 33) (L' := [.ref 48, .int x1, .int x2, .int x3, .int (nI 0), .int (x5 + (nI 1))]) (S' := []) (M' := M) rfl ?_
      exact h
    · replace h := h.2 hc
      refine vm_WM.seq 25 3 (pc' := 50) (L' := [.ref 48, .int x1, .int x2, .int x3, .int x4, .int x5]) (S' := [.int x5, .ref 59]) (M' := M) rfl ?_
      obtain ⟨j1, hj1, hj2, h⟩ := h
      refine vm_WM.ald (n := 61) (jj := j1) 28 rfl (Or.inl ⟨rfl, rfl⟩) (by decide) rfl hj1 hj2 ?_
      refine vm_WM.seq 29 1 (pc' := 53) (L' := [.ref 48, .int x1, .int x2, .int x3, .int x4, .int x5]) (S' := [.int (Int32.ofInt (-1000000)), .int (M 59 j1)]) (M' := M) rfl ?_
      refine vm_WM.if (c := (M 59 j1) = (Int32.ofInt (-1000000))) (t1 := 56) (t2 := 60) (S' := []) 30 rfl rfl rfl (fun hc => ?_) (fun hc => ?_)
      · replace h := h.1 hc
        refine vm_WM.seq 31 2 (pc' := 61) (L' := [.ref 48, .int x1, .int x2, .int x3, .int x4, .int x5]) (S' := [.int (nI 1)]) (M' := M) rfl ?_
        refine vm_WM.seq 34 3 (pc' := 33) (L' := [.ref 48, .int x1, .int x2, .int x3, .int (nI 1), .int (x5 + (nI 1))]) (S' := []) (M' := M) rfl ?_
        exact h
      · replace h := h.2 hc
        refine vm_WM.seq 33 4 (pc' := 33) (L' := [.ref 48, .int x1, .int x2, .int x3, .int (nI 0), .int (x5 + (nI 1))]) (S' := []) (M' := M) rfl ?_
        exact h
  · replace h := h.2 hc
    refine vm_WM.seq 37 1 (pc' := 71) (L' := [.ref 48, .int x1, .int x2, .int x3, .int x4, .int x5]) (S' := [.int x4]) (M' := M) rfl ?_
    obtain ⟨hz, h⟩ := h
    exact vm_WM.ret (r := some (.int x4)) 38 rfl rfl (vm_rtZ rfl hz) ⟨_, rfl, h⟩
theorem v_M_began {X : Nat × (Nat → Int32)} {a1 : Int32} {M : vm_M} {P : vm_M → Prop} (h : ((M 48 29) < (nI 16) → (∃ j1 : Nat, (M 48 29) = nI j1 ∧ j1 < 16 ∧ (P  (vm_u2 (vm_u2 M 64 j1 a1) 48 29 (((vm_u2 M 64 j1 a1) 48 29) + (nI 1)))))) ∧ (¬ ((M 48 29) < (nI 16)) → (P  M))) : E_M_began X a1 M P := by
  unfold E_M_began
  refine vm_WM.seq 0 3 (pc' := 6) (L' := [.ref 48, .int a1]) (S' := [.int (nI 16), .int (M 48 29)]) (M' := M) rfl ?_
  refine vm_WM.if (c := (M 48 29) < (nI 16)) (t1 := 9) (t2 := 29) (S' := []) 3 rfl rfl rfl (fun hc => ?_) (fun hc => ?_)
  · replace h := h.1 hc
    refine vm_WM.seq 4 5 (pc' := 18) (L' := [.ref 48, .int a1]) (S' := [.int a1, .int (M 48 29), .ref 64]) (M' := M) rfl ?_
    obtain ⟨j1, hj1, hj2, h⟩ := h
    refine vm_WM.ast (n := 16) (jj := j1) 9 rfl rfl hj1 hj2 ?_
    refine vm_WM.seq 10 6 (pc' := 29) (L' := [.ref 48, .int a1]) (S' := []) (M' := (vm_u2 (vm_u2 M 64 j1 a1) 48 29 (((vm_u2 M 64 j1 a1) 48 29) + (nI 1)))) rfl ?_
    exact vm_WM.ret (r := none) 16 rfl rfl rfl ⟨rfl, h⟩
  · replace h := h.2 hc
    exact vm_WM.ret (r := none) 16 rfl rfl rfl ⟨rfl, h⟩
theorem v_M_plainSize {X : Nat × (Nat → Int32)} {a1 : Int32} {M : vm_M} {P : Int32 → vm_M → Prop} (h : E_M_began X (nI 10) M (fun M1 => ∃ j2 : Nat, (((nI 6) + ((nI 4) * a1)) + (nI 1)) = nI j2 ∧ j2 < 70 ∧ (P (M1 52 j2) M1))) : E_M_plainSize X a1 M P := by
  unfold E_M_plainSize
  refine vm_WM.seq 0 2 (pc' := 3) (L' := [.ref 48, .int a1]) (S' := [.int (nI 10), .ref 48]) (M' := M) rfl ?_
  refine vm_WM.call (a := 164) (as := [.ref 48, .int (nI 10)]) (rest := []) (L0 := [.ref 48, .int (nI 10)]) 2 rfl rfl (by decide) rfl rfl ⟨rfl, Or.inr rfl, Nat.le_of_ble_eq_true rfl, Nat.le_of_ble_eq_true rfl⟩ rfl rfl rfl ?_
  refine vm_WM.thenv h (fun M1 h => ?_)
  show vm_WM X 165 6 [.ref 48, .int a1] [] M1 _
  refine vm_WM.seq 3 3 (pc' := 9) (L' := [.ref 48, .int a1]) (S' := [.int (nI 1), .int a1, .ref 48]) (M' := M1) rfl ?_
  refine vm_WM.call (a := 136) (as := [.ref 48, .int a1, .int (nI 1)]) (rest := []) (L0 := [.ref 48, .int a1, .int (nI 1)]) 6 rfl rfl (by decide) rfl rfl ⟨rfl, Or.inr rfl, Nat.le_of_ble_eq_true rfl, Nat.le_of_ble_eq_true rfl⟩ rfl rfl rfl ?_
  refine vm_WM.seq 0 9 (pc' := 12) (L' := [.ref 48, .int a1, .int (nI 1)]) (S' := [.int (((nI 6) + ((nI 4) * a1)) + (nI 1)), .ref 52]) (M' := M1) rfl ?_
  obtain ⟨j2, hj1, hj2, h⟩ := h
  refine vm_WM.ald (n := 70) (jj := j2) 9 rfl (Or.inl ⟨rfl, rfl⟩) (by decide) rfl hj1 hj2 ?_
  refine vm_WM.ret (r := some (.int (M1 52 j2))) 10 rfl rfl rfl ?_
  show vm_WM X 165 12 [.ref 48, .int a1] [.int (M1 52 j2)] M1 _
  exact vm_WM.ret (r := some (.int (M1 52 j2))) 7 rfl rfl rfl ⟨_, rfl, h⟩
theorem v_M_priestSize {X : Nat × (Nat → Int32)} {a1 : Int32} {M : vm_M} {P : Int32 → vm_M → Prop} (h : ∃ j1 : Nat, (((nI 6) + ((nI 4) * a1)) + (nI 0)) = nI j1 ∧ j1 < 70 ∧ (((M 52 j1) = (nI 5) → (E_M_began X (nI 14) M (fun M2 => E_M_began X (nI 13) M2 (fun M3 => E_M_plainSize X a1 M3 (fun v4 M5 => ∃ j6 : Nat, (((nI 6) + ((nI 4) * a1)) + (nI 0)) = nI j6 ∧ j6 < 70 ∧ (((M5 52 j6) = (nI 5) → (P ((nI 2) * (v4 - (nI 100))) M5)) ∧ (¬ ((M5 52 j6) = (nI 5)) → (P (v4 - (nI 100)) M5)))))))) ∧ (¬ ((M 52 j1) = (nI 5)) → (E_M_began X (nI 13) M (fun M7 => E_M_plainSize X a1 M7 (fun v8 M9 => ∃ j10 : Nat, (((nI 6) + ((nI 4) * a1)) + (nI 0)) = nI j10 ∧ j10 < 70 ∧ (((M9 52 j10) = (nI 5) → (P ((nI 2) * (v8 - (nI 100))) M9)) ∧ (¬ ((M9 52 j10) = (nI 5)) → (P (v8 - (nI 100)) M9))))))))) : E_M_priestSize X a1 M P := by
  unfold E_M_priestSize
  refine vm_WM.seq 0 3 (pc' := 3) (L' := [.ref 48, .int a1, .null]) (S' := [.int (nI 0), .int a1, .ref 48]) (M' := M) rfl ?_
  refine vm_WM.call (a := 136) (as := [.ref 48, .int a1, .int (nI 0)]) (rest := []) (L0 := [.ref 48, .int a1, .int (nI 0)]) 3 rfl rfl (by decide) rfl rfl ⟨rfl, Or.inr rfl, Nat.le_of_ble_eq_true rfl, Nat.le_of_ble_eq_true rfl⟩ rfl rfl rfl ?_
  refine vm_WM.seq 0 9 (pc' := 12) (L' := [.ref 48, .int a1, .int (nI 0)]) (S' := [.int (((nI 6) + ((nI 4) * a1)) + (nI 0)), .ref 52]) (M' := M) rfl ?_
  obtain ⟨j1, hj1, hj2, h⟩ := h
  refine vm_WM.ald (n := 70) (jj := j1) 9 rfl (Or.inl ⟨rfl, rfl⟩) (by decide) rfl hj1 hj2 ?_
  refine vm_WM.ret (r := some (.int (M 52 j1))) 10 rfl rfl rfl ?_
  show vm_WM X 166 6 [.ref 48, .int a1, .null] [.int (M 52 j1)] M _
  refine vm_WM.seq 4 1 (pc' := 7) (L' := [.ref 48, .int a1, .null]) (S' := [.int (nI 5), .int (M 52 j1)]) (M' := M) rfl ?_
  refine vm_WM.if (c := (M 52 j1) = (nI 5)) (t1 := 10) (t2 := 16) (S' := []) 5 rfl rfl rfl (fun hc => ?_) (fun hc => ?_)
  · replace h := h.1 hc
    refine vm_WM.seq 6 2 (pc' := 13) (L' := [.ref 48, .int a1, .null]) (S' := [.int (nI 14), .ref 48]) (M' := M) rfl ?_
    refine vm_WM.call (a := 164) (as := [.ref 48, .int (nI 14)]) (rest := []) (L0 := [.ref 48, .int (nI 14)]) 8 rfl rfl (by decide) rfl rfl ⟨rfl, Or.inr rfl, Nat.le_of_ble_eq_true rfl, Nat.le_of_ble_eq_true rfl⟩ rfl rfl rfl ?_
    refine vm_WM.thenv h (fun M2 h => ?_)
    show vm_WM X 166 16 [.ref 48, .int a1, .null] [] M2 _
    refine vm_WM.seq 9 2 (pc' := 19) (L' := [.ref 48, .int a1, .null]) (S' := [.int (nI 13), .ref 48]) (M' := M2) rfl ?_
    refine vm_WM.call (a := 164) (as := [.ref 48, .int (nI 13)]) (rest := []) (L0 := [.ref 48, .int (nI 13)]) 11 rfl rfl (by decide) rfl rfl ⟨rfl, Or.inr rfl, Nat.le_of_ble_eq_true rfl, Nat.le_of_ble_eq_true rfl⟩ rfl rfl rfl ?_
    refine vm_WM.thenv h (fun M3 h => ?_)
    show vm_WM X 166 22 [.ref 48, .int a1, .null] [] M3 _
    refine vm_WM.seq 12 2 (pc' := 24) (L' := [.ref 48, .int a1, .null]) (S' := [.int a1, .ref 48]) (M' := M3) rfl ?_
    refine vm_WM.call (a := 165) (as := [.ref 48, .int a1]) (rest := []) (L0 := [.ref 48, .int a1]) 14 rfl rfl (by decide) rfl rfl ⟨rfl, Or.inr rfl, Nat.le_of_ble_eq_true rfl, Nat.le_of_ble_eq_true rfl⟩ rfl rfl rfl ?_
    refine vm_WM.theni h (fun v4 M5 h => ?_)
    show vm_WM X 166 27 [.ref 48, .int a1, .null] [.int v4] M5 _
    refine vm_WM.seq 15 6 (pc' := 34) (L' := [.ref 48, .int a1, .int (v4 - (nI 100))]) (S' := [.int (nI 0), .int a1, .ref 48]) (M' := M5) rfl ?_
    refine vm_WM.call (a := 136) (as := [.ref 48, .int a1, .int (nI 0)]) (rest := []) (L0 := [.ref 48, .int a1, .int (nI 0)]) 21 rfl rfl (by decide) rfl rfl ⟨rfl, Or.inr rfl, Nat.le_of_ble_eq_true rfl, Nat.le_of_ble_eq_true rfl⟩ rfl rfl rfl ?_
    refine vm_WM.seq 0 9 (pc' := 12) (L' := [.ref 48, .int a1, .int (nI 0)]) (S' := [.int (((nI 6) + ((nI 4) * a1)) + (nI 0)), .ref 52]) (M' := M5) rfl ?_
    obtain ⟨j6, hj1, hj2, h⟩ := h
    refine vm_WM.ald (n := 70) (jj := j6) 9 rfl (Or.inl ⟨rfl, rfl⟩) (by decide) rfl hj1 hj2 ?_
    refine vm_WM.ret (r := some (.int (M5 52 j6))) 10 rfl rfl rfl ?_
    show vm_WM X 166 37 [.ref 48, .int a1, .int (v4 - (nI 100))] [.int (M5 52 j6)] M5 _
    refine vm_WM.seq 22 1 (pc' := 38) (L' := [.ref 48, .int a1, .int (v4 - (nI 100))]) (S' := [.int (nI 5), .int (M5 52 j6)]) (M' := M5) rfl ?_
    refine vm_WM.if (c := (M5 52 j6) = (nI 5)) (t1 := 41) (t2 := 47) (S' := []) 23 rfl rfl rfl (fun hc => ?_) (fun hc => ?_)
    · replace h := h.1 hc
      refine vm_WM.seq 24 4 (pc' := 48) (L' := [.ref 48, .int a1, .int (v4 - (nI 100))]) (S' := [.int ((nI 2) * (v4 - (nI 100)))]) (M' := M5) rfl ?_
      exact vm_WM.ret (r := some (.int ((nI 2) * (v4 - (nI 100))))) 29 rfl rfl rfl ⟨_, rfl, h⟩
    · replace h := h.2 hc
      refine vm_WM.seq 28 1 (pc' := 48) (L' := [.ref 48, .int a1, .int (v4 - (nI 100))]) (S' := [.int (v4 - (nI 100))]) (M' := M5) rfl ?_
      exact vm_WM.ret (r := some (.int (v4 - (nI 100)))) 29 rfl rfl rfl ⟨_, rfl, h⟩
  · replace h := h.2 hc
    refine vm_WM.seq 9 2 (pc' := 19) (L' := [.ref 48, .int a1, .null]) (S' := [.int (nI 13), .ref 48]) (M' := M) rfl ?_
    refine vm_WM.call (a := 164) (as := [.ref 48, .int (nI 13)]) (rest := []) (L0 := [.ref 48, .int (nI 13)]) 11 rfl rfl (by decide) rfl rfl ⟨rfl, Or.inr rfl, Nat.le_of_ble_eq_true rfl, Nat.le_of_ble_eq_true rfl⟩ rfl rfl rfl ?_
    refine vm_WM.thenv h (fun M7 h => ?_)
    show vm_WM X 166 22 [.ref 48, .int a1, .null] [] M7 _
    refine vm_WM.seq 12 2 (pc' := 24) (L' := [.ref 48, .int a1, .null]) (S' := [.int a1, .ref 48]) (M' := M7) rfl ?_
    refine vm_WM.call (a := 165) (as := [.ref 48, .int a1]) (rest := []) (L0 := [.ref 48, .int a1]) 14 rfl rfl (by decide) rfl rfl ⟨rfl, Or.inr rfl, Nat.le_of_ble_eq_true rfl, Nat.le_of_ble_eq_true rfl⟩ rfl rfl rfl ?_
    refine vm_WM.theni h (fun v8 M9 h => ?_)
    show vm_WM X 166 27 [.ref 48, .int a1, .null] [.int v8] M9 _
    refine vm_WM.seq 15 6 (pc' := 34) (L' := [.ref 48, .int a1, .int (v8 - (nI 100))]) (S' := [.int (nI 0), .int a1, .ref 48]) (M' := M9) rfl ?_
    refine vm_WM.call (a := 136) (as := [.ref 48, .int a1, .int (nI 0)]) (rest := []) (L0 := [.ref 48, .int a1, .int (nI 0)]) 21 rfl rfl (by decide) rfl rfl ⟨rfl, Or.inr rfl, Nat.le_of_ble_eq_true rfl, Nat.le_of_ble_eq_true rfl⟩ rfl rfl rfl ?_
    refine vm_WM.seq 0 9 (pc' := 12) (L' := [.ref 48, .int a1, .int (nI 0)]) (S' := [.int (((nI 6) + ((nI 4) * a1)) + (nI 0)), .ref 52]) (M' := M9) rfl ?_
    obtain ⟨j10, hj1, hj2, h⟩ := h
    refine vm_WM.ald (n := 70) (jj := j10) 9 rfl (Or.inl ⟨rfl, rfl⟩) (by decide) rfl hj1 hj2 ?_
    refine vm_WM.ret (r := some (.int (M9 52 j10))) 10 rfl rfl rfl ?_
    show vm_WM X 166 37 [.ref 48, .int a1, .int (v8 - (nI 100))] [.int (M9 52 j10)] M9 _
    refine vm_WM.seq 22 1 (pc' := 38) (L' := [.ref 48, .int a1, .int (v8 - (nI 100))]) (S' := [.int (nI 5), .int (M9 52 j10)]) (M' := M9) rfl ?_
    refine vm_WM.if (c := (M9 52 j10) = (nI 5)) (t1 := 41) (t2 := 47) (S' := []) 23 rfl rfl rfl (fun hc => ?_) (fun hc => ?_)
    · replace h := h.1 hc
      refine vm_WM.seq 24 4 (pc' := 48) (L' := [.ref 48, .int a1, .int (v8 - (nI 100))]) (S' := [.int ((nI 2) * (v8 - (nI 100)))]) (M' := M9) rfl ?_
      exact vm_WM.ret (r := some (.int ((nI 2) * (v8 - (nI 100))))) 29 rfl rfl rfl ⟨_, rfl, h⟩
    · replace h := h.2 hc
      refine vm_WM.seq 28 1 (pc' := 48) (L' := [.ref 48, .int a1, .int (v8 - (nI 100))]) (S' := [.int (v8 - (nI 100))]) (M' := M9) rfl ?_
      exact vm_WM.ret (r := some (.int (v8 - (nI 100)))) 29 rfl rfl rfl ⟨_, rfl, h⟩
theorem v_Tape_next {X : Nat × (Nat → Int32)}  {M : vm_M} {P : vm_M → Prop} (h : ((M 5 3) < (M 5 1) → (∃ j1 : Nat, (M 5 3) = nI j1 ∧ j1 < 400 ∧ (((M 6 j1) = (nI 32) → (C_Tape_next_0 X  (vm_u2 M 5 3 ((M 5 3) + (nI 1))) P)) ∧ (¬ ((M 6 j1) = (nI 32)) → (∃ j2 : Nat, (M 5 3) = nI j2 ∧ j2 < 400 ∧ (((M 6 j2) = (nI 10) → (C_Tape_next_0 X  (vm_u2 M 5 3 ((M 5 3) + (nI 1))) P)) ∧ (¬ ((M 6 j2) = (nI 10)) → ((((vm_u2 M 5 2 (M 5 3)) 5 3) < ((vm_u2 M 5 2 (M 5 3)) 5 1) → (∃ j3 : Nat, ((vm_u2 M 5 2 (M 5 3)) 5 3) = nI j3 ∧ j3 < 400 ∧ (E_Tape_isLetter X ((vm_u2 M 5 2 (M 5 3)) 6 j3) (vm_u2 M 5 2 (M 5 3)) (fun v4 M5 => (v4 = 0 → (∃ j6 : Nat, (M5 5 3) = nI j6 ∧ j6 < 400 ∧ (E_Tape_isFigure X (M5 6 j6) M5 (fun v7 M8 => (v7 = 0 → (∃ j9 : Nat, (M8 5 3) = nI j9 ∧ j9 < 400 ∧ (((M8 6 j9) = (nI 59) → (P  (vm_u2 (vm_u2 M8 5 4 (nI 3)) 5 3 (((vm_u2 M8 5 4 (nI 3)) 5 3) + (nI 1))))) ∧ (¬ ((M8 6 j9) = (nI 59)) → (P  (vm_u2 (vm_u2 M8 5 4 (nI 4)) 5 3 (((vm_u2 M8 5 4 (nI 4)) 5 3) + (nI 1)))))))) ∧ (¬ (v7 = 0) → (C_Tape_next_158 X  (vm_u2 M8 5 5 (nI 0)) P)))))) ∧ (¬ (v4 = 0) → (C_Tape_next_99 X  (vm_u2 M5 5 4 (nI 1)) P)))))) ∧ (¬ (((vm_u2 M 5 2 (M 5 3)) 5 3) < ((vm_u2 M 5 2 (M 5 3)) 5 1)) → (P  (vm_u2 (vm_u2 M 5 2 (M 5 3)) 5 4 (nI 0)))))))))))) ∧ (¬ ((M 5 3) < (M 5 1)) → ((((vm_u2 M 5 2 (M 5 3)) 5 3) < ((vm_u2 M 5 2 (M 5 3)) 5 1) → (∃ j10 : Nat, ((vm_u2 M 5 2 (M 5 3)) 5 3) = nI j10 ∧ j10 < 400 ∧ (E_Tape_isLetter X ((vm_u2 M 5 2 (M 5 3)) 6 j10) (vm_u2 M 5 2 (M 5 3)) (fun v11 M12 => (v11 = 0 → (∃ j13 : Nat, (M12 5 3) = nI j13 ∧ j13 < 400 ∧ (E_Tape_isFigure X (M12 6 j13) M12 (fun v14 M15 => (v14 = 0 → (∃ j16 : Nat, (M15 5 3) = nI j16 ∧ j16 < 400 ∧ (((M15 6 j16) = (nI 59) → (P  (vm_u2 (vm_u2 M15 5 4 (nI 3)) 5 3 (((vm_u2 M15 5 4 (nI 3)) 5 3) + (nI 1))))) ∧ (¬ ((M15 6 j16) = (nI 59)) → (P  (vm_u2 (vm_u2 M15 5 4 (nI 4)) 5 3 (((vm_u2 M15 5 4 (nI 4)) 5 3) + (nI 1)))))))) ∧ (¬ (v14 = 0) → (C_Tape_next_158 X  (vm_u2 M15 5 5 (nI 0)) P)))))) ∧ (¬ (v11 = 0) → (C_Tape_next_99 X  (vm_u2 M12 5 4 (nI 1)) P)))))) ∧ (¬ (((vm_u2 M 5 2 (M 5 3)) 5 3) < ((vm_u2 M 5 2 (M 5 3)) 5 1)) → (P  (vm_u2 (vm_u2 M 5 2 (M 5 3)) 5 4 (nI 0))))))) : E_Tape_next X  M P := by
  unfold E_Tape_next
  refine vm_WM.seq 0 4 (pc' := 8) (L' := [.ref 5]) (S' := [.int (M 5 1), .int (M 5 3)]) (M' := M) rfl ?_
  refine vm_WM.if (c := (M 5 3) < (M 5 1)) (t1 := 11) (t2 := 52) (S' := []) 4 rfl rfl rfl (fun hc => ?_) (fun hc => ?_)
  · replace h := h.1 hc
    refine vm_WM.seq 5 4 (pc' := 19) (L' := [.ref 5]) (S' := [.int (M 5 3), .ref 6]) (M' := M) rfl ?_
    obtain ⟨j1, hj1, hj2, h⟩ := h
    refine vm_WM.ald (n := 400) (jj := j1) 9 rfl (Or.inr ⟨rfl, Or.inl rfl⟩) (by decide) rfl hj1 hj2 ?_
    refine vm_WM.seq 10 1 (pc' := 22) (L' := [.ref 5]) (S' := [.int (nI 32), .int (M 6 j1)]) (M' := M) rfl ?_
    refine vm_WM.if (c := (M 6 j1) = (nI 32)) (t1 := 39) (t2 := 25) (S' := []) 11 rfl rfl rfl (fun hc => ?_) (fun hc => ?_)
    · replace h := h.1 hc
      refine vm_WM.seq 19 7 (pc' := 0) (L' := [.ref 5]) (S' := []) (M' := (vm_u2 M 5 3 ((M 5 3) + (nI 1)))) rfl ?_
      exact h
    · replace h := h.2 hc
      refine vm_WM.seq 12 4 (pc' := 33) (L' := [.ref 5]) (S' := [.int (M 5 3), .ref 6]) (M' := M) rfl ?_
      obtain ⟨j2, hj1, hj2, h⟩ := h
      refine vm_WM.ald (n := 400) (jj := j2) 16 rfl (Or.inr ⟨rfl, Or.inl rfl⟩) (by decide) rfl hj1 hj2 ?_
      refine vm_WM.seq 17 1 (pc' := 36) (L' := [.ref 5]) (S' := [.int (nI 10), .int (M 6 j2)]) (M' := M) rfl ?_
      refine vm_WM.if (c := (M 6 j2) = (nI 10)) (t1 := 39) (t2 := 52) (S' := []) 18 rfl rfl rfl (fun hc => ?_) (fun hc => ?_)
      · replace h := h.1 hc
        refine vm_WM.seq 19 7 (pc' := 0) (L' := [.ref 5]) (S' := []) (M' := (vm_u2 M 5 3 ((M 5 3) + (nI 1)))) rfl ?_
        exact h
      · replace h := h.2 hc
        refine vm_WM.seq 26 8 (pc' := 68) (L' := [.ref 5]) (S' := [.int ((vm_u2 M 5 2 (M 5 3)) 5 1), .int ((vm_u2 M 5 2 (M 5 3)) 5 3)]) (M' := (vm_u2 M 5 2 (M 5 3))) rfl ?_
        refine vm_WM.if (c := ((vm_u2 M 5 2 (M 5 3)) 5 3) < ((vm_u2 M 5 2 (M 5 3)) 5 1)) (t1 := 79) (t2 := 71) (S' := []) 34 rfl rfl rfl (fun hc => ?_) (fun hc => ?_)
        · replace h := h.1 hc
          refine vm_WM.seq 39 4 (pc' := 87) (L' := [.ref 5]) (S' := [.int ((vm_u2 M 5 2 (M 5 3)) 5 3), .ref 6]) (M' := (vm_u2 M 5 2 (M 5 3))) rfl ?_
          obtain ⟨j3, hj1, hj2, h⟩ := h
          refine vm_WM.ald (n := 400) (jj := j3) 43 rfl (Or.inr ⟨rfl, Or.inl rfl⟩) (by decide) rfl hj1 hj2 ?_
          refine vm_WM.call (a := 71) (as := [.int ((vm_u2 M 5 2 (M 5 3)) 6 j3)]) (rest := []) (L0 := [.int ((vm_u2 M 5 2 (M 5 3)) 6 j3)]) 44 rfl rfl (by decide) rfl rfl ⟨rfl, Or.inl rfl, Nat.le_of_ble_eq_true rfl, Nat.le_of_ble_eq_true rfl⟩ rfl rfl rfl ?_
          refine vm_WM.theni h (fun v4 M5 h => ?_)
          show vm_WM X 70 91 [.ref 5] [.int v4] M5 _
          refine vm_WM.if (c := v4 = 0) (t1 := 138) (t2 := 94) (S' := []) 45 rfl rfl rfl (fun hc => ?_) (fun hc => ?_)
          · replace h := h.1 hc
            refine vm_WM.seq 68 4 (pc' := 146) (L' := [.ref 5]) (S' := [.int (M5 5 3), .ref 6]) (M' := M5) rfl ?_
            obtain ⟨j6, hj1, hj2, h⟩ := h
            refine vm_WM.ald (n := 400) (jj := j6) 72 rfl (Or.inr ⟨rfl, Or.inl rfl⟩) (by decide) rfl hj1 hj2 ?_
            refine vm_WM.call (a := 72) (as := [.int (M5 6 j6)]) (rest := []) (L0 := [.int (M5 6 j6)]) 73 rfl rfl (by decide) rfl rfl ⟨rfl, Or.inl rfl, Nat.le_of_ble_eq_true rfl, Nat.le_of_ble_eq_true rfl⟩ rfl rfl rfl ?_
            refine vm_WM.theni h (fun v7 M8 h => ?_)
            show vm_WM X 70 150 [.ref 5] [.int v7] M8 _
            refine vm_WM.if (c := v7 = 0) (t1 := 246) (t2 := 153) (S' := []) 74 rfl rfl rfl (fun hc => ?_) (fun hc => ?_)
            · replace h := h.1 hc
              refine vm_WM.seq 124 5 (pc' := 255) (L' := [.ref 5]) (S' := [.int (M8 5 3), .ref 6, .ref 5]) (M' := M8) rfl ?_
              obtain ⟨j9, hj1, hj2, h⟩ := h
              refine vm_WM.ald (n := 400) (jj := j9) 129 rfl (Or.inr ⟨rfl, Or.inl rfl⟩) (by decide) rfl hj1 hj2 ?_
              refine vm_WM.seq 130 1 (pc' := 258) (L' := [.ref 5]) (S' := [.int (nI 59), .int (M8 6 j9), .ref 5]) (M' := M8) rfl ?_
              refine vm_WM.if (c := (M8 6 j9) = (nI 59)) (t1 := 261) (t2 := 265) (S' := [.ref 5]) 131 rfl rfl rfl (fun hc => ?_) (fun hc => ?_)
              · replace h := h.1 hc
                refine vm_WM.seq 132 2 (pc' := 266) (L' := [.ref 5]) (S' := [.int (nI 3), .ref 5]) (M' := M8) rfl ?_
                refine vm_WM.seq 135 7 (pc' := 279) (L' := [.ref 5]) (S' := []) (M' := (vm_u2 (vm_u2 M8 5 4 (nI 3)) 5 3 (((vm_u2 M8 5 4 (nI 3)) 5 3) + (nI 1)))) rfl ?_
                exact vm_WM.ret (r := none) 142 rfl rfl rfl ⟨rfl, h⟩
              · replace h := h.2 hc
                refine vm_WM.seq 134 8 (pc' := 279) (L' := [.ref 5]) (S' := []) (M' := (vm_u2 (vm_u2 M8 5 4 (nI 4)) 5 3 (((vm_u2 M8 5 4 (nI 4)) 5 3) + (nI 1)))) rfl ?_
                exact vm_WM.ret (r := none) 142 rfl rfl rfl ⟨rfl, h⟩
            · replace h := h.2 hc
              refine vm_WM.seq 75 3 (pc' := 158) (L' := [.ref 5]) (S' := []) (M' := (vm_u2 M8 5 5 (nI 0))) rfl ?_
              exact h
          · replace h := h.2 hc
            refine vm_WM.seq 46 3 (pc' := 99) (L' := [.ref 5]) (S' := []) (M' := (vm_u2 M5 5 4 (nI 1))) rfl ?_
            exact h
        · replace h := h.2 hc
          refine vm_WM.seq 35 4 (pc' := 279) (L' := [.ref 5]) (S' := []) (M' := (vm_u2 (vm_u2 M 5 2 (M 5 3)) 5 4 (nI 0))) rfl ?_
          exact vm_WM.ret (r := none) 142 rfl rfl rfl ⟨rfl, h⟩
  · replace h := h.2 hc
    refine vm_WM.seq 26 8 (pc' := 68) (L' := [.ref 5]) (S' := [.int ((vm_u2 M 5 2 (M 5 3)) 5 1), .int ((vm_u2 M 5 2 (M 5 3)) 5 3)]) (M' := (vm_u2 M 5 2 (M 5 3))) rfl ?_
    refine vm_WM.if (c := ((vm_u2 M 5 2 (M 5 3)) 5 3) < ((vm_u2 M 5 2 (M 5 3)) 5 1)) (t1 := 79) (t2 := 71) (S' := []) 34 rfl rfl rfl (fun hc => ?_) (fun hc => ?_)
    · replace h := h.1 hc
      refine vm_WM.seq 39 4 (pc' := 87) (L' := [.ref 5]) (S' := [.int ((vm_u2 M 5 2 (M 5 3)) 5 3), .ref 6]) (M' := (vm_u2 M 5 2 (M 5 3))) rfl ?_
      obtain ⟨j10, hj1, hj2, h⟩ := h
      refine vm_WM.ald (n := 400) (jj := j10) 43 rfl (Or.inr ⟨rfl, Or.inl rfl⟩) (by decide) rfl hj1 hj2 ?_
      refine vm_WM.call (a := 71) (as := [.int ((vm_u2 M 5 2 (M 5 3)) 6 j10)]) (rest := []) (L0 := [.int ((vm_u2 M 5 2 (M 5 3)) 6 j10)]) 44 rfl rfl (by decide) rfl rfl ⟨rfl, Or.inl rfl, Nat.le_of_ble_eq_true rfl, Nat.le_of_ble_eq_true rfl⟩ rfl rfl rfl ?_
      refine vm_WM.theni h (fun v11 M12 h => ?_)
      show vm_WM X 70 91 [.ref 5] [.int v11] M12 _
      refine vm_WM.if (c := v11 = 0) (t1 := 138) (t2 := 94) (S' := []) 45 rfl rfl rfl (fun hc => ?_) (fun hc => ?_)
      · replace h := h.1 hc
        refine vm_WM.seq 68 4 (pc' := 146) (L' := [.ref 5]) (S' := [.int (M12 5 3), .ref 6]) (M' := M12) rfl ?_
        obtain ⟨j13, hj1, hj2, h⟩ := h
        refine vm_WM.ald (n := 400) (jj := j13) 72 rfl (Or.inr ⟨rfl, Or.inl rfl⟩) (by decide) rfl hj1 hj2 ?_
        refine vm_WM.call (a := 72) (as := [.int (M12 6 j13)]) (rest := []) (L0 := [.int (M12 6 j13)]) 73 rfl rfl (by decide) rfl rfl ⟨rfl, Or.inl rfl, Nat.le_of_ble_eq_true rfl, Nat.le_of_ble_eq_true rfl⟩ rfl rfl rfl ?_
        refine vm_WM.theni h (fun v14 M15 h => ?_)
        show vm_WM X 70 150 [.ref 5] [.int v14] M15 _
        refine vm_WM.if (c := v14 = 0) (t1 := 246) (t2 := 153) (S' := []) 74 rfl rfl rfl (fun hc => ?_) (fun hc => ?_)
        · replace h := h.1 hc
          refine vm_WM.seq 124 5 (pc' := 255) (L' := [.ref 5]) (S' := [.int (M15 5 3), .ref 6, .ref 5]) (M' := M15) rfl ?_
          obtain ⟨j16, hj1, hj2, h⟩ := h
          refine vm_WM.ald (n := 400) (jj := j16) 129 rfl (Or.inr ⟨rfl, Or.inl rfl⟩) (by decide) rfl hj1 hj2 ?_
          refine vm_WM.seq 130 1 (pc' := 258) (L' := [.ref 5]) (S' := [.int (nI 59), .int (M15 6 j16), .ref 5]) (M' := M15) rfl ?_
          refine vm_WM.if (c := (M15 6 j16) = (nI 59)) (t1 := 261) (t2 := 265) (S' := [.ref 5]) 131 rfl rfl rfl (fun hc => ?_) (fun hc => ?_)
          · replace h := h.1 hc
            refine vm_WM.seq 132 2 (pc' := 266) (L' := [.ref 5]) (S' := [.int (nI 3), .ref 5]) (M' := M15) rfl ?_
            refine vm_WM.seq 135 7 (pc' := 279) (L' := [.ref 5]) (S' := []) (M' := (vm_u2 (vm_u2 M15 5 4 (nI 3)) 5 3 (((vm_u2 M15 5 4 (nI 3)) 5 3) + (nI 1)))) rfl ?_
            exact vm_WM.ret (r := none) 142 rfl rfl rfl ⟨rfl, h⟩
          · replace h := h.2 hc
            refine vm_WM.seq 134 8 (pc' := 279) (L' := [.ref 5]) (S' := []) (M' := (vm_u2 (vm_u2 M15 5 4 (nI 4)) 5 3 (((vm_u2 M15 5 4 (nI 4)) 5 3) + (nI 1)))) rfl ?_
            exact vm_WM.ret (r := none) 142 rfl rfl rfl ⟨rfl, h⟩
        · replace h := h.2 hc
          refine vm_WM.seq 75 3 (pc' := 158) (L' := [.ref 5]) (S' := []) (M' := (vm_u2 M15 5 5 (nI 0))) rfl ?_
          exact h
      · replace h := h.2 hc
        refine vm_WM.seq 46 3 (pc' := 99) (L' := [.ref 5]) (S' := []) (M' := (vm_u2 M12 5 4 (nI 1))) rfl ?_
        exact h
    · replace h := h.2 hc
      refine vm_WM.seq 35 4 (pc' := 279) (L' := [.ref 5]) (S' := []) (M' := (vm_u2 (vm_u2 M 5 2 (M 5 3)) 5 4 (nI 0))) rfl ?_
      exact vm_WM.ret (r := none) 142 rfl rfl rfl ⟨rfl, h⟩
theorem v_Tape_next_0 {X : Nat × (Nat → Int32)}  {M : vm_M} {P : vm_M → Prop} (h : ((M 5 3) < (M 5 1) → (∃ j1 : Nat, (M 5 3) = nI j1 ∧ j1 < 400 ∧ (((M 6 j1) = (nI 32) → (C_Tape_next_0 X  (vm_u2 M 5 3 ((M 5 3) + (nI 1))) P)) ∧ (¬ ((M 6 j1) = (nI 32)) → (∃ j2 : Nat, (M 5 3) = nI j2 ∧ j2 < 400 ∧ (((M 6 j2) = (nI 10) → (C_Tape_next_0 X  (vm_u2 M 5 3 ((M 5 3) + (nI 1))) P)) ∧ (¬ ((M 6 j2) = (nI 10)) → ((((vm_u2 M 5 2 (M 5 3)) 5 3) < ((vm_u2 M 5 2 (M 5 3)) 5 1) → (∃ j3 : Nat, ((vm_u2 M 5 2 (M 5 3)) 5 3) = nI j3 ∧ j3 < 400 ∧ (E_Tape_isLetter X ((vm_u2 M 5 2 (M 5 3)) 6 j3) (vm_u2 M 5 2 (M 5 3)) (fun v4 M5 => (v4 = 0 → (∃ j6 : Nat, (M5 5 3) = nI j6 ∧ j6 < 400 ∧ (E_Tape_isFigure X (M5 6 j6) M5 (fun v7 M8 => (v7 = 0 → (∃ j9 : Nat, (M8 5 3) = nI j9 ∧ j9 < 400 ∧ (((M8 6 j9) = (nI 59) → (P  (vm_u2 (vm_u2 M8 5 4 (nI 3)) 5 3 (((vm_u2 M8 5 4 (nI 3)) 5 3) + (nI 1))))) ∧ (¬ ((M8 6 j9) = (nI 59)) → (P  (vm_u2 (vm_u2 M8 5 4 (nI 4)) 5 3 (((vm_u2 M8 5 4 (nI 4)) 5 3) + (nI 1)))))))) ∧ (¬ (v7 = 0) → (C_Tape_next_158 X  (vm_u2 M8 5 5 (nI 0)) P)))))) ∧ (¬ (v4 = 0) → (C_Tape_next_99 X  (vm_u2 M5 5 4 (nI 1)) P)))))) ∧ (¬ (((vm_u2 M 5 2 (M 5 3)) 5 3) < ((vm_u2 M 5 2 (M 5 3)) 5 1)) → (P  (vm_u2 (vm_u2 M 5 2 (M 5 3)) 5 4 (nI 0)))))))))))) ∧ (¬ ((M 5 3) < (M 5 1)) → ((((vm_u2 M 5 2 (M 5 3)) 5 3) < ((vm_u2 M 5 2 (M 5 3)) 5 1) → (∃ j10 : Nat, ((vm_u2 M 5 2 (M 5 3)) 5 3) = nI j10 ∧ j10 < 400 ∧ (E_Tape_isLetter X ((vm_u2 M 5 2 (M 5 3)) 6 j10) (vm_u2 M 5 2 (M 5 3)) (fun v11 M12 => (v11 = 0 → (∃ j13 : Nat, (M12 5 3) = nI j13 ∧ j13 < 400 ∧ (E_Tape_isFigure X (M12 6 j13) M12 (fun v14 M15 => (v14 = 0 → (∃ j16 : Nat, (M15 5 3) = nI j16 ∧ j16 < 400 ∧ (((M15 6 j16) = (nI 59) → (P  (vm_u2 (vm_u2 M15 5 4 (nI 3)) 5 3 (((vm_u2 M15 5 4 (nI 3)) 5 3) + (nI 1))))) ∧ (¬ ((M15 6 j16) = (nI 59)) → (P  (vm_u2 (vm_u2 M15 5 4 (nI 4)) 5 3 (((vm_u2 M15 5 4 (nI 4)) 5 3) + (nI 1)))))))) ∧ (¬ (v14 = 0) → (C_Tape_next_158 X  (vm_u2 M15 5 5 (nI 0)) P)))))) ∧ (¬ (v11 = 0) → (C_Tape_next_99 X  (vm_u2 M12 5 4 (nI 1)) P)))))) ∧ (¬ (((vm_u2 M 5 2 (M 5 3)) 5 3) < ((vm_u2 M 5 2 (M 5 3)) 5 1)) → (P  (vm_u2 (vm_u2 M 5 2 (M 5 3)) 5 4 (nI 0))))))) : C_Tape_next_0 X  M P := by
  unfold C_Tape_next_0
  refine vm_WM.seq 0 4 (pc' := 8) (L' := [.ref 5]) (S' := [.int (M 5 1), .int (M 5 3)]) (M' := M) rfl ?_
  refine vm_WM.if (c := (M 5 3) < (M 5 1)) (t1 := 11) (t2 := 52) (S' := []) 4 rfl rfl rfl (fun hc => ?_) (fun hc => ?_)
  · replace h := h.1 hc
    refine vm_WM.seq 5 4 (pc' := 19) (L' := [.ref 5]) (S' := [.int (M 5 3), .ref 6]) (M' := M) rfl ?_
    obtain ⟨j1, hj1, hj2, h⟩ := h
    refine vm_WM.ald (n := 400) (jj := j1) 9 rfl (Or.inr ⟨rfl, Or.inl rfl⟩) (by decide) rfl hj1 hj2 ?_
    refine vm_WM.seq 10 1 (pc' := 22) (L' := [.ref 5]) (S' := [.int (nI 32), .int (M 6 j1)]) (M' := M) rfl ?_
    refine vm_WM.if (c := (M 6 j1) = (nI 32)) (t1 := 39) (t2 := 25) (S' := []) 11 rfl rfl rfl (fun hc => ?_) (fun hc => ?_)
    · replace h := h.1 hc
      refine vm_WM.seq 19 7 (pc' := 0) (L' := [.ref 5]) (S' := []) (M' := (vm_u2 M 5 3 ((M 5 3) + (nI 1)))) rfl ?_
      exact h
    · replace h := h.2 hc
      refine vm_WM.seq 12 4 (pc' := 33) (L' := [.ref 5]) (S' := [.int (M 5 3), .ref 6]) (M' := M) rfl ?_
      obtain ⟨j2, hj1, hj2, h⟩ := h
      refine vm_WM.ald (n := 400) (jj := j2) 16 rfl (Or.inr ⟨rfl, Or.inl rfl⟩) (by decide) rfl hj1 hj2 ?_
      refine vm_WM.seq 17 1 (pc' := 36) (L' := [.ref 5]) (S' := [.int (nI 10), .int (M 6 j2)]) (M' := M) rfl ?_
      refine vm_WM.if (c := (M 6 j2) = (nI 10)) (t1 := 39) (t2 := 52) (S' := []) 18 rfl rfl rfl (fun hc => ?_) (fun hc => ?_)
      · replace h := h.1 hc
        refine vm_WM.seq 19 7 (pc' := 0) (L' := [.ref 5]) (S' := []) (M' := (vm_u2 M 5 3 ((M 5 3) + (nI 1)))) rfl ?_
        exact h
      · replace h := h.2 hc
        refine vm_WM.seq 26 8 (pc' := 68) (L' := [.ref 5]) (S' := [.int ((vm_u2 M 5 2 (M 5 3)) 5 1), .int ((vm_u2 M 5 2 (M 5 3)) 5 3)]) (M' := (vm_u2 M 5 2 (M 5 3))) rfl ?_
        refine vm_WM.if (c := ((vm_u2 M 5 2 (M 5 3)) 5 3) < ((vm_u2 M 5 2 (M 5 3)) 5 1)) (t1 := 79) (t2 := 71) (S' := []) 34 rfl rfl rfl (fun hc => ?_) (fun hc => ?_)
        · replace h := h.1 hc
          refine vm_WM.seq 39 4 (pc' := 87) (L' := [.ref 5]) (S' := [.int ((vm_u2 M 5 2 (M 5 3)) 5 3), .ref 6]) (M' := (vm_u2 M 5 2 (M 5 3))) rfl ?_
          obtain ⟨j3, hj1, hj2, h⟩ := h
          refine vm_WM.ald (n := 400) (jj := j3) 43 rfl (Or.inr ⟨rfl, Or.inl rfl⟩) (by decide) rfl hj1 hj2 ?_
          refine vm_WM.call (a := 71) (as := [.int ((vm_u2 M 5 2 (M 5 3)) 6 j3)]) (rest := []) (L0 := [.int ((vm_u2 M 5 2 (M 5 3)) 6 j3)]) 44 rfl rfl (by decide) rfl rfl ⟨rfl, Or.inl rfl, Nat.le_of_ble_eq_true rfl, Nat.le_of_ble_eq_true rfl⟩ rfl rfl rfl ?_
          refine vm_WM.theni h (fun v4 M5 h => ?_)
          show vm_WM X 70 91 [.ref 5] [.int v4] M5 _
          refine vm_WM.if (c := v4 = 0) (t1 := 138) (t2 := 94) (S' := []) 45 rfl rfl rfl (fun hc => ?_) (fun hc => ?_)
          · replace h := h.1 hc
            refine vm_WM.seq 68 4 (pc' := 146) (L' := [.ref 5]) (S' := [.int (M5 5 3), .ref 6]) (M' := M5) rfl ?_
            obtain ⟨j6, hj1, hj2, h⟩ := h
            refine vm_WM.ald (n := 400) (jj := j6) 72 rfl (Or.inr ⟨rfl, Or.inl rfl⟩) (by decide) rfl hj1 hj2 ?_
            refine vm_WM.call (a := 72) (as := [.int (M5 6 j6)]) (rest := []) (L0 := [.int (M5 6 j6)]) 73 rfl rfl (by decide) rfl rfl ⟨rfl, Or.inl rfl, Nat.le_of_ble_eq_true rfl, Nat.le_of_ble_eq_true rfl⟩ rfl rfl rfl ?_
            refine vm_WM.theni h (fun v7 M8 h => ?_)
            show vm_WM X 70 150 [.ref 5] [.int v7] M8 _
            refine vm_WM.if (c := v7 = 0) (t1 := 246) (t2 := 153) (S' := []) 74 rfl rfl rfl (fun hc => ?_) (fun hc => ?_)
            · replace h := h.1 hc
              refine vm_WM.seq 124 5 (pc' := 255) (L' := [.ref 5]) (S' := [.int (M8 5 3), .ref 6, .ref 5]) (M' := M8) rfl ?_
              obtain ⟨j9, hj1, hj2, h⟩ := h
              refine vm_WM.ald (n := 400) (jj := j9) 129 rfl (Or.inr ⟨rfl, Or.inl rfl⟩) (by decide) rfl hj1 hj2 ?_
              refine vm_WM.seq 130 1 (pc' := 258) (L' := [.ref 5]) (S' := [.int (nI 59), .int (M8 6 j9), .ref 5]) (M' := M8) rfl ?_
              refine vm_WM.if (c := (M8 6 j9) = (nI 59)) (t1 := 261) (t2 := 265) (S' := [.ref 5]) 131 rfl rfl rfl (fun hc => ?_) (fun hc => ?_)
              · replace h := h.1 hc
                refine vm_WM.seq 132 2 (pc' := 266) (L' := [.ref 5]) (S' := [.int (nI 3), .ref 5]) (M' := M8) rfl ?_
                refine vm_WM.seq 135 7 (pc' := 279) (L' := [.ref 5]) (S' := []) (M' := (vm_u2 (vm_u2 M8 5 4 (nI 3)) 5 3 (((vm_u2 M8 5 4 (nI 3)) 5 3) + (nI 1)))) rfl ?_
                exact vm_WM.ret (r := none) 142 rfl rfl rfl ⟨rfl, h⟩
              · replace h := h.2 hc
                refine vm_WM.seq 134 8 (pc' := 279) (L' := [.ref 5]) (S' := []) (M' := (vm_u2 (vm_u2 M8 5 4 (nI 4)) 5 3 (((vm_u2 M8 5 4 (nI 4)) 5 3) + (nI 1)))) rfl ?_
                exact vm_WM.ret (r := none) 142 rfl rfl rfl ⟨rfl, h⟩
            · replace h := h.2 hc
              refine vm_WM.seq 75 3 (pc' := 158) (L' := [.ref 5]) (S' := []) (M' := (vm_u2 M8 5 5 (nI 0))) rfl ?_
              exact h
          · replace h := h.2 hc
            refine vm_WM.seq 46 3 (pc' := 99) (L' := [.ref 5]) (S' := []) (M' := (vm_u2 M5 5 4 (nI 1))) rfl ?_
            exact h
        · replace h := h.2 hc
          refine vm_WM.seq 35 4 (pc' := 279) (L' := [.ref 5]) (S' := []) (M' := (vm_u2 (vm_u2 M 5 2 (M 5 3)) 5 4 (nI 0))) rfl ?_
          exact vm_WM.ret (r := none) 142 rfl rfl rfl ⟨rfl, h⟩
  · replace h := h.2 hc
    refine vm_WM.seq 26 8 (pc' := 68) (L' := [.ref 5]) (S' := [.int ((vm_u2 M 5 2 (M 5 3)) 5 1), .int ((vm_u2 M 5 2 (M 5 3)) 5 3)]) (M' := (vm_u2 M 5 2 (M 5 3))) rfl ?_
    refine vm_WM.if (c := ((vm_u2 M 5 2 (M 5 3)) 5 3) < ((vm_u2 M 5 2 (M 5 3)) 5 1)) (t1 := 79) (t2 := 71) (S' := []) 34 rfl rfl rfl (fun hc => ?_) (fun hc => ?_)
    · replace h := h.1 hc
      refine vm_WM.seq 39 4 (pc' := 87) (L' := [.ref 5]) (S' := [.int ((vm_u2 M 5 2 (M 5 3)) 5 3), .ref 6]) (M' := (vm_u2 M 5 2 (M 5 3))) rfl ?_
      obtain ⟨j10, hj1, hj2, h⟩ := h
      refine vm_WM.ald (n := 400) (jj := j10) 43 rfl (Or.inr ⟨rfl, Or.inl rfl⟩) (by decide) rfl hj1 hj2 ?_
      refine vm_WM.call (a := 71) (as := [.int ((vm_u2 M 5 2 (M 5 3)) 6 j10)]) (rest := []) (L0 := [.int ((vm_u2 M 5 2 (M 5 3)) 6 j10)]) 44 rfl rfl (by decide) rfl rfl ⟨rfl, Or.inl rfl, Nat.le_of_ble_eq_true rfl, Nat.le_of_ble_eq_true rfl⟩ rfl rfl rfl ?_
      refine vm_WM.theni h (fun v11 M12 h => ?_)
      show vm_WM X 70 91 [.ref 5] [.int v11] M12 _
      refine vm_WM.if (c := v11 = 0) (t1 := 138) (t2 := 94) (S' := []) 45 rfl rfl rfl (fun hc => ?_) (fun hc => ?_)
      · replace h := h.1 hc
        refine vm_WM.seq 68 4 (pc' := 146) (L' := [.ref 5]) (S' := [.int (M12 5 3), .ref 6]) (M' := M12) rfl ?_
        obtain ⟨j13, hj1, hj2, h⟩ := h
        refine vm_WM.ald (n := 400) (jj := j13) 72 rfl (Or.inr ⟨rfl, Or.inl rfl⟩) (by decide) rfl hj1 hj2 ?_
        refine vm_WM.call (a := 72) (as := [.int (M12 6 j13)]) (rest := []) (L0 := [.int (M12 6 j13)]) 73 rfl rfl (by decide) rfl rfl ⟨rfl, Or.inl rfl, Nat.le_of_ble_eq_true rfl, Nat.le_of_ble_eq_true rfl⟩ rfl rfl rfl ?_
        refine vm_WM.theni h (fun v14 M15 h => ?_)
        show vm_WM X 70 150 [.ref 5] [.int v14] M15 _
        refine vm_WM.if (c := v14 = 0) (t1 := 246) (t2 := 153) (S' := []) 74 rfl rfl rfl (fun hc => ?_) (fun hc => ?_)
        · replace h := h.1 hc
          refine vm_WM.seq 124 5 (pc' := 255) (L' := [.ref 5]) (S' := [.int (M15 5 3), .ref 6, .ref 5]) (M' := M15) rfl ?_
          obtain ⟨j16, hj1, hj2, h⟩ := h
          refine vm_WM.ald (n := 400) (jj := j16) 129 rfl (Or.inr ⟨rfl, Or.inl rfl⟩) (by decide) rfl hj1 hj2 ?_
          refine vm_WM.seq 130 1 (pc' := 258) (L' := [.ref 5]) (S' := [.int (nI 59), .int (M15 6 j16), .ref 5]) (M' := M15) rfl ?_
          refine vm_WM.if (c := (M15 6 j16) = (nI 59)) (t1 := 261) (t2 := 265) (S' := [.ref 5]) 131 rfl rfl rfl (fun hc => ?_) (fun hc => ?_)
          · replace h := h.1 hc
            refine vm_WM.seq 132 2 (pc' := 266) (L' := [.ref 5]) (S' := [.int (nI 3), .ref 5]) (M' := M15) rfl ?_
            refine vm_WM.seq 135 7 (pc' := 279) (L' := [.ref 5]) (S' := []) (M' := (vm_u2 (vm_u2 M15 5 4 (nI 3)) 5 3 (((vm_u2 M15 5 4 (nI 3)) 5 3) + (nI 1)))) rfl ?_
            exact vm_WM.ret (r := none) 142 rfl rfl rfl ⟨rfl, h⟩
          · replace h := h.2 hc
            refine vm_WM.seq 134 8 (pc' := 279) (L' := [.ref 5]) (S' := []) (M' := (vm_u2 (vm_u2 M15 5 4 (nI 4)) 5 3 (((vm_u2 M15 5 4 (nI 4)) 5 3) + (nI 1)))) rfl ?_
            exact vm_WM.ret (r := none) 142 rfl rfl rfl ⟨rfl, h⟩
        · replace h := h.2 hc
          refine vm_WM.seq 75 3 (pc' := 158) (L' := [.ref 5]) (S' := []) (M' := (vm_u2 M15 5 5 (nI 0))) rfl ?_
          exact h
      · replace h := h.2 hc
        refine vm_WM.seq 46 3 (pc' := 99) (L' := [.ref 5]) (S' := []) (M' := (vm_u2 M12 5 4 (nI 1))) rfl ?_
        exact h
    · replace h := h.2 hc
      refine vm_WM.seq 35 4 (pc' := 279) (L' := [.ref 5]) (S' := []) (M' := (vm_u2 (vm_u2 M 5 2 (M 5 3)) 5 4 (nI 0))) rfl ?_
      exact vm_WM.ret (r := none) 142 rfl rfl rfl ⟨rfl, h⟩
theorem v_Tape_next_99 {X : Nat × (Nat → Int32)}  {M : vm_M} {P : vm_M → Prop} (h : ((M 5 3) < (M 5 1) → (∃ j1 : Nat, (M 5 3) = nI j1 ∧ j1 < 400 ∧ (E_Tape_isLetter X (M 6 j1) M (fun v2 M3 => (v2 = 0 → (P  M3)) ∧ (¬ (v2 = 0) → (C_Tape_next_99 X  (vm_u2 M3 5 3 ((M3 5 3) + (nI 1))) P)))))) ∧ (¬ ((M 5 3) < (M 5 1)) → (P  M))) : C_Tape_next_99 X  M P := by
  unfold C_Tape_next_99
  refine vm_WM.seq 49 4 (pc' := 107) (L' := [.ref 5]) (S' := [.int (M 5 1), .int (M 5 3)]) (M' := M) rfl ?_
  refine vm_WM.if (c := (M 5 3) < (M 5 1)) (t1 := 110) (t2 := 279) (S' := []) 53 rfl rfl rfl (fun hc => ?_) (fun hc => ?_)
  · replace h := h.1 hc
    refine vm_WM.seq 54 4 (pc' := 118) (L' := [.ref 5]) (S' := [.int (M 5 3), .ref 6]) (M' := M) rfl ?_
    obtain ⟨j1, hj1, hj2, h⟩ := h
    refine vm_WM.ald (n := 400) (jj := j1) 58 rfl (Or.inr ⟨rfl, Or.inl rfl⟩) (by decide) rfl hj1 hj2 ?_
    refine vm_WM.call (a := 71) (as := [.int (M 6 j1)]) (rest := []) (L0 := [.int (M 6 j1)]) 59 rfl rfl (by decide) rfl rfl ⟨rfl, Or.inl rfl, Nat.le_of_ble_eq_true rfl, Nat.le_of_ble_eq_true rfl⟩ rfl rfl rfl ?_
    refine vm_WM.theni h (fun v2 M3 h => ?_)
    show vm_WM X 70 122 [.ref 5] [.int v2] M3 _
    refine vm_WM.if (c := v2 = 0) (t1 := 279) (t2 := 125) (S' := []) 60 rfl rfl rfl (fun hc => ?_) (fun hc => ?_)
    · replace h := h.1 hc
      exact vm_WM.ret (r := none) 142 rfl rfl rfl ⟨rfl, h⟩
    · replace h := h.2 hc
      refine vm_WM.seq 61 7 (pc' := 99) (L' := [.ref 5]) (S' := []) (M' := (vm_u2 M3 5 3 ((M3 5 3) + (nI 1)))) rfl ?_
      exact h
  · replace h := h.2 hc
    exact vm_WM.ret (r := none) 142 rfl rfl rfl ⟨rfl, h⟩
theorem v_Tape_next_158 {X : Nat × (Nat → Int32)}  {M : vm_M} {P : vm_M → Prop} (h : ((M 5 3) < (M 5 1) → (∃ j1 : Nat, (M 5 3) = nI j1 ∧ j1 < 400 ∧ (E_Tape_isFigure X (M 6 j1) M (fun v2 M3 => (v2 = 0 → (((nI 3) < ((M3 5 3) - (M3 5 2)) → (P  (vm_u2 M3 5 4 (nI 4)))) ∧ (¬ ((nI 3) < ((M3 5 3) - (M3 5 2))) → (P  (vm_u2 M3 5 4 (nI 2)))))) ∧ (¬ (v2 = 0) → (∃ j4 : Nat, (M3 5 3) = nI j4 ∧ j4 < 400 ∧ (C_Tape_next_158 X  (vm_u2 (vm_u2 M3 5 5 ((((nI 10) * (M3 5 5)) + (M3 6 j4)) - (nI 48))) 5 3 (((vm_u2 M3 5 5 ((((nI 10) * (M3 5 5)) + (M3 6 j4)) - (nI 48))) 5 3) + (nI 1))) P))))))) ∧ (¬ ((M 5 3) < (M 5 1)) → (((nI 3) < ((M 5 3) - (M 5 2)) → (P  (vm_u2 M 5 4 (nI 4)))) ∧ (¬ ((nI 3) < ((M 5 3) - (M 5 2))) → (P  (vm_u2 M 5 4 (nI 2))))))) : C_Tape_next_158 X  M P := by
  unfold C_Tape_next_158
  refine vm_WM.seq 78 4 (pc' := 166) (L' := [.ref 5]) (S' := [.int (M 5 1), .int (M 5 3)]) (M' := M) rfl ?_
  refine vm_WM.if (c := (M 5 3) < (M 5 1)) (t1 := 169) (t2 := 221) (S' := []) 82 rfl rfl rfl (fun hc => ?_) (fun hc => ?_)
  · replace h := h.1 hc
    refine vm_WM.seq 83 4 (pc' := 177) (L' := [.ref 5]) (S' := [.int (M 5 3), .ref 6]) (M' := M) rfl ?_
    obtain ⟨j1, hj1, hj2, h⟩ := h
    refine vm_WM.ald (n := 400) (jj := j1) 87 rfl (Or.inr ⟨rfl, Or.inl rfl⟩) (by decide) rfl hj1 hj2 ?_
    refine vm_WM.call (a := 72) (as := [.int (M 6 j1)]) (rest := []) (L0 := [.int (M 6 j1)]) 88 rfl rfl (by decide) rfl rfl ⟨rfl, Or.inl rfl, Nat.le_of_ble_eq_true rfl, Nat.le_of_ble_eq_true rfl⟩ rfl rfl rfl ?_
    refine vm_WM.theni h (fun v2 M3 h => ?_)
    show vm_WM X 70 181 [.ref 5] [.int v2] M3 _
    refine vm_WM.if (c := v2 = 0) (t1 := 221) (t2 := 184) (S' := []) 89 rfl rfl rfl (fun hc => ?_) (fun hc => ?_)
    · replace h := h.1 hc
      refine vm_WM.seq 111 7 (pc' := 232) (L' := [.ref 5]) (S' := [.int (nI 3), .int ((M3 5 3) - (M3 5 2)), .ref 5]) (M' := M3) rfl ?_
      refine vm_WM.if (c := (nI 3) < ((M3 5 3) - (M3 5 2))) (t1 := 235) (t2 := 239) (S' := [.ref 5]) 118 rfl rfl rfl (fun hc => ?_) (fun hc => ?_)
      · replace h := h.1 hc
        refine vm_WM.seq 119 2 (pc' := 240) (L' := [.ref 5]) (S' := [.int (nI 4), .ref 5]) (M' := M3) rfl ?_
        refine vm_WM.seq 122 2 (pc' := 279) (L' := [.ref 5]) (S' := []) (M' := (vm_u2 M3 5 4 (nI 4))) rfl ?_
        exact vm_WM.ret (r := none) 142 rfl rfl rfl ⟨rfl, h⟩
      · replace h := h.2 hc
        refine vm_WM.seq 121 3 (pc' := 279) (L' := [.ref 5]) (S' := []) (M' := (vm_u2 M3 5 4 (nI 2))) rfl ?_
        exact vm_WM.ret (r := none) 142 rfl rfl rfl ⟨rfl, h⟩
    · replace h := h.2 hc
      refine vm_WM.seq 90 9 (pc' := 200) (L' := [.ref 5]) (S' := [.int (M3 5 3), .ref 6, .int ((nI 10) * (M3 5 5)), .ref 5]) (M' := M3) rfl ?_
      obtain ⟨j4, hj1, hj2, h⟩ := h
      refine vm_WM.ald (n := 400) (jj := j4) 99 rfl (Or.inr ⟨rfl, Or.inl rfl⟩) (by decide) rfl hj1 hj2 ?_
      refine vm_WM.seq 100 11 (pc' := 158) (L' := [.ref 5]) (S' := []) (M' := (vm_u2 (vm_u2 M3 5 5 ((((nI 10) * (M3 5 5)) + (M3 6 j4)) - (nI 48))) 5 3 (((vm_u2 M3 5 5 ((((nI 10) * (M3 5 5)) + (M3 6 j4)) - (nI 48))) 5 3) + (nI 1)))) rfl ?_
      exact h
  · replace h := h.2 hc
    refine vm_WM.seq 111 7 (pc' := 232) (L' := [.ref 5]) (S' := [.int (nI 3), .int ((M 5 3) - (M 5 2)), .ref 5]) (M' := M) rfl ?_
    refine vm_WM.if (c := (nI 3) < ((M 5 3) - (M 5 2))) (t1 := 235) (t2 := 239) (S' := [.ref 5]) 118 rfl rfl rfl (fun hc => ?_) (fun hc => ?_)
    · replace h := h.1 hc
      refine vm_WM.seq 119 2 (pc' := 240) (L' := [.ref 5]) (S' := [.int (nI 4), .ref 5]) (M' := M) rfl ?_
      refine vm_WM.seq 122 2 (pc' := 279) (L' := [.ref 5]) (S' := []) (M' := (vm_u2 M 5 4 (nI 4))) rfl ?_
      exact vm_WM.ret (r := none) 142 rfl rfl rfl ⟨rfl, h⟩
    · replace h := h.2 hc
      refine vm_WM.seq 121 3 (pc' := 279) (L' := [.ref 5]) (S' := []) (M' := (vm_u2 M 5 4 (nI 2))) rfl ?_
      exact vm_WM.ret (r := none) 142 rfl rfl rfl ⟨rfl, h⟩
