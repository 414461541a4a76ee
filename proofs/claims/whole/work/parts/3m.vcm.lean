/-! walks, by wip/whole/vcgen.py -/
theorem v_Tape_isWord_1000 {X : Nat × (Nat → Int32)}  {M : vm_M} {P : Int32 → vm_M → Prop} (h : ((M 5 4) = (nI 1) → ((((M 5 3) - (M 5 2)) = ((nI 5) >>> (0 &&& 31)) → (C_Tape_isWord_1000_28 X (nI 0) M P)) ∧ (¬ (((M 5 3) - (M 5 2)) = ((nI 5) >>> (0 &&& 31))) → (P (nI 0) M)))) ∧ (¬ ((M 5 4) = (nI 1)) → (P (nI 0) M))) : E_Tape_isWord_1000 X  M P := by
  unfold E_Tape_isWord_1000
  refine vm_WM.seq 0 3 (pc' := 5) (L' := [.ref 5, .ref 1000, .null]) (S' := [.int (nI 1), .int (M 5 4)]) (M' := M) rfl ?_
  refine vm_WM.if (c := (M 5 4) = (nI 1)) (t1 := 8) (t2 := 24) (S' := []) 3 rfl rfl rfl (fun hc => ?_) (fun hc => ?_)
  · replace h := h.1 hc
    refine vm_WM.seq 4 6 (pc' := 18) (L' := [.ref 5, .ref 1000, .null]) (S' := [.ref 1000, .int ((M 5 3) - (M 5 2))]) (M' := M) rfl ?_
    refine vm_WM.call (a := 173) (as := [.ref 1000]) (rest := [.int ((M 5 3) - (M 5 2))]) (L0 := [.ref 1000]) 10 rfl rfl (by decide) rfl rfl ⟨rfl, Or.inr rfl, Nat.le_of_ble_eq_true rfl, Nat.le_of_ble_eq_true rfl⟩ rfl rfl rfl ?_
    refine vm_WM.seq 0 4 (pc' := 6) (L' := [.ref 1000]) (S' := [.ref 1000, .int (nI 5)]) (M' := M) rfl ?_
    refine vm_WM.call (a := 175) (as := [.ref 1000]) (rest := [.int (nI 5)]) (L0 := [.ref 1000]) 4 rfl rfl (by decide) rfl rfl ⟨rfl, Or.inr rfl, Nat.le_of_ble_eq_true rfl, Nat.le_of_ble_eq_true rfl⟩ rfl rfl rfl ?_
    refine vm_WM.seq 0 5 (pc' := 14) (L' := [.ref 1000]) (S' := [.int 0]) (M' := M) rfl ?_
    refine vm_WM.ret (r := some (.int 0)) 6 rfl rfl rfl ?_
    show vm_WM X 173 9 [.ref 1000] [.int 0, .int (nI 5)] M _
    refine vm_WM.seq 5 1 (pc' := 10) (L' := [.ref 1000]) (S' := [.int ((nI 5) >>> (0 &&& 31))]) (M' := M) rfl ?_
    refine vm_WM.ret (r := some (.int ((nI 5) >>> (0 &&& 31)))) 6 rfl rfl rfl ?_
    show vm_WM X 69 21 [.ref 5, .ref 1000, .null] [.int ((nI 5) >>> (0 &&& 31)), .int ((M 5 3) - (M 5 2))] M _
    refine vm_WM.if (c := ((M 5 3) - (M 5 2)) = ((nI 5) >>> (0 &&& 31))) (t1 := 26) (t2 := 24) (S' := []) 11 rfl rfl rfl (fun hc => ?_) (fun hc => ?_)
    · replace h := h.1 hc
      refine vm_WM.seq 14 2 (pc' := 28) (L' := [.ref 5, .ref 1000, .int (nI 0)]) (S' := []) (M' := M) rfl ?_
      exact h
    · replace h := h.2 hc
      refine vm_WM.seq 12 1 (pc' := 25) (L' := [.ref 5, .ref 1000, .null]) (S' := [.int (nI 0)]) (M' := M) rfl ?_
      exact vm_WM.ret (r := some (.int (nI 0))) 13 rfl rfl rfl ⟨_, rfl, h⟩
  · replace h := h.2 hc
    refine vm_WM.seq 12 1 (pc' := 25) (L' := [.ref 5, .ref 1000, .null]) (S' := [.int (nI 0)]) (M' := M) rfl ?_
    exact vm_WM.ret (r := some (.int (nI 0))) 13 rfl rfl rfl ⟨_, rfl, h⟩
theorem v_Tape_isWord_1000_28 {X : Nat × (Nat → Int32)} {x2 : Int32} {M : vm_M} {P : Int32 → vm_M → Prop} (h : (x2 < ((nI 5) >>> (0 &&& 31)) → (∃ j1 : Nat, ((M 5 2) + x2) = nI j1 ∧ j1 < 400 ∧ ((x2 < 0 → (False)) ∧ (¬ (x2 < 0) → ((x2 < (nI 5) → (∃ j2 : Nat, x2 = nI j2 ∧ j2 < vm_strN 0 ∧ (((M 6 j1) = ((((((vm_strB.getD 0 []).getD j2 0) &&& (nI 255))).toUInt32 % 65536).toInt32) → (C_Tape_isWord_1000_28 X (x2 + (nI 1)) M P)) ∧ (¬ ((M 6 j1) = ((((((vm_strB.getD 0 []).getD j2 0) &&& (nI 255))).toUInt32 % 65536).toInt32)) → (P (nI 0) M))))) ∧ (¬ (x2 < (nI 5)) → (False))))))) ∧ (¬ (x2 < ((nI 5) >>> (0 &&& 31))) → (P (nI 1) M))) : C_Tape_isWord_1000_28 X x2 M P := by
  unfold C_Tape_isWord_1000_28
  refine vm_WM.seq 16 2 (pc' := 30) (L' := [.ref 5, .ref 1000, .int x2]) (S' := [.ref 1000, .int x2]) (M' := M) rfl ?_
  refine vm_WM.call (a := 173) (as := [.ref 1000]) (rest := [.int x2]) (L0 := [.ref 1000]) 18 rfl rfl (by decide) rfl rfl ⟨rfl, Or.inr rfl, Nat.le_of_ble_eq_true rfl, Nat.le_of_ble_eq_true rfl⟩ rfl rfl rfl ?_
  refine vm_WM.seq 0 4 (pc' := 6) (L' := [.ref 1000]) (S' := [.ref 1000, .int (nI 5)]) (M' := M) rfl ?_
  refine vm_WM.call (a := 175) (as := [.ref 1000]) (rest := [.int (nI 5)]) (L0 := [.ref 1000]) 4 rfl rfl (by decide) rfl rfl ⟨rfl, Or.inr rfl, Nat.le_of_ble_eq_true rfl, Nat.le_of_ble_eq_true rfl⟩ rfl rfl rfl ?_
  refine vm_WM.seq 0 5 (pc' := 14) (L' := [.ref 1000]) (S' := [.int 0]) (M' := M) rfl ?_
  refine vm_WM.ret (r := some (.int 0)) 6 rfl rfl rfl ?_
  show vm_WM X 173 9 [.ref 1000] [.int 0, .int (nI 5)] M _
  refine vm_WM.seq 5 1 (pc' := 10) (L' := [.ref 1000]) (S' := [.int ((nI 5) >>> (0 &&& 31))]) (M' := M) rfl ?_
  refine vm_WM.ret (r := some (.int ((nI 5) >>> (0 &&& 31)))) 6 rfl rfl rfl ?_
  show vm_WM X 69 33 [.ref 5, .ref 1000, .int x2] [.int ((nI 5) >>> (0 &&& 31)), .int x2] M _
  refine vm_WM.if (c := x2 < ((nI 5) >>> (0 &&& 31))) (t1 := 36) (t2 := 63) (S' := []) 19 rfl rfl rfl (fun hc => ?_) (fun hc => ?_)
  · replace h := h.1 hc
    refine vm_WM.seq 20 6 (pc' := 46) (L' := [.ref 5, .ref 1000, .int x2]) (S' := [.int ((M 5 2) + x2), .ref 6]) (M' := M) rfl ?_
    obtain ⟨j1, hj1, hj2, h⟩ := h
    refine vm_WM.ald (n := 400) (jj := j1) 26 rfl (Or.inr ⟨rfl, Or.inl rfl⟩) (by decide) rfl hj1 hj2 ?_
    refine vm_WM.seq 27 2 (pc' := 49) (L' := [.ref 5, .ref 1000, .int x2]) (S' := [.int x2, .ref 1000, .int (M 6 j1)]) (M' := M) rfl ?_
    refine vm_WM.call (a := 174) (as := [.ref 1000, .int x2]) (rest := [.int (M 6 j1)]) (L0 := [.ref 1000, .int x2]) 29 rfl rfl (by decide) rfl rfl ⟨rfl, Or.inr rfl, Nat.le_of_ble_eq_true rfl, Nat.le_of_ble_eq_true rfl⟩ rfl rfl rfl ?_
    refine vm_WM.seq 0 1 (pc' := 1) (L' := [.ref 1000, .int x2]) (S' := [.ref 1000]) (M' := M) rfl ?_
    refine vm_WM.call (a := 176) (as := [.ref 1000]) (rest := []) (L0 := [.ref 1000]) 1 rfl rfl (by decide) rfl rfl ⟨rfl, Or.inr rfl, Nat.le_of_ble_eq_true rfl, Nat.le_of_ble_eq_true rfl⟩ rfl rfl rfl ?_
    refine vm_WM.seq 0 7 (pc' := 18) (L' := [.ref 1000]) (S' := [.int (nI 1)]) (M' := M) rfl ?_
    refine vm_WM.ret (r := some (.int (nI 1))) 8 rfl rfl rfl ?_
    show vm_WM X 174 4 [.ref 1000, .int x2] [.int (nI 1)] M _
    refine vm_WM.seq 2 4 (pc' := 12) (L' := [.ref 1000, .int x2]) (S' := [.int x2, .ref 1001]) (M' := M) rfl ?_
    refine vm_WM.call (a := 178) (as := [.ref 1001, .int x2]) (rest := []) (L0 := [.ref 1001, .int x2]) 6 rfl rfl (by decide) rfl rfl ⟨rfl, Or.inl rfl, Nat.le_of_ble_eq_true rfl, Nat.le_of_ble_eq_true rfl⟩ rfl rfl rfl ?_
    refine vm_WM.seq 0 3 (pc' := 3) (L' := [.ref 1001, .int x2]) (S' := [.int (nI 5), .int x2]) (M' := M) rfl ?_
    refine vm_WM.call (a := 177) (as := [.int x2, .int (nI 5)]) (rest := []) (L0 := [.int x2, .int (nI 5)]) 3 rfl rfl (by decide) rfl rfl ⟨rfl, Or.inl rfl, Nat.le_of_ble_eq_true rfl, Nat.le_of_ble_eq_true rfl⟩ rfl rfl rfl ?_
    refine vm_WM.seq 0 3 (pc' := 5) (L' := [.int x2, .int (nI 5)]) (S' := [.ref 3000, .int (nI 5), .int x2]) (M' := M) rfl ?_
    refine vm_WM.call (a := 179) (as := [.int x2, .int (nI 5), .ref 3000]) (rest := []) (L0 := [.int x2, .int (nI 5), .ref 3000]) 3 rfl rfl (by decide) rfl rfl ⟨rfl, Or.inl rfl, Nat.le_of_ble_eq_true rfl, Nat.le_of_ble_eq_true rfl⟩ rfl rfl rfl ?_
    refine vm_WM.seq 0 1 (pc' := 1) (L' := [.int x2, .int (nI 5), .ref 3000]) (S' := [.int x2]) (M' := M) rfl ?_
    refine vm_WM.if (c := x2 < 0) (t1 := 9) (t2 := 4) (S' := []) 1 rfl rfl rfl (fun hc => ?_) (fun hc => ?_)
    · replace h := h.1 hc
      exact h.elim
    · replace h := h.2 hc
      refine vm_WM.seq 2 2 (pc' := 6) (L' := [.int x2, .int (nI 5), .ref 3000]) (S' := [.int (nI 5), .int x2]) (M' := M) rfl ?_
      refine vm_WM.if (c := x2 < (nI 5)) (t1 := 16) (t2 := 9) (S' := []) 4 rfl rfl rfl (fun hc => ?_) (fun hc => ?_)
      · replace h := h.1 hc
        refine vm_WM.seq 9 1 (pc' := 17) (L' := [.int x2, .int (nI 5), .ref 3000]) (S' := [.int x2]) (M' := M) rfl ?_
        refine vm_WM.ret (r := some (.int x2)) 10 rfl rfl rfl ?_
        show vm_WM X 177 8 [.int x2, .int (nI 5)] [.int x2] M _
        refine vm_WM.seq 4 1 (pc' := 9) (L' := [.int x2, .int (nI 5)]) (S' := []) (M' := M) rfl ?_
        refine vm_WM.ret (r := none) 5 rfl rfl rfl ?_
        show vm_WM X 178 6 [.ref 1001, .int x2] [] M _
        refine vm_WM.seq 4 2 (pc' := 8) (L' := [.ref 1001, .int x2]) (S' := [.int x2, .ref 1001]) (M' := M) rfl ?_
        obtain ⟨j2, hj1, hj2, h⟩ := h
        refine vm_WM.sbl (si := 0) (jj := j2) 6 rfl (by decide) hj1 hj2 ?_
        refine vm_WM.seq 7 3 (pc' := 14) (L' := [.ref 1001, .int x2]) (S' := [.int ((((((vm_strB.getD 0 []).getD j2 0) &&& (nI 255))).toUInt32 % 65536).toInt32)]) (M' := M) rfl ?_
        refine vm_WM.ret (r := some (.int ((((((vm_strB.getD 0 []).getD j2 0) &&& (nI 255))).toUInt32 % 65536).toInt32))) 10 rfl rfl (vm_rtC rfl) ?_
        show vm_WM X 174 15 [.ref 1000, .int x2] [.int ((((((vm_strB.getD 0 []).getD j2 0) &&& (nI 255))).toUInt32 % 65536).toInt32)] M _
        refine vm_WM.ret (r := some (.int ((((((vm_strB.getD 0 []).getD j2 0) &&& (nI 255))).toUInt32 % 65536).toInt32))) 7 rfl rfl (vm_rtC rfl) ?_
        show vm_WM X 69 52 [.ref 5, .ref 1000, .int x2] [.int ((((((vm_strB.getD 0 []).getD j2 0) &&& (nI 255))).toUInt32 % 65536).toInt32), .int (M 6 j1)] M _
        refine vm_WM.if (c := (M 6 j1) = ((((((vm_strB.getD 0 []).getD j2 0) &&& (nI 255))).toUInt32 % 65536).toInt32)) (t1 := 57) (t2 := 55) (S' := []) 30 rfl rfl rfl (fun hc => ?_) (fun hc => ?_)
        · replace h := h.1 hc
          refine vm_WM.seq 33 2 (pc' := 28) (L' := [.ref 5, .ref 1000, .int (x2 + (nI 1))]) (S' := []) (M' := M) rfl ?_
          exact h
        · replace h := h.2 hc
          refine vm_WM.seq 31 1 (pc' := 56) (L' := [.ref 5, .ref 1000, .int x2]) (S' := [.int (nI 0)]) (M' := M) rfl ?_
          exact vm_WM.ret (r := some (.int (nI 0))) 32 rfl rfl rfl ⟨_, rfl, h⟩
      · replace h := h.2 hc
        exact h.elim
  · replace h := h.2 hc
    refine vm_WM.seq 35 1 (pc' := 64) (L' := [.ref 5, .ref 1000, .int x2]) (S' := [.int (nI 1)]) (M' := M) rfl ?_
    exact vm_WM.ret (r := some (.int (nI 1))) 36 rfl rfl rfl ⟨_, rfl, h⟩
theorem v_Tape_fail {X : Nat × (Nat → Int32)} {a1 : Int32} {M : vm_M} {P : vm_M → Prop} (h : ((M 5 6) < 0 → (P  (vm_u2 (vm_u2 M 5 6 (M 5 2)) 5 7 a1))) ∧ (¬ ((M 5 6) < 0) → (P  M))) : E_Tape_fail X a1 M P := by
  unfold E_Tape_fail
  refine vm_WM.seq 0 2 (pc' := 4) (L' := [.ref 5, .int a1]) (S' := [.int (M 5 6)]) (M' := M) rfl ?_
  refine vm_WM.if (c := (M 5 6) < 0) (t1 := 7) (t2 := 20) (S' := []) 2 rfl rfl rfl (fun hc => ?_) (fun hc => ?_)
  · replace h := h.1 hc
    refine vm_WM.seq 3 7 (pc' := 20) (L' := [.ref 5, .int a1]) (S' := []) (M' := (vm_u2 (vm_u2 M 5 6 (M 5 2)) 5 7 a1)) rfl ?_
    exact vm_WM.ret (r := none) 10 rfl rfl rfl ⟨rfl, h⟩
  · replace h := h.2 hc
    exact vm_WM.ret (r := none) 10 rfl rfl rfl ⟨rfl, h⟩
theorem v_Tape_readNumber {X : Nat × (Nat → Int32)} {a1 : Int32} {a2 : Int32} {M : vm_M} {P : Int32 → vm_M → Prop} (h : E_Tape_next X  M (fun M1 => ((M1 5 4) = (nI 2) → (((M1 5 5) < a1 → (E_Tape_fail X (nI 2) M1 (fun M2 => P (M2 5 5) M2))) ∧ (¬ ((M1 5 5) < a1) → ((a2 < (M1 5 5) → (E_Tape_fail X (nI 2) M1 (fun M3 => P (M3 5 5) M3))) ∧ (¬ (a2 < (M1 5 5)) → (P (M1 5 5) M1)))))) ∧ (¬ ((M1 5 4) = (nI 2)) → (E_Tape_fail X (nI 1) M1 (fun M4 => P (M4 5 5) M4))))) : E_Tape_readNumber X a1 a2 M P := by
  unfold E_Tape_readNumber
  refine vm_WM.seq 0 1 (pc' := 1) (L' := [.ref 5, .int a1, .int a2]) (S' := [.ref 5]) (M' := M) rfl ?_
  refine vm_WM.call (a := 70) (as := [.ref 5]) (rest := []) (L0 := [.ref 5]) 1 rfl rfl (by decide) rfl rfl ⟨rfl, Or.inr rfl, Nat.le_of_ble_eq_true rfl, Nat.le_of_ble_eq_true rfl⟩ rfl rfl rfl ?_
  refine vm_WM.thenv h (fun M1 h => ?_)
  show vm_WM X 66 4 [.ref 5, .int a1, .int a2] [] M1 _
  refine vm_WM.seq 2 3 (pc' := 9) (L' := [.ref 5, .int a1, .int a2]) (S' := [.int (nI 2), .int (M1 5 4)]) (M' := M1) rfl ?_
  refine vm_WM.if (c := (M1 5 4) = (nI 2)) (t1 := 20) (t2 := 12) (S' := []) 5 rfl rfl rfl (fun hc => ?_) (fun hc => ?_)
  · replace h := h.1 hc
    refine vm_WM.seq 10 3 (pc' := 25) (L' := [.ref 5, .int a1, .int a2]) (S' := [.int a1, .int (M1 5 5)]) (M' := M1) rfl ?_
    refine vm_WM.if (c := (M1 5 5) < a1) (t1 := 36) (t2 := 28) (S' := []) 13 rfl rfl rfl (fun hc => ?_) (fun hc => ?_)
    · replace h := h.1 hc
      refine vm_WM.seq 18 2 (pc' := 38) (L' := [.ref 5, .int a1, .int a2]) (S' := [.int (nI 2), .ref 5]) (M' := M1) rfl ?_
      refine vm_WM.call (a := 68) (as := [.ref 5, .int (nI 2)]) (rest := []) (L0 := [.ref 5, .int (nI 2)]) 20 rfl rfl (by decide) rfl rfl ⟨rfl, Or.inr rfl, Nat.le_of_ble_eq_true rfl, Nat.le_of_ble_eq_true rfl⟩ rfl rfl rfl ?_
      refine vm_WM.thenv h (fun M2 h => ?_)
      show vm_WM X 66 41 [.ref 5, .int a1, .int a2] [] M2 _
      refine vm_WM.seq 21 2 (pc' := 45) (L' := [.ref 5, .int a1, .int a2]) (S' := [.int (M2 5 5)]) (M' := M2) rfl ?_
      exact vm_WM.ret (r := some (.int (M2 5 5))) 23 rfl rfl rfl ⟨_, rfl, h⟩
    · replace h := h.2 hc
      refine vm_WM.seq 14 3 (pc' := 33) (L' := [.ref 5, .int a1, .int a2]) (S' := [.int a2, .int (M1 5 5)]) (M' := M1) rfl ?_
      refine vm_WM.if (c := a2 < (M1 5 5)) (t1 := 36) (t2 := 41) (S' := []) 17 rfl rfl rfl (fun hc => ?_) (fun hc => ?_)
      · replace h := h.1 hc
        refine vm_WM.seq 18 2 (pc' := 38) (L' := [.ref 5, .int a1, .int a2]) (S' := [.int (nI 2), .ref 5]) (M' := M1) rfl ?_
        refine vm_WM.call (a := 68) (as := [.ref 5, .int (nI 2)]) (rest := []) (L0 := [.ref 5, .int (nI 2)]) 20 rfl rfl (by decide) rfl rfl ⟨rfl, Or.inr rfl, Nat.le_of_ble_eq_true rfl, Nat.le_of_ble_eq_true rfl⟩ rfl rfl rfl ?_
        refine vm_WM.thenv h (fun M3 h => ?_)
        show vm_WM X 66 41 [.ref 5, .int a1, .int a2] [] M3 _
        refine vm_WM.seq 21 2 (pc' := 45) (L' := [.ref 5, .int a1, .int a2]) (S' := [.int (M3 5 5)]) (M' := M3) rfl ?_
        exact vm_WM.ret (r := some (.int (M3 5 5))) 23 rfl rfl rfl ⟨_, rfl, h⟩
      · replace h := h.2 hc
        refine vm_WM.seq 21 2 (pc' := 45) (L' := [.ref 5, .int a1, .int a2]) (S' := [.int (M1 5 5)]) (M' := M1) rfl ?_
        exact vm_WM.ret (r := some (.int (M1 5 5))) 23 rfl rfl rfl ⟨_, rfl, h⟩
  · replace h := h.2 hc
    refine vm_WM.seq 6 2 (pc' := 14) (L' := [.ref 5, .int a1, .int a2]) (S' := [.int (nI 1), .ref 5]) (M' := M1) rfl ?_
    refine vm_WM.call (a := 68) (as := [.ref 5, .int (nI 1)]) (rest := []) (L0 := [.ref 5, .int (nI 1)]) 8 rfl rfl (by decide) rfl rfl ⟨rfl, Or.inr rfl, Nat.le_of_ble_eq_true rfl, Nat.le_of_ble_eq_true rfl⟩ rfl rfl rfl ?_
    refine vm_WM.thenv h (fun M4 h => ?_)
    show vm_WM X 66 17 [.ref 5, .int a1, .int a2] [] M4 _
    refine vm_WM.seq 9 1 (pc' := 41) (L' := [.ref 5, .int a1, .int a2]) (S' := []) (M' := M4) rfl ?_
    refine vm_WM.seq 21 2 (pc' := 45) (L' := [.ref 5, .int a1, .int a2]) (S' := [.int (M4 5 5)]) (M' := M4) rfl ?_
    exact vm_WM.ret (r := some (.int (M4 5 5))) 23 rfl rfl rfl ⟨_, rfl, h⟩
theorem v_Tape_readSign {X : Nat × (Nat → Int32)}  {M : vm_M} {P : vm_M → Prop} (h : E_Tape_next X  M (fun M1 => ((M1 5 4) = (nI 3) → (P  M1)) ∧ (¬ ((M1 5 4) = (nI 3)) → (E_Tape_fail X (nI 1) M1 (fun M2 => P  M2))))) : E_Tape_readSign X  M P := by
  unfold E_Tape_readSign
  refine vm_WM.seq 0 1 (pc' := 1) (L' := [.ref 5]) (S' := [.ref 5]) (M' := M) rfl ?_
  refine vm_WM.call (a := 70) (as := [.ref 5]) (rest := []) (L0 := [.ref 5]) 1 rfl rfl (by decide) rfl rfl ⟨rfl, Or.inr rfl, Nat.le_of_ble_eq_true rfl, Nat.le_of_ble_eq_true rfl⟩ rfl rfl rfl ?_
  refine vm_WM.thenv h (fun M1 h => ?_)
  show vm_WM X 67 4 [.ref 5] [] M1 _
  refine vm_WM.seq 2 3 (pc' := 9) (L' := [.ref 5]) (S' := [.int (nI 3), .int (M1 5 4)]) (M' := M1) rfl ?_
  refine vm_WM.if (c := (M1 5 4) = (nI 3)) (t1 := 17) (t2 := 12) (S' := []) 5 rfl rfl rfl (fun hc => ?_) (fun hc => ?_)
  · replace h := h.1 hc
    exact vm_WM.ret (r := none) 9 rfl rfl rfl ⟨rfl, h⟩
  · replace h := h.2 hc
    refine vm_WM.seq 6 2 (pc' := 14) (L' := [.ref 5]) (S' := [.int (nI 1), .ref 5]) (M' := M1) rfl ?_
    refine vm_WM.call (a := 68) (as := [.ref 5, .int (nI 1)]) (rest := []) (L0 := [.ref 5, .int (nI 1)]) 8 rfl rfl (by decide) rfl rfl ⟨rfl, Or.inr rfl, Nat.le_of_ble_eq_true rfl, Nat.le_of_ble_eq_true rfl⟩ rfl rfl rfl ?_
    refine vm_WM.thenv h (fun M2 h => ?_)
    show vm_WM X 67 17 [.ref 5] [] M2 _
    exact vm_WM.ret (r := none) 9 rfl rfl rfl ⟨rfl, h⟩
theorem v_Tape_isWord_1002 {X : Nat × (Nat → Int32)}  {M : vm_M} {P : Int32 → vm_M → Prop} (h : ((M 5 4) = (nI 1) → ((((M 5 3) - (M 5 2)) = ((nI 6) >>> (0 &&& 31)) → (C_Tape_isWord_1002_28 X (nI 0) M P)) ∧ (¬ (((M 5 3) - (M 5 2)) = ((nI 6) >>> (0 &&& 31))) → (P (nI 0) M)))) ∧ (¬ ((M 5 4) = (nI 1)) → (P (nI 0) M))) : E_Tape_isWord_1002 X  M P := by
  unfold E_Tape_isWord_1002
  refine vm_WM.seq 0 3 (pc' := 5) (L' := [.ref 5, .ref 1002, .null]) (S' := [.int (nI 1), .int (M 5 4)]) (M' := M) rfl ?_
  refine vm_WM.if (c := (M 5 4) = (nI 1)) (t1 := 8) (t2 := 24) (S' := []) 3 rfl rfl rfl (fun hc => ?_) (fun hc => ?_)
  · replace h := h.1 hc
    refine vm_WM.seq 4 6 (pc' := 18) (L' := [.ref 5, .ref 1002, .null]) (S' := [.ref 1002, .int ((M 5 3) - (M 5 2))]) (M' := M) rfl ?_
    refine vm_WM.call (a := 173) (as := [.ref 1002]) (rest := [.int ((M 5 3) - (M 5 2))]) (L0 := [.ref 1002]) 10 rfl rfl (by decide) rfl rfl ⟨rfl, Or.inr rfl, Nat.le_of_ble_eq_true rfl, Nat.le_of_ble_eq_true rfl⟩ rfl rfl rfl ?_
    refine vm_WM.seq 0 4 (pc' := 6) (L' := [.ref 1002]) (S' := [.ref 1002, .int (nI 6)]) (M' := M) rfl ?_
    refine vm_WM.call (a := 175) (as := [.ref 1002]) (rest := [.int (nI 6)]) (L0 := [.ref 1002]) 4 rfl rfl (by decide) rfl rfl ⟨rfl, Or.inr rfl, Nat.le_of_ble_eq_true rfl, Nat.le_of_ble_eq_true rfl⟩ rfl rfl rfl ?_
    refine vm_WM.seq 0 5 (pc' := 14) (L' := [.ref 1002]) (S' := [.int 0]) (M' := M) rfl ?_
    refine vm_WM.ret (r := some (.int 0)) 6 rfl rfl rfl ?_
    show vm_WM X 173 9 [.ref 1002] [.int 0, .int (nI 6)] M _
    refine vm_WM.seq 5 1 (pc' := 10) (L' := [.ref 1002]) (S' := [.int ((nI 6) >>> (0 &&& 31))]) (M' := M) rfl ?_
    refine vm_WM.ret (r := some (.int ((nI 6) >>> (0 &&& 31)))) 6 rfl rfl rfl ?_
    show vm_WM X 69 21 [.ref 5, .ref 1002, .null] [.int ((nI 6) >>> (0 &&& 31)), .int ((M 5 3) - (M 5 2))] M _
    refine vm_WM.if (c := ((M 5 3) - (M 5 2)) = ((nI 6) >>> (0 &&& 31))) (t1 := 26) (t2 := 24) (S' := []) 11 rfl rfl rfl (fun hc => ?_) (fun hc => ?_)
    · replace h := h.1 hc
      refine vm_WM.seq 14 2 (pc' := 28) (L' := [.ref 5, .ref 1002, .int (nI 0)]) (S' := []) (M' := M) rfl ?_
      exact h
    · replace h := h.2 hc
      refine vm_WM.seq 12 1 (pc' := 25) (L' := [.ref 5, .ref 1002, .null]) (S' := [.int (nI 0)]) (M' := M) rfl ?_
      exact vm_WM.ret (r := some (.int (nI 0))) 13 rfl rfl rfl ⟨_, rfl, h⟩
  · replace h := h.2 hc
    refine vm_WM.seq 12 1 (pc' := 25) (L' := [.ref 5, .ref 1002, .null]) (S' := [.int (nI 0)]) (M' := M) rfl ?_
    exact vm_WM.ret (r := some (.int (nI 0))) 13 rfl rfl rfl ⟨_, rfl, h⟩
theorem v_Tape_isWord_1002_28 {X : Nat × (Nat → Int32)} {x2 : Int32} {M : vm_M} {P : Int32 → vm_M → Prop} (h : (x2 < ((nI 6) >>> (0 &&& 31)) → (∃ j1 : Nat, ((M 5 2) + x2) = nI j1 ∧ j1 < 400 ∧ ((x2 < 0 → (False)) ∧ (¬ (x2 < 0) → ((x2 < (nI 6) → (∃ j2 : Nat, x2 = nI j2 ∧ j2 < vm_strN 1 ∧ (((M 6 j1) = ((((((vm_strB.getD 1 []).getD j2 0) &&& (nI 255))).toUInt32 % 65536).toInt32) → (C_Tape_isWord_1002_28 X (x2 + (nI 1)) M P)) ∧ (¬ ((M 6 j1) = ((((((vm_strB.getD 1 []).getD j2 0) &&& (nI 255))).toUInt32 % 65536).toInt32)) → (P (nI 0) M))))) ∧ (¬ (x2 < (nI 6)) → (False))))))) ∧ (¬ (x2 < ((nI 6) >>> (0 &&& 31))) → (P (nI 1) M))) : C_Tape_isWord_1002_28 X x2 M P := by
  unfold C_Tape_isWord_1002_28
  refine vm_WM.seq 16 2 (pc' := 30) (L' := [.ref 5, .ref 1002, .int x2]) (S' := [.ref 1002, .int x2]) (M' := M) rfl ?_
  refine vm_WM.call (a := 173) (as := [.ref 1002]) (rest := [.int x2]) (L0 := [.ref 1002]) 18 rfl rfl (by decide) rfl rfl ⟨rfl, Or.inr rfl, Nat.le_of_ble_eq_true rfl, Nat.le_of_ble_eq_true rfl⟩ rfl rfl rfl ?_
  refine vm_WM.seq 0 4 (pc' := 6) (L' := [.ref 1002]) (S' := [.ref 1002, .int (nI 6)]) (M' := M) rfl ?_
  refine vm_WM.call (a := 175) (as := [.ref 1002]) (rest := [.int (nI 6)]) (L0 := [.ref 1002]) 4 rfl rfl (by decide) rfl rfl ⟨rfl, Or.inr rfl, Nat.le_of_ble_eq_true rfl, Nat.le_of_ble_eq_true rfl⟩ rfl rfl rfl ?_
  refine vm_WM.seq 0 5 (pc' := 14) (L' := [.ref 1002]) (S' := [.int 0]) (M' := M) rfl ?_
  refine vm_WM.ret (r := some (.int 0)) 6 rfl rfl rfl ?_
  show vm_WM X 173 9 [.ref 1002] [.int 0, .int (nI 6)] M _
  refine vm_WM.seq 5 1 (pc' := 10) (L' := [.ref 1002]) (S' := [.int ((nI 6) >>> (0 &&& 31))]) (M' := M) rfl ?_
  refine vm_WM.ret (r := some (.int ((nI 6) >>> (0 &&& 31)))) 6 rfl rfl rfl ?_
  show vm_WM X 69 33 [.ref 5, .ref 1002, .int x2] [.int ((nI 6) >>> (0 &&& 31)), .int x2] M _
  refine vm_WM.if (c := x2 < ((nI 6) >>> (0 &&& 31))) (t1 := 36) (t2 := 63) (S' := []) 19 rfl rfl rfl (fun hc => ?_) (fun hc => ?_)
  · replace h := h.1 hc
    refine vm_WM.seq 20 6 (pc' := 46) (L' := [.ref 5, .ref 1002, .int x2]) (S' := [.int ((M 5 2) + x2), .ref 6]) (M' := M) rfl ?_
    obtain ⟨j1, hj1, hj2, h⟩ := h
    refine vm_WM.ald (n := 400) (jj := j1) 26 rfl (Or.inr ⟨rfl, Or.inl rfl⟩) (by decide) rfl hj1 hj2 ?_
    refine vm_WM.seq 27 2 (pc' := 49) (L' := [.ref 5, .ref 1002, .int x2]) (S' := [.int x2, .ref 1002, .int (M 6 j1)]) (M' := M) rfl ?_
    refine vm_WM.call (a := 174) (as := [.ref 1002, .int x2]) (rest := [.int (M 6 j1)]) (L0 := [.ref 1002, .int x2]) 29 rfl rfl (by decide) rfl rfl ⟨rfl, Or.inr rfl, Nat.le_of_ble_eq_true rfl, Nat.le_of_ble_eq_true rfl⟩ rfl rfl rfl ?_
    refine vm_WM.seq 0 1 (pc' := 1) (L' := [.ref 1002, .int x2]) (S' := [.ref 1002]) (M' := M) rfl ?_
    refine vm_WM.call (a := 176) (as := [.ref 1002]) (rest := []) (L0 := [.ref 1002]) 1 rfl rfl (by decide) rfl rfl ⟨rfl, Or.inr rfl, Nat.le_of_ble_eq_true rfl, Nat.le_of_ble_eq_true rfl⟩ rfl rfl rfl ?_
    refine vm_WM.seq 0 7 (pc' := 18) (L' := [.ref 1002]) (S' := [.int (nI 1)]) (M' := M) rfl ?_
    refine vm_WM.ret (r := some (.int (nI 1))) 8 rfl rfl rfl ?_
    show vm_WM X 174 4 [.ref 1002, .int x2] [.int (nI 1)] M _
    refine vm_WM.seq 2 4 (pc' := 12) (L' := [.ref 1002, .int x2]) (S' := [.int x2, .ref 1003]) (M' := M) rfl ?_
    refine vm_WM.call (a := 178) (as := [.ref 1003, .int x2]) (rest := []) (L0 := [.ref 1003, .int x2]) 6 rfl rfl (by decide) rfl rfl ⟨rfl, Or.inl rfl, Nat.le_of_ble_eq_true rfl, Nat.le_of_ble_eq_true rfl⟩ rfl rfl rfl ?_
    refine vm_WM.seq 0 3 (pc' := 3) (L' := [.ref 1003, .int x2]) (S' := [.int (nI 6), .int x2]) (M' := M) rfl ?_
    refine vm_WM.call (a := 177) (as := [.int x2, .int (nI 6)]) (rest := []) (L0 := [.int x2, .int (nI 6)]) 3 rfl rfl (by decide) rfl rfl ⟨rfl, Or.inl rfl, Nat.le_of_ble_eq_true rfl, Nat.le_of_ble_eq_true rfl⟩ rfl rfl rfl ?_
    refine vm_WM.seq 0 3 (pc' := 5) (L' := [.int x2, .int (nI 6)]) (S' := [.ref 3000, .int (nI 6), .int x2]) (M' := M) rfl ?_
    refine vm_WM.call (a := 179) (as := [.int x2, .int (nI 6), .ref 3000]) (rest := []) (L0 := [.int x2, .int (nI 6), .ref 3000]) 3 rfl rfl (by decide) rfl rfl ⟨rfl, Or.inl rfl, Nat.le_of_ble_eq_true rfl, Nat.le_of_ble_eq_true rfl⟩ rfl rfl rfl ?_
    refine vm_WM.seq 0 1 (pc' := 1) (L' := [.int x2, .int (nI 6), .ref 3000]) (S' := [.int x2]) (M' := M) rfl ?_
    refine vm_WM.if (c := x2 < 0) (t1 := 9) (t2 := 4) (S' := []) 1 rfl rfl rfl (fun hc => ?_) (fun hc => ?_)
    · replace h := h.1 hc
      exact h.elim
    · replace h := h.2 hc
      refine vm_WM.seq 2 2 (pc' := 6) (L' := [.int x2, .int (nI 6), .ref 3000]) (S' := [.int (nI 6), .int x2]) (M' := M) rfl ?_
      refine vm_WM.if (c := x2 < (nI 6)) (t1 := 16) (t2 := 9) (S' := []) 4 rfl rfl rfl (fun hc => ?_) (fun hc => ?_)
      · replace h := h.1 hc
        refine vm_WM.seq 9 1 (pc' := 17) (L' := [.int x2, .int (nI 6), .ref 3000]) (S' := [.int x2]) (M' := M) rfl ?_
        refine vm_WM.ret (r := some (.int x2)) 10 rfl rfl rfl ?_
        show vm_WM X 177 8 [.int x2, .int (nI 6)] [.int x2] M _
        refine vm_WM.seq 4 1 (pc' := 9) (L' := [.int x2, .int (nI 6)]) (S' := []) (M' := M) rfl ?_
        refine vm_WM.ret (r := none) 5 rfl rfl rfl ?_
        show vm_WM X 178 6 [.ref 1003, .int x2] [] M _
        refine vm_WM.seq 4 2 (pc' := 8) (L' := [.ref 1003, .int x2]) (S' := [.int x2, .ref 1003]) (M' := M) rfl ?_
        obtain ⟨j2, hj1, hj2, h⟩ := h
        refine vm_WM.sbl (si := 1) (jj := j2) 6 rfl (by decide) hj1 hj2 ?_
        refine vm_WM.seq 7 3 (pc' := 14) (L' := [.ref 1003, .int x2]) (S' := [.int ((((((vm_strB.getD 1 []).getD j2 0) &&& (nI 255))).toUInt32 % 65536).toInt32)]) (M' := M) rfl ?_
        refine vm_WM.ret (r := some (.int ((((((vm_strB.getD 1 []).getD j2 0) &&& (nI 255))).toUInt32 % 65536).toInt32))) 10 rfl rfl (vm_rtC rfl) ?_
        show vm_WM X 174 15 [.ref 1002, .int x2] [.int ((((((vm_strB.getD 1 []).getD j2 0) &&& (nI 255))).toUInt32 % 65536).toInt32)] M _
        refine vm_WM.ret (r := some (.int ((((((vm_strB.getD 1 []).getD j2 0) &&& (nI 255))).toUInt32 % 65536).toInt32))) 7 rfl rfl (vm_rtC rfl) ?_
        show vm_WM X 69 52 [.ref 5, .ref 1002, .int x2] [.int ((((((vm_strB.getD 1 []).getD j2 0) &&& (nI 255))).toUInt32 % 65536).toInt32), .int (M 6 j1)] M _
        refine vm_WM.if (c := (M 6 j1) = ((((((vm_strB.getD 1 []).getD j2 0) &&& (nI 255))).toUInt32 % 65536).toInt32)) (t1 := 57) (t2 := 55) (S' := []) 30 rfl rfl rfl (fun hc => ?_) (fun hc => ?_)
        · replace h := h.1 hc
          refine vm_WM.seq 33 2 (pc' := 28) (L' := [.ref 5, .ref 1002, .int (x2 + (nI 1))]) (S' := []) (M' := M) rfl ?_
          exact h
        · replace h := h.2 hc
          refine vm_WM.seq 31 1 (pc' := 56) (L' := [.ref 5, .ref 1002, .int x2]) (S' := [.int (nI 0)]) (M' := M) rfl ?_
          exact vm_WM.ret (r := some (.int (nI 0))) 32 rfl rfl rfl ⟨_, rfl, h⟩
      · replace h := h.2 hc
        exact h.elim
  · replace h := h.2 hc
    refine vm_WM.seq 35 1 (pc' := 64) (L' := [.ref 5, .ref 1002, .int x2]) (S' := [.int (nI 1)]) (M' := M) rfl ?_
    exact vm_WM.ret (r := some (.int (nI 1))) 36 rfl rfl rfl ⟨_, rfl, h⟩
theorem v_Tape_isWord_1014 {X : Nat × (Nat → Int32)}  {M : vm_M} {P : Int32 → vm_M → Prop} (h : ((M 5 4) = (nI 1) → ((((M 5 3) - (M 5 2)) = ((nI 3) >>> (0 &&& 31)) → (C_Tape_isWord_1014_28 X (nI 0) M P)) ∧ (¬ (((M 5 3) - (M 5 2)) = ((nI 3) >>> (0 &&& 31))) → (P (nI 0) M)))) ∧ (¬ ((M 5 4) = (nI 1)) → (P (nI 0) M))) : E_Tape_isWord_1014 X  M P := by
  unfold E_Tape_isWord_1014
  refine vm_WM.seq 0 3 (pc' := 5) (L' := [.ref 5, .ref 1014, .null]) (S' := [.int (nI 1), .int (M 5 4)]) (M' := M) rfl ?_
  refine vm_WM.if (c := (M 5 4) = (nI 1)) (t1 := 8) (t2 := 24) (S' := []) 3 rfl rfl rfl (fun hc => ?_) (fun hc => ?_)
  · replace h := h.1 hc
    refine vm_WM.seq 4 6 (pc' := 18) (L' := [.ref 5, .ref 1014, .null]) (S' := [.ref 1014, .int ((M 5 3) - (M 5 2))]) (M' := M) rfl ?_
    refine vm_WM.call (a := 173) (as := [.ref 1014]) (rest := [.int ((M 5 3) - (M 5 2))]) (L0 := [.ref 1014]) 10 rfl rfl (by decide) rfl rfl ⟨rfl, Or.inr rfl, Nat.le_of_ble_eq_true rfl, Nat.le_of_ble_eq_true rfl⟩ rfl rfl rfl ?_
    refine vm_WM.seq 0 4 (pc' := 6) (L' := [.ref 1014]) (S' := [.ref 1014, .int (nI 3)]) (M' := M) rfl ?_
    refine vm_WM.call (a := 175) (as := [.ref 1014]) (rest := [.int (nI 3)]) (L0 := [.ref 1014]) 4 rfl rfl (by decide) rfl rfl ⟨rfl, Or.inr rfl, Nat.le_of_ble_eq_true rfl, Nat.le_of_ble_eq_true rfl⟩ rfl rfl rfl ?_
    refine vm_WM.seq 0 5 (pc' := 14) (L' := [.ref 1014]) (S' := [.int 0]) (M' := M) rfl ?_
    refine vm_WM.ret (r := some (.int 0)) 6 rfl rfl rfl ?_
    show vm_WM X 173 9 [.ref 1014] [.int 0, .int (nI 3)] M _
    refine vm_WM.seq 5 1 (pc' := 10) (L' := [.ref 1014]) (S' := [.int ((nI 3) >>> (0 &&& 31))]) (M' := M) rfl ?_
    refine vm_WM.ret (r := some (.int ((nI 3) >>> (0 &&& 31)))) 6 rfl rfl rfl ?_
    show vm_WM X 69 21 [.ref 5, .ref 1014, .null] [.int ((nI 3) >>> (0 &&& 31)), .int ((M 5 3) - (M 5 2))] M _
    refine vm_WM.if (c := ((M 5 3) - (M 5 2)) = ((nI 3) >>> (0 &&& 31))) (t1 := 26) (t2 := 24) (S' := []) 11 rfl rfl rfl (fun hc => ?_) (fun hc => ?_)
    · replace h := h.1 hc
      refine vm_WM.seq 14 2 (pc' := 28) (L' := [.ref 5, .ref 1014, .int (nI 0)]) (S' := []) (M' := M) rfl ?_
      exact h
    · replace h := h.2 hc
      refine vm_WM.seq 12 1 (pc' := 25) (L' := [.ref 5, .ref 1014, .null]) (S' := [.int (nI 0)]) (M' := M) rfl ?_
      exact vm_WM.ret (r := some (.int (nI 0))) 13 rfl rfl rfl ⟨_, rfl, h⟩
  · replace h := h.2 hc
    refine vm_WM.seq 12 1 (pc' := 25) (L' := [.ref 5, .ref 1014, .null]) (S' := [.int (nI 0)]) (M' := M) rfl ?_
    exact vm_WM.ret (r := some (.int (nI 0))) 13 rfl rfl rfl ⟨_, rfl, h⟩
theorem v_Tape_isWord_1014_28 {X : Nat × (Nat → Int32)} {x2 : Int32} {M : vm_M} {P : Int32 → vm_M → Prop} (h : (x2 < ((nI 3) >>> (0 &&& 31)) → (∃ j1 : Nat, ((M 5 2) + x2) = nI j1 ∧ j1 < 400 ∧ ((x2 < 0 → (False)) ∧ (¬ (x2 < 0) → ((x2 < (nI 3) → (∃ j2 : Nat, x2 = nI j2 ∧ j2 < vm_strN 7 ∧ (((M 6 j1) = ((((((vm_strB.getD 7 []).getD j2 0) &&& (nI 255))).toUInt32 % 65536).toInt32) → (C_Tape_isWord_1014_28 X (x2 + (nI 1)) M P)) ∧ (¬ ((M 6 j1) = ((((((vm_strB.getD 7 []).getD j2 0) &&& (nI 255))).toUInt32 % 65536).toInt32)) → (P (nI 0) M))))) ∧ (¬ (x2 < (nI 3)) → (False))))))) ∧ (¬ (x2 < ((nI 3) >>> (0 &&& 31))) → (P (nI 1) M))) : C_Tape_isWord_1014_28 X x2 M P := by
  unfold C_Tape_isWord_1014_28
  refine vm_WM.seq 16 2 (pc' := 30) (L' := [.ref 5, .ref 1014, .int x2]) (S' := [.ref 1014, .int x2]) (M' := M) rfl ?_
  refine vm_WM.call (a := 173) (as := [.ref 1014]) (rest := [.int x2]) (L0 := [.ref 1014]) 18 rfl rfl (by decide) rfl rfl ⟨rfl, Or.inr rfl, Nat.le_of_ble_eq_true rfl, Nat.le_of_ble_eq_true rfl⟩ rfl rfl rfl ?_
  refine vm_WM.seq 0 4 (pc' := 6) (L' := [.ref 1014]) (S' := [.ref 1014, .int (nI 3)]) (M' := M) rfl ?_
  refine vm_WM.call (a := 175) (as := [.ref 1014]) (rest := [.int (nI 3)]) (L0 := [.ref 1014]) 4 rfl rfl (by decide) rfl rfl ⟨rfl, Or.inr rfl, Nat.le_of_ble_eq_true rfl, Nat.le_of_ble_eq_true rfl⟩ rfl rfl rfl ?_
  refine vm_WM.seq 0 5 (pc' := 14) (L' := [.ref 1014]) (S' := [.int 0]) (M' := M) rfl ?_
  refine vm_WM.ret (r := some (.int 0)) 6 rfl rfl rfl ?_
  show vm_WM X 173 9 [.ref 1014] [.int 0, .int (nI 3)] M _
  refine vm_WM.seq 5 1 (pc' := 10) (L' := [.ref 1014]) (S' := [.int ((nI 3) >>> (0 &&& 31))]) (M' := M) rfl ?_
  refine vm_WM.ret (r := some (.int ((nI 3) >>> (0 &&& 31)))) 6 rfl rfl rfl ?_
  show vm_WM X 69 33 [.ref 5, .ref 1014, .int x2] [.int ((nI 3) >>> (0 &&& 31)), .int x2] M _
  refine vm_WM.if (c := x2 < ((nI 3) >>> (0 &&& 31))) (t1 := 36) (t2 := 63) (S' := []) 19 rfl rfl rfl (fun hc => ?_) (fun hc => ?_)
  · replace h := h.1 hc
    refine vm_WM.seq 20 6 (pc' := 46) (L' := [.ref 5, .ref 1014, .int x2]) (S' := [.int ((M 5 2) + x2), .ref 6]) (M' := M) rfl ?_
    obtain ⟨j1, hj1, hj2, h⟩ := h
    refine vm_WM.ald (n := 400) (jj := j1) 26 rfl (Or.inr ⟨rfl, Or.inl rfl⟩) (by decide) rfl hj1 hj2 ?_
    refine vm_WM.seq 27 2 (pc' := 49) (L' := [.ref 5, .ref 1014, .int x2]) (S' := [.int x2, .ref 1014, .int (M 6 j1)]) (M' := M) rfl ?_
    refine vm_WM.call (a := 174) (as := [.ref 1014, .int x2]) (rest := [.int (M 6 j1)]) (L0 := [.ref 1014, .int x2]) 29 rfl rfl (by decide) rfl rfl ⟨rfl, Or.inr rfl, Nat.le_of_ble_eq_true rfl, Nat.le_of_ble_eq_true rfl⟩ rfl rfl rfl ?_
    refine vm_WM.seq 0 1 (pc' := 1) (L' := [.ref 1014, .int x2]) (S' := [.ref 1014]) (M' := M) rfl ?_
    refine vm_WM.call (a := 176) (as := [.ref 1014]) (rest := []) (L0 := [.ref 1014]) 1 rfl rfl (by decide) rfl rfl ⟨rfl, Or.inr rfl, Nat.le_of_ble_eq_true rfl, Nat.le_of_ble_eq_true rfl⟩ rfl rfl rfl ?_
    refine vm_WM.seq 0 7 (pc' := 18) (L' := [.ref 1014]) (S' := [.int (nI 1)]) (M' := M) rfl ?_
    refine vm_WM.ret (r := some (.int (nI 1))) 8 rfl rfl rfl ?_
    show vm_WM X 174 4 [.ref 1014, .int x2] [.int (nI 1)] M _
    refine vm_WM.seq 2 4 (pc' := 12) (L' := [.ref 1014, .int x2]) (S' := [.int x2, .ref 1015]) (M' := M) rfl ?_
    refine vm_WM.call (a := 178) (as := [.ref 1015, .int x2]) (rest := []) (L0 := [.ref 1015, .int x2]) 6 rfl rfl (by decide) rfl rfl ⟨rfl, Or.inl rfl, Nat.le_of_ble_eq_true rfl, Nat.le_of_ble_eq_true rfl⟩ rfl rfl rfl ?_
    refine vm_WM.seq 0 3 (pc' := 3) (L' := [.ref 1015, .int x2]) (S' := [.int (nI 3), .int x2]) (M' := M) rfl ?_
    refine vm_WM.call (a := 177) (as := [.int x2, .int (nI 3)]) (rest := []) (L0 := [.int x2, .int (nI 3)]) 3 rfl rfl (by decide) rfl rfl ⟨rfl, Or.inl rfl, Nat.le_of_ble_eq_true rfl, Nat.le_of_ble_eq_true rfl⟩ rfl rfl rfl ?_
    refine vm_WM.seq 0 3 (pc' := 5) (L' := [.int x2, .int (nI 3)]) (S' := [.ref 3000, .int (nI 3), .int x2]) (M' := M) rfl ?_
    refine vm_WM.call (a := 179) (as := [.int x2, .int (nI 3), .ref 3000]) (rest := []) (L0 := [.int x2, .int (nI 3), .ref 3000]) 3 rfl rfl (by decide) rfl rfl ⟨rfl, Or.inl rfl, Nat.le_of_ble_eq_true rfl, Nat.le_of_ble_eq_true rfl⟩ rfl rfl rfl ?_
    refine vm_WM.seq 0 1 (pc' := 1) (L' := [.int x2, .int (nI 3), .ref 3000]) (S' := [.int x2]) (M' := M) rfl ?_
    refine vm_WM.if (c := x2 < 0) (t1 := 9) (t2 := 4) (S' := []) 1 rfl rfl rfl (fun hc => ?_) (fun hc => ?_)
    · replace h := h.1 hc
      exact h.elim
    · replace h := h.2 hc
      refine vm_WM.seq 2 2 (pc' := 6) (L' := [.int x2, .int (nI 3), .ref 3000]) (S' := [.int (nI 3), .int x2]) (M' := M) rfl ?_
      refine vm_WM.if (c := x2 < (nI 3)) (t1 := 16) (t2 := 9) (S' := []) 4 rfl rfl rfl (fun hc => ?_) (fun hc => ?_)
      · replace h := h.1 hc
        refine vm_WM.seq 9 1 (pc' := 17) (L' := [.int x2, .int (nI 3), .ref 3000]) (S' := [.int x2]) (M' := M) rfl ?_
        refine vm_WM.ret (r := some (.int x2)) 10 rfl rfl rfl ?_
        show vm_WM X 177 8 [.int x2, .int (nI 3)] [.int x2] M _
        refine vm_WM.seq 4 1 (pc' := 9) (L' := [.int x2, .int (nI 3)]) (S' := []) (M' := M) rfl ?_
        refine vm_WM.ret (r := none) 5 rfl rfl rfl ?_
        show vm_WM X 178 6 [.ref 1015, .int x2] [] M _
        refine vm_WM.seq 4 2 (pc' := 8) (L' := [.ref 1015, .int x2]) (S' := [.int x2, .ref 1015]) (M' := M) rfl ?_
        obtain ⟨j2, hj1, hj2, h⟩ := h
        refine vm_WM.sbl (si := 7) (jj := j2) 6 rfl (by decide) hj1 hj2 ?_
        refine vm_WM.seq 7 3 (pc' := 14) (L' := [.ref 1015, .int x2]) (S' := [.int ((((((vm_strB.getD 7 []).getD j2 0) &&& (nI 255))).toUInt32 % 65536).toInt32)]) (M' := M) rfl ?_
        refine vm_WM.ret (r := some (.int ((((((vm_strB.getD 7 []).getD j2 0) &&& (nI 255))).toUInt32 % 65536).toInt32))) 10 rfl rfl (vm_rtC rfl) ?_
        show vm_WM X 174 15 [.ref 1014, .int x2] [.int ((((((vm_strB.getD 7 []).getD j2 0) &&& (nI 255))).toUInt32 % 65536).toInt32)] M _
        refine vm_WM.ret (r := some (.int ((((((vm_strB.getD 7 []).getD j2 0) &&& (nI 255))).toUInt32 % 65536).toInt32))) 7 rfl rfl (vm_rtC rfl) ?_
        show vm_WM X 69 52 [.ref 5, .ref 1014, .int x2] [.int ((((((vm_strB.getD 7 []).getD j2 0) &&& (nI 255))).toUInt32 % 65536).toInt32), .int (M 6 j1)] M _
        refine vm_WM.if (c := (M 6 j1) = ((((((vm_strB.getD 7 []).getD j2 0) &&& (nI 255))).toUInt32 % 65536).toInt32)) (t1 := 57) (t2 := 55) (S' := []) 30 rfl rfl rfl (fun hc => ?_) (fun hc => ?_)
        · replace h := h.1 hc
          refine vm_WM.seq 33 2 (pc' := 28) (L' := [.ref 5, .ref 1014, .int (x2 + (nI 1))]) (S' := []) (M' := M) rfl ?_
          exact h
        · replace h := h.2 hc
          refine vm_WM.seq 31 1 (pc' := 56) (L' := [.ref 5, .ref 1014, .int x2]) (S' := [.int (nI 0)]) (M' := M) rfl ?_
          exact vm_WM.ret (r := some (.int (nI 0))) 32 rfl rfl rfl ⟨_, rfl, h⟩
      · replace h := h.2 hc
        exact h.elim
  · replace h := h.2 hc
    refine vm_WM.seq 35 1 (pc' := 64) (L' := [.ref 5, .ref 1014, .int x2]) (S' := [.int (nI 1)]) (M' := M) rfl ?_
    exact vm_WM.ret (r := some (.int (nI 1))) 36 rfl rfl rfl ⟨_, rfl, h⟩
theorem v_Tape_readWay_14 {X : Nat × (Nat → Int32)}  {M : vm_M} {P : vm_M → Prop} (h : ((M 14 1) < (nI 10) → (E_Tape_readNumber X (nI 0) ((M 14 0) - (nI 1)) M (fun v1 M2 => E_Tape_readNumber X (nI 0) ((M2 14 0) - (nI 1)) M2 (fun v3 M4 => (v1 = v3 → (E_Tape_fail X (nI 2) M4 (fun M5 => E_Tape_readNumber X (nI 1) (nI 30) M5 (fun v6 M7 => E_Tape_readNumber X (nI 0) (nI 1) M7 (fun v8 M9 => E_Tape_readSign X  M9 (fun M10 => ((M10 5 6) < 0 → ((v8 = (nI 1) → (E_Hill_addWay_14 X v1 v3 v6 (nI 1) M10 (fun M11 => P  M11))) ∧ (¬ (v8 = (nI 1)) → (E_Hill_addWay_14 X v1 v3 v6 (nI 0) M10 (fun M12 => P  M12))))) ∧ (¬ ((M10 5 6) < 0) → (P  M10)))))))) ∧ (¬ (v1 = v3) → (E_Tape_readNumber X (nI 1) (nI 30) M4 (fun v13 M14 => E_Tape_readNumber X (nI 0) (nI 1) M14 (fun v15 M16 => E_Tape_readSign X  M16 (fun M17 => ((M17 5 6) < 0 → ((v15 = (nI 1) → (E_Hill_addWay_14 X v1 v3 v13 (nI 1) M17 (fun M18 => P  M18))) ∧ (¬ (v15 = (nI 1)) → (E_Hill_addWay_14 X v1 v3 v13 (nI 0) M17 (fun M19 => P  M19))))) ∧ (¬ ((M17 5 6) < 0) → (P  M17))))))))))) ∧ (¬ ((M 14 1) < (nI 10)) → (E_Tape_fail X (nI 3) M (fun M20 => P  M20)))) : E_Tape_readWay_14 X  M P := by
  unfold E_Tape_readWay_14
  refine vm_WM.seq 0 3 (pc' := 6) (L' := [.ref 5, .ref 14, .null, .null, .null, .null]) (S' := [.int (nI 10), .int (M 14 1)]) (M' := M) rfl ?_
  refine vm_WM.if (c := (M 14 1) < (nI 10)) (t1 := 15) (t2 := 9) (S' := []) 3 rfl rfl rfl (fun hc => ?_) (fun hc => ?_)
  · replace h := h.1 hc
    refine vm_WM.seq 8 6 (pc' := 23) (L' := [.ref 5, .ref 14, .null, .null, .null, .null]) (S' := [.int ((M 14 0) - (nI 1)), .int (nI 0), .ref 5]) (M' := M) rfl ?_
    refine vm_WM.call (a := 66) (as := [.ref 5, .int (nI 0), .int ((M 14 0) - (nI 1))]) (rest := []) (L0 := [.ref 5, .int (nI 0), .int ((M 14 0) - (nI 1))]) 14 rfl rfl (by decide) rfl rfl ⟨rfl, Or.inr rfl, Nat.le_of_ble_eq_true rfl, Nat.le_of_ble_eq_true rfl⟩ rfl rfl rfl ?_
    refine vm_WM.theni h (fun v1 M2 h => ?_)
    show vm_WM X 64 26 [.ref 5, .ref 14, .null, .null, .null, .null] [.int v1] M2 _
    refine vm_WM.seq 15 7 (pc' := 35) (L' := [.ref 5, .ref 14, .int v1, .null, .null, .null]) (S' := [.int ((M2 14 0) - (nI 1)), .int (nI 0), .ref 5]) (M' := M2) rfl ?_
    refine vm_WM.call (a := 66) (as := [.ref 5, .int (nI 0), .int ((M2 14 0) - (nI 1))]) (rest := []) (L0 := [.ref 5, .int (nI 0), .int ((M2 14 0) - (nI 1))]) 22 rfl rfl (by decide) rfl rfl ⟨rfl, Or.inr rfl, Nat.le_of_ble_eq_true rfl, Nat.le_of_ble_eq_true rfl⟩ rfl rfl rfl ?_
    refine vm_WM.theni h (fun v3 M4 h => ?_)
    show vm_WM X 64 38 [.ref 5, .ref 14, .int v1, .null, .null, .null] [.int v3] M4 _
    refine vm_WM.seq 23 3 (pc' := 41) (L' := [.ref 5, .ref 14, .int v1, .int v3, .null, .null]) (S' := [.int v3, .int v1]) (M' := M4) rfl ?_
    refine vm_WM.if (c := v1 = v3) (t1 := 44) (t2 := 49) (S' := []) 26 rfl rfl rfl (fun hc => ?_) (fun hc => ?_)
    · replace h := h.1 hc
      refine vm_WM.seq 27 2 (pc' := 46) (L' := [.ref 5, .ref 14, .int v1, .int v3, .null, .null]) (S' := [.int (nI 2), .ref 5]) (M' := M4) rfl ?_
      refine vm_WM.call (a := 68) (as := [.ref 5, .int (nI 2)]) (rest := []) (L0 := [.ref 5, .int (nI 2)]) 29 rfl rfl (by decide) rfl rfl ⟨rfl, Or.inr rfl, Nat.le_of_ble_eq_true rfl, Nat.le_of_ble_eq_true rfl⟩ rfl rfl rfl ?_
      refine vm_WM.thenv h (fun M5 h => ?_)
      show vm_WM X 64 49 [.ref 5, .ref 14, .int v1, .int v3, .null, .null] [] M5 _
      refine vm_WM.seq 30 3 (pc' := 53) (L' := [.ref 5, .ref 14, .int v1, .int v3, .null, .null]) (S' := [.int (nI 30), .int (nI 1), .ref 5]) (M' := M5) rfl ?_
      refine vm_WM.call (a := 66) (as := [.ref 5, .int (nI 1), .int (nI 30)]) (rest := []) (L0 := [.ref 5, .int (nI 1), .int (nI 30)]) 33 rfl rfl (by decide) rfl rfl ⟨rfl, Or.inr rfl, Nat.le_of_ble_eq_true rfl, Nat.le_of_ble_eq_true rfl⟩ rfl rfl rfl ?_
      refine vm_WM.theni h (fun v6 M7 h => ?_)
      show vm_WM X 64 56 [.ref 5, .ref 14, .int v1, .int v3, .null, .null] [.int v6] M7 _
      refine vm_WM.seq 34 4 (pc' := 61) (L' := [.ref 5, .ref 14, .int v1, .int v3, .int v6, .null]) (S' := [.int (nI 1), .int (nI 0), .ref 5]) (M' := M7) rfl ?_
      refine vm_WM.call (a := 66) (as := [.ref 5, .int (nI 0), .int (nI 1)]) (rest := []) (L0 := [.ref 5, .int (nI 0), .int (nI 1)]) 38 rfl rfl (by decide) rfl rfl ⟨rfl, Or.inr rfl, Nat.le_of_ble_eq_true rfl, Nat.le_of_ble_eq_true rfl⟩ rfl rfl rfl ?_
      refine vm_WM.theni h (fun v8 M9 h => ?_)
      show vm_WM X 64 64 [.ref 5, .ref 14, .int v1, .int v3, .int v6, .null] [.int v8] M9 _
      refine vm_WM.seq 39 2 (pc' := 67) (L' := [.ref 5, .ref 14, .int v1, .int v3, .int v6, .int v8]) (S' := [.ref 5]) (M' := M9) rfl ?_
      refine vm_WM.call (a := 67) (as := [.ref 5]) (rest := []) (L0 := [.ref 5]) 41 rfl rfl (by decide) rfl rfl ⟨rfl, Or.inr rfl, Nat.le_of_ble_eq_true rfl, Nat.le_of_ble_eq_true rfl⟩ rfl rfl rfl ?_
      refine vm_WM.thenv h (fun M10 h => ?_)
      show vm_WM X 64 70 [.ref 5, .ref 14, .int v1, .int v3, .int v6, .int v8] [] M10 _
      refine vm_WM.seq 42 2 (pc' := 74) (L' := [.ref 5, .ref 14, .int v1, .int v3, .int v6, .int v8]) (S' := [.int (M10 5 6)]) (M' := M10) rfl ?_
      refine vm_WM.if (c := (M10 5 6) < 0) (t1 := 77) (t2 := 96) (S' := []) 44 rfl rfl rfl (fun hc => ?_) (fun hc => ?_)
      · replace h := h.1 hc
        refine vm_WM.seq 45 6 (pc' := 85) (L' := [.ref 5, .ref 14, .int v1, .int v3, .int v6, .int v8]) (S' := [.int (nI 1), .int v8, .int v6, .int v3, .int v1, .ref 14]) (M' := M10) rfl ?_
        refine vm_WM.if (c := v8 = (nI 1)) (t1 := 88) (t2 := 92) (S' := [.int v6, .int v3, .int v1, .ref 14]) 51 rfl rfl rfl (fun hc => ?_) (fun hc => ?_)
        · replace h := h.1 hc
          refine vm_WM.seq 52 2 (pc' := 93) (L' := [.ref 5, .ref 14, .int v1, .int v3, .int v6, .int v8]) (S' := [.int (nI 1), .int v6, .int v3, .int v1, .ref 14]) (M' := M10) rfl ?_
          refine vm_WM.call (a := 41) (as := [.ref 14, .int v1, .int v3, .int v6, .int (nI 1)]) (rest := []) (L0 := [.ref 14, .int v1, .int v3, .int v6, .int (nI 1), .null, .null, .null]) 55 rfl rfl (by decide) rfl rfl ⟨rfl, Or.inr rfl, Nat.le_of_ble_eq_true rfl, Nat.le_of_ble_eq_true rfl⟩ rfl rfl rfl ?_
          refine vm_WM.thenv h (fun M11 h => ?_)
          show vm_WM X 64 96 [.ref 5, .ref 14, .int v1, .int v3, .int v6, .int v8] [] M11 _
          exact vm_WM.ret (r := none) 56 rfl rfl rfl ⟨rfl, h⟩
        · replace h := h.2 hc
          refine vm_WM.seq 54 1 (pc' := 93) (L' := [.ref 5, .ref 14, .int v1, .int v3, .int v6, .int v8]) (S' := [.int (nI 0), .int v6, .int v3, .int v1, .ref 14]) (M' := M10) rfl ?_
          refine vm_WM.call (a := 41) (as := [.ref 14, .int v1, .int v3, .int v6, .int (nI 0)]) (rest := []) (L0 := [.ref 14, .int v1, .int v3, .int v6, .int (nI 0), .null, .null, .null]) 55 rfl rfl (by decide) rfl rfl ⟨rfl, Or.inr rfl, Nat.le_of_ble_eq_true rfl, Nat.le_of_ble_eq_true rfl⟩ rfl rfl rfl ?_
          refine vm_WM.thenv h (fun M12 h => ?_)
          show vm_WM X 64 96 [.ref 5, .ref 14, .int v1, .int v3, .int v6, .int v8] [] M12 _
          exact vm_WM.ret (r := none) 56 rfl rfl rfl ⟨rfl, h⟩
      · replace h := h.2 hc
        exact vm_WM.ret (r := none) 56 rfl rfl rfl ⟨rfl, h⟩
    · replace h := h.2 hc
      refine vm_WM.seq 30 3 (pc' := 53) (L' := [.ref 5, .ref 14, .int v1, .int v3, .null, .null]) (S' := [.int (nI 30), .int (nI 1), .ref 5]) (M' := M4) rfl ?_
      refine vm_WM.call (a := 66) (as := [.ref 5, .int (nI 1), .int (nI 30)]) (rest := []) (L0 := [.ref 5, .int (nI 1), .int (nI 30)]) 33 rfl rfl (by decide) rfl rfl ⟨rfl, Or.inr rfl, Nat.le_of_ble_eq_true rfl, Nat.le_of_ble_eq_true rfl⟩ rfl rfl rfl ?_
      refine vm_WM.theni h (fun v13 M14 h => ?_)
      show vm_WM X 64 56 [.ref 5, .ref 14, .int v1, .int v3, .null, .null] [.int v13] M14 _
      refine vm_WM.seq 34 4 (pc' := 61) (L' := [.ref 5, .ref 14, .int v1, .int v3, .int v13, .null]) (S' := [.int (nI 1), .int (nI 0), .ref 5]) (M' := M14) rfl ?_
      refine vm_WM.call (a := 66) (as := [.ref 5, .int (nI 0), .int (nI 1)]) (rest := []) (L0 := [.ref 5, .int (nI 0), .int (nI 1)]) 38 rfl rfl (by decide) rfl rfl ⟨rfl, Or.inr rfl, Nat.le_of_ble_eq_true rfl, Nat.le_of_ble_eq_true rfl⟩ rfl rfl rfl ?_
      refine vm_WM.theni h (fun v15 M16 h => ?_)
      show vm_WM X 64 64 [.ref 5, .ref 14, .int v1, .int v3, .int v13, .null] [.int v15] M16 _
      refine vm_WM.seq 39 2 (pc' := 67) (L' := [.ref 5, .ref 14, .int v1, .int v3, .int v13, .int v15]) (S' := [.ref 5]) (M' := M16) rfl ?_
      refine vm_WM.call (a := 67) (as := [.ref 5]) (rest := []) (L0 := [.ref 5]) 41 rfl rfl (by decide) rfl rfl ⟨rfl, Or.inr rfl, Nat.le_of_ble_eq_true rfl, Nat.le_of_ble_eq_true rfl⟩ rfl rfl rfl ?_
      refine vm_WM.thenv h (fun M17 h => ?_)
      show vm_WM X 64 70 [.ref 5, .ref 14, .int v1, .int v3, .int v13, .int v15] [] M17 _
      refine vm_WM.seq 42 2 (pc' := 74) (L' := [.ref 5, .ref 14, .int v1, .int v3, .int v13, .int v15]) (S' := [.int (M17 5 6)]) (M' := M17) rfl ?_
      refine vm_WM.if (c := (M17 5 6) < 0) (t1 := 77) (t2 := 96) (S' := []) 44 rfl rfl rfl (fun hc => ?_) (fun hc => ?_)
      · replace h := h.1 hc
        refine vm_WM.seq 45 6 (pc' := 85) (L' := [.ref 5, .ref 14, .int v1, .int v3, .int v13, .int v15]) (S' := [.int (nI 1), .int v15, .int v13, .int v3, .int v1, .ref 14]) (M' := M17) rfl ?_
        refine vm_WM.if (c := v15 = (nI 1)) (t1 := 88) (t2 := 92) (S' := [.int v13, .int v3, .int v1, .ref 14]) 51 rfl rfl rfl (fun hc => ?_) (fun hc => ?_)
        · replace h := h.1 hc
          refine vm_WM.seq 52 2 (pc' := 93) (L' := [.ref 5, .ref 14, .int v1, .int v3, .int v13, .int v15]) (S' := [.int (nI 1), .int v13, .int v3, .int v1, .ref 14]) (M' := M17) rfl ?_
          refine vm_WM.call (a := 41) (as := [.ref 14, .int v1, .int v3, .int v13, .int (nI 1)]) (rest := []) (L0 := [.ref 14, .int v1, .int v3, .int v13, .int (nI 1), .null, .null, .null]) 55 rfl rfl (by decide) rfl rfl ⟨rfl, Or.inr rfl, Nat.le_of_ble_eq_true rfl, Nat.le_of_ble_eq_true rfl⟩ rfl rfl rfl ?_
          refine vm_WM.thenv h (fun M18 h => ?_)
          show vm_WM X 64 96 [.ref 5, .ref 14, .int v1, .int v3, .int v13, .int v15] [] M18 _
          exact vm_WM.ret (r := none) 56 rfl rfl rfl ⟨rfl, h⟩
        · replace h := h.2 hc
          refine vm_WM.seq 54 1 (pc' := 93) (L' := [.ref 5, .ref 14, .int v1, .int v3, .int v13, .int v15]) (S' := [.int (nI 0), .int v13, .int v3, .int v1, .ref 14]) (M' := M17) rfl ?_
          refine vm_WM.call (a := 41) (as := [.ref 14, .int v1, .int v3, .int v13, .int (nI 0)]) (rest := []) (L0 := [.ref 14, .int v1, .int v3, .int v13, .int (nI 0), .null, .null, .null]) 55 rfl rfl (by decide) rfl rfl ⟨rfl, Or.inr rfl, Nat.le_of_ble_eq_true rfl, Nat.le_of_ble_eq_true rfl⟩ rfl rfl rfl ?_
          refine vm_WM.thenv h (fun M19 h => ?_)
          show vm_WM X 64 96 [.ref 5, .ref 14, .int v1, .int v3, .int v13, .int v15] [] M19 _
          exact vm_WM.ret (r := none) 56 rfl rfl rfl ⟨rfl, h⟩
      · replace h := h.2 hc
        exact vm_WM.ret (r := none) 56 rfl rfl rfl ⟨rfl, h⟩
  · replace h := h.2 hc
    refine vm_WM.seq 4 2 (pc' := 11) (L' := [.ref 5, .ref 14, .null, .null, .null, .null]) (S' := [.int (nI 3), .ref 5]) (M' := M) rfl ?_
    refine vm_WM.call (a := 68) (as := [.ref 5, .int (nI 3)]) (rest := []) (L0 := [.ref 5, .int (nI 3)]) 6 rfl rfl (by decide) rfl rfl ⟨rfl, Or.inr rfl, Nat.le_of_ble_eq_true rfl, Nat.le_of_ble_eq_true rfl⟩ rfl rfl rfl ?_
    refine vm_WM.thenv h (fun M20 h => ?_)
    show vm_WM X 64 14 [.ref 5, .ref 14, .null, .null, .null, .null] [] M20 _
    exact vm_WM.ret (r := none) 7 rfl rfl rfl ⟨rfl, h⟩
theorem v_Tape_readTrader_14 {X : Nat × (Nat → Int32)}  {M : vm_M} {P : vm_M → Prop} (h : ((M 14 0) < (nI 6) → (E_Tape_readSort X  M (fun v1 M2 => E_Tape_readNumber X (nI 0) (nI 99) M2 (fun v3 M4 => E_Tape_readNumber X (nI 0) (nI 60) M4 (fun v5 M6 => E_Tape_readSign X  M6 (fun M7 => ((M7 5 6) < 0 → (E_Hill_addTrader_14 X v1 v3 v5 M7 (fun M8 => P  M8))) ∧ (¬ ((M7 5 6) < 0) → (P  M7)))))))) ∧ (¬ ((M 14 0) < (nI 6)) → (E_Tape_fail X (nI 3) M (fun M9 => P  M9)))) : E_Tape_readTrader_14 X  M P := by
  unfold E_Tape_readTrader_14
  refine vm_WM.seq 0 3 (pc' := 6) (L' := [.ref 5, .ref 14, .null, .null, .null]) (S' := [.int (nI 6), .int (M 14 0)]) (M' := M) rfl ?_
  refine vm_WM.if (c := (M 14 0) < (nI 6)) (t1 := 15) (t2 := 9) (S' := []) 3 rfl rfl rfl (fun hc => ?_) (fun hc => ?_)
  · replace h := h.1 hc
    refine vm_WM.seq 8 1 (pc' := 16) (L' := [.ref 5, .ref 14, .null, .null, .null]) (S' := [.ref 5]) (M' := M) rfl ?_
    refine vm_WM.call (a := 65) (as := [.ref 5]) (rest := []) (L0 := [.ref 5, .null]) 9 rfl rfl (by decide) rfl rfl ⟨rfl, Or.inr rfl, Nat.le_of_ble_eq_true rfl, Nat.le_of_ble_eq_true rfl⟩ rfl rfl rfl ?_
    refine vm_WM.theni h (fun v1 M2 h => ?_)
    show vm_WM X 63 19 [.ref 5, .ref 14, .null, .null, .null] [.int v1] M2 _
    refine vm_WM.seq 10 4 (pc' := 24) (L' := [.ref 5, .ref 14, .int v1, .null, .null]) (S' := [.int (nI 99), .int (nI 0), .ref 5]) (M' := M2) rfl ?_
    refine vm_WM.call (a := 66) (as := [.ref 5, .int (nI 0), .int (nI 99)]) (rest := []) (L0 := [.ref 5, .int (nI 0), .int (nI 99)]) 14 rfl rfl (by decide) rfl rfl ⟨rfl, Or.inr rfl, Nat.le_of_ble_eq_true rfl, Nat.le_of_ble_eq_true rfl⟩ rfl rfl rfl ?_
    refine vm_WM.theni h (fun v3 M4 h => ?_)
    show vm_WM X 63 27 [.ref 5, .ref 14, .int v1, .null, .null] [.int v3] M4 _
    refine vm_WM.seq 15 4 (pc' := 32) (L' := [.ref 5, .ref 14, .int v1, .int v3, .null]) (S' := [.int (nI 60), .int (nI 0), .ref 5]) (M' := M4) rfl ?_
    refine vm_WM.call (a := 66) (as := [.ref 5, .int (nI 0), .int (nI 60)]) (rest := []) (L0 := [.ref 5, .int (nI 0), .int (nI 60)]) 19 rfl rfl (by decide) rfl rfl ⟨rfl, Or.inr rfl, Nat.le_of_ble_eq_true rfl, Nat.le_of_ble_eq_true rfl⟩ rfl rfl rfl ?_
    refine vm_WM.theni h (fun v5 M6 h => ?_)
    show vm_WM X 63 35 [.ref 5, .ref 14, .int v1, .int v3, .null] [.int v5] M6 _
    refine vm_WM.seq 20 2 (pc' := 38) (L' := [.ref 5, .ref 14, .int v1, .int v3, .int v5]) (S' := [.ref 5]) (M' := M6) rfl ?_
    refine vm_WM.call (a := 67) (as := [.ref 5]) (rest := []) (L0 := [.ref 5]) 22 rfl rfl (by decide) rfl rfl ⟨rfl, Or.inr rfl, Nat.le_of_ble_eq_true rfl, Nat.le_of_ble_eq_true rfl⟩ rfl rfl rfl ?_
    refine vm_WM.thenv h (fun M7 h => ?_)
    show vm_WM X 63 41 [.ref 5, .ref 14, .int v1, .int v3, .int v5] [] M7 _
    refine vm_WM.seq 23 2 (pc' := 45) (L' := [.ref 5, .ref 14, .int v1, .int v3, .int v5]) (S' := [.int (M7 5 6)]) (M' := M7) rfl ?_
    refine vm_WM.if (c := (M7 5 6) < 0) (t1 := 48) (t2 := 56) (S' := []) 25 rfl rfl rfl (fun hc => ?_) (fun hc => ?_)
    · replace h := h.1 hc
      refine vm_WM.seq 26 4 (pc' := 53) (L' := [.ref 5, .ref 14, .int v1, .int v3, .int v5]) (S' := [.int v5, .int v3, .int v1, .ref 14]) (M' := M7) rfl ?_
      refine vm_WM.call (a := 40) (as := [.ref 14, .int v1, .int v3, .int v5]) (rest := []) (L0 := [.ref 14, .int v1, .int v3, .int v5]) 30 rfl rfl (by decide) rfl rfl ⟨rfl, Or.inr rfl, Nat.le_of_ble_eq_true rfl, Nat.le_of_ble_eq_true rfl⟩ rfl rfl rfl ?_
      refine vm_WM.thenv h (fun M8 h => ?_)
      show vm_WM X 63 56 [.ref 5, .ref 14, .int v1, .int v3, .int v5] [] M8 _
      exact vm_WM.ret (r := none) 31 rfl rfl rfl ⟨rfl, h⟩
    · replace h := h.2 hc
      exact vm_WM.ret (r := none) 31 rfl rfl rfl ⟨rfl, h⟩
  · replace h := h.2 hc
    refine vm_WM.seq 4 2 (pc' := 11) (L' := [.ref 5, .ref 14, .null, .null, .null]) (S' := [.int (nI 3), .ref 5]) (M' := M) rfl ?_
    refine vm_WM.call (a := 68) (as := [.ref 5, .int (nI 3)]) (rest := []) (L0 := [.ref 5, .int (nI 3)]) 6 rfl rfl (by decide) rfl rfl ⟨rfl, Or.inr rfl, Nat.le_of_ble_eq_true rfl, Nat.le_of_ble_eq_true rfl⟩ rfl rfl rfl ?_
    refine vm_WM.thenv h (fun M9 h => ?_)
    show vm_WM X 63 14 [.ref 5, .ref 14, .null, .null, .null] [] M9 _
    exact vm_WM.ret (r := none) 7 rfl rfl rfl ⟨rfl, h⟩
theorem v_Foretold_bestOf {X : Nat × (Nat → Int32)} {a1 : Int32} {a2 : Int32} {a3 : Int32} {M : vm_M} {P : Int32 → vm_M → Prop} (h : (a2 < (nI 60) → (∃ j1 : Nat, (((a2 + (nI 1)) * (nI 6)) + a1) = nI j1 ∧ j1 < 366 ∧ (C_Foretold_bestOf_28 X a1 a2 a3 (M 42 j1) (nI 0) (.null) (.null) (.null) (.null) M P))) ∧ (¬ (a2 < (nI 60)) → (C_Foretold_bestOf_28 X a1 a2 a3 (nI 0) (nI 0) (.null) (.null) (.null) (.null) M P))) : E_Foretold_bestOf X a1 a2 a3 M P := by
  unfold E_Foretold_bestOf
  refine vm_WM.seq 0 2 (pc' := 3) (L' := [.ref 41, .int a1, .int a2, .int a3, .null, .null, .null, .null, .null, .null]) (S' := [.int (nI 60), .int a2]) (M' := M) rfl ?_
  refine vm_WM.if (c := a2 < (nI 60)) (t1 := 6) (t2 := 22) (S' := []) 2 rfl rfl rfl (fun hc => ?_) (fun hc => ?_)
  · replace h := h.1 hc
    refine vm_WM.seq 3 9 (pc' := 18) (L' := [.ref 41, .int a1, .int a2, .int a3, .null, .null, .null, .null, .null, .null]) (S' := [.int (((a2 + (nI 1)) * (nI 6)) + a1), .ref 42]) (M' := M) rfl ?_
    obtain ⟨j1, hj1, hj2, h⟩ := h
    refine vm_WM.ald (n := 366) (jj := j1) 12 rfl (Or.inl ⟨rfl, rfl⟩) (by decide) rfl hj1 hj2 ?_
    refine vm_WM.seq 13 1 (pc' := 23) (L' := [.ref 41, .int a1, .int a2, .int a3, .null, .null, .null, .null, .null, .null]) (S' := [.int (M 42 j1)]) (M' := M) rfl ?_
    refine vm_WM.seq 15 3 (pc' := 28) (L' := [.ref 41, .int a1, .int a2, .int a3, .int (M 42 j1), .int (nI 0), .null, .null, .null, .null]) (S' := []) (M' := M) rfl ?_
    exact h
  · replace h := h.2 hc
    refine vm_WM.seq 14 4 (pc' := 28) (L' := [.ref 41, .int a1, .int a2, .int a3, .int (nI 0), .int (nI 0), .null, .null, .null, .null]) (S' := []) (M' := M) rfl ?_
    exact h
theorem v_Foretold_bestOf_28 {X : Nat × (Nat → Int32)} {x1 : Int32} {x2 : Int32} {x3 : Int32} {x4 : Int32} {x5 : Int32} {w6 : Value} {w7 : Value} {w8 : Value} {w9 : Value} {M : vm_M} {P : Int32 → vm_M → Prop} (h : (x5 < (M 7 0) → (E_Hill_handed_7 X x1 x5 x2 (M 7 2) M (fun v1 M2 => (x2 < v1 → (((nI 60) < v1 → (C_Foretold_bestOf_28 X x1 x2 x3 x4 (x5 + (nI 1)) (.int v1) (w7) (w8) (w9) M2 P)) ∧ (¬ ((nI 60) < v1) → (∃ j3 : Nat, ((v1 * (nI 6)) + x5) = nI j3 ∧ j3 < 366 ∧ (E_Hill_price_7 X x5 M2 (fun v4 M5 => (x3 = 0 → (C_Foretold_bestOf_28 X x1 x2 x3 (if x4 < (((v4 * (nI 64)) - (nI 1)) + (M2 42 j3)) then (((v4 * (nI 64)) - (nI 1)) + (M2 42 j3)) else x4) (x5 + (nI 1)) (.int v1) (.int (M2 42 j3)) (.int v4) (.int (((v4 * (nI 64)) - (nI 1)) + (M2 42 j3))) M5 P)) ∧ (¬ (x3 = 0) → (((M2 42 j3) < v4 → (C_Foretold_bestOf_28 X x1 x2 x3 (if x4 < (nI 0) then (nI 0) else x4) (x5 + (nI 1)) (.int v1) (.int (M2 42 j3)) (.int v4) (.int (nI 0)) M5 P)) ∧ (¬ ((M2 42 j3) < v4) → (C_Foretold_bestOf_28 X x1 x2 x3 (if x4 < v4 then v4 else x4) (x5 + (nI 1)) (.int v1) (.int (M2 42 j3)) (.int v4) (.int v4) M5 P)))))))))) ∧ (¬ (x2 < v1) → (C_Foretold_bestOf_28 X x1 x2 x3 x4 (x5 + (nI 1)) (.int v1) (w7) (w8) (w9) M2 P))))) ∧ (¬ (x5 < (M 7 0)) → (P x4 M))) : C_Foretold_bestOf_28 X x1 x2 x3 x4 x5 w6 w7 w8 w9 M P := by
  unfold C_Foretold_bestOf_28
  refine vm_WM.seq 18 4 (pc' := 37) (L' := [.ref 41, .int x1, .int x2, .int x3, .int x4, .int x5, w6, w7, w8, w9]) (S' := [.int (M 7 0), .int x5]) (M' := M) rfl ?_
  refine vm_WM.if (c := x5 < (M 7 0)) (t1 := 40) (t2 := 146) (S' := []) 22 rfl rfl rfl (fun hc => ?_) (fun hc => ?_)
  · replace h := h.1 hc
    refine vm_WM.seq 23 8 (pc' := 55) (L' := [.ref 41, .int x1, .int x2, .int x3, .int x4, .int x5, w6, w7, w8, w9]) (S' := [.int (M 7 2), .int x2, .int x5, .int x1, .ref 7]) (M' := M) rfl ?_
    refine vm_WM.call (a := 46) (as := [.ref 7, .int x1, .int x5, .int x2, .int (M 7 2)]) (rest := []) (L0 := [.ref 7, .int x1, .int x5, .int x2, .int (M 7 2), .null]) 31 rfl rfl (by decide) rfl rfl ⟨rfl, Or.inr rfl, Nat.le_of_ble_eq_true rfl, Nat.le_of_ble_eq_true rfl⟩ rfl rfl rfl ?_
    refine vm_WM.theni h (fun v1 M2 h => ?_)
    show vm_WM X 24 58 [.ref 41, .int x1, .int x2, .int x3, .int x4, .int x5, w6, w7, w8, w9] [.int v1] M2 _
    refine vm_WM.seq 32 3 (pc' := 63) (L' := [.ref 41, .int x1, .int x2, .int x3, .int x4, .int x5, .int v1, w7, w8, w9]) (S' := [.int x2, .int v1]) (M' := M2) rfl ?_
    refine vm_WM.if (c := x2 < v1) (t1 := 66) (t2 := 140) (S' := []) 35 rfl rfl rfl (fun hc => ?_) (fun hc => ?_)
    · replace h := h.1 hc
      refine vm_WM.seq 36 2 (pc' := 70) (L' := [.ref 41, .int x1, .int x2, .int x3, .int x4, .int x5, .int v1, w7, w8, w9]) (S' := [.int (nI 60), .int v1]) (M' := M2) rfl ?_
      refine vm_WM.if (c := (nI 60) < v1) (t1 := 140) (t2 := 73) (S' := []) 38 rfl rfl rfl (fun hc => ?_) (fun hc => ?_)
      · replace h := h.1 hc
        refine vm_WM.seq 74 2 (pc' := 28) (L' := [.ref 41, .int x1, .int x2, .int x3, .int x4, .int (x5 + (nI 1)), .int v1, w7, w8, w9]) (S' := []) (M' := M2) rfl ?_
        exact h
      · replace h := h.2 hc
        refine vm_WM.seq 39 7 (pc' := 85) (L' := [.ref 41, .int x1, .int x2, .int x3, .int x4, .int x5, .int v1, w7, w8, w9]) (S' := [.int ((v1 * (nI 6)) + x5), .ref 42]) (M' := M2) rfl ?_
        obtain ⟨j3, hj1, hj2, h⟩ := h
        refine vm_WM.ald (n := 366) (jj := j3) 46 rfl (Or.inl ⟨rfl, rfl⟩) (by decide) rfl hj1 hj2 ?_
        refine vm_WM.seq 47 4 (pc' := 94) (L' := [.ref 41, .int x1, .int x2, .int x3, .int x4, .int x5, .int v1, .int (M2 42 j3), w8, w9]) (S' := [.int x5, .ref 7]) (M' := M2) rfl ?_
        refine vm_WM.call (a := 43) (as := [.ref 7, .int x5]) (rest := []) (L0 := [.ref 7, .int x5]) 51 rfl rfl (by decide) rfl rfl ⟨rfl, Or.inr rfl, Nat.le_of_ble_eq_true rfl, Nat.le_of_ble_eq_true rfl⟩ rfl rfl rfl ?_
        refine vm_WM.theni h (fun v4 M5 h => ?_)
        show vm_WM X 24 97 [.ref 41, .int x1, .int x2, .int x3, .int x4, .int x5, .int v1, .int (M2 42 j3), w8, w9] [.int v4] M5 _
        refine vm_WM.seq 52 2 (pc' := 100) (L' := [.ref 41, .int x1, .int x2, .int x3, .int x4, .int x5, .int v1, .int (M2 42 j3), .int v4, w9]) (S' := [.int x3]) (M' := M5) rfl ?_
        refine vm_WM.if (c := x3 = 0) (t1 := 103) (t2 := 116) (S' := []) 54 rfl rfl rfl (fun hc => ?_) (fun hc => ?_)
        · replace h := h.1 hc
          refine vm_WM.seq 55 8 (pc' := 129) (L' := [.ref 41, .int x1, .int x2, .int x3, .int x4, .int x5, .int v1, .int (M2 42 j3), .int v4, w9]) (S' := [.int (((v4 * (nI 64)) - (nI 1)) + (M2 42 j3))]) (M' := M5) rfl ?_
          refine vm_WM.seq 69 3 (pc' := 135) (L' := [.ref 41, .int x1, .int x2, .int x3, .int x4, .int x5, .int v1, .int (M2 42 j3), .int v4, .int (((v4 * (nI 64)) - (nI 1)) + (M2 42 j3))]) (S' := [.int (((v4 * (nI 64)) - (nI 1)) + (M2 42 j3)), .int x4]) (M' := M5) rfl ?_
          refine vm_WM.mm (w := (if x4 < (((v4 * (nI 64)) - (nI 1)) + (M2 42 j3)) then (((v4 * (nI 64)) - (nI 1)) + (M2 42 j3)) else x4)) 72 rfl rfl (Or.inl rfl) rfl (Nat.le_of_ble_eq_true rfl) ?_
          refine vm_WM.seq 73 3 (pc' := 28) (L' := [.ref 41, .int x1, .int x2, .int x3, .int (if x4 < (((v4 * (nI 64)) - (nI 1)) + (M2 42 j3)) then (((v4 * (nI 64)) - (nI 1)) + (M2 42 j3)) else x4), .int (x5 + (nI 1)), .int v1, .int (M2 42 j3), .int v4, .int (((v4 * (nI 64)) - (nI 1)) + (M2 42 j3))]) (S' := []) (M' := M5) rfl ?_
          exact h
        · replace h := h.2 hc
          refine vm_WM.seq 63 2 (pc' := 120) (L' := [.ref 41, .int x1, .int x2, .int x3, .int x4, .int x5, .int v1, .int (M2 42 j3), .int v4, w9]) (S' := [.int v4, .int (M2 42 j3)]) (M' := M5) rfl ?_
          refine vm_WM.if (c := (M2 42 j3) < v4) (t1 := 128) (t2 := 123) (S' := []) 65 rfl rfl rfl (fun hc => ?_) (fun hc => ?_)
          · replace h := h.1 hc
            refine vm_WM.seq 68 4 (pc' := 135) (L' := [.ref 41, .int x1, .int x2, .int x3, .int x4, .int x5, .int v1, .int (M2 42 j3), .int v4, .int (nI 0)]) (S' := [.int (nI 0), .int x4]) (M' := M5) rfl ?_
            refine vm_WM.mm (w := (if x4 < (nI 0) then (nI 0) else x4)) 72 rfl rfl (Or.inl rfl) rfl (Nat.le_of_ble_eq_true rfl) ?_
            refine vm_WM.seq 73 3 (pc' := 28) (L' := [.ref 41, .int x1, .int x2, .int x3, .int (if x4 < (nI 0) then (nI 0) else x4), .int (x5 + (nI 1)), .int v1, .int (M2 42 j3), .int v4, .int (nI 0)]) (S' := []) (M' := M5) rfl ?_
            exact h
          · replace h := h.2 hc
            refine vm_WM.seq 66 2 (pc' := 129) (L' := [.ref 41, .int x1, .int x2, .int x3, .int x4, .int x5, .int v1, .int (M2 42 j3), .int v4, w9]) (S' := [.int v4]) (M' := M5) rfl ?_
            refine vm_WM.seq 69 3 (pc' := 135) (L' := [.ref 41, .int x1, .int x2, .int x3, .int x4, .int x5, .int v1, .int (M2 42 j3), .int v4, .int v4]) (S' := [.int v4, .int x4]) (M' := M5) rfl ?_
            refine vm_WM.mm (w := (if x4 < v4 then v4 else x4)) 72 rfl rfl (Or.inl rfl) rfl (Nat.le_of_ble_eq_true rfl) ?_
            refine vm_WM.seq 73 3 (pc' := 28) (L' := [.ref 41, .int x1, .int x2, .int x3, .int (if x4 < v4 then v4 else x4), .int (x5 + (nI 1)), .int v1, .int (M2 42 j3), .int v4, .int v4]) (S' := []) (M' := M5) rfl ?_
            exact h
    · replace h := h.2 hc
      refine vm_WM.seq 74 2 (pc' := 28) (L' := [.ref 41, .int x1, .int x2, .int x3, .int x4, .int (x5 + (nI 1)), .int v1, w7, w8, w9]) (S' := []) (M' := M2) rfl ?_
      exact h
  · replace h := h.2 hc
    refine vm_WM.seq 76 1 (pc' := 148) (L' := [.ref 41, .int x1, .int x2, .int x3, .int x4, .int x5, w6, w7, w8, w9]) (S' := [.int x4]) (M' := M) rfl ?_
    exact vm_WM.ret (r := some (.int x4)) 77 rfl rfl rfl ⟨_, rfl, h⟩
theorem v_Foretold_nextTold {X : Nat × (Nat → Int32)} {a1 : Int32} {M : vm_M} {P : Int32 → vm_M → Prop} (h : C_Foretold_nextTold_4 X a1 (a1 + (nI 1)) M P) : E_Foretold_nextTold X a1 M P := by
  unfold E_Foretold_nextTold
  refine vm_WM.seq 0 4 (pc' := 4) (L' := [.ref 41, .int a1, .int (a1 + (nI 1))]) (S' := []) (M' := M) rfl ?_
  exact h
theorem v_Foretold_nextTold_4 {X : Nat × (Nat → Int32)} {x1 : Int32} {x2 : Int32} {M : vm_M} {P : Int32 → vm_M → Prop} (h : (x2 < (nI 60) → (∃ j1 : Nat, x2 = nI j1 ∧ j1 < 61 ∧ (((M 43 j1) = (nI 63) → (C_Foretold_nextTold_4 X x1 (x2 + (nI 1)) M P)) ∧ (¬ ((M 43 j1) = (nI 63)) → (P (if (nI 60) < x2 then (nI 60) else x2) M))))) ∧ (¬ (x2 < (nI 60)) → (P (if (nI 60) < x2 then (nI 60) else x2) M))) : C_Foretold_nextTold_4 X x1 x2 M P := by
  unfold C_Foretold_nextTold_4
  refine vm_WM.seq 4 2 (pc' := 7) (L' := [.ref 41, .int x1, .int x2]) (S' := [.int (nI 60), .int x2]) (M' := M) rfl ?_
  refine vm_WM.if (c := x2 < (nI 60)) (t1 := 10) (t2 := 27) (S' := []) 6 rfl rfl rfl (fun hc => ?_) (fun hc => ?_)
  · replace h := h.1 hc
    refine vm_WM.seq 7 3 (pc' := 15) (L' := [.ref 41, .int x1, .int x2]) (S' := [.int x2, .ref 43]) (M' := M) rfl ?_
    obtain ⟨j1, hj1, hj2, h⟩ := h
    refine vm_WM.ald (n := 61) (jj := j1) 10 rfl (Or.inl ⟨rfl, rfl⟩) (by decide) rfl hj1 hj2 ?_
    refine vm_WM.seq 11 1 (pc' := 18) (L' := [.ref 41, .int x1, .int x2]) (S' := [.int (nI 63), .int (M 43 j1)]) (M' := M) rfl ?_
    refine vm_WM.if (c := (M 43 j1) = (nI 63)) (t1 := 21) (t2 := 27) (S' := []) 12 rfl rfl rfl (fun hc => ?_) (fun hc => ?_)
    · replace h := h.1 hc
      refine vm_WM.seq 13 2 (pc' := 4) (L' := [.ref 41, .int x1, .int (x2 + (nI 1))]) (S' := []) (M' := M) rfl ?_
      exact h
    · replace h := h.2 hc
      refine vm_WM.seq 15 2 (pc' := 30) (L' := [.ref 41, .int x1, .int x2]) (S' := [.int (nI 60), .int x2]) (M' := M) rfl ?_
      refine vm_WM.mm (w := (if (nI 60) < x2 then (nI 60) else x2)) 17 rfl rfl (Or.inr rfl) rfl (Nat.le_of_ble_eq_true rfl) ?_
      exact vm_WM.ret (r := some (.int (if (nI 60) < x2 then (nI 60) else x2))) 18 rfl rfl rfl ⟨_, rfl, h⟩
  · replace h := h.2 hc
    refine vm_WM.seq 15 2 (pc' := 30) (L' := [.ref 41, .int x1, .int x2]) (S' := [.int (nI 60), .int x2]) (M' := M) rfl ?_
    refine vm_WM.mm (w := (if (nI 60) < x2 then (nI 60) else x2)) 17 rfl rfl (Or.inr rfl) rfl (Nat.le_of_ble_eq_true rfl) ?_
    exact vm_WM.ret (r := some (.int (if (nI 60) < x2 then (nI 60) else x2))) 18 rfl rfl rfl ⟨_, rfl, h⟩
theorem v_Foretold_goFrom {X : Nat × (Nat → Int32)} {a1 : Int32} {a2 : Int32} {a3 : Int32} {M : vm_M} {P : vm_M → Prop} (h : (a2 < (nI 60) → (∃ j1 : Nat, (a2 + (nI 1)) = nI j1 ∧ j1 < 61 ∧ (∃ j2 : Nat, (a2 + (nI 1)) = nI j2 ∧ j2 < 61 ∧ (C_Foretold_goFrom_23 X a1 a2 a3 (nI 0) (.null) (vm_u2 M 44 j2 ((M 44 j1) ||| ((nI 1) <<< (a1 &&& 31)))) P)))) ∧ (¬ (a2 < (nI 60)) → (C_Foretold_goFrom_23 X a1 a2 a3 (nI 0) (.null) M P))) : E_Foretold_goFrom X a1 a2 a3 M P := by
  unfold E_Foretold_goFrom
  refine vm_WM.seq 0 2 (pc' := 3) (L' := [.ref 41, .int a1, .int a2, .int a3, .null, .null]) (S' := [.int (nI 60), .int a2]) (M' := M) rfl ?_
  refine vm_WM.if (c := a2 < (nI 60)) (t1 := 6) (t2 := 20) (S' := []) 2 rfl rfl rfl (fun hc => ?_) (fun hc => ?_)
  · replace h := h.1 hc
    refine vm_WM.seq 3 6 (pc' := 14) (L' := [.ref 41, .int a1, .int a2, .int a3, .null, .null]) (S' := [.int (a2 + (nI 1)), .ref 44, .int (a2 + (nI 1)), .ref 44]) (M' := M) rfl ?_
    obtain ⟨j1, hj1, hj2, h⟩ := h
    refine vm_WM.ald (n := 61) (jj := j1) 9 rfl (Or.inl ⟨rfl, rfl⟩) (by decide) rfl hj1 hj2 ?_
    refine vm_WM.seq 10 4 (pc' := 19) (L' := [.ref 41, .int a1, .int a2, .int a3, .null, .null]) (S' := [.int ((M 44 j1) ||| ((nI 1) <<< (a1 &&& 31))), .int (a2 + (nI 1)), .ref 44]) (M' := M) rfl ?_
    obtain ⟨j2, hj1, hj2, h⟩ := h
    refine vm_WM.ast (n := 61) (jj := j2) 14 rfl rfl hj1 hj2 ?_
    refine vm_WM.seq 15 2 (pc' := 23) (L' := [.ref 41, .int a1, .int a2, .int a3, .int (nI 0), .null]) (S' := []) (M' := (vm_u2 M 44 j2 ((M 44 j1) ||| ((nI 1) <<< (a1 &&& 31))))) rfl ?_
    exact h
  · replace h := h.2 hc
    refine vm_WM.seq 15 2 (pc' := 23) (L' := [.ref 41, .int a1, .int a2, .int a3, .int (nI 0), .null]) (S' := []) (M' := M) rfl ?_
    exact h
theorem v_Foretold_goFrom_23 {X : Nat × (Nat → Int32)} {x1 : Int32} {x2 : Int32} {x3 : Int32} {x4 : Int32} {w5 : Value} {M : vm_M} {P : vm_M → Prop} (h : (x4 < (M 7 0) → (E_Hill_handed_7 X x1 x4 x2 (M 7 2) M (fun v1 M2 => (x2 < v1 → ((x3 < v1 → (C_Foretold_goFrom_23 X x1 x2 x3 (x4 + (nI 1)) (.int v1) M2 P)) ∧ (¬ (x3 < v1) → (∃ j3 : Nat, v1 = nI j3 ∧ j3 < 61 ∧ (∃ j4 : Nat, v1 = nI j4 ∧ j4 < 61 ∧ (C_Foretold_goFrom_23 X x1 x2 x3 (x4 + (nI 1)) (.int v1) (vm_u2 M2 44 j4 ((M2 44 j3) ||| ((nI 1) <<< (x4 &&& 31)))) P)))))) ∧ (¬ (x2 < v1) → (C_Foretold_goFrom_23 X x1 x2 x3 (x4 + (nI 1)) (.int v1) M2 P))))) ∧ (¬ (x4 < (M 7 0)) → (P  M))) : C_Foretold_goFrom_23 X x1 x2 x3 x4 w5 M P := by
  unfold C_Foretold_goFrom_23
  refine vm_WM.seq 17 4 (pc' := 32) (L' := [.ref 41, .int x1, .int x2, .int x3, .int x4, w5]) (S' := [.int (M 7 0), .int x4]) (M' := M) rfl ?_
  refine vm_WM.if (c := x4 < (M 7 0)) (t1 := 35) (t2 := 87) (S' := []) 21 rfl rfl rfl (fun hc => ?_) (fun hc => ?_)
  · replace h := h.1 hc
    refine vm_WM.seq 22 8 (pc' := 50) (L' := [.ref 41, .int x1, .int x2, .int x3, .int x4, w5]) (S' := [.int (M 7 2), .int x2, .int x4, .int x1, .ref 7]) (M' := M) rfl ?_
    refine vm_WM.call (a := 46) (as := [.ref 7, .int x1, .int x4, .int x2, .int (M 7 2)]) (rest := []) (L0 := [.ref 7, .int x1, .int x4, .int x2, .int (M 7 2), .null]) 30 rfl rfl (by decide) rfl rfl ⟨rfl, Or.inr rfl, Nat.le_of_ble_eq_true rfl, Nat.le_of_ble_eq_true rfl⟩ rfl rfl rfl ?_
    refine vm_WM.theni h (fun v1 M2 h => ?_)
    show vm_WM X 32 53 [.ref 41, .int x1, .int x2, .int x3, .int x4, w5] [.int v1] M2 _
    refine vm_WM.seq 31 3 (pc' := 58) (L' := [.ref 41, .int x1, .int x2, .int x3, .int x4, .int v1]) (S' := [.int x2, .int v1]) (M' := M2) rfl ?_
    refine vm_WM.if (c := x2 < v1) (t1 := 61) (t2 := 81) (S' := []) 34 rfl rfl rfl (fun hc => ?_) (fun hc => ?_)
    · replace h := h.1 hc
      refine vm_WM.seq 35 2 (pc' := 64) (L' := [.ref 41, .int x1, .int x2, .int x3, .int x4, .int v1]) (S' := [.int x3, .int v1]) (M' := M2) rfl ?_
      refine vm_WM.if (c := x3 < v1) (t1 := 81) (t2 := 67) (S' := []) 37 rfl rfl rfl (fun hc => ?_) (fun hc => ?_)
      · replace h := h.1 hc
        refine vm_WM.seq 48 2 (pc' := 23) (L' := [.ref 41, .int x1, .int x2, .int x3, .int (x4 + (nI 1)), .int v1]) (S' := []) (M' := M2) rfl ?_
        exact h
      · replace h := h.2 hc
        refine vm_WM.seq 38 4 (pc' := 74) (L' := [.ref 41, .int x1, .int x2, .int x3, .int x4, .int v1]) (S' := [.int v1, .ref 44, .int v1, .ref 44]) (M' := M2) rfl ?_
        obtain ⟨j3, hj1, hj2, h⟩ := h
        refine vm_WM.ald (n := 61) (jj := j3) 42 rfl (Or.inl ⟨rfl, rfl⟩) (by decide) rfl hj1 hj2 ?_
        refine vm_WM.seq 43 4 (pc' := 80) (L' := [.ref 41, .int x1, .int x2, .int x3, .int x4, .int v1]) (S' := [.int ((M2 44 j3) ||| ((nI 1) <<< (x4 &&& 31))), .int v1, .ref 44]) (M' := M2) rfl ?_
        obtain ⟨j4, hj1, hj2, h⟩ := h
        refine vm_WM.ast (n := 61) (jj := j4) 47 rfl rfl hj1 hj2 ?_
        refine vm_WM.seq 48 2 (pc' := 23) (L' := [.ref 41, .int x1, .int x2, .int x3, .int (x4 + (nI 1)), .int v1]) (S' := []) (M' := (vm_u2 M2 44 j4 ((M2 44 j3) ||| ((nI 1) <<< (x4 &&& 31))))) rfl ?_
        exact h
    · replace h := h.2 hc
      refine vm_WM.seq 48 2 (pc' := 23) (L' := [.ref 41, .int x1, .int x2, .int x3, .int (x4 + (nI 1)), .int v1]) (S' := []) (M' := M2) rfl ?_
      exact h
  · replace h := h.2 hc
    exact vm_WM.ret (r := none) 50 rfl rfl rfl ⟨rfl, h⟩
theorem v_Foretold_canGoOn {X : Nat × (Nat → Int32)} {a1 : Int32} {a2 : Int32} {a3 : Int32} {M : vm_M} {P : Int32 → vm_M → Prop} (h : C_Foretold_canGoOn_3 X a1 a2 a3 (nI 0) (.null) M P) : E_Foretold_canGoOn X a1 a2 a3 M P := by
  unfold E_Foretold_canGoOn
  refine vm_WM.seq 0 2 (pc' := 3) (L' := [.ref 41, .int a1, .int a2, .int a3, .int (nI 0), .null]) (S' := []) (M' := M) rfl ?_
  exact h
theorem v_Foretold_canGoOn_3 {X : Nat × (Nat → Int32)} {x1 : Int32} {x2 : Int32} {x3 : Int32} {x4 : Int32} {w5 : Value} {M : vm_M} {P : Int32 → vm_M → Prop} (h : (x4 < (M 7 0) → (E_Hill_handed_7 X x1 x4 x2 (M 7 2) M (fun v1 M2 => (x2 < v1 → ((x3 < v1 → (C_Foretold_canGoOn_3 X x1 x2 x3 (x4 + (nI 1)) (.int v1) M2 P)) ∧ (¬ (x3 < v1) → (∃ j3 : Nat, v1 = nI j3 ∧ j3 < 61 ∧ (((((M2 45 j3) >>> (x4 &&& 31)) &&& (nI 1)) = 0 → (C_Foretold_canGoOn_3 X x1 x2 x3 (x4 + (nI 1)) (.int v1) M2 P)) ∧ (¬ ((((M2 45 j3) >>> (x4 &&& 31)) &&& (nI 1)) = 0) → (P (nI 1) M2))))))) ∧ (¬ (x2 < v1) → (C_Foretold_canGoOn_3 X x1 x2 x3 (x4 + (nI 1)) (.int v1) M2 P))))) ∧ (¬ (x4 < (M 7 0)) → (P (nI 0) M))) : C_Foretold_canGoOn_3 X x1 x2 x3 x4 w5 M P := by
  unfold C_Foretold_canGoOn_3
  refine vm_WM.seq 2 4 (pc' := 12) (L' := [.ref 41, .int x1, .int x2, .int x3, .int x4, w5]) (S' := [.int (M 7 0), .int x4]) (M' := M) rfl ?_
  refine vm_WM.if (c := x4 < (M 7 0)) (t1 := 15) (t2 := 70) (S' := []) 6 rfl rfl rfl (fun hc => ?_) (fun hc => ?_)
  · replace h := h.1 hc
    refine vm_WM.seq 7 8 (pc' := 30) (L' := [.ref 41, .int x1, .int x2, .int x3, .int x4, w5]) (S' := [.int (M 7 2), .int x2, .int x4, .int x1, .ref 7]) (M' := M) rfl ?_
    refine vm_WM.call (a := 46) (as := [.ref 7, .int x1, .int x4, .int x2, .int (M 7 2)]) (rest := []) (L0 := [.ref 7, .int x1, .int x4, .int x2, .int (M 7 2), .null]) 15 rfl rfl (by decide) rfl rfl ⟨rfl, Or.inr rfl, Nat.le_of_ble_eq_true rfl, Nat.le_of_ble_eq_true rfl⟩ rfl rfl rfl ?_
    refine vm_WM.theni h (fun v1 M2 h => ?_)
    show vm_WM X 34 33 [.ref 41, .int x1, .int x2, .int x3, .int x4, w5] [.int v1] M2 _
    refine vm_WM.seq 16 3 (pc' := 38) (L' := [.ref 41, .int x1, .int x2, .int x3, .int x4, .int v1]) (S' := [.int x2, .int v1]) (M' := M2) rfl ?_
    refine vm_WM.if (c := x2 < v1) (t1 := 41) (t2 := 64) (S' := []) 19 rfl rfl rfl (fun hc => ?_) (fun hc => ?_)
    · replace h := h.1 hc
      refine vm_WM.seq 20 2 (pc' := 44) (L' := [.ref 41, .int x1, .int x2, .int x3, .int x4, .int v1]) (S' := [.int x3, .int v1]) (M' := M2) rfl ?_
      refine vm_WM.if (c := x3 < v1) (t1 := 64) (t2 := 47) (S' := []) 22 rfl rfl rfl (fun hc => ?_) (fun hc => ?_)
      · replace h := h.1 hc
        refine vm_WM.seq 34 2 (pc' := 3) (L' := [.ref 41, .int x1, .int x2, .int x3, .int (x4 + (nI 1)), .int v1]) (S' := []) (M' := M2) rfl ?_
        exact h
      · replace h := h.2 hc
        refine vm_WM.seq 23 3 (pc' := 53) (L' := [.ref 41, .int x1, .int x2, .int x3, .int x4, .int v1]) (S' := [.int v1, .ref 45]) (M' := M2) rfl ?_
        obtain ⟨j3, hj1, hj2, h⟩ := h
        refine vm_WM.ald (n := 61) (jj := j3) 26 rfl (Or.inl ⟨rfl, rfl⟩) (by decide) rfl hj1 hj2 ?_
        refine vm_WM.seq 27 4 (pc' := 59) (L' := [.ref 41, .int x1, .int x2, .int x3, .int x4, .int v1]) (S' := [.int (((M2 45 j3) >>> (x4 &&& 31)) &&& (nI 1))]) (M' := M2) rfl ?_
        refine vm_WM.if (c := (((M2 45 j3) >>> (x4 &&& 31)) &&& (nI 1)) = 0) (t1 := 64) (t2 := 62) (S' := []) 31 rfl rfl rfl (fun hc => ?_) (fun hc => ?_)
        · replace h := h.1 hc
          refine vm_WM.seq 34 2 (pc' := 3) (L' := [.ref 41, .int x1, .int x2, .int x3, .int (x4 + (nI 1)), .int v1]) (S' := []) (M' := M2) rfl ?_
          exact h
        · replace h := h.2 hc
          refine vm_WM.seq 32 1 (pc' := 63) (L' := [.ref 41, .int x1, .int x2, .int x3, .int x4, .int v1]) (S' := [.int (nI 1)]) (M' := M2) rfl ?_
          exact vm_WM.ret (r := some (.int (nI 1))) 33 rfl rfl rfl ⟨_, rfl, h⟩
    · replace h := h.2 hc
      refine vm_WM.seq 34 2 (pc' := 3) (L' := [.ref 41, .int x1, .int x2, .int x3, .int (x4 + (nI 1)), .int v1]) (S' := []) (M' := M2) rfl ?_
      exact h
  · replace h := h.2 hc
    refine vm_WM.seq 36 1 (pc' := 71) (L' := [.ref 41, .int x1, .int x2, .int x3, .int x4, w5]) (S' := [.int (nI 0)]) (M' := M) rfl ?_
    exact vm_WM.ret (r := some (.int (nI 0))) 37 rfl rfl rfl ⟨_, rfl, h⟩
