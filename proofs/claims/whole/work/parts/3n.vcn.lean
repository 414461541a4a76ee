/-! walks, by wip/whole/vcgen.py -/
theorem v_Asks_enter {X : Nat × (Nat → Int32)} {a1 : Int32} {M : vm_M} {P : vm_M → Prop} (h : ((M 46 2) < (nI 16) → (∃ j1 : Nat, (M 46 2) = nI j1 ∧ j1 < 16 ∧ (P  (vm_u2 (vm_u2 M 47 j1 a1) 46 2 (((vm_u2 M 47 j1 a1) 46 2) + (nI 1)))))) ∧ (¬ ((M 46 2) < (nI 16)) → (P  M))) : E_Asks_enter X a1 M P := by
  unfold E_Asks_enter
  refine vm_WM.seq 0 3 (pc' := 6) (L' := [.ref 46, .int a1]) (S' := [.int (nI 16), .int (M 46 2)]) (M' := M) rfl ?_
  refine vm_WM.if (c := (M 46 2) < (nI 16)) (t1 := 9) (t2 := 29) (S' := []) 3 rfl rfl rfl (fun hc => ?_) (fun hc => ?_)
  · replace h := h.1 hc
    refine vm_WM.seq 4 5 (pc' := 18) (L' := [.ref 46, .int a1]) (S' := [.int a1, .int (M 46 2), .ref 47]) (M' := M) rfl ?_
    obtain ⟨j1, hj1, hj2, h⟩ := h
    refine vm_WM.ast (n := 16) (jj := j1) 9 rfl rfl hj1 hj2 ?_
    refine vm_WM.seq 10 6 (pc' := 29) (L' := [.ref 46, .int a1]) (S' := []) (M' := (vm_u2 (vm_u2 M 47 j1 a1) 46 2 (((vm_u2 M 47 j1 a1) 46 2) + (nI 1)))) rfl ?_
    exact vm_WM.ret (r := none) 16 rfl rfl rfl ⟨rfl, h⟩
  · replace h := h.2 hc
    exact vm_WM.ret (r := none) 16 rfl rfl rfl ⟨rfl, h⟩
theorem v_M_byteAt {X : Nat × (Nat → Int32)} {a1 : Int32} {M : vm_M} {P : Int32 → vm_M → Prop} (h : (a1 < (M 48 12) → (∃ j1 : Nat, a1 = nI j1 ∧ j1 < 400 ∧ (P (M 55 j1) M))) ∧ (¬ (a1 < (M 48 12)) → (P (Int32.ofInt (-1000000)) M))) : E_M_byteAt X a1 M P := by
  unfold E_M_byteAt
  refine vm_WM.seq 0 3 (pc' := 5) (L' := [.ref 48, .int a1]) (S' := [.int (M 48 12), .int a1]) (M' := M) rfl ?_
  refine vm_WM.if (c := a1 < (M 48 12)) (t1 := 8) (t2 := 17) (S' := []) 3 rfl rfl rfl (fun hc => ?_) (fun hc => ?_)
  · replace h := h.1 hc
    refine vm_WM.seq 4 3 (pc' := 13) (L' := [.ref 48, .int a1]) (S' := [.int a1, .ref 55]) (M' := M) rfl ?_
    obtain ⟨j1, hj1, hj2, h⟩ := h
    refine vm_WM.ald (n := 400) (jj := j1) 7 rfl (Or.inl ⟨rfl, rfl⟩) (by decide) rfl hj1 hj2 ?_
    refine vm_WM.seq 8 1 (pc' := 19) (L' := [.ref 48, .int a1]) (S' := [.int (M 55 j1)]) (M' := M) rfl ?_
    exact vm_WM.ret (r := some (.int (M 55 j1))) 10 rfl rfl rfl ⟨_, rfl, h⟩
  · replace h := h.2 hc
    refine vm_WM.seq 9 1 (pc' := 19) (L' := [.ref 48, .int a1]) (S' := [.int (Int32.ofInt (-1000000))]) (M' := M) rfl ?_
    exact vm_WM.ret (r := some (.int (Int32.ofInt (-1000000)))) 10 rfl rfl rfl ⟨_, rfl, h⟩
theorem v_M_isLetter {X : Nat × (Nat → Int32)} {a0 : Int32} {M : vm_M} {P : Int32 → vm_M → Prop} (h : (a0 < (nI 97) → (P (nI 0) M)) ∧ (¬ (a0 < (nI 97)) → (((nI 122) < a0 → (P (nI 0) M)) ∧ (¬ ((nI 122) < a0) → (P (nI 1) M))))) : E_M_isLetter X a0 M P := by
  unfold E_M_isLetter
  refine vm_WM.seq 0 2 (pc' := 3) (L' := [.int a0]) (S' := [.int (nI 97), .int a0]) (M' := M) rfl ?_
  refine vm_WM.if (c := a0 < (nI 97)) (t1 := 16) (t2 := 6) (S' := []) 2 rfl rfl rfl (fun hc => ?_) (fun hc => ?_)
  · replace h := h.1 hc
    refine vm_WM.seq 8 1 (pc' := 17) (L' := [.int a0]) (S' := [.int (nI 0)]) (M' := M) rfl ?_
    exact vm_WM.ret (r := some (.int (nI 0))) 9 rfl rfl rfl ⟨_, rfl, h⟩
  · replace h := h.2 hc
    refine vm_WM.seq 3 2 (pc' := 9) (L' := [.int a0]) (S' := [.int (nI 122), .int a0]) (M' := M) rfl ?_
    refine vm_WM.if (c := (nI 122) < a0) (t1 := 16) (t2 := 12) (S' := []) 5 rfl rfl rfl (fun hc => ?_) (fun hc => ?_)
    · replace h := h.1 hc
      refine vm_WM.seq 8 1 (pc' := 17) (L' := [.int a0]) (S' := [.int (nI 0)]) (M' := M) rfl ?_
      exact vm_WM.ret (r := some (.int (nI 0))) 9 rfl rfl rfl ⟨_, rfl, h⟩
    · replace h := h.2 hc
      refine vm_WM.seq 6 2 (pc' := 17) (L' := [.int a0]) (S' := [.int (nI 1)]) (M' := M) rfl ?_
      exact vm_WM.ret (r := some (.int (nI 1))) 9 rfl rfl rfl ⟨_, rfl, h⟩
theorem v_M_isFigure {X : Nat × (Nat → Int32)} {a0 : Int32} {M : vm_M} {P : Int32 → vm_M → Prop} (h : (a0 < (nI 48) → (P (nI 0) M)) ∧ (¬ (a0 < (nI 48)) → (((nI 57) < a0 → (P (nI 0) M)) ∧ (¬ ((nI 57) < a0) → (P (nI 1) M))))) : E_M_isFigure X a0 M P := by
  unfold E_M_isFigure
  refine vm_WM.seq 0 2 (pc' := 3) (L' := [.int a0]) (S' := [.int (nI 48), .int a0]) (M' := M) rfl ?_
  refine vm_WM.if (c := a0 < (nI 48)) (t1 := 16) (t2 := 6) (S' := []) 2 rfl rfl rfl (fun hc => ?_) (fun hc => ?_)
  · replace h := h.1 hc
    refine vm_WM.seq 8 1 (pc' := 17) (L' := [.int a0]) (S' := [.int (nI 0)]) (M' := M) rfl ?_
    exact vm_WM.ret (r := some (.int (nI 0))) 9 rfl rfl rfl ⟨_, rfl, h⟩
  · replace h := h.2 hc
    refine vm_WM.seq 3 2 (pc' := 9) (L' := [.int a0]) (S' := [.int (nI 57), .int a0]) (M' := M) rfl ?_
    refine vm_WM.if (c := (nI 57) < a0) (t1 := 16) (t2 := 12) (S' := []) 5 rfl rfl rfl (fun hc => ?_) (fun hc => ?_)
    · replace h := h.1 hc
      refine vm_WM.seq 8 1 (pc' := 17) (L' := [.int a0]) (S' := [.int (nI 0)]) (M' := M) rfl ?_
      exact vm_WM.ret (r := some (.int (nI 0))) 9 rfl rfl rfl ⟨_, rfl, h⟩
    · replace h := h.2 hc
      refine vm_WM.seq 6 2 (pc' := 17) (L' := [.int a0]) (S' := [.int (nI 1)]) (M' := M) rfl ?_
      exact vm_WM.ret (r := some (.int (nI 1))) 9 rfl rfl rfl ⟨_, rfl, h⟩
theorem v_Tape_isLetter {X : Nat × (Nat → Int32)} {a0 : Int32} {M : vm_M} {P : Int32 → vm_M → Prop} (h : (a0 < (nI 97) → (P (nI 0) M)) ∧ (¬ (a0 < (nI 97)) → (((nI 122) < a0 → (P (nI 0) M)) ∧ (¬ ((nI 122) < a0) → (P (nI 1) M))))) : E_Tape_isLetter X a0 M P := by
  unfold E_Tape_isLetter
  refine vm_WM.seq 0 2 (pc' := 3) (L' := [.int a0]) (S' := [.int (nI 97), .int a0]) (M' := M) rfl ?_
  refine vm_WM.if (c := a0 < (nI 97)) (t1 := 16) (t2 := 6) (S' := []) 2 rfl rfl rfl (fun hc => ?_) (fun hc => ?_)
  · replace h := h.1 hc
    refine vm_WM.seq 8 1 (pc' := 17) (L' := [.int a0]) (S' := [.int (nI 0)]) (M' := M) rfl ?_
    exact vm_WM.ret (r := some (.int (nI 0))) 9 rfl rfl rfl ⟨_, rfl, h⟩
  · replace h := h.2 hc
    refine vm_WM.seq 3 2 (pc' := 9) (L' := [.int a0]) (S' := [.int (nI 122), .int a0]) (M' := M) rfl ?_
    refine vm_WM.if (c := (nI 122) < a0) (t1 := 16) (t2 := 12) (S' := []) 5 rfl rfl rfl (fun hc => ?_) (fun hc => ?_)
    · replace h := h.1 hc
      refine vm_WM.seq 8 1 (pc' := 17) (L' := [.int a0]) (S' := [.int (nI 0)]) (M' := M) rfl ?_
      exact vm_WM.ret (r := some (.int (nI 0))) 9 rfl rfl rfl ⟨_, rfl, h⟩
    · replace h := h.2 hc
      refine vm_WM.seq 6 2 (pc' := 17) (L' := [.int a0]) (S' := [.int (nI 1)]) (M' := M) rfl ?_
      exact vm_WM.ret (r := some (.int (nI 1))) 9 rfl rfl rfl ⟨_, rfl, h⟩
theorem v_Tape_isFigure {X : Nat × (Nat → Int32)} {a0 : Int32} {M : vm_M} {P : Int32 → vm_M → Prop} (h : (a0 < (nI 48) → (P (nI 0) M)) ∧ (¬ (a0 < (nI 48)) → (((nI 57) < a0 → (P (nI 0) M)) ∧ (¬ ((nI 57) < a0) → (P (nI 1) M))))) : E_Tape_isFigure X a0 M P := by
  unfold E_Tape_isFigure
  refine vm_WM.seq 0 2 (pc' := 3) (L' := [.int a0]) (S' := [.int (nI 48), .int a0]) (M' := M) rfl ?_
  refine vm_WM.if (c := a0 < (nI 48)) (t1 := 16) (t2 := 6) (S' := []) 2 rfl rfl rfl (fun hc => ?_) (fun hc => ?_)
  · replace h := h.1 hc
    refine vm_WM.seq 8 1 (pc' := 17) (L' := [.int a0]) (S' := [.int (nI 0)]) (M' := M) rfl ?_
    exact vm_WM.ret (r := some (.int (nI 0))) 9 rfl rfl rfl ⟨_, rfl, h⟩
  · replace h := h.2 hc
    refine vm_WM.seq 3 2 (pc' := 9) (L' := [.int a0]) (S' := [.int (nI 57), .int a0]) (M' := M) rfl ?_
    refine vm_WM.if (c := (nI 57) < a0) (t1 := 16) (t2 := 12) (S' := []) 5 rfl rfl rfl (fun hc => ?_) (fun hc => ?_)
    · replace h := h.1 hc
      refine vm_WM.seq 8 1 (pc' := 17) (L' := [.int a0]) (S' := [.int (nI 0)]) (M' := M) rfl ?_
      exact vm_WM.ret (r := some (.int (nI 0))) 9 rfl rfl rfl ⟨_, rfl, h⟩
    · replace h := h.2 hc
      refine vm_WM.seq 6 2 (pc' := 17) (L' := [.int a0]) (S' := [.int (nI 1)]) (M' := M) rfl ?_
      exact vm_WM.ret (r := some (.int (nI 1))) 9 rfl rfl rfl ⟨_, rfl, h⟩
theorem v_Hill_addWay_14 {X : Nat × (Nat → Int32)} {a1 : Int32} {a2 : Int32} {a3 : Int32} {a4 : Int32} {M : vm_M} {P : vm_M → Prop} (h : (a1 < 0 → (P  M)) ∧ (¬ (a1 < 0) → ((a1 < (M 14 0) → ((a2 < 0 → (P  M)) ∧ (¬ (a2 < 0) → ((a2 < (M 14 0) → ((a4 = 0 → (∃ j1 : Nat, ((a1 * (nI 6)) + a2) = nI j1 ∧ j1 < 36 ∧ (((M 19 j1) = 0 → (∃ j2 : Nat, ((a1 * (nI 6)) + a2) = nI j2 ∧ j2 < 36 ∧ (∃ j3 : Nat, ((a2 * (nI 6)) + a1) = nI j3 ∧ j3 < 36 ∧ (P  (vm_u2 (vm_u2 (vm_u2 M 19 j2 a3) 19 j3 a3) 14 1 (((vm_u2 (vm_u2 M 19 j2 a3) 19 j3 a3) 14 1) + (nI 1))))))) ∧ (¬ ((M 19 j1) = 0) → (∃ j4 : Nat, ((a1 * (nI 6)) + a2) = nI j4 ∧ j4 < 36 ∧ (∃ j5 : Nat, ((a2 * (nI 6)) + a1) = nI j5 ∧ j5 < 36 ∧ (P  (vm_u2 (vm_u2 (vm_u2 M 19 j4 (if a3 < (M 19 j1) then a3 else (M 19 j1))) 19 j5 (if a3 < (M 19 j1) then a3 else (M 19 j1))) 14 1 (((vm_u2 (vm_u2 M 19 j4 (if a3 < (M 19 j1) then a3 else (M 19 j1))) 19 j5 (if a3 < (M 19 j1) then a3 else (M 19 j1))) 14 1) + (nI 1)))))))))) ∧ (¬ (a4 = 0) → (∃ j6 : Nat, ((a1 * (nI 6)) + a2) = nI j6 ∧ j6 < 36 ∧ (((M 20 j6) = 0 → (∃ j7 : Nat, ((a1 * (nI 6)) + a2) = nI j7 ∧ j7 < 36 ∧ (∃ j8 : Nat, ((a2 * (nI 6)) + a1) = nI j8 ∧ j8 < 36 ∧ (P  (vm_u2 (vm_u2 (vm_u2 M 20 j7 a3) 20 j8 a3) 14 1 (((vm_u2 (vm_u2 M 20 j7 a3) 20 j8 a3) 14 1) + (nI 1))))))) ∧ (¬ ((M 20 j6) = 0) → (∃ j9 : Nat, ((a1 * (nI 6)) + a2) = nI j9 ∧ j9 < 36 ∧ (∃ j10 : Nat, ((a2 * (nI 6)) + a1) = nI j10 ∧ j10 < 36 ∧ (P  (vm_u2 (vm_u2 (vm_u2 M 20 j9 (if a3 < (M 20 j6) then a3 else (M 20 j6))) 20 j10 (if a3 < (M 20 j6) then a3 else (M 20 j6))) 14 1 (((vm_u2 (vm_u2 M 20 j9 (if a3 < (M 20 j6) then a3 else (M 20 j6))) 20 j10 (if a3 < (M 20 j6) then a3 else (M 20 j6))) 14 1) + (nI 1)))))))))))) ∧ (¬ (a2 < (M 14 0)) → (P  M)))))) ∧ (¬ (a1 < (M 14 0)) → (P  M))))) : E_Hill_addWay_14 X a1 a2 a3 a4 M P := by
  unfold E_Hill_addWay_14
  refine vm_WM.seq 0 2 (pc' := 2) (L' := [.ref 14, .int a1, .int a2, .int a3, .int a4, .null, .null, .null]) (S' := [.int a1, .ref 14]) (M' := M) rfl ?_
  refine vm_WM.call (a := 38) (as := [.ref 14, .int a1]) (rest := []) (L0 := [.ref 14, .int a1]) 2 rfl rfl (by decide) rfl rfl ⟨rfl, Or.inr rfl, Nat.le_of_ble_eq_true rfl, Nat.le_of_ble_eq_true rfl⟩ rfl rfl rfl ?_
  refine vm_WM.seq 0 1 (pc' := 1) (L' := [.ref 14, .int a1]) (S' := [.int a1]) (M' := M) rfl ?_
  refine vm_WM.if (c := a1 < 0) (t1 := 16) (t2 := 4) (S' := []) 1 rfl rfl rfl (fun hc => ?_) (fun hc => ?_)
  · replace h := h.1 hc
    refine vm_WM.seq 8 1 (pc' := 17) (L' := [.ref 14, .int a1]) (S' := [.int (nI 0)]) (M' := M) rfl ?_
    refine vm_WM.ret (r := some (.int (nI 0))) 9 rfl rfl rfl ?_
    show vm_WM X 41 5 [.ref 14, .int a1, .int a2, .int a3, .int a4, .null, .null, .null] [.int (nI 0)] M _
    refine vm_WM.seq 3 1 (pc' := 94) (L' := [.ref 14, .int a1, .int a2, .int a3, .int a4, .null, .null, .null]) (S' := []) (M' := M) rfl ?_
    exact vm_WM.ret (r := none) 54 rfl rfl rfl ⟨rfl, h⟩
  · replace h := h.2 hc
    refine vm_WM.seq 2 3 (pc' := 9) (L' := [.ref 14, .int a1]) (S' := [.int (M 14 0), .int a1]) (M' := M) rfl ?_
    refine vm_WM.if (c := a1 < (M 14 0)) (t1 := 12) (t2 := 16) (S' := []) 5 rfl rfl rfl (fun hc => ?_) (fun hc => ?_)
    · replace h := h.1 hc
      refine vm_WM.seq 6 2 (pc' := 17) (L' := [.ref 14, .int a1]) (S' := [.int (nI 1)]) (M' := M) rfl ?_
      refine vm_WM.ret (r := some (.int (nI 1))) 9 rfl rfl rfl ?_
      show vm_WM X 41 5 [.ref 14, .int a1, .int a2, .int a3, .int a4, .null, .null, .null] [.int (nI 1)] M _
      refine vm_WM.seq 3 3 (pc' := 10) (L' := [.ref 14, .int a1, .int a2, .int a3, .int a4, .null, .null, .null]) (S' := [.int a2, .ref 14]) (M' := M) rfl ?_
      refine vm_WM.call (a := 38) (as := [.ref 14, .int a2]) (rest := []) (L0 := [.ref 14, .int a2]) 6 rfl rfl (by decide) rfl rfl ⟨rfl, Or.inr rfl, Nat.le_of_ble_eq_true rfl, Nat.le_of_ble_eq_true rfl⟩ rfl rfl rfl ?_
      refine vm_WM.seq 0 1 (pc' := 1) (L' := [.ref 14, .int a2]) (S' := [.int a2]) (M' := M) rfl ?_
      refine vm_WM.if (c := a2 < 0) (t1 := 16) (t2 := 4) (S' := []) 1 rfl rfl rfl (fun hc => ?_) (fun hc => ?_)
      · replace h := h.1 hc
        refine vm_WM.seq 8 1 (pc' := 17) (L' := [.ref 14, .int a2]) (S' := [.int (nI 0)]) (M' := M) rfl ?_
        refine vm_WM.ret (r := some (.int (nI 0))) 9 rfl rfl rfl ?_
        show vm_WM X 41 13 [.ref 14, .int a1, .int a2, .int a3, .int a4, .null, .null, .null] [.int (nI 0)] M _
        refine vm_WM.seq 7 1 (pc' := 94) (L' := [.ref 14, .int a1, .int a2, .int a3, .int a4, .null, .null, .null]) (S' := []) (M' := M) rfl ?_
        exact vm_WM.ret (r := none) 54 rfl rfl rfl ⟨rfl, h⟩
      · replace h := h.2 hc
        refine vm_WM.seq 2 3 (pc' := 9) (L' := [.ref 14, .int a2]) (S' := [.int (M 14 0), .int a2]) (M' := M) rfl ?_
        refine vm_WM.if (c := a2 < (M 14 0)) (t1 := 12) (t2 := 16) (S' := []) 5 rfl rfl rfl (fun hc => ?_) (fun hc => ?_)
        · replace h := h.1 hc
          refine vm_WM.seq 6 2 (pc' := 17) (L' := [.ref 14, .int a2]) (S' := [.int (nI 1)]) (M' := M) rfl ?_
          refine vm_WM.ret (r := some (.int (nI 1))) 9 rfl rfl rfl ?_
          show vm_WM X 41 13 [.ref 14, .int a1, .int a2, .int a3, .int a4, .null, .null, .null] [.int (nI 1)] M _
          refine vm_WM.seq 7 2 (pc' := 18) (L' := [.ref 14, .int a1, .int a2, .int a3, .int a4, .null, .null, .null]) (S' := [.int a4]) (M' := M) rfl ?_
          refine vm_WM.if (c := a4 = 0) (t1 := 28) (t2 := 21) (S' := []) 9 rfl rfl rfl (fun hc => ?_) (fun hc => ?_)
          · replace h := h.1 hc
            refine vm_WM.seq 13 9 (pc' := 42) (L' := [.ref 14, .int a1, .int a2, .int a3, .int a4, .ref 19, .null, .null]) (S' := [.int ((a1 * (nI 6)) + a2), .ref 19]) (M' := M) rfl ?_
            obtain ⟨j1, hj1, hj2, h⟩ := h
            refine vm_WM.ald (n := 36) (jj := j1) 22 rfl (Or.inl ⟨rfl, rfl⟩) (by decide) rfl hj1 hj2 ?_
            refine vm_WM.seq 23 2 (pc' := 47) (L' := [.ref 14, .int a1, .int a2, .int a3, .int a4, .ref 19, .int (M 19 j1), .null]) (S' := [.int (M 19 j1)]) (M' := M) rfl ?_
            refine vm_WM.if (c := (M 19 j1) = 0) (t1 := 50) (t2 := 54) (S' := []) 25 rfl rfl rfl (fun hc => ?_) (fun hc => ?_)
            · replace h := h.1 hc
              refine vm_WM.seq 26 2 (pc' := 60) (L' := [.ref 14, .int a1, .int a2, .int a3, .int a4, .ref 19, .int (M 19 j1), .null]) (S' := [.int a3]) (M' := M) rfl ?_
              refine vm_WM.seq 31 8 (pc' := 72) (L' := [.ref 14, .int a1, .int a2, .int a3, .int a4, .ref 19, .int (M 19 j1), .int a3]) (S' := [.int a3, .int ((a1 * (nI 6)) + a2), .ref 19]) (M' := M) rfl ?_
              obtain ⟨j2, hj1, hj2, h⟩ := h
              refine vm_WM.ast (n := 36) (jj := j2) 39 rfl rfl hj1 hj2 ?_
              refine vm_WM.seq 40 7 (pc' := 83) (L' := [.ref 14, .int a1, .int a2, .int a3, .int a4, .ref 19, .int (M 19 j1), .int a3]) (S' := [.int a3, .int ((a2 * (nI 6)) + a1), .ref 19]) (M' := (vm_u2 M 19 j2 a3)) rfl ?_
              obtain ⟨j3, hj1, hj2, h⟩ := h
              refine vm_WM.ast (n := 36) (jj := j3) 47 rfl rfl hj1 hj2 ?_
              refine vm_WM.seq 48 6 (pc' := 94) (L' := [.ref 14, .int a1, .int a2, .int a3, .int a4, .ref 19, .int (M 19 j1), .int a3]) (S' := []) (M' := (vm_u2 (vm_u2 (vm_u2 M 19 j2 a3) 19 j3 a3) 14 1 (((vm_u2 (vm_u2 M 19 j2 a3) 19 j3 a3) 14 1) + (nI 1)))) rfl ?_
              exact vm_WM.ret (r := none) 54 rfl rfl rfl ⟨rfl, h⟩
            · replace h := h.2 hc
              refine vm_WM.seq 28 2 (pc' := 57) (L' := [.ref 14, .int a1, .int a2, .int a3, .int a4, .ref 19, .int (M 19 j1), .null]) (S' := [.int a3, .int (M 19 j1)]) (M' := M) rfl ?_
              refine vm_WM.mm (w := (if a3 < (M 19 j1) then a3 else (M 19 j1))) 30 rfl rfl (Or.inr rfl) rfl (Nat.le_of_ble_eq_true rfl) ?_
              refine vm_WM.seq 31 8 (pc' := 72) (L' := [.ref 14, .int a1, .int a2, .int a3, .int a4, .ref 19, .int (M 19 j1), .int (if a3 < (M 19 j1) then a3 else (M 19 j1))]) (S' := [.int (if a3 < (M 19 j1) then a3 else (M 19 j1)), .int ((a1 * (nI 6)) + a2), .ref 19]) (M' := M) rfl ?_
              obtain ⟨j4, hj1, hj2, h⟩ := h
              refine vm_WM.ast (n := 36) (jj := j4) 39 rfl rfl hj1 hj2 ?_
              refine vm_WM.seq 40 7 (pc' := 83) (L' := [.ref 14, .int a1, .int a2, .int a3, .int a4, .ref 19, .int (M 19 j1), .int (if a3 < (M 19 j1) then a3 else (M 19 j1))]) (S' := [.int (if a3 < (M 19 j1) then a3 else (M 19 j1)), .int ((a2 * (nI 6)) + a1), .ref 19]) (M' := (vm_u2 M 19 j4 (if a3 < (M 19 j1) then a3 else (M 19 j1)))) rfl ?_
              obtain ⟨j5, hj1, hj2, h⟩ := h
              refine vm_WM.ast (n := 36) (jj := j5) 47 rfl rfl hj1 hj2 ?_
              refine vm_WM.seq 48 6 (pc' := 94) (L' := [.ref 14, .int a1, .int a2, .int a3, .int a4, .ref 19, .int (M 19 j1), .int (if a3 < (M 19 j1) then a3 else (M 19 j1))]) (S' := []) (M' := (vm_u2 (vm_u2 (vm_u2 M 19 j4 (if a3 < (M 19 j1) then a3 else (M 19 j1))) 19 j5 (if a3 < (M 19 j1) then a3 else (M 19 j1))) 14 1 (((vm_u2 (vm_u2 M 19 j4 (if a3 < (M 19 j1) then a3 else (M 19 j1))) 19 j5 (if a3 < (M 19 j1) then a3 else (M 19 j1))) 14 1) + (nI 1)))) rfl ?_
              exact vm_WM.ret (r := none) 54 rfl rfl rfl ⟨rfl, h⟩
          · replace h := h.2 hc
            refine vm_WM.seq 10 3 (pc' := 32) (L' := [.ref 14, .int a1, .int a2, .int a3, .int a4, .null, .null, .null]) (S' := [.ref 20]) (M' := M) rfl ?_
            refine vm_WM.seq 15 7 (pc' := 42) (L' := [.ref 14, .int a1, .int a2, .int a3, .int a4, .ref 20, .null, .null]) (S' := [.int ((a1 * (nI 6)) + a2), .ref 20]) (M' := M) rfl ?_
            obtain ⟨j6, hj1, hj2, h⟩ := h
            refine vm_WM.ald (n := 36) (jj := j6) 22 rfl (Or.inl ⟨rfl, rfl⟩) (by decide) rfl hj1 hj2 ?_
            refine vm_WM.seq 23 2 (pc' := 47) (L' := [.ref 14, .int a1, .int a2, .int a3, .int a4, .ref 20, .int (M 20 j6), .null]) (S' := [.int (M 20 j6)]) (M' := M) rfl ?_
            refine vm_WM.if (c := (M 20 j6) = 0) (t1 := 50) (t2 := 54) (S' := []) 25 rfl rfl rfl (fun hc => ?_) (fun hc => ?_)
            · replace h := h.1 hc
              refine vm_WM.seq 26 2 (pc' := 60) (L' := [.ref 14, .int a1, .int a2, .int a3, .int a4, .ref 20, .int (M 20 j6), .null]) (S' := [.int a3]) (M' := M) rfl ?_
              refine vm_WM.seq 31 8 (pc' := 72) (L' := [.ref 14, .int a1, .int a2, .int a3, .int a4, .ref 20, .int (M 20 j6), .int a3]) (S' := [.int a3, .int ((a1 * (nI 6)) + a2), .ref 20]) (M' := M) rfl ?_
              obtain ⟨j7, hj1, hj2, h⟩ := h
              refine vm_WM.ast (n := 36) (jj := j7) 39 rfl rfl hj1 hj2 ?_
              refine vm_WM.seq 40 7 (pc' := 83) (L' := [.ref 14, .int a1, .int a2, .int a3, .int a4, .ref 20, .int (M 20 j6), .int a3]) (S' := [.int a3, .int ((a2 * (nI 6)) + a1), .ref 20]) (M' := (vm_u2 M 20 j7 a3)) rfl ?_
              obtain ⟨j8, hj1, hj2, h⟩ := h
              refine vm_WM.ast (n := 36) (jj := j8) 47 rfl rfl hj1 hj2 ?_
              refine vm_WM.seq 48 6 (pc' := 94) (L' := [.ref 14, .int a1, .int a2, .int a3, .int a4, .ref 20, .int (M 20 j6), .int a3]) (S' := []) (M' := (vm_u2 (vm_u2 (vm_u2 M 20 j7 a3) 20 j8 a3) 14 1 (((vm_u2 (vm_u2 M 20 j7 a3) 20 j8 a3) 14 1) + (nI 1)))) rfl ?_
              exact vm_WM.ret (r := none) 54 rfl rfl rfl ⟨rfl, h⟩
            · replace h := h.2 hc
              refine vm_WM.seq 28 2 (pc' := 57) (L' := [.ref 14, .int a1, .int a2, .int a3, .int a4, .ref 20, .int (M 20 j6), .null]) (S' := [.int a3, .int (M 20 j6)]) (M' := M) rfl ?_
              refine vm_WM.mm (w := (if a3 < (M 20 j6) then a3 else (M 20 j6))) 30 rfl rfl (Or.inr rfl) rfl (Nat.le_of_ble_eq_true rfl) ?_
              refine vm_WM.seq 31 8 (pc' := 72) (L' := [.ref 14, .int a1, .int a2, .int a3, .int a4, .ref 20, .int (M 20 j6), .int (if a3 < (M 20 j6) then a3 else (M 20 j6))]) (S' := [.int (if a3 < (M 20 j6) then a3 else (M 20 j6)), .int ((a1 * (nI 6)) + a2), .ref 20]) (M' := M) rfl ?_
              obtain ⟨j9, hj1, hj2, h⟩ := h
              refine vm_WM.ast (n := 36) (jj := j9) 39 rfl rfl hj1 hj2 ?_
              refine vm_WM.seq 40 7 (pc' := 83) (L' := [.ref 14, .int a1, .int a2, .int a3, .int a4, .ref 20, .int (M 20 j6), .int (if a3 < (M 20 j6) then a3 else (M 20 j6))]) (S' := [.int (if a3 < (M 20 j6) then a3 else (M 20 j6)), .int ((a2 * (nI 6)) + a1), .ref 20]) (M' := (vm_u2 M 20 j9 (if a3 < (M 20 j6) then a3 else (M 20 j6)))) rfl ?_
              obtain ⟨j10, hj1, hj2, h⟩ := h
              refine vm_WM.ast (n := 36) (jj := j10) 47 rfl rfl hj1 hj2 ?_
              refine vm_WM.seq 48 6 (pc' := 94) (L' := [.ref 14, .int a1, .int a2, .int a3, .int a4, .ref 20, .int (M 20 j6), .int (if a3 < (M 20 j6) then a3 else (M 20 j6))]) (S' := []) (M' := (vm_u2 (vm_u2 (vm_u2 M 20 j9 (if a3 < (M 20 j6) then a3 else (M 20 j6))) 20 j10 (if a3 < (M 20 j6) then a3 else (M 20 j6))) 14 1 (((vm_u2 (vm_u2 M 20 j9 (if a3 < (M 20 j6) then a3 else (M 20 j6))) 20 j10 (if a3 < (M 20 j6) then a3 else (M 20 j6))) 14 1) + (nI 1)))) rfl ?_
              exact vm_WM.ret (r := none) 54 rfl rfl rfl ⟨rfl, h⟩
        · replace h := h.2 hc
          refine vm_WM.seq 8 1 (pc' := 17) (L' := [.ref 14, .int a2]) (S' := [.int (nI 0)]) (M' := M) rfl ?_
          refine vm_WM.ret (r := some (.int (nI 0))) 9 rfl rfl rfl ?_
          show vm_WM X 41 13 [.ref 14, .int a1, .int a2, .int a3, .int a4, .null, .null, .null] [.int (nI 0)] M _
          refine vm_WM.seq 7 1 (pc' := 94) (L' := [.ref 14, .int a1, .int a2, .int a3, .int a4, .null, .null, .null]) (S' := []) (M' := M) rfl ?_
          exact vm_WM.ret (r := none) 54 rfl rfl rfl ⟨rfl, h⟩
    · replace h := h.2 hc
      refine vm_WM.seq 8 1 (pc' := 17) (L' := [.ref 14, .int a1]) (S' := [.int (nI 0)]) (M' := M) rfl ?_
      refine vm_WM.ret (r := some (.int (nI 0))) 9 rfl rfl rfl ?_
      show vm_WM X 41 5 [.ref 14, .int a1, .int a2, .int a3, .int a4, .null, .null, .null] [.int (nI 0)] M _
      refine vm_WM.seq 3 1 (pc' := 94) (L' := [.ref 14, .int a1, .int a2, .int a3, .int a4, .null, .null, .null]) (S' := []) (M' := M) rfl ?_
      exact vm_WM.ret (r := none) 54 rfl rfl rfl ⟨rfl, h⟩
theorem v_Tape_readSort {X : Nat × (Nat → Int32)}  {M : vm_M} {P : Int32 → vm_M → Prop} (h : E_Tape_next X  M (fun M1 => E_Tape_isWord_1004 X  M1 (fun v2 M3 => (v2 = 0 → (E_Tape_isWord_1006 X  M3 (fun v4 M5 => (v4 = 0 → (E_Tape_isWord_1008 X  M5 (fun v6 M7 => (v6 = 0 → (E_Tape_isWord_1010 X  M7 (fun v8 M9 => (v8 = 0 → (E_Tape_isWord_1012 X  M9 (fun v10 M11 => (v10 = 0 → (E_Tape_fail X (nI 1) M11 (fun M12 => P (nI 0) M12))) ∧ (¬ (v10 = 0) → (P (nI 5) M11))))) ∧ (¬ (v8 = 0) → (P (nI 4) M9))))) ∧ (¬ (v6 = 0) → (P (nI 3) M7))))) ∧ (¬ (v4 = 0) → (P (nI 2) M5))))) ∧ (¬ (v2 = 0) → (P (nI 1) M3))))) : E_Tape_readSort X  M P := by
  unfold E_Tape_readSort
  refine vm_WM.seq 0 1 (pc' := 1) (L' := [.ref 5, .null]) (S' := [.ref 5]) (M' := M) rfl ?_
  refine vm_WM.call (a := 70) (as := [.ref 5]) (rest := []) (L0 := [.ref 5]) 1 rfl rfl (by decide) rfl rfl ⟨rfl, Or.inr rfl, Nat.le_of_ble_eq_true rfl, Nat.le_of_ble_eq_true rfl⟩ rfl rfl rfl ?_
  refine vm_WM.thenv h (fun M1 h => ?_)
  show vm_WM X 65 4 [.ref 5, .null] [] M1 _
  refine vm_WM.seq 2 2 (pc' := 7) (L' := [.ref 5, .null]) (S' := [.ref 1004, .ref 5]) (M' := M1) rfl ?_
  refine vm_WM.call (a := 69) (as := [.ref 5, .ref 1004]) (rest := []) (L0 := [.ref 5, .ref 1004, .null]) 4 rfl rfl (by decide) rfl rfl ⟨rfl, Or.inr rfl, Nat.le_of_ble_eq_true rfl, Nat.le_of_ble_eq_true rfl⟩ rfl rfl rfl ?_
  refine vm_WM.theni h (fun v2 M3 h => ?_)
  show vm_WM X 65 10 [.ref 5, .null] [.int v2] M3 _
  refine vm_WM.if (c := v2 = 0) (t1 := 17) (t2 := 13) (S' := []) 5 rfl rfl rfl (fun hc => ?_) (fun hc => ?_)
  · replace h := h.1 hc
    refine vm_WM.seq 8 2 (pc' := 20) (L' := [.ref 5, .null]) (S' := [.ref 1006, .ref 5]) (M' := M3) rfl ?_
    refine vm_WM.call (a := 69) (as := [.ref 5, .ref 1006]) (rest := []) (L0 := [.ref 5, .ref 1006, .null]) 10 rfl rfl (by decide) rfl rfl ⟨rfl, Or.inr rfl, Nat.le_of_ble_eq_true rfl, Nat.le_of_ble_eq_true rfl⟩ rfl rfl rfl ?_
    refine vm_WM.theni h (fun v4 M5 h => ?_)
    show vm_WM X 65 23 [.ref 5, .null] [.int v4] M5 _
    refine vm_WM.if (c := v4 = 0) (t1 := 30) (t2 := 26) (S' := []) 11 rfl rfl rfl (fun hc => ?_) (fun hc => ?_)
    · replace h := h.1 hc
      refine vm_WM.seq 14 2 (pc' := 33) (L' := [.ref 5, .null]) (S' := [.ref 1008, .ref 5]) (M' := M5) rfl ?_
      refine vm_WM.call (a := 69) (as := [.ref 5, .ref 1008]) (rest := []) (L0 := [.ref 5, .ref 1008, .null]) 16 rfl rfl (by decide) rfl rfl ⟨rfl, Or.inr rfl, Nat.le_of_ble_eq_true rfl, Nat.le_of_ble_eq_true rfl⟩ rfl rfl rfl ?_
      refine vm_WM.theni h (fun v6 M7 h => ?_)
      show vm_WM X 65 36 [.ref 5, .null] [.int v6] M7 _
      refine vm_WM.if (c := v6 = 0) (t1 := 43) (t2 := 39) (S' := []) 17 rfl rfl rfl (fun hc => ?_) (fun hc => ?_)
      · replace h := h.1 hc
        refine vm_WM.seq 20 2 (pc' := 46) (L' := [.ref 5, .null]) (S' := [.ref 1010, .ref 5]) (M' := M7) rfl ?_
        refine vm_WM.call (a := 69) (as := [.ref 5, .ref 1010]) (rest := []) (L0 := [.ref 5, .ref 1010, .null]) 22 rfl rfl (by decide) rfl rfl ⟨rfl, Or.inr rfl, Nat.le_of_ble_eq_true rfl, Nat.le_of_ble_eq_true rfl⟩ rfl rfl rfl ?_
        refine vm_WM.theni h (fun v8 M9 h => ?_)
        show vm_WM X 65 49 [.ref 5, .null] [.int v8] M9 _
        refine vm_WM.if (c := v8 = 0) (t1 := 56) (t2 := 52) (S' := []) 23 rfl rfl rfl (fun hc => ?_) (fun hc => ?_)
        · replace h := h.1 hc
          refine vm_WM.seq 26 2 (pc' := 59) (L' := [.ref 5, .null]) (S' := [.ref 1012, .ref 5]) (M' := M9) rfl ?_
          refine vm_WM.call (a := 69) (as := [.ref 5, .ref 1012]) (rest := []) (L0 := [.ref 5, .ref 1012, .null]) 28 rfl rfl (by decide) rfl rfl ⟨rfl, Or.inr rfl, Nat.le_of_ble_eq_true rfl, Nat.le_of_ble_eq_true rfl⟩ rfl rfl rfl ?_
          refine vm_WM.theni h (fun v10 M11 h => ?_)
          show vm_WM X 65 62 [.ref 5, .null] [.int v10] M11 _
          refine vm_WM.if (c := v10 = 0) (t1 := 69) (t2 := 65) (S' := []) 29 rfl rfl rfl (fun hc => ?_) (fun hc => ?_)
          · replace h := h.1 hc
            refine vm_WM.seq 32 6 (pc' := 77) (L' := [.ref 5, .int (nI 0)]) (S' := [.int (nI 1), .ref 5]) (M' := M11) rfl ?_
            refine vm_WM.call (a := 68) (as := [.ref 5, .int (nI 1)]) (rest := []) (L0 := [.ref 5, .int (nI 1)]) 38 rfl rfl (by decide) rfl rfl ⟨rfl, Or.inr rfl, Nat.le_of_ble_eq_true rfl, Nat.le_of_ble_eq_true rfl⟩ rfl rfl rfl ?_
            refine vm_WM.thenv h (fun M12 h => ?_)
            show vm_WM X 65 80 [.ref 5, .int (nI 0)] [] M12 _
            refine vm_WM.seq 39 1 (pc' := 81) (L' := [.ref 5, .int (nI 0)]) (S' := [.int (nI 0)]) (M' := M12) rfl ?_
            exact vm_WM.ret (r := some (.int (nI 0))) 40 rfl rfl rfl ⟨_, rfl, h⟩
          · replace h := h.2 hc
            refine vm_WM.seq 30 2 (pc' := 70) (L' := [.ref 5, .null]) (S' := [.int (nI 5)]) (M' := M11) rfl ?_
            refine vm_WM.seq 33 3 (pc' := 80) (L' := [.ref 5, .int (nI 5)]) (S' := []) (M' := M11) rfl ?_
            refine vm_WM.seq 39 1 (pc' := 81) (L' := [.ref 5, .int (nI 5)]) (S' := [.int (nI 5)]) (M' := M11) rfl ?_
            exact vm_WM.ret (r := some (.int (nI 5))) 40 rfl rfl rfl ⟨_, rfl, h⟩
        · replace h := h.2 hc
          refine vm_WM.seq 24 2 (pc' := 70) (L' := [.ref 5, .null]) (S' := [.int (nI 4)]) (M' := M9) rfl ?_
          refine vm_WM.seq 33 3 (pc' := 80) (L' := [.ref 5, .int (nI 4)]) (S' := []) (M' := M9) rfl ?_
          refine vm_WM.seq 39 1 (pc' := 81) (L' := [.ref 5, .int (nI 4)]) (S' := [.int (nI 4)]) (M' := M9) rfl ?_
          exact vm_WM.ret (r := some (.int (nI 4))) 40 rfl rfl rfl ⟨_, rfl, h⟩
      · replace h := h.2 hc
        refine vm_WM.seq 18 2 (pc' := 70) (L' := [.ref 5, .null]) (S' := [.int (nI 3)]) (M' := M7) rfl ?_
        refine vm_WM.seq 33 3 (pc' := 80) (L' := [.ref 5, .int (nI 3)]) (S' := []) (M' := M7) rfl ?_
        refine vm_WM.seq 39 1 (pc' := 81) (L' := [.ref 5, .int (nI 3)]) (S' := [.int (nI 3)]) (M' := M7) rfl ?_
        exact vm_WM.ret (r := some (.int (nI 3))) 40 rfl rfl rfl ⟨_, rfl, h⟩
    · replace h := h.2 hc
      refine vm_WM.seq 12 2 (pc' := 70) (L' := [.ref 5, .null]) (S' := [.int (nI 2)]) (M' := M5) rfl ?_
      refine vm_WM.seq 33 3 (pc' := 80) (L' := [.ref 5, .int (nI 2)]) (S' := []) (M' := M5) rfl ?_
      refine vm_WM.seq 39 1 (pc' := 81) (L' := [.ref 5, .int (nI 2)]) (S' := [.int (nI 2)]) (M' := M5) rfl ?_
      exact vm_WM.ret (r := some (.int (nI 2))) 40 rfl rfl rfl ⟨_, rfl, h⟩
  · replace h := h.2 hc
    refine vm_WM.seq 6 2 (pc' := 70) (L' := [.ref 5, .null]) (S' := [.int (nI 1)]) (M' := M3) rfl ?_
    refine vm_WM.seq 33 3 (pc' := 80) (L' := [.ref 5, .int (nI 1)]) (S' := []) (M' := M3) rfl ?_
    refine vm_WM.seq 39 1 (pc' := 81) (L' := [.ref 5, .int (nI 1)]) (S' := [.int (nI 1)]) (M' := M3) rfl ?_
    exact vm_WM.ret (r := some (.int (nI 1))) 40 rfl rfl rfl ⟨_, rfl, h⟩
theorem v_Hill_addTrader_14 {X : Nat × (Nat → Int32)} {a1 : Int32} {a2 : Int32} {a3 : Int32} {M : vm_M} {P : vm_M → Prop} (h : ((M 14 0) < (nI 6) → (∃ j1 : Nat, (M 14 0) = nI j1 ∧ j1 < 6 ∧ (∃ j2 : Nat, ((vm_u2 M 15 j1 a1) 14 0) = nI j2 ∧ j2 < 6 ∧ (∃ j3 : Nat, ((vm_u2 (vm_u2 M 15 j1 a1) 16 j2 a2) 14 0) = nI j3 ∧ j3 < 6 ∧ (∃ j4 : Nat, ((vm_u2 (vm_u2 (vm_u2 M 15 j1 a1) 16 j2 a2) 17 j3 a3) 14 0) = nI j4 ∧ j4 < 6 ∧ (P  (vm_u2 (vm_u2 (vm_u2 (vm_u2 (vm_u2 M 15 j1 a1) 16 j2 a2) 17 j3 a3) 18 j4 (nI 0)) 14 0 (((vm_u2 (vm_u2 (vm_u2 (vm_u2 M 15 j1 a1) 16 j2 a2) 17 j3 a3) 18 j4 (nI 0)) 14 0) + (nI 1))))))))) ∧ (¬ ((M 14 0) < (nI 6)) → (P  M))) : E_Hill_addTrader_14 X a1 a2 a3 M P := by
  unfold E_Hill_addTrader_14
  refine vm_WM.seq 0 3 (pc' := 6) (L' := [.ref 14, .int a1, .int a2, .int a3]) (S' := [.int (nI 6), .int (M 14 0)]) (M' := M) rfl ?_
  refine vm_WM.if (c := (M 14 0) < (nI 6)) (t1 := 9) (t2 := 59) (S' := []) 3 rfl rfl rfl (fun hc => ?_) (fun hc => ?_)
  · replace h := h.1 hc
    refine vm_WM.seq 4 5 (pc' := 18) (L' := [.ref 14, .int a1, .int a2, .int a3]) (S' := [.int a1, .int (M 14 0), .ref 15]) (M' := M) rfl ?_
    obtain ⟨j1, hj1, hj2, h⟩ := h
    refine vm_WM.ast (n := 6) (jj := j1) 9 rfl rfl hj1 hj2 ?_
    refine vm_WM.seq 10 5 (pc' := 28) (L' := [.ref 14, .int a1, .int a2, .int a3]) (S' := [.int a2, .int ((vm_u2 M 15 j1 a1) 14 0), .ref 16]) (M' := (vm_u2 M 15 j1 a1)) rfl ?_
    obtain ⟨j2, hj1, hj2, h⟩ := h
    refine vm_WM.ast (n := 6) (jj := j2) 15 rfl rfl hj1 hj2 ?_
    refine vm_WM.seq 16 5 (pc' := 38) (L' := [.ref 14, .int a1, .int a2, .int a3]) (S' := [.int a3, .int ((vm_u2 (vm_u2 M 15 j1 a1) 16 j2 a2) 14 0), .ref 17]) (M' := (vm_u2 (vm_u2 M 15 j1 a1) 16 j2 a2)) rfl ?_
    obtain ⟨j3, hj1, hj2, h⟩ := h
    refine vm_WM.ast (n := 6) (jj := j3) 21 rfl rfl hj1 hj2 ?_
    refine vm_WM.seq 22 5 (pc' := 48) (L' := [.ref 14, .int a1, .int a2, .int a3]) (S' := [.int (nI 0), .int ((vm_u2 (vm_u2 (vm_u2 M 15 j1 a1) 16 j2 a2) 17 j3 a3) 14 0), .ref 18]) (M' := (vm_u2 (vm_u2 (vm_u2 M 15 j1 a1) 16 j2 a2) 17 j3 a3)) rfl ?_
    obtain ⟨j4, hj1, hj2, h⟩ := h
    refine vm_WM.ast (n := 6) (jj := j4) 27 rfl rfl hj1 hj2 ?_
    refine vm_WM.seq 28 6 (pc' := 59) (L' := [.ref 14, .int a1, .int a2, .int a3]) (S' := []) (M' := (vm_u2 (vm_u2 (vm_u2 (vm_u2 (vm_u2 M 15 j1 a1) 16 j2 a2) 17 j3 a3) 18 j4 (nI 0)) 14 0 (((vm_u2 (vm_u2 (vm_u2 (vm_u2 M 15 j1 a1) 16 j2 a2) 17 j3 a3) 18 j4 (nI 0)) 14 0) + (nI 1)))) rfl ?_
    exact vm_WM.ret (r := none) 34 rfl rfl rfl ⟨rfl, h⟩
  · replace h := h.2 hc
    exact vm_WM.ret (r := none) 34 rfl rfl rfl ⟨rfl, h⟩
theorem v_Tape_isWord_1004 {X : Nat × (Nat → Int32)}  {M : vm_M} {P : Int32 → vm_M → Prop} (h : ((M 5 4) = (nI 1) → ((((M 5 3) - (M 5 2)) = ((nI 5) >>> (0 &&& 31)) → (C_Tape_isWord_1004_28 X (nI 0) M P)) ∧ (¬ (((M 5 3) - (M 5 2)) = ((nI 5) >>> (0 &&& 31))) → (P (nI 0) M)))) ∧ (¬ ((M 5 4) = (nI 1)) → (P (nI 0) M))) : E_Tape_isWord_1004 X  M P := by
  unfold E_Tape_isWord_1004
  refine vm_WM.seq 0 3 (pc' := 5) (L' := [.ref 5, .ref 1004, .null]) (S' := [.int (nI 1), .int (M 5 4)]) (M' := M) rfl ?_
  refine vm_WM.if (c := (M 5 4) = (nI 1)) (t1 := 8) (t2 := 24) (S' := []) 3 rfl rfl rfl (fun hc => ?_) (fun hc => ?_)
  · replace h := h.1 hc
    refine vm_WM.seq 4 6 (pc' := 18) (L' := [.ref 5, .ref 1004, .null]) (S' := [.ref 1004, .int ((M 5 3) - (M 5 2))]) (M' := M) rfl ?_
    refine vm_WM.call (a := 173) (as := [.ref 1004]) (rest := [.int ((M 5 3) - (M 5 2))]) (L0 := [.ref 1004]) 10 rfl rfl (by decide) rfl rfl ⟨rfl, Or.inr rfl, Nat.le_of_ble_eq_true rfl, Nat.le_of_ble_eq_true rfl⟩ rfl rfl rfl ?_
    refine vm_WM.seq 0 4 (pc' := 6) (L' := [.ref 1004]) (S' := [.ref 1004, .int (nI 5)]) (M' := M) rfl ?_
    refine vm_WM.call (a := 175) (as := [.ref 1004]) (rest := [.int (nI 5)]) (L0 := [.ref 1004]) 4 rfl rfl (by decide) rfl rfl ⟨rfl, Or.inr rfl, Nat.le_of_ble_eq_true rfl, Nat.le_of_ble_eq_true rfl⟩ rfl rfl rfl ?_
    refine vm_WM.seq 0 5 (pc' := 14) (L' := [.ref 1004]) (S' := [.int 0]) (M' := M) rfl ?_
    refine vm_WM.ret (r := some (.int 0)) 6 rfl rfl rfl ?_
    show vm_WM X 173 9 [.ref 1004] [.int 0, .int (nI 5)] M _
    refine vm_WM.seq 5 1 (pc' := 10) (L' := [.ref 1004]) (S' := [.int ((nI 5) >>> (0 &&& 31))]) (M' := M) rfl ?_
    refine vm_WM.ret (r := some (.int ((nI 5) >>> (0 &&& 31)))) 6 rfl rfl rfl ?_
    show vm_WM X 69 21 [.ref 5, .ref 1004, .null] [.int ((nI 5) >>> (0 &&& 31)), .int ((M 5 3) - (M 5 2))] M _
    refine vm_WM.if (c := ((M 5 3) - (M 5 2)) = ((nI 5) >>> (0 &&& 31))) (t1 := 26) (t2 := 24) (S' := []) 11 rfl rfl rfl (fun hc => ?_) (fun hc => ?_)
    · replace h := h.1 hc
      refine vm_WM.seq 14 2 (pc' := 28) (L' := [.ref 5, .ref 1004, .int (nI 0)]) (S' := []) (M' := M) rfl ?_
      exact h
    · replace h := h.2 hc
      refine vm_WM.seq 12 1 (pc' := 25) (L' := [.ref 5, .ref 1004, .null]) (S' := [.int (nI 0)]) (M' := M) rfl ?_
      exact vm_WM.ret (r := some (.int (nI 0))) 13 rfl rfl rfl ⟨_, rfl, h⟩
  · replace h := h.2 hc
    refine vm_WM.seq 12 1 (pc' := 25) (L' := [.ref 5, .ref 1004, .null]) (S' := [.int (nI 0)]) (M' := M) rfl ?_
    exact vm_WM.ret (r := some (.int (nI 0))) 13 rfl rfl rfl ⟨_, rfl, h⟩
theorem v_Tape_isWord_1004_28 {X : Nat × (Nat → Int32)} {x2 : Int32} {M : vm_M} {P : Int32 → vm_M → Prop} (h : (x2 < ((nI 5) >>> (0 &&& 31)) → (∃ j1 : Nat, ((M 5 2) + x2) = nI j1 ∧ j1 < 400 ∧ ((x2 < 0 → (False)) ∧ (¬ (x2 < 0) → ((x2 < (nI 5) → (∃ j2 : Nat, x2 = nI j2 ∧ j2 < vm_strN 2 ∧ (((M 6 j1) = ((((((vm_strB.getD 2 []).getD j2 0) &&& (nI 255))).toUInt32 % 65536).toInt32) → (C_Tape_isWord_1004_28 X (x2 + (nI 1)) M P)) ∧ (¬ ((M 6 j1) = ((((((vm_strB.getD 2 []).getD j2 0) &&& (nI 255))).toUInt32 % 65536).toInt32)) → (P (nI 0) M))))) ∧ (¬ (x2 < (nI 5)) → (False))))))) ∧ (¬ (x2 < ((nI 5) >>> (0 &&& 31))) → (P (nI 1) M))) : C_Tape_isWord_1004_28 X x2 M P := by
  unfold C_Tape_isWord_1004_28
  refine vm_WM.seq 16 2 (pc' := 30) (L' := [.ref 5, .ref 1004, .int x2]) (S' := [.ref 1004, .int x2]) (M' := M) rfl ?_
  refine vm_WM.call (a := 173) (as := [.ref 1004]) (rest := [.int x2]) (L0 := [.ref 1004]) 18 rfl rfl (by decide) rfl rfl ⟨rfl, Or.inr rfl, Nat.le_of_ble_eq_true rfl, Nat.le_of_ble_eq_true rfl⟩ rfl rfl rfl ?_
  refine vm_WM.seq 0 4 (pc' := 6) (L' := [.ref 1004]) (S' := [.ref 1004, .int (nI 5)]) (M' := M) rfl ?_
  refine vm_WM.call (a := 175) (as := [.ref 1004]) (rest := [.int (nI 5)]) (L0 := [.ref 1004]) 4 rfl rfl (by decide) rfl rfl ⟨rfl, Or.inr rfl, Nat.le_of_ble_eq_true rfl, Nat.le_of_ble_eq_true rfl⟩ rfl rfl rfl ?_
  refine vm_WM.seq 0 5 (pc' := 14) (L' := [.ref 1004]) (S' := [.int 0]) (M' := M) rfl ?_
  refine vm_WM.ret (r := some (.int 0)) 6 rfl rfl rfl ?_
  show vm_WM X 173 9 [.ref 1004] [.int 0, .int (nI 5)] M _
  refine vm_WM.seq 5 1 (pc' := 10) (L' := [.ref 1004]) (S' := [.int ((nI 5) >>> (0 &&& 31))]) (M' := M) rfl ?_
  refine vm_WM.ret (r := some (.int ((nI 5) >>> (0 &&& 31)))) 6 rfl rfl rfl ?_
  show vm_WM X 69 33 [.ref 5, .ref 1004, .int x2] [.int ((nI 5) >>> (0 &&& 31)), .int x2] M _
  refine vm_WM.if (c := x2 < ((nI 5) >>> (0 &&& 31))) (t1 := 36) (t2 := 63) (S' := []) 19 rfl rfl rfl (fun hc => ?_) (fun hc => ?_)
  · replace h := h.1 hc
    refine vm_WM.seq 20 6 (pc' := 46) (L' := [.ref 5, .ref 1004, .int x2]) (S' := [.int ((M 5 2) + x2), .ref 6]) (M' := M) rfl ?_
    obtain ⟨j1, hj1, hj2, h⟩ := h
    refine vm_WM.ald (n := 400) (jj := j1) 26 rfl (Or.inr ⟨rfl, Or.inl rfl⟩) (by decide) rfl hj1 hj2 ?_
    refine vm_WM.seq 27 2 (pc' := 49) (L' := [.ref 5, .ref 1004, .int x2]) (S' := [.int x2, .ref 1004, .int (M 6 j1)]) (M' := M) rfl ?_
    refine vm_WM.call (a := 174) (as := [.ref 1004, .int x2]) (rest := [.int (M 6 j1)]) (L0 := [.ref 1004, .int x2]) 29 rfl rfl (by decide) rfl rfl ⟨rfl, Or.inr rfl, Nat.le_of_ble_eq_true rfl, Nat.le_of_ble_eq_true rfl⟩ rfl rfl rfl ?_
    refine vm_WM.seq 0 1 (pc' := 1) (L' := [.ref 1004, .int x2]) (S' := [.ref 1004]) (M' := M) rfl ?_
    refine vm_WM.call (a := 176) (as := [.ref 1004]) (rest := []) (L0 := [.ref 1004]) 1 rfl rfl (by decide) rfl rfl ⟨rfl, Or.inr rfl, Nat.le_of_ble_eq_true rfl, Nat.le_of_ble_eq_true rfl⟩ rfl rfl rfl ?_
    refine vm_WM.seq 0 7 (pc' := 18) (L' := [.ref 1004]) (S' := [.int (nI 1)]) (M' := M) rfl ?_
    refine vm_WM.ret (r := some (.int (nI 1))) 8 rfl rfl rfl ?_
    show vm_WM X 174 4 [.ref 1004, .int x2] [.int (nI 1)] M _
    refine vm_WM.seq 2 4 (pc' := 12) (L' := [.ref 1004, .int x2]) (S' := [.int x2, .ref 1005]) (M' := M) rfl ?_
    refine vm_WM.call (a := 178) (as := [.ref 1005, .int x2]) (rest := []) (L0 := [.ref 1005, .int x2]) 6 rfl rfl (by decide) rfl rfl ⟨rfl, Or.inl rfl, Nat.le_of_ble_eq_true rfl, Nat.le_of_ble_eq_true rfl⟩ rfl rfl rfl ?_
    refine vm_WM.seq 0 3 (pc' := 3) (L' := [.ref 1005, .int x2]) (S' := [.int (nI 5), .int x2]) (M' := M) rfl ?_
    refine vm_WM.call (a := 177) (as := [.int x2, .int (nI 5)]) (rest := []) (L0 := [.int x2, .int (nI 5)]) 3 rfl rfl (by decide) rfl rfl ⟨rfl, Or.inl rfl, Nat.le_of_ble_eq_true rfl, Nat.le_of_ble_eq_true rfl⟩ rfl rfl rfl ?_
    refine vm_WM.seq 0 3 (pc' := 5) (L' := [.int x2, .int (nI 5)]) (S' := [.ref 3000, .int (nI 5), .int x2]) (M' := M) rfl ?_
    refine vm_WM.call (a := 179) (as := [.int x2, .int (nI 5), .ref 3000]) (rest := []) (L0 := [.int x2, .int (nI 5), .ref 3000]) 3 rfl rfl (by decide) rfl rfl ⟨rfl, Or.inl rfl, Nat.le_of_ble_eq_true rfl, Nat.le_of_ble_eq_true rfl⟩ rfl rfl rfl ?_
    refine vm_WM.seq 0 1 (pc' := 1) (L' := [.int x2, .int (nI 5), .ref 3000]) (S' := [.int x2]) (M' := M) rfl ?_
    refine vm_WM.if (c := x2 < 0) (t1 := 9) (t2 := 4) (S' := []) 1 rfl rfl rfl (fun hc => ?_) (fun hc => ?_)
    · replace h := h.1 hc
      exact h.elim
    · replace h := h.2 hc
      refine vm_WM.seq 2 2 (pc' := 6) (L' := [.int x2, .int (nI 5), .ref 3000]) (S' := [.int (nI 5), .int x2]) (M' := M) rfl ?_
      refine vm_WM.if (c := x2 < (nI 5)) (t1 := 16) (t2 := 9) (S' := []) 4 rfl rfl rfl (fun hc => ?_) (fun hc => ?_)
      · replace h := h.1 hc
        refine vm_WM.seq 9 1 (pc' := 17) (L' := [.int x2, .int (nI 5), .ref 3000]) (S' := [.int x2]) (M' := M) rfl ?_
        refine vm_WM.ret (r := some (.int x2)) 10 rfl rfl rfl ?_
        show vm_WM X 177 8 [.int x2, .int (nI 5)] [.int x2] M _
        refine vm_WM.seq 4 1 (pc' := 9) (L' := [.int x2, .int (nI 5)]) (S' := []) (M' := M) rfl ?_
        refine vm_WM.ret (r := none) 5 rfl rfl rfl ?_
        show vm_WM X 178 6 [.ref 1005, .int x2] [] M _
        refine vm_WM.seq 4 2 (pc' := 8) (L' := [.ref 1005, .int x2]) (S' := [.int x2, .ref 1005]) (M' := M) rfl ?_
        obtain ⟨j2, hj1, hj2, h⟩ := h
        refine vm_WM.sbl (si := 2) (jj := j2) 6 rfl (by decide) hj1 hj2 ?_
        refine vm_WM.seq 7 3 (pc' := 14) (L' := [.ref 1005, .int x2]) (S' := [.int ((((((vm_strB.getD 2 []).getD j2 0) &&& (nI 255))).toUInt32 % 65536).toInt32)]) (M' := M) rfl ?_
        refine vm_WM.ret (r := some (.int ((((((vm_strB.getD 2 []).getD j2 0) &&& (nI 255))).toUInt32 % 65536).toInt32))) 10 rfl rfl (vm_rtC rfl) ?_
        show vm_WM X 174 15 [.ref 1004, .int x2] [.int ((((((vm_strB.getD 2 []).getD j2 0) &&& (nI 255))).toUInt32 % 65536).toInt32)] M _
        refine vm_WM.ret (r := some (.int ((((((vm_strB.getD 2 []).getD j2 0) &&& (nI 255))).toUInt32 % 65536).toInt32))) 7 rfl rfl (vm_rtC rfl) ?_
        show vm_WM X 69 52 [.ref 5, .ref 1004, .int x2] [.int ((((((vm_strB.getD 2 []).getD j2 0) &&& (nI 255))).toUInt32 % 65536).toInt32), .int (M 6 j1)] M _
        refine vm_WM.if (c := (M 6 j1) = ((((((vm_strB.getD 2 []).getD j2 0) &&& (nI 255))).toUInt32 % 65536).toInt32)) (t1 := 57) (t2 := 55) (S' := []) 30 rfl rfl rfl (fun hc => ?_) (fun hc => ?_)
        · replace h := h.1 hc
          refine vm_WM.seq 33 2 (pc' := 28) (L' := [.ref 5, .ref 1004, .int (x2 + (nI 1))]) (S' := []) (M' := M) rfl ?_
          exact h
        · replace h := h.2 hc
          refine vm_WM.seq 31 1 (pc' := 56) (L' := [.ref 5, .ref 1004, .int x2]) (S' := [.int (nI 0)]) (M' := M) rfl ?_
          exact vm_WM.ret (r := some (.int (nI 0))) 32 rfl rfl rfl ⟨_, rfl, h⟩
      · replace h := h.2 hc
        exact h.elim
  · replace h := h.2 hc
    refine vm_WM.seq 35 1 (pc' := 64) (L' := [.ref 5, .ref 1004, .int x2]) (S' := [.int (nI 1)]) (M' := M) rfl ?_
    exact vm_WM.ret (r := some (.int (nI 1))) 36 rfl rfl rfl ⟨_, rfl, h⟩
theorem v_Tape_isWord_1006 {X : Nat × (Nat → Int32)}  {M : vm_M} {P : Int32 → vm_M → Prop} (h : ((M 5 4) = (nI 1) → ((((M 5 3) - (M 5 2)) = ((nI 6) >>> (0 &&& 31)) → (C_Tape_isWord_1006_28 X (nI 0) M P)) ∧ (¬ (((M 5 3) - (M 5 2)) = ((nI 6) >>> (0 &&& 31))) → (P (nI 0) M)))) ∧ (¬ ((M 5 4) = (nI 1)) → (P (nI 0) M))) : E_Tape_isWord_1006 X  M P := by
  unfold E_Tape_isWord_1006
  refine vm_WM.seq 0 3 (pc' := 5) (L' := [.ref 5, .ref 1006, .null]) (S' := [.int (nI 1), .int (M 5 4)]) (M' := M) rfl ?_
  refine vm_WM.if (c := (M 5 4) = (nI 1)) (t1 := 8) (t2 := 24) (S' := []) 3 rfl rfl rfl (fun hc => ?_) (fun hc => ?_)
  · replace h := h.1 hc
    refine vm_WM.seq 4 6 (pc' := 18) (L' := [.ref 5, .ref 1006, .null]) (S' := [.ref 1006, .int ((M 5 3) - (M 5 2))]) (M' := M) rfl ?_
    refine vm_WM.call (a := 173) (as := [.ref 1006]) (rest := [.int ((M 5 3) - (M 5 2))]) (L0 := [.ref 1006]) 10 rfl rfl (by decide) rfl rfl ⟨rfl, Or.inr rfl, Nat.le_of_ble_eq_true rfl, Nat.le_of_ble_eq_true rfl⟩ rfl rfl rfl ?_
    refine vm_WM.seq 0 4 (pc' := 6) (L' := [.ref 1006]) (S' := [.ref 1006, .int (nI 6)]) (M' := M) rfl ?_
    refine vm_WM.call (a := 175) (as := [.ref 1006]) (rest := [.int (nI 6)]) (L0 := [.ref 1006]) 4 rfl rfl (by decide) rfl rfl ⟨rfl, Or.inr rfl, Nat.le_of_ble_eq_true rfl, Nat.le_of_ble_eq_true rfl⟩ rfl rfl rfl ?_
    refine vm_WM.seq 0 5 (pc' := 14) (L' := [.ref 1006]) (S' := [.int 0]) (M' := M) rfl ?_
    refine vm_WM.ret (r := some (.int 0)) 6 rfl rfl rfl ?_
    show vm_WM X 173 9 [.ref 1006] [.int 0, .int (nI 6)] M _
    refine vm_WM.seq 5 1 (pc' := 10) (L' := [.ref 1006]) (S' := [.int ((nI 6) >>> (0 &&& 31))]) (M' := M) rfl ?_
    refine vm_WM.ret (r := some (.int ((nI 6) >>> (0 &&& 31)))) 6 rfl rfl rfl ?_
    show vm_WM X 69 21 [.ref 5, .ref 1006, .null] [.int ((nI 6) >>> (0 &&& 31)), .int ((M 5 3) - (M 5 2))] M _
    refine vm_WM.if (c := ((M 5 3) - (M 5 2)) = ((nI 6) >>> (0 &&& 31))) (t1 := 26) (t2 := 24) (S' := []) 11 rfl rfl rfl (fun hc => ?_) (fun hc => ?_)
    · replace h := h.1 hc
      refine vm_WM.seq 14 2 (pc' := 28) (L' := [.ref 5, .ref 1006, .int (nI 0)]) (S' := []) (M' := M) rfl ?_
      exact h
    · replace h := h.2 hc
      refine vm_WM.seq 12 1 (pc' := 25) (L' := [.ref 5, .ref 1006, .null]) (S' := [.int (nI 0)]) (M' := M) rfl ?_
      exact vm_WM.ret (r := some (.int (nI 0))) 13 rfl rfl rfl ⟨_, rfl, h⟩
  · replace h := h.2 hc
    refine vm_WM.seq 12 1 (pc' := 25) (L' := [.ref 5, .ref 1006, .null]) (S' := [.int (nI 0)]) (M' := M) rfl ?_
    exact vm_WM.ret (r := some (.int (nI 0))) 13 rfl rfl rfl ⟨_, rfl, h⟩
theorem v_Tape_isWord_1006_28 {X : Nat × (Nat → Int32)} {x2 : Int32} {M : vm_M} {P : Int32 → vm_M → Prop} (h : (x2 < ((nI 6) >>> (0 &&& 31)) → (∃ j1 : Nat, ((M 5 2) + x2) = nI j1 ∧ j1 < 400 ∧ ((x2 < 0 → (False)) ∧ (¬ (x2 < 0) → ((x2 < (nI 6) → (∃ j2 : Nat, x2 = nI j2 ∧ j2 < vm_strN 3 ∧ (((M 6 j1) = ((((((vm_strB.getD 3 []).getD j2 0) &&& (nI 255))).toUInt32 % 65536).toInt32) → (C_Tape_isWord_1006_28 X (x2 + (nI 1)) M P)) ∧ (¬ ((M 6 j1) = ((((((vm_strB.getD 3 []).getD j2 0) &&& (nI 255))).toUInt32 % 65536).toInt32)) → (P (nI 0) M))))) ∧ (¬ (x2 < (nI 6)) → (False))))))) ∧ (¬ (x2 < ((nI 6) >>> (0 &&& 31))) → (P (nI 1) M))) : C_Tape_isWord_1006_28 X x2 M P := by
  unfold C_Tape_isWord_1006_28
  refine vm_WM.seq 16 2 (pc' := 30) (L' := [.ref 5, .ref 1006, .int x2]) (S' := [.ref 1006, .int x2]) (M' := M) rfl ?_
  refine vm_WM.call (a := 173) (as := [.ref 1006]) (rest := [.int x2]) (L0 := [.ref 1006]) 18 rfl rfl (by decide) rfl rfl ⟨rfl, Or.inr rfl, Nat.le_of_ble_eq_true rfl, Nat.le_of_ble_eq_true rfl⟩ rfl rfl rfl ?_
  refine vm_WM.seq 0 4 (pc' := 6) (L' := [.ref 1006]) (S' := [.ref 1006, .int (nI 6)]) (M' := M) rfl ?_
  refine vm_WM.call (a := 175) (as := [.ref 1006]) (rest := [.int (nI 6)]) (L0 := [.ref 1006]) 4 rfl rfl (by decide) rfl rfl ⟨rfl, Or.inr rfl, Nat.le_of_ble_eq_true rfl, Nat.le_of_ble_eq_true rfl⟩ rfl rfl rfl ?_
  refine vm_WM.seq 0 5 (pc' := 14) (L' := [.ref 1006]) (S' := [.int 0]) (M' := M) rfl ?_
  refine vm_WM.ret (r := some (.int 0)) 6 rfl rfl rfl ?_
  show vm_WM X 173 9 [.ref 1006] [.int 0, .int (nI 6)] M _
  refine vm_WM.seq 5 1 (pc' := 10) (L' := [.ref 1006]) (S' := [.int ((nI 6) >>> (0 &&& 31))]) (M' := M) rfl ?_
  refine vm_WM.ret (r := some (.int ((nI 6) >>> (0 &&& 31)))) 6 rfl rfl rfl ?_
  show vm_WM X 69 33 [.ref 5, .ref 1006, .int x2] [.int ((nI 6) >>> (0 &&& 31)), .int x2] M _
  refine vm_WM.if (c := x2 < ((nI 6) >>> (0 &&& 31))) (t1 := 36) (t2 := 63) (S' := []) 19 rfl rfl rfl (fun hc => ?_) (fun hc => ?_)
  · replace h := h.1 hc
    refine vm_WM.seq 20 6 (pc' := 46) (L' := [.ref 5, .ref 1006, .int x2]) (S' := [.int ((M 5 2) + x2), .ref 6]) (M' := M) rfl ?_
    obtain ⟨j1, hj1, hj2, h⟩ := h
    refine vm_WM.ald (n := 400) (jj := j1) 26 rfl (Or.inr ⟨rfl, Or.inl rfl⟩) (by decide) rfl hj1 hj2 ?_
    refine vm_WM.seq 27 2 (pc' := 49) (L' := [.ref 5, .ref 1006, .int x2]) (S' := [.int x2, .ref 1006, .int (M 6 j1)]) (M' := M) rfl ?_
    refine vm_WM.call (a := 174) (as := [.ref 1006, .int x2]) (rest := [.int (M 6 j1)]) (L0 := [.ref 1006, .int x2]) 29 rfl rfl (by decide) rfl rfl ⟨rfl, Or.inr rfl, Nat.le_of_ble_eq_true rfl, Nat.le_of_ble_eq_true rfl⟩ rfl rfl rfl ?_
    refine vm_WM.seq 0 1 (pc' := 1) (L' := [.ref 1006, .int x2]) (S' := [.ref 1006]) (M' := M) rfl ?_
    refine vm_WM.call (a := 176) (as := [.ref 1006]) (rest := []) (L0 := [.ref 1006]) 1 rfl rfl (by decide) rfl rfl ⟨rfl, Or.inr rfl, Nat.le_of_ble_eq_true rfl, Nat.le_of_ble_eq_true rfl⟩ rfl rfl rfl ?_
    refine vm_WM.seq 0 7 (pc' := 18) (L' := [.ref 1006]) (S' := [.int (nI 1)]) (M' := M) rfl ?_
    refine vm_WM.ret (r := some (.int (nI 1))) 8 rfl rfl rfl ?_
    show vm_WM X 174 4 [.ref 1006, .int x2] [.int (nI 1)] M _
    refine vm_WM.seq 2 4 (pc' := 12) (L' := [.ref 1006, .int x2]) (S' := [.int x2, .ref 1007]) (M' := M) rfl ?_
    refine vm_WM.call (a := 178) (as := [.ref 1007, .int x2]) (rest := []) (L0 := [.ref 1007, .int x2]) 6 rfl rfl (by decide) rfl rfl ⟨rfl, Or.inl rfl, Nat.le_of_ble_eq_true rfl, Nat.le_of_ble_eq_true rfl⟩ rfl rfl rfl ?_
    refine vm_WM.seq 0 3 (pc' := 3) (L' := [.ref 1007, .int x2]) (S' := [.int (nI 6), .int x2]) (M' := M) rfl ?_
    refine vm_WM.call (a := 177) (as := [.int x2, .int (nI 6)]) (rest := []) (L0 := [.int x2, .int (nI 6)]) 3 rfl rfl (by decide) rfl rfl ⟨rfl, Or.inl rfl, Nat.le_of_ble_eq_true rfl, Nat.le_of_ble_eq_true rfl⟩ rfl rfl rfl ?_
    refine vm_WM.seq 0 3 (pc' := 5) (L' := [.int x2, .int (nI 6)]) (S' := [.ref 3000, .int (nI 6), .int x2]) (M' := M) rfl ?_
    refine vm_WM.call (a := 179) (as := [.int x2, .int (nI 6), .ref 3000]) (rest := []) (L0 := [.int x2, .int (nI 6), .ref 3000]) 3 rfl rfl (by decide) rfl rfl ⟨rfl, Or.inl rfl, Nat.le_of_ble_eq_true rfl, Nat.le_of_ble_eq_true rfl⟩ rfl rfl rfl ?_
    refine vm_WM.seq 0 1 (pc' := 1) (L' := [.int x2, .int (nI 6), .ref 3000]) (S' := [.int x2]) (M' := M) rfl ?_
    refine vm_WM.if (c := x2 < 0) (t1 := 9) (t2 := 4) (S' := []) 1 rfl rfl rfl (fun hc => ?_) (fun hc => ?_)
    · replace h := h.1 hc
      exact h.elim
    · replace h := h.2 hc
      refine vm_WM.seq 2 2 (pc' := 6) (L' := [.int x2, .int (nI 6), .ref 3000]) (S' := [.int (nI 6), .int x2]) (M' := M) rfl ?_
      refine vm_WM.if (c := x2 < (nI 6)) (t1 := 16) (t2 := 9) (S' := []) 4 rfl rfl rfl (fun hc => ?_) (fun hc => ?_)
      · replace h := h.1 hc
        refine vm_WM.seq 9 1 (pc' := 17) (L' := [.int x2, .int (nI 6), .ref 3000]) (S' := [.int x2]) (M' := M) rfl ?_
        refine vm_WM.ret (r := some (.int x2)) 10 rfl rfl rfl ?_
        show vm_WM X 177 8 [.int x2, .int (nI 6)] [.int x2] M _
        refine vm_WM.seq 4 1 (pc' := 9) (L' := [.int x2, .int (nI 6)]) (S' := []) (M' := M) rfl ?_
        refine vm_WM.ret (r := none) 5 rfl rfl rfl ?_
        show vm_WM X 178 6 [.ref 1007, .int x2] [] M _
        refine vm_WM.seq 4 2 (pc' := 8) (L' := [.ref 1007, .int x2]) (S' := [.int x2, .ref 1007]) (M' := M) rfl ?_
        obtain ⟨j2, hj1, hj2, h⟩ := h
        refine vm_WM.sbl (si := 3) (jj := j2) 6 rfl (by decide) hj1 hj2 ?_
        refine vm_WM.seq 7 3 (pc' := 14) (L' := [.ref 1007, .int x2]) (S' := [.int ((((((vm_strB.getD 3 []).getD j2 0) &&& (nI 255))).toUInt32 % 65536).toInt32)]) (M' := M) rfl ?_
        refine vm_WM.ret (r := some (.int ((((((vm_strB.getD 3 []).getD j2 0) &&& (nI 255))).toUInt32 % 65536).toInt32))) 10 rfl rfl (vm_rtC rfl) ?_
        show vm_WM X 174 15 [.ref 1006, .int x2] [.int ((((((vm_strB.getD 3 []).getD j2 0) &&& (nI 255))).toUInt32 % 65536).toInt32)] M _
        refine vm_WM.ret (r := some (.int ((((((vm_strB.getD 3 []).getD j2 0) &&& (nI 255))).toUInt32 % 65536).toInt32))) 7 rfl rfl (vm_rtC rfl) ?_
        show vm_WM X 69 52 [.ref 5, .ref 1006, .int x2] [.int ((((((vm_strB.getD 3 []).getD j2 0) &&& (nI 255))).toUInt32 % 65536).toInt32), .int (M 6 j1)] M _
        refine vm_WM.if (c := (M 6 j1) = ((((((vm_strB.getD 3 []).getD j2 0) &&& (nI 255))).toUInt32 % 65536).toInt32)) (t1 := 57) (t2 := 55) (S' := []) 30 rfl rfl rfl (fun hc => ?_) (fun hc => ?_)
        · replace h := h.1 hc
          refine vm_WM.seq 33 2 (pc' := 28) (L' := [.ref 5, .ref 1006, .int (x2 + (nI 1))]) (S' := []) (M' := M) rfl ?_
          exact h
        · replace h := h.2 hc
          refine vm_WM.seq 31 1 (pc' := 56) (L' := [.ref 5, .ref 1006, .int x2]) (S' := [.int (nI 0)]) (M' := M) rfl ?_
          exact vm_WM.ret (r := some (.int (nI 0))) 32 rfl rfl rfl ⟨_, rfl, h⟩
      · replace h := h.2 hc
        exact h.elim
  · replace h := h.2 hc
    refine vm_WM.seq 35 1 (pc' := 64) (L' := [.ref 5, .ref 1006, .int x2]) (S' := [.int (nI 1)]) (M' := M) rfl ?_
    exact vm_WM.ret (r := some (.int (nI 1))) 36 rfl rfl rfl ⟨_, rfl, h⟩
theorem v_Tape_isWord_1008 {X : Nat × (Nat → Int32)}  {M : vm_M} {P : Int32 → vm_M → Prop} (h : ((M 5 4) = (nI 1) → ((((M 5 3) - (M 5 2)) = ((nI 6) >>> (0 &&& 31)) → (C_Tape_isWord_1008_28 X (nI 0) M P)) ∧ (¬ (((M 5 3) - (M 5 2)) = ((nI 6) >>> (0 &&& 31))) → (P (nI 0) M)))) ∧ (¬ ((M 5 4) = (nI 1)) → (P (nI 0) M))) : E_Tape_isWord_1008 X  M P := by
  unfold E_Tape_isWord_1008
  refine vm_WM.seq 0 3 (pc' := 5) (L' := [.ref 5, .ref 1008, .null]) (S' := [.int (nI 1), .int (M 5 4)]) (M' := M) rfl ?_
  refine vm_WM.if (c := (M 5 4) = (nI 1)) (t1 := 8) (t2 := 24) (S' := []) 3 rfl rfl rfl (fun hc => ?_) (fun hc => ?_)
  · replace h := h.1 hc
    refine vm_WM.seq 4 6 (pc' := 18) (L' := [.ref 5, .ref 1008, .null]) (S' := [.ref 1008, .int ((M 5 3) - (M 5 2))]) (M' := M) rfl ?_
    refine vm_WM.call (a := 173) (as := [.ref 1008]) (rest := [.int ((M 5 3) - (M 5 2))]) (L0 := [.ref 1008]) 10 rfl rfl (by decide) rfl rfl ⟨rfl, Or.inr rfl, Nat.le_of_ble_eq_true rfl, Nat.le_of_ble_eq_true rfl⟩ rfl rfl rfl ?_
    refine vm_WM.seq 0 4 (pc' := 6) (L' := [.ref 1008]) (S' := [.ref 1008, .int (nI 6)]) (M' := M) rfl ?_
    refine vm_WM.call (a := 175) (as := [.ref 1008]) (rest := [.int (nI 6)]) (L0 := [.ref 1008]) 4 rfl rfl (by decide) rfl rfl ⟨rfl, Or.inr rfl, Nat.le_of_ble_eq_true rfl, Nat.le_of_ble_eq_true rfl⟩ rfl rfl rfl ?_
    refine vm_WM.seq 0 5 (pc' := 14) (L' := [.ref 1008]) (S' := [.int 0]) (M' := M) rfl ?_
    refine vm_WM.ret (r := some (.int 0)) 6 rfl rfl rfl ?_
    show vm_WM X 173 9 [.ref 1008] [.int 0, .int (nI 6)] M _
    refine vm_WM.seq 5 1 (pc' := 10) (L' := [.ref 1008]) (S' := [.int ((nI 6) >>> (0 &&& 31))]) (M' := M) rfl ?_
    refine vm_WM.ret (r := some (.int ((nI 6) >>> (0 &&& 31)))) 6 rfl rfl rfl ?_
    show vm_WM X 69 21 [.ref 5, .ref 1008, .null] [.int ((nI 6) >>> (0 &&& 31)), .int ((M 5 3) - (M 5 2))] M _
    refine vm_WM.if (c := ((M 5 3) - (M 5 2)) = ((nI 6) >>> (0 &&& 31))) (t1 := 26) (t2 := 24) (S' := []) 11 rfl rfl rfl (fun hc => ?_) (fun hc => ?_)
    · replace h := h.1 hc
      refine vm_WM.seq 14 2 (pc' := 28) (L' := [.ref 5, .ref 1008, .int (nI 0)]) (S' := []) (M' := M) rfl ?_
      exact h
    · replace h := h.2 hc
      refine vm_WM.seq 12 1 (pc' := 25) (L' := [.ref 5, .ref 1008, .null]) (S' := [.int (nI 0)]) (M' := M) rfl ?_
      exact vm_WM.ret (r := some (.int (nI 0))) 13 rfl rfl rfl ⟨_, rfl, h⟩
  · replace h := h.2 hc
    refine vm_WM.seq 12 1 (pc' := 25) (L' := [.ref 5, .ref 1008, .null]) (S' := [.int (nI 0)]) (M' := M) rfl ?_
    exact vm_WM.ret (r := some (.int (nI 0))) 13 rfl rfl rfl ⟨_, rfl, h⟩
theorem v_Tape_isWord_1008_28 {X : Nat × (Nat → Int32)} {x2 : Int32} {M : vm_M} {P : Int32 → vm_M → Prop} (h : (x2 < ((nI 6) >>> (0 &&& 31)) → (∃ j1 : Nat, ((M 5 2) + x2) = nI j1 ∧ j1 < 400 ∧ ((x2 < 0 → (False)) ∧ (¬ (x2 < 0) → ((x2 < (nI 6) → (∃ j2 : Nat, x2 = nI j2 ∧ j2 < vm_strN 4 ∧ (((M 6 j1) = ((((((vm_strB.getD 4 []).getD j2 0) &&& (nI 255))).toUInt32 % 65536).toInt32) → (C_Tape_isWord_1008_28 X (x2 + (nI 1)) M P)) ∧ (¬ ((M 6 j1) = ((((((vm_strB.getD 4 []).getD j2 0) &&& (nI 255))).toUInt32 % 65536).toInt32)) → (P (nI 0) M))))) ∧ (¬ (x2 < (nI 6)) → (False))))))) ∧ (¬ (x2 < ((nI 6) >>> (0 &&& 31))) → (P (nI 1) M))) : C_Tape_isWord_1008_28 X x2 M P := by
  unfold C_Tape_isWord_1008_28
  refine vm_WM.seq 16 2 (pc' := 30) (L' := [.ref 5, .ref 1008, .int x2]) (S' := [.ref 1008, .int x2]) (M' := M) rfl ?_
  refine vm_WM.call (a := 173) (as := [.ref 1008]) (rest := [.int x2]) (L0 := [.ref 1008]) 18 rfl rfl (by decide) rfl rfl ⟨rfl, Or.inr rfl, Nat.le_of_ble_eq_true rfl, Nat.le_of_ble_eq_true rfl⟩ rfl rfl rfl ?_
  refine vm_WM.seq 0 4 (pc' := 6) (L' := [.ref 1008]) (S' := [.ref 1008, .int (nI 6)]) (M' := M) rfl ?_
  refine vm_WM.call (a := 175) (as := [.ref 1008]) (rest := [.int (nI 6)]) (L0 := [.ref 1008]) 4 rfl rfl (by decide) rfl rfl ⟨rfl, Or.inr rfl, Nat.le_of_ble_eq_true rfl, Nat.le_of_ble_eq_true rfl⟩ rfl rfl rfl ?_
  refine vm_WM.seq 0 5 (pc' := 14) (L' := [.ref 1008]) (S' := [.int 0]) (M' := M) rfl ?_
  refine vm_WM.ret (r := some (.int 0)) 6 rfl rfl rfl ?_
  show vm_WM X 173 9 [.ref 1008] [.int 0, .int (nI 6)] M _
  refine vm_WM.seq 5 1 (pc' := 10) (L' := [.ref 1008]) (S' := [.int ((nI 6) >>> (0 &&& 31))]) (M' := M) rfl ?_
  refine vm_WM.ret (r := some (.int ((nI 6) >>> (0 &&& 31)))) 6 rfl rfl rfl ?_
  show vm_WM X 69 33 [.ref 5, .ref 1008, .int x2] [.int ((nI 6) >>> (0 &&& 31)), .int x2] M _
  refine vm_WM.if (c := x2 < ((nI 6) >>> (0 &&& 31))) (t1 := 36) (t2 := 63) (S' := []) 19 rfl rfl rfl (fun hc => ?_) (fun hc => ?_)
  · replace h := h.1 hc
    refine vm_WM.seq 20 6 (pc' := 46) (L' := [.ref 5, .ref 1008, .int x2]) (S' := [.int ((M 5 2) + x2), .ref 6]) (M' := M) rfl ?_
    obtain ⟨j1, hj1, hj2, h⟩ := h
    refine vm_WM.ald (n := 400) (jj := j1) 26 rfl (Or.inr ⟨rfl, Or.inl rfl⟩) (by decide) rfl hj1 hj2 ?_
    refine vm_WM.seq 27 2 (pc' := 49) (L' := [.ref 5, .ref 1008, .int x2]) (S' := [.int x2, .ref 1008, .int (M 6 j1)]) (M' := M) rfl ?_
    refine vm_WM.call (a := 174) (as := [.ref 1008, .int x2]) (rest := [.int (M 6 j1)]) (L0 := [.ref 1008, .int x2]) 29 rfl rfl (by decide) rfl rfl ⟨rfl, Or.inr rfl, Nat.le_of_ble_eq_true rfl, Nat.le_of_ble_eq_true rfl⟩ rfl rfl rfl ?_
    refine vm_WM.seq 0 1 (pc' := 1) (L' := [.ref 1008, .int x2]) (S' := [.ref 1008]) (M' := M) rfl ?_
    refine vm_WM.call (a := 176) (as := [.ref 1008]) (rest := []) (L0 := [.ref 1008]) 1 rfl rfl (by decide) rfl rfl ⟨rfl, Or.inr rfl, Nat.le_of_ble_eq_true rfl, Nat.le_of_ble_eq_true rfl⟩ rfl rfl rfl ?_
    refine vm_WM.seq 0 7 (pc' := 18) (L' := [.ref 1008]) (S' := [.int (nI 1)]) (M' := M) rfl ?_
    refine vm_WM.ret (r := some (.int (nI 1))) 8 rfl rfl rfl ?_
    show vm_WM X 174 4 [.ref 1008, .int x2] [.int (nI 1)] M _
    refine vm_WM.seq 2 4 (pc' := 12) (L' := [.ref 1008, .int x2]) (S' := [.int x2, .ref 1009]) (M' := M) rfl ?_
    refine vm_WM.call (a := 178) (as := [.ref 1009, .int x2]) (rest := []) (L0 := [.ref 1009, .int x2]) 6 rfl rfl (by decide) rfl rfl ⟨rfl, Or.inl rfl, Nat.le_of_ble_eq_true rfl, Nat.le_of_ble_eq_true rfl⟩ rfl rfl rfl ?_
    refine vm_WM.seq 0 3 (pc' := 3) (L' := [.ref 1009, .int x2]) (S' := [.int (nI 6), .int x2]) (M' := M) rfl ?_
    refine vm_WM.call (a := 177) (as := [.int x2, .int (nI 6)]) (rest := []) (L0 := [.int x2, .int (nI 6)]) 3 rfl rfl (by decide) rfl rfl ⟨rfl, Or.inl rfl, Nat.le_of_ble_eq_true rfl, Nat.le_of_ble_eq_true rfl⟩ rfl rfl rfl ?_
    refine vm_WM.seq 0 3 (pc' := 5) (L' := [.int x2, .int (nI 6)]) (S' := [.ref 3000, .int (nI 6), .int x2]) (M' := M) rfl ?_
    refine vm_WM.call (a := 179) (as := [.int x2, .int (nI 6), .ref 3000]) (rest := []) (L0 := [.int x2, .int (nI 6), .ref 3000]) 3 rfl rfl (by decide) rfl rfl ⟨rfl, Or.inl rfl, Nat.le_of_ble_eq_true rfl, Nat.le_of_ble_eq_true rfl⟩ rfl rfl rfl ?_
    refine vm_WM.seq 0 1 (pc' := 1) (L' := [.int x2, .int (nI 6), .ref 3000]) (S' := [.int x2]) (M' := M) rfl ?_
    refine vm_WM.if (c := x2 < 0) (t1 := 9) (t2 := 4) (S' := []) 1 rfl rfl rfl (fun hc => ?_) (fun hc => ?_)
    · replace h := h.1 hc
      exact h.elim
    · replace h := h.2 hc
      refine vm_WM.seq 2 2 (pc' := 6) (L' := [.int x2, .int (nI 6), .ref 3000]) (S' := [.int (nI 6), .int x2]) (M' := M) rfl ?_
      refine vm_WM.if (c := x2 < (nI 6)) (t1 := 16) (t2 := 9) (S' := []) 4 rfl rfl rfl (fun hc => ?_) (fun hc => ?_)
      · replace h := h.1 hc
        refine vm_WM.seq 9 1 (pc' := 17) (L' := [.int x2, .int (nI 6), .ref 3000]) (S' := [.int x2]) (M' := M) rfl ?_
        refine vm_WM.ret (r := some (.int x2)) 10 rfl rfl rfl ?_
        show vm_WM X 177 8 [.int x2, .int (nI 6)] [.int x2] M _
        refine vm_WM.seq 4 1 (pc' := 9) (L' := [.int x2, .int (nI 6)]) (S' := []) (M' := M) rfl ?_
        refine vm_WM.ret (r := none) 5 rfl rfl rfl ?_
        show vm_WM X 178 6 [.ref 1009, .int x2] [] M _
        refine vm_WM.seq 4 2 (pc' := 8) (L' := [.ref 1009, .int x2]) (S' := [.int x2, .ref 1009]) (M' := M) rfl ?_
        obtain ⟨j2, hj1, hj2, h⟩ := h
        refine vm_WM.sbl (si := 4) (jj := j2) 6 rfl (by decide) hj1 hj2 ?_
        refine vm_WM.seq 7 3 (pc' := 14) (L' := [.ref 1009, .int x2]) (S' := [.int ((((((vm_strB.getD 4 []).getD j2 0) &&& (nI 255))).toUInt32 % 65536).toInt32)]) (M' := M) rfl ?_
        refine vm_WM.ret (r := some (.int ((((((vm_strB.getD 4 []).getD j2 0) &&& (nI 255))).toUInt32 % 65536).toInt32))) 10 rfl rfl (vm_rtC rfl) ?_
        show vm_WM X 174 15 [.ref 1008, .int x2] [.int ((((((vm_strB.getD 4 []).getD j2 0) &&& (nI 255))).toUInt32 % 65536).toInt32)] M _
        refine vm_WM.ret (r := some (.int ((((((vm_strB.getD 4 []).getD j2 0) &&& (nI 255))).toUInt32 % 65536).toInt32))) 7 rfl rfl (vm_rtC rfl) ?_
        show vm_WM X 69 52 [.ref 5, .ref 1008, .int x2] [.int ((((((vm_strB.getD 4 []).getD j2 0) &&& (nI 255))).toUInt32 % 65536).toInt32), .int (M 6 j1)] M _
        refine vm_WM.if (c := (M 6 j1) = ((((((vm_strB.getD 4 []).getD j2 0) &&& (nI 255))).toUInt32 % 65536).toInt32)) (t1 := 57) (t2 := 55) (S' := []) 30 rfl rfl rfl (fun hc => ?_) (fun hc => ?_)
        · replace h := h.1 hc
          refine vm_WM.seq 33 2 (pc' := 28) (L' := [.ref 5, .ref 1008, .int (x2 + (nI 1))]) (S' := []) (M' := M) rfl ?_
          exact h
        · replace h := h.2 hc
          refine vm_WM.seq 31 1 (pc' := 56) (L' := [.ref 5, .ref 1008, .int x2]) (S' := [.int (nI 0)]) (M' := M) rfl ?_
          exact vm_WM.ret (r := some (.int (nI 0))) 32 rfl rfl rfl ⟨_, rfl, h⟩
      · replace h := h.2 hc
        exact h.elim
  · replace h := h.2 hc
    refine vm_WM.seq 35 1 (pc' := 64) (L' := [.ref 5, .ref 1008, .int x2]) (S' := [.int (nI 1)]) (M' := M) rfl ?_
    exact vm_WM.ret (r := some (.int (nI 1))) 36 rfl rfl rfl ⟨_, rfl, h⟩
theorem v_Tape_isWord_1010 {X : Nat × (Nat → Int32)}  {M : vm_M} {P : Int32 → vm_M → Prop} (h : ((M 5 4) = (nI 1) → ((((M 5 3) - (M 5 2)) = ((nI 6) >>> (0 &&& 31)) → (C_Tape_isWord_1010_28 X (nI 0) M P)) ∧ (¬ (((M 5 3) - (M 5 2)) = ((nI 6) >>> (0 &&& 31))) → (P (nI 0) M)))) ∧ (¬ ((M 5 4) = (nI 1)) → (P (nI 0) M))) : E_Tape_isWord_1010 X  M P := by
  unfold E_Tape_isWord_1010
  refine vm_WM.seq 0 3 (pc' := 5) (L' := [.ref 5, .ref 1010, .null]) (S' := [.int (nI 1), .int (M 5 4)]) (M' := M) rfl ?_
  refine vm_WM.if (c := (M 5 4) = (nI 1)) (t1 := 8) (t2 := 24) (S' := []) 3 rfl rfl rfl (fun hc => ?_) (fun hc => ?_)
  · replace h := h.1 hc
    refine vm_WM.seq 4 6 (pc' := 18) (L' := [.ref 5, .ref 1010, .null]) (S' := [.ref 1010, .int ((M 5 3) - (M 5 2))]) (M' := M) rfl ?_
    refine vm_WM.call (a := 173) (as := [.ref 1010]) (rest := [.int ((M 5 3) - (M 5 2))]) (L0 := [.ref 1010]) 10 rfl rfl (by decide) rfl rfl ⟨rfl, Or.inr rfl, Nat.le_of_ble_eq_true rfl, Nat.le_of_ble_eq_true rfl⟩ rfl rfl rfl ?_
    refine vm_WM.seq 0 4 (pc' := 6) (L' := [.ref 1010]) (S' := [.ref 1010, .int (nI 6)]) (M' := M) rfl ?_
    refine vm_WM.call (a := 175) (as := [.ref 1010]) (rest := [.int (nI 6)]) (L0 := [.ref 1010]) 4 rfl rfl (by decide) rfl rfl ⟨rfl, Or.inr rfl, Nat.le_of_ble_eq_true rfl, Nat.le_of_ble_eq_true rfl⟩ rfl rfl rfl ?_
    refine vm_WM.seq 0 5 (pc' := 14) (L' := [.ref 1010]) (S' := [.int 0]) (M' := M) rfl ?_
    refine vm_WM.ret (r := some (.int 0)) 6 rfl rfl rfl ?_
    show vm_WM X 173 9 [.ref 1010] [.int 0, .int (nI 6)] M _
    refine vm_WM.seq 5 1 (pc' := 10) (L' := [.ref 1010]) (S' := [.int ((nI 6) >>> (0 &&& 31))]) (M' := M) rfl ?_
    refine vm_WM.ret (r := some (.int ((nI 6) >>> (0 &&& 31)))) 6 rfl rfl rfl ?_
    show vm_WM X 69 21 [.ref 5, .ref 1010, .null] [.int ((nI 6) >>> (0 &&& 31)), .int ((M 5 3) - (M 5 2))] M _
    refine vm_WM.if (c := ((M 5 3) - (M 5 2)) = ((nI 6) >>> (0 &&& 31))) (t1 := 26) (t2 := 24) (S' := []) 11 rfl rfl rfl (fun hc => ?_) (fun hc => ?_)
    · replace h := h.1 hc
      refine vm_WM.seq 14 2 (pc' := 28) (L' := [.ref 5, .ref 1010, .int (nI 0)]) (S' := []) (M' := M) rfl ?_
      exact h
    · replace h := h.2 hc
      refine vm_WM.seq 12 1 (pc' := 25) (L' := [.ref 5, .ref 1010, .null]) (S' := [.int (nI 0)]) (M' := M) rfl ?_
      exact vm_WM.ret (r := some (.int (nI 0))) 13 rfl rfl rfl ⟨_, rfl, h⟩
  · replace h := h.2 hc
    refine vm_WM.seq 12 1 (pc' := 25) (L' := [.ref 5, .ref 1010, .null]) (S' := [.int (nI 0)]) (M' := M) rfl ?_
    exact vm_WM.ret (r := some (.int (nI 0))) 13 rfl rfl rfl ⟨_, rfl, h⟩
theorem v_Tape_isWord_1010_28 {X : Nat × (Nat → Int32)} {x2 : Int32} {M : vm_M} {P : Int32 → vm_M → Prop} (h : (x2 < ((nI 6) >>> (0 &&& 31)) → (∃ j1 : Nat, ((M 5 2) + x2) = nI j1 ∧ j1 < 400 ∧ ((x2 < 0 → (False)) ∧ (¬ (x2 < 0) → ((x2 < (nI 6) → (∃ j2 : Nat, x2 = nI j2 ∧ j2 < vm_strN 5 ∧ (((M 6 j1) = ((((((vm_strB.getD 5 []).getD j2 0) &&& (nI 255))).toUInt32 % 65536).toInt32) → (C_Tape_isWord_1010_28 X (x2 + (nI 1)) M P)) ∧ (¬ ((M 6 j1) = ((((((vm_strB.getD 5 []).getD j2 0) &&& (nI 255))).toUInt32 % 65536).toInt32)) → (P (nI 0) M))))) ∧ (¬ (x2 < (nI 6)) → (False))))))) ∧ (¬ (x2 < ((nI 6) >>> (0 &&& 31))) → (P (nI 1) M))) : C_Tape_isWord_1010_28 X x2 M P := by
  unfold C_Tape_isWord_1010_28
  refine vm_WM.seq 16 2 (pc' := 30) (L' := [.ref 5, .ref 1010, .int x2]) (S' := [.ref 1010, .int x2]) (M' := M) rfl ?_
  refine vm_WM.call (a := 173) (as := [.ref 1010]) (rest := [.int x2]) (L0 := [.ref 1010]) 18 rfl rfl (by decide) rfl rfl ⟨rfl, Or.inr rfl, Nat.le_of_ble_eq_true rfl, Nat.le_of_ble_eq_true rfl⟩ rfl rfl rfl ?_
  refine vm_WM.seq 0 4 (pc' := 6) (L' := [.ref 1010]) (S' := [.ref 1010, .int (nI 6)]) (M' := M) rfl ?_
  refine vm_WM.call (a := 175) (as := [.ref 1010]) (rest := [.int (nI 6)]) (L0 := [.ref 1010]) 4 rfl rfl (by decide) rfl rfl ⟨rfl, Or.inr rfl, Nat.le_of_ble_eq_true rfl, Nat.le_of_ble_eq_true rfl⟩ rfl rfl rfl ?_
  refine vm_WM.seq 0 5 (pc' := 14) (L' := [.ref 1010]) (S' := [.int 0]) (M' := M) rfl ?_
  refine vm_WM.ret (r := some (.int 0)) 6 rfl rfl rfl ?_
  show vm_WM X 173 9 [.ref 1010] [.int 0, .int (nI 6)] M _
  refine vm_WM.seq 5 1 (pc' := 10) (L' := [.ref 1010]) (S' := [.int ((nI 6) >>> (0 &&& 31))]) (M' := M) rfl ?_
  refine vm_WM.ret (r := some (.int ((nI 6) >>> (0 &&& 31)))) 6 rfl rfl rfl ?_
  show vm_WM X 69 33 [.ref 5, .ref 1010, .int x2] [.int ((nI 6) >>> (0 &&& 31)), .int x2] M _
  refine vm_WM.if (c := x2 < ((nI 6) >>> (0 &&& 31))) (t1 := 36) (t2 := 63) (S' := []) 19 rfl rfl rfl (fun hc => ?_) (fun hc => ?_)
  · replace h := h.1 hc
    refine vm_WM.seq 20 6 (pc' := 46) (L' := [.ref 5, .ref 1010, .int x2]) (S' := [.int ((M 5 2) + x2), .ref 6]) (M' := M) rfl ?_
    obtain ⟨j1, hj1, hj2, h⟩ := h
    refine vm_WM.ald (n := 400) (jj := j1) 26 rfl (Or.inr ⟨rfl, Or.inl rfl⟩) (by decide) rfl hj1 hj2 ?_
    refine vm_WM.seq 27 2 (pc' := 49) (L' := [.ref 5, .ref 1010, .int x2]) (S' := [.int x2, .ref 1010, .int (M 6 j1)]) (M' := M) rfl ?_
    refine vm_WM.call (a := 174) (as := [.ref 1010, .int x2]) (rest := [.int (M 6 j1)]) (L0 := [.ref 1010, .int x2]) 29 rfl rfl (by decide) rfl rfl ⟨rfl, Or.inr rfl, Nat.le_of_ble_eq_true rfl, Nat.le_of_ble_eq_true rfl⟩ rfl rfl rfl ?_
    refine vm_WM.seq 0 1 (pc' := 1) (L' := [.ref 1010, .int x2]) (S' := [.ref 1010]) (M' := M) rfl ?_
    refine vm_WM.call (a := 176) (as := [.ref 1010]) (rest := []) (L0 := [.ref 1010]) 1 rfl rfl (by decide) rfl rfl ⟨rfl, Or.inr rfl, Nat.le_of_ble_eq_true rfl, Nat.le_of_ble_eq_true rfl⟩ rfl rfl rfl ?_
    refine vm_WM.seq 0 7 (pc' := 18) (L' := [.ref 1010]) (S' := [.int (nI 1)]) (M' := M) rfl ?_
    refine vm_WM.ret (r := some (.int (nI 1))) 8 rfl rfl rfl ?_
    show vm_WM X 174 4 [.ref 1010, .int x2] [.int (nI 1)] M _
    refine vm_WM.seq 2 4 (pc' := 12) (L' := [.ref 1010, .int x2]) (S' := [.int x2, .ref 1011]) (M' := M) rfl ?_
    refine vm_WM.call (a := 178) (as := [.ref 1011, .int x2]) (rest := []) (L0 := [.ref 1011, .int x2]) 6 rfl rfl (by decide) rfl rfl ⟨rfl, Or.inl rfl, Nat.le_of_ble_eq_true rfl, Nat.le_of_ble_eq_true rfl⟩ rfl rfl rfl ?_
    refine vm_WM.seq 0 3 (pc' := 3) (L' := [.ref 1011, .int x2]) (S' := [.int (nI 6), .int x2]) (M' := M) rfl ?_
    refine vm_WM.call (a := 177) (as := [.int x2, .int (nI 6)]) (rest := []) (L0 := [.int x2, .int (nI 6)]) 3 rfl rfl (by decide) rfl rfl ⟨rfl, Or.inl rfl, Nat.le_of_ble_eq_true rfl, Nat.le_of_ble_eq_true rfl⟩ rfl rfl rfl ?_
    refine vm_WM.seq 0 3 (pc' := 5) (L' := [.int x2, .int (nI 6)]) (S' := [.ref 3000, .int (nI 6), .int x2]) (M' := M) rfl ?_
    refine vm_WM.call (a := 179) (as := [.int x2, .int (nI 6), .ref 3000]) (rest := []) (L0 := [.int x2, .int (nI 6), .ref 3000]) 3 rfl rfl (by decide) rfl rfl ⟨rfl, Or.inl rfl, Nat.le_of_ble_eq_true rfl, Nat.le_of_ble_eq_true rfl⟩ rfl rfl rfl ?_
    refine vm_WM.seq 0 1 (pc' := 1) (L' := [.int x2, .int (nI 6), .ref 3000]) (S' := [.int x2]) (M' := M) rfl ?_
    refine vm_WM.if (c := x2 < 0) (t1 := 9) (t2 := 4) (S' := []) 1 rfl rfl rfl (fun hc => ?_) (fun hc => ?_)
    · replace h := h.1 hc
      exact h.elim
    · replace h := h.2 hc
      refine vm_WM.seq 2 2 (pc' := 6) (L' := [.int x2, .int (nI 6), .ref 3000]) (S' := [.int (nI 6), .int x2]) (M' := M) rfl ?_
      refine vm_WM.if (c := x2 < (nI 6)) (t1 := 16) (t2 := 9) (S' := []) 4 rfl rfl rfl (fun hc => ?_) (fun hc => ?_)
      · replace h := h.1 hc
        refine vm_WM.seq 9 1 (pc' := 17) (L' := [.int x2, .int (nI 6), .ref 3000]) (S' := [.int x2]) (M' := M) rfl ?_
        refine vm_WM.ret (r := some (.int x2)) 10 rfl rfl rfl ?_
        show vm_WM X 177 8 [.int x2, .int (nI 6)] [.int x2] M _
        refine vm_WM.seq 4 1 (pc' := 9) (L' := [.int x2, .int (nI 6)]) (S' := []) (M' := M) rfl ?_
        refine vm_WM.ret (r := none) 5 rfl rfl rfl ?_
        show vm_WM X 178 6 [.ref 1011, .int x2] [] M _
        refine vm_WM.seq 4 2 (pc' := 8) (L' := [.ref 1011, .int x2]) (S' := [.int x2, .ref 1011]) (M' := M) rfl ?_
        obtain ⟨j2, hj1, hj2, h⟩ := h
        refine vm_WM.sbl (si := 5) (jj := j2) 6 rfl (by decide) hj1 hj2 ?_
        refine vm_WM.seq 7 3 (pc' := 14) (L' := [.ref 1011, .int x2]) (S' := [.int ((((((vm_strB.getD 5 []).getD j2 0) &&& (nI 255))).toUInt32 % 65536).toInt32)]) (M' := M) rfl ?_
        refine vm_WM.ret (r := some (.int ((((((vm_strB.getD 5 []).getD j2 0) &&& (nI 255))).toUInt32 % 65536).toInt32))) 10 rfl rfl (vm_rtC rfl) ?_
        show vm_WM X 174 15 [.ref 1010, .int x2] [.int ((((((vm_strB.getD 5 []).getD j2 0) &&& (nI 255))).toUInt32 % 65536).toInt32)] M _
        refine vm_WM.ret (r := some (.int ((((((vm_strB.getD 5 []).getD j2 0) &&& (nI 255))).toUInt32 % 65536).toInt32))) 7 rfl rfl (vm_rtC rfl) ?_
        show vm_WM X 69 52 [.ref 5, .ref 1010, .int x2] [.int ((((((vm_strB.getD 5 []).getD j2 0) &&& (nI 255))).toUInt32 % 65536).toInt32), .int (M 6 j1)] M _
        refine vm_WM.if (c := (M 6 j1) = ((((((vm_strB.getD 5 []).getD j2 0) &&& (nI 255))).toUInt32 % 65536).toInt32)) (t1 := 57) (t2 := 55) (S' := []) 30 rfl rfl rfl (fun hc => ?_) (fun hc => ?_)
        · replace h := h.1 hc
          refine vm_WM.seq 33 2 (pc' := 28) (L' := [.ref 5, .ref 1010, .int (x2 + (nI 1))]) (S' := []) (M' := M) rfl ?_
          exact h
        · replace h := h.2 hc
          refine vm_WM.seq 31 1 (pc' := 56) (L' := [.ref 5, .ref 1010, .int x2]) (S' := [.int (nI 0)]) (M' := M) rfl ?_
          exact vm_WM.ret (r := some (.int (nI 0))) 32 rfl rfl rfl ⟨_, rfl, h⟩
      · replace h := h.2 hc
        exact h.elim
  · replace h := h.2 hc
    refine vm_WM.seq 35 1 (pc' := 64) (L' := [.ref 5, .ref 1010, .int x2]) (S' := [.int (nI 1)]) (M' := M) rfl ?_
    exact vm_WM.ret (r := some (.int (nI 1))) 36 rfl rfl rfl ⟨_, rfl, h⟩
theorem v_Tape_isWord_1012 {X : Nat × (Nat → Int32)}  {M : vm_M} {P : Int32 → vm_M → Prop} (h : ((M 5 4) = (nI 1) → ((((M 5 3) - (M 5 2)) = ((nI 5) >>> (0 &&& 31)) → (C_Tape_isWord_1012_28 X (nI 0) M P)) ∧ (¬ (((M 5 3) - (M 5 2)) = ((nI 5) >>> (0 &&& 31))) → (P (nI 0) M)))) ∧ (¬ ((M 5 4) = (nI 1)) → (P (nI 0) M))) : E_Tape_isWord_1012 X  M P := by
  unfold E_Tape_isWord_1012
  refine vm_WM.seq 0 3 (pc' := 5) (L' := [.ref 5, .ref 1012, .null]) (S' := [.int (nI 1), .int (M 5 4)]) (M' := M) rfl ?_
  refine vm_WM.if (c := (M 5 4) = (nI 1)) (t1 := 8) (t2 := 24) (S' := []) 3 rfl rfl rfl (fun hc => ?_) (fun hc => ?_)
  · replace h := h.1 hc
    refine vm_WM.seq 4 6 (pc' := 18) (L' := [.ref 5, .ref 1012, .null]) (S' := [.ref 1012, .int ((M 5 3) - (M 5 2))]) (M' := M) rfl ?_
    refine vm_WM.call (a := 173) (as := [.ref 1012]) (rest := [.int ((M 5 3) - (M 5 2))]) (L0 := [.ref 1012]) 10 rfl rfl (by decide) rfl rfl ⟨rfl, Or.inr rfl, Nat.le_of_ble_eq_true rfl, Nat.le_of_ble_eq_true rfl⟩ rfl rfl rfl ?_
    refine vm_WM.seq 0 4 (pc' := 6) (L' := [.ref 1012]) (S' := [.ref 1012, .int (nI 5)]) (M' := M) rfl ?_
    refine vm_WM.call (a := 175) (as := [.ref 1012]) (rest := [.int (nI 5)]) (L0 := [.ref 1012]) 4 rfl rfl (by decide) rfl rfl ⟨rfl, Or.inr rfl, Nat.le_of_ble_eq_true rfl, Nat.le_of_ble_eq_true rfl⟩ rfl rfl rfl ?_
    refine vm_WM.seq 0 5 (pc' := 14) (L' := [.ref 1012]) (S' := [.int 0]) (M' := M) rfl ?_
    refine vm_WM.ret (r := some (.int 0)) 6 rfl rfl rfl ?_
    show vm_WM X 173 9 [.ref 1012] [.int 0, .int (nI 5)] M _
    refine vm_WM.seq 5 1 (pc' := 10) (L' := [.ref 1012]) (S' := [.int ((nI 5) >>> (0 &&& 31))]) (M' := M) rfl ?_
    refine vm_WM.ret (r := some (.int ((nI 5) >>> (0 &&& 31)))) 6 rfl rfl rfl ?_
    show vm_WM X 69 21 [.ref 5, .ref 1012, .null] [.int ((nI 5) >>> (0 &&& 31)), .int ((M 5 3) - (M 5 2))] M _
    refine vm_WM.if (c := ((M 5 3) - (M 5 2)) = ((nI 5) >>> (0 &&& 31))) (t1 := 26) (t2 := 24) (S' := []) 11 rfl rfl rfl (fun hc => ?_) (fun hc => ?_)
    · replace h := h.1 hc
      refine vm_WM.seq 14 2 (pc' := 28) (L' := [.ref 5, .ref 1012, .int (nI 0)]) (S' := []) (M' := M) rfl ?_
      exact h
    · replace h := h.2 hc
      refine vm_WM.seq 12 1 (pc' := 25) (L' := [.ref 5, .ref 1012, .null]) (S' := [.int (nI 0)]) (M' := M) rfl ?_
      exact vm_WM.ret (r := some (.int (nI 0))) 13 rfl rfl rfl ⟨_, rfl, h⟩
  · replace h := h.2 hc
    refine vm_WM.seq 12 1 (pc' := 25) (L' := [.ref 5, .ref 1012, .null]) (S' := [.int (nI 0)]) (M' := M) rfl ?_
    exact vm_WM.ret (r := some (.int (nI 0))) 13 rfl rfl rfl ⟨_, rfl, h⟩
theorem v_Tape_isWord_1012_28 {X : Nat × (Nat → Int32)} {x2 : Int32} {M : vm_M} {P : Int32 → vm_M → Prop} (h : (x2 < ((nI 5) >>> (0 &&& 31)) → (∃ j1 : Nat, ((M 5 2) + x2) = nI j1 ∧ j1 < 400 ∧ ((x2 < 0 → (False)) ∧ (¬ (x2 < 0) → ((x2 < (nI 5) → (∃ j2 : Nat, x2 = nI j2 ∧ j2 < vm_strN 6 ∧ (((M 6 j1) = ((((((vm_strB.getD 6 []).getD j2 0) &&& (nI 255))).toUInt32 % 65536).toInt32) → (C_Tape_isWord_1012_28 X (x2 + (nI 1)) M P)) ∧ (¬ ((M 6 j1) = ((((((vm_strB.getD 6 []).getD j2 0) &&& (nI 255))).toUInt32 % 65536).toInt32)) → (P (nI 0) M))))) ∧ (¬ (x2 < (nI 5)) → (False))))))) ∧ (¬ (x2 < ((nI 5) >>> (0 &&& 31))) → (P (nI 1) M))) : C_Tape_isWord_1012_28 X x2 M P := by
  unfold C_Tape_isWord_1012_28
  refine vm_WM.seq 16 2 (pc' := 30) (L' := [.ref 5, .ref 1012, .int x2]) (S' := [.ref 1012, .int x2]) (M' := M) rfl ?_
  refine vm_WM.call (a := 173) (as := [.ref 1012]) (rest := [.int x2]) (L0 := [.ref 1012]) 18 rfl rfl (by decide) rfl rfl ⟨rfl, Or.inr rfl, Nat.le_of_ble_eq_true rfl, Nat.le_of_ble_eq_true rfl⟩ rfl rfl rfl ?_
  refine vm_WM.seq 0 4 (pc' := 6) (L' := [.ref 1012]) (S' := [.ref 1012, .int (nI 5)]) (M' := M) rfl ?_
  refine vm_WM.call (a := 175) (as := [.ref 1012]) (rest := [.int (nI 5)]) (L0 := [.ref 1012]) 4 rfl rfl (by decide) rfl rfl ⟨rfl, Or.inr rfl, Nat.le_of_ble_eq_true rfl, Nat.le_of_ble_eq_true rfl⟩ rfl rfl rfl ?_
  refine vm_WM.seq 0 5 (pc' := 14) (L' := [.ref 1012]) (S' := [.int 0]) (M' := M) rfl ?_
  refine vm_WM.ret (r := some (.int 0)) 6 rfl rfl rfl ?_
  show vm_WM X 173 9 [.ref 1012] [.int 0, .int (nI 5)] M _
  refine vm_WM.seq 5 1 (pc' := 10) (L' := [.ref 1012]) (S' := [.int ((nI 5) >>> (0 &&& 31))]) (M' := M) rfl ?_
  refine vm_WM.ret (r := some (.int ((nI 5) >>> (0 &&& 31)))) 6 rfl rfl rfl ?_
  show vm_WM X 69 33 [.ref 5, .ref 1012, .int x2] [.int ((nI 5) >>> (0 &&& 31)), .int x2] M _
  refine vm_WM.if (c := x2 < ((nI 5) >>> (0 &&& 31))) (t1 := 36) (t2 := 63) (S' := []) 19 rfl rfl rfl (fun hc => ?_) (fun hc => ?_)
  · replace h := h.1 hc
    refine vm_WM.seq 20 6 (pc' := 46) (L' := [.ref 5, .ref 1012, .int x2]) (S' := [.int ((M 5 2) + x2), .ref 6]) (M' := M) rfl ?_
    obtain ⟨j1, hj1, hj2, h⟩ := h
    refine vm_WM.ald (n := 400) (jj := j1) 26 rfl (Or.inr ⟨rfl, Or.inl rfl⟩) (by decide) rfl hj1 hj2 ?_
    refine vm_WM.seq 27 2 (pc' := 49) (L' := [.ref 5, .ref 1012, .int x2]) (S' := [.int x2, .ref 1012, .int (M 6 j1)]) (M' := M) rfl ?_
    refine vm_WM.call (a := 174) (as := [.ref 1012, .int x2]) (rest := [.int (M 6 j1)]) (L0 := [.ref 1012, .int x2]) 29 rfl rfl (by decide) rfl rfl ⟨rfl, Or.inr rfl, Nat.le_of_ble_eq_true rfl, Nat.le_of_ble_eq_true rfl⟩ rfl rfl rfl ?_
    refine vm_WM.seq 0 1 (pc' := 1) (L' := [.ref 1012, .int x2]) (S' := [.ref 1012]) (M' := M) rfl ?_
    refine vm_WM.call (a := 176) (as := [.ref 1012]) (rest := []) (L0 := [.ref 1012]) 1 rfl rfl (by decide) rfl rfl ⟨rfl, Or.inr rfl, Nat.le_of_ble_eq_true rfl, Nat.le_of_ble_eq_true rfl⟩ rfl rfl rfl ?_
    refine vm_WM.seq 0 7 (pc' := 18) (L' := [.ref 1012]) (S' := [.int (nI 1)]) (M' := M) rfl ?_
    refine vm_WM.ret (r := some (.int (nI 1))) 8 rfl rfl rfl ?_
    show vm_WM X 174 4 [.ref 1012, .int x2] [.int (nI 1)] M _
    refine vm_WM.seq 2 4 (pc' := 12) (L' := [.ref 1012, .int x2]) (S' := [.int x2, .ref 1013]) (M' := M) rfl ?_
    refine vm_WM.call (a := 178) (as := [.ref 1013, .int x2]) (rest := []) (L0 := [.ref 1013, .int x2]) 6 rfl rfl (by decide) rfl rfl ⟨rfl, Or.inl rfl, Nat.le_of_ble_eq_true rfl, Nat.le_of_ble_eq_true rfl⟩ rfl rfl rfl ?_
    refine vm_WM.seq 0 3 (pc' := 3) (L' := [.ref 1013, .int x2]) (S' := [.int (nI 5), .int x2]) (M' := M) rfl ?_
    refine vm_WM.call (a := 177) (as := [.int x2, .int (nI 5)]) (rest := []) (L0 := [.int x2, .int (nI 5)]) 3 rfl rfl (by decide) rfl rfl ⟨rfl, Or.inl rfl, Nat.le_of_ble_eq_true rfl, Nat.le_of_ble_eq_true rfl⟩ rfl rfl rfl ?_
    refine vm_WM.seq 0 3 (pc' := 5) (L' := [.int x2, .int (nI 5)]) (S' := [.ref 3000, .int (nI 5), .int x2]) (M' := M) rfl ?_
    refine vm_WM.call (a := 179) (as := [.int x2, .int (nI 5), .ref 3000]) (rest := []) (L0 := [.int x2, .int (nI 5), .ref 3000]) 3 rfl rfl (by decide) rfl rfl ⟨rfl, Or.inl rfl, Nat.le_of_ble_eq_true rfl, Nat.le_of_ble_eq_true rfl⟩ rfl rfl rfl ?_
    refine vm_WM.seq 0 1 (pc' := 1) (L' := [.int x2, .int (nI 5), .ref 3000]) (S' := [.int x2]) (M' := M) rfl ?_
    refine vm_WM.if (c := x2 < 0) (t1 := 9) (t2 := 4) (S' := []) 1 rfl rfl rfl (fun hc => ?_) (fun hc => ?_)
    · replace h := h.1 hc
      exact h.elim
    · replace h := h.2 hc
      refine vm_WM.seq 2 2 (pc' := 6) (L' := [.int x2, .int (nI 5), .ref 3000]) (S' := [.int (nI 5), .int x2]) (M' := M) rfl ?_
      refine vm_WM.if (c := x2 < (nI 5)) (t1 := 16) (t2 := 9) (S' := []) 4 rfl rfl rfl (fun hc => ?_) (fun hc => ?_)
      · replace h := h.1 hc
        refine vm_WM.seq 9 1 (pc' := 17) (L' := [.int x2, .int (nI 5), .ref 3000]) (S' := [.int x2]) (M' := M) rfl ?_
        refine vm_WM.ret (r := some (.int x2)) 10 rfl rfl rfl ?_
        show vm_WM X 177 8 [.int x2, .int (nI 5)] [.int x2] M _
        refine vm_WM.seq 4 1 (pc' := 9) (L' := [.int x2, .int (nI 5)]) (S' := []) (M' := M) rfl ?_
        refine vm_WM.ret (r := none) 5 rfl rfl rfl ?_
        show vm_WM X 178 6 [.ref 1013, .int x2] [] M _
        refine vm_WM.seq 4 2 (pc' := 8) (L' := [.ref 1013, .int x2]) (S' := [.int x2, .ref 1013]) (M' := M) rfl ?_
        obtain ⟨j2, hj1, hj2, h⟩ := h
        refine vm_WM.sbl (si := 6) (jj := j2) 6 rfl (by decide) hj1 hj2 ?_
        refine vm_WM.seq 7 3 (pc' := 14) (L' := [.ref 1013, .int x2]) (S' := [.int ((((((vm_strB.getD 6 []).getD j2 0) &&& (nI 255))).toUInt32 % 65536).toInt32)]) (M' := M) rfl ?_
        refine vm_WM.ret (r := some (.int ((((((vm_strB.getD 6 []).getD j2 0) &&& (nI 255))).toUInt32 % 65536).toInt32))) 10 rfl rfl (vm_rtC rfl) ?_
        show vm_WM X 174 15 [.ref 1012, .int x2] [.int ((((((vm_strB.getD 6 []).getD j2 0) &&& (nI 255))).toUInt32 % 65536).toInt32)] M _
        refine vm_WM.ret (r := some (.int ((((((vm_strB.getD 6 []).getD j2 0) &&& (nI 255))).toUInt32 % 65536).toInt32))) 7 rfl rfl (vm_rtC rfl) ?_
        show vm_WM X 69 52 [.ref 5, .ref 1012, .int x2] [.int ((((((vm_strB.getD 6 []).getD j2 0) &&& (nI 255))).toUInt32 % 65536).toInt32), .int (M 6 j1)] M _
        refine vm_WM.if (c := (M 6 j1) = ((((((vm_strB.getD 6 []).getD j2 0) &&& (nI 255))).toUInt32 % 65536).toInt32)) (t1 := 57) (t2 := 55) (S' := []) 30 rfl rfl rfl (fun hc => ?_) (fun hc => ?_)
        · replace h := h.1 hc
          refine vm_WM.seq 33 2 (pc' := 28) (L' := [.ref 5, .ref 1012, .int (x2 + (nI 1))]) (S' := []) (M' := M) rfl ?_
          exact h
        · replace h := h.2 hc
          refine vm_WM.seq 31 1 (pc' := 56) (L' := [.ref 5, .ref 1012, .int x2]) (S' := [.int (nI 0)]) (M' := M) rfl ?_
          exact vm_WM.ret (r := some (.int (nI 0))) 32 rfl rfl rfl ⟨_, rfl, h⟩
      · replace h := h.2 hc
        exact h.elim
  · replace h := h.2 hc
    refine vm_WM.seq 35 1 (pc' := 64) (L' := [.ref 5, .ref 1012, .int x2]) (S' := [.int (nI 1)]) (M' := M) rfl ?_
    exact vm_WM.ret (r := some (.int (nI 1))) 36 rfl rfl rfl ⟨_, rfl, h⟩
