/-! walks, by wip/whole/vcgen.py -/
theorem v_Hill_become_7_28 {X : Nat × (Nat → Int32)}  {M : vm_M} {P : vm_M → Prop} (h : P  (vm_cp (vm_cp (vm_cp (vm_cp (vm_cp (vm_cp (vm_u2 (vm_u2 (vm_u2 (vm_u2 (vm_u2 (vm_u2 M 7 0 (M 28 0)) 7 1 ((vm_u2 M 7 0 (M 28 0)) 28 1)) 7 2 ((vm_u2 (vm_u2 M 7 0 (M 28 0)) 7 1 ((vm_u2 M 7 0 (M 28 0)) 28 1)) 28 2)) 7 3 ((vm_u2 (vm_u2 (vm_u2 M 7 0 (M 28 0)) 7 1 ((vm_u2 M 7 0 (M 28 0)) 28 1)) 7 2 ((vm_u2 (vm_u2 M 7 0 (M 28 0)) 7 1 ((vm_u2 M 7 0 (M 28 0)) 28 1)) 28 2)) 28 3)) 7 4 ((vm_u2 (vm_u2 (vm_u2 (vm_u2 M 7 0 (M 28 0)) 7 1 ((vm_u2 M 7 0 (M 28 0)) 28 1)) 7 2 ((vm_u2 (vm_u2 M 7 0 (M 28 0)) 7 1 ((vm_u2 M 7 0 (M 28 0)) 28 1)) 28 2)) 7 3 ((vm_u2 (vm_u2 (vm_u2 M 7 0 (M 28 0)) 7 1 ((vm_u2 M 7 0 (M 28 0)) 28 1)) 7 2 ((vm_u2 (vm_u2 M 7 0 (M 28 0)) 7 1 ((vm_u2 M 7 0 (M 28 0)) 28 1)) 28 2)) 28 3)) 28 4)) 7 5 ((vm_u2 (vm_u2 (vm_u2 (vm_u2 (vm_u2 M 7 0 (M 28 0)) 7 1 ((vm_u2 M 7 0 (M 28 0)) 28 1)) 7 2 ((vm_u2 (vm_u2 M 7 0 (M 28 0)) 7 1 ((vm_u2 M 7 0 (M 28 0)) 28 1)) 28 2)) 7 3 ((vm_u2 (vm_u2 (vm_u2 M 7 0 (M 28 0)) 7 1 ((vm_u2 M 7 0 (M 28 0)) 28 1)) 7 2 ((vm_u2 (vm_u2 M 7 0 (M 28 0)) 7 1 ((vm_u2 M 7 0 (M 28 0)) 28 1)) 28 2)) 28 3)) 7 4 ((vm_u2 (vm_u2 (vm_u2 (vm_u2 M 7 0 (M 28 0)) 7 1 ((vm_u2 M 7 0 (M 28 0)) 28 1)) 7 2 ((vm_u2 (vm_u2 M 7 0 (M 28 0)) 7 1 ((vm_u2 M 7 0 (M 28 0)) 28 1)) 28 2)) 7 3 ((vm_u2 (vm_u2 (vm_u2 M 7 0 (M 28 0)) 7 1 ((vm_u2 M 7 0 (M 28 0)) 28 1)) 7 2 ((vm_u2 (vm_u2 M 7 0 (M 28 0)) 7 1 ((vm_u2 M 7 0 (M 28 0)) 28 1)) 28 2)) 28 3)) 28 4)) 28 5)) 29 8 0 0 6) 30 9 0 0 6) 31 10 0 0 6) 32 11 0 0 6) 33 12 0 0 36) 34 13 0 0 36)) : E_Hill_become_7_28 X  M P := by
  unfold E_Hill_become_7_28
  refine vm_WM.seq 0 31 (pc' := 60) (L' := [.ref 7, .ref 28]) (S' := [.int (nI 6), .int (nI 0), .ref 8, .int (nI 0), .ref 29]) (M' := (vm_u2 (vm_u2 (vm_u2 (vm_u2 (vm_u2 (vm_u2 M 7 0 (M 28 0)) 7 1 ((vm_u2 M 7 0 (M 28 0)) 28 1)) 7 2 ((vm_u2 (vm_u2 M 7 0 (M 28 0)) 7 1 ((vm_u2 M 7 0 (M 28 0)) 28 1)) 28 2)) 7 3 ((vm_u2 (vm_u2 (vm_u2 M 7 0 (M 28 0)) 7 1 ((vm_u2 M 7 0 (M 28 0)) 28 1)) 7 2 ((vm_u2 (vm_u2 M 7 0 (M 28 0)) 7 1 ((vm_u2 M 7 0 (M 28 0)) 28 1)) 28 2)) 28 3)) 7 4 ((vm_u2 (vm_u2 (vm_u2 (vm_u2 M 7 0 (M 28 0)) 7 1 ((vm_u2 M 7 0 (M 28 0)) 28 1)) 7 2 ((vm_u2 (vm_u2 M 7 0 (M 28 0)) 7 1 ((vm_u2 M 7 0 (M 28 0)) 28 1)) 28 2)) 7 3 ((vm_u2 (vm_u2 (vm_u2 M 7 0 (M 28 0)) 7 1 ((vm_u2 M 7 0 (M 28 0)) 28 1)) 7 2 ((vm_u2 (vm_u2 M 7 0 (M 28 0)) 7 1 ((vm_u2 M 7 0 (M 28 0)) 28 1)) 28 2)) 28 3)) 28 4)) 7 5 ((vm_u2 (vm_u2 (vm_u2 (vm_u2 (vm_u2 M 7 0 (M 28 0)) 7 1 ((vm_u2 M 7 0 (M 28 0)) 28 1)) 7 2 ((vm_u2 (vm_u2 M 7 0 (M 28 0)) 7 1 ((vm_u2 M 7 0 (M 28 0)) 28 1)) 28 2)) 7 3 ((vm_u2 (vm_u2 (vm_u2 M 7 0 (M 28 0)) 7 1 ((vm_u2 M 7 0 (M 28 0)) 28 1)) 7 2 ((vm_u2 (vm_u2 M 7 0 (M 28 0)) 7 1 ((vm_u2 M 7 0 (M 28 0)) 28 1)) 28 2)) 28 3)) 7 4 ((vm_u2 (vm_u2 (vm_u2 (vm_u2 M 7 0 (M 28 0)) 7 1 ((vm_u2 M 7 0 (M 28 0)) 28 1)) 7 2 ((vm_u2 (vm_u2 M 7 0 (M 28 0)) 7 1 ((vm_u2 M 7 0 (M 28 0)) 28 1)) 28 2)) 7 3 ((vm_u2 (vm_u2 (vm_u2 M 7 0 (M 28 0)) 7 1 ((vm_u2 M 7 0 (M 28 0)) 28 1)) 7 2 ((vm_u2 (vm_u2 M 7 0 (M 28 0)) 7 1 ((vm_u2 M 7 0 (M 28 0)) 28 1)) 28 2)) 28 3)) 28 4)) 28 5))) rfl ?_
  refine vm_WM.copy (n0 := 6) (n1 := 6) 31 rfl rfl rfl rfl (by decide) (by decide) (by decide) (by decide) (by decide) (Nat.le_of_ble_eq_true rfl) ?_
  show vm_WM X 42 63 [.ref 7, .ref 28] [] (vm_cp (vm_u2 (vm_u2 (vm_u2 (vm_u2 (vm_u2 (vm_u2 M 7 0 (M 28 0)) 7 1 ((vm_u2 M 7 0 (M 28 0)) 28 1)) 7 2 ((vm_u2 (vm_u2 M 7 0 (M 28 0)) 7 1 ((vm_u2 M 7 0 (M 28 0)) 28 1)) 28 2)) 7 3 ((vm_u2 (vm_u2 (vm_u2 M 7 0 (M 28 0)) 7 1 ((vm_u2 M 7 0 (M 28 0)) 28 1)) 7 2 ((vm_u2 (vm_u2 M 7 0 (M 28 0)) 7 1 ((vm_u2 M 7 0 (M 28 0)) 28 1)) 28 2)) 28 3)) 7 4 ((vm_u2 (vm_u2 (vm_u2 (vm_u2 M 7 0 (M 28 0)) 7 1 ((vm_u2 M 7 0 (M 28 0)) 28 1)) 7 2 ((vm_u2 (vm_u2 M 7 0 (M 28 0)) 7 1 ((vm_u2 M 7 0 (M 28 0)) 28 1)) 28 2)) 7 3 ((vm_u2 (vm_u2 (vm_u2 M 7 0 (M 28 0)) 7 1 ((vm_u2 M 7 0 (M 28 0)) 28 1)) 7 2 ((vm_u2 (vm_u2 M 7 0 (M 28 0)) 7 1 ((vm_u2 M 7 0 (M 28 0)) 28 1)) 28 2)) 28 3)) 28 4)) 7 5 ((vm_u2 (vm_u2 (vm_u2 (vm_u2 (vm_u2 M 7 0 (M 28 0)) 7 1 ((vm_u2 M 7 0 (M 28 0)) 28 1)) 7 2 ((vm_u2 (vm_u2 M 7 0 (M 28 0)) 7 1 ((vm_u2 M 7 0 (M 28 0)) 28 1)) 28 2)) 7 3 ((vm_u2 (vm_u2 (vm_u2 M 7 0 (M 28 0)) 7 1 ((vm_u2 M 7 0 (M 28 0)) 28 1)) 7 2 ((vm_u2 (vm_u2 M 7 0 (M 28 0)) 7 1 ((vm_u2 M 7 0 (M 28 0)) 28 1)) 28 2)) 28 3)) 7 4 ((vm_u2 (vm_u2 (vm_u2 (vm_u2 M 7 0 (M 28 0)) 7 1 ((vm_u2 M 7 0 (M 28 0)) 28 1)) 7 2 ((vm_u2 (vm_u2 M 7 0 (M 28 0)) 7 1 ((vm_u2 M 7 0 (M 28 0)) 28 1)) 28 2)) 7 3 ((vm_u2 (vm_u2 (vm_u2 M 7 0 (M 28 0)) 7 1 ((vm_u2 M 7 0 (M 28 0)) 28 1)) 7 2 ((vm_u2 (vm_u2 M 7 0 (M 28 0)) 7 1 ((vm_u2 M 7 0 (M 28 0)) 28 1)) 28 2)) 28 3)) 28 4)) 28 5)) 29 8 0 0 6) _
  refine vm_WM.seq 32 7 (pc' := 75) (L' := [.ref 7, .ref 28]) (S' := [.int (nI 6), .int (nI 0), .ref 9, .int (nI 0), .ref 30]) (M' := (vm_cp (vm_u2 (vm_u2 (vm_u2 (vm_u2 (vm_u2 (vm_u2 M 7 0 (M 28 0)) 7 1 ((vm_u2 M 7 0 (M 28 0)) 28 1)) 7 2 ((vm_u2 (vm_u2 M 7 0 (M 28 0)) 7 1 ((vm_u2 M 7 0 (M 28 0)) 28 1)) 28 2)) 7 3 ((vm_u2 (vm_u2 (vm_u2 M 7 0 (M 28 0)) 7 1 ((vm_u2 M 7 0 (M 28 0)) 28 1)) 7 2 ((vm_u2 (vm_u2 M 7 0 (M 28 0)) 7 1 ((vm_u2 M 7 0 (M 28 0)) 28 1)) 28 2)) 28 3)) 7 4 ((vm_u2 (vm_u2 (vm_u2 (vm_u2 M 7 0 (M 28 0)) 7 1 ((vm_u2 M 7 0 (M 28 0)) 28 1)) 7 2 ((vm_u2 (vm_u2 M 7 0 (M 28 0)) 7 1 ((vm_u2 M 7 0 (M 28 0)) 28 1)) 28 2)) 7 3 ((vm_u2 (vm_u2 (vm_u2 M 7 0 (M 28 0)) 7 1 ((vm_u2 M 7 0 (M 28 0)) 28 1)) 7 2 ((vm_u2 (vm_u2 M 7 0 (M 28 0)) 7 1 ((vm_u2 M 7 0 (M 28 0)) 28 1)) 28 2)) 28 3)) 28 4)) 7 5 ((vm_u2 (vm_u2 (vm_u2 (vm_u2 (vm_u2 M 7 0 (M 28 0)) 7 1 ((vm_u2 M 7 0 (M 28 0)) 28 1)) 7 2 ((vm_u2 (vm_u2 M 7 0 (M 28 0)) 7 1 ((vm_u2 M 7 0 (M 28 0)) 28 1)) 28 2)) 7 3 ((vm_u2 (vm_u2 (vm_u2 M 7 0 (M 28 0)) 7 1 ((vm_u2 M 7 0 (M 28 0)) 28 1)) 7 2 ((vm_u2 (vm_u2 M 7 0 (M 28 0)) 7 1 ((vm_u2 M 7 0 (M 28 0)) 28 1)) 28 2)) 28 3)) 7 4 ((vm_u2 (vm_u2 (vm_u2 (vm_u2 M 7 0 (M 28 0)) 7 1 ((vm_u2 M 7 0 (M 28 0)) 28 1)) 7 2 ((vm_u2 (vm_u2 M 7 0 (M 28 0)) 7 1 ((vm_u2 M 7 0 (M 28 0)) 28 1)) 28 2)) 7 3 ((vm_u2 (vm_u2 (vm_u2 M 7 0 (M 28 0)) 7 1 ((vm_u2 M 7 0 (M 28 0)) 28 1)) 7 2 ((vm_u2 (vm_u2 M 7 0 (M 28 0)) 7 1 ((vm_u2 M 7 0 (M 28 0)) 28 1)) 28 2)) 28 3)) 28 4)) 28 5)) 29 8 0 0 6)) rfl ?_
  refine vm_WM.copy (n0 := 6) (n1 := 6) 39 rfl rfl rfl rfl (by decide) (by decide) (by decide) (by decide) (by decide) (Nat.le_of_ble_eq_true rfl) ?_
  show vm_WM X 42 78 [.ref 7, .ref 28] [] (vm_cp (vm_cp (vm_u2 (vm_u2 (vm_u2 (vm_u2 (vm_u2 (vm_u2 M 7 0 (M 28 0)) 7 1 ((vm_u2 M 7 0 (M 28 0)) 28 1)) 7 2 ((vm_u2 (vm_u2 M 7 0 (M 28 0)) 7 1 ((vm_u2 M 7 0 (M 28 0)) 28 1)) 28 2)) 7 3 ((vm_u2 (vm_u2 (vm_u2 M 7 0 (M 28 0)) 7 1 ((vm_u2 M 7 0 (M 28 0)) 28 1)) 7 2 ((vm_u2 (vm_u2 M 7 0 (M 28 0)) 7 1 ((vm_u2 M 7 0 (M 28 0)) 28 1)) 28 2)) 28 3)) 7 4 ((vm_u2 (vm_u2 (vm_u2 (vm_u2 M 7 0 (M 28 0)) 7 1 ((vm_u2 M 7 0 (M 28 0)) 28 1)) 7 2 ((vm_u2 (vm_u2 M 7 0 (M 28 0)) 7 1 ((vm_u2 M 7 0 (M 28 0)) 28 1)) 28 2)) 7 3 ((vm_u2 (vm_u2 (vm_u2 M 7 0 (M 28 0)) 7 1 ((vm_u2 M 7 0 (M 28 0)) 28 1)) 7 2 ((vm_u2 (vm_u2 M 7 0 (M 28 0)) 7 1 ((vm_u2 M 7 0 (M 28 0)) 28 1)) 28 2)) 28 3)) 28 4)) 7 5 ((vm_u2 (vm_u2 (vm_u2 (vm_u2 (vm_u2 M 7 0 (M 28 0)) 7 1 ((vm_u2 M 7 0 (M 28 0)) 28 1)) 7 2 ((vm_u2 (vm_u2 M 7 0 (M 28 0)) 7 1 ((vm_u2 M 7 0 (M 28 0)) 28 1)) 28 2)) 7 3 ((vm_u2 (vm_u2 (vm_u2 M 7 0 (M 28 0)) 7 1 ((vm_u2 M 7 0 (M 28 0)) 28 1)) 7 2 ((vm_u2 (vm_u2 M 7 0 (M 28 0)) 7 1 ((vm_u2 M 7 0 (M 28 0)) 28 1)) 28 2)) 28 3)) 7 4 ((vm_u2 (vm_u2 (vm_u2 (vm_u2 M 7 0 (M 28 0)) 7 1 ((vm_u2 M 7 0 (M 28 0)) 28 1)) 7 2 ((vm_u2 (vm_u2 M 7 0 (M 28 0)) 7 1 ((vm_u2 M 7 0 (M 28 0)) 28 1)) 28 2)) 7 3 ((vm_u2 (vm_u2 (vm_u2 M 7 0 (M 28 0)) 7 1 ((vm_u2 M 7 0 (M 28 0)) 28 1)) 7 2 ((vm_u2 (vm_u2 M 7 0 (M 28 0)) 7 1 ((vm_u2 M 7 0 (M 28 0)) 28 1)) 28 2)) 28 3)) 28 4)) 28 5)) 29 8 0 0 6) 30 9 0 0 6) _
  refine vm_WM.seq 40 7 (pc' := 90) (L' := [.ref 7, .ref 28]) (S' := [.int (nI 6), .int (nI 0), .ref 10, .int (nI 0), .ref 31]) (M' := (vm_cp (vm_cp (vm_u2 (vm_u2 (vm_u2 (vm_u2 (vm_u2 (vm_u2 M 7 0 (M 28 0)) 7 1 ((vm_u2 M 7 0 (M 28 0)) 28 1)) 7 2 ((vm_u2 (vm_u2 M 7 0 (M 28 0)) 7 1 ((vm_u2 M 7 0 (M 28 0)) 28 1)) 28 2)) 7 3 ((vm_u2 (vm_u2 (vm_u2 M 7 0 (M 28 0)) 7 1 ((vm_u2 M 7 0 (M 28 0)) 28 1)) 7 2 ((vm_u2 (vm_u2 M 7 0 (M 28 0)) 7 1 ((vm_u2 M 7 0 (M 28 0)) 28 1)) 28 2)) 28 3)) 7 4 ((vm_u2 (vm_u2 (vm_u2 (vm_u2 M 7 0 (M 28 0)) 7 1 ((vm_u2 M 7 0 (M 28 0)) 28 1)) 7 2 ((vm_u2 (vm_u2 M 7 0 (M 28 0)) 7 1 ((vm_u2 M 7 0 (M 28 0)) 28 1)) 28 2)) 7 3 ((vm_u2 (vm_u2 (vm_u2 M 7 0 (M 28 0)) 7 1 ((vm_u2 M 7 0 (M 28 0)) 28 1)) 7 2 ((vm_u2 (vm_u2 M 7 0 (M 28 0)) 7 1 ((vm_u2 M 7 0 (M 28 0)) 28 1)) 28 2)) 28 3)) 28 4)) 7 5 ((vm_u2 (vm_u2 (vm_u2 (vm_u2 (vm_u2 M 7 0 (M 28 0)) 7 1 ((vm_u2 M 7 0 (M 28 0)) 28 1)) 7 2 ((vm_u2 (vm_u2 M 7 0 (M 28 0)) 7 1 ((vm_u2 M 7 0 (M 28 0)) 28 1)) 28 2)) 7 3 ((vm_u2 (vm_u2 (vm_u2 M 7 0 (M 28 0)) 7 1 ((vm_u2 M 7 0 (M 28 0)) 28 1)) 7 2 ((vm_u2 (vm_u2 M 7 0 (M 28 0)) 7 1 ((vm_u2 M 7 0 (M 28 0)) 28 1)) 28 2)) 28 3)) 7 4 ((vm_u2 (vm_u2 (vm_u2 (vm_u2 M 7 0 (M 28 0)) 7 1 ((vm_u2 M 7 0 (M 28 0)) 28 1)) 7 2 ((vm_u2 (vm_u2 M 7 0 (M 28 0)) 7 1 ((vm_u2 M 7 0 (M 28 0)) 28 1)) 28 2)) 7 3 ((vm_u2 (vm_u2 (vm_u2 M 7 0 (M 28 0)) 7 1 ((vm_u2 M 7 0 (M 28 0)) 28 1)) 7 2 ((vm_u2 (vm_u2 M 7 0 (M 28 0)) 7 1 ((vm_u2 M 7 0 (M 28 0)) 28 1)) 28 2)) 28 3)) 28 4)) 28 5)) 29 8 0 0 6) 30 9 0 0 6)) rfl ?_
  refine vm_WM.copy (n0 := 6) (n1 := 6) 47 rfl rfl rfl rfl (by decide) (by decide) (by decide) (by decide) (by decide) (Nat.le_of_ble_eq_true rfl) ?_
  show vm_WM X 42 93 [.ref 7, .ref 28] [] (vm_cp (vm_cp (vm_cp (vm_u2 (vm_u2 (vm_u2 (vm_u2 (vm_u2 (vm_u2 M 7 0 (M 28 0)) 7 1 ((vm_u2 M 7 0 (M 28 0)) 28 1)) 7 2 ((vm_u2 (vm_u2 M 7 0 (M 28 0)) 7 1 ((vm_u2 M 7 0 (M 28 0)) 28 1)) 28 2)) 7 3 ((vm_u2 (vm_u2 (vm_u2 M 7 0 (M 28 0)) 7 1 ((vm_u2 M 7 0 (M 28 0)) 28 1)) 7 2 ((vm_u2 (vm_u2 M 7 0 (M 28 0)) 7 1 ((vm_u2 M 7 0 (M 28 0)) 28 1)) 28 2)) 28 3)) 7 4 ((vm_u2 (vm_u2 (vm_u2 (vm_u2 M 7 0 (M 28 0)) 7 1 ((vm_u2 M 7 0 (M 28 0)) 28 1)) 7 2 ((vm_u2 (vm_u2 M 7 0 (M 28 0)) 7 1 ((vm_u2 M 7 0 (M 28 0)) 28 1)) 28 2)) 7 3 ((vm_u2 (vm_u2 (vm_u2 M 7 0 (M 28 0)) 7 1 ((vm_u2 M 7 0 (M 28 0)) 28 1)) 7 2 ((vm_u2 (vm_u2 M 7 0 (M 28 0)) 7 1 ((vm_u2 M 7 0 (M 28 0)) 28 1)) 28 2)) 28 3)) 28 4)) 7 5 ((vm_u2 (vm_u2 (vm_u2 (vm_u2 (vm_u2 M 7 0 (M 28 0)) 7 1 ((vm_u2 M 7 0 (M 28 0)) 28 1)) 7 2 ((vm_u2 (vm_u2 M 7 0 (M 28 0)) 7 1 ((vm_u2 M 7 0 (M 28 0)) 28 1)) 28 2)) 7 3 ((vm_u2 (vm_u2 (vm_u2 M 7 0 (M 28 0)) 7 1 ((vm_u2 M 7 0 (M 28 0)) 28 1)) 7 2 ((vm_u2 (vm_u2 M 7 0 (M 28 0)) 7 1 ((vm_u2 M 7 0 (M 28 0)) 28 1)) 28 2)) 28 3)) 7 4 ((vm_u2 (vm_u2 (vm_u2 (vm_u2 M 7 0 (M 28 0)) 7 1 ((vm_u2 M 7 0 (M 28 0)) 28 1)) 7 2 ((vm_u2 (vm_u2 M 7 0 (M 28 0)) 7 1 ((vm_u2 M 7 0 (M 28 0)) 28 1)) 28 2)) 7 3 ((vm_u2 (vm_u2 (vm_u2 M 7 0 (M 28 0)) 7 1 ((vm_u2 M 7 0 (M 28 0)) 28 1)) 7 2 ((vm_u2 (vm_u2 M 7 0 (M 28 0)) 7 1 ((vm_u2 M 7 0 (M 28 0)) 28 1)) 28 2)) 28 3)) 28 4)) 28 5)) 29 8 0 0 6) 30 9 0 0 6) 31 10 0 0 6) _
  refine vm_WM.seq 48 7 (pc' := 105) (L' := [.ref 7, .ref 28]) (S' := [.int (nI 6), .int (nI 0), .ref 11, .int (nI 0), .ref 32]) (M' := (vm_cp (vm_cp (vm_cp (vm_u2 (vm_u2 (vm_u2 (vm_u2 (vm_u2 (vm_u2 M 7 0 (M 28 0)) 7 1 ((vm_u2 M 7 0 (M 28 0)) 28 1)) 7 2 ((vm_u2 (vm_u2 M 7 0 (M 28 0)) 7 1 ((vm_u2 M 7 0 (M 28 0)) 28 1)) 28 2)) 7 3 ((vm_u2 (vm_u2 (vm_u2 M 7 0 (M 28 0)) 7 1 ((vm_u2 M 7 0 (M 28 0)) 28 1)) 7 2 ((vm_u2 (vm_u2 M 7 0 (M 28 0)) 7 1 ((vm_u2 M 7 0 (M 28 0)) 28 1)) 28 2)) 28 3)) 7 4 ((vm_u2 (vm_u2 (vm_u2 (vm_u2 M 7 0 (M 28 0)) 7 1 ((vm_u2 M 7 0 (M 28 0)) 28 1)) 7 2 ((vm_u2 (vm_u2 M 7 0 (M 28 0)) 7 1 ((vm_u2 M 7 0 (M 28 0)) 28 1)) 28 2)) 7 3 ((vm_u2 (vm_u2 (vm_u2 M 7 0 (M 28 0)) 7 1 ((vm_u2 M 7 0 (M 28 0)) 28 1)) 7 2 ((vm_u2 (vm_u2 M 7 0 (M 28 0)) 7 1 ((vm_u2 M 7 0 (M 28 0)) 28 1)) 28 2)) 28 3)) 28 4)) 7 5 ((vm_u2 (vm_u2 (vm_u2 (vm_u2 (vm_u2 M 7 0 (M 28 0)) 7 1 ((vm_u2 M 7 0 (M 28 0)) 28 1)) 7 2 ((vm_u2 (vm_u2 M 7 0 (M 28 0)) 7 1 ((vm_u2 M 7 0 (M 28 0)) 28 1)) 28 2)) 7 3 ((vm_u2 (vm_u2 (vm_u2 M 7 0 (M 28 0)) 7 1 ((vm_u2 M 7 0 (M 28 0)) 28 1)) 7 2 ((vm_u2 (vm_u2 M 7 0 (M 28 0)) 7 1 ((vm_u2 M 7 0 (M 28 0)) 28 1)) 28 2)) 28 3)) 7 4 ((vm_u2 (vm_u2 (vm_u2 (vm_u2 M 7 0 (M 28 0)) 7 1 ((vm_u2 M 7 0 (M 28 0)) 28 1)) 7 2 ((vm_u2 (vm_u2 M 7 0 (M 28 0)) 7 1 ((vm_u2 M 7 0 (M 28 0)) 28 1)) 28 2)) 7 3 ((vm_u2 (vm_u2 (vm_u2 M 7 0 (M 28 0)) 7 1 ((vm_u2 M 7 0 (M 28 0)) 28 1)) 7 2 ((vm_u2 (vm_u2 M 7 0 (M 28 0)) 7 1 ((vm_u2 M 7 0 (M 28 0)) 28 1)) 28 2)) 28 3)) 28 4)) 28 5)) 29 8 0 0 6) 30 9 0 0 6) 31 10 0 0 6)) rfl ?_
  refine vm_WM.copy (n0 := 6) (n1 := 6) 55 rfl rfl rfl rfl (by decide) (by decide) (by decide) (by decide) (by decide) (Nat.le_of_ble_eq_true rfl) ?_
  show vm_WM X 42 108 [.ref 7, .ref 28] [] (vm_cp (vm_cp (vm_cp (vm_cp (vm_u2 (vm_u2 (vm_u2 (vm_u2 (vm_u2 (vm_u2 M 7 0 (M 28 0)) 7 1 ((vm_u2 M 7 0 (M 28 0)) 28 1)) 7 2 ((vm_u2 (vm_u2 M 7 0 (M 28 0)) 7 1 ((vm_u2 M 7 0 (M 28 0)) 28 1)) 28 2)) 7 3 ((vm_u2 (vm_u2 (vm_u2 M 7 0 (M 28 0)) 7 1 ((vm_u2 M 7 0 (M 28 0)) 28 1)) 7 2 ((vm_u2 (vm_u2 M 7 0 (M 28 0)) 7 1 ((vm_u2 M 7 0 (M 28 0)) 28 1)) 28 2)) 28 3)) 7 4 ((vm_u2 (vm_u2 (vm_u2 (vm_u2 M 7 0 (M 28 0)) 7 1 ((vm_u2 M 7 0 (M 28 0)) 28 1)) 7 2 ((vm_u2 (vm_u2 M 7 0 (M 28 0)) 7 1 ((vm_u2 M 7 0 (M 28 0)) 28 1)) 28 2)) 7 3 ((vm_u2 (vm_u2 (vm_u2 M 7 0 (M 28 0)) 7 1 ((vm_u2 M 7 0 (M 28 0)) 28 1)) 7 2 ((vm_u2 (vm_u2 M 7 0 (M 28 0)) 7 1 ((vm_u2 M 7 0 (M 28 0)) 28 1)) 28 2)) 28 3)) 28 4)) 7 5 ((vm_u2 (vm_u2 (vm_u2 (vm_u2 (vm_u2 M 7 0 (M 28 0)) 7 1 ((vm_u2 M 7 0 (M 28 0)) 28 1)) 7 2 ((vm_u2 (vm_u2 M 7 0 (M 28 0)) 7 1 ((vm_u2 M 7 0 (M 28 0)) 28 1)) 28 2)) 7 3 ((vm_u2 (vm_u2 (vm_u2 M 7 0 (M 28 0)) 7 1 ((vm_u2 M 7 0 (M 28 0)) 28 1)) 7 2 ((vm_u2 (vm_u2 M 7 0 (M 28 0)) 7 1 ((vm_u2 M 7 0 (M 28 0)) 28 1)) 28 2)) 28 3)) 7 4 ((vm_u2 (vm_u2 (vm_u2 (vm_u2 M 7 0 (M 28 0)) 7 1 ((vm_u2 M 7 0 (M 28 0)) 28 1)) 7 2 ((vm_u2 (vm_u2 M 7 0 (M 28 0)) 7 1 ((vm_u2 M 7 0 (M 28 0)) 28 1)) 28 2)) 7 3 ((vm_u2 (vm_u2 (vm_u2 M 7 0 (M 28 0)) 7 1 ((vm_u2 M 7 0 (M 28 0)) 28 1)) 7 2 ((vm_u2 (vm_u2 M 7 0 (M 28 0)) 7 1 ((vm_u2 M 7 0 (M 28 0)) 28 1)) 28 2)) 28 3)) 28 4)) 28 5)) 29 8 0 0 6) 30 9 0 0 6) 31 10 0 0 6) 32 11 0 0 6) _
  refine vm_WM.seq 56 7 (pc' := 120) (L' := [.ref 7, .ref 28]) (S' := [.int (nI 36), .int (nI 0), .ref 12, .int (nI 0), .ref 33]) (M' := (vm_cp (vm_cp (vm_cp (vm_cp (vm_u2 (vm_u2 (vm_u2 (vm_u2 (vm_u2 (vm_u2 M 7 0 (M 28 0)) 7 1 ((vm_u2 M 7 0 (M 28 0)) 28 1)) 7 2 ((vm_u2 (vm_u2 M 7 0 (M 28 0)) 7 1 ((vm_u2 M 7 0 (M 28 0)) 28 1)) 28 2)) 7 3 ((vm_u2 (vm_u2 (vm_u2 M 7 0 (M 28 0)) 7 1 ((vm_u2 M 7 0 (M 28 0)) 28 1)) 7 2 ((vm_u2 (vm_u2 M 7 0 (M 28 0)) 7 1 ((vm_u2 M 7 0 (M 28 0)) 28 1)) 28 2)) 28 3)) 7 4 ((vm_u2 (vm_u2 (vm_u2 (vm_u2 M 7 0 (M 28 0)) 7 1 ((vm_u2 M 7 0 (M 28 0)) 28 1)) 7 2 ((vm_u2 (vm_u2 M 7 0 (M 28 0)) 7 1 ((vm_u2 M 7 0 (M 28 0)) 28 1)) 28 2)) 7 3 ((vm_u2 (vm_u2 (vm_u2 M 7 0 (M 28 0)) 7 1 ((vm_u2 M 7 0 (M 28 0)) 28 1)) 7 2 ((vm_u2 (vm_u2 M 7 0 (M 28 0)) 7 1 ((vm_u2 M 7 0 (M 28 0)) 28 1)) 28 2)) 28 3)) 28 4)) 7 5 ((vm_u2 (vm_u2 (vm_u2 (vm_u2 (vm_u2 M 7 0 (M 28 0)) 7 1 ((vm_u2 M 7 0 (M 28 0)) 28 1)) 7 2 ((vm_u2 (vm_u2 M 7 0 (M 28 0)) 7 1 ((vm_u2 M 7 0 (M 28 0)) 28 1)) 28 2)) 7 3 ((vm_u2 (vm_u2 (vm_u2 M 7 0 (M 28 0)) 7 1 ((vm_u2 M 7 0 (M 28 0)) 28 1)) 7 2 ((vm_u2 (vm_u2 M 7 0 (M 28 0)) 7 1 ((vm_u2 M 7 0 (M 28 0)) 28 1)) 28 2)) 28 3)) 7 4 ((vm_u2 (vm_u2 (vm_u2 (vm_u2 M 7 0 (M 28 0)) 7 1 ((vm_u2 M 7 0 (M 28 0)) 28 1)) 7 2 ((vm_u2 (vm_u2 M 7 0 (M 28 0)) 7 1 ((vm_u2 M 7 0 (M 28 0)) 28 1)) 28 2)) 7 3 ((vm_u2 (vm_u2 (vm_u2 M 7 0 (M 28 0)) 7 1 ((vm_u2 M 7 0 (M 28 0)) 28 1)) 7 2 ((vm_u2 (vm_u2 M 7 0 (M 28 0)) 7 1 ((vm_u2 M 7 0 (M 28 0)) 28 1)) 28 2)) 28 3)) 28 4)) 28 5)) 29 8 0 0 6) 30 9 0 0 6) 31 10 0 0 6) 32 11 0 0 6)) rfl ?_
  refine vm_WM.copy (n0 := 36) (n1 := 36) 63 rfl rfl rfl rfl (by decide) (by decide) (by decide) (by decide) (by decide) (Nat.le_of_ble_eq_true rfl) ?_
  show vm_WM X 42 123 [.ref 7, .ref 28] [] (vm_cp (vm_cp (vm_cp (vm_cp (vm_cp (vm_u2 (vm_u2 (vm_u2 (vm_u2 (vm_u2 (vm_u2 M 7 0 (M 28 0)) 7 1 ((vm_u2 M 7 0 (M 28 0)) 28 1)) 7 2 ((vm_u2 (vm_u2 M 7 0 (M 28 0)) 7 1 ((vm_u2 M 7 0 (M 28 0)) 28 1)) 28 2)) 7 3 ((vm_u2 (vm_u2 (vm_u2 M 7 0 (M 28 0)) 7 1 ((vm_u2 M 7 0 (M 28 0)) 28 1)) 7 2 ((vm_u2 (vm_u2 M 7 0 (M 28 0)) 7 1 ((vm_u2 M 7 0 (M 28 0)) 28 1)) 28 2)) 28 3)) 7 4 ((vm_u2 (vm_u2 (vm_u2 (vm_u2 M 7 0 (M 28 0)) 7 1 ((vm_u2 M 7 0 (M 28 0)) 28 1)) 7 2 ((vm_u2 (vm_u2 M 7 0 (M 28 0)) 7 1 ((vm_u2 M 7 0 (M 28 0)) 28 1)) 28 2)) 7 3 ((vm_u2 (vm_u2 (vm_u2 M 7 0 (M 28 0)) 7 1 ((vm_u2 M 7 0 (M 28 0)) 28 1)) 7 2 ((vm_u2 (vm_u2 M 7 0 (M 28 0)) 7 1 ((vm_u2 M 7 0 (M 28 0)) 28 1)) 28 2)) 28 3)) 28 4)) 7 5 ((vm_u2 (vm_u2 (vm_u2 (vm_u2 (vm_u2 M 7 0 (M 28 0)) 7 1 ((vm_u2 M 7 0 (M 28 0)) 28 1)) 7 2 ((vm_u2 (vm_u2 M 7 0 (M 28 0)) 7 1 ((vm_u2 M 7 0 (M 28 0)) 28 1)) 28 2)) 7 3 ((vm_u2 (vm_u2 (vm_u2 M 7 0 (M 28 0)) 7 1 ((vm_u2 M 7 0 (M 28 0)) 28 1)) 7 2 ((vm_u2 (vm_u2 M 7 0 (M 28 0)) 7 1 ((vm_u2 M 7 0 (M 28 0)) 28 1)) 28 2)) 28 3)) 7 4 ((vm_u2 (vm_u2 (vm_u2 (vm_u2 M 7 0 (M 28 0)) 7 1 ((vm_u2 M 7 0 (M 28 0)) 28 1)) 7 2 ((vm_u2 (vm_u2 M 7 0 (M 28 0)) 7 1 ((vm_u2 M 7 0 (M 28 0)) 28 1)) 28 2)) 7 3 ((vm_u2 (vm_u2 (vm_u2 M 7 0 (M 28 0)) 7 1 ((vm_u2 M 7 0 (M 28 0)) 28 1)) 7 2 ((vm_u2 (vm_u2 M 7 0 (M 28 0)) 7 1 ((vm_u2 M 7 0 (M 28 0)) 28 1)) 28 2)) 28 3)) 28 4)) 28 5)) 29 8 0 0 6) 30 9 0 0 6) 31 10 0 0 6) 32 11 0 0 6) 33 12 0 0 36) _
  refine vm_WM.seq 64 7 (pc' := 135) (L' := [.ref 7, .ref 28]) (S' := [.int (nI 36), .int (nI 0), .ref 13, .int (nI 0), .ref 34]) (M' := (vm_cp (vm_cp (vm_cp (vm_cp (vm_cp (vm_u2 (vm_u2 (vm_u2 (vm_u2 (vm_u2 (vm_u2 M 7 0 (M 28 0)) 7 1 ((vm_u2 M 7 0 (M 28 0)) 28 1)) 7 2 ((vm_u2 (vm_u2 M 7 0 (M 28 0)) 7 1 ((vm_u2 M 7 0 (M 28 0)) 28 1)) 28 2)) 7 3 ((vm_u2 (vm_u2 (vm_u2 M 7 0 (M 28 0)) 7 1 ((vm_u2 M 7 0 (M 28 0)) 28 1)) 7 2 ((vm_u2 (vm_u2 M 7 0 (M 28 0)) 7 1 ((vm_u2 M 7 0 (M 28 0)) 28 1)) 28 2)) 28 3)) 7 4 ((vm_u2 (vm_u2 (vm_u2 (vm_u2 M 7 0 (M 28 0)) 7 1 ((vm_u2 M 7 0 (M 28 0)) 28 1)) 7 2 ((vm_u2 (vm_u2 M 7 0 (M 28 0)) 7 1 ((vm_u2 M 7 0 (M 28 0)) 28 1)) 28 2)) 7 3 ((vm_u2 (vm_u2 (vm_u2 M 7 0 (M 28 0)) 7 1 ((vm_u2 M 7 0 (M 28 0)) 28 1)) 7 2 ((vm_u2 (vm_u2 M 7 0 (M 28 0)) 7 1 ((vm_u2 M 7 0 (M 28 0)) 28 1)) 28 2)) 28 3)) 28 4)) 7 5 ((vm_u2 (vm_u2 (vm_u2 (vm_u2 (vm_u2 M 7 0 (M 28 0)) 7 1 ((vm_u2 M 7 0 (M 28 0)) 28 1)) 7 2 ((vm_u2 (vm_u2 M 7 0 (M 28 0)) 7 1 ((vm_u2 M 7 0 (M 28 0)) 28 1)) 28 2)) 7 3 ((vm_u2 (vm_u2 (vm_u2 M 7 0 (M 28 0)) 7 1 ((vm_u2 M 7 0 (M 28 0)) 28 1)) 7 2 ((vm_u2 (vm_u2 M 7 0 (M 28 0)) 7 1 ((vm_u2 M 7 0 (M 28 0)) 28 1)) 28 2)) 28 3)) 7 4 ((vm_u2 (vm_u2 (vm_u2 (vm_u2 M 7 0 (M 28 0)) 7 1 ((vm_u2 M 7 0 (M 28 0)) 28 1)) 7 2 ((vm_u2 (vm_u2 M 7 0 (M 28 0)) 7 1 ((vm_u2 M 7 0 (M 28 0)) 28 1)) 28 2)) 7 3 ((vm_u2 (vm_u2 (vm_u2 M 7 0 (M 28 0)) 7 1 ((vm_u2 M 7 0 (M 28 0)) 28 1)) 7 2 ((vm_u2 (vm_u2 M 7 0 (M 28 0)) 7 1 ((vm_u2 M 7 0 (M 28 0)) 28 1)) 28 2)) 28 3)) 28 4)) 28 5)) 29 8 0 0 6) 30 9 0 0 6) 31 10 0 0 6) 32 11 0 0 6) 33 12 0 0 36)) rfl ?_
  refine vm_WM.copy (n0 := 36) (n1 := 36) 71 rfl rfl rfl rfl (by decide) (by decide) (by decide) (by decide) (by decide) (Nat.le_of_ble_eq_true rfl) ?_
  show vm_WM X 42 138 [.ref 7, .ref 28] [] (vm_cp (vm_cp (vm_cp (vm_cp (vm_cp (vm_cp (vm_u2 (vm_u2 (vm_u2 (vm_u2 (vm_u2 (vm_u2 M 7 0 (M 28 0)) 7 1 ((vm_u2 M 7 0 (M 28 0)) 28 1)) 7 2 ((vm_u2 (vm_u2 M 7 0 (M 28 0)) 7 1 ((vm_u2 M 7 0 (M 28 0)) 28 1)) 28 2)) 7 3 ((vm_u2 (vm_u2 (vm_u2 M 7 0 (M 28 0)) 7 1 ((vm_u2 M 7 0 (M 28 0)) 28 1)) 7 2 ((vm_u2 (vm_u2 M 7 0 (M 28 0)) 7 1 ((vm_u2 M 7 0 (M 28 0)) 28 1)) 28 2)) 28 3)) 7 4 ((vm_u2 (vm_u2 (vm_u2 (vm_u2 M 7 0 (M 28 0)) 7 1 ((vm_u2 M 7 0 (M 28 0)) 28 1)) 7 2 ((vm_u2 (vm_u2 M 7 0 (M 28 0)) 7 1 ((vm_u2 M 7 0 (M 28 0)) 28 1)) 28 2)) 7 3 ((vm_u2 (vm_u2 (vm_u2 M 7 0 (M 28 0)) 7 1 ((vm_u2 M 7 0 (M 28 0)) 28 1)) 7 2 ((vm_u2 (vm_u2 M 7 0 (M 28 0)) 7 1 ((vm_u2 M 7 0 (M 28 0)) 28 1)) 28 2)) 28 3)) 28 4)) 7 5 ((vm_u2 (vm_u2 (vm_u2 (vm_u2 (vm_u2 M 7 0 (M 28 0)) 7 1 ((vm_u2 M 7 0 (M 28 0)) 28 1)) 7 2 ((vm_u2 (vm_u2 M 7 0 (M 28 0)) 7 1 ((vm_u2 M 7 0 (M 28 0)) 28 1)) 28 2)) 7 3 ((vm_u2 (vm_u2 (vm_u2 M 7 0 (M 28 0)) 7 1 ((vm_u2 M 7 0 (M 28 0)) 28 1)) 7 2 ((vm_u2 (vm_u2 M 7 0 (M 28 0)) 7 1 ((vm_u2 M 7 0 (M 28 0)) 28 1)) 28 2)) 28 3)) 7 4 ((vm_u2 (vm_u2 (vm_u2 (vm_u2 M 7 0 (M 28 0)) 7 1 ((vm_u2 M 7 0 (M 28 0)) 28 1)) 7 2 ((vm_u2 (vm_u2 M 7 0 (M 28 0)) 7 1 ((vm_u2 M 7 0 (M 28 0)) 28 1)) 28 2)) 7 3 ((vm_u2 (vm_u2 (vm_u2 M 7 0 (M 28 0)) 7 1 ((vm_u2 M 7 0 (M 28 0)) 28 1)) 7 2 ((vm_u2 (vm_u2 M 7 0 (M 28 0)) 7 1 ((vm_u2 M 7 0 (M 28 0)) 28 1)) 28 2)) 28 3)) 28 4)) 28 5)) 29 8 0 0 6) 30 9 0 0 6) 31 10 0 0 6) 32 11 0 0 6) 33 12 0 0 36) 34 13 0 0 36) _
  exact vm_WM.ret (r := none) 72 rfl rfl rfl ⟨rfl, h⟩
theorem v_B_isOne {X : Nat × (Nat → Int32)} {a0 : Int32} {a1 : Int32} {M : vm_M} {P : Int32 → vm_M → Prop} (h : ((a1).toInt < 0 ∨ 4 < (a1).toInt → ((a0 = a1 → (P (nI 1) M)) ∧ (¬ (a0 = a1) → (P (nI 0) M)))) ∧ ((a1 = (nI 0) → (P (nI 1) M)) ∧ (a1 = (nI 1) → ((a0 = (nI 1) → (P (nI 1) M)) ∧ (¬ (a0 = (nI 1)) → ((a0 = (nI 2) → (P (nI 1) M)) ∧ (¬ (a0 = (nI 2)) → ((a0 = (nI 3) → (P (nI 1) M)) ∧ (¬ (a0 = (nI 3)) → (P (nI 0) M)))))))) ∧ (a1 = (nI 2) → ((a0 = a1 → (P (nI 1) M)) ∧ (¬ (a0 = a1) → (P (nI 0) M)))) ∧ (a1 = (nI 3) → ((a0 = a1 → (P (nI 1) M)) ∧ (¬ (a0 = a1) → (P (nI 0) M)))) ∧ (a1 = (nI 4) → ((a0 = (nI 4) → (P (nI 1) M)) ∧ (¬ (a0 = (nI 4)) → ((a0 = (nI 5) → (P (nI 1) M)) ∧ (¬ (a0 = (nI 5)) → (P (nI 0) M)))))))) : E_B_isOne X a0 a1 M P := by
  unfold E_B_isOne
  refine vm_WM.seq 0 1 (pc' := 1) (L' := [.int a0, .int a1]) (S' := [.int a1]) (M' := M) rfl ?_
  by_cases hlo : (a1).toInt < 0 ∨ 4 < (a1).toInt
  · replace h := h.1 hlo
    refine vm_WM.tso (t := 75) 1 rfl hlo rfl ?_
    refine vm_WM.seq 27 2 (pc' := 77) (L' := [.int a0, .int a1]) (S' := [.int a1, .int a0]) (M' := M) rfl ?_
    refine vm_WM.if (c := a0 = a1) (t1 := 80) (t2 := 84) (S' := []) 29 rfl rfl rfl (fun hc => ?_) (fun hc => ?_)
    · replace h := h.1 hc
      refine vm_WM.seq 30 2 (pc' := 85) (L' := [.int a0, .int a1]) (S' := [.int (nI 1)]) (M' := M) rfl ?_
      exact vm_WM.ret (r := some (.int (nI 1))) 33 rfl rfl rfl ⟨_, rfl, h⟩
    · replace h := h.2 hc
      refine vm_WM.seq 32 1 (pc' := 85) (L' := [.int a0, .int a1]) (S' := [.int (nI 0)]) (M' := M) rfl ?_
      exact vm_WM.ret (r := some (.int (nI 0))) 33 rfl rfl rfl ⟨_, rfl, h⟩
  · replace h := h.2
    by_cases hq0 : a1 = (nI 0)
    · replace h := h.1 hq0
      refine vm_WM.tsi (t := 36) (v := 0) 1 rfl hq0 (by decide) rfl ?_
      refine vm_WM.seq 2 1 (pc' := 37) (L' := [.int a0, .int a1]) (S' := [.int (nI 1)]) (M' := M) rfl ?_
      exact vm_WM.ret (r := some (.int (nI 1))) 3 rfl rfl rfl ⟨_, rfl, h⟩
    by_cases hq1 : a1 = (nI 1)
    · replace h := h.2.1 hq1
      refine vm_WM.tsi (t := 38) (v := 1) 1 rfl hq1 (by decide) rfl ?_
      refine vm_WM.seq 4 2 (pc' := 40) (L' := [.int a0, .int a1]) (S' := [.int (nI 1), .int a0]) (M' := M) rfl ?_
      refine vm_WM.if (c := a0 = (nI 1)) (t1 := 53) (t2 := 43) (S' := []) 6 rfl rfl rfl (fun hc => ?_) (fun hc => ?_)
      · replace h := h.1 hc
        refine vm_WM.seq 13 2 (pc' := 58) (L' := [.int a0, .int a1]) (S' := [.int (nI 1)]) (M' := M) rfl ?_
        exact vm_WM.ret (r := some (.int (nI 1))) 16 rfl rfl rfl ⟨_, rfl, h⟩
      · replace h := h.2 hc
        refine vm_WM.seq 7 2 (pc' := 45) (L' := [.int a0, .int a1]) (S' := [.int (nI 2), .int a0]) (M' := M) rfl ?_
        refine vm_WM.if (c := a0 = (nI 2)) (t1 := 53) (t2 := 48) (S' := []) 9 rfl rfl rfl (fun hc => ?_) (fun hc => ?_)
        · replace h := h.1 hc
          refine vm_WM.seq 13 2 (pc' := 58) (L' := [.int a0, .int a1]) (S' := [.int (nI 1)]) (M' := M) rfl ?_
          exact vm_WM.ret (r := some (.int (nI 1))) 16 rfl rfl rfl ⟨_, rfl, h⟩
        · replace h := h.2 hc
          refine vm_WM.seq 10 2 (pc' := 50) (L' := [.int a0, .int a1]) (S' := [.int (nI 3), .int a0]) (M' := M) rfl ?_
          refine vm_WM.if (c := a0 = (nI 3)) (t1 := 53) (t2 := 57) (S' := []) 12 rfl rfl rfl (fun hc => ?_) (fun hc => ?_)
          · replace h := h.1 hc
            refine vm_WM.seq 13 2 (pc' := 58) (L' := [.int a0, .int a1]) (S' := [.int (nI 1)]) (M' := M) rfl ?_
            exact vm_WM.ret (r := some (.int (nI 1))) 16 rfl rfl rfl ⟨_, rfl, h⟩
          · replace h := h.2 hc
            refine vm_WM.seq 15 1 (pc' := 58) (L' := [.int a0, .int a1]) (S' := [.int (nI 0)]) (M' := M) rfl ?_
            exact vm_WM.ret (r := some (.int (nI 0))) 16 rfl rfl rfl ⟨_, rfl, h⟩
    by_cases hq2 : a1 = (nI 2)
    · replace h := h.2.2.1 hq2
      refine vm_WM.tsi (t := 75) (v := 2) 1 rfl hq2 (by decide) rfl ?_
      refine vm_WM.seq 27 2 (pc' := 77) (L' := [.int a0, .int a1]) (S' := [.int a1, .int a0]) (M' := M) rfl ?_
      refine vm_WM.if (c := a0 = a1) (t1 := 80) (t2 := 84) (S' := []) 29 rfl rfl rfl (fun hc => ?_) (fun hc => ?_)
      · replace h := h.1 hc
        refine vm_WM.seq 30 2 (pc' := 85) (L' := [.int a0, .int a1]) (S' := [.int (nI 1)]) (M' := M) rfl ?_
        exact vm_WM.ret (r := some (.int (nI 1))) 33 rfl rfl rfl ⟨_, rfl, h⟩
      · replace h := h.2 hc
        refine vm_WM.seq 32 1 (pc' := 85) (L' := [.int a0, .int a1]) (S' := [.int (nI 0)]) (M' := M) rfl ?_
        exact vm_WM.ret (r := some (.int (nI 0))) 33 rfl rfl rfl ⟨_, rfl, h⟩
    by_cases hq3 : a1 = (nI 3)
    · replace h := h.2.2.2.1 hq3
      refine vm_WM.tsi (t := 75) (v := 3) 1 rfl hq3 (by decide) rfl ?_
      refine vm_WM.seq 27 2 (pc' := 77) (L' := [.int a0, .int a1]) (S' := [.int a1, .int a0]) (M' := M) rfl ?_
      refine vm_WM.if (c := a0 = a1) (t1 := 80) (t2 := 84) (S' := []) 29 rfl rfl rfl (fun hc => ?_) (fun hc => ?_)
      · replace h := h.1 hc
        refine vm_WM.seq 30 2 (pc' := 85) (L' := [.int a0, .int a1]) (S' := [.int (nI 1)]) (M' := M) rfl ?_
        exact vm_WM.ret (r := some (.int (nI 1))) 33 rfl rfl rfl ⟨_, rfl, h⟩
      · replace h := h.2 hc
        refine vm_WM.seq 32 1 (pc' := 85) (L' := [.int a0, .int a1]) (S' := [.int (nI 0)]) (M' := M) rfl ?_
        exact vm_WM.ret (r := some (.int (nI 0))) 33 rfl rfl rfl ⟨_, rfl, h⟩
    by_cases hq4 : a1 = (nI 4)
    · replace h := h.2.2.2.2 hq4
      refine vm_WM.tsi (t := 59) (v := 4) 1 rfl hq4 (by decide) rfl ?_
      refine vm_WM.seq 17 2 (pc' := 61) (L' := [.int a0, .int a1]) (S' := [.int (nI 4), .int a0]) (M' := M) rfl ?_
      refine vm_WM.if (c := a0 = (nI 4)) (t1 := 69) (t2 := 64) (S' := []) 19 rfl rfl rfl (fun hc => ?_) (fun hc => ?_)
      · replace h := h.1 hc
        refine vm_WM.seq 23 2 (pc' := 74) (L' := [.int a0, .int a1]) (S' := [.int (nI 1)]) (M' := M) rfl ?_
        exact vm_WM.ret (r := some (.int (nI 1))) 26 rfl rfl rfl ⟨_, rfl, h⟩
      · replace h := h.2 hc
        refine vm_WM.seq 20 2 (pc' := 66) (L' := [.int a0, .int a1]) (S' := [.int (nI 5), .int a0]) (M' := M) rfl ?_
        refine vm_WM.if (c := a0 = (nI 5)) (t1 := 69) (t2 := 73) (S' := []) 22 rfl rfl rfl (fun hc => ?_) (fun hc => ?_)
        · replace h := h.1 hc
          refine vm_WM.seq 23 2 (pc' := 74) (L' := [.int a0, .int a1]) (S' := [.int (nI 1)]) (M' := M) rfl ?_
          exact vm_WM.ret (r := some (.int (nI 1))) 26 rfl rfl rfl ⟨_, rfl, h⟩
        · replace h := h.2 hc
          refine vm_WM.seq 25 1 (pc' := 74) (L' := [.int a0, .int a1]) (S' := [.int (nI 0)]) (M' := M) rfl ?_
          exact vm_WM.ret (r := some (.int (nI 0))) 26 rfl rfl rfl ⟨_, rfl, h⟩
    exact absurd (vm_sw_no (lo := 0) (n := 5) (by decide) (fun q hq => by
      match q, hq with
      | 0, _ => exact hq0
      | 1, _ => exact hq1
      | 2, _ => exact hq2
      | 3, _ => exact hq3
      | 4, _ => exact hq4
      | q + 5, hq => omega)) hlo
theorem v_Asks_size {X : Nat × (Nat → Int32)} {a1 : Int32} {M : vm_M} {P : Int32 → vm_M → Prop} (h : ∃ j1 : Nat, a1 = nI j1 ∧ j1 < 6 ∧ (E_B_isOne X (M 8 j1) (nI 1) M (fun v2 M3 => (v2 = 0 → (E_Asks_priestSize X a1 M3 (fun v4 M5 => P v4 M5))) ∧ (¬ (v2 = 0) → (E_Asks_bakerSize X a1 M3 (fun v6 M7 => P v6 M7)))))) : E_Asks_size X a1 M P := by
  unfold E_Asks_size
  refine vm_WM.seq 0 4 (pc' := 8) (L' := [.ref 46, .int a1]) (S' := [.int a1, .ref 8]) (M' := M) rfl ?_
  obtain ⟨j1, hj1, hj2, h⟩ := h
  refine vm_WM.ald (n := 6) (jj := j1) 4 rfl (Or.inl ⟨rfl, rfl⟩) (by decide) rfl hj1 hj2 ?_
  refine vm_WM.seq 5 1 (pc' := 10) (L' := [.ref 46, .int a1]) (S' := [.int (nI 1), .int (M 8 j1)]) (M' := M) rfl ?_
  refine vm_WM.call (a := 106) (as := [.int (M 8 j1), .int (nI 1)]) (rest := []) (L0 := [.int (M 8 j1), .int (nI 1)]) 6 rfl rfl (by decide) rfl rfl ⟨rfl, Or.inl rfl, Nat.le_of_ble_eq_true rfl, Nat.le_of_ble_eq_true rfl⟩ rfl rfl rfl ?_
  refine vm_WM.theni h (fun v2 M3 h => ?_)
  show vm_WM X 11 13 [.ref 46, .int a1] [.int v2] M3 _
  refine vm_WM.if (c := v2 = 0) (t1 := 24) (t2 := 16) (S' := []) 7 rfl rfl rfl (fun hc => ?_) (fun hc => ?_)
  · replace h := h.1 hc
    refine vm_WM.seq 12 2 (pc' := 26) (L' := [.ref 46, .int a1]) (S' := [.int a1, .ref 46]) (M' := M3) rfl ?_
    refine vm_WM.call (a := 15) (as := [.ref 46, .int a1]) (rest := []) (L0 := [.ref 46, .int a1, .null, .null]) 14 rfl rfl (by decide) rfl rfl ⟨rfl, Or.inr rfl, Nat.le_of_ble_eq_true rfl, Nat.le_of_ble_eq_true rfl⟩ rfl rfl rfl ?_
    refine vm_WM.theni h (fun v4 M5 h => ?_)
    show vm_WM X 11 29 [.ref 46, .int a1] [.int v4] M5 _
    exact vm_WM.ret (r := some (.int v4)) 15 rfl rfl rfl ⟨_, rfl, h⟩
  · replace h := h.2 hc
    refine vm_WM.seq 8 2 (pc' := 18) (L' := [.ref 46, .int a1]) (S' := [.int a1, .ref 46]) (M' := M3) rfl ?_
    refine vm_WM.call (a := 13) (as := [.ref 46, .int a1]) (rest := []) (L0 := [.ref 46, .int a1, .null, .null]) 10 rfl rfl (by decide) rfl rfl ⟨rfl, Or.inr rfl, Nat.le_of_ble_eq_true rfl, Nat.le_of_ble_eq_true rfl⟩ rfl rfl rfl ?_
    refine vm_WM.theni h (fun v6 M7 h => ?_)
    show vm_WM X 11 21 [.ref 46, .int a1] [.int v6] M7 _
    refine vm_WM.seq 11 1 (pc' := 29) (L' := [.ref 46, .int a1]) (S' := [.int v6]) (M' := M7) rfl ?_
    exact vm_WM.ret (r := some (.int v6)) 15 rfl rfl rfl ⟨_, rfl, h⟩
theorem v_Asks_mark {X : Nat × (Nat → Int32)} {a1 : Int32} {M : vm_M} {P : Int32 → vm_M → Prop} (h : ∃ j1 : Nat, a1 = nI j1 ∧ j1 < 6 ∧ (E_B_isOne X (M 8 j1) (nI 1) M (fun v2 M3 => (v2 = 0 → (E_Asks_priestMark X a1 M3 (fun v4 M5 => P v4 M5))) ∧ (¬ (v2 = 0) → (E_Asks_bakerMark X a1 M3 (fun v6 M7 => P v6 M7)))))) : E_Asks_mark X a1 M P := by
  unfold E_Asks_mark
  refine vm_WM.seq 0 4 (pc' := 8) (L' := [.ref 46, .int a1]) (S' := [.int a1, .ref 8]) (M' := M) rfl ?_
  obtain ⟨j1, hj1, hj2, h⟩ := h
  refine vm_WM.ald (n := 6) (jj := j1) 4 rfl (Or.inl ⟨rfl, rfl⟩) (by decide) rfl hj1 hj2 ?_
  refine vm_WM.seq 5 1 (pc' := 10) (L' := [.ref 46, .int a1]) (S' := [.int (nI 1), .int (M 8 j1)]) (M' := M) rfl ?_
  refine vm_WM.call (a := 106) (as := [.int (M 8 j1), .int (nI 1)]) (rest := []) (L0 := [.int (M 8 j1), .int (nI 1)]) 6 rfl rfl (by decide) rfl rfl ⟨rfl, Or.inl rfl, Nat.le_of_ble_eq_true rfl, Nat.le_of_ble_eq_true rfl⟩ rfl rfl rfl ?_
  refine vm_WM.theni h (fun v2 M3 h => ?_)
  show vm_WM X 12 13 [.ref 46, .int a1] [.int v2] M3 _
  refine vm_WM.if (c := v2 = 0) (t1 := 24) (t2 := 16) (S' := []) 7 rfl rfl rfl (fun hc => ?_) (fun hc => ?_)
  · replace h := h.1 hc
    refine vm_WM.seq 12 2 (pc' := 26) (L' := [.ref 46, .int a1]) (S' := [.int a1, .ref 46]) (M' := M3) rfl ?_
    refine vm_WM.call (a := 16) (as := [.ref 46, .int a1]) (rest := []) (L0 := [.ref 46, .int a1]) 14 rfl rfl (by decide) rfl rfl ⟨rfl, Or.inr rfl, Nat.le_of_ble_eq_true rfl, Nat.le_of_ble_eq_true rfl⟩ rfl rfl rfl ?_
    refine vm_WM.theni h (fun v4 M5 h => ?_)
    show vm_WM X 12 29 [.ref 46, .int a1] [.int v4] M5 _
    exact vm_WM.ret (r := some (.int v4)) 15 rfl rfl rfl ⟨_, rfl, h⟩
  · replace h := h.2 hc
    refine vm_WM.seq 8 2 (pc' := 18) (L' := [.ref 46, .int a1]) (S' := [.int a1, .ref 46]) (M' := M3) rfl ?_
    refine vm_WM.call (a := 14) (as := [.ref 46, .int a1]) (rest := []) (L0 := [.ref 46, .int a1, .null, .null, .null]) 10 rfl rfl (by decide) rfl rfl ⟨rfl, Or.inr rfl, Nat.le_of_ble_eq_true rfl, Nat.le_of_ble_eq_true rfl⟩ rfl rfl rfl ?_
    refine vm_WM.theni h (fun v6 M7 h => ?_)
    show vm_WM X 12 21 [.ref 46, .int a1] [.int v6] M7 _
    refine vm_WM.seq 11 1 (pc' := 29) (L' := [.ref 46, .int a1]) (S' := [.int v6]) (M' := M7) rfl ?_
    exact vm_WM.ret (r := some (.int v6)) 15 rfl rfl rfl ⟨_, rfl, h⟩
theorem v_Rows_present {X : Nat × (Nat → Int32)}  {M : vm_M} {P : Int32 → vm_M → Prop} (h : C_Rows_present_4 X (nI 0) (nI 0) M P) : E_Rows_present X  M P := by
  unfold E_Rows_present
  refine vm_WM.seq 0 4 (pc' := 4) (L' := [.ref 1, .int (nI 0), .int (nI 0)]) (S' := []) (M' := M) rfl ?_
  exact h
theorem v_Rows_present_4 {X : Nat × (Nat → Int32)} {x1 : Int32} {x2 : Int32} {M : vm_M} {P : Int32 → vm_M → Prop} (h : (x2 < (nI 8) → (∃ j1 : Nat, x2 = nI j1 ∧ j1 < 8 ∧ (((M 2 j1) = 0 → (C_Rows_present_4 X (x1 + (nI 0)) (x2 + (nI 1)) M P)) ∧ (¬ ((M 2 j1) = 0) → (C_Rows_present_4 X (x1 + (nI 1)) (x2 + (nI 1)) M P))))) ∧ (¬ (x2 < (nI 8)) → (P x1 M))) : C_Rows_present_4 X x1 x2 M P := by
  unfold C_Rows_present_4
  refine vm_WM.seq 4 2 (pc' := 7) (L' := [.ref 1, .int x1, .int x2]) (S' := [.int (nI 8), .int x2]) (M' := M) rfl ?_
  refine vm_WM.if (c := x2 < (nI 8)) (t1 := 10) (t2 := 32) (S' := []) 6 rfl rfl rfl (fun hc => ?_) (fun hc => ?_)
  · replace h := h.1 hc
    refine vm_WM.seq 7 3 (pc' := 13) (L' := [.ref 1, .int x1, .int x2]) (S' := [.int x2, .ref 1, .int x1]) (M' := M) rfl ?_
    refine vm_WM.call (a := 48) (as := [.ref 1, .int x2]) (rest := [.int x1]) (L0 := [.ref 1, .int x2]) 10 rfl rfl (by decide) rfl rfl ⟨rfl, Or.inr rfl, Nat.le_of_ble_eq_true rfl, Nat.le_of_ble_eq_true rfl⟩ rfl rfl rfl ?_
    refine vm_WM.seq 0 3 (pc' := 5) (L' := [.ref 1, .int x2]) (S' := [.int x2, .ref 2]) (M' := M) rfl ?_
    obtain ⟨j1, hj1, hj2, h⟩ := h
    refine vm_WM.ald (n := 8) (jj := j1) 3 rfl (Or.inl ⟨rfl, rfl⟩) (by decide) rfl hj1 hj2 ?_
    refine vm_WM.if (c := (M 2 j1) = 0) (t1 := 9) (t2 := 13) (S' := []) 4 rfl rfl rfl (fun hc => ?_) (fun hc => ?_)
    · replace h := h.1 hc
      refine vm_WM.seq 5 2 (pc' := 14) (L' := [.ref 1, .int x2]) (S' := [.int (nI 1)]) (M' := M) rfl ?_
      refine vm_WM.ret (r := some (.int (nI 1))) 8 rfl rfl rfl ?_
      show vm_WM X 49 16 [.ref 1, .int x1, .int x2] [.int (nI 1), .int x1] M _
      refine vm_WM.seq 11 3 (pc' := 24) (L' := [.ref 1, .int x1, .int x2]) (S' := [.int (nI 0), .int x1]) (M' := M) rfl ?_
      refine vm_WM.seq 15 4 (pc' := 4) (L' := [.ref 1, .int (x1 + (nI 0)), .int (x2 + (nI 1))]) (S' := []) (M' := M) rfl ?_
      exact h
    · replace h := h.2 hc
      refine vm_WM.seq 7 1 (pc' := 14) (L' := [.ref 1, .int x2]) (S' := [.int (nI 0)]) (M' := M) rfl ?_
      refine vm_WM.ret (r := some (.int (nI 0))) 8 rfl rfl rfl ?_
      show vm_WM X 49 16 [.ref 1, .int x1, .int x2] [.int (nI 0), .int x1] M _
      refine vm_WM.seq 11 1 (pc' := 23) (L' := [.ref 1, .int x1, .int x2]) (S' := [.int x1]) (M' := M) rfl ?_
      refine vm_WM.seq 14 5 (pc' := 4) (L' := [.ref 1, .int (x1 + (nI 1)), .int (x2 + (nI 1))]) (S' := []) (M' := M) rfl ?_
      exact h
  · replace h := h.2 hc
    refine vm_WM.seq 19 1 (pc' := 33) (L' := [.ref 1, .int x1, .int x2]) (S' := [.int x1]) (M' := M) rfl ?_
    exact vm_WM.ret (r := some (.int x1)) 20 rfl rfl rfl ⟨_, rfl, h⟩
theorem v_M_isRow {X : Nat × (Nat → Int32)} {a0 : Int32} {M : vm_M} {P : Int32 → vm_M → Prop} (h : E_M_in X ((a0).toInt64) (Int64.ofNat 0) (Int64.ofInt 7) M (fun v1 M2 => (v1 = 0 ∨ v1 = 1) ∧ P v1 M2)) : E_M_isRow X a0 M P := by
  unfold E_M_isRow
  refine vm_WM.seq 0 4 (pc' := 6) (L' := [.int a0]) (S' := [.long (Int64.ofInt 7), .long (Int64.ofNat 0), .long ((a0).toInt64)]) (M' := M) rfl ?_
  refine vm_WM.call (a := 108) (as := [.long ((a0).toInt64), .long (Int64.ofNat 0), .long (Int64.ofInt 7)]) (rest := []) (L0 := [.long ((a0).toInt64), .null, .long (Int64.ofNat 0), .null, .long (Int64.ofInt 7), .null]) 4 rfl rfl (by decide) rfl rfl ⟨rfl, Or.inl rfl, Nat.le_of_ble_eq_true rfl, Nat.le_of_ble_eq_true rfl⟩ rfl rfl rfl ?_
  refine vm_WM.theni h (fun v1 M2 h => ?_)
  show vm_WM X 110 9 [.int a0] [.int v1] M2 _
  obtain ⟨hz, h⟩ := h
  exact vm_WM.ret (r := some (.int v1)) 5 rfl rfl (vm_rtZ rfl hz) ⟨_, rfl, h⟩
theorem v_M_in {X : Nat × (Nat → Int32)} {a0 : Int64} {a1 : Int64} {a2 : Int64} {M : vm_M} {P : Int32 → vm_M → Prop} (h : ((lg_cmp a0 a1) < 0 → (P (nI 0) M)) ∧ (¬ ((lg_cmp a0 a1) < 0) → ((0 < (lg_cmp a0 a2) → (P (nI 0) M)) ∧ (¬ (0 < (lg_cmp a0 a2)) → (P (nI 1) M))))) : E_M_in X a0 a1 a2 M P := by
  unfold E_M_in
  refine vm_WM.seq 0 3 (pc' := 3) (L' := [.long a0, .null, .long a1, .null, .long a2, .null]) (S' := [.int (lg_cmp a0 a1)]) (M' := M) rfl ?_
  refine vm_WM.if (c := (lg_cmp a0 a1) < 0) (t1 := 17) (t2 := 6) (S' := []) 3 rfl rfl rfl (fun hc => ?_) (fun hc => ?_)
  · replace h := h.1 hc
    refine vm_WM.seq 10 1 (pc' := 18) (L' := [.long a0, .null, .long a1, .null, .long a2, .null]) (S' := [.int (nI 0)]) (M' := M) rfl ?_
    exact vm_WM.ret (r := some (.int (nI 0))) 11 rfl rfl rfl ⟨_, rfl, h⟩
  · replace h := h.2 hc
    refine vm_WM.seq 4 3 (pc' := 10) (L' := [.long a0, .null, .long a1, .null, .long a2, .null]) (S' := [.int (lg_cmp a0 a2)]) (M' := M) rfl ?_
    refine vm_WM.if (c := 0 < (lg_cmp a0 a2)) (t1 := 17) (t2 := 13) (S' := []) 7 rfl rfl rfl (fun hc => ?_) (fun hc => ?_)
    · replace h := h.1 hc
      refine vm_WM.seq 10 1 (pc' := 18) (L' := [.long a0, .null, .long a1, .null, .long a2, .null]) (S' := [.int (nI 0)]) (M' := M) rfl ?_
      exact vm_WM.ret (r := some (.int (nI 0))) 11 rfl rfl rfl ⟨_, rfl, h⟩
    · replace h := h.2 hc
      refine vm_WM.seq 8 2 (pc' := 18) (L' := [.long a0, .null, .long a1, .null, .long a2, .null]) (S' := [.int (nI 1)]) (M' := M) rfl ?_
      exact vm_WM.ret (r := some (.int (nI 1))) 11 rfl rfl rfl ⟨_, rfl, h⟩
theorem v_M_begin {X : Nat × (Nat → Int32)}  {M : vm_M} {P : vm_M → Prop} (h : E_M_next X  (vm_u2 (vm_u2 (vm_u2 (vm_u2 M 48 12 (M 48 10)) 48 10 (nI 0)) 48 13 (nI 0)) 48 17 (nI 0)) (fun M1 => P  M1)) : E_M_begin X  M P := by
  unfold E_M_begin
  refine vm_WM.seq 0 14 (pc' := 24) (L' := [.ref 48]) (S' := [.ref 48]) (M' := (vm_u2 (vm_u2 (vm_u2 (vm_u2 M 48 12 (M 48 10)) 48 10 (nI 0)) 48 13 (nI 0)) 48 17 (nI 0))) rfl ?_
  refine vm_WM.call (a := 119) (as := [.ref 48]) (rest := []) (L0 := [.ref 48, .null]) 14 rfl rfl (by decide) rfl rfl ⟨rfl, Or.inr rfl, Nat.le_of_ble_eq_true rfl, Nat.le_of_ble_eq_true rfl⟩ rfl rfl rfl ?_
  refine vm_WM.thenv h (fun M1 h => ?_)
  show vm_WM X 120 27 [.ref 48] [] M1 _
  exact vm_WM.ret (r := none) 15 rfl rfl rfl ⟨rfl, h⟩
theorem v_M_name {X : Nat × (Nat → Int32)}  {M : vm_M} {P : Int64 → vm_M → Prop} (h : C_M_name_7 X (Int64.ofNat 0) (.null) (M 48 15) M P) : E_M_name X  M P := by
  unfold E_M_name
  refine vm_WM.seq 0 5 (pc' := 7) (L' := [.ref 48, .long (Int64.ofNat 0), .null, .int (M 48 15)]) (S' := []) (M' := M) rfl ?_
  exact h
theorem v_M_name_7 {X : Nat × (Nat → Int32)} {x1 : Int64} {w2 : Value} {x3 : Int32} {M : vm_M} {P : Int64 → vm_M → Prop} (h : (x3 < (M 48 16) → (((M 48 14) = (nI 2) → ((((M 48 16) - (M 48 15)) < (nI 8) → (∃ j1 : Nat, x3 = nI j1 ∧ j1 < 400 ∧ (C_M_name_7 X ((x1 <<< (((nI 8)).toInt64 &&& 63)) ||| (((M 55 j1)).toInt64)) (.null) (x3 + (nI 1)) M P))) ∧ (¬ (((M 48 16) - (M 48 15)) < (nI 8)) → (((M 48 17) = 0 → (P x1 M)) ∧ (¬ ((M 48 17) = 0) → (P (Int64.ofNat 0) M)))))) ∧ (¬ ((M 48 14) = (nI 2)) → (((M 48 17) = 0 → (P x1 M)) ∧ (¬ ((M 48 17) = 0) → (P (Int64.ofNat 0) M)))))) ∧ (¬ (x3 < (M 48 16)) → (((M 48 17) = 0 → (P x1 M)) ∧ (¬ ((M 48 17) = 0) → (P (Int64.ofNat 0) M))))) : C_M_name_7 X x1 w2 x3 M P := by
  unfold C_M_name_7
  refine vm_WM.seq 5 3 (pc' := 12) (L' := [.ref 48, .long x1, w2, .int x3]) (S' := [.int (M 48 16), .int x3]) (M' := M) rfl ?_
  refine vm_WM.if (c := x3 < (M 48 16)) (t1 := 15) (t2 := 56) (S' := []) 8 rfl rfl rfl (fun hc => ?_) (fun hc => ?_)
  · replace h := h.1 hc
    refine vm_WM.seq 9 3 (pc' := 20) (L' := [.ref 48, .long x1, w2, .int x3]) (S' := [.int (nI 2), .int (M 48 14)]) (M' := M) rfl ?_
    refine vm_WM.if (c := (M 48 14) = (nI 2)) (t1 := 23) (t2 := 56) (S' := []) 12 rfl rfl rfl (fun hc => ?_) (fun hc => ?_)
    · replace h := h.1 hc
      refine vm_WM.seq 13 6 (pc' := 34) (L' := [.ref 48, .long x1, w2, .int x3]) (S' := [.int (nI 8), .int ((M 48 16) - (M 48 15))]) (M' := M) rfl ?_
      refine vm_WM.if (c := ((M 48 16) - (M 48 15)) < (nI 8)) (t1 := 37) (t2 := 56) (S' := []) 19 rfl rfl rfl (fun hc => ?_) (fun hc => ?_)
      · replace h := h.1 hc
        refine vm_WM.seq 20 6 (pc' := 46) (L' := [.ref 48, .long x1, w2, .int x3]) (S' := [.int x3, .ref 55, .long (x1 <<< (((nI 8)).toInt64 &&& 63))]) (M' := M) rfl ?_
        obtain ⟨j1, hj1, hj2, h⟩ := h
        refine vm_WM.ald (n := 400) (jj := j1) 26 rfl (Or.inl ⟨rfl, rfl⟩) (by decide) rfl hj1 hj2 ?_
        refine vm_WM.seq 27 5 (pc' := 7) (L' := [.ref 48, .long ((x1 <<< (((nI 8)).toInt64 &&& 63)) ||| (((M 55 j1)).toInt64)), .null, .int (x3 + (nI 1))]) (S' := []) (M' := M) rfl ?_
        exact h
      · replace h := h.2 hc
        refine vm_WM.seq 32 2 (pc' := 60) (L' := [.ref 48, .long x1, w2, .int x3]) (S' := [.int (M 48 17)]) (M' := M) rfl ?_
        refine vm_WM.if (c := (M 48 17) = 0) (t1 := 63) (t2 := 67) (S' := []) 34 rfl rfl rfl (fun hc => ?_) (fun hc => ?_)
        · replace h := h.1 hc
          refine vm_WM.seq 35 2 (pc' := 68) (L' := [.ref 48, .long x1, w2, .int x3]) (S' := [.long x1]) (M' := M) rfl ?_
          exact vm_WM.ret (r := some (.long x1)) 38 rfl rfl rfl ⟨_, rfl, h⟩
        · replace h := h.2 hc
          refine vm_WM.seq 37 1 (pc' := 68) (L' := [.ref 48, .long x1, w2, .int x3]) (S' := [.long (Int64.ofNat 0)]) (M' := M) rfl ?_
          exact vm_WM.ret (r := some (.long (Int64.ofNat 0))) 38 rfl rfl rfl ⟨_, rfl, h⟩
    · replace h := h.2 hc
      refine vm_WM.seq 32 2 (pc' := 60) (L' := [.ref 48, .long x1, w2, .int x3]) (S' := [.int (M 48 17)]) (M' := M) rfl ?_
      refine vm_WM.if (c := (M 48 17) = 0) (t1 := 63) (t2 := 67) (S' := []) 34 rfl rfl rfl (fun hc => ?_) (fun hc => ?_)
      · replace h := h.1 hc
        refine vm_WM.seq 35 2 (pc' := 68) (L' := [.ref 48, .long x1, w2, .int x3]) (S' := [.long x1]) (M' := M) rfl ?_
        exact vm_WM.ret (r := some (.long x1)) 38 rfl rfl rfl ⟨_, rfl, h⟩
      · replace h := h.2 hc
        refine vm_WM.seq 37 1 (pc' := 68) (L' := [.ref 48, .long x1, w2, .int x3]) (S' := [.long (Int64.ofNat 0)]) (M' := M) rfl ?_
        exact vm_WM.ret (r := some (.long (Int64.ofNat 0))) 38 rfl rfl rfl ⟨_, rfl, h⟩
  · replace h := h.2 hc
    refine vm_WM.seq 32 2 (pc' := 60) (L' := [.ref 48, .long x1, w2, .int x3]) (S' := [.int (M 48 17)]) (M' := M) rfl ?_
    refine vm_WM.if (c := (M 48 17) = 0) (t1 := 63) (t2 := 67) (S' := []) 34 rfl rfl rfl (fun hc => ?_) (fun hc => ?_)
    · replace h := h.1 hc
      refine vm_WM.seq 35 2 (pc' := 68) (L' := [.ref 48, .long x1, w2, .int x3]) (S' := [.long x1]) (M' := M) rfl ?_
      exact vm_WM.ret (r := some (.long x1)) 38 rfl rfl rfl ⟨_, rfl, h⟩
    · replace h := h.2 hc
      refine vm_WM.seq 37 1 (pc' := 68) (L' := [.ref 48, .long x1, w2, .int x3]) (S' := [.long (Int64.ofNat 0)]) (M' := M) rfl ?_
      exact vm_WM.ret (r := some (.long (Int64.ofNat 0))) 38 rfl rfl rfl ⟨_, rfl, h⟩
theorem v_M_must {X : Nat × (Nat → Int32)} {a1 : Int32} {M : vm_M} {P : vm_M → Prop} (h : (a1 = 0 → (E_M_bad X (nI 1) M (fun M1 => ((M1 48 17) = 0 → (E_M_next X  M1 (fun M2 => P  M2))) ∧ (¬ ((M1 48 17) = 0) → (P  M1))))) ∧ (¬ (a1 = 0) → (((M 48 17) = 0 → (E_M_next X  M (fun M3 => P  M3))) ∧ (¬ ((M 48 17) = 0) → (P  M))))) : E_M_must X a1 M P := by
  unfold E_M_must
  refine vm_WM.seq 0 1 (pc' := 1) (L' := [.ref 48, .int a1]) (S' := [.int a1]) (M' := M) rfl ?_
  refine vm_WM.if (c := a1 = 0) (t1 := 4) (t2 := 9) (S' := []) 1 rfl rfl rfl (fun hc => ?_) (fun hc => ?_)
  · replace h := h.1 hc
    refine vm_WM.seq 2 2 (pc' := 6) (L' := [.ref 48, .int a1]) (S' := [.int (nI 1), .ref 48]) (M' := M) rfl ?_
    refine vm_WM.call (a := 121) (as := [.ref 48, .int (nI 1)]) (rest := []) (L0 := [.ref 48, .int (nI 1)]) 4 rfl rfl (by decide) rfl rfl ⟨rfl, Or.inr rfl, Nat.le_of_ble_eq_true rfl, Nat.le_of_ble_eq_true rfl⟩ rfl rfl rfl ?_
    refine vm_WM.thenv h (fun M1 h => ?_)
    show vm_WM X 122 9 [.ref 48, .int a1] [] M1 _
    refine vm_WM.seq 5 2 (pc' := 13) (L' := [.ref 48, .int a1]) (S' := [.int (M1 48 17)]) (M' := M1) rfl ?_
    refine vm_WM.if (c := (M1 48 17) = 0) (t1 := 16) (t2 := 20) (S' := []) 7 rfl rfl rfl (fun hc => ?_) (fun hc => ?_)
    · replace h := h.1 hc
      refine vm_WM.seq 8 1 (pc' := 17) (L' := [.ref 48, .int a1]) (S' := [.ref 48]) (M' := M1) rfl ?_
      refine vm_WM.call (a := 119) (as := [.ref 48]) (rest := []) (L0 := [.ref 48, .null]) 9 rfl rfl (by decide) rfl rfl ⟨rfl, Or.inr rfl, Nat.le_of_ble_eq_true rfl, Nat.le_of_ble_eq_true rfl⟩ rfl rfl rfl ?_
      refine vm_WM.thenv h (fun M2 h => ?_)
      show vm_WM X 122 20 [.ref 48, .int a1] [] M2 _
      exact vm_WM.ret (r := none) 10 rfl rfl rfl ⟨rfl, h⟩
    · replace h := h.2 hc
      exact vm_WM.ret (r := none) 10 rfl rfl rfl ⟨rfl, h⟩
  · replace h := h.2 hc
    refine vm_WM.seq 5 2 (pc' := 13) (L' := [.ref 48, .int a1]) (S' := [.int (M 48 17)]) (M' := M) rfl ?_
    refine vm_WM.if (c := (M 48 17) = 0) (t1 := 16) (t2 := 20) (S' := []) 7 rfl rfl rfl (fun hc => ?_) (fun hc => ?_)
    · replace h := h.1 hc
      refine vm_WM.seq 8 1 (pc' := 17) (L' := [.ref 48, .int a1]) (S' := [.ref 48]) (M' := M) rfl ?_
      refine vm_WM.call (a := 119) (as := [.ref 48]) (rest := []) (L0 := [.ref 48, .null]) 9 rfl rfl (by decide) rfl rfl ⟨rfl, Or.inr rfl, Nat.le_of_ble_eq_true rfl, Nat.le_of_ble_eq_true rfl⟩ rfl rfl rfl ?_
      refine vm_WM.thenv h (fun M3 h => ?_)
      show vm_WM X 122 20 [.ref 48, .int a1] [] M3 _
      exact vm_WM.ret (r := none) 10 rfl rfl rfl ⟨rfl, h⟩
    · replace h := h.2 hc
      exact vm_WM.ret (r := none) 10 rfl rfl rfl ⟨rfl, h⟩
theorem v_M_number {X : Nat × (Nat → Int32)} {a1 : Int32} {a2 : Int32} {M : vm_M} {P : Int32 → vm_M → Prop} (h : (0 < (M 48 17) → (P (nI 0) M)) ∧ (¬ (0 < (M 48 17)) → (E_M_figures X  M (fun v1 M2 => ((M2 48 14) = (nI 3) → (E_M_in X ((v1).toInt64) ((a1).toInt64) ((a2).toInt64) M2 (fun v3 M4 => (v3 = 0 → (E_M_bad X (nI 2) M4 (fun M5 => ((M5 48 14) = (nI 3) → (E_M_must X (nI 1) M5 (fun M6 => P v1 M6))) ∧ (¬ ((M5 48 14) = (nI 3)) → (E_M_must X (nI 0) M5 (fun M7 => P v1 M7)))))) ∧ (¬ (v3 = 0) → (((M4 48 14) = (nI 3) → (E_M_must X (nI 1) M4 (fun M8 => P v1 M8))) ∧ (¬ ((M4 48 14) = (nI 3)) → (E_M_must X (nI 0) M4 (fun M9 => P v1 M9)))))))) ∧ (¬ ((M2 48 14) = (nI 3)) → (((M2 48 14) = (nI 3) → (E_M_must X (nI 1) M2 (fun M10 => P v1 M10))) ∧ (¬ ((M2 48 14) = (nI 3)) → (E_M_must X (nI 0) M2 (fun M11 => P v1 M11))))))))) : E_M_number X a1 a2 M P := by
  unfold E_M_number
  refine vm_WM.seq 0 2 (pc' := 4) (L' := [.ref 48, .int a1, .int a2, .null]) (S' := [.int (M 48 17)]) (M' := M) rfl ?_
  refine vm_WM.if (c := 0 < (M 48 17)) (t1 := 7) (t2 := 9) (S' := []) 2 rfl rfl rfl (fun hc => ?_) (fun hc => ?_)
  · replace h := h.1 hc
    refine vm_WM.seq 3 1 (pc' := 8) (L' := [.ref 48, .int a1, .int a2, .null]) (S' := [.int (nI 0)]) (M' := M) rfl ?_
    exact vm_WM.ret (r := some (.int (nI 0))) 4 rfl rfl rfl ⟨_, rfl, h⟩
  · replace h := h.2 hc
    refine vm_WM.seq 5 1 (pc' := 10) (L' := [.ref 48, .int a1, .int a2, .null]) (S' := [.ref 48]) (M' := M) rfl ?_
    refine vm_WM.call (a := 124) (as := [.ref 48]) (rest := []) (L0 := [.ref 48, .null, .null]) 6 rfl rfl (by decide) rfl rfl ⟨rfl, Or.inr rfl, Nat.le_of_ble_eq_true rfl, Nat.le_of_ble_eq_true rfl⟩ rfl rfl rfl ?_
    refine vm_WM.theni h (fun v1 M2 h => ?_)
    show vm_WM X 125 13 [.ref 48, .int a1, .int a2, .null] [.int v1] M2 _
    refine vm_WM.seq 7 4 (pc' := 19) (L' := [.ref 48, .int a1, .int a2, .int v1]) (S' := [.int (nI 3), .int (M2 48 14)]) (M' := M2) rfl ?_
    refine vm_WM.if (c := (M2 48 14) = (nI 3)) (t1 := 22) (t2 := 39) (S' := []) 11 rfl rfl rfl (fun hc => ?_) (fun hc => ?_)
    · replace h := h.1 hc
      refine vm_WM.seq 12 6 (pc' := 28) (L' := [.ref 48, .int a1, .int a2, .int v1]) (S' := [.long ((a2).toInt64), .long ((a1).toInt64), .long ((v1).toInt64)]) (M' := M2) rfl ?_
      refine vm_WM.call (a := 108) (as := [.long ((v1).toInt64), .long ((a1).toInt64), .long ((a2).toInt64)]) (rest := []) (L0 := [.long ((v1).toInt64), .null, .long ((a1).toInt64), .null, .long ((a2).toInt64), .null]) 18 rfl rfl (by decide) rfl rfl ⟨rfl, Or.inl rfl, Nat.le_of_ble_eq_true rfl, Nat.le_of_ble_eq_true rfl⟩ rfl rfl rfl ?_
      refine vm_WM.theni h (fun v3 M4 h => ?_)
      show vm_WM X 125 31 [.ref 48, .int a1, .int a2, .int v1] [.int v3] M4 _
      refine vm_WM.if (c := v3 = 0) (t1 := 34) (t2 := 39) (S' := []) 19 rfl rfl rfl (fun hc => ?_) (fun hc => ?_)
      · replace h := h.1 hc
        refine vm_WM.seq 20 2 (pc' := 36) (L' := [.ref 48, .int a1, .int a2, .int v1]) (S' := [.int (nI 2), .ref 48]) (M' := M4) rfl ?_
        refine vm_WM.call (a := 121) (as := [.ref 48, .int (nI 2)]) (rest := []) (L0 := [.ref 48, .int (nI 2)]) 22 rfl rfl (by decide) rfl rfl ⟨rfl, Or.inr rfl, Nat.le_of_ble_eq_true rfl, Nat.le_of_ble_eq_true rfl⟩ rfl rfl rfl ?_
        refine vm_WM.thenv h (fun M5 h => ?_)
        show vm_WM X 125 39 [.ref 48, .int a1, .int a2, .int v1] [] M5 _
        refine vm_WM.seq 23 4 (pc' := 45) (L' := [.ref 48, .int a1, .int a2, .int v1]) (S' := [.int (nI 3), .int (M5 48 14), .ref 48]) (M' := M5) rfl ?_
        refine vm_WM.if (c := (M5 48 14) = (nI 3)) (t1 := 48) (t2 := 52) (S' := [.ref 48]) 27 rfl rfl rfl (fun hc => ?_) (fun hc => ?_)
        · replace h := h.1 hc
          refine vm_WM.seq 28 2 (pc' := 53) (L' := [.ref 48, .int a1, .int a2, .int v1]) (S' := [.int (nI 1), .ref 48]) (M' := M5) rfl ?_
          refine vm_WM.call (a := 122) (as := [.ref 48, .int (nI 1)]) (rest := []) (L0 := [.ref 48, .int (nI 1)]) 31 rfl rfl (by decide) rfl rfl ⟨rfl, Or.inr rfl, Nat.le_of_ble_eq_true rfl, Nat.le_of_ble_eq_true rfl⟩ rfl rfl rfl ?_
          refine vm_WM.thenv h (fun M6 h => ?_)
          show vm_WM X 125 56 [.ref 48, .int a1, .int a2, .int v1] [] M6 _
          refine vm_WM.seq 32 1 (pc' := 57) (L' := [.ref 48, .int a1, .int a2, .int v1]) (S' := [.int v1]) (M' := M6) rfl ?_
          exact vm_WM.ret (r := some (.int v1)) 33 rfl rfl rfl ⟨_, rfl, h⟩
        · replace h := h.2 hc
          refine vm_WM.seq 30 1 (pc' := 53) (L' := [.ref 48, .int a1, .int a2, .int v1]) (S' := [.int (nI 0), .ref 48]) (M' := M5) rfl ?_
          refine vm_WM.call (a := 122) (as := [.ref 48, .int (nI 0)]) (rest := []) (L0 := [.ref 48, .int (nI 0)]) 31 rfl rfl (by decide) rfl rfl ⟨rfl, Or.inr rfl, Nat.le_of_ble_eq_true rfl, Nat.le_of_ble_eq_true rfl⟩ rfl rfl rfl ?_
          refine vm_WM.thenv h (fun M7 h => ?_)
          show vm_WM X 125 56 [.ref 48, .int a1, .int a2, .int v1] [] M7 _
          refine vm_WM.seq 32 1 (pc' := 57) (L' := [.ref 48, .int a1, .int a2, .int v1]) (S' := [.int v1]) (M' := M7) rfl ?_
          exact vm_WM.ret (r := some (.int v1)) 33 rfl rfl rfl ⟨_, rfl, h⟩
      · replace h := h.2 hc
        refine vm_WM.seq 23 4 (pc' := 45) (L' := [.ref 48, .int a1, .int a2, .int v1]) (S' := [.int (nI 3), .int (M4 48 14), .ref 48]) (M' := M4) rfl ?_
        refine vm_WM.if (c := (M4 48 14) = (nI 3)) (t1 := 48) (t2 := 52) (S' := [.ref 48]) 27 rfl rfl rfl (fun hc => ?_) (fun hc => ?_)
        · replace h := h.1 hc
          refine vm_WM.seq 28 2 (pc' := 53) (L' := [.ref 48, .int a1, .int a2, .int v1]) (S' := [.int (nI 1), .ref 48]) (M' := M4) rfl ?_
          refine vm_WM.call (a := 122) (as := [.ref 48, .int (nI 1)]) (rest := []) (L0 := [.ref 48, .int (nI 1)]) 31 rfl rfl (by decide) rfl rfl ⟨rfl, Or.inr rfl, Nat.le_of_ble_eq_true rfl, Nat.le_of_ble_eq_true rfl⟩ rfl rfl rfl ?_
          refine vm_WM.thenv h (fun M8 h => ?_)
          show vm_WM X 125 56 [.ref 48, .int a1, .int a2, .int v1] [] M8 _
          refine vm_WM.seq 32 1 (pc' := 57) (L' := [.ref 48, .int a1, .int a2, .int v1]) (S' := [.int v1]) (M' := M8) rfl ?_
          exact vm_WM.ret (r := some (.int v1)) 33 rfl rfl rfl ⟨_, rfl, h⟩
        · replace h := h.2 hc
          refine vm_WM.seq 30 1 (pc' := 53) (L' := [.ref 48, .int a1, .int a2, .int v1]) (S' := [.int (nI 0), .ref 48]) (M' := M4) rfl ?_
          refine vm_WM.call (a := 122) (as := [.ref 48, .int (nI 0)]) (rest := []) (L0 := [.ref 48, .int (nI 0)]) 31 rfl rfl (by decide) rfl rfl ⟨rfl, Or.inr rfl, Nat.le_of_ble_eq_true rfl, Nat.le_of_ble_eq_true rfl⟩ rfl rfl rfl ?_
          refine vm_WM.thenv h (fun M9 h => ?_)
          show vm_WM X 125 56 [.ref 48, .int a1, .int a2, .int v1] [] M9 _
          refine vm_WM.seq 32 1 (pc' := 57) (L' := [.ref 48, .int a1, .int a2, .int v1]) (S' := [.int v1]) (M' := M9) rfl ?_
          exact vm_WM.ret (r := some (.int v1)) 33 rfl rfl rfl ⟨_, rfl, h⟩
    · replace h := h.2 hc
      refine vm_WM.seq 23 4 (pc' := 45) (L' := [.ref 48, .int a1, .int a2, .int v1]) (S' := [.int (nI 3), .int (M2 48 14), .ref 48]) (M' := M2) rfl ?_
      refine vm_WM.if (c := (M2 48 14) = (nI 3)) (t1 := 48) (t2 := 52) (S' := [.ref 48]) 27 rfl rfl rfl (fun hc => ?_) (fun hc => ?_)
      · replace h := h.1 hc
        refine vm_WM.seq 28 2 (pc' := 53) (L' := [.ref 48, .int a1, .int a2, .int v1]) (S' := [.int (nI 1), .ref 48]) (M' := M2) rfl ?_
        refine vm_WM.call (a := 122) (as := [.ref 48, .int (nI 1)]) (rest := []) (L0 := [.ref 48, .int (nI 1)]) 31 rfl rfl (by decide) rfl rfl ⟨rfl, Or.inr rfl, Nat.le_of_ble_eq_true rfl, Nat.le_of_ble_eq_true rfl⟩ rfl rfl rfl ?_
        refine vm_WM.thenv h (fun M10 h => ?_)
        show vm_WM X 125 56 [.ref 48, .int a1, .int a2, .int v1] [] M10 _
        refine vm_WM.seq 32 1 (pc' := 57) (L' := [.ref 48, .int a1, .int a2, .int v1]) (S' := [.int v1]) (M' := M10) rfl ?_
        exact vm_WM.ret (r := some (.int v1)) 33 rfl rfl rfl ⟨_, rfl, h⟩
      · replace h := h.2 hc
        refine vm_WM.seq 30 1 (pc' := 53) (L' := [.ref 48, .int a1, .int a2, .int v1]) (S' := [.int (nI 0), .ref 48]) (M' := M2) rfl ?_
        refine vm_WM.call (a := 122) (as := [.ref 48, .int (nI 0)]) (rest := []) (L0 := [.ref 48, .int (nI 0)]) 31 rfl rfl (by decide) rfl rfl ⟨rfl, Or.inr rfl, Nat.le_of_ble_eq_true rfl, Nat.le_of_ble_eq_true rfl⟩ rfl rfl rfl ?_
        refine vm_WM.thenv h (fun M11 h => ?_)
        show vm_WM X 125 56 [.ref 48, .int a1, .int a2, .int v1] [] M11 _
        refine vm_WM.seq 32 1 (pc' := 57) (L' := [.ref 48, .int a1, .int a2, .int v1]) (S' := [.int v1]) (M' := M11) rfl ?_
        exact vm_WM.ret (r := some (.int v1)) 33 rfl rfl rfl ⟨_, rfl, h⟩
theorem v_M_mustEnd {X : Nat × (Nat → Int32)}  {M : vm_M} {P : vm_M → Prop} (h : ((M 48 17) = 0 → (((M 48 14) = (nI 4) → (E_M_must X (nI 1) M (fun M1 => P  M1))) ∧ (¬ ((M 48 14) = (nI 4)) → (E_M_must X (nI 0) M (fun M2 => P  M2))))) ∧ (¬ ((M 48 17) = 0) → (P  M))) : E_M_mustEnd X  M P := by
  unfold E_M_mustEnd
  refine vm_WM.seq 0 2 (pc' := 4) (L' := [.ref 48]) (S' := [.int (M 48 17)]) (M' := M) rfl ?_
  refine vm_WM.if (c := (M 48 17) = 0) (t1 := 7) (t2 := 24) (S' := []) 2 rfl rfl rfl (fun hc => ?_) (fun hc => ?_)
  · replace h := h.1 hc
    refine vm_WM.seq 3 4 (pc' := 13) (L' := [.ref 48]) (S' := [.int (nI 4), .int (M 48 14), .ref 48]) (M' := M) rfl ?_
    refine vm_WM.if (c := (M 48 14) = (nI 4)) (t1 := 16) (t2 := 20) (S' := [.ref 48]) 7 rfl rfl rfl (fun hc => ?_) (fun hc => ?_)
    · replace h := h.1 hc
      refine vm_WM.seq 8 2 (pc' := 21) (L' := [.ref 48]) (S' := [.int (nI 1), .ref 48]) (M' := M) rfl ?_
      refine vm_WM.call (a := 122) (as := [.ref 48, .int (nI 1)]) (rest := []) (L0 := [.ref 48, .int (nI 1)]) 11 rfl rfl (by decide) rfl rfl ⟨rfl, Or.inr rfl, Nat.le_of_ble_eq_true rfl, Nat.le_of_ble_eq_true rfl⟩ rfl rfl rfl ?_
      refine vm_WM.thenv h (fun M1 h => ?_)
      show vm_WM X 127 24 [.ref 48] [] M1 _
      exact vm_WM.ret (r := none) 12 rfl rfl rfl ⟨rfl, h⟩
    · replace h := h.2 hc
      refine vm_WM.seq 10 1 (pc' := 21) (L' := [.ref 48]) (S' := [.int (nI 0), .ref 48]) (M' := M) rfl ?_
      refine vm_WM.call (a := 122) (as := [.ref 48, .int (nI 0)]) (rest := []) (L0 := [.ref 48, .int (nI 0)]) 11 rfl rfl (by decide) rfl rfl ⟨rfl, Or.inr rfl, Nat.le_of_ble_eq_true rfl, Nat.le_of_ble_eq_true rfl⟩ rfl rfl rfl ?_
      refine vm_WM.thenv h (fun M2 h => ?_)
      show vm_WM X 127 24 [.ref 48] [] M2 _
      exact vm_WM.ret (r := none) 12 rfl rfl rfl ⟨rfl, h⟩
  · replace h := h.2 hc
    exact vm_WM.ret (r := none) 12 rfl rfl rfl ⟨rfl, h⟩
theorem v_M_bad {X : Nat × (Nat → Int32)} {a1 : Int32} {M : vm_M} {P : vm_M → Prop} (h : ((M 48 17) = 0 → (P  (vm_u2 (vm_u2 M 48 17 a1) 48 18 ((vm_u2 M 48 17 a1) 48 15)))) ∧ (¬ ((M 48 17) = 0) → (P  M))) : E_M_bad X a1 M P := by
  unfold E_M_bad
  refine vm_WM.seq 0 2 (pc' := 4) (L' := [.ref 48, .int a1]) (S' := [.int (M 48 17)]) (M' := M) rfl ?_
  refine vm_WM.if (c := (M 48 17) = 0) (t1 := 7) (t2 := 20) (S' := []) 2 rfl rfl rfl (fun hc => ?_) (fun hc => ?_)
  · replace h := h.1 hc
    refine vm_WM.seq 3 7 (pc' := 20) (L' := [.ref 48, .int a1]) (S' := []) (M' := (vm_u2 (vm_u2 M 48 17 a1) 48 18 ((vm_u2 M 48 17 a1) 48 15))) rfl ?_
    exact vm_WM.ret (r := none) 10 rfl rfl rfl ⟨rfl, h⟩
  · replace h := h.2 hc
    exact vm_WM.ret (r := none) 10 rfl rfl rfl ⟨rfl, h⟩
theorem v_M_readTrader {X : Nat × (Nat → Int32)}  {M : vm_M} {P : vm_M → Prop} (h : E_M_begins X (nI 2) (nI 6) M (fun M1 => E_M_name X  M1 (fun v2 M3 => E_M_kindBy X v2 M3 (fun v4 M5 => ((M5 48 17) = 0 → ((v4 = (Int32.ofInt (-1000000)) → (E_M_must X (nI 0) M5 (fun M6 => E_M_number X (nI 0) (nI 99) M6 (fun v7 M8 => E_M_number X (nI 0) (nI 60) M8 (fun v9 M10 => E_M_mustEnd X  M10 (fun M11 => ((M11 48 17) = 0 → (∃ j12 : Nat, ((nI 6) + ((nI 4) * (M11 53 2))) = nI j12 ∧ j12 < 70 ∧ (∃ j13 : Nat, (((nI 6) + ((nI 4) * (M11 53 2))) + (nI 1)) = nI j13 ∧ j13 < 70 ∧ (∃ j14 : Nat, (((nI 6) + ((nI 4) * (M11 53 2))) + (nI 2)) = nI j14 ∧ j14 < 70 ∧ (P  (vm_u2 (vm_u2 (vm_u2 (vm_u2 M11 53 j12 v4) 53 j13 v7) 53 j14 v9) 53 2 (((vm_u2 (vm_u2 (vm_u2 M11 53 j12 v4) 53 j13 v7) 53 j14 v9) 53 2) + (nI 1)))))))) ∧ (¬ ((M11 48 17) = 0) → (P  M11)))))))) ∧ (¬ (v4 = (Int32.ofInt (-1000000))) → (E_M_must X (nI 1) M5 (fun M15 => E_M_number X (nI 0) (nI 99) M15 (fun v16 M17 => E_M_number X (nI 0) (nI 60) M17 (fun v18 M19 => E_M_mustEnd X  M19 (fun M20 => ((M20 48 17) = 0 → (∃ j21 : Nat, ((nI 6) + ((nI 4) * (M20 53 2))) = nI j21 ∧ j21 < 70 ∧ (∃ j22 : Nat, (((nI 6) + ((nI 4) * (M20 53 2))) + (nI 1)) = nI j22 ∧ j22 < 70 ∧ (∃ j23 : Nat, (((nI 6) + ((nI 4) * (M20 53 2))) + (nI 2)) = nI j23 ∧ j23 < 70 ∧ (P  (vm_u2 (vm_u2 (vm_u2 (vm_u2 M20 53 j21 v4) 53 j22 v16) 53 j23 v18) 53 2 (((vm_u2 (vm_u2 (vm_u2 M20 53 j21 v4) 53 j22 v16) 53 j23 v18) 53 2) + (nI 1)))))))) ∧ (¬ ((M20 48 17) = 0) → (P  M20)))))))))) ∧ (¬ ((M5 48 17) = 0) → (E_M_number X (nI 0) (nI 99) M5 (fun v24 M25 => E_M_number X (nI 0) (nI 60) M25 (fun v26 M27 => E_M_mustEnd X  M27 (fun M28 => ((M28 48 17) = 0 → (∃ j29 : Nat, ((nI 6) + ((nI 4) * (M28 53 2))) = nI j29 ∧ j29 < 70 ∧ (∃ j30 : Nat, (((nI 6) + ((nI 4) * (M28 53 2))) + (nI 1)) = nI j30 ∧ j30 < 70 ∧ (∃ j31 : Nat, (((nI 6) + ((nI 4) * (M28 53 2))) + (nI 2)) = nI j31 ∧ j31 < 70 ∧ (P  (vm_u2 (vm_u2 (vm_u2 (vm_u2 M28 53 j29 v4) 53 j30 v24) 53 j31 v26) 53 2 (((vm_u2 (vm_u2 (vm_u2 M28 53 j29 v4) 53 j30 v24) 53 j31 v26) 53 2) + (nI 1)))))))) ∧ (¬ ((M28 48 17) = 0) → (P  M28))))))))))) : E_M_readTrader X  M P := by
  unfold E_M_readTrader
  refine vm_WM.seq 0 3 (pc' := 4) (L' := [.ref 48, .null, .null, .null, .null]) (S' := [.int (nI 6), .int (nI 2), .ref 48]) (M' := M) rfl ?_
  refine vm_WM.call (a := 128) (as := [.ref 48, .int (nI 2), .int (nI 6)]) (rest := []) (L0 := [.ref 48, .int (nI 2), .int (nI 6)]) 3 rfl rfl (by decide) rfl rfl ⟨rfl, Or.inr rfl, Nat.le_of_ble_eq_true rfl, Nat.le_of_ble_eq_true rfl⟩ rfl rfl rfl ?_
  refine vm_WM.thenv h (fun M1 h => ?_)
  show vm_WM X 129 7 [.ref 48, .null, .null, .null, .null] [] M1 _
  refine vm_WM.seq 4 1 (pc' := 8) (L' := [.ref 48, .null, .null, .null, .null]) (S' := [.ref 48]) (M' := M1) rfl ?_
  refine vm_WM.call (a := 123) (as := [.ref 48]) (rest := []) (L0 := [.ref 48, .null, .null, .null]) 5 rfl rfl (by decide) rfl rfl ⟨rfl, Or.inr rfl, Nat.le_of_ble_eq_true rfl, Nat.le_of_ble_eq_true rfl⟩ rfl rfl rfl ?_
  refine vm_WM.thenl h (fun v2 M3 h => ?_)
  show vm_WM X 129 11 [.ref 48, .null, .null, .null, .null] [.long v2] M3 _
  refine vm_WM.call (a := 126) (as := [.long v2]) (rest := []) (L0 := [.long v2, .null]) 6 rfl rfl (by decide) rfl rfl ⟨rfl, Or.inl rfl, Nat.le_of_ble_eq_true rfl, Nat.le_of_ble_eq_true rfl⟩ rfl rfl rfl ?_
  refine vm_WM.theni h (fun v4 M5 h => ?_)
  show vm_WM X 129 14 [.ref 48, .null, .null, .null, .null] [.int v4] M5 _
  refine vm_WM.seq 7 3 (pc' := 19) (L' := [.ref 48, .int v4, .null, .null, .null]) (S' := [.int (M5 48 17)]) (M' := M5) rfl ?_
  refine vm_WM.if (c := (M5 48 17) = 0) (t1 := 22) (t2 := 37) (S' := []) 10 rfl rfl rfl (fun hc => ?_) (fun hc => ?_)
  · replace h := h.1 hc
    refine vm_WM.seq 11 3 (pc' := 26) (L' := [.ref 48, .int v4, .null, .null, .null]) (S' := [.int (Int32.ofInt (-1000000)), .int v4, .ref 48]) (M' := M5) rfl ?_
    refine vm_WM.if (c := v4 = (Int32.ofInt (-1000000))) (t1 := 33) (t2 := 29) (S' := [.ref 48]) 14 rfl rfl rfl (fun hc => ?_) (fun hc => ?_)
    · replace h := h.1 hc
      refine vm_WM.seq 17 1 (pc' := 34) (L' := [.ref 48, .int v4, .null, .null, .null]) (S' := [.int (nI 0), .ref 48]) (M' := M5) rfl ?_
      refine vm_WM.call (a := 122) (as := [.ref 48, .int (nI 0)]) (rest := []) (L0 := [.ref 48, .int (nI 0)]) 18 rfl rfl (by decide) rfl rfl ⟨rfl, Or.inr rfl, Nat.le_of_ble_eq_true rfl, Nat.le_of_ble_eq_true rfl⟩ rfl rfl rfl ?_
      refine vm_WM.thenv h (fun M6 h => ?_)
      show vm_WM X 129 37 [.ref 48, .int v4, .null, .null, .null] [] M6 _
      refine vm_WM.seq 19 3 (pc' := 41) (L' := [.ref 48, .int v4, .null, .null, .null]) (S' := [.int (nI 99), .int (nI 0), .ref 48]) (M' := M6) rfl ?_
      refine vm_WM.call (a := 125) (as := [.ref 48, .int (nI 0), .int (nI 99)]) (rest := []) (L0 := [.ref 48, .int (nI 0), .int (nI 99), .null]) 22 rfl rfl (by decide) rfl rfl ⟨rfl, Or.inr rfl, Nat.le_of_ble_eq_true rfl, Nat.le_of_ble_eq_true rfl⟩ rfl rfl rfl ?_
      refine vm_WM.theni h (fun v7 M8 h => ?_)
      show vm_WM X 129 44 [.ref 48, .int v4, .null, .null, .null] [.int v7] M8 _
      refine vm_WM.seq 23 4 (pc' := 49) (L' := [.ref 48, .int v4, .int v7, .null, .null]) (S' := [.int (nI 60), .int (nI 0), .ref 48]) (M' := M8) rfl ?_
      refine vm_WM.call (a := 125) (as := [.ref 48, .int (nI 0), .int (nI 60)]) (rest := []) (L0 := [.ref 48, .int (nI 0), .int (nI 60), .null]) 27 rfl rfl (by decide) rfl rfl ⟨rfl, Or.inr rfl, Nat.le_of_ble_eq_true rfl, Nat.le_of_ble_eq_true rfl⟩ rfl rfl rfl ?_
      refine vm_WM.theni h (fun v9 M10 h => ?_)
      show vm_WM X 129 52 [.ref 48, .int v4, .int v7, .null, .null] [.int v9] M10 _
      refine vm_WM.seq 28 2 (pc' := 54) (L' := [.ref 48, .int v4, .int v7, .int v9, .null]) (S' := [.ref 48]) (M' := M10) rfl ?_
      refine vm_WM.call (a := 127) (as := [.ref 48]) (rest := []) (L0 := [.ref 48]) 30 rfl rfl (by decide) rfl rfl ⟨rfl, Or.inr rfl, Nat.le_of_ble_eq_true rfl, Nat.le_of_ble_eq_true rfl⟩ rfl rfl rfl ?_
      refine vm_WM.thenv h (fun M11 h => ?_)
      show vm_WM X 129 57 [.ref 48, .int v4, .int v7, .int v9, .null] [] M11 _
      refine vm_WM.seq 31 2 (pc' := 61) (L' := [.ref 48, .int v4, .int v7, .int v9, .null]) (S' := [.int (M11 48 17)]) (M' := M11) rfl ?_
      refine vm_WM.if (c := (M11 48 17) = 0) (t1 := 64) (t2 := 115) (S' := []) 33 rfl rfl rfl (fun hc => ?_) (fun hc => ?_)
      · replace h := h.1 hc
        refine vm_WM.seq 34 5 (pc' := 72) (L' := [.ref 48, .int v4, .int v7, .int v9, .null]) (S' := [.int (nI 2), .ref 53, .int (nI 4), .int (nI 6)]) (M' := M11) rfl ?_
        refine vm_WM.ald (n := 70) (jj := 2) 39 rfl (Or.inl ⟨rfl, rfl⟩) (by decide) rfl rfl (by decide) ?_
        refine vm_WM.seq 40 7 (pc' := 84) (L' := [.ref 48, .int v4, .int v7, .int v9, .int ((nI 6) + ((nI 4) * (M11 53 2)))]) (S' := [.int v4, .int ((nI 6) + ((nI 4) * (M11 53 2))), .ref 53]) (M' := M11) rfl ?_
        obtain ⟨j12, hj1, hj2, h⟩ := h
        refine vm_WM.ast (n := 70) (jj := j12) 47 rfl rfl hj1 hj2 ?_
        refine vm_WM.seq 48 6 (pc' := 94) (L' := [.ref 48, .int v4, .int v7, .int v9, .int ((nI 6) + ((nI 4) * (M11 53 2)))]) (S' := [.int v7, .int (((nI 6) + ((nI 4) * (M11 53 2))) + (nI 1)), .ref 53]) (M' := (vm_u2 M11 53 j12 v4)) rfl ?_
        obtain ⟨j13, hj1, hj2, h⟩ := h
        refine vm_WM.ast (n := 70) (jj := j13) 54 rfl rfl hj1 hj2 ?_
        refine vm_WM.seq 55 6 (pc' := 104) (L' := [.ref 48, .int v4, .int v7, .int v9, .int ((nI 6) + ((nI 4) * (M11 53 2)))]) (S' := [.int v9, .int (((nI 6) + ((nI 4) * (M11 53 2))) + (nI 2)), .ref 53]) (M' := (vm_u2 (vm_u2 M11 53 j12 v4) 53 j13 v7)) rfl ?_
        obtain ⟨j14, hj1, hj2, h⟩ := h
        refine vm_WM.ast (n := 70) (jj := j14) 61 rfl rfl hj1 hj2 ?_
        refine vm_WM.seq 62 4 (pc' := 111) (L' := [.ref 48, .int v4, .int v7, .int v9, .int ((nI 6) + ((nI 4) * (M11 53 2)))]) (S' := [.int (nI 2), .ref 53, .int (nI 2), .ref 53]) (M' := (vm_u2 (vm_u2 (vm_u2 M11 53 j12 v4) 53 j13 v7) 53 j14 v9)) rfl ?_
        refine vm_WM.ald (n := 70) (jj := 2) 66 rfl (Or.inl ⟨rfl, rfl⟩) (by decide) rfl rfl (by decide) ?_
        refine vm_WM.seq 67 2 (pc' := 114) (L' := [.ref 48, .int v4, .int v7, .int v9, .int ((nI 6) + ((nI 4) * (M11 53 2)))]) (S' := [.int (((vm_u2 (vm_u2 (vm_u2 M11 53 j12 v4) 53 j13 v7) 53 j14 v9) 53 2) + (nI 1)), .int (nI 2), .ref 53]) (M' := (vm_u2 (vm_u2 (vm_u2 M11 53 j12 v4) 53 j13 v7) 53 j14 v9)) rfl ?_
        refine vm_WM.ast (n := 70) (jj := 2) 69 rfl rfl rfl (by decide) ?_
        exact vm_WM.ret (r := none) 70 rfl rfl rfl ⟨rfl, h⟩
      · replace h := h.2 hc
        exact vm_WM.ret (r := none) 70 rfl rfl rfl ⟨rfl, h⟩
    · replace h := h.2 hc
      refine vm_WM.seq 15 2 (pc' := 34) (L' := [.ref 48, .int v4, .null, .null, .null]) (S' := [.int (nI 1), .ref 48]) (M' := M5) rfl ?_
      refine vm_WM.call (a := 122) (as := [.ref 48, .int (nI 1)]) (rest := []) (L0 := [.ref 48, .int (nI 1)]) 18 rfl rfl (by decide) rfl rfl ⟨rfl, Or.inr rfl, Nat.le_of_ble_eq_true rfl, Nat.le_of_ble_eq_true rfl⟩ rfl rfl rfl ?_
      refine vm_WM.thenv h (fun M15 h => ?_)
      show vm_WM X 129 37 [.ref 48, .int v4, .null, .null, .null] [] M15 _
      refine vm_WM.seq 19 3 (pc' := 41) (L' := [.ref 48, .int v4, .null, .null, .null]) (S' := [.int (nI 99), .int (nI 0), .ref 48]) (M' := M15) rfl ?_
      refine vm_WM.call (a := 125) (as := [.ref 48, .int (nI 0), .int (nI 99)]) (rest := []) (L0 := [.ref 48, .int (nI 0), .int (nI 99), .null]) 22 rfl rfl (by decide) rfl rfl ⟨rfl, Or.inr rfl, Nat.le_of_ble_eq_true rfl, Nat.le_of_ble_eq_true rfl⟩ rfl rfl rfl ?_
      refine vm_WM.theni h (fun v16 M17 h => ?_)
      show vm_WM X 129 44 [.ref 48, .int v4, .null, .null, .null] [.int v16] M17 _
      refine vm_WM.seq 23 4 (pc' := 49) (L' := [.ref 48, .int v4, .int v16, .null, .null]) (S' := [.int (nI 60), .int (nI 0), .ref 48]) (M' := M17) rfl ?_
      refine vm_WM.call (a := 125) (as := [.ref 48, .int (nI 0), .int (nI 60)]) (rest := []) (L0 := [.ref 48, .int (nI 0), .int (nI 60), .null]) 27 rfl rfl (by decide) rfl rfl ⟨rfl, Or.inr rfl, Nat.le_of_ble_eq_true rfl, Nat.le_of_ble_eq_true rfl⟩ rfl rfl rfl ?_
      refine vm_WM.theni h (fun v18 M19 h => ?_)
      show vm_WM X 129 52 [.ref 48, .int v4, .int v16, .null, .null] [.int v18] M19 _
      refine vm_WM.seq 28 2 (pc' := 54) (L' := [.ref 48, .int v4, .int v16, .int v18, .null]) (S' := [.ref 48]) (M' := M19) rfl ?_
      refine vm_WM.call (a := 127) (as := [.ref 48]) (rest := []) (L0 := [.ref 48]) 30 rfl rfl (by decide) rfl rfl ⟨rfl, Or.inr rfl, Nat.le_of_ble_eq_true rfl, Nat.le_of_ble_eq_true rfl⟩ rfl rfl rfl ?_
      refine vm_WM.thenv h (fun M20 h => ?_)
      show vm_WM X 129 57 [.ref 48, .int v4, .int v16, .int v18, .null] [] M20 _
      refine vm_WM.seq 31 2 (pc' := 61) (L' := [.ref 48, .int v4, .int v16, .int v18, .null]) (S' := [.int (M20 48 17)]) (M' := M20) rfl ?_
      refine vm_WM.if (c := (M20 48 17) = 0) (t1 := 64) (t2 := 115) (S' := []) 33 rfl rfl rfl (fun hc => ?_) (fun hc => ?_)
      · replace h := h.1 hc
        refine vm_WM.seq 34 5 (pc' := 72) (L' := [.ref 48, .int v4, .int v16, .int v18, .null]) (S' := [.int (nI 2), .ref 53, .int (nI 4), .int (nI 6)]) (M' := M20) rfl ?_
        refine vm_WM.ald (n := 70) (jj := 2) 39 rfl (Or.inl ⟨rfl, rfl⟩) (by decide) rfl rfl (by decide) ?_
        refine vm_WM.seq 40 7 (pc' := 84) (L' := [.ref 48, .int v4, .int v16, .int v18, .int ((nI 6) + ((nI 4) * (M20 53 2)))]) (S' := [.int v4, .int ((nI 6) + ((nI 4) * (M20 53 2))), .ref 53]) (M' := M20) rfl ?_
        obtain ⟨j21, hj1, hj2, h⟩ := h
        refine vm_WM.ast (n := 70) (jj := j21) 47 rfl rfl hj1 hj2 ?_
        refine vm_WM.seq 48 6 (pc' := 94) (L' := [.ref 48, .int v4, .int v16, .int v18, .int ((nI 6) + ((nI 4) * (M20 53 2)))]) (S' := [.int v16, .int (((nI 6) + ((nI 4) * (M20 53 2))) + (nI 1)), .ref 53]) (M' := (vm_u2 M20 53 j21 v4)) rfl ?_
        obtain ⟨j22, hj1, hj2, h⟩ := h
        refine vm_WM.ast (n := 70) (jj := j22) 54 rfl rfl hj1 hj2 ?_
        refine vm_WM.seq 55 6 (pc' := 104) (L' := [.ref 48, .int v4, .int v16, .int v18, .int ((nI 6) + ((nI 4) * (M20 53 2)))]) (S' := [.int v18, .int (((nI 6) + ((nI 4) * (M20 53 2))) + (nI 2)), .ref 53]) (M' := (vm_u2 (vm_u2 M20 53 j21 v4) 53 j22 v16)) rfl ?_
        obtain ⟨j23, hj1, hj2, h⟩ := h
        refine vm_WM.ast (n := 70) (jj := j23) 61 rfl rfl hj1 hj2 ?_
        refine vm_WM.seq 62 4 (pc' := 111) (L' := [.ref 48, .int v4, .int v16, .int v18, .int ((nI 6) + ((nI 4) * (M20 53 2)))]) (S' := [.int (nI 2), .ref 53, .int (nI 2), .ref 53]) (M' := (vm_u2 (vm_u2 (vm_u2 M20 53 j21 v4) 53 j22 v16) 53 j23 v18)) rfl ?_
        refine vm_WM.ald (n := 70) (jj := 2) 66 rfl (Or.inl ⟨rfl, rfl⟩) (by decide) rfl rfl (by decide) ?_
        refine vm_WM.seq 67 2 (pc' := 114) (L' := [.ref 48, .int v4, .int v16, .int v18, .int ((nI 6) + ((nI 4) * (M20 53 2)))]) (S' := [.int (((vm_u2 (vm_u2 (vm_u2 M20 53 j21 v4) 53 j22 v16) 53 j23 v18) 53 2) + (nI 1)), .int (nI 2), .ref 53]) (M' := (vm_u2 (vm_u2 (vm_u2 M20 53 j21 v4) 53 j22 v16) 53 j23 v18)) rfl ?_
        refine vm_WM.ast (n := 70) (jj := 2) 69 rfl rfl rfl (by decide) ?_
        exact vm_WM.ret (r := none) 70 rfl rfl rfl ⟨rfl, h⟩
      · replace h := h.2 hc
        exact vm_WM.ret (r := none) 70 rfl rfl rfl ⟨rfl, h⟩
  · replace h := h.2 hc
    refine vm_WM.seq 19 3 (pc' := 41) (L' := [.ref 48, .int v4, .null, .null, .null]) (S' := [.int (nI 99), .int (nI 0), .ref 48]) (M' := M5) rfl ?_
    refine vm_WM.call (a := 125) (as := [.ref 48, .int (nI 0), .int (nI 99)]) (rest := []) (L0 := [.ref 48, .int (nI 0), .int (nI 99), .null]) 22 rfl rfl (by decide) rfl rfl ⟨rfl, Or.inr rfl, Nat.le_of_ble_eq_true rfl, Nat.le_of_ble_eq_true rfl⟩ rfl rfl rfl ?_
    refine vm_WM.theni h (fun v24 M25 h => ?_)
    show vm_WM X 129 44 [.ref 48, .int v4, .null, .null, .null] [.int v24] M25 _
    refine vm_WM.seq 23 4 (pc' := 49) (L' := [.ref 48, .int v4, .int v24, .null, .null]) (S' := [.int (nI 60), .int (nI 0), .ref 48]) (M' := M25) rfl ?_
    refine vm_WM.call (a := 125) (as := [.ref 48, .int (nI 0), .int (nI 60)]) (rest := []) (L0 := [.ref 48, .int (nI 0), .int (nI 60), .null]) 27 rfl rfl (by decide) rfl rfl ⟨rfl, Or.inr rfl, Nat.le_of_ble_eq_true rfl, Nat.le_of_ble_eq_true rfl⟩ rfl rfl rfl ?_
    refine vm_WM.theni h (fun v26 M27 h => ?_)
    show vm_WM X 129 52 [.ref 48, .int v4, .int v24, .null, .null] [.int v26] M27 _
    refine vm_WM.seq 28 2 (pc' := 54) (L' := [.ref 48, .int v4, .int v24, .int v26, .null]) (S' := [.ref 48]) (M' := M27) rfl ?_
    refine vm_WM.call (a := 127) (as := [.ref 48]) (rest := []) (L0 := [.ref 48]) 30 rfl rfl (by decide) rfl rfl ⟨rfl, Or.inr rfl, Nat.le_of_ble_eq_true rfl, Nat.le_of_ble_eq_true rfl⟩ rfl rfl rfl ?_
    refine vm_WM.thenv h (fun M28 h => ?_)
    show vm_WM X 129 57 [.ref 48, .int v4, .int v24, .int v26, .null] [] M28 _
    refine vm_WM.seq 31 2 (pc' := 61) (L' := [.ref 48, .int v4, .int v24, .int v26, .null]) (S' := [.int (M28 48 17)]) (M' := M28) rfl ?_
    refine vm_WM.if (c := (M28 48 17) = 0) (t1 := 64) (t2 := 115) (S' := []) 33 rfl rfl rfl (fun hc => ?_) (fun hc => ?_)
    · replace h := h.1 hc
      refine vm_WM.seq 34 5 (pc' := 72) (L' := [.ref 48, .int v4, .int v24, .int v26, .null]) (S' := [.int (nI 2), .ref 53, .int (nI 4), .int (nI 6)]) (M' := M28) rfl ?_
      refine vm_WM.ald (n := 70) (jj := 2) 39 rfl (Or.inl ⟨rfl, rfl⟩) (by decide) rfl rfl (by decide) ?_
      refine vm_WM.seq 40 7 (pc' := 84) (L' := [.ref 48, .int v4, .int v24, .int v26, .int ((nI 6) + ((nI 4) * (M28 53 2)))]) (S' := [.int v4, .int ((nI 6) + ((nI 4) * (M28 53 2))), .ref 53]) (M' := M28) rfl ?_
      obtain ⟨j29, hj1, hj2, h⟩ := h
      refine vm_WM.ast (n := 70) (jj := j29) 47 rfl rfl hj1 hj2 ?_
      refine vm_WM.seq 48 6 (pc' := 94) (L' := [.ref 48, .int v4, .int v24, .int v26, .int ((nI 6) + ((nI 4) * (M28 53 2)))]) (S' := [.int v24, .int (((nI 6) + ((nI 4) * (M28 53 2))) + (nI 1)), .ref 53]) (M' := (vm_u2 M28 53 j29 v4)) rfl ?_
      obtain ⟨j30, hj1, hj2, h⟩ := h
      refine vm_WM.ast (n := 70) (jj := j30) 54 rfl rfl hj1 hj2 ?_
      refine vm_WM.seq 55 6 (pc' := 104) (L' := [.ref 48, .int v4, .int v24, .int v26, .int ((nI 6) + ((nI 4) * (M28 53 2)))]) (S' := [.int v26, .int (((nI 6) + ((nI 4) * (M28 53 2))) + (nI 2)), .ref 53]) (M' := (vm_u2 (vm_u2 M28 53 j29 v4) 53 j30 v24)) rfl ?_
      obtain ⟨j31, hj1, hj2, h⟩ := h
      refine vm_WM.ast (n := 70) (jj := j31) 61 rfl rfl hj1 hj2 ?_
      refine vm_WM.seq 62 4 (pc' := 111) (L' := [.ref 48, .int v4, .int v24, .int v26, .int ((nI 6) + ((nI 4) * (M28 53 2)))]) (S' := [.int (nI 2), .ref 53, .int (nI 2), .ref 53]) (M' := (vm_u2 (vm_u2 (vm_u2 M28 53 j29 v4) 53 j30 v24) 53 j31 v26)) rfl ?_
      refine vm_WM.ald (n := 70) (jj := 2) 66 rfl (Or.inl ⟨rfl, rfl⟩) (by decide) rfl rfl (by decide) ?_
      refine vm_WM.seq 67 2 (pc' := 114) (L' := [.ref 48, .int v4, .int v24, .int v26, .int ((nI 6) + ((nI 4) * (M28 53 2)))]) (S' := [.int (((vm_u2 (vm_u2 (vm_u2 M28 53 j29 v4) 53 j30 v24) 53 j31 v26) 53 2) + (nI 1)), .int (nI 2), .ref 53]) (M' := (vm_u2 (vm_u2 (vm_u2 M28 53 j29 v4) 53 j30 v24) 53 j31 v26)) rfl ?_
      refine vm_WM.ast (n := 70) (jj := 2) 69 rfl rfl rfl (by decide) ?_
      exact vm_WM.ret (r := none) 70 rfl rfl rfl ⟨rfl, h⟩
    · replace h := h.2 hc
      exact vm_WM.ret (r := none) 70 rfl rfl rfl ⟨rfl, h⟩
