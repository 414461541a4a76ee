/-! THE LAW's loop (by wip/whole/lawgen.py) -/
def C_L_18 (X : Nat × (Nat → Int32)) (x3 : Int32) (M : vm_M) (P : Int32 → vm_M → Prop) : Prop := vm_WM X 180 18 [.ref 2000, .ref 0, .ref 48, .int x3] [] M (vm_qi P)
def C_L_160 (X : Nat × (Nat → Int32)) (x3 : Int32) (M : vm_M) (P : Int32 → vm_M → Prop) : Prop := vm_WM X 180 160 [.ref 2000, .ref 0, .ref 48, .int x3] [] M (vm_qi P)
def C_L_203 (X : Nat × (Nat → Int32)) (x3 : Int32) (M : vm_M) (P : Int32 → vm_M → Prop) : Prop := vm_WM X 180 203 [.ref 2000, .ref 0, .ref 48, .int x3] [] M (vm_qi P)
def C_L_246 (X : Nat × (Nat → Int32)) (x3 : Int32) (M : vm_M) (P : Int32 → vm_M → Prop) : Prop := vm_WM X 180 246 [.ref 2000, .ref 0, .ref 48, .int x3] [] M (vm_qi P)
def C_L_309 (X : Nat × (Nat → Int32)) (x3 : Int32) (M : vm_M) (P : Int32 → vm_M → Prop) : Prop := vm_WM X 180 309 [.ref 2000, .ref 0, .ref 48, .int x3] [] M (vm_qi P)
def C_L_332 (X : Nat × (Nat → Int32)) (x3 : Int32) (M : vm_M) (P : Int32 → vm_M → Prop) : Prop := vm_WM X 180 332 [.ref 2000, .ref 0, .ref 48, .int x3] [] M (vm_qi P)
def C_L_395 (X : Nat × (Nat → Int32)) (x3 : Int32) (M : vm_M) (P : Int32 → vm_M → Prop) : Prop := vm_WM X 180 395 [.ref 2000, .ref 0, .ref 48, .int x3] [] M (vm_qi P)
def C_L_408 (X : Nat × (Nat → Int32)) (x3 : Int32) (M : vm_M) (P : Int32 → vm_M → Prop) : Prop := vm_WM X 180 408 [.ref 2000, .ref 0, .ref 48, .int x3] [] M (vm_qi P)
def C_L_421 (X : Nat × (Nat → Int32)) (x3 : Int32) (M : vm_M) (P : Int32 → vm_M → Prop) : Prop := vm_WM X 180 421 [.ref 2000, .ref 0, .ref 48, .int x3] [] M (vm_qi P)
def C_L_444 (X : Nat × (Nat → Int32)) (x3 : Int32) (M : vm_M) (P : Int32 → vm_M → Prop) : Prop := vm_WM X 180 444 [.ref 2000, .ref 0, .ref 48, .int x3] [] M (vm_qi P)
def C_L_467 (X : Nat × (Nat → Int32)) (x3 : Int32) (M : vm_M) (P : Int32 → vm_M → Prop) : Prop := vm_WM X 180 467 [.ref 2000, .ref 0, .ref 48, .int x3] [] M (vm_qi P)
def C_L_490 (X : Nat × (Nat → Int32)) (x3 : Int32) (M : vm_M) (P : Int32 → vm_M → Prop) : Prop := vm_WM X 180 490 [.ref 2000, .ref 0, .ref 48, .int x3] [] M (vm_qi P)
def C_L_503 (X : Nat × (Nat → Int32)) (x3 : Int32) (M : vm_M) (P : Int32 → vm_M → Prop) : Prop := vm_WM X 180 503 [.ref 2000, .ref 0, .ref 48, .int x3] [] M (vm_qi P)
def C_L_536 (X : Nat × (Nat → Int32)) (x3 : Int32) (M : vm_M) (P : Int32 → vm_M → Prop) : Prop := vm_WM X 180 536 [.ref 2000, .ref 0, .ref 48, .int x3] [] M (vm_qi P)
def C_L_569 (X : Nat × (Nat → Int32)) (x3 : Int32) (M : vm_M) (P : Int32 → vm_M → Prop) : Prop := vm_WM X 180 569 [.ref 2000, .ref 0, .ref 48, .int x3] [] M (vm_qi P)
def C_L_612 (X : Nat × (Nat → Int32)) (x3 : Int32) (M : vm_M) (P : Int32 → vm_M → Prop) : Prop := vm_WM X 180 612 [.ref 2000, .ref 0, .ref 48, .int x3] [] M (vm_qi P)
def C_L_645 (X : Nat × (Nat → Int32)) (x3 : Int32) (M : vm_M) (P : Int32 → vm_M → Prop) : Prop := vm_WM X 180 645 [.ref 2000, .ref 0, .ref 48, .int x3] [] M (vm_qi P)
def C_L_678 (X : Nat × (Nat → Int32)) (x3 : Int32) (M : vm_M) (P : Int32 → vm_M → Prop) : Prop := vm_WM X 180 678 [.ref 2000, .ref 0, .ref 48, .int x3] [] M (vm_qi P)
def C_L_721 (X : Nat × (Nat → Int32)) (x3 : Int32) (M : vm_M) (P : Int32 → vm_M → Prop) : Prop := vm_WM X 180 721 [.ref 2000, .ref 0, .ref 48, .int x3] [] M (vm_qi P)
def C_L_744 (X : Nat × (Nat → Int32)) (x3 : Int32) (M : vm_M) (P : Int32 → vm_M → Prop) : Prop := vm_WM X 180 744 [.ref 2000, .ref 0, .ref 48, .int x3] [] M (vm_qi P)
def C_L_767 (X : Nat × (Nat → Int32)) (x3 : Int32) (M : vm_M) (P : Int32 → vm_M → Prop) : Prop := vm_WM X 180 767 [.ref 2000, .ref 0, .ref 48, .int x3] [] M (vm_qi P)
def C_L_820 (X : Nat × (Nat → Int32)) (x3 : Int32) (M : vm_M) (P : Int32 → vm_M → Prop) : Prop := vm_WM X 180 820 [.ref 2000, .ref 0, .ref 48, .int x3] [] M (vm_qi P)
def C_L_843 (X : Nat × (Nat → Int32)) (x3 : Int32) (M : vm_M) (P : Int32 → vm_M → Prop) : Prop := vm_WM X 180 843 [.ref 2000, .ref 0, .ref 48, .int x3] [] M (vm_qi P)
def C_L_866 (X : Nat × (Nat → Int32)) (x3 : Int32) (M : vm_M) (P : Int32 → vm_M → Prop) : Prop := vm_WM X 180 866 [.ref 2000, .ref 0, .ref 48, .int x3] [] M (vm_qi P)
def C_L_889 (X : Nat × (Nat → Int32)) (x3 : Int32) (M : vm_M) (P : Int32 → vm_M → Prop) : Prop := vm_WM X 180 889 [.ref 2000, .ref 0, .ref 48, .int x3] [] M (vm_qi P)
def C_L_922 (X : Nat × (Nat → Int32)) (x3 : Int32) (M : vm_M) (P : Int32 → vm_M → Prop) : Prop := vm_WM X 180 922 [.ref 2000, .ref 0, .ref 48, .int x3] [] M (vm_qi P)
def C_L_955 (X : Nat × (Nat → Int32)) (x3 : Int32) (M : vm_M) (P : Int32 → vm_M → Prop) : Prop := vm_WM X 180 955 [.ref 2000, .ref 0, .ref 48, .int x3] [] M (vm_qi P)
def C_L_978 (X : Nat × (Nat → Int32)) (x3 : Int32) (M : vm_M) (P : Int32 → vm_M → Prop) : Prop := vm_WM X 180 978 [.ref 2000, .ref 0, .ref 48, .int x3] [] M (vm_qi P)
def C_L_1001 (X : Nat × (Nat → Int32)) (x3 : Int32) (M : vm_M) (P : Int32 → vm_M → Prop) : Prop := vm_WM X 180 1001 [.ref 2000, .ref 0, .ref 48, .int x3] [] M (vm_qi P)
def C_L_1014 (X : Nat × (Nat → Int32)) (x3 : Int32) (M : vm_M) (P : Int32 → vm_M → Prop) : Prop := vm_WM X 180 1014 [.ref 2000, .ref 0, .ref 48, .int x3] [] M (vm_qi P)
set_option maxRecDepth 100000 in
theorem v_L_18 {X : Nat × (Nat → Int32)} (hX : X.1 < 10000) {x3 : Int32} {M : vm_M} {P : Int32 → vm_M → Prop} (h : (((Int32.ofNat X.1) - (nI 6)) < x3 → (P (nI 1) M)) ∧ (¬ (((Int32.ofNat X.1) - (nI 6)) < x3) → (∃ j1 : Nat, x3 = nI j1 ∧ j1 < X.1 ∧ (((((X.2 j1) &&& (nI 31))).toInt < 0 ∨ 27 < (((X.2 j1) &&& (nI 31))).toInt → (C_L_1014 X x3 M P)) ∧ ((((X.2 j1) &&& (nI 31)) = (nI 0) → (C_L_160 X x3 M P)) ∧ (((X.2 j1) &&& (nI 31)) = (nI 1) → (C_L_203 X x3 M P)) ∧ (((X.2 j1) &&& (nI 31)) = (nI 2) → (C_L_246 X x3 M P)) ∧ (((X.2 j1) &&& (nI 31)) = (nI 3) → (C_L_309 X x3 M P)) ∧ (((X.2 j1) &&& (nI 31)) = (nI 4) → (C_L_332 X x3 M P)) ∧ (((X.2 j1) &&& (nI 31)) = (nI 5) → (C_L_395 X x3 M P)) ∧ (((X.2 j1) &&& (nI 31)) = (nI 6) → (C_L_408 X x3 M P)) ∧ (((X.2 j1) &&& (nI 31)) = (nI 7) → (C_L_421 X x3 M P)) ∧ (((X.2 j1) &&& (nI 31)) = (nI 8) → (C_L_444 X x3 M P)) ∧ (((X.2 j1) &&& (nI 31)) = (nI 9) → (C_L_467 X x3 M P)) ∧ (((X.2 j1) &&& (nI 31)) = (nI 10) → (C_L_490 X x3 M P)) ∧ (((X.2 j1) &&& (nI 31)) = (nI 11) → (C_L_503 X x3 M P)) ∧ (((X.2 j1) &&& (nI 31)) = (nI 12) → (C_L_536 X x3 M P)) ∧ (((X.2 j1) &&& (nI 31)) = (nI 13) → (C_L_569 X x3 M P)) ∧ (((X.2 j1) &&& (nI 31)) = (nI 14) → (C_L_612 X x3 M P)) ∧ (((X.2 j1) &&& (nI 31)) = (nI 15) → (C_L_645 X x3 M P)) ∧ (((X.2 j1) &&& (nI 31)) = (nI 16) → (C_L_678 X x3 M P)) ∧ (((X.2 j1) &&& (nI 31)) = (nI 17) → (C_L_721 X x3 M P)) ∧ (((X.2 j1) &&& (nI 31)) = (nI 18) → (C_L_744 X x3 M P)) ∧ (((X.2 j1) &&& (nI 31)) = (nI 19) → (C_L_767 X x3 M P)) ∧ (((X.2 j1) &&& (nI 31)) = (nI 20) → (C_L_820 X x3 M P)) ∧ (((X.2 j1) &&& (nI 31)) = (nI 21) → (C_L_843 X x3 M P)) ∧ (((X.2 j1) &&& (nI 31)) = (nI 22) → (C_L_866 X x3 M P)) ∧ (((X.2 j1) &&& (nI 31)) = (nI 23) → (C_L_889 X x3 M P)) ∧ (((X.2 j1) &&& (nI 31)) = (nI 24) → (C_L_922 X x3 M P)) ∧ (((X.2 j1) &&& (nI 31)) = (nI 25) → (C_L_955 X x3 M P)) ∧ (((X.2 j1) &&& (nI 31)) = (nI 26) → (C_L_978 X x3 M P)) ∧ (((X.2 j1) &&& (nI 31)) = (nI 27) → (C_L_1001 X x3 M P))))))) : C_L_18 X x3 M P := by
  unfold C_L_18
  refine vm_WM.seq 10 5 (pc' := 24) (L' := [.ref 2000, .ref 0, .ref 48, .int x3]) (S' := [.int ((Int32.ofNat X.1) - (nI 6)), .int x3]) (M' := M) rfl ?_
  refine vm_WM.if (c := ((Int32.ofNat X.1) - (nI 6)) < x3) (t1 := 1020) (t2 := 27) (S' := []) 15 rfl rfl rfl (fun hc => ?_) (fun hc => ?_)
  · replace h := h.1 hc
    refine vm_WM.seq 704 1 (pc' := 1021) (L' := [.ref 2000, .ref 0, .ref 48, .int x3]) (S' := [.int (nI 1)]) (M' := M) rfl ?_
    exact vm_WM.ret (r := some (.int (nI 1))) 705 rfl rfl rfl ⟨_, rfl, h⟩
  · replace h := h.2 hc
    refine vm_WM.seq 16 2 (pc' := 29) (L' := [.ref 2000, .ref 0, .ref 48, .int x3]) (S' := [.int x3, .ref 2000]) (M' := M) rfl ?_
    obtain ⟨j1, hj1, hj2, h⟩ := h
    refine vm_WM.sld 18 hX rfl hj1 hj2 ?_
    refine vm_WM.seq 19 2 (pc' := 33) (L' := [.ref 2000, .ref 0, .ref 48, .int x3]) (S' := [.int ((X.2 j1) &&& (nI 31))]) (M' := M) rfl ?_
    by_cases hlo : (((X.2 j1) &&& (nI 31))).toInt < 0 ∨ 27 < (((X.2 j1) &&& (nI 31))).toInt
    · replace h := h.1 hlo
      refine vm_WM.tso (t := 1014) 21 rfl hlo rfl ?_
      exact h
    · replace h := h.2
      by_cases hq0 : ((X.2 j1) &&& (nI 31)) = (nI 0)
      · replace h := h.1 hq0
        refine vm_WM.tsi (t := 160) (v := 0) 21 rfl hq0 (by decide) rfl ?_
        exact h
      by_cases hq1 : ((X.2 j1) &&& (nI 31)) = (nI 1)
      · replace h := h.2.1 hq1
        refine vm_WM.tsi (t := 203) (v := 1) 21 rfl hq1 (by decide) rfl ?_
        exact h
      by_cases hq2 : ((X.2 j1) &&& (nI 31)) = (nI 2)
      · replace h := h.2.2.1 hq2
        refine vm_WM.tsi (t := 246) (v := 2) 21 rfl hq2 (by decide) rfl ?_
        exact h
      by_cases hq3 : ((X.2 j1) &&& (nI 31)) = (nI 3)
      · replace h := h.2.2.2.1 hq3
        refine vm_WM.tsi (t := 309) (v := 3) 21 rfl hq3 (by decide) rfl ?_
        exact h
      by_cases hq4 : ((X.2 j1) &&& (nI 31)) = (nI 4)
      · replace h := h.2.2.2.2.1 hq4
        refine vm_WM.tsi (t := 332) (v := 4) 21 rfl hq4 (by decide) rfl ?_
        exact h
      by_cases hq5 : ((X.2 j1) &&& (nI 31)) = (nI 5)
      · replace h := h.2.2.2.2.2.1 hq5
        refine vm_WM.tsi (t := 395) (v := 5) 21 rfl hq5 (by decide) rfl ?_
        exact h
      by_cases hq6 : ((X.2 j1) &&& (nI 31)) = (nI 6)
      · replace h := h.2.2.2.2.2.2.1 hq6
        refine vm_WM.tsi (t := 408) (v := 6) 21 rfl hq6 (by decide) rfl ?_
        exact h
      by_cases hq7 : ((X.2 j1) &&& (nI 31)) = (nI 7)
      · replace h := h.2.2.2.2.2.2.2.1 hq7
        refine vm_WM.tsi (t := 421) (v := 7) 21 rfl hq7 (by decide) rfl ?_
        exact h
      by_cases hq8 : ((X.2 j1) &&& (nI 31)) = (nI 8)
      · replace h := h.2.2.2.2.2.2.2.2.1 hq8
        refine vm_WM.tsi (t := 444) (v := 8) 21 rfl hq8 (by decide) rfl ?_
        exact h
      by_cases hq9 : ((X.2 j1) &&& (nI 31)) = (nI 9)
      · replace h := h.2.2.2.2.2.2.2.2.2.1 hq9
        refine vm_WM.tsi (t := 467) (v := 9) 21 rfl hq9 (by decide) rfl ?_
        exact h
      by_cases hq10 : ((X.2 j1) &&& (nI 31)) = (nI 10)
      · replace h := h.2.2.2.2.2.2.2.2.2.2.1 hq10
        refine vm_WM.tsi (t := 490) (v := 10) 21 rfl hq10 (by decide) rfl ?_
        exact h
      by_cases hq11 : ((X.2 j1) &&& (nI 31)) = (nI 11)
      · replace h := h.2.2.2.2.2.2.2.2.2.2.2.1 hq11
        refine vm_WM.tsi (t := 503) (v := 11) 21 rfl hq11 (by decide) rfl ?_
        exact h
      by_cases hq12 : ((X.2 j1) &&& (nI 31)) = (nI 12)
      · replace h := h.2.2.2.2.2.2.2.2.2.2.2.2.1 hq12
        refine vm_WM.tsi (t := 536) (v := 12) 21 rfl hq12 (by decide) rfl ?_
        exact h
      by_cases hq13 : ((X.2 j1) &&& (nI 31)) = (nI 13)
      · replace h := h.2.2.2.2.2.2.2.2.2.2.2.2.2.1 hq13
        refine vm_WM.tsi (t := 569) (v := 13) 21 rfl hq13 (by decide) rfl ?_
        exact h
      by_cases hq14 : ((X.2 j1) &&& (nI 31)) = (nI 14)
      · replace h := h.2.2.2.2.2.2.2.2.2.2.2.2.2.2.1 hq14
        refine vm_WM.tsi (t := 612) (v := 14) 21 rfl hq14 (by decide) rfl ?_
        exact h
      by_cases hq15 : ((X.2 j1) &&& (nI 31)) = (nI 15)
      · replace h := h.2.2.2.2.2.2.2.2.2.2.2.2.2.2.2.1 hq15
        refine vm_WM.tsi (t := 645) (v := 15) 21 rfl hq15 (by decide) rfl ?_
        exact h
      by_cases hq16 : ((X.2 j1) &&& (nI 31)) = (nI 16)
      · replace h := h.2.2.2.2.2.2.2.2.2.2.2.2.2.2.2.2.1 hq16
        refine vm_WM.tsi (t := 678) (v := 16) 21 rfl hq16 (by decide) rfl ?_
        exact h
      by_cases hq17 : ((X.2 j1) &&& (nI 31)) = (nI 17)
      · replace h := h.2.2.2.2.2.2.2.2.2.2.2.2.2.2.2.2.2.1 hq17
        refine vm_WM.tsi (t := 721) (v := 17) 21 rfl hq17 (by decide) rfl ?_
        exact h
      by_cases hq18 : ((X.2 j1) &&& (nI 31)) = (nI 18)
      · replace h := h.2.2.2.2.2.2.2.2.2.2.2.2.2.2.2.2.2.2.1 hq18
        refine vm_WM.tsi (t := 744) (v := 18) 21 rfl hq18 (by decide) rfl ?_
        exact h
      by_cases hq19 : ((X.2 j1) &&& (nI 31)) = (nI 19)
      · replace h := h.2.2.2.2.2.2.2.2.2.2.2.2.2.2.2.2.2.2.2.1 hq19
        refine vm_WM.tsi (t := 767) (v := 19) 21 rfl hq19 (by decide) rfl ?_
        exact h
      by_cases hq20 : ((X.2 j1) &&& (nI 31)) = (nI 20)
      · replace h := h.2.2.2.2.2.2.2.2.2.2.2.2.2.2.2.2.2.2.2.2.1 hq20
        refine vm_WM.tsi (t := 820) (v := 20) 21 rfl hq20 (by decide) rfl ?_
        exact h
      by_cases hq21 : ((X.2 j1) &&& (nI 31)) = (nI 21)
      · replace h := h.2.2.2.2.2.2.2.2.2.2.2.2.2.2.2.2.2.2.2.2.2.1 hq21
        refine vm_WM.tsi (t := 843) (v := 21) 21 rfl hq21 (by decide) rfl ?_
        exact h
      by_cases hq22 : ((X.2 j1) &&& (nI 31)) = (nI 22)
      · replace h := h.2.2.2.2.2.2.2.2.2.2.2.2.2.2.2.2.2.2.2.2.2.2.1 hq22
        refine vm_WM.tsi (t := 866) (v := 22) 21 rfl hq22 (by decide) rfl ?_
        exact h
      by_cases hq23 : ((X.2 j1) &&& (nI 31)) = (nI 23)
      · replace h := h.2.2.2.2.2.2.2.2.2.2.2.2.2.2.2.2.2.2.2.2.2.2.2.1 hq23
        refine vm_WM.tsi (t := 889) (v := 23) 21 rfl hq23 (by decide) rfl ?_
        exact h
      by_cases hq24 : ((X.2 j1) &&& (nI 31)) = (nI 24)
      · replace h := h.2.2.2.2.2.2.2.2.2.2.2.2.2.2.2.2.2.2.2.2.2.2.2.2.1 hq24
        refine vm_WM.tsi (t := 922) (v := 24) 21 rfl hq24 (by decide) rfl ?_
        exact h
      by_cases hq25 : ((X.2 j1) &&& (nI 31)) = (nI 25)
      · replace h := h.2.2.2.2.2.2.2.2.2.2.2.2.2.2.2.2.2.2.2.2.2.2.2.2.2.1 hq25
        refine vm_WM.tsi (t := 955) (v := 25) 21 rfl hq25 (by decide) rfl ?_
        exact h
      by_cases hq26 : ((X.2 j1) &&& (nI 31)) = (nI 26)
      · replace h := h.2.2.2.2.2.2.2.2.2.2.2.2.2.2.2.2.2.2.2.2.2.2.2.2.2.2.1 hq26
        refine vm_WM.tsi (t := 978) (v := 26) 21 rfl hq26 (by decide) rfl ?_
        exact h
      by_cases hq27 : ((X.2 j1) &&& (nI 31)) = (nI 27)
      · replace h := h.2.2.2.2.2.2.2.2.2.2.2.2.2.2.2.2.2.2.2.2.2.2.2.2.2.2.2 hq27
        refine vm_WM.tsi (t := 1001) (v := 27) 21 rfl hq27 (by decide) rfl ?_
        exact h
      exact absurd (vm_sw_no (lo := 0) (n := 28) (by decide) (fun q hq => by
        match q, hq with
        | 0, _ => exact hq0
        | 1, _ => exact hq1
        | 2, _ => exact hq2
        | 3, _ => exact hq3
        | 4, _ => exact hq4
        | 5, _ => exact hq5
        | 6, _ => exact hq6
        | 7, _ => exact hq7
        | 8, _ => exact hq8
        | 9, _ => exact hq9
        | 10, _ => exact hq10
        | 11, _ => exact hq11
        | 12, _ => exact hq12
        | 13, _ => exact hq13
        | 14, _ => exact hq14
        | 15, _ => exact hq15
        | 16, _ => exact hq16
        | 17, _ => exact hq17
        | 18, _ => exact hq18
        | 19, _ => exact hq19
        | 20, _ => exact hq20
        | 21, _ => exact hq21
        | 22, _ => exact hq22
        | 23, _ => exact hq23
        | 24, _ => exact hq24
        | 25, _ => exact hq25
        | 26, _ => exact hq26
        | 27, _ => exact hq27
        | q + 28, hq => omega)) hlo
set_option maxRecDepth 100000 in
theorem v_L_160 {X : Nat × (Nat → Int32)} (hX : X.1 < 10000) {x3 : Int32} {M : vm_M} {P : Int32 → vm_M → Prop} (h : ∃ j1 : Nat, (x3 + (nI 1)) = nI j1 ∧ j1 < X.1 ∧ (∃ j2 : Nat, (x3 + (nI 2)) = nI j2 ∧ j2 < X.1 ∧ (∃ j3 : Nat, (x3 + (nI 3)) = nI j3 ∧ j3 < X.1 ∧ (E_B_row X (X.2 j1) (X.2 j2) (X.2 j3) M (fun v4 M5 => ∃ j6 : Nat, (x3 + (nI 1)) = nI j6 ∧ j6 < X.1 ∧ (∃ j7 : Nat, (x3 + (nI 2)) = nI j7 ∧ j7 < X.1 ∧ (∃ j8 : Nat, (x3 + (nI 3)) = nI j8 ∧ j8 < X.1 ∧ (E_M_row X (X.2 j6) (X.2 j7) (X.2 j8) M5 (fun v9 M10 => (v4 = v9 → (C_L_1014 X x3 M10 P)) ∧ (¬ (v4 = v9) → (P (nI 0) M10))))))))))) : C_L_160 X x3 M P := by
  unfold C_L_160
  refine vm_WM.seq 22 5 (pc' := 165) (L' := [.ref 2000, .ref 0, .ref 48, .int x3]) (S' := [.int (x3 + (nI 1)), .ref 2000, .ref 0]) (M' := M) rfl ?_
  obtain ⟨j1, hj1, hj2, h⟩ := h
  refine vm_WM.sld 27 hX rfl hj1 hj2 ?_
  refine vm_WM.seq 28 4 (pc' := 170) (L' := [.ref 2000, .ref 0, .ref 48, .int x3]) (S' := [.int (x3 + (nI 2)), .ref 2000, .int (X.2 j1), .ref 0]) (M' := M) rfl ?_
  obtain ⟨j2, hj1, hj2, h⟩ := h
  refine vm_WM.sld 32 hX rfl hj1 hj2 ?_
  refine vm_WM.seq 33 4 (pc' := 175) (L' := [.ref 2000, .ref 0, .ref 48, .int x3]) (S' := [.int (x3 + (nI 3)), .ref 2000, .int (X.2 j2), .int (X.2 j1), .ref 0]) (M' := M) rfl ?_
  obtain ⟨j3, hj1, hj2, h⟩ := h
  refine vm_WM.sld 37 hX rfl hj1 hj2 ?_
  refine vm_WM.call (a := 74) (as := [.ref 0, .int (X.2 j1), .int (X.2 j2), .int (X.2 j3)]) (rest := []) (L0 := [.ref 0, .int (X.2 j1), .int (X.2 j2), .int (X.2 j3)]) 38 rfl rfl (by decide) rfl rfl ⟨rfl, Or.inr rfl, Nat.le_of_ble_eq_true rfl, Nat.le_of_ble_eq_true rfl⟩ rfl rfl rfl ?_
  refine vm_WM.theni h (fun v4 M5 h => ?_)
  show vm_WM X 180 179 [.ref 2000, .ref 0, .ref 48, .int x3] [.int v4] M5 _
  refine vm_WM.seq 39 5 (pc' := 184) (L' := [.ref 2000, .ref 0, .ref 48, .int x3]) (S' := [.int (x3 + (nI 1)), .ref 2000, .ref 48, .int v4]) (M' := M5) rfl ?_
  obtain ⟨j6, hj1, hj2, h⟩ := h
  refine vm_WM.sld 44 hX rfl hj1 hj2 ?_
  refine vm_WM.seq 45 4 (pc' := 189) (L' := [.ref 2000, .ref 0, .ref 48, .int x3]) (S' := [.int (x3 + (nI 2)), .ref 2000, .int (X.2 j6), .ref 48, .int v4]) (M' := M5) rfl ?_
  obtain ⟨j7, hj1, hj2, h⟩ := h
  refine vm_WM.sld 49 hX rfl hj1 hj2 ?_
  refine vm_WM.seq 50 4 (pc' := 194) (L' := [.ref 2000, .ref 0, .ref 48, .int x3]) (S' := [.int (x3 + (nI 3)), .ref 2000, .int (X.2 j7), .int (X.2 j6), .ref 48, .int v4]) (M' := M5) rfl ?_
  obtain ⟨j8, hj1, hj2, h⟩ := h
  refine vm_WM.sld 54 hX rfl hj1 hj2 ?_
  refine vm_WM.call (a := 111) (as := [.ref 48, .int (X.2 j6), .int (X.2 j7), .int (X.2 j8)]) (rest := [.int v4]) (L0 := [.ref 48, .int (X.2 j6), .int (X.2 j7), .int (X.2 j8), .null]) 55 rfl rfl (by decide) rfl rfl ⟨rfl, Or.inr rfl, Nat.le_of_ble_eq_true rfl, Nat.le_of_ble_eq_true rfl⟩ rfl rfl rfl ?_
  refine vm_WM.theni h (fun v9 M10 h => ?_)
  show vm_WM X 180 198 [.ref 2000, .ref 0, .ref 48, .int x3] [.int v9, .int v4] M10 _
  refine vm_WM.if (c := v4 = v9) (t1 := 1014) (t2 := 201) (S' := []) 56 rfl rfl rfl (fun hc => ?_) (fun hc => ?_)
  · replace h := h.1 hc
    exact h
  · replace h := h.2 hc
    refine vm_WM.seq 57 1 (pc' := 202) (L' := [.ref 2000, .ref 0, .ref 48, .int x3]) (S' := [.int (nI 0)]) (M' := M10) rfl ?_
    exact vm_WM.ret (r := some (.int (nI 0))) 58 rfl rfl rfl ⟨_, rfl, h⟩
set_option maxRecDepth 100000 in
theorem v_L_203 {X : Nat × (Nat → Int32)} (hX : X.1 < 10000) {x3 : Int32} {M : vm_M} {P : Int32 → vm_M → Prop} (h : ∃ j1 : Nat, (x3 + (nI 1)) = nI j1 ∧ j1 < X.1 ∧ (∃ j2 : Nat, (x3 + (nI 2)) = nI j2 ∧ j2 < X.1 ∧ (∃ j3 : Nat, (x3 + (nI 3)) = nI j3 ∧ j3 < X.1 ∧ (E_B_set X (X.2 j1) (X.2 j2) (X.2 j3) M (fun v4 M5 => ∃ j6 : Nat, (x3 + (nI 1)) = nI j6 ∧ j6 < X.1 ∧ (∃ j7 : Nat, (x3 + (nI 2)) = nI j7 ∧ j7 < X.1 ∧ (∃ j8 : Nat, (x3 + (nI 3)) = nI j8 ∧ j8 < X.1 ∧ (E_M_set X (X.2 j6) (X.2 j7) (X.2 j8) M5 (fun v9 M10 => (v4 = v9 → (C_L_1014 X x3 M10 P)) ∧ (¬ (v4 = v9) → (P (nI 0) M10))))))))))) : C_L_203 X x3 M P := by
  unfold C_L_203
  refine vm_WM.seq 59 5 (pc' := 208) (L' := [.ref 2000, .ref 0, .ref 48, .int x3]) (S' := [.int (x3 + (nI 1)), .ref 2000, .ref 0]) (M' := M) rfl ?_
  obtain ⟨j1, hj1, hj2, h⟩ := h
  refine vm_WM.sld 64 hX rfl hj1 hj2 ?_
  refine vm_WM.seq 65 4 (pc' := 213) (L' := [.ref 2000, .ref 0, .ref 48, .int x3]) (S' := [.int (x3 + (nI 2)), .ref 2000, .int (X.2 j1), .ref 0]) (M' := M) rfl ?_
  obtain ⟨j2, hj1, hj2, h⟩ := h
  refine vm_WM.sld 69 hX rfl hj1 hj2 ?_
  refine vm_WM.seq 70 4 (pc' := 218) (L' := [.ref 2000, .ref 0, .ref 48, .int x3]) (S' := [.int (x3 + (nI 3)), .ref 2000, .int (X.2 j2), .int (X.2 j1), .ref 0]) (M' := M) rfl ?_
  obtain ⟨j3, hj1, hj2, h⟩ := h
  refine vm_WM.sld 74 hX rfl hj1 hj2 ?_
  refine vm_WM.call (a := 75) (as := [.ref 0, .int (X.2 j1), .int (X.2 j2), .int (X.2 j3)]) (rest := []) (L0 := [.ref 0, .int (X.2 j1), .int (X.2 j2), .int (X.2 j3), .null]) 75 rfl rfl (by decide) rfl rfl ⟨rfl, Or.inr rfl, Nat.le_of_ble_eq_true rfl, Nat.le_of_ble_eq_true rfl⟩ rfl rfl rfl ?_
  refine vm_WM.theni h (fun v4 M5 h => ?_)
  show vm_WM X 180 222 [.ref 2000, .ref 0, .ref 48, .int x3] [.int v4] M5 _
  refine vm_WM.seq 76 5 (pc' := 227) (L' := [.ref 2000, .ref 0, .ref 48, .int x3]) (S' := [.int (x3 + (nI 1)), .ref 2000, .ref 48, .int v4]) (M' := M5) rfl ?_
  obtain ⟨j6, hj1, hj2, h⟩ := h
  refine vm_WM.sld 81 hX rfl hj1 hj2 ?_
  refine vm_WM.seq 82 4 (pc' := 232) (L' := [.ref 2000, .ref 0, .ref 48, .int x3]) (S' := [.int (x3 + (nI 2)), .ref 2000, .int (X.2 j6), .ref 48, .int v4]) (M' := M5) rfl ?_
  obtain ⟨j7, hj1, hj2, h⟩ := h
  refine vm_WM.sld 86 hX rfl hj1 hj2 ?_
  refine vm_WM.seq 87 4 (pc' := 237) (L' := [.ref 2000, .ref 0, .ref 48, .int x3]) (S' := [.int (x3 + (nI 3)), .ref 2000, .int (X.2 j7), .int (X.2 j6), .ref 48, .int v4]) (M' := M5) rfl ?_
  obtain ⟨j8, hj1, hj2, h⟩ := h
  refine vm_WM.sld 91 hX rfl hj1 hj2 ?_
  refine vm_WM.call (a := 112) (as := [.ref 48, .int (X.2 j6), .int (X.2 j7), .int (X.2 j8)]) (rest := [.int v4]) (L0 := [.ref 48, .int (X.2 j6), .int (X.2 j7), .int (X.2 j8)]) 92 rfl rfl (by decide) rfl rfl ⟨rfl, Or.inr rfl, Nat.le_of_ble_eq_true rfl, Nat.le_of_ble_eq_true rfl⟩ rfl rfl rfl ?_
  refine vm_WM.theni h (fun v9 M10 h => ?_)
  show vm_WM X 180 241 [.ref 2000, .ref 0, .ref 48, .int x3] [.int v9, .int v4] M10 _
  refine vm_WM.if (c := v4 = v9) (t1 := 1014) (t2 := 244) (S' := []) 93 rfl rfl rfl (fun hc => ?_) (fun hc => ?_)
  · replace h := h.1 hc
    exact h
  · replace h := h.2 hc
    refine vm_WM.seq 94 1 (pc' := 245) (L' := [.ref 2000, .ref 0, .ref 48, .int x3]) (S' := [.int (nI 0)]) (M' := M10) rfl ?_
    exact vm_WM.ret (r := some (.int (nI 0))) 95 rfl rfl rfl ⟨_, rfl, h⟩
set_option maxRecDepth 100000 in
theorem v_L_246 {X : Nat × (Nat → Int32)} (hX : X.1 < 10000) {x3 : Int32} {M : vm_M} {P : Int32 → vm_M → Prop} (h : ∃ j1 : Nat, (x3 + (nI 1)) = nI j1 ∧ j1 < X.1 ∧ (∃ j2 : Nat, (x3 + (nI 2)) = nI j2 ∧ j2 < X.1 ∧ (∃ j3 : Nat, (x3 + (nI 3)) = nI j3 ∧ j3 < X.1 ∧ (∃ j4 : Nat, (x3 + (nI 4)) = nI j4 ∧ j4 < X.1 ∧ (∃ j5 : Nat, (x3 + (nI 5)) = nI j5 ∧ j5 < X.1 ∧ (E_B_copy X (X.2 j1) (X.2 j2) (X.2 j3) (X.2 j4) (X.2 j5) M (fun v6 M7 => ∃ j8 : Nat, (x3 + (nI 1)) = nI j8 ∧ j8 < X.1 ∧ (∃ j9 : Nat, (x3 + (nI 2)) = nI j9 ∧ j9 < X.1 ∧ (∃ j10 : Nat, (x3 + (nI 3)) = nI j10 ∧ j10 < X.1 ∧ (∃ j11 : Nat, (x3 + (nI 4)) = nI j11 ∧ j11 < X.1 ∧ (∃ j12 : Nat, (x3 + (nI 5)) = nI j12 ∧ j12 < X.1 ∧ (E_M_copy X (X.2 j8) (X.2 j9) (X.2 j10) (X.2 j11) (X.2 j12) M7 (fun v13 M14 => (v6 = v13 → (C_L_1014 X x3 M14 P)) ∧ (¬ (v6 = v13) → (P (nI 0) M14))))))))))))))) : C_L_246 X x3 M P := by
  unfold C_L_246
  refine vm_WM.seq 96 5 (pc' := 251) (L' := [.ref 2000, .ref 0, .ref 48, .int x3]) (S' := [.int (x3 + (nI 1)), .ref 2000, .ref 0]) (M' := M) rfl ?_
  obtain ⟨j1, hj1, hj2, h⟩ := h
  refine vm_WM.sld 101 hX rfl hj1 hj2 ?_
  refine vm_WM.seq 102 4 (pc' := 256) (L' := [.ref 2000, .ref 0, .ref 48, .int x3]) (S' := [.int (x3 + (nI 2)), .ref 2000, .int (X.2 j1), .ref 0]) (M' := M) rfl ?_
  obtain ⟨j2, hj1, hj2, h⟩ := h
  refine vm_WM.sld 106 hX rfl hj1 hj2 ?_
  refine vm_WM.seq 107 4 (pc' := 261) (L' := [.ref 2000, .ref 0, .ref 48, .int x3]) (S' := [.int (x3 + (nI 3)), .ref 2000, .int (X.2 j2), .int (X.2 j1), .ref 0]) (M' := M) rfl ?_
  obtain ⟨j3, hj1, hj2, h⟩ := h
  refine vm_WM.sld 111 hX rfl hj1 hj2 ?_
  refine vm_WM.seq 112 4 (pc' := 266) (L' := [.ref 2000, .ref 0, .ref 48, .int x3]) (S' := [.int (x3 + (nI 4)), .ref 2000, .int (X.2 j3), .int (X.2 j2), .int (X.2 j1), .ref 0]) (M' := M) rfl ?_
  obtain ⟨j4, hj1, hj2, h⟩ := h
  refine vm_WM.sld 116 hX rfl hj1 hj2 ?_
  refine vm_WM.seq 117 4 (pc' := 271) (L' := [.ref 2000, .ref 0, .ref 48, .int x3]) (S' := [.int (x3 + (nI 5)), .ref 2000, .int (X.2 j4), .int (X.2 j3), .int (X.2 j2), .int (X.2 j1), .ref 0]) (M' := M) rfl ?_
  obtain ⟨j5, hj1, hj2, h⟩ := h
  refine vm_WM.sld 121 hX rfl hj1 hj2 ?_
  refine vm_WM.call (a := 76) (as := [.ref 0, .int (X.2 j1), .int (X.2 j2), .int (X.2 j3), .int (X.2 j4), .int (X.2 j5)]) (rest := []) (L0 := [.ref 0, .int (X.2 j1), .int (X.2 j2), .int (X.2 j3), .int (X.2 j4), .int (X.2 j5), .null]) 122 rfl rfl (by decide) rfl rfl ⟨rfl, Or.inr rfl, Nat.le_of_ble_eq_true rfl, Nat.le_of_ble_eq_true rfl⟩ rfl rfl rfl ?_
  refine vm_WM.theni h (fun v6 M7 h => ?_)
  show vm_WM X 180 275 [.ref 2000, .ref 0, .ref 48, .int x3] [.int v6] M7 _
  refine vm_WM.seq 123 5 (pc' := 280) (L' := [.ref 2000, .ref 0, .ref 48, .int x3]) (S' := [.int (x3 + (nI 1)), .ref 2000, .ref 48, .int v6]) (M' := M7) rfl ?_
  obtain ⟨j8, hj1, hj2, h⟩ := h
  refine vm_WM.sld 128 hX rfl hj1 hj2 ?_
  refine vm_WM.seq 129 4 (pc' := 285) (L' := [.ref 2000, .ref 0, .ref 48, .int x3]) (S' := [.int (x3 + (nI 2)), .ref 2000, .int (X.2 j8), .ref 48, .int v6]) (M' := M7) rfl ?_
  obtain ⟨j9, hj1, hj2, h⟩ := h
  refine vm_WM.sld 133 hX rfl hj1 hj2 ?_
  refine vm_WM.seq 134 4 (pc' := 290) (L' := [.ref 2000, .ref 0, .ref 48, .int x3]) (S' := [.int (x3 + (nI 3)), .ref 2000, .int (X.2 j9), .int (X.2 j8), .ref 48, .int v6]) (M' := M7) rfl ?_
  obtain ⟨j10, hj1, hj2, h⟩ := h
  refine vm_WM.sld 138 hX rfl hj1 hj2 ?_
  refine vm_WM.seq 139 4 (pc' := 295) (L' := [.ref 2000, .ref 0, .ref 48, .int x3]) (S' := [.int (x3 + (nI 4)), .ref 2000, .int (X.2 j10), .int (X.2 j9), .int (X.2 j8), .ref 48, .int v6]) (M' := M7) rfl ?_
  obtain ⟨j11, hj1, hj2, h⟩ := h
  refine vm_WM.sld 143 hX rfl hj1 hj2 ?_
  refine vm_WM.seq 144 4 (pc' := 300) (L' := [.ref 2000, .ref 0, .ref 48, .int x3]) (S' := [.int (x3 + (nI 5)), .ref 2000, .int (X.2 j11), .int (X.2 j10), .int (X.2 j9), .int (X.2 j8), .ref 48, .int v6]) (M' := M7) rfl ?_
  obtain ⟨j12, hj1, hj2, h⟩ := h
  refine vm_WM.sld 148 hX rfl hj1 hj2 ?_
  refine vm_WM.call (a := 113) (as := [.ref 48, .int (X.2 j8), .int (X.2 j9), .int (X.2 j10), .int (X.2 j11), .int (X.2 j12)]) (rest := [.int v6]) (L0 := [.ref 48, .int (X.2 j8), .int (X.2 j9), .int (X.2 j10), .int (X.2 j11), .int (X.2 j12), .null, .null, .null]) 149 rfl rfl (by decide) rfl rfl ⟨rfl, Or.inr rfl, Nat.le_of_ble_eq_true rfl, Nat.le_of_ble_eq_true rfl⟩ rfl rfl rfl ?_
  refine vm_WM.theni h (fun v13 M14 h => ?_)
  show vm_WM X 180 304 [.ref 2000, .ref 0, .ref 48, .int x3] [.int v13, .int v6] M14 _
  refine vm_WM.if (c := v6 = v13) (t1 := 1014) (t2 := 307) (S' := []) 150 rfl rfl rfl (fun hc => ?_) (fun hc => ?_)
  · replace h := h.1 hc
    exact h
  · replace h := h.2 hc
    refine vm_WM.seq 151 1 (pc' := 308) (L' := [.ref 2000, .ref 0, .ref 48, .int x3]) (S' := [.int (nI 0)]) (M' := M14) rfl ?_
    exact vm_WM.ret (r := some (.int (nI 0))) 152 rfl rfl rfl ⟨_, rfl, h⟩
set_option maxRecDepth 100000 in
theorem v_L_309 {X : Nat × (Nat → Int32)} (hX : X.1 < 10000) {x3 : Int32} {M : vm_M} {P : Int32 → vm_M → Prop} (h : ∃ j1 : Nat, (x3 + (nI 1)) = nI j1 ∧ j1 < X.1 ∧ (E_B_drop X (X.2 j1) M (fun v2 M3 => ∃ j4 : Nat, (x3 + (nI 1)) = nI j4 ∧ j4 < X.1 ∧ (E_M_drop X (X.2 j4) M3 (fun v5 M6 => (v2 = v5 → (C_L_1014 X x3 M6 P)) ∧ (¬ (v2 = v5) → (P (nI 0) M6))))))) : C_L_309 X x3 M P := by
  unfold C_L_309
  refine vm_WM.seq 153 5 (pc' := 314) (L' := [.ref 2000, .ref 0, .ref 48, .int x3]) (S' := [.int (x3 + (nI 1)), .ref 2000, .ref 0]) (M' := M) rfl ?_
  obtain ⟨j1, hj1, hj2, h⟩ := h
  refine vm_WM.sld 158 hX rfl hj1 hj2 ?_
  refine vm_WM.call (a := 77) (as := [.ref 0, .int (X.2 j1)]) (rest := []) (L0 := [.ref 0, .int (X.2 j1)]) 159 rfl rfl (by decide) rfl rfl ⟨rfl, Or.inr rfl, Nat.le_of_ble_eq_true rfl, Nat.le_of_ble_eq_true rfl⟩ rfl rfl rfl ?_
  refine vm_WM.theni h (fun v2 M3 h => ?_)
  show vm_WM X 180 318 [.ref 2000, .ref 0, .ref 48, .int x3] [.int v2] M3 _
  refine vm_WM.seq 160 5 (pc' := 323) (L' := [.ref 2000, .ref 0, .ref 48, .int x3]) (S' := [.int (x3 + (nI 1)), .ref 2000, .ref 48, .int v2]) (M' := M3) rfl ?_
  obtain ⟨j4, hj1, hj2, h⟩ := h
  refine vm_WM.sld 165 hX rfl hj1 hj2 ?_
  refine vm_WM.call (a := 114) (as := [.ref 48, .int (X.2 j4)]) (rest := [.int v2]) (L0 := [.ref 48, .int (X.2 j4)]) 166 rfl rfl (by decide) rfl rfl ⟨rfl, Or.inr rfl, Nat.le_of_ble_eq_true rfl, Nat.le_of_ble_eq_true rfl⟩ rfl rfl rfl ?_
  refine vm_WM.theni h (fun v5 M6 h => ?_)
  show vm_WM X 180 327 [.ref 2000, .ref 0, .ref 48, .int x3] [.int v5, .int v2] M6 _
  refine vm_WM.if (c := v2 = v5) (t1 := 1014) (t2 := 330) (S' := []) 167 rfl rfl rfl (fun hc => ?_) (fun hc => ?_)
  · replace h := h.1 hc
    exact h
  · replace h := h.2 hc
    refine vm_WM.seq 168 1 (pc' := 331) (L' := [.ref 2000, .ref 0, .ref 48, .int x3]) (S' := [.int (nI 0)]) (M' := M6) rfl ?_
    exact vm_WM.ret (r := some (.int (nI 0))) 169 rfl rfl rfl ⟨_, rfl, h⟩
set_option maxRecDepth 100000 in
theorem v_L_332 {X : Nat × (Nat → Int32)} (hX : X.1 < 10000) {x3 : Int32} {M : vm_M} {P : Int32 → vm_M → Prop} (h : ∃ j1 : Nat, (x3 + (nI 1)) = nI j1 ∧ j1 < X.1 ∧ (∃ j2 : Nat, (x3 + (nI 2)) = nI j2 ∧ j2 < X.1 ∧ (∃ j3 : Nat, (x3 + (nI 3)) = nI j3 ∧ j3 < X.1 ∧ (E_B_feed X (((((X.2 j1)).toInt64) <<< (((nI 32)).toInt64 &&& 63)) ||| ((((X.2 j2)).toInt64) &&& (Int64.ofInt 4294967295))) (X.2 j3) M (fun v4 M5 => ∃ j6 : Nat, (x3 + (nI 1)) = nI j6 ∧ j6 < X.1 ∧ (∃ j7 : Nat, (x3 + (nI 2)) = nI j7 ∧ j7 < X.1 ∧ (∃ j8 : Nat, (x3 + (nI 3)) = nI j8 ∧ j8 < X.1 ∧ (E_M_feed X (((((X.2 j6)).toInt64) <<< (((nI 32)).toInt64 &&& 63)) ||| ((((X.2 j7)).toInt64) &&& (Int64.ofInt 4294967295))) (X.2 j8) M5 (fun v9 M10 => (v4 = v9 → (C_L_1014 X x3 M10 P)) ∧ (¬ (v4 = v9) → (P (nI 0) M10))))))))))) : C_L_332 X x3 M P := by
  unfold C_L_332
  refine vm_WM.seq 170 5 (pc' := 337) (L' := [.ref 2000, .ref 0, .ref 48, .int x3]) (S' := [.int (x3 + (nI 1)), .ref 2000, .ref 0]) (M' := M) rfl ?_
  obtain ⟨j1, hj1, hj2, h⟩ := h
  refine vm_WM.sld 175 hX rfl hj1 hj2 ?_
  refine vm_WM.seq 176 7 (pc' := 346) (L' := [.ref 2000, .ref 0, .ref 48, .int x3]) (S' := [.int (x3 + (nI 2)), .ref 2000, .long ((((X.2 j1)).toInt64) <<< (((nI 32)).toInt64 &&& 63)), .ref 0]) (M' := M) rfl ?_
  obtain ⟨j2, hj1, hj2, h⟩ := h
  refine vm_WM.sld 183 hX rfl hj1 hj2 ?_
  refine vm_WM.seq 184 8 (pc' := 357) (L' := [.ref 2000, .ref 0, .ref 48, .int x3]) (S' := [.int (x3 + (nI 3)), .ref 2000, .long (((((X.2 j1)).toInt64) <<< (((nI 32)).toInt64 &&& 63)) ||| ((((X.2 j2)).toInt64) &&& (Int64.ofInt 4294967295))), .ref 0]) (M' := M) rfl ?_
  obtain ⟨j3, hj1, hj2, h⟩ := h
  refine vm_WM.sld 192 hX rfl hj1 hj2 ?_
  refine vm_WM.call (a := 78) (as := [.ref 0, .long (((((X.2 j1)).toInt64) <<< (((nI 32)).toInt64 &&& 63)) ||| ((((X.2 j2)).toInt64) &&& (Int64.ofInt 4294967295))), .int (X.2 j3)]) (rest := []) (L0 := [.ref 0, .long (((((X.2 j1)).toInt64) <<< (((nI 32)).toInt64 &&& 63)) ||| ((((X.2 j2)).toInt64) &&& (Int64.ofInt 4294967295))), .null, .int (X.2 j3)]) 193 rfl rfl (by decide) rfl rfl ⟨rfl, Or.inr rfl, Nat.le_of_ble_eq_true rfl, Nat.le_of_ble_eq_true rfl⟩ rfl rfl rfl ?_
  refine vm_WM.theni h (fun v4 M5 h => ?_)
  show vm_WM X 180 361 [.ref 2000, .ref 0, .ref 48, .int x3] [.int v4] M5 _
  refine vm_WM.seq 194 5 (pc' := 366) (L' := [.ref 2000, .ref 0, .ref 48, .int x3]) (S' := [.int (x3 + (nI 1)), .ref 2000, .ref 48, .int v4]) (M' := M5) rfl ?_
  obtain ⟨j6, hj1, hj2, h⟩ := h
  refine vm_WM.sld 199 hX rfl hj1 hj2 ?_
  refine vm_WM.seq 200 7 (pc' := 375) (L' := [.ref 2000, .ref 0, .ref 48, .int x3]) (S' := [.int (x3 + (nI 2)), .ref 2000, .long ((((X.2 j6)).toInt64) <<< (((nI 32)).toInt64 &&& 63)), .ref 48, .int v4]) (M' := M5) rfl ?_
  obtain ⟨j7, hj1, hj2, h⟩ := h
  refine vm_WM.sld 207 hX rfl hj1 hj2 ?_
  refine vm_WM.seq 208 8 (pc' := 386) (L' := [.ref 2000, .ref 0, .ref 48, .int x3]) (S' := [.int (x3 + (nI 3)), .ref 2000, .long (((((X.2 j6)).toInt64) <<< (((nI 32)).toInt64 &&& 63)) ||| ((((X.2 j7)).toInt64) &&& (Int64.ofInt 4294967295))), .ref 48, .int v4]) (M' := M5) rfl ?_
  obtain ⟨j8, hj1, hj2, h⟩ := h
  refine vm_WM.sld 216 hX rfl hj1 hj2 ?_
  refine vm_WM.call (a := 115) (as := [.ref 48, .long (((((X.2 j6)).toInt64) <<< (((nI 32)).toInt64 &&& 63)) ||| ((((X.2 j7)).toInt64) &&& (Int64.ofInt 4294967295))), .int (X.2 j8)]) (rest := [.int v4]) (L0 := [.ref 48, .long (((((X.2 j6)).toInt64) <<< (((nI 32)).toInt64 &&& 63)) ||| ((((X.2 j7)).toInt64) &&& (Int64.ofInt 4294967295))), .null, .int (X.2 j8), .null]) 217 rfl rfl (by decide) rfl rfl ⟨rfl, Or.inr rfl, Nat.le_of_ble_eq_true rfl, Nat.le_of_ble_eq_true rfl⟩ rfl rfl rfl ?_
  refine vm_WM.theni h (fun v9 M10 h => ?_)
  show vm_WM X 180 390 [.ref 2000, .ref 0, .ref 48, .int x3] [.int v9, .int v4] M10 _
  refine vm_WM.if (c := v4 = v9) (t1 := 1014) (t2 := 393) (S' := []) 218 rfl rfl rfl (fun hc => ?_) (fun hc => ?_)
  · replace h := h.1 hc
    exact h
  · replace h := h.2 hc
    refine vm_WM.seq 219 1 (pc' := 394) (L' := [.ref 2000, .ref 0, .ref 48, .int x3]) (S' := [.int (nI 0)]) (M' := M10) rfl ?_
    exact vm_WM.ret (r := some (.int (nI 0))) 220 rfl rfl rfl ⟨_, rfl, h⟩
set_option maxRecDepth 100000 in
theorem v_L_395 {X : Nat × (Nat → Int32)} (hX : X.1 < 10000) {x3 : Int32} {M : vm_M} {P : Int32 → vm_M → Prop} (h : E_B_hill X  M (fun v1 M2 => E_M_hill X  M2 (fun v3 M4 => (v1 = v3 → (C_L_1014 X x3 M4 P)) ∧ (¬ (v1 = v3) → (P (nI 0) M4))))) : C_L_395 X x3 M P := by
  unfold C_L_395
  refine vm_WM.seq 221 1 (pc' := 396) (L' := [.ref 2000, .ref 0, .ref 48, .int x3]) (S' := [.ref 0]) (M' := M) rfl ?_
  refine vm_WM.call (a := 79) (as := [.ref 0]) (rest := []) (L0 := [.ref 0, .null]) 222 rfl rfl (by decide) rfl rfl ⟨rfl, Or.inr rfl, Nat.le_of_ble_eq_true rfl, Nat.le_of_ble_eq_true rfl⟩ rfl rfl rfl ?_
  refine vm_WM.theni h (fun v1 M2 h => ?_)
  show vm_WM X 180 399 [.ref 2000, .ref 0, .ref 48, .int x3] [.int v1] M2 _
  refine vm_WM.seq 223 1 (pc' := 400) (L' := [.ref 2000, .ref 0, .ref 48, .int x3]) (S' := [.ref 48, .int v1]) (M' := M2) rfl ?_
  refine vm_WM.call (a := 131) (as := [.ref 48]) (rest := [.int v1]) (L0 := [.ref 48, .null]) 224 rfl rfl (by decide) rfl rfl ⟨rfl, Or.inr rfl, Nat.le_of_ble_eq_true rfl, Nat.le_of_ble_eq_true rfl⟩ rfl rfl rfl ?_
  refine vm_WM.theni h (fun v3 M4 h => ?_)
  show vm_WM X 180 403 [.ref 2000, .ref 0, .ref 48, .int x3] [.int v3, .int v1] M4 _
  refine vm_WM.if (c := v1 = v3) (t1 := 1014) (t2 := 406) (S' := []) 225 rfl rfl rfl (fun hc => ?_) (fun hc => ?_)
  · replace h := h.1 hc
    exact h
  · replace h := h.2 hc
    refine vm_WM.seq 226 1 (pc' := 407) (L' := [.ref 2000, .ref 0, .ref 48, .int x3]) (S' := [.int (nI 0)]) (M' := M4) rfl ?_
    exact vm_WM.ret (r := some (.int (nI 0))) 227 rfl rfl rfl ⟨_, rfl, h⟩
set_option maxRecDepth 100000 in
theorem v_L_408 {X : Nat × (Nat → Int32)} (hX : X.1 < 10000) {x3 : Int32} {M : vm_M} {P : Int32 → vm_M → Prop} (h : E_B_fault X  M (fun v1 M2 => E_M_fault X  M2 (fun v3 M4 => (v1 = v3 → (C_L_1014 X x3 M4 P)) ∧ (¬ (v1 = v3) → (P (nI 0) M4))))) : C_L_408 X x3 M P := by
  unfold C_L_408
  refine vm_WM.seq 228 1 (pc' := 409) (L' := [.ref 2000, .ref 0, .ref 48, .int x3]) (S' := [.ref 0]) (M' := M) rfl ?_
  refine vm_WM.call (a := 80) (as := [.ref 0]) (rest := []) (L0 := [.ref 0]) 229 rfl rfl (by decide) rfl rfl ⟨rfl, Or.inr rfl, Nat.le_of_ble_eq_true rfl, Nat.le_of_ble_eq_true rfl⟩ rfl rfl rfl ?_
  refine vm_WM.theni h (fun v1 M2 h => ?_)
  show vm_WM X 180 412 [.ref 2000, .ref 0, .ref 48, .int x3] [.int v1] M2 _
  refine vm_WM.seq 230 1 (pc' := 413) (L' := [.ref 2000, .ref 0, .ref 48, .int x3]) (S' := [.ref 48, .int v1]) (M' := M2) rfl ?_
  refine vm_WM.call (a := 132) (as := [.ref 48]) (rest := [.int v1]) (L0 := [.ref 48]) 231 rfl rfl (by decide) rfl rfl ⟨rfl, Or.inr rfl, Nat.le_of_ble_eq_true rfl, Nat.le_of_ble_eq_true rfl⟩ rfl rfl rfl ?_
  refine vm_WM.theni h (fun v3 M4 h => ?_)
  show vm_WM X 180 416 [.ref 2000, .ref 0, .ref 48, .int x3] [.int v3, .int v1] M4 _
  refine vm_WM.if (c := v1 = v3) (t1 := 1014) (t2 := 419) (S' := []) 232 rfl rfl rfl (fun hc => ?_) (fun hc => ?_)
  · replace h := h.1 hc
    exact h
  · replace h := h.2 hc
    refine vm_WM.seq 233 1 (pc' := 420) (L' := [.ref 2000, .ref 0, .ref 48, .int x3]) (S' := [.int (nI 0)]) (M' := M4) rfl ?_
    exact vm_WM.ret (r := some (.int (nI 0))) 234 rfl rfl rfl ⟨_, rfl, h⟩
set_option maxRecDepth 100000 in
theorem v_L_421 {X : Nat × (Nat → Int32)} (hX : X.1 < 10000) {x3 : Int32} {M : vm_M} {P : Int32 → vm_M → Prop} (h : ∃ j1 : Nat, (x3 + (nI 1)) = nI j1 ∧ j1 < X.1 ∧ (E_B_pass X (X.2 j1) M (fun v2 M3 => ∃ j4 : Nat, (x3 + (nI 1)) = nI j4 ∧ j4 < X.1 ∧ (E_M_pass X (X.2 j4) M3 (fun v5 M6 => (v2 = v5 → (C_L_1014 X x3 M6 P)) ∧ (¬ (v2 = v5) → (P (nI 0) M6))))))) : C_L_421 X x3 M P := by
  unfold C_L_421
  refine vm_WM.seq 235 5 (pc' := 426) (L' := [.ref 2000, .ref 0, .ref 48, .int x3]) (S' := [.int (x3 + (nI 1)), .ref 2000, .ref 0]) (M' := M) rfl ?_
  obtain ⟨j1, hj1, hj2, h⟩ := h
  refine vm_WM.sld 240 hX rfl hj1 hj2 ?_
  refine vm_WM.call (a := 81) (as := [.ref 0, .int (X.2 j1)]) (rest := []) (L0 := [.ref 0, .int (X.2 j1), .null]) 241 rfl rfl (by decide) rfl rfl ⟨rfl, Or.inr rfl, Nat.le_of_ble_eq_true rfl, Nat.le_of_ble_eq_true rfl⟩ rfl rfl rfl ?_
  refine vm_WM.theni h (fun v2 M3 h => ?_)
  show vm_WM X 180 430 [.ref 2000, .ref 0, .ref 48, .int x3] [.int v2] M3 _
  refine vm_WM.seq 242 5 (pc' := 435) (L' := [.ref 2000, .ref 0, .ref 48, .int x3]) (S' := [.int (x3 + (nI 1)), .ref 2000, .ref 48, .int v2]) (M' := M3) rfl ?_
  obtain ⟨j4, hj1, hj2, h⟩ := h
  refine vm_WM.sld 247 hX rfl hj1 hj2 ?_
  refine vm_WM.call (a := 142) (as := [.ref 48, .int (X.2 j4)]) (rest := [.int v2]) (L0 := [.ref 48, .int (X.2 j4), .null, .null]) 248 rfl rfl (by decide) rfl rfl ⟨rfl, Or.inr rfl, Nat.le_of_ble_eq_true rfl, Nat.le_of_ble_eq_true rfl⟩ rfl rfl rfl ?_
  refine vm_WM.theni h (fun v5 M6 h => ?_)
  show vm_WM X 180 439 [.ref 2000, .ref 0, .ref 48, .int x3] [.int v5, .int v2] M6 _
  refine vm_WM.if (c := v2 = v5) (t1 := 1014) (t2 := 442) (S' := []) 249 rfl rfl rfl (fun hc => ?_) (fun hc => ?_)
  · replace h := h.1 hc
    exact h
  · replace h := h.2 hc
    refine vm_WM.seq 250 1 (pc' := 443) (L' := [.ref 2000, .ref 0, .ref 48, .int x3]) (S' := [.int (nI 0)]) (M' := M6) rfl ?_
    exact vm_WM.ret (r := some (.int (nI 0))) 251 rfl rfl rfl ⟨_, rfl, h⟩
set_option maxRecDepth 100000 in
theorem v_L_444 {X : Nat × (Nat → Int32)} (hX : X.1 < 10000) {x3 : Int32} {M : vm_M} {P : Int32 → vm_M → Prop} (h : ∃ j1 : Nat, (x3 + (nI 1)) = nI j1 ∧ j1 < X.1 ∧ (E_B_waits X (X.2 j1) M (fun v2 M3 => ∃ j4 : Nat, (x3 + (nI 1)) = nI j4 ∧ j4 < X.1 ∧ (E_M_waits X (X.2 j4) M3 (fun v5 M6 => (v2 = v5 → (C_L_1014 X x3 M6 P)) ∧ (¬ (v2 = v5) → (P (nI 0) M6))))))) : C_L_444 X x3 M P := by
  unfold C_L_444
  refine vm_WM.seq 252 5 (pc' := 449) (L' := [.ref 2000, .ref 0, .ref 48, .int x3]) (S' := [.int (x3 + (nI 1)), .ref 2000, .ref 0]) (M' := M) rfl ?_
  obtain ⟨j1, hj1, hj2, h⟩ := h
  refine vm_WM.sld 257 hX rfl hj1 hj2 ?_
  refine vm_WM.call (a := 82) (as := [.ref 0, .int (X.2 j1)]) (rest := []) (L0 := [.ref 0, .int (X.2 j1)]) 258 rfl rfl (by decide) rfl rfl ⟨rfl, Or.inr rfl, Nat.le_of_ble_eq_true rfl, Nat.le_of_ble_eq_true rfl⟩ rfl rfl rfl ?_
  refine vm_WM.theni h (fun v2 M3 h => ?_)
  show vm_WM X 180 453 [.ref 2000, .ref 0, .ref 48, .int x3] [.int v2] M3 _
  refine vm_WM.seq 259 5 (pc' := 458) (L' := [.ref 2000, .ref 0, .ref 48, .int x3]) (S' := [.int (x3 + (nI 1)), .ref 2000, .ref 48, .int v2]) (M' := M3) rfl ?_
  obtain ⟨j4, hj1, hj2, h⟩ := h
  refine vm_WM.sld 264 hX rfl hj1 hj2 ?_
  refine vm_WM.call (a := 143) (as := [.ref 48, .int (X.2 j4)]) (rest := [.int v2]) (L0 := [.ref 48, .int (X.2 j4)]) 265 rfl rfl (by decide) rfl rfl ⟨rfl, Or.inr rfl, Nat.le_of_ble_eq_true rfl, Nat.le_of_ble_eq_true rfl⟩ rfl rfl rfl ?_
  refine vm_WM.theni h (fun v5 M6 h => ?_)
  show vm_WM X 180 462 [.ref 2000, .ref 0, .ref 48, .int x3] [.int v5, .int v2] M6 _
  refine vm_WM.if (c := v2 = v5) (t1 := 1014) (t2 := 465) (S' := []) 266 rfl rfl rfl (fun hc => ?_) (fun hc => ?_)
  · replace h := h.1 hc
    exact h
  · replace h := h.2 hc
    refine vm_WM.seq 267 1 (pc' := 466) (L' := [.ref 2000, .ref 0, .ref 48, .int x3]) (S' := [.int (nI 0)]) (M' := M6) rfl ?_
    exact vm_WM.ret (r := some (.int (nI 0))) 268 rfl rfl rfl ⟨_, rfl, h⟩
set_option maxRecDepth 100000 in
theorem v_L_467 {X : Nat × (Nat → Int32)} (hX : X.1 < 10000) {x3 : Int32} {M : vm_M} {P : Int32 → vm_M → Prop} (h : ∃ j1 : Nat, (x3 + (nI 1)) = nI j1 ∧ j1 < X.1 ∧ (E_B_bribe X (X.2 j1) M (fun v2 M3 => ∃ j4 : Nat, (x3 + (nI 1)) = nI j4 ∧ j4 < X.1 ∧ (E_M_bribe X (X.2 j4) M3 (fun v5 M6 => (v2 = v5 → (C_L_1014 X x3 M6 P)) ∧ (¬ (v2 = v5) → (P (nI 0) M6))))))) : C_L_467 X x3 M P := by
  unfold C_L_467
  refine vm_WM.seq 269 5 (pc' := 472) (L' := [.ref 2000, .ref 0, .ref 48, .int x3]) (S' := [.int (x3 + (nI 1)), .ref 2000, .ref 0]) (M' := M) rfl ?_
  obtain ⟨j1, hj1, hj2, h⟩ := h
  refine vm_WM.sld 274 hX rfl hj1 hj2 ?_
  refine vm_WM.call (a := 83) (as := [.ref 0, .int (X.2 j1)]) (rest := []) (L0 := [.ref 0, .int (X.2 j1), .null]) 275 rfl rfl (by decide) rfl rfl ⟨rfl, Or.inr rfl, Nat.le_of_ble_eq_true rfl, Nat.le_of_ble_eq_true rfl⟩ rfl rfl rfl ?_
  refine vm_WM.theni h (fun v2 M3 h => ?_)
  show vm_WM X 180 476 [.ref 2000, .ref 0, .ref 48, .int x3] [.int v2] M3 _
  refine vm_WM.seq 276 5 (pc' := 481) (L' := [.ref 2000, .ref 0, .ref 48, .int x3]) (S' := [.int (x3 + (nI 1)), .ref 2000, .ref 48, .int v2]) (M' := M3) rfl ?_
  obtain ⟨j4, hj1, hj2, h⟩ := h
  refine vm_WM.sld 281 hX rfl hj1 hj2 ?_
  refine vm_WM.call (a := 144) (as := [.ref 48, .int (X.2 j4)]) (rest := [.int v2]) (L0 := [.ref 48, .int (X.2 j4), .null]) 282 rfl rfl (by decide) rfl rfl ⟨rfl, Or.inr rfl, Nat.le_of_ble_eq_true rfl, Nat.le_of_ble_eq_true rfl⟩ rfl rfl rfl ?_
  refine vm_WM.theni h (fun v5 M6 h => ?_)
  show vm_WM X 180 485 [.ref 2000, .ref 0, .ref 48, .int x3] [.int v5, .int v2] M6 _
  refine vm_WM.if (c := v2 = v5) (t1 := 1014) (t2 := 488) (S' := []) 283 rfl rfl rfl (fun hc => ?_) (fun hc => ?_)
  · replace h := h.1 hc
    exact h
  · replace h := h.2 hc
    refine vm_WM.seq 284 1 (pc' := 489) (L' := [.ref 2000, .ref 0, .ref 48, .int x3]) (S' := [.int (nI 0)]) (M' := M6) rfl ?_
    exact vm_WM.ret (r := some (.int (nI 0))) 285 rfl rfl rfl ⟨_, rfl, h⟩
set_option maxRecDepth 100000 in
theorem v_L_490 {X : Nat × (Nat → Int32)} (hX : X.1 < 10000) {x3 : Int32} {M : vm_M} {P : Int32 → vm_M → Prop} (h : E_B_undo X  M (fun v1 M2 => E_M_undo X  M2 (fun v3 M4 => (v1 = v3 → (C_L_1014 X x3 M4 P)) ∧ (¬ (v1 = v3) → (P (nI 0) M4))))) : C_L_490 X x3 M P := by
  unfold C_L_490
  refine vm_WM.seq 286 1 (pc' := 491) (L' := [.ref 2000, .ref 0, .ref 48, .int x3]) (S' := [.ref 0]) (M' := M) rfl ?_
  refine vm_WM.call (a := 84) (as := [.ref 0]) (rest := []) (L0 := [.ref 0]) 287 rfl rfl (by decide) rfl rfl ⟨rfl, Or.inr rfl, Nat.le_of_ble_eq_true rfl, Nat.le_of_ble_eq_true rfl⟩ rfl rfl rfl ?_
  refine vm_WM.theni h (fun v1 M2 h => ?_)
  show vm_WM X 180 494 [.ref 2000, .ref 0, .ref 48, .int x3] [.int v1] M2 _
  refine vm_WM.seq 288 1 (pc' := 495) (L' := [.ref 2000, .ref 0, .ref 48, .int x3]) (S' := [.ref 48, .int v1]) (M' := M2) rfl ?_
  refine vm_WM.call (a := 145) (as := [.ref 48]) (rest := [.int v1]) (L0 := [.ref 48, .null]) 289 rfl rfl (by decide) rfl rfl ⟨rfl, Or.inr rfl, Nat.le_of_ble_eq_true rfl, Nat.le_of_ble_eq_true rfl⟩ rfl rfl rfl ?_
  refine vm_WM.theni h (fun v3 M4 h => ?_)
  show vm_WM X 180 498 [.ref 2000, .ref 0, .ref 48, .int x3] [.int v3, .int v1] M4 _
  refine vm_WM.if (c := v1 = v3) (t1 := 1014) (t2 := 501) (S' := []) 290 rfl rfl rfl (fun hc => ?_) (fun hc => ?_)
  · replace h := h.1 hc
    exact h
  · replace h := h.2 hc
    refine vm_WM.seq 291 1 (pc' := 502) (L' := [.ref 2000, .ref 0, .ref 48, .int x3]) (S' := [.int (nI 0)]) (M' := M4) rfl ?_
    exact vm_WM.ret (r := some (.int (nI 0))) 292 rfl rfl rfl ⟨_, rfl, h⟩
set_option maxRecDepth 100000 in
theorem v_L_503 {X : Nat × (Nat → Int32)} (hX : X.1 < 10000) {x3 : Int32} {M : vm_M} {P : Int32 → vm_M → Prop} (h : ∃ j1 : Nat, (x3 + (nI 1)) = nI j1 ∧ j1 < X.1 ∧ (∃ j2 : Nat, (x3 + (nI 2)) = nI j2 ∧ j2 < X.1 ∧ (E_B_trader X (X.2 j1) (X.2 j2) M (fun v3 M4 => ∃ j5 : Nat, (x3 + (nI 1)) = nI j5 ∧ j5 < X.1 ∧ (∃ j6 : Nat, (x3 + (nI 2)) = nI j6 ∧ j6 < X.1 ∧ (E_M_trader X (X.2 j5) (X.2 j6) M4 (fun v7 M8 => (v3 = v7 → (C_L_1014 X x3 M8 P)) ∧ (¬ (v3 = v7) → (P (nI 0) M8))))))))) : C_L_503 X x3 M P := by
  unfold C_L_503
  refine vm_WM.seq 293 5 (pc' := 508) (L' := [.ref 2000, .ref 0, .ref 48, .int x3]) (S' := [.int (x3 + (nI 1)), .ref 2000, .ref 0]) (M' := M) rfl ?_
  obtain ⟨j1, hj1, hj2, h⟩ := h
  refine vm_WM.sld 298 hX rfl hj1 hj2 ?_
  refine vm_WM.seq 299 4 (pc' := 513) (L' := [.ref 2000, .ref 0, .ref 48, .int x3]) (S' := [.int (x3 + (nI 2)), .ref 2000, .int (X.2 j1), .ref 0]) (M' := M) rfl ?_
  obtain ⟨j2, hj1, hj2, h⟩ := h
  refine vm_WM.sld 303 hX rfl hj1 hj2 ?_
  refine vm_WM.call (a := 85) (as := [.ref 0, .int (X.2 j1), .int (X.2 j2)]) (rest := []) (L0 := [.ref 0, .int (X.2 j1), .int (X.2 j2)]) 304 rfl rfl (by decide) rfl rfl ⟨rfl, Or.inr rfl, Nat.le_of_ble_eq_true rfl, Nat.le_of_ble_eq_true rfl⟩ rfl rfl rfl ?_
  refine vm_WM.theni h (fun v3 M4 h => ?_)
  show vm_WM X 180 517 [.ref 2000, .ref 0, .ref 48, .int x3] [.int v3] M4 _
  refine vm_WM.seq 305 5 (pc' := 522) (L' := [.ref 2000, .ref 0, .ref 48, .int x3]) (S' := [.int (x3 + (nI 1)), .ref 2000, .ref 48, .int v3]) (M' := M4) rfl ?_
  obtain ⟨j5, hj1, hj2, h⟩ := h
  refine vm_WM.sld 310 hX rfl hj1 hj2 ?_
  refine vm_WM.seq 311 4 (pc' := 527) (L' := [.ref 2000, .ref 0, .ref 48, .int x3]) (S' := [.int (x3 + (nI 2)), .ref 2000, .int (X.2 j5), .ref 48, .int v3]) (M' := M4) rfl ?_
  obtain ⟨j6, hj1, hj2, h⟩ := h
  refine vm_WM.sld 315 hX rfl hj1 hj2 ?_
  refine vm_WM.call (a := 146) (as := [.ref 48, .int (X.2 j5), .int (X.2 j6)]) (rest := [.int v3]) (L0 := [.ref 48, .int (X.2 j5), .int (X.2 j6)]) 316 rfl rfl (by decide) rfl rfl ⟨rfl, Or.inr rfl, Nat.le_of_ble_eq_true rfl, Nat.le_of_ble_eq_true rfl⟩ rfl rfl rfl ?_
  refine vm_WM.theni h (fun v7 M8 h => ?_)
  show vm_WM X 180 531 [.ref 2000, .ref 0, .ref 48, .int x3] [.int v7, .int v3] M8 _
  refine vm_WM.if (c := v3 = v7) (t1 := 1014) (t2 := 534) (S' := []) 317 rfl rfl rfl (fun hc => ?_) (fun hc => ?_)
  · replace h := h.1 hc
    exact h
  · replace h := h.2 hc
    refine vm_WM.seq 318 1 (pc' := 535) (L' := [.ref 2000, .ref 0, .ref 48, .int x3]) (S' := [.int (nI 0)]) (M' := M8) rfl ?_
    exact vm_WM.ret (r := some (.int (nI 0))) 319 rfl rfl rfl ⟨_, rfl, h⟩
set_option maxRecDepth 100000 in
theorem v_L_536 {X : Nat × (Nat → Int32)} (hX : X.1 < 10000) {x3 : Int32} {M : vm_M} {P : Int32 → vm_M → Prop} (h : ∃ j1 : Nat, (x3 + (nI 1)) = nI j1 ∧ j1 < X.1 ∧ (∃ j2 : Nat, (x3 + (nI 2)) = nI j2 ∧ j2 < X.1 ∧ (E_B_takes X (X.2 j1) (X.2 j2) M (fun v3 M4 => ∃ j5 : Nat, (x3 + (nI 1)) = nI j5 ∧ j5 < X.1 ∧ (∃ j6 : Nat, (x3 + (nI 2)) = nI j6 ∧ j6 < X.1 ∧ (E_M_takes X (X.2 j5) (X.2 j6) M4 (fun v7 M8 => (v3 = v7 → (C_L_1014 X x3 M8 P)) ∧ (¬ (v3 = v7) → (P (nI 0) M8))))))))) : C_L_536 X x3 M P := by
  unfold C_L_536
  refine vm_WM.seq 320 5 (pc' := 541) (L' := [.ref 2000, .ref 0, .ref 48, .int x3]) (S' := [.int (x3 + (nI 1)), .ref 2000, .ref 0]) (M' := M) rfl ?_
  obtain ⟨j1, hj1, hj2, h⟩ := h
  refine vm_WM.sld 325 hX rfl hj1 hj2 ?_
  refine vm_WM.seq 326 4 (pc' := 546) (L' := [.ref 2000, .ref 0, .ref 48, .int x3]) (S' := [.int (x3 + (nI 2)), .ref 2000, .int (X.2 j1), .ref 0]) (M' := M) rfl ?_
  obtain ⟨j2, hj1, hj2, h⟩ := h
  refine vm_WM.sld 330 hX rfl hj1 hj2 ?_
  refine vm_WM.call (a := 86) (as := [.ref 0, .int (X.2 j1), .int (X.2 j2)]) (rest := []) (L0 := [.ref 0, .int (X.2 j1), .int (X.2 j2)]) 331 rfl rfl (by decide) rfl rfl ⟨rfl, Or.inr rfl, Nat.le_of_ble_eq_true rfl, Nat.le_of_ble_eq_true rfl⟩ rfl rfl rfl ?_
  refine vm_WM.theni h (fun v3 M4 h => ?_)
  show vm_WM X 180 550 [.ref 2000, .ref 0, .ref 48, .int x3] [.int v3] M4 _
  refine vm_WM.seq 332 5 (pc' := 555) (L' := [.ref 2000, .ref 0, .ref 48, .int x3]) (S' := [.int (x3 + (nI 1)), .ref 2000, .ref 48, .int v3]) (M' := M4) rfl ?_
  obtain ⟨j5, hj1, hj2, h⟩ := h
  refine vm_WM.sld 337 hX rfl hj1 hj2 ?_
  refine vm_WM.seq 338 4 (pc' := 560) (L' := [.ref 2000, .ref 0, .ref 48, .int x3]) (S' := [.int (x3 + (nI 2)), .ref 2000, .int (X.2 j5), .ref 48, .int v3]) (M' := M4) rfl ?_
  obtain ⟨j6, hj1, hj2, h⟩ := h
  refine vm_WM.sld 342 hX rfl hj1 hj2 ?_
  refine vm_WM.call (a := 147) (as := [.ref 48, .int (X.2 j5), .int (X.2 j6)]) (rest := [.int v3]) (L0 := [.ref 48, .int (X.2 j5), .int (X.2 j6)]) 343 rfl rfl (by decide) rfl rfl ⟨rfl, Or.inr rfl, Nat.le_of_ble_eq_true rfl, Nat.le_of_ble_eq_true rfl⟩ rfl rfl rfl ?_
  refine vm_WM.theni h (fun v7 M8 h => ?_)
  show vm_WM X 180 564 [.ref 2000, .ref 0, .ref 48, .int x3] [.int v7, .int v3] M8 _
  refine vm_WM.if (c := v3 = v7) (t1 := 1014) (t2 := 567) (S' := []) 344 rfl rfl rfl (fun hc => ?_) (fun hc => ?_)
  · replace h := h.1 hc
    exact h
  · replace h := h.2 hc
    refine vm_WM.seq 345 1 (pc' := 568) (L' := [.ref 2000, .ref 0, .ref 48, .int x3]) (S' := [.int (nI 0)]) (M' := M8) rfl ?_
    exact vm_WM.ret (r := some (.int (nI 0))) 346 rfl rfl rfl ⟨_, rfl, h⟩
set_option maxRecDepth 100000 in
theorem v_L_569 {X : Nat × (Nat → Int32)} (hX : X.1 < 10000) {x3 : Int32} {M : vm_M} {P : Int32 → vm_M → Prop} (h : ∃ j1 : Nat, (x3 + (nI 1)) = nI j1 ∧ j1 < X.1 ∧ (∃ j2 : Nat, (x3 + (nI 2)) = nI j2 ∧ j2 < X.1 ∧ (∃ j3 : Nat, (x3 + (nI 3)) = nI j3 ∧ j3 < X.1 ∧ (E_B_there X (X.2 j1) (X.2 j2) (X.2 j3) M (fun v4 M5 => ∃ j6 : Nat, (x3 + (nI 1)) = nI j6 ∧ j6 < X.1 ∧ (∃ j7 : Nat, (x3 + (nI 2)) = nI j7 ∧ j7 < X.1 ∧ (∃ j8 : Nat, (x3 + (nI 3)) = nI j8 ∧ j8 < X.1 ∧ (E_M_there X (X.2 j6) (X.2 j7) (X.2 j8) M5 (fun v9 M10 => (v4 = v9 → (C_L_1014 X x3 M10 P)) ∧ (¬ (v4 = v9) → (P (nI 0) M10))))))))))) : C_L_569 X x3 M P := by
  unfold C_L_569
  refine vm_WM.seq 347 5 (pc' := 574) (L' := [.ref 2000, .ref 0, .ref 48, .int x3]) (S' := [.int (x3 + (nI 1)), .ref 2000, .ref 0]) (M' := M) rfl ?_
  obtain ⟨j1, hj1, hj2, h⟩ := h
  refine vm_WM.sld 352 hX rfl hj1 hj2 ?_
  refine vm_WM.seq 353 4 (pc' := 579) (L' := [.ref 2000, .ref 0, .ref 48, .int x3]) (S' := [.int (x3 + (nI 2)), .ref 2000, .int (X.2 j1), .ref 0]) (M' := M) rfl ?_
  obtain ⟨j2, hj1, hj2, h⟩ := h
  refine vm_WM.sld 357 hX rfl hj1 hj2 ?_
  refine vm_WM.seq 358 4 (pc' := 584) (L' := [.ref 2000, .ref 0, .ref 48, .int x3]) (S' := [.int (x3 + (nI 3)), .ref 2000, .int (X.2 j2), .int (X.2 j1), .ref 0]) (M' := M) rfl ?_
  obtain ⟨j3, hj1, hj2, h⟩ := h
  refine vm_WM.sld 362 hX rfl hj1 hj2 ?_
  refine vm_WM.call (a := 87) (as := [.ref 0, .int (X.2 j1), .int (X.2 j2), .int (X.2 j3)]) (rest := []) (L0 := [.ref 0, .int (X.2 j1), .int (X.2 j2), .int (X.2 j3)]) 363 rfl rfl (by decide) rfl rfl ⟨rfl, Or.inr rfl, Nat.le_of_ble_eq_true rfl, Nat.le_of_ble_eq_true rfl⟩ rfl rfl rfl ?_
  refine vm_WM.theni h (fun v4 M5 h => ?_)
  show vm_WM X 180 588 [.ref 2000, .ref 0, .ref 48, .int x3] [.int v4] M5 _
  refine vm_WM.seq 364 5 (pc' := 593) (L' := [.ref 2000, .ref 0, .ref 48, .int x3]) (S' := [.int (x3 + (nI 1)), .ref 2000, .ref 48, .int v4]) (M' := M5) rfl ?_
  obtain ⟨j6, hj1, hj2, h⟩ := h
  refine vm_WM.sld 369 hX rfl hj1 hj2 ?_
  refine vm_WM.seq 370 4 (pc' := 598) (L' := [.ref 2000, .ref 0, .ref 48, .int x3]) (S' := [.int (x3 + (nI 2)), .ref 2000, .int (X.2 j6), .ref 48, .int v4]) (M' := M5) rfl ?_
  obtain ⟨j7, hj1, hj2, h⟩ := h
  refine vm_WM.sld 374 hX rfl hj1 hj2 ?_
  refine vm_WM.seq 375 4 (pc' := 603) (L' := [.ref 2000, .ref 0, .ref 48, .int x3]) (S' := [.int (x3 + (nI 3)), .ref 2000, .int (X.2 j7), .int (X.2 j6), .ref 48, .int v4]) (M' := M5) rfl ?_
  obtain ⟨j8, hj1, hj2, h⟩ := h
  refine vm_WM.sld 379 hX rfl hj1 hj2 ?_
  refine vm_WM.call (a := 148) (as := [.ref 48, .int (X.2 j6), .int (X.2 j7), .int (X.2 j8)]) (rest := [.int v4]) (L0 := [.ref 48, .int (X.2 j6), .int (X.2 j7), .int (X.2 j8)]) 380 rfl rfl (by decide) rfl rfl ⟨rfl, Or.inr rfl, Nat.le_of_ble_eq_true rfl, Nat.le_of_ble_eq_true rfl⟩ rfl rfl rfl ?_
  refine vm_WM.theni h (fun v9 M10 h => ?_)
  show vm_WM X 180 607 [.ref 2000, .ref 0, .ref 48, .int x3] [.int v9, .int v4] M10 _
  refine vm_WM.if (c := v4 = v9) (t1 := 1014) (t2 := 610) (S' := []) 381 rfl rfl rfl (fun hc => ?_) (fun hc => ?_)
  · replace h := h.1 hc
    exact h
  · replace h := h.2 hc
    refine vm_WM.seq 382 1 (pc' := 611) (L' := [.ref 2000, .ref 0, .ref 48, .int x3]) (S' := [.int (nI 0)]) (M' := M10) rfl ?_
    exact vm_WM.ret (r := some (.int (nI 0))) 383 rfl rfl rfl ⟨_, rfl, h⟩
set_option maxRecDepth 100000 in
theorem v_L_612 {X : Nat × (Nat → Int32)} (hX : X.1 < 10000) {x3 : Int32} {M : vm_M} {P : Int32 → vm_M → Prop} (h : ∃ j1 : Nat, (x3 + (nI 1)) = nI j1 ∧ j1 < X.1 ∧ (∃ j2 : Nat, (x3 + (nI 2)) = nI j2 ∧ j2 < X.1 ∧ (E_B_worth X (X.2 j1) (X.2 j2) M (fun v3 M4 => ∃ j5 : Nat, (x3 + (nI 1)) = nI j5 ∧ j5 < X.1 ∧ (∃ j6 : Nat, (x3 + (nI 2)) = nI j6 ∧ j6 < X.1 ∧ (E_M_worth X (X.2 j5) (X.2 j6) M4 (fun v7 M8 => (v3 = v7 → (C_L_1014 X x3 M8 P)) ∧ (¬ (v3 = v7) → (P (nI 0) M8))))))))) : C_L_612 X x3 M P := by
  unfold C_L_612
  refine vm_WM.seq 384 5 (pc' := 617) (L' := [.ref 2000, .ref 0, .ref 48, .int x3]) (S' := [.int (x3 + (nI 1)), .ref 2000, .ref 0]) (M' := M) rfl ?_
  obtain ⟨j1, hj1, hj2, h⟩ := h
  refine vm_WM.sld 389 hX rfl hj1 hj2 ?_
  refine vm_WM.seq 390 4 (pc' := 622) (L' := [.ref 2000, .ref 0, .ref 48, .int x3]) (S' := [.int (x3 + (nI 2)), .ref 2000, .int (X.2 j1), .ref 0]) (M' := M) rfl ?_
  obtain ⟨j2, hj1, hj2, h⟩ := h
  refine vm_WM.sld 394 hX rfl hj1 hj2 ?_
  refine vm_WM.call (a := 88) (as := [.ref 0, .int (X.2 j1), .int (X.2 j2)]) (rest := []) (L0 := [.ref 0, .int (X.2 j1), .int (X.2 j2)]) 395 rfl rfl (by decide) rfl rfl ⟨rfl, Or.inr rfl, Nat.le_of_ble_eq_true rfl, Nat.le_of_ble_eq_true rfl⟩ rfl rfl rfl ?_
  refine vm_WM.theni h (fun v3 M4 h => ?_)
  show vm_WM X 180 626 [.ref 2000, .ref 0, .ref 48, .int x3] [.int v3] M4 _
  refine vm_WM.seq 396 5 (pc' := 631) (L' := [.ref 2000, .ref 0, .ref 48, .int x3]) (S' := [.int (x3 + (nI 1)), .ref 2000, .ref 48, .int v3]) (M' := M4) rfl ?_
  obtain ⟨j5, hj1, hj2, h⟩ := h
  refine vm_WM.sld 401 hX rfl hj1 hj2 ?_
  refine vm_WM.seq 402 4 (pc' := 636) (L' := [.ref 2000, .ref 0, .ref 48, .int x3]) (S' := [.int (x3 + (nI 2)), .ref 2000, .int (X.2 j5), .ref 48, .int v3]) (M' := M4) rfl ?_
  obtain ⟨j6, hj1, hj2, h⟩ := h
  refine vm_WM.sld 406 hX rfl hj1 hj2 ?_
  refine vm_WM.call (a := 149) (as := [.ref 48, .int (X.2 j5), .int (X.2 j6)]) (rest := [.int v3]) (L0 := [.ref 48, .int (X.2 j5), .int (X.2 j6), .null, .null, .null]) 407 rfl rfl (by decide) rfl rfl ⟨rfl, Or.inr rfl, Nat.le_of_ble_eq_true rfl, Nat.le_of_ble_eq_true rfl⟩ rfl rfl rfl ?_
  refine vm_WM.theni h (fun v7 M8 h => ?_)
  show vm_WM X 180 640 [.ref 2000, .ref 0, .ref 48, .int x3] [.int v7, .int v3] M8 _
  refine vm_WM.if (c := v3 = v7) (t1 := 1014) (t2 := 643) (S' := []) 408 rfl rfl rfl (fun hc => ?_) (fun hc => ?_)
  · replace h := h.1 hc
    exact h
  · replace h := h.2 hc
    refine vm_WM.seq 409 1 (pc' := 644) (L' := [.ref 2000, .ref 0, .ref 48, .int x3]) (S' := [.int (nI 0)]) (M' := M8) rfl ?_
    exact vm_WM.ret (r := some (.int (nI 0))) 410 rfl rfl rfl ⟨_, rfl, h⟩
set_option maxRecDepth 100000 in
theorem v_L_645 {X : Nat × (Nat → Int32)} (hX : X.1 < 10000) {x3 : Int32} {M : vm_M} {P : Int32 → vm_M → Prop} (h : ∃ j1 : Nat, (x3 + (nI 1)) = nI j1 ∧ j1 < X.1 ∧ (∃ j2 : Nat, (x3 + (nI 2)) = nI j2 ∧ j2 < X.1 ∧ (E_B_sure X (X.2 j1) (X.2 j2) M (fun v3 M4 => ∃ j5 : Nat, (x3 + (nI 1)) = nI j5 ∧ j5 < X.1 ∧ (∃ j6 : Nat, (x3 + (nI 2)) = nI j6 ∧ j6 < X.1 ∧ (E_M_sure X (X.2 j5) (X.2 j6) M4 (fun v7 M8 => (v3 = v7 → (C_L_1014 X x3 M8 P)) ∧ (¬ (v3 = v7) → (P (nI 0) M8))))))))) : C_L_645 X x3 M P := by
  unfold C_L_645
  refine vm_WM.seq 411 5 (pc' := 650) (L' := [.ref 2000, .ref 0, .ref 48, .int x3]) (S' := [.int (x3 + (nI 1)), .ref 2000, .ref 0]) (M' := M) rfl ?_
  obtain ⟨j1, hj1, hj2, h⟩ := h
  refine vm_WM.sld 416 hX rfl hj1 hj2 ?_
  refine vm_WM.seq 417 4 (pc' := 655) (L' := [.ref 2000, .ref 0, .ref 48, .int x3]) (S' := [.int (x3 + (nI 2)), .ref 2000, .int (X.2 j1), .ref 0]) (M' := M) rfl ?_
  obtain ⟨j2, hj1, hj2, h⟩ := h
  refine vm_WM.sld 421 hX rfl hj1 hj2 ?_
  refine vm_WM.call (a := 89) (as := [.ref 0, .int (X.2 j1), .int (X.2 j2)]) (rest := []) (L0 := [.ref 0, .int (X.2 j1), .int (X.2 j2)]) 422 rfl rfl (by decide) rfl rfl ⟨rfl, Or.inr rfl, Nat.le_of_ble_eq_true rfl, Nat.le_of_ble_eq_true rfl⟩ rfl rfl rfl ?_
  refine vm_WM.theni h (fun v3 M4 h => ?_)
  show vm_WM X 180 659 [.ref 2000, .ref 0, .ref 48, .int x3] [.int v3] M4 _
  refine vm_WM.seq 423 5 (pc' := 664) (L' := [.ref 2000, .ref 0, .ref 48, .int x3]) (S' := [.int (x3 + (nI 1)), .ref 2000, .ref 48, .int v3]) (M' := M4) rfl ?_
  obtain ⟨j5, hj1, hj2, h⟩ := h
  refine vm_WM.sld 428 hX rfl hj1 hj2 ?_
  refine vm_WM.seq 429 4 (pc' := 669) (L' := [.ref 2000, .ref 0, .ref 48, .int x3]) (S' := [.int (x3 + (nI 2)), .ref 2000, .int (X.2 j5), .ref 48, .int v3]) (M' := M4) rfl ?_
  obtain ⟨j6, hj1, hj2, h⟩ := h
  refine vm_WM.sld 433 hX rfl hj1 hj2 ?_
  refine vm_WM.call (a := 150) (as := [.ref 48, .int (X.2 j5), .int (X.2 j6)]) (rest := [.int v3]) (L0 := [.ref 48, .int (X.2 j5), .int (X.2 j6), .null, .null, .null, .null, .null, .null]) 434 rfl rfl (by decide) rfl rfl ⟨rfl, Or.inr rfl, Nat.le_of_ble_eq_true rfl, Nat.le_of_ble_eq_true rfl⟩ rfl rfl rfl ?_
  refine vm_WM.theni h (fun v7 M8 h => ?_)
  show vm_WM X 180 673 [.ref 2000, .ref 0, .ref 48, .int x3] [.int v7, .int v3] M8 _
  refine vm_WM.if (c := v3 = v7) (t1 := 1014) (t2 := 676) (S' := []) 435 rfl rfl rfl (fun hc => ?_) (fun hc => ?_)
  · replace h := h.1 hc
    exact h
  · replace h := h.2 hc
    refine vm_WM.seq 436 1 (pc' := 677) (L' := [.ref 2000, .ref 0, .ref 48, .int x3]) (S' := [.int (nI 0)]) (M' := M8) rfl ?_
    exact vm_WM.ret (r := some (.int (nI 0))) 437 rfl rfl rfl ⟨_, rfl, h⟩
set_option maxRecDepth 100000 in
theorem v_L_678 {X : Nat × (Nat → Int32)} (hX : X.1 < 10000) {x3 : Int32} {M : vm_M} {P : Int32 → vm_M → Prop} (h : ∃ j1 : Nat, (x3 + (nI 1)) = nI j1 ∧ j1 < X.1 ∧ (∃ j2 : Nat, (x3 + (nI 2)) = nI j2 ∧ j2 < X.1 ∧ (∃ j3 : Nat, (x3 + (nI 3)) = nI j3 ∧ j3 < X.1 ∧ (E_B_most X (X.2 j1) (X.2 j2) (X.2 j3) M (fun v4 M5 => ∃ j6 : Nat, (x3 + (nI 1)) = nI j6 ∧ j6 < X.1 ∧ (∃ j7 : Nat, (x3 + (nI 2)) = nI j7 ∧ j7 < X.1 ∧ (∃ j8 : Nat, (x3 + (nI 3)) = nI j8 ∧ j8 < X.1 ∧ (E_M_most X (X.2 j6) (X.2 j7) (X.2 j8) M5 (fun v9 M10 => (v4 = v9 → (C_L_1014 X x3 M10 P)) ∧ (¬ (v4 = v9) → (P (nI 0) M10))))))))))) : C_L_678 X x3 M P := by
  unfold C_L_678
  refine vm_WM.seq 438 5 (pc' := 683) (L' := [.ref 2000, .ref 0, .ref 48, .int x3]) (S' := [.int (x3 + (nI 1)), .ref 2000, .ref 0]) (M' := M) rfl ?_
  obtain ⟨j1, hj1, hj2, h⟩ := h
  refine vm_WM.sld 443 hX rfl hj1 hj2 ?_
  refine vm_WM.seq 444 4 (pc' := 688) (L' := [.ref 2000, .ref 0, .ref 48, .int x3]) (S' := [.int (x3 + (nI 2)), .ref 2000, .int (X.2 j1), .ref 0]) (M' := M) rfl ?_
  obtain ⟨j2, hj1, hj2, h⟩ := h
  refine vm_WM.sld 448 hX rfl hj1 hj2 ?_
  refine vm_WM.seq 449 4 (pc' := 693) (L' := [.ref 2000, .ref 0, .ref 48, .int x3]) (S' := [.int (x3 + (nI 3)), .ref 2000, .int (X.2 j2), .int (X.2 j1), .ref 0]) (M' := M) rfl ?_
  obtain ⟨j3, hj1, hj2, h⟩ := h
  refine vm_WM.sld 453 hX rfl hj1 hj2 ?_
  refine vm_WM.call (a := 90) (as := [.ref 0, .int (X.2 j1), .int (X.2 j2), .int (X.2 j3)]) (rest := []) (L0 := [.ref 0, .int (X.2 j1), .int (X.2 j2), .int (X.2 j3)]) 454 rfl rfl (by decide) rfl rfl ⟨rfl, Or.inr rfl, Nat.le_of_ble_eq_true rfl, Nat.le_of_ble_eq_true rfl⟩ rfl rfl rfl ?_
  refine vm_WM.theni h (fun v4 M5 h => ?_)
  show vm_WM X 180 697 [.ref 2000, .ref 0, .ref 48, .int x3] [.int v4] M5 _
  refine vm_WM.seq 455 5 (pc' := 702) (L' := [.ref 2000, .ref 0, .ref 48, .int x3]) (S' := [.int (x3 + (nI 1)), .ref 2000, .ref 48, .int v4]) (M' := M5) rfl ?_
  obtain ⟨j6, hj1, hj2, h⟩ := h
  refine vm_WM.sld 460 hX rfl hj1 hj2 ?_
  refine vm_WM.seq 461 4 (pc' := 707) (L' := [.ref 2000, .ref 0, .ref 48, .int x3]) (S' := [.int (x3 + (nI 2)), .ref 2000, .int (X.2 j6), .ref 48, .int v4]) (M' := M5) rfl ?_
  obtain ⟨j7, hj1, hj2, h⟩ := h
  refine vm_WM.sld 465 hX rfl hj1 hj2 ?_
  refine vm_WM.seq 466 4 (pc' := 712) (L' := [.ref 2000, .ref 0, .ref 48, .int x3]) (S' := [.int (x3 + (nI 3)), .ref 2000, .int (X.2 j7), .int (X.2 j6), .ref 48, .int v4]) (M' := M5) rfl ?_
  obtain ⟨j8, hj1, hj2, h⟩ := h
  refine vm_WM.sld 470 hX rfl hj1 hj2 ?_
  refine vm_WM.call (a := 151) (as := [.ref 48, .int (X.2 j6), .int (X.2 j7), .int (X.2 j8)]) (rest := [.int v4]) (L0 := [.ref 48, .int (X.2 j6), .int (X.2 j7), .int (X.2 j8), .null, .null, .null, .null, .null, .null, .null, .null]) 471 rfl rfl (by decide) rfl rfl ⟨rfl, Or.inr rfl, Nat.le_of_ble_eq_true rfl, Nat.le_of_ble_eq_true rfl⟩ rfl rfl rfl ?_
  refine vm_WM.theni h (fun v9 M10 h => ?_)
  show vm_WM X 180 716 [.ref 2000, .ref 0, .ref 48, .int x3] [.int v9, .int v4] M10 _
  refine vm_WM.if (c := v4 = v9) (t1 := 1014) (t2 := 719) (S' := []) 472 rfl rfl rfl (fun hc => ?_) (fun hc => ?_)
  · replace h := h.1 hc
    exact h
  · replace h := h.2 hc
    refine vm_WM.seq 473 1 (pc' := 720) (L' := [.ref 2000, .ref 0, .ref 48, .int x3]) (S' := [.int (nI 0)]) (M' := M10) rfl ?_
    exact vm_WM.ret (r := some (.int (nI 0))) 474 rfl rfl rfl ⟨_, rfl, h⟩
set_option maxRecDepth 100000 in
theorem v_L_721 {X : Nat × (Nat → Int32)} (hX : X.1 < 10000) {x3 : Int32} {M : vm_M} {P : Int32 → vm_M → Prop} (h : ∃ j1 : Nat, (x3 + (nI 1)) = nI j1 ∧ j1 < X.1 ∧ (E_B_last X (X.2 j1) M (fun v2 M3 => ∃ j4 : Nat, (x3 + (nI 1)) = nI j4 ∧ j4 < X.1 ∧ (E_M_last X (X.2 j4) M3 (fun v5 M6 => (v2 = v5 → (C_L_1014 X x3 M6 P)) ∧ (¬ (v2 = v5) → (P (nI 0) M6))))))) : C_L_721 X x3 M P := by
  unfold C_L_721
  refine vm_WM.seq 475 5 (pc' := 726) (L' := [.ref 2000, .ref 0, .ref 48, .int x3]) (S' := [.int (x3 + (nI 1)), .ref 2000, .ref 0]) (M' := M) rfl ?_
  obtain ⟨j1, hj1, hj2, h⟩ := h
  refine vm_WM.sld 480 hX rfl hj1 hj2 ?_
  refine vm_WM.call (a := 91) (as := [.ref 0, .int (X.2 j1)]) (rest := []) (L0 := [.ref 0, .int (X.2 j1)]) 481 rfl rfl (by decide) rfl rfl ⟨rfl, Or.inr rfl, Nat.le_of_ble_eq_true rfl, Nat.le_of_ble_eq_true rfl⟩ rfl rfl rfl ?_
  refine vm_WM.theni h (fun v2 M3 h => ?_)
  show vm_WM X 180 730 [.ref 2000, .ref 0, .ref 48, .int x3] [.int v2] M3 _
  refine vm_WM.seq 482 5 (pc' := 735) (L' := [.ref 2000, .ref 0, .ref 48, .int x3]) (S' := [.int (x3 + (nI 1)), .ref 2000, .ref 48, .int v2]) (M' := M3) rfl ?_
  obtain ⟨j4, hj1, hj2, h⟩ := h
  refine vm_WM.sld 487 hX rfl hj1 hj2 ?_
  refine vm_WM.call (a := 153) (as := [.ref 48, .int (X.2 j4)]) (rest := [.int v2]) (L0 := [.ref 48, .int (X.2 j4), .null]) 488 rfl rfl (by decide) rfl rfl ⟨rfl, Or.inr rfl, Nat.le_of_ble_eq_true rfl, Nat.le_of_ble_eq_true rfl⟩ rfl rfl rfl ?_
  refine vm_WM.theni h (fun v5 M6 h => ?_)
  show vm_WM X 180 739 [.ref 2000, .ref 0, .ref 48, .int x3] [.int v5, .int v2] M6 _
  refine vm_WM.if (c := v2 = v5) (t1 := 1014) (t2 := 742) (S' := []) 489 rfl rfl rfl (fun hc => ?_) (fun hc => ?_)
  · replace h := h.1 hc
    exact h
  · replace h := h.2 hc
    refine vm_WM.seq 490 1 (pc' := 743) (L' := [.ref 2000, .ref 0, .ref 48, .int x3]) (S' := [.int (nI 0)]) (M' := M6) rfl ?_
    exact vm_WM.ret (r := some (.int (nI 0))) 491 rfl rfl rfl ⟨_, rfl, h⟩
set_option maxRecDepth 100000 in
theorem v_L_744 {X : Nat × (Nat → Int32)} (hX : X.1 < 10000) {x3 : Int32} {M : vm_M} {P : Int32 → vm_M → Prop} (h : ∃ j1 : Nat, (x3 + (nI 1)) = nI j1 ∧ j1 < X.1 ∧ (E_B_crow X (X.2 j1) M (fun v2 M3 => ∃ j4 : Nat, (x3 + (nI 1)) = nI j4 ∧ j4 < X.1 ∧ (E_M_crow X (X.2 j4) M3 (fun v5 M6 => (v2 = v5 → (C_L_1014 X x3 M6 P)) ∧ (¬ (v2 = v5) → (P (nI 0) M6))))))) : C_L_744 X x3 M P := by
  unfold C_L_744
  refine vm_WM.seq 492 5 (pc' := 749) (L' := [.ref 2000, .ref 0, .ref 48, .int x3]) (S' := [.int (x3 + (nI 1)), .ref 2000, .ref 0]) (M' := M) rfl ?_
  obtain ⟨j1, hj1, hj2, h⟩ := h
  refine vm_WM.sld 497 hX rfl hj1 hj2 ?_
  refine vm_WM.call (a := 92) (as := [.ref 0, .int (X.2 j1)]) (rest := []) (L0 := [.ref 0, .int (X.2 j1)]) 498 rfl rfl (by decide) rfl rfl ⟨rfl, Or.inr rfl, Nat.le_of_ble_eq_true rfl, Nat.le_of_ble_eq_true rfl⟩ rfl rfl rfl ?_
  refine vm_WM.theni h (fun v2 M3 h => ?_)
  show vm_WM X 180 753 [.ref 2000, .ref 0, .ref 48, .int x3] [.int v2] M3 _
  refine vm_WM.seq 499 5 (pc' := 758) (L' := [.ref 2000, .ref 0, .ref 48, .int x3]) (S' := [.int (x3 + (nI 1)), .ref 2000, .ref 48, .int v2]) (M' := M3) rfl ?_
  obtain ⟨j4, hj1, hj2, h⟩ := h
  refine vm_WM.sld 504 hX rfl hj1 hj2 ?_
  refine vm_WM.call (a := 154) (as := [.ref 48, .int (X.2 j4)]) (rest := [.int v2]) (L0 := [.ref 48, .int (X.2 j4), .null, .null, .null]) 505 rfl rfl (by decide) rfl rfl ⟨rfl, Or.inr rfl, Nat.le_of_ble_eq_true rfl, Nat.le_of_ble_eq_true rfl⟩ rfl rfl rfl ?_
  refine vm_WM.theni h (fun v5 M6 h => ?_)
  show vm_WM X 180 762 [.ref 2000, .ref 0, .ref 48, .int x3] [.int v5, .int v2] M6 _
  refine vm_WM.if (c := v2 = v5) (t1 := 1014) (t2 := 765) (S' := []) 506 rfl rfl rfl (fun hc => ?_) (fun hc => ?_)
  · replace h := h.1 hc
    exact h
  · replace h := h.2 hc
    refine vm_WM.seq 507 1 (pc' := 766) (L' := [.ref 2000, .ref 0, .ref 48, .int x3]) (S' := [.int (nI 0)]) (M' := M6) rfl ?_
    exact vm_WM.ret (r := some (.int (nI 0))) 508 rfl rfl rfl ⟨_, rfl, h⟩
set_option maxRecDepth 100000 in
theorem v_L_767 {X : Nat × (Nat → Int32)} (hX : X.1 < 10000) {x3 : Int32} {M : vm_M} {P : Int32 → vm_M → Prop} (h : ∃ j1 : Nat, (x3 + (nI 1)) = nI j1 ∧ j1 < X.1 ∧ (∃ j2 : Nat, (x3 + (nI 2)) = nI j2 ∧ j2 < X.1 ∧ (∃ j3 : Nat, (x3 + (nI 3)) = nI j3 ∧ j3 < X.1 ∧ (∃ j4 : Nat, (x3 + (nI 4)) = nI j4 ∧ j4 < X.1 ∧ (E_B_where X (X.2 j1) (X.2 j2) (X.2 j3) (X.2 j4) M (fun v5 M6 => ∃ j7 : Nat, (x3 + (nI 1)) = nI j7 ∧ j7 < X.1 ∧ (∃ j8 : Nat, (x3 + (nI 2)) = nI j8 ∧ j8 < X.1 ∧ (∃ j9 : Nat, (x3 + (nI 3)) = nI j9 ∧ j9 < X.1 ∧ (∃ j10 : Nat, (x3 + (nI 4)) = nI j10 ∧ j10 < X.1 ∧ (E_M_where X (X.2 j7) (X.2 j8) (X.2 j9) (X.2 j10) M6 (fun v11 M12 => (v5 = v11 → (C_L_1014 X x3 M12 P)) ∧ (¬ (v5 = v11) → (P (nI 0) M12))))))))))))) : C_L_767 X x3 M P := by
  unfold C_L_767
  refine vm_WM.seq 509 5 (pc' := 772) (L' := [.ref 2000, .ref 0, .ref 48, .int x3]) (S' := [.int (x3 + (nI 1)), .ref 2000, .ref 0]) (M' := M) rfl ?_
  obtain ⟨j1, hj1, hj2, h⟩ := h
  refine vm_WM.sld 514 hX rfl hj1 hj2 ?_
  refine vm_WM.seq 515 4 (pc' := 777) (L' := [.ref 2000, .ref 0, .ref 48, .int x3]) (S' := [.int (x3 + (nI 2)), .ref 2000, .int (X.2 j1), .ref 0]) (M' := M) rfl ?_
  obtain ⟨j2, hj1, hj2, h⟩ := h
  refine vm_WM.sld 519 hX rfl hj1 hj2 ?_
  refine vm_WM.seq 520 4 (pc' := 782) (L' := [.ref 2000, .ref 0, .ref 48, .int x3]) (S' := [.int (x3 + (nI 3)), .ref 2000, .int (X.2 j2), .int (X.2 j1), .ref 0]) (M' := M) rfl ?_
  obtain ⟨j3, hj1, hj2, h⟩ := h
  refine vm_WM.sld 524 hX rfl hj1 hj2 ?_
  refine vm_WM.seq 525 4 (pc' := 787) (L' := [.ref 2000, .ref 0, .ref 48, .int x3]) (S' := [.int (x3 + (nI 4)), .ref 2000, .int (X.2 j3), .int (X.2 j2), .int (X.2 j1), .ref 0]) (M' := M) rfl ?_
  obtain ⟨j4, hj1, hj2, h⟩ := h
  refine vm_WM.sld 529 hX rfl hj1 hj2 ?_
  refine vm_WM.call (a := 93) (as := [.ref 0, .int (X.2 j1), .int (X.2 j2), .int (X.2 j3), .int (X.2 j4)]) (rest := []) (L0 := [.ref 0, .int (X.2 j1), .int (X.2 j2), .int (X.2 j3), .int (X.2 j4), .null, .null, .null, .null]) 530 rfl rfl (by decide) rfl rfl ⟨rfl, Or.inr rfl, Nat.le_of_ble_eq_true rfl, Nat.le_of_ble_eq_true rfl⟩ rfl rfl rfl ?_
  refine vm_WM.theni h (fun v5 M6 h => ?_)
  show vm_WM X 180 791 [.ref 2000, .ref 0, .ref 48, .int x3] [.int v5] M6 _
  refine vm_WM.seq 531 5 (pc' := 796) (L' := [.ref 2000, .ref 0, .ref 48, .int x3]) (S' := [.int (x3 + (nI 1)), .ref 2000, .ref 48, .int v5]) (M' := M6) rfl ?_
  obtain ⟨j7, hj1, hj2, h⟩ := h
  refine vm_WM.sld 536 hX rfl hj1 hj2 ?_
  refine vm_WM.seq 537 4 (pc' := 801) (L' := [.ref 2000, .ref 0, .ref 48, .int x3]) (S' := [.int (x3 + (nI 2)), .ref 2000, .int (X.2 j7), .ref 48, .int v5]) (M' := M6) rfl ?_
  obtain ⟨j8, hj1, hj2, h⟩ := h
  refine vm_WM.sld 541 hX rfl hj1 hj2 ?_
  refine vm_WM.seq 542 4 (pc' := 806) (L' := [.ref 2000, .ref 0, .ref 48, .int x3]) (S' := [.int (x3 + (nI 3)), .ref 2000, .int (X.2 j8), .int (X.2 j7), .ref 48, .int v5]) (M' := M6) rfl ?_
  obtain ⟨j9, hj1, hj2, h⟩ := h
  refine vm_WM.sld 546 hX rfl hj1 hj2 ?_
  refine vm_WM.seq 547 4 (pc' := 811) (L' := [.ref 2000, .ref 0, .ref 48, .int x3]) (S' := [.int (x3 + (nI 4)), .ref 2000, .int (X.2 j9), .int (X.2 j8), .int (X.2 j7), .ref 48, .int v5]) (M' := M6) rfl ?_
  obtain ⟨j10, hj1, hj2, h⟩ := h
  refine vm_WM.sld 551 hX rfl hj1 hj2 ?_
  refine vm_WM.call (a := 158) (as := [.ref 48, .int (X.2 j7), .int (X.2 j8), .int (X.2 j9), .int (X.2 j10)]) (rest := [.int v5]) (L0 := [.ref 48, .int (X.2 j7), .int (X.2 j8), .int (X.2 j9), .int (X.2 j10), .null, .null, .null, .null]) 552 rfl rfl (by decide) rfl rfl ⟨rfl, Or.inr rfl, Nat.le_of_ble_eq_true rfl, Nat.le_of_ble_eq_true rfl⟩ rfl rfl rfl ?_
  refine vm_WM.theni h (fun v11 M12 h => ?_)
  show vm_WM X 180 815 [.ref 2000, .ref 0, .ref 48, .int x3] [.int v11, .int v5] M12 _
  refine vm_WM.if (c := v5 = v11) (t1 := 1014) (t2 := 818) (S' := []) 553 rfl rfl rfl (fun hc => ?_) (fun hc => ?_)
  · replace h := h.1 hc
    exact h
  · replace h := h.2 hc
    refine vm_WM.seq 554 1 (pc' := 819) (L' := [.ref 2000, .ref 0, .ref 48, .int x3]) (S' := [.int (nI 0)]) (M' := M12) rfl ?_
    exact vm_WM.ret (r := some (.int (nI 0))) 555 rfl rfl rfl ⟨_, rfl, h⟩
set_option maxRecDepth 100000 in
theorem v_L_820 {X : Nat × (Nat → Int32)} (hX : X.1 < 10000) {x3 : Int32} {M : vm_M} {P : Int32 → vm_M → Prop} (h : ∃ j1 : Nat, (x3 + (nI 1)) = nI j1 ∧ j1 < X.1 ∧ (E_B_image X (X.2 j1) M (fun v2 M3 => ∃ j4 : Nat, (x3 + (nI 1)) = nI j4 ∧ j4 < X.1 ∧ (E_M_image X (X.2 j4) M3 (fun v5 M6 => (v2 = v5 → (C_L_1014 X x3 M6 P)) ∧ (¬ (v2 = v5) → (P (nI 0) M6))))))) : C_L_820 X x3 M P := by
  unfold C_L_820
  refine vm_WM.seq 556 5 (pc' := 825) (L' := [.ref 2000, .ref 0, .ref 48, .int x3]) (S' := [.int (x3 + (nI 1)), .ref 2000, .ref 0]) (M' := M) rfl ?_
  obtain ⟨j1, hj1, hj2, h⟩ := h
  refine vm_WM.sld 561 hX rfl hj1 hj2 ?_
  refine vm_WM.call (a := 94) (as := [.ref 0, .int (X.2 j1)]) (rest := []) (L0 := [.ref 0, .int (X.2 j1)]) 562 rfl rfl (by decide) rfl rfl ⟨rfl, Or.inr rfl, Nat.le_of_ble_eq_true rfl, Nat.le_of_ble_eq_true rfl⟩ rfl rfl rfl ?_
  refine vm_WM.theni h (fun v2 M3 h => ?_)
  show vm_WM X 180 829 [.ref 2000, .ref 0, .ref 48, .int x3] [.int v2] M3 _
  refine vm_WM.seq 563 5 (pc' := 834) (L' := [.ref 2000, .ref 0, .ref 48, .int x3]) (S' := [.int (x3 + (nI 1)), .ref 2000, .ref 48, .int v2]) (M' := M3) rfl ?_
  obtain ⟨j4, hj1, hj2, h⟩ := h
  refine vm_WM.sld 568 hX rfl hj1 hj2 ?_
  refine vm_WM.call (a := 159) (as := [.ref 48, .int (X.2 j4)]) (rest := [.int v2]) (L0 := [.ref 48, .int (X.2 j4), .null]) 569 rfl rfl (by decide) rfl rfl ⟨rfl, Or.inr rfl, Nat.le_of_ble_eq_true rfl, Nat.le_of_ble_eq_true rfl⟩ rfl rfl rfl ?_
  refine vm_WM.theni h (fun v5 M6 h => ?_)
  show vm_WM X 180 838 [.ref 2000, .ref 0, .ref 48, .int x3] [.int v5, .int v2] M6 _
  refine vm_WM.if (c := v2 = v5) (t1 := 1014) (t2 := 841) (S' := []) 570 rfl rfl rfl (fun hc => ?_) (fun hc => ?_)
  · replace h := h.1 hc
    exact h
  · replace h := h.2 hc
    refine vm_WM.seq 571 1 (pc' := 842) (L' := [.ref 2000, .ref 0, .ref 48, .int x3]) (S' := [.int (nI 0)]) (M' := M6) rfl ?_
    exact vm_WM.ret (r := some (.int (nI 0))) 572 rfl rfl rfl ⟨_, rfl, h⟩
set_option maxRecDepth 100000 in
theorem v_L_843 {X : Nat × (Nat → Int32)} (hX : X.1 < 10000) {x3 : Int32} {M : vm_M} {P : Int32 → vm_M → Prop} (h : ∃ j1 : Nat, (x3 + (nI 1)) = nI j1 ∧ j1 < X.1 ∧ (E_B_restore X (X.2 j1) M (fun v2 M3 => ∃ j4 : Nat, (x3 + (nI 1)) = nI j4 ∧ j4 < X.1 ∧ (E_M_restore X (X.2 j4) M3 (fun v5 M6 => (v2 = v5 → (C_L_1014 X x3 M6 P)) ∧ (¬ (v2 = v5) → (P (nI 0) M6))))))) : C_L_843 X x3 M P := by
  unfold C_L_843
  refine vm_WM.seq 573 5 (pc' := 848) (L' := [.ref 2000, .ref 0, .ref 48, .int x3]) (S' := [.int (x3 + (nI 1)), .ref 2000, .ref 0]) (M' := M) rfl ?_
  obtain ⟨j1, hj1, hj2, h⟩ := h
  refine vm_WM.sld 578 hX rfl hj1 hj2 ?_
  refine vm_WM.call (a := 95) (as := [.ref 0, .int (X.2 j1)]) (rest := []) (L0 := [.ref 0, .int (X.2 j1)]) 579 rfl rfl (by decide) rfl rfl ⟨rfl, Or.inr rfl, Nat.le_of_ble_eq_true rfl, Nat.le_of_ble_eq_true rfl⟩ rfl rfl rfl ?_
  refine vm_WM.theni h (fun v2 M3 h => ?_)
  show vm_WM X 180 852 [.ref 2000, .ref 0, .ref 48, .int x3] [.int v2] M3 _
  refine vm_WM.seq 580 5 (pc' := 857) (L' := [.ref 2000, .ref 0, .ref 48, .int x3]) (S' := [.int (x3 + (nI 1)), .ref 2000, .ref 48, .int v2]) (M' := M3) rfl ?_
  obtain ⟨j4, hj1, hj2, h⟩ := h
  refine vm_WM.sld 585 hX rfl hj1 hj2 ?_
  refine vm_WM.call (a := 160) (as := [.ref 48, .int (X.2 j4)]) (rest := [.int v2]) (L0 := [.ref 48, .int (X.2 j4), .null]) 586 rfl rfl (by decide) rfl rfl ⟨rfl, Or.inr rfl, Nat.le_of_ble_eq_true rfl, Nat.le_of_ble_eq_true rfl⟩ rfl rfl rfl ?_
  refine vm_WM.theni h (fun v5 M6 h => ?_)
  show vm_WM X 180 861 [.ref 2000, .ref 0, .ref 48, .int x3] [.int v5, .int v2] M6 _
  refine vm_WM.if (c := v2 = v5) (t1 := 1014) (t2 := 864) (S' := []) 587 rfl rfl rfl (fun hc => ?_) (fun hc => ?_)
  · replace h := h.1 hc
    exact h
  · replace h := h.2 hc
    refine vm_WM.seq 588 1 (pc' := 865) (L' := [.ref 2000, .ref 0, .ref 48, .int x3]) (S' := [.int (nI 0)]) (M' := M6) rfl ?_
    exact vm_WM.ret (r := some (.int (nI 0))) 589 rfl rfl rfl ⟨_, rfl, h⟩
set_option maxRecDepth 100000 in
theorem v_L_866 {X : Nat × (Nat → Int32)} (hX : X.1 < 10000) {x3 : Int32} {M : vm_M} {P : Int32 → vm_M → Prop} (h : ∃ j1 : Nat, (x3 + (nI 1)) = nI j1 ∧ j1 < X.1 ∧ (E_B_kind X (X.2 j1) M (fun v2 M3 => ∃ j4 : Nat, (x3 + (nI 1)) = nI j4 ∧ j4 < X.1 ∧ (E_M_kind X (X.2 j4) M3 (fun v5 M6 => (v2 = v5 → (C_L_1014 X x3 M6 P)) ∧ (¬ (v2 = v5) → (P (nI 0) M6))))))) : C_L_866 X x3 M P := by
  unfold C_L_866
  refine vm_WM.seq 590 5 (pc' := 871) (L' := [.ref 2000, .ref 0, .ref 48, .int x3]) (S' := [.int (x3 + (nI 1)), .ref 2000, .ref 0]) (M' := M) rfl ?_
  obtain ⟨j1, hj1, hj2, h⟩ := h
  refine vm_WM.sld 595 hX rfl hj1 hj2 ?_
  refine vm_WM.call (a := 96) (as := [.ref 0, .int (X.2 j1)]) (rest := []) (L0 := [.ref 0, .int (X.2 j1)]) 596 rfl rfl (by decide) rfl rfl ⟨rfl, Or.inr rfl, Nat.le_of_ble_eq_true rfl, Nat.le_of_ble_eq_true rfl⟩ rfl rfl rfl ?_
  refine vm_WM.theni h (fun v2 M3 h => ?_)
  show vm_WM X 180 875 [.ref 2000, .ref 0, .ref 48, .int x3] [.int v2] M3 _
  refine vm_WM.seq 597 5 (pc' := 880) (L' := [.ref 2000, .ref 0, .ref 48, .int x3]) (S' := [.int (x3 + (nI 1)), .ref 2000, .ref 48, .int v2]) (M' := M3) rfl ?_
  obtain ⟨j4, hj1, hj2, h⟩ := h
  refine vm_WM.sld 602 hX rfl hj1 hj2 ?_
  refine vm_WM.call (a := 162) (as := [.ref 48, .int (X.2 j4)]) (rest := [.int v2]) (L0 := [.ref 48, .int (X.2 j4)]) 603 rfl rfl (by decide) rfl rfl ⟨rfl, Or.inr rfl, Nat.le_of_ble_eq_true rfl, Nat.le_of_ble_eq_true rfl⟩ rfl rfl rfl ?_
  refine vm_WM.theni h (fun v5 M6 h => ?_)
  show vm_WM X 180 884 [.ref 2000, .ref 0, .ref 48, .int x3] [.int v5, .int v2] M6 _
  refine vm_WM.if (c := v2 = v5) (t1 := 1014) (t2 := 887) (S' := []) 604 rfl rfl rfl (fun hc => ?_) (fun hc => ?_)
  · replace h := h.1 hc
    exact h
  · replace h := h.2 hc
    refine vm_WM.seq 605 1 (pc' := 888) (L' := [.ref 2000, .ref 0, .ref 48, .int x3]) (S' := [.int (nI 0)]) (M' := M6) rfl ?_
    exact vm_WM.ret (r := some (.int (nI 0))) 606 rfl rfl rfl ⟨_, rfl, h⟩
set_option maxRecDepth 100000 in
theorem v_L_889 {X : Nat × (Nat → Int32)} (hX : X.1 < 10000) {x3 : Int32} {M : vm_M} {P : Int32 → vm_M → Prop} (h : ∃ j1 : Nat, (x3 + (nI 1)) = nI j1 ∧ j1 < X.1 ∧ (∃ j2 : Nat, (x3 + (nI 2)) = nI j2 ∧ j2 < X.1 ∧ (E_B_as X (X.2 j1) (X.2 j2) M (fun v3 M4 => ∃ j5 : Nat, (x3 + (nI 1)) = nI j5 ∧ j5 < X.1 ∧ (∃ j6 : Nat, (x3 + (nI 2)) = nI j6 ∧ j6 < X.1 ∧ (E_M_as X (X.2 j5) (X.2 j6) M4 (fun v7 M8 => (v3 = v7 → (C_L_1014 X x3 M8 P)) ∧ (¬ (v3 = v7) → (P (nI 0) M8))))))))) : C_L_889 X x3 M P := by
  unfold C_L_889
  refine vm_WM.seq 607 5 (pc' := 894) (L' := [.ref 2000, .ref 0, .ref 48, .int x3]) (S' := [.int (x3 + (nI 1)), .ref 2000, .ref 0]) (M' := M) rfl ?_
  obtain ⟨j1, hj1, hj2, h⟩ := h
  refine vm_WM.sld 612 hX rfl hj1 hj2 ?_
  refine vm_WM.seq 613 4 (pc' := 899) (L' := [.ref 2000, .ref 0, .ref 48, .int x3]) (S' := [.int (x3 + (nI 2)), .ref 2000, .int (X.2 j1), .ref 0]) (M' := M) rfl ?_
  obtain ⟨j2, hj1, hj2, h⟩ := h
  refine vm_WM.sld 617 hX rfl hj1 hj2 ?_
  refine vm_WM.call (a := 97) (as := [.ref 0, .int (X.2 j1), .int (X.2 j2)]) (rest := []) (L0 := [.ref 0, .int (X.2 j1), .int (X.2 j2)]) 618 rfl rfl (by decide) rfl rfl ⟨rfl, Or.inr rfl, Nat.le_of_ble_eq_true rfl, Nat.le_of_ble_eq_true rfl⟩ rfl rfl rfl ?_
  refine vm_WM.theni h (fun v3 M4 h => ?_)
  show vm_WM X 180 903 [.ref 2000, .ref 0, .ref 48, .int x3] [.int v3] M4 _
  refine vm_WM.seq 619 5 (pc' := 908) (L' := [.ref 2000, .ref 0, .ref 48, .int x3]) (S' := [.int (x3 + (nI 1)), .ref 2000, .ref 48, .int v3]) (M' := M4) rfl ?_
  obtain ⟨j5, hj1, hj2, h⟩ := h
  refine vm_WM.sld 624 hX rfl hj1 hj2 ?_
  refine vm_WM.seq 625 4 (pc' := 913) (L' := [.ref 2000, .ref 0, .ref 48, .int x3]) (S' := [.int (x3 + (nI 2)), .ref 2000, .int (X.2 j5), .ref 48, .int v3]) (M' := M4) rfl ?_
  obtain ⟨j6, hj1, hj2, h⟩ := h
  refine vm_WM.sld 629 hX rfl hj1 hj2 ?_
  refine vm_WM.call (a := 163) (as := [.ref 48, .int (X.2 j5), .int (X.2 j6)]) (rest := [.int v3]) (L0 := [.ref 48, .int (X.2 j5), .int (X.2 j6)]) 630 rfl rfl (by decide) rfl rfl ⟨rfl, Or.inr rfl, Nat.le_of_ble_eq_true rfl, Nat.le_of_ble_eq_true rfl⟩ rfl rfl rfl ?_
  refine vm_WM.theni h (fun v7 M8 h => ?_)
  show vm_WM X 180 917 [.ref 2000, .ref 0, .ref 48, .int x3] [.int v7, .int v3] M8 _
  refine vm_WM.if (c := v3 = v7) (t1 := 1014) (t2 := 920) (S' := []) 631 rfl rfl rfl (fun hc => ?_) (fun hc => ?_)
  · replace h := h.1 hc
    exact h
  · replace h := h.2 hc
    refine vm_WM.seq 632 1 (pc' := 921) (L' := [.ref 2000, .ref 0, .ref 48, .int x3]) (S' := [.int (nI 0)]) (M' := M8) rfl ?_
    exact vm_WM.ret (r := some (.int (nI 0))) 633 rfl rfl rfl ⟨_, rfl, h⟩
set_option maxRecDepth 100000 in
theorem v_L_922 {X : Nat × (Nat → Int32)} (hX : X.1 < 10000) {x3 : Int32} {M : vm_M} {P : Int32 → vm_M → Prop} (h : ∃ j1 : Nat, (x3 + (nI 1)) = nI j1 ∧ j1 < X.1 ∧ (∃ j2 : Nat, (x3 + (nI 2)) = nI j2 ∧ j2 < X.1 ∧ (E_B_ask X (X.2 j1) (X.2 j2) M (fun v3 M4 => ∃ j5 : Nat, (x3 + (nI 1)) = nI j5 ∧ j5 < X.1 ∧ (∃ j6 : Nat, (x3 + (nI 2)) = nI j6 ∧ j6 < X.1 ∧ (E_M_ask X (X.2 j5) (X.2 j6) M4 (fun v7 M8 => (v3 = v7 → (C_L_1014 X x3 M8 P)) ∧ (¬ (v3 = v7) → (P (nI 0) M8))))))))) : C_L_922 X x3 M P := by
  unfold C_L_922
  refine vm_WM.seq 634 5 (pc' := 927) (L' := [.ref 2000, .ref 0, .ref 48, .int x3]) (S' := [.int (x3 + (nI 1)), .ref 2000, .ref 0]) (M' := M) rfl ?_
  obtain ⟨j1, hj1, hj2, h⟩ := h
  refine vm_WM.sld 639 hX rfl hj1 hj2 ?_
  refine vm_WM.seq 640 4 (pc' := 932) (L' := [.ref 2000, .ref 0, .ref 48, .int x3]) (S' := [.int (x3 + (nI 2)), .ref 2000, .int (X.2 j1), .ref 0]) (M' := M) rfl ?_
  obtain ⟨j2, hj1, hj2, h⟩ := h
  refine vm_WM.sld 644 hX rfl hj1 hj2 ?_
  refine vm_WM.call (a := 98) (as := [.ref 0, .int (X.2 j1), .int (X.2 j2)]) (rest := []) (L0 := [.ref 0, .int (X.2 j1), .int (X.2 j2)]) 645 rfl rfl (by decide) rfl rfl ⟨rfl, Or.inr rfl, Nat.le_of_ble_eq_true rfl, Nat.le_of_ble_eq_true rfl⟩ rfl rfl rfl ?_
  refine vm_WM.theni h (fun v3 M4 h => ?_)
  show vm_WM X 180 936 [.ref 2000, .ref 0, .ref 48, .int x3] [.int v3] M4 _
  refine vm_WM.seq 646 5 (pc' := 941) (L' := [.ref 2000, .ref 0, .ref 48, .int x3]) (S' := [.int (x3 + (nI 1)), .ref 2000, .ref 48, .int v3]) (M' := M4) rfl ?_
  obtain ⟨j5, hj1, hj2, h⟩ := h
  refine vm_WM.sld 651 hX rfl hj1 hj2 ?_
  refine vm_WM.seq 652 4 (pc' := 946) (L' := [.ref 2000, .ref 0, .ref 48, .int x3]) (S' := [.int (x3 + (nI 2)), .ref 2000, .int (X.2 j5), .ref 48, .int v3]) (M' := M4) rfl ?_
  obtain ⟨j6, hj1, hj2, h⟩ := h
  refine vm_WM.sld 656 hX rfl hj1 hj2 ?_
  refine vm_WM.call (a := 169) (as := [.ref 48, .int (X.2 j5), .int (X.2 j6)]) (rest := [.int v3]) (L0 := [.ref 48, .int (X.2 j5), .int (X.2 j6)]) 657 rfl rfl (by decide) rfl rfl ⟨rfl, Or.inr rfl, Nat.le_of_ble_eq_true rfl, Nat.le_of_ble_eq_true rfl⟩ rfl rfl rfl ?_
  refine vm_WM.theni h (fun v7 M8 h => ?_)
  show vm_WM X 180 950 [.ref 2000, .ref 0, .ref 48, .int x3] [.int v7, .int v3] M8 _
  refine vm_WM.if (c := v3 = v7) (t1 := 1014) (t2 := 953) (S' := []) 658 rfl rfl rfl (fun hc => ?_) (fun hc => ?_)
  · replace h := h.1 hc
    exact h
  · replace h := h.2 hc
    refine vm_WM.seq 659 1 (pc' := 954) (L' := [.ref 2000, .ref 0, .ref 48, .int x3]) (S' := [.int (nI 0)]) (M' := M8) rfl ?_
    exact vm_WM.ret (r := some (.int (nI 0))) 660 rfl rfl rfl ⟨_, rfl, h⟩
set_option maxRecDepth 100000 in
theorem v_L_955 {X : Nat × (Nat → Int32)} (hX : X.1 < 10000) {x3 : Int32} {M : vm_M} {P : Int32 → vm_M → Prop} (h : ∃ j1 : Nat, (x3 + (nI 1)) = nI j1 ∧ j1 < X.1 ∧ (E_B_trace X (X.2 j1) M (fun v2 M3 => ∃ j4 : Nat, (x3 + (nI 1)) = nI j4 ∧ j4 < X.1 ∧ (E_M_trace X (X.2 j4) M3 (fun v5 M6 => (v2 = v5 → (C_L_1014 X x3 M6 P)) ∧ (¬ (v2 = v5) → (P (nI 0) M6))))))) : C_L_955 X x3 M P := by
  unfold C_L_955
  refine vm_WM.seq 661 5 (pc' := 960) (L' := [.ref 2000, .ref 0, .ref 48, .int x3]) (S' := [.int (x3 + (nI 1)), .ref 2000, .ref 0]) (M' := M) rfl ?_
  obtain ⟨j1, hj1, hj2, h⟩ := h
  refine vm_WM.sld 666 hX rfl hj1 hj2 ?_
  refine vm_WM.call (a := 99) (as := [.ref 0, .int (X.2 j1)]) (rest := []) (L0 := [.ref 0, .int (X.2 j1)]) 667 rfl rfl (by decide) rfl rfl ⟨rfl, Or.inr rfl, Nat.le_of_ble_eq_true rfl, Nat.le_of_ble_eq_true rfl⟩ rfl rfl rfl ?_
  refine vm_WM.theni h (fun v2 M3 h => ?_)
  show vm_WM X 180 964 [.ref 2000, .ref 0, .ref 48, .int x3] [.int v2] M3 _
  refine vm_WM.seq 668 5 (pc' := 969) (L' := [.ref 2000, .ref 0, .ref 48, .int x3]) (S' := [.int (x3 + (nI 1)), .ref 2000, .ref 48, .int v2]) (M' := M3) rfl ?_
  obtain ⟨j4, hj1, hj2, h⟩ := h
  refine vm_WM.sld 673 hX rfl hj1 hj2 ?_
  refine vm_WM.call (a := 170) (as := [.ref 48, .int (X.2 j4)]) (rest := [.int v2]) (L0 := [.ref 48, .int (X.2 j4)]) 674 rfl rfl (by decide) rfl rfl ⟨rfl, Or.inr rfl, Nat.le_of_ble_eq_true rfl, Nat.le_of_ble_eq_true rfl⟩ rfl rfl rfl ?_
  refine vm_WM.theni h (fun v5 M6 h => ?_)
  show vm_WM X 180 973 [.ref 2000, .ref 0, .ref 48, .int x3] [.int v5, .int v2] M6 _
  refine vm_WM.if (c := v2 = v5) (t1 := 1014) (t2 := 976) (S' := []) 675 rfl rfl rfl (fun hc => ?_) (fun hc => ?_)
  · replace h := h.1 hc
    exact h
  · replace h := h.2 hc
    refine vm_WM.seq 676 1 (pc' := 977) (L' := [.ref 2000, .ref 0, .ref 48, .int x3]) (S' := [.int (nI 0)]) (M' := M6) rfl ?_
    exact vm_WM.ret (r := some (.int (nI 0))) 677 rfl rfl rfl ⟨_, rfl, h⟩
set_option maxRecDepth 100000 in
theorem v_L_978 {X : Nat × (Nat → Int32)} (hX : X.1 < 10000) {x3 : Int32} {M : vm_M} {P : Int32 → vm_M → Prop} (h : ∃ j1 : Nat, (x3 + (nI 1)) = nI j1 ∧ j1 < X.1 ∧ (E_B_count X (X.2 j1) M (fun v2 M3 => ∃ j4 : Nat, (x3 + (nI 1)) = nI j4 ∧ j4 < X.1 ∧ (E_M_count X (X.2 j4) M3 (fun v5 M6 => (v2 = v5 → (C_L_1014 X x3 M6 P)) ∧ (¬ (v2 = v5) → (P (nI 0) M6))))))) : C_L_978 X x3 M P := by
  unfold C_L_978
  refine vm_WM.seq 678 5 (pc' := 983) (L' := [.ref 2000, .ref 0, .ref 48, .int x3]) (S' := [.int (x3 + (nI 1)), .ref 2000, .ref 0]) (M' := M) rfl ?_
  obtain ⟨j1, hj1, hj2, h⟩ := h
  refine vm_WM.sld 683 hX rfl hj1 hj2 ?_
  refine vm_WM.call (a := 100) (as := [.ref 0, .int (X.2 j1)]) (rest := []) (L0 := [.ref 0, .int (X.2 j1)]) 684 rfl rfl (by decide) rfl rfl ⟨rfl, Or.inr rfl, Nat.le_of_ble_eq_true rfl, Nat.le_of_ble_eq_true rfl⟩ rfl rfl rfl ?_
  refine vm_WM.theni h (fun v2 M3 h => ?_)
  show vm_WM X 180 987 [.ref 2000, .ref 0, .ref 48, .int x3] [.int v2] M3 _
  refine vm_WM.seq 685 5 (pc' := 992) (L' := [.ref 2000, .ref 0, .ref 48, .int x3]) (S' := [.int (x3 + (nI 1)), .ref 2000, .ref 48, .int v2]) (M' := M3) rfl ?_
  obtain ⟨j4, hj1, hj2, h⟩ := h
  refine vm_WM.sld 690 hX rfl hj1 hj2 ?_
  refine vm_WM.call (a := 171) (as := [.ref 48, .int (X.2 j4)]) (rest := [.int v2]) (L0 := [.ref 48, .int (X.2 j4), .null, .null]) 691 rfl rfl (by decide) rfl rfl ⟨rfl, Or.inr rfl, Nat.le_of_ble_eq_true rfl, Nat.le_of_ble_eq_true rfl⟩ rfl rfl rfl ?_
  refine vm_WM.theni h (fun v5 M6 h => ?_)
  show vm_WM X 180 996 [.ref 2000, .ref 0, .ref 48, .int x3] [.int v5, .int v2] M6 _
  refine vm_WM.if (c := v2 = v5) (t1 := 1014) (t2 := 999) (S' := []) 692 rfl rfl rfl (fun hc => ?_) (fun hc => ?_)
  · replace h := h.1 hc
    exact h
  · replace h := h.2 hc
    refine vm_WM.seq 693 1 (pc' := 1000) (L' := [.ref 2000, .ref 0, .ref 48, .int x3]) (S' := [.int (nI 0)]) (M' := M6) rfl ?_
    exact vm_WM.ret (r := some (.int (nI 0))) 694 rfl rfl rfl ⟨_, rfl, h⟩
set_option maxRecDepth 100000 in
theorem v_L_1001 {X : Nat × (Nat → Int32)} (hX : X.1 < 10000) {x3 : Int32} {M : vm_M} {P : Int32 → vm_M → Prop} (h : E_B_status X  M (fun v1 M2 => E_M_status X  M2 (fun v3 M4 => (v1 = v3 → (C_L_1014 X x3 M4 P)) ∧ (¬ (v1 = v3) → (P (nI 0) M4))))) : C_L_1001 X x3 M P := by
  unfold C_L_1001
  refine vm_WM.seq 695 1 (pc' := 1002) (L' := [.ref 2000, .ref 0, .ref 48, .int x3]) (S' := [.ref 0]) (M' := M) rfl ?_
  refine vm_WM.call (a := 101) (as := [.ref 0]) (rest := []) (L0 := [.ref 0]) 696 rfl rfl (by decide) rfl rfl ⟨rfl, Or.inr rfl, Nat.le_of_ble_eq_true rfl, Nat.le_of_ble_eq_true rfl⟩ rfl rfl rfl ?_
  refine vm_WM.theni h (fun v1 M2 h => ?_)
  show vm_WM X 180 1005 [.ref 2000, .ref 0, .ref 48, .int x3] [.int v1] M2 _
  refine vm_WM.seq 697 1 (pc' := 1006) (L' := [.ref 2000, .ref 0, .ref 48, .int x3]) (S' := [.ref 48, .int v1]) (M' := M2) rfl ?_
  refine vm_WM.call (a := 172) (as := [.ref 48]) (rest := [.int v1]) (L0 := [.ref 48]) 698 rfl rfl (by decide) rfl rfl ⟨rfl, Or.inr rfl, Nat.le_of_ble_eq_true rfl, Nat.le_of_ble_eq_true rfl⟩ rfl rfl rfl ?_
  refine vm_WM.theni h (fun v3 M4 h => ?_)
  show vm_WM X 180 1009 [.ref 2000, .ref 0, .ref 48, .int x3] [.int v3, .int v1] M4 _
  refine vm_WM.if (c := v1 = v3) (t1 := 1014) (t2 := 1012) (S' := []) 699 rfl rfl rfl (fun hc => ?_) (fun hc => ?_)
  · replace h := h.1 hc
    exact h
  · replace h := h.2 hc
    refine vm_WM.seq 700 1 (pc' := 1013) (L' := [.ref 2000, .ref 0, .ref 48, .int x3]) (S' := [.int (nI 0)]) (M' := M4) rfl ?_
    exact vm_WM.ret (r := some (.int (nI 0))) 701 rfl rfl rfl ⟨_, rfl, h⟩
set_option maxRecDepth 100000 in
theorem v_L_1014 {X : Nat × (Nat → Int32)} (hX : X.1 < 10000) {x3 : Int32} {M : vm_M} {P : Int32 → vm_M → Prop} (h : C_L_18 X (x3 + (nI 6)) M P) : C_L_1014 X x3 M P := by
  unfold C_L_1014
  refine vm_WM.seq 702 2 (pc' := 18) (L' := [.ref 2000, .ref 0, .ref 48, .int (x3 + (nI 6))]) (S' := []) (M' := M) rfl ?_
  exact h
