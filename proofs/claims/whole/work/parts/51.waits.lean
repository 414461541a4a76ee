section VH
variable {X : Nat × (Nat → Int32)} {M : vm_M}
theorem op_waits (hR : vR M) (x : Int32) : E_B_waits X x M (fun v M1 => E_M_waits X x M1 (fun v' M2 => v = v' ∧ vR M2)) := by
  obtain ⟨h1, h2, h3, ⟨f, w, hH, hA⟩, h6, h7, h8⟩ := id hR
  obtain ⟨n, q, F, W, hn, hq, e1, e2, e8, hF, hW, hall⟩ := hA
  have hT := hH.1.1
  have e7 : M 7 0 = nI (f 2) := hH.2.1.1
  have hd := hH.1.2.2.1
  have e72 : M 7 2 = nI (f 0) := hH.2.1.2.2.1
  have e74 : M 7 4 = nI (f 4) := hH.2.1.2.2.2.2.1
  have e75 : M 7 5 = nI (f 5) := hH.2.1.2.2.2.2.2.1
  have d0 : M 52 0 = nI (f 0) := hH.2.2.1 0 (by omega) (by omega)
  have d4 : M 52 4 = nI (f 4) := hH.2.2.1 4 (by omega) (by omega)
  have d5 : M 52 5 = nI (f 5) := hH.2.2.1 5 (by omega) (by omega)
  have ed : (vm_u2 M 48 0 (nI 0)) 52 0 = nI (f 0) := d0
  apply v_B_waits
  rw [e7, vm_n0 (by omega)]
  refine ⟨fun hz => ?_, fun hz => ?_⟩
  · apply v_M_waits
    rw [ed, vm_0n (by omega)]
    have := hH.1.2.2.2.2.2.2.1 hz
    exact ⟨fun q => absurd q (by omega), fun _ => ⟨rfl, hR.thrown⟩⟩
  · have hd1 := (hH.1.2.2.2.2.2.1 (by omega)).2
    have hf5 := (hH.1.2.2.2.2.2.1 (by omega)).1
    rcases vm_one60 x with ⟨k, hk1, hk2, rfl⟩ | ⟨hno, hx⟩
    · have hs := vm_sw60 ⟨hk1, hk2⟩
      rw [hs.1, hs.2]
      refine ⟨fun q => q.elim, fun _ => ⟨fun q => q.elim, fun _ => ?_⟩⟩
      have h460 := hH.1.2.2.2.2.1
      rw [e74, show nI 60 - nI (f 4) = nI (60 - f 4) from pk_sub (by omega), nI_ltI (by omega) (by omega)]
      refine ⟨fun hfull => ?_, fun hfull => ?_⟩
      · apply v_M_waits
        rw [ed, vm_0n (by omega)]
        refine ⟨fun _ => ?_, fun q => absurd (by omega) q⟩
        refine s_M_in60 (fun m a b e => ⟨fun q => absurd q (by decide), fun _ => ?_⟩) (fun h => absurd rfl (h k hk1 hk2))
        rw [vm_u2_r (by omega), d4, vm_add, nI_ltI (by omega) (by omega)]
        exact ⟨fun _ => ⟨rfl, hR.thrown⟩, fun q => absurd (by omega) q⟩
      apply v_Acts_letPass
      refine s_Acts_keep hq hn e2 e1 ?_
      have k74 : (vm_kp M q n (M 7 5) (nI 0)) 7 4 = nI (f 4) := by rw [vm_kp_o (by omega)]; exact e74
      rw [k74, vm_add, vm_u2_eq, e75]
      apply v_M_waits
      have g0 : (vm_u2 (vm_u2 (vm_kp M q n (nI (f 5)) (nI 0)) 7 4 (nI (f 4 + k))) 48 0 (nI 0)) 52 0 = nI (f 0) := by rw [vm_u2_r (by omega), vm_u2_r (by omega), vm_kp_o (by omega)]; exact d0
      rw [g0, vm_0n (by omega)]
      refine ⟨fun _ => ?_, fun q => absurd (by omega) q⟩
      refine s_M_in60 (fun m a b e => ⟨fun q => absurd q (by decide), fun _ => ?_⟩) (fun h => absurd rfl (h k hk1 hk2))
      have g8 : (vm_u2 (vm_u2 (vm_kp M q n (nI (f 5)) (nI 0)) 7 4 (nI (f 4 + k))) 48 0 (nI 0)) 48 8 = nI n := by rw [vm_u2_ne (by omega), vm_u2_r (by omega), vm_kp_o (by omega)]; exact e8
      have g4 : (vm_u2 (vm_u2 (vm_kp M q n (nI (f 5)) (nI 0)) 7 4 (nI (f 4 + k))) 48 0 (nI 0)) 52 4 = nI (f 4) := by rw [vm_u2_r (by omega), vm_u2_r (by omega), vm_kp_o (by omega)]; exact d4
      rw [g4, vm_add, nI_ltI (by omega) (by omega)]
      refine ⟨fun q => absurd q (by omega), fun _ => ?_⟩
      refine s_M_keep hn g8 ?_
      generalize hM0 : vm_u2 (vm_u2 (vm_kp M q n (nI (f 5)) (nI 0)) 7 4 (nI (f 4 + k))) 48 0 (nI 0) = M0 at g0 g8 g4
      have o0 : ∀ r j, ¬ (35 ≤ r ∧ r ≤ 40) → ¬ (r = 7 ∧ j = 4) → ¬ (r = 48 ∧ j = 0) → M0 r j = M r j := by
        intro r j a b c
        rw [← hM0, vm_u2_ne c, vm_u2_ne b, vm_kp_o a]
      have o1 : ∀ r j, 35 ≤ r → r ≤ 40 → M0 r j = vm_kp M q n (nI (f 5)) (nI 0) r j := by
        intro r j a b
        rw [← hM0, vm_u2_ne (by omega), vm_u2_ne (by omega)]
      have o3 : ∀ r j, 35 ≤ r → r ≤ 40 → (vm_u2 (vm_kM M0 n) 52 4 (nI (f 4 + k))) r j = vm_kp M q n (nI (f 5)) (nI 0) r j := by
        intro r j a b
        rw [vm_u2_ne (by omega), vm_kM_o (by omega) (by omega), o1 r j a b]
      have g4' : vm_kM M0 n 52 4 = nI (f 4) := by rw [vm_kM_o (by omega) (by omega)]; exact g4
      rw [g4', vm_add]
      refine ⟨vm_u2_eq.symm, ?_⟩
      refine vR.act (f := f) (f2 := fun j => if j = 4 then f 4 + k else f j) (w := w) (w2 := w) (tk := f 5) h1 h2 h3 hH h6 h7 h8 (by omega) hn hq hF hW hall ?_ (fun j _ a _ => if_neg a) hd1 hd (by show f 4 + k ≤ 60; omega) hf5 ?_ ?_ ?_ ?_ ?_ vm_u2_eq ?_ ?_ ?_ ?_ ?_ ?_ ?_ ?_ hf5 ?_ ?_ ?_ ?_ ?_
      · intro r j a b c d e' g
        rw [vm_u2_ne (by omega), vm_kM_o b (by omega), o0 r j a (by omega) (by omega)]
      · rw [vm_u2_ne (by omega), vm_kM_o (by omega) (by omega), o0 7 2 (by omega) (by omega) (by omega)]; exact e72
      · rw [vm_u2_ne (by omega), vm_kM_o (by omega) (by omega), ← hM0, vm_u2_ne (by omega), vm_u2_eq]; rfl
      · rw [vm_u2_ne (by omega), vm_kM_o (by omega) (by omega), o0 7 5 (by omega) (by omega) (by omega)]; exact e75
      · intro x hx
        rw [vm_u2_ne (by omega), vm_kM_o (by omega) (by omega), o0 11 x (by omega) (by omega) (by omega)]
        exact (hH.2.1.2.2.2.2.2.2.1 x hx).2.2.2
      · rw [vm_u2_ne (by omega), vm_kM_o (by omega) (by omega), o0 52 0 (by omega) (by omega) (by omega)]; exact d0
      · rw [vm_u2_ne (by omega), vm_kM_o (by omega) (by omega), o0 52 5 (by omega) (by omega) (by omega)]; exact d5
      · intro x hx
        rw [vm_u2_ne (by omega), vm_kM_o (by omega) (by omega), o0 52 _ (by omega) (by omega) (by omega)]
        have := hH.2.2.2 x hx
        rwa [Nat.zero_add] at this
      · rw [o3 35 1 (by omega) (by omega)]; unfold vm_kp; rw [if_pos ⟨rfl, rfl⟩]
      · rw [o3 35 2 (by omega) (by omega)]; unfold vm_kp; rw [if_neg (by omega), if_pos ⟨rfl, rfl⟩]
      · rw [vm_u2_ne (by omega), vm_kM_n hn]
      · intro j hj
        rw [vm_u2_ne (by omega), vm_kM_top hn hj, o0 52 j (by omega) (by omega) (by omega)]
      · intro i j hi hj
        rw [vm_u2_ne (by omega), vm_kM_old hn hi hj, o0 54 _ (by omega) (by omega) (by omega)]
      · intro r j a b c
        rw [o3 r j (by omega) b, vm_kp_j a c]
      · rw [o3 36 q (by omega) (by omega)]; unfold vm_kp; rw [if_neg (by omega), if_neg (by omega), if_neg (by omega), if_neg (by omega), if_neg (by omega), if_neg (by omega), if_pos ⟨rfl, rfl⟩]; exact e74
      · rw [o3 37 q (by omega) (by omega)]; unfold vm_kp; rw [if_neg (by omega), if_neg (by omega), if_neg (by omega), if_neg (by omega), if_neg (by omega), if_pos ⟨rfl, rfl⟩]; exact e72
      · rw [o3 38 q (by omega) (by omega)]; unfold vm_kp; rw [if_neg (by omega), if_neg (by omega), if_neg (by omega), if_neg (by omega), if_pos ⟨rfl, rfl⟩]; exact e75
      · rw [o3 39 q (by omega) (by omega)]; unfold vm_kp; rw [if_neg (by omega), if_neg (by omega), if_neg (by omega), if_pos ⟨rfl, rfl⟩]
      · intro x hx
        have e40 : (vm_u2 (vm_kM M0 n) 52 4 (nI (f 4 + k))) 40 q = nI 0 := by rw [o3 40 q (by omega) (by omega)]; unfold vm_kp; rw [if_neg (by omega), if_neg (by omega), if_pos ⟨rfl, rfl⟩]
        rw [e40]
        have z1 : w x - nI 0 + nI 0 = w x := by show w x - 0 + 0 = w x; simp
        by_cases hxf : x = f 5
        · rw [if_pos hxf, if_pos hxf, z1]
        · rw [if_neg hxf, if_neg hxf]
    · have hb : E_M_waits X x M (fun v' M2 => cBAD = v' ∧ vR M2) := by
        apply v_M_waits
        rw [ed, vm_0n (by omega)]
        refine ⟨fun _ => ?_, fun q => absurd (by omega) q⟩
        exact s_M_in60 (fun m a b e => absurd e (hno m a b)) (fun _ => ⟨fun _ => ⟨rfl, hR.thrown⟩, fun q => absurd rfl q⟩)
      rcases hx with h | h
      · exact ⟨fun _ => hb, fun q => absurd h q⟩
      · exact ⟨fun _ => hb, fun _ => ⟨fun _ => hb, fun q => absurd h q⟩⟩
end VH
