theorem vm_chk_all {k : Nat} (hk : k < 181) {e : vm_En} (he : e ∈ vm_prog k) : vm_chk k e = true := by
  by_cases h0 : k < 20
  · exact vm_chkR_at vm_chk_r0 (by omega) (by omega) he
  by_cases h1 : k < 40
  · exact vm_chkR_at vm_chk_r1 (by omega) (by omega) he
  by_cases h2 : k < 60
  · exact vm_chkR_at vm_chk_r2 (by omega) (by omega) he
  by_cases h3 : k < 80
  · exact vm_chkR_at vm_chk_r3 (by omega) (by omega) he
  by_cases h4 : k < 100
  · exact vm_chkR_at vm_chk_r4 (by omega) (by omega) he
  by_cases h5 : k < 120
  · exact vm_chkR_at vm_chk_r5 (by omega) (by omega) he
  by_cases h6 : k < 140
  · exact vm_chkR_at vm_chk_r6 (by omega) (by omega) he
  by_cases h7 : k < 160
  · exact vm_chkR_at vm_chk_r7 (by omega) (by omega) he
  by_cases h8 : k < 180
  · exact vm_chkR_at vm_chk_r8 (by omega) (by omega) he
  rw [show k = 180 by omega] at he ⊢
  exact vm_chk_law he
set_option maxRecDepth 100000 in
theorem vm_chk3_r0 : (List.range 20).all (fun j => vm_chk3 (0 + j)) = true := by decide +kernel
set_option maxRecDepth 100000 in
theorem vm_chk3_r1 : (List.range 20).all (fun j => vm_chk3 (20 + j)) = true := by decide +kernel
set_option maxRecDepth 100000 in
theorem vm_chk3_r2 : (List.range 20).all (fun j => vm_chk3 (40 + j)) = true := by decide +kernel
set_option maxRecDepth 100000 in
theorem vm_chk3_r3 : (List.range 20).all (fun j => vm_chk3 (60 + j)) = true := by decide +kernel
set_option maxRecDepth 100000 in
theorem vm_chk3_r4 : (List.range 20).all (fun j => vm_chk3 (80 + j)) = true := by decide +kernel
set_option maxRecDepth 100000 in
theorem vm_chk3_r5 : (List.range 20).all (fun j => vm_chk3 (100 + j)) = true := by decide +kernel
set_option maxRecDepth 100000 in
theorem vm_chk3_r6 : (List.range 20).all (fun j => vm_chk3 (120 + j)) = true := by decide +kernel
set_option maxRecDepth 100000 in
theorem vm_chk3_r7 : (List.range 20).all (fun j => vm_chk3 (140 + j)) = true := by decide +kernel
set_option maxRecDepth 100000 in
theorem vm_chk3_r8 : (List.range 20).all (fun j => vm_chk3 (160 + j)) = true := by decide +kernel
theorem vm_chk3_at {lo n k : Nat} (h : (List.range n).all (fun j => vm_chk3 (lo + j)) = true) (h1 : lo ≤ k) (h2 : k < lo + n) : vm_chk3 k = true := by
  have h3 := List.all_eq_true.mp h (k - lo) (List.mem_range.mpr (by omega))
  rwa [show lo + (k - lo) = k by omega] at h3
theorem vm_chk3_all {k : Nat} (hk : k < 180) : vm_chk3 k = true := by
  by_cases h0 : k < 20
  · exact vm_chk3_at vm_chk3_r0 (by omega) (by omega)
  by_cases h1 : k < 40
  · exact vm_chk3_at vm_chk3_r1 (by omega) (by omega)
  by_cases h2 : k < 60
  · exact vm_chk3_at vm_chk3_r2 (by omega) (by omega)
  by_cases h3 : k < 80
  · exact vm_chk3_at vm_chk3_r3 (by omega) (by omega)
  by_cases h4 : k < 100
  · exact vm_chk3_at vm_chk3_r4 (by omega) (by omega)
  by_cases h5 : k < 120
  · exact vm_chk3_at vm_chk3_r5 (by omega) (by omega)
  by_cases h6 : k < 140
  · exact vm_chk3_at vm_chk3_r6 (by omega) (by omega)
  by_cases h7 : k < 160
  · exact vm_chk3_at vm_chk3_r7 (by omega) (by omega)
  exact vm_chk3_at vm_chk3_r8 (by omega) (by omega)
