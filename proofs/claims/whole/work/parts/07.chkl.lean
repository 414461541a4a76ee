set_option maxRecDepth 100000 in
theorem vm_chk_w0 : (((vm_prog 180).drop 0).take 60).all (vm_chk 180) = true := by decide +kernel
set_option maxRecDepth 100000 in
theorem vm_chk_w1 : (((vm_prog 180).drop 60).take 60).all (vm_chk 180) = true := by decide +kernel
set_option maxRecDepth 100000 in
theorem vm_chk_w2 : (((vm_prog 180).drop 120).take 60).all (vm_chk 180) = true := by decide +kernel
set_option maxRecDepth 100000 in
theorem vm_chk_w3 : (((vm_prog 180).drop 180).take 60).all (vm_chk 180) = true := by decide +kernel
set_option maxRecDepth 100000 in
theorem vm_chk_w4 : (((vm_prog 180).drop 240).take 60).all (vm_chk 180) = true := by decide +kernel
set_option maxRecDepth 100000 in
theorem vm_chk_w5 : (((vm_prog 180).drop 300).take 60).all (vm_chk 180) = true := by decide +kernel
set_option maxRecDepth 100000 in
theorem vm_chk_w6 : (((vm_prog 180).drop 360).take 60).all (vm_chk 180) = true := by decide +kernel
set_option maxRecDepth 100000 in
theorem vm_chk_w7 : (((vm_prog 180).drop 420).take 60).all (vm_chk 180) = true := by decide +kernel
set_option maxRecDepth 100000 in
theorem vm_chk_w8 : (((vm_prog 180).drop 480).take 60).all (vm_chk 180) = true := by decide +kernel
set_option maxRecDepth 100000 in
theorem vm_chk_w9 : (((vm_prog 180).drop 540).take 60).all (vm_chk 180) = true := by decide +kernel
set_option maxRecDepth 100000 in
theorem vm_chk_w10 : (((vm_prog 180).drop 600).take 60).all (vm_chk 180) = true := by decide +kernel
set_option maxRecDepth 100000 in
theorem vm_chk_w11 : (((vm_prog 180).drop 660).take 60).all (vm_chk 180) = true := by decide +kernel
theorem vm_chkW_at {lo n i : Nat} (h : (((vm_prog 180).drop lo).take n).all (vm_chk 180) = true) (h1 : lo ≤ i) (h2 : i < lo + n) (hi : i < (vm_prog 180).length) : vm_chk 180 (vm_prog 180)[i] = true := by
  refine List.all_eq_true.mp h _ (List.mem_of_getElem? (i := i - lo) ?_)
  rw [List.getElem?_take, if_pos (by omega), List.getElem?_drop, show lo + (i - lo) = i by omega, List.getElem?_eq_getElem hi]
theorem vm_chk_law {e : vm_En} (he : e ∈ vm_prog 180) : vm_chk 180 e = true := by
  obtain ⟨i, hi, rfl⟩ := List.mem_iff_getElem.mp he
  by_cases h0 : i < 60
  · exact vm_chkW_at vm_chk_w0 (by omega) (by omega) hi
  by_cases h1 : i < 120
  · exact vm_chkW_at vm_chk_w1 (by omega) (by omega) hi
  by_cases h2 : i < 180
  · exact vm_chkW_at vm_chk_w2 (by omega) (by omega) hi
  by_cases h3 : i < 240
  · exact vm_chkW_at vm_chk_w3 (by omega) (by omega) hi
  by_cases h4 : i < 300
  · exact vm_chkW_at vm_chk_w4 (by omega) (by omega) hi
  by_cases h5 : i < 360
  · exact vm_chkW_at vm_chk_w5 (by omega) (by omega) hi
  by_cases h6 : i < 420
  · exact vm_chkW_at vm_chk_w6 (by omega) (by omega) hi
  by_cases h7 : i < 480
  · exact vm_chkW_at vm_chk_w7 (by omega) (by omega) hi
  by_cases h8 : i < 540
  · exact vm_chkW_at vm_chk_w8 (by omega) (by omega) hi
  by_cases h9 : i < 600
  · exact vm_chkW_at vm_chk_w9 (by omega) (by omega) hi
  by_cases h10 : i < 660
  · exact vm_chkW_at vm_chk_w10 (by omega) (by omega) hi
  have hl : (vm_prog 180).length = 706 := by decide +kernel
  exact vm_chkW_at vm_chk_w11 (by omega) (by omega) hi
