set_option maxRecDepth 100000 in
theorem vm_chk_r5 : vm_chkR 100 20 = true := by decide +kernel
set_option maxRecDepth 100000 in
theorem vm_chk_r6 : vm_chkR 120 20 = true := by decide +kernel
set_option maxRecDepth 100000 in
theorem vm_chk_r7 : vm_chkR 140 20 = true := by decide +kernel
set_option maxRecDepth 100000 in
theorem vm_chk_r8 : vm_chkR 160 20 = true := by decide +kernel
