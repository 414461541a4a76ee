set_option maxRecDepth 100000 in
theorem vm_chk_r0 : vm_chkR 0 20 = true := by decide +kernel
set_option maxRecDepth 100000 in
theorem vm_chk_r1 : vm_chkR 20 20 = true := by decide +kernel
set_option maxRecDepth 100000 in
theorem vm_chk_r2 : vm_chkR 40 20 = true := by decide +kernel
set_option maxRecDepth 100000 in
theorem vm_chk_r3 : vm_chkR 60 20 = true := by decide +kernel
set_option maxRecDepth 100000 in
theorem vm_chk_r4 : vm_chkR 80 20 = true := by decide +kernel
