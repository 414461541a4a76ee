theorem vm_chk_all {k : Nat} (hk : k < 183) {e : vm_En} (he : e ∈ vm_prog k) : vm_chk k e = true := sorry
theorem vm_chk2_all {k : Nat} (hk : k < 182) : vm_chk2 k = true := sorry
