theorem vm_chr (x : Int32) : ((((x.toUInt32 % 65536).toInt32).toUInt32 % 65536).toInt32) = (x.toUInt32 % 65536).toInt32 := by
  have h : x.toBitVec.toNat % 65536 < 65536 := Nat.mod_lt _ (by decide)
  rw [pk_char x, pk_char (nI _), pk_tn (by omega), Nat.mod_eq_of_lt h]
theorem vm_rtC {x : Int32} {k : Nat} (hk : vm_ret k = some .char) : vm_rt k .ireturn [.int (x.toUInt32 % 65536).toInt32] = some (some (.int (x.toUInt32 % 65536).toInt32)) := by
  simp only [vm_rt, hk]
  rw [if_pos (vm_chr x)]
