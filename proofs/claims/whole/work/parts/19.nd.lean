/-- every entry stands at its own number -/
def vm_nd : List vm_En → Bool
  | [] => true
  | e :: l => l.all (fun q => decide (q.1 ≠ e.1)) && vm_nd l
set_option maxRecDepth 100000 in
theorem vm_nd_all : (List.range 181).all (fun k => vm_nd (vm_prog k)) = true := by decide +kernel
