/-! some rows of the law are those of its class file -/
set_option maxRecDepth 100000 in
theorem zLi_ok4 : zLi_4.all (fun q => zokI zm_L q.1 q.2) = true := by decide +kernel
set_option maxRecDepth 100000 in
theorem zLi_ok5 : zLi_5.all (fun q => zokI zm_L q.1 q.2) = true := by decide +kernel
set_option maxRecDepth 100000 in
theorem zLi_ok6 : zLi_6.all (fun q => zokI zm_L q.1 q.2) = true := by decide +kernel
set_option maxRecDepth 100000 in
theorem zLi_ok7 : zLi_7.all (fun q => zokI zm_L q.1 q.2) = true := by decide +kernel
theorem zL_ok : zokT zm_L = true := by
  unfold zokT
  rw [zLi_all]
  simp only [List.all_append, zLi_ok0, zLi_ok1, zLi_ok2, zLi_ok3, zLi_ok4, zLi_ok5, zLi_ok6, zLi_ok7, Bool.and_self]
