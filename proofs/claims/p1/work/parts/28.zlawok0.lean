/-! some rows of the law are those of its class file -/
set_option maxRecDepth 100000 in
theorem zLi_ok0 : zLi_0.all (fun q => zokI zm_L q.1 q.2) = true := by decide +kernel
set_option maxRecDepth 100000 in
theorem zLi_ok1 : zLi_1.all (fun q => zokI zm_L q.1 q.2) = true := by decide +kernel
set_option maxRecDepth 100000 in
theorem zLi_ok2 : zLi_2.all (fun q => zokI zm_L q.1 q.2) = true := by decide +kernel
set_option maxRecDepth 100000 in
theorem zLi_ok3 : zLi_3.all (fun q => zokI zm_L q.1 q.2) = true := by decide +kernel
