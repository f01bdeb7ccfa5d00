/-! the tables of some methods are those of the class files -/
set_option maxRecDepth 100000 in
theorem zok_34 : zokM zm_R_behind = true := by decide +kernel
set_option maxRecDepth 100000 in
theorem zok_35 : zokM zm_R_show = true := by decide +kernel
set_option maxRecDepth 100000 in
theorem zok_36 : zokM zm_R_write = true := by decide +kernel
set_option maxRecDepth 100000 in
theorem zok_37 : zokM zm_R_written = true := by decide +kernel
set_option maxRecDepth 100000 in
theorem zok_38 : zokM zm_R_again = true := by decide +kernel
set_option maxRecDepth 100000 in
theorem zok_39 : zokM zm_N_init = true := by decide +kernel
set_option maxRecDepth 100000 in
theorem zok_40 : zokM zm_N_byteOf = true := by decide +kernel
set_option maxRecDepth 100000 in
theorem zok_41 : zokM zm_P_init = true := by decide +kernel
set_option maxRecDepth 100000 in
theorem zok_42 : zokM zm_P_design = true := by decide +kernel
set_option maxRecDepth 100000 in
theorem zok_43 : zokM zm_P_at = true := by decide +kernel
set_option maxRecDepth 100000 in
theorem zok_44 : zokM zm_K_init = true := by decide +kernel
set_option maxRecDepth 100000 in
theorem zok_45 : zokM zm_K_scan = true := by decide +kernel
set_option maxRecDepth 100000 in
theorem zok_46 : zokM zm_K_kind = true := by decide +kernel
set_option maxRecDepth 100000 in
theorem zok_47 : zokM zm_K_byteAt = true := by decide +kernel
set_option maxRecDepth 100000 in
theorem zok_48 : zokM zm_K_behindBlanks = true := by decide +kernel
set_option maxRecDepth 100000 in
theorem zok_49 : zokM zm_K_scanToken = true := by decide +kernel
set_option maxRecDepth 100000 in
theorem zok_50 : zokM zm_K_keep = true := by decide +kernel
