/-! the tables of some methods are those of the class files -/
set_option maxRecDepth 100000 in
theorem zok_17 : zokM zm_R_clear = true := by decide +kernel
set_option maxRecDepth 100000 in
theorem zok_18 : zokM zm_R_add = true := by decide +kernel
set_option maxRecDepth 100000 in
theorem zok_19 : zokM zm_R_feed = true := by decide +kernel
set_option maxRecDepth 100000 in
theorem zok_20 : zokM zm_R_behindBlanks = true := by decide +kernel
set_option maxRecDepth 100000 in
theorem zok_21 : zokM zm_R_scan = true := by decide +kernel
set_option maxRecDepth 100000 in
theorem zok_22 : zokM zm_R_look = true := by decide +kernel
set_option maxRecDepth 100000 in
theorem zok_23 : zokM zm_R_read = true := by decide +kernel
set_option maxRecDepth 100000 in
theorem zok_24 : zokM zm_R_has = true := by decide +kernel
set_option maxRecDepth 100000 in
theorem zok_25 : zokM zm_R_nodes = true := by decide +kernel
set_option maxRecDepth 100000 in
theorem zok_26 : zokM zm_R_parts = true := by decide +kernel
set_option maxRecDepth 100000 in
theorem zok_27 : zokM zm_R_part = true := by decide +kernel
set_option maxRecDepth 100000 in
theorem zok_28 : zokM zm_R_node = true := by decide +kernel
set_option maxRecDepth 100000 in
theorem zok_29 : zokM zm_R_whole = true := by decide +kernel
set_option maxRecDepth 100000 in
theorem zok_30 : zokM zm_R_names = true := by decide +kernel
set_option maxRecDepth 100000 in
theorem zok_31 : zokM zm_R_spelt = true := by decide +kernel
set_option maxRecDepth 100000 in
theorem zok_32 : zokM zm_R_same = true := by decide +kernel
set_option maxRecDepth 100000 in
theorem zok_33 : zokM zm_R_kindAt = true := by decide +kernel
