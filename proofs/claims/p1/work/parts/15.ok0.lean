/-! the tables of some methods are those of the class files -/
set_option maxRecDepth 100000 in
theorem zok_0 : zokM zm_D_init = true := by decide +kernel
set_option maxRecDepth 100000 in
theorem zok_1 : zokM zm_D_feed = true := by decide +kernel
set_option maxRecDepth 100000 in
theorem zok_2 : zokM zm_D_read = true := by decide +kernel
set_option maxRecDepth 100000 in
theorem zok_3 : zokM zm_D_nodes = true := by decide +kernel
set_option maxRecDepth 100000 in
theorem zok_4 : zokM zm_D_node = true := by decide +kernel
set_option maxRecDepth 100000 in
theorem zok_5 : zokM zm_D_part = true := by decide +kernel
set_option maxRecDepth 100000 in
theorem zok_6 : zokM zm_D_whole = true := by decide +kernel
set_option maxRecDepth 100000 in
theorem zok_7 : zokM zm_D_names = true := by decide +kernel
set_option maxRecDepth 100000 in
theorem zok_8 : zokM zm_D_spelt = true := by decide +kernel
set_option maxRecDepth 100000 in
theorem zok_9 : zokM zm_D_write = true := by decide +kernel
set_option maxRecDepth 100000 in
theorem zok_10 : zokM zm_D_written = true := by decide +kernel
set_option maxRecDepth 100000 in
theorem zok_11 : zokM zm_D_again = true := by decide +kernel
set_option maxRecDepth 100000 in
theorem zok_12 : zokM zm_D_same = true := by decide +kernel
set_option maxRecDepth 100000 in
theorem zok_13 : zokM zm_D_isTree = true := by decide +kernel
set_option maxRecDepth 100000 in
theorem zok_14 : zokM zm_D_isNode = true := by decide +kernel
set_option maxRecDepth 100000 in
theorem zok_15 : zokM zm_D_appendFour = true := by decide +kernel
set_option maxRecDepth 100000 in
theorem zok_16 : zokM zm_R_init = true := by decide +kernel
