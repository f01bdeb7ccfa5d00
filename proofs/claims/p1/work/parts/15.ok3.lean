/-! the tables of some methods are those of the class files -/
set_option maxRecDepth 100000 in
theorem zok_51 : zokM zm_T_init = true := by decide +kernel
set_option maxRecDepth 100000 in
theorem zok_52 : zokM zm_T_begin = true := by decide +kernel
set_option maxRecDepth 100000 in
theorem zok_53 : zokM zm_T_add = true := by decide +kernel
set_option maxRecDepth 100000 in
theorem zok_54 : zokM zm_T_finish = true := by decide +kernel
set_option maxRecDepth 100000 in
theorem zok_55 : zokM zm_T_partOf = true := by decide +kernel
set_option maxRecDepth 100000 in
theorem zok_56 : zokM zm_T_isLike = true := by decide +kernel
set_option maxRecDepth 100000 in
theorem zok_57 : zokM zm_W_init = true := by decide +kernel
set_option maxRecDepth 100000 in
theorem zok_58 : zokM zm_W_writeNode = true := by decide +kernel
set_option maxRecDepth 100000 in
theorem zok_59 : zokM zm_W_enter = true := by decide +kernel
set_option maxRecDepth 100000 in
theorem zok_60 : zokM zm_W_leave = true := by decide +kernel
set_option maxRecDepth 100000 in
theorem zok_61 : zokM zm_W_firstText = true := by decide +kernel
set_option maxRecDepth 100000 in
theorem zok_62 : zokM zm_W_operatorText = true := by decide +kernel
set_option maxRecDepth 100000 in
theorem zok_63 : zokM zm_W_lastText = true := by decide +kernel
set_option maxRecDepth 100000 in
theorem zok_64 : zokM zm_W_putText = true := by decide +kernel
set_option maxRecDepth 100000 in
theorem zok_65 : zokM zm_J_fill = true := by decide +kernel
theorem zMs_ok : ∀ M ∈ zMs, zokM M = true := by
  unfold zMs
  exact List.forall_mem_cons.mpr ⟨zok_0, List.forall_mem_cons.mpr ⟨zok_1, List.forall_mem_cons.mpr ⟨zok_2, List.forall_mem_cons.mpr ⟨zok_3, List.forall_mem_cons.mpr ⟨zok_4, List.forall_mem_cons.mpr ⟨zok_5, List.forall_mem_cons.mpr ⟨zok_6, List.forall_mem_cons.mpr ⟨zok_7, List.forall_mem_cons.mpr ⟨zok_8, List.forall_mem_cons.mpr ⟨zok_9, List.forall_mem_cons.mpr ⟨zok_10, List.forall_mem_cons.mpr ⟨zok_11, List.forall_mem_cons.mpr ⟨zok_12, List.forall_mem_cons.mpr ⟨zok_13, List.forall_mem_cons.mpr ⟨zok_14, List.forall_mem_cons.mpr ⟨zok_15, List.forall_mem_cons.mpr ⟨zok_16, List.forall_mem_cons.mpr ⟨zok_17, List.forall_mem_cons.mpr ⟨zok_18, List.forall_mem_cons.mpr ⟨zok_19, List.forall_mem_cons.mpr ⟨zok_20, List.forall_mem_cons.mpr ⟨zok_21, List.forall_mem_cons.mpr ⟨zok_22, List.forall_mem_cons.mpr ⟨zok_23, List.forall_mem_cons.mpr ⟨zok_24, List.forall_mem_cons.mpr ⟨zok_25, List.forall_mem_cons.mpr ⟨zok_26, List.forall_mem_cons.mpr ⟨zok_27, List.forall_mem_cons.mpr ⟨zok_28, List.forall_mem_cons.mpr ⟨zok_29, List.forall_mem_cons.mpr ⟨zok_30, List.forall_mem_cons.mpr ⟨zok_31, List.forall_mem_cons.mpr ⟨zok_32, List.forall_mem_cons.mpr ⟨zok_33, List.forall_mem_cons.mpr ⟨zok_34, List.forall_mem_cons.mpr ⟨zok_35, List.forall_mem_cons.mpr ⟨zok_36, List.forall_mem_cons.mpr ⟨zok_37, List.forall_mem_cons.mpr ⟨zok_38, List.forall_mem_cons.mpr ⟨zok_39, List.forall_mem_cons.mpr ⟨zok_40, List.forall_mem_cons.mpr ⟨zok_41, List.forall_mem_cons.mpr ⟨zok_42, List.forall_mem_cons.mpr ⟨zok_43, List.forall_mem_cons.mpr ⟨zok_44, List.forall_mem_cons.mpr ⟨zok_45, List.forall_mem_cons.mpr ⟨zok_46, List.forall_mem_cons.mpr ⟨zok_47, List.forall_mem_cons.mpr ⟨zok_48, List.forall_mem_cons.mpr ⟨zok_49, List.forall_mem_cons.mpr ⟨zok_50, List.forall_mem_cons.mpr ⟨zok_51, List.forall_mem_cons.mpr ⟨zok_52, List.forall_mem_cons.mpr ⟨zok_53, List.forall_mem_cons.mpr ⟨zok_54, List.forall_mem_cons.mpr ⟨zok_55, List.forall_mem_cons.mpr ⟨zok_56, List.forall_mem_cons.mpr ⟨zok_57, List.forall_mem_cons.mpr ⟨zok_58, List.forall_mem_cons.mpr ⟨zok_59, List.forall_mem_cons.mpr ⟨zok_60, List.forall_mem_cons.mpr ⟨zok_61, List.forall_mem_cons.mpr ⟨zok_62, List.forall_mem_cons.mpr ⟨zok_63, List.forall_mem_cons.mpr ⟨zok_64, List.forall_mem_cons.mpr ⟨zok_65, fun _ h => absurd h List.not_mem_nil⟩⟩⟩⟩⟩⟩⟩⟩⟩⟩⟩⟩⟩⟩⟩⟩⟩⟩⟩⟩⟩⟩⟩⟩⟩⟩⟩⟩⟩⟩⟩⟩⟩⟩⟩⟩⟩⟩⟩⟩⟩⟩⟩⟩⟩⟩⟩⟩⟩⟩⟩⟩⟩⟩⟩⟩⟩⟩⟩⟩⟩⟩⟩⟩⟩⟩
