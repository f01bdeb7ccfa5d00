section
-- ===== PART A: goes FIRST, ahead of the names: the tables' words, and 'selects' of the private methods out of them =====
/-- a private method of a class that the tables say can be made, by its rows of tables_1 -/
def lw_okq (q : MethodName × Nat) : Prop := (q.1.cls ≠ "java/lang/invoke/MethodHandle" ∧ q.1.cls ≠ "java/lang/invoke/VarHandle") ∧ Cond.instantiable q.1.cls q.2 ∈ tables_1 ∧ Cond.privateMethod q.1 ∈ tables_1 ∧ Cond.instanceMethod q.1 ∈ tables_1
theorem lw_p0 : lw_okq (⟨"DesignReader", "appendFour", "(I)V"⟩, 7) := ⟨⟨by decide +kernel, by decide +kernel⟩, List.mem_of_getElem? (i := 19) (by decide +kernel), List.mem_of_getElem? (i := 232) (by decide +kernel), List.mem_of_getElem? (i := 233) (by decide +kernel)⟩
theorem lw_p1 : lw_okq (⟨"DesignReader", "isTree", "(I)Z"⟩, 7) := ⟨⟨by decide +kernel, by decide +kernel⟩, List.mem_of_getElem? (i := 19) (by decide +kernel), List.mem_of_getElem? (i := 240) (by decide +kernel), List.mem_of_getElem? (i := 241) (by decide +kernel)⟩
theorem lw_p2 : lw_okq (⟨"DesignReader$Tokens", "behindBlanks", "(I)I"⟩, 7) := ⟨⟨by decide +kernel, by decide +kernel⟩, List.mem_of_getElem? (i := 122) (by decide +kernel), List.mem_of_getElem? (i := 249) (by decide +kernel), List.mem_of_getElem? (i := 250) (by decide +kernel)⟩
theorem lw_p3 : lw_okq (⟨"DesignReader$Tokens", "byteAt", "(I)I"⟩, 7) := ⟨⟨by decide +kernel, by decide +kernel⟩, List.mem_of_getElem? (i := 122) (by decide +kernel), List.mem_of_getElem? (i := 253) (by decide +kernel), List.mem_of_getElem? (i := 254) (by decide +kernel)⟩
theorem lw_p4 : lw_okq (⟨"DesignReader$Tokens", "scanToken", "(I)I"⟩, 7) := ⟨⟨by decide +kernel, by decide +kernel⟩, List.mem_of_getElem? (i := 122) (by decide +kernel), List.mem_of_getElem? (i := 257) (by decide +kernel), List.mem_of_getElem? (i := 258) (by decide +kernel)⟩
theorem lw_p5 : lw_okq (⟨"DesignReader$Tokens", "keep", "(IIII)I"⟩, 7) := ⟨⟨by decide +kernel, by decide +kernel⟩, List.mem_of_getElem? (i := 122) (by decide +kernel), List.mem_of_getElem? (i := 261) (by decide +kernel), List.mem_of_getElem? (i := 262) (by decide +kernel)⟩
theorem lw_p6 : lw_okq (⟨"DesignReader$Tokens", "scanName", "(I)I"⟩, 7) := ⟨⟨by decide +kernel, by decide +kernel⟩, List.mem_of_getElem? (i := 122) (by decide +kernel), List.mem_of_getElem? (i := 268) (by decide +kernel), List.mem_of_getElem? (i := 269) (by decide +kernel)⟩
theorem lw_p7 : lw_okq (⟨"DesignReader$Tokens", "wordOrName", "(II)I"⟩, 7) := ⟨⟨by decide +kernel, by decide +kernel⟩, List.mem_of_getElem? (i := 122) (by decide +kernel), List.mem_of_getElem? (i := 279) (by decide +kernel), List.mem_of_getElem? (i := 280) (by decide +kernel)⟩
theorem lw_p8 : lw_okq (⟨"DesignReader$Tokens", "scanNumber", "(I)I"⟩, 7) := ⟨⟨by decide +kernel, by decide +kernel⟩, List.mem_of_getElem? (i := 122) (by decide +kernel), List.mem_of_getElem? (i := 289) (by decide +kernel), List.mem_of_getElem? (i := 290) (by decide +kernel)⟩
theorem lw_p9 : lw_okq (⟨"DesignReader$Tokens", "scanSign", "(I)I"⟩, 7) := ⟨⟨by decide +kernel, by decide +kernel⟩, List.mem_of_getElem? (i := 122) (by decide +kernel), List.mem_of_getElem? (i := 300) (by decide +kernel), List.mem_of_getElem? (i := 301) (by decide +kernel)⟩
theorem lw_p10 : lw_okq (⟨"DesignReader$Parser", "at", "(I)Z"⟩, 7) := ⟨⟨by decide +kernel, by decide +kernel⟩, List.mem_of_getElem? (i := 151) (by decide +kernel), List.mem_of_getElem? (i := 395) (by decide +kernel), List.mem_of_getElem? (i := 396) (by decide +kernel)⟩
theorem lw_p11 : lw_okq (⟨"DesignReader$Parser", "item", "()Z"⟩, 7) := ⟨⟨by decide +kernel, by decide +kernel⟩, List.mem_of_getElem? (i := 151) (by decide +kernel), List.mem_of_getElem? (i := 403) (by decide +kernel), List.mem_of_getElem? (i := 404) (by decide +kernel)⟩
theorem lw_p12 : lw_okq (⟨"DesignReader$Parser", "addAndStep", "(I)I"⟩, 7) := ⟨⟨by decide +kernel, by decide +kernel⟩, List.mem_of_getElem? (i := 151) (by decide +kernel), List.mem_of_getElem? (i := 407) (by decide +kernel), List.mem_of_getElem? (i := 408) (by decide +kernel)⟩
theorem lw_p13 : lw_okq (⟨"DesignReader$Parser", "takeName", "()Z"⟩, 7) := ⟨⟨by decide +kernel, by decide +kernel⟩, List.mem_of_getElem? (i := 151) (by decide +kernel), List.mem_of_getElem? (i := 420) (by decide +kernel), List.mem_of_getElem? (i := 421) (by decide +kernel)⟩
theorem lw_p14 : lw_okq (⟨"DesignReader$NameTable", "isSpelt", "(I[BII)Z"⟩, 5) := ⟨⟨by decide +kernel, by decide +kernel⟩, List.mem_of_getElem? (i := 94) (by decide +kernel), List.mem_of_getElem? (i := 435) (by decide +kernel), List.mem_of_getElem? (i := 436) (by decide +kernel)⟩
theorem lw_p15 : lw_okq (⟨"DesignReader$Parser", "take", "(I)Z"⟩, 7) := ⟨⟨by decide +kernel, by decide +kernel⟩, List.mem_of_getElem? (i := 151) (by decide +kernel), List.mem_of_getElem? (i := 442) (by decide +kernel), List.mem_of_getElem? (i := 443) (by decide +kernel)⟩
def lw_privs_1 : List (MethodName × Nat) := [(⟨"DesignReader", "appendFour", "(I)V"⟩, 7), (⟨"DesignReader", "isTree", "(I)Z"⟩, 7), (⟨"DesignReader$Tokens", "behindBlanks", "(I)I"⟩, 7), (⟨"DesignReader$Tokens", "byteAt", "(I)I"⟩, 7), (⟨"DesignReader$Tokens", "scanToken", "(I)I"⟩, 7), (⟨"DesignReader$Tokens", "keep", "(IIII)I"⟩, 7), (⟨"DesignReader$Tokens", "scanName", "(I)I"⟩, 7), (⟨"DesignReader$Tokens", "wordOrName", "(II)I"⟩, 7), (⟨"DesignReader$Tokens", "scanNumber", "(I)I"⟩, 7), (⟨"DesignReader$Tokens", "scanSign", "(I)I"⟩, 7), (⟨"DesignReader$Parser", "at", "(I)Z"⟩, 7), (⟨"DesignReader$Parser", "item", "()Z"⟩, 7), (⟨"DesignReader$Parser", "addAndStep", "(I)I"⟩, 7), (⟨"DesignReader$Parser", "takeName", "()Z"⟩, 7), (⟨"DesignReader$NameTable", "isSpelt", "(I[BII)Z"⟩, 5), (⟨"DesignReader$Parser", "take", "(I)Z"⟩, 7)]
theorem lw_r1 : ∀ q ∈ lw_privs_1, lw_okq q := List.forall_mem_cons.mpr ⟨lw_p0, List.forall_mem_cons.mpr ⟨lw_p1, List.forall_mem_cons.mpr ⟨lw_p2, List.forall_mem_cons.mpr ⟨lw_p3, List.forall_mem_cons.mpr ⟨lw_p4, List.forall_mem_cons.mpr ⟨lw_p5, List.forall_mem_cons.mpr ⟨lw_p6, List.forall_mem_cons.mpr ⟨lw_p7, List.forall_mem_cons.mpr ⟨lw_p8, List.forall_mem_cons.mpr ⟨lw_p9, List.forall_mem_cons.mpr ⟨lw_p10, List.forall_mem_cons.mpr ⟨lw_p11, List.forall_mem_cons.mpr ⟨lw_p12, List.forall_mem_cons.mpr ⟨lw_p13, List.forall_mem_cons.mpr ⟨lw_p14, List.forall_mem_cons.mpr ⟨lw_p15, fun _ h => absurd h List.not_mem_nil⟩⟩⟩⟩⟩⟩⟩⟩⟩⟩⟩⟩⟩⟩⟩⟩
theorem lw_p16 : lw_okq (⟨"DesignReader$Parser", "takeNames", "(I)Z"⟩, 7) := ⟨⟨by decide +kernel, by decide +kernel⟩, List.mem_of_getElem? (i := 151) (by decide +kernel), List.mem_of_getElem? (i := 446) (by decide +kernel), List.mem_of_getElem? (i := 447) (by decide +kernel)⟩
theorem lw_p17 : lw_okq (⟨"DesignReader$Parser", "formula", "(IZ)Z"⟩, 7) := ⟨⟨by decide +kernel, by decide +kernel⟩, List.mem_of_getElem? (i := 151) (by decide +kernel), List.mem_of_getElem? (i := 454) (by decide +kernel), List.mem_of_getElem? (i := 455) (by decide +kernel)⟩
theorem lw_p18 : lw_okq (⟨"DesignReader$Parser", "atom", "(I)Z"⟩, 7) := ⟨⟨by decide +kernel, by decide +kernel⟩, List.mem_of_getElem? (i := 151) (by decide +kernel), List.mem_of_getElem? (i := 458) (by decide +kernel), List.mem_of_getElem? (i := 459) (by decide +kernel)⟩
theorem lw_p19 : lw_okq (⟨"DesignReader$Parser", "unary", "(I)Z"⟩, 7) := ⟨⟨by decide +kernel, by decide +kernel⟩, List.mem_of_getElem? (i := 151) (by decide +kernel), List.mem_of_getElem? (i := 462) (by decide +kernel), List.mem_of_getElem? (i := 463) (by decide +kernel)⟩
theorem lw_p20 : lw_okq (⟨"DesignReader$Parser", "signed", "(II)Z"⟩, 7) := ⟨⟨by decide +kernel, by decide +kernel⟩, List.mem_of_getElem? (i := 151) (by decide +kernel), List.mem_of_getElem? (i := 466) (by decide +kernel), List.mem_of_getElem? (i := 467) (by decide +kernel)⟩
theorem lw_p21 : lw_okq (⟨"DesignReader$Parser", "bracketed", "(I)Z"⟩, 7) := ⟨⟨by decide +kernel, by decide +kernel⟩, List.mem_of_getElem? (i := 151) (by decide +kernel), List.mem_of_getElem? (i := 470) (by decide +kernel), List.mem_of_getElem? (i := 471) (by decide +kernel)⟩
theorem lw_p22 : lw_okq (⟨"DesignReader$Parser", "list", "(IZ)Z"⟩, 7) := ⟨⟨by decide +kernel, by decide +kernel⟩, List.mem_of_getElem? (i := 151) (by decide +kernel), List.mem_of_getElem? (i := 474) (by decide +kernel), List.mem_of_getElem? (i := 475) (by decide +kernel)⟩
theorem lw_p23 : lw_okq (⟨"DesignReader$Parser", "named", "(I)Z"⟩, 7) := ⟨⟨by decide +kernel, by decide +kernel⟩, List.mem_of_getElem? (i := 151) (by decide +kernel), List.mem_of_getElem? (i := 478) (by decide +kernel), List.mem_of_getElem? (i := 479) (by decide +kernel)⟩
theorem lw_p24 : lw_okq (⟨"DesignReader$Parser", "worded", "(II)Z"⟩, 7) := ⟨⟨by decide +kernel, by decide +kernel⟩, List.mem_of_getElem? (i := 151) (by decide +kernel), List.mem_of_getElem? (i := 487) (by decide +kernel), List.mem_of_getElem? (i := 488) (by decide +kernel)⟩
theorem lw_p25 : lw_okq (⟨"DesignReader$Parser", "operator", "(Z)I"⟩, 7) := ⟨⟨by decide +kernel, by decide +kernel⟩, List.mem_of_getElem? (i := 151) (by decide +kernel), List.mem_of_getElem? (i := 491) (by decide +kernel), List.mem_of_getElem? (i := 492) (by decide +kernel)⟩
theorem lw_p26 : lw_okq (⟨"DesignReader$Parser", "takeOperator", "(IIII)Z"⟩, 7) := ⟨⟨by decide +kernel, by decide +kernel⟩, List.mem_of_getElem? (i := 151) (by decide +kernel), List.mem_of_getElem? (i := 498) (by decide +kernel), List.mem_of_getElem? (i := 499) (by decide +kernel)⟩
theorem lw_p27 : lw_okq (⟨"DesignReader$Parser", "closeRows", "(II)I"⟩, 7) := ⟨⟨by decide +kernel, by decide +kernel⟩, List.mem_of_getElem? (i := 151) (by decide +kernel), List.mem_of_getElem? (i := 510) (by decide +kernel), List.mem_of_getElem? (i := 511) (by decide +kernel)⟩
theorem lw_p28 : lw_okq (⟨"DesignReader$Parser", "choice", "(II)Z"⟩, 7) := ⟨⟨by decide +kernel, by decide +kernel⟩, List.mem_of_getElem? (i := 151) (by decide +kernel), List.mem_of_getElem? (i := 514) (by decide +kernel), List.mem_of_getElem? (i := 515) (by decide +kernel)⟩
theorem lw_p29 : lw_okq (⟨"DesignReader$Parser", "function", "()Z"⟩, 7) := ⟨⟨by decide +kernel, by decide +kernel⟩, List.mem_of_getElem? (i := 151) (by decide +kernel), List.mem_of_getElem? (i := 518) (by decide +kernel), List.mem_of_getElem? (i := 519) (by decide +kernel)⟩
theorem lw_p30 : lw_okq (⟨"DesignReader$Parser", "addHere", "(I)I"⟩, 7) := ⟨⟨by decide +kernel, by decide +kernel⟩, List.mem_of_getElem? (i := 151) (by decide +kernel), List.mem_of_getElem? (i := 522) (by decide +kernel), List.mem_of_getElem? (i := 523) (by decide +kernel)⟩
theorem lw_p31 : lw_okq (⟨"DesignReader$Parser", "label", "(I)Z"⟩, 7) := ⟨⟨by decide +kernel, by decide +kernel⟩, List.mem_of_getElem? (i := 151) (by decide +kernel), List.mem_of_getElem? (i := 526) (by decide +kernel), List.mem_of_getElem? (i := 527) (by decide +kernel)⟩
def lw_privs_2 : List (MethodName × Nat) := [(⟨"DesignReader$Parser", "takeNames", "(I)Z"⟩, 7), (⟨"DesignReader$Parser", "formula", "(IZ)Z"⟩, 7), (⟨"DesignReader$Parser", "atom", "(I)Z"⟩, 7), (⟨"DesignReader$Parser", "unary", "(I)Z"⟩, 7), (⟨"DesignReader$Parser", "signed", "(II)Z"⟩, 7), (⟨"DesignReader$Parser", "bracketed", "(I)Z"⟩, 7), (⟨"DesignReader$Parser", "list", "(IZ)Z"⟩, 7), (⟨"DesignReader$Parser", "named", "(I)Z"⟩, 7), (⟨"DesignReader$Parser", "worded", "(II)Z"⟩, 7), (⟨"DesignReader$Parser", "operator", "(Z)I"⟩, 7), (⟨"DesignReader$Parser", "takeOperator", "(IIII)Z"⟩, 7), (⟨"DesignReader$Parser", "closeRows", "(II)I"⟩, 7), (⟨"DesignReader$Parser", "choice", "(II)Z"⟩, 7), (⟨"DesignReader$Parser", "function", "()Z"⟩, 7), (⟨"DesignReader$Parser", "addHere", "(I)I"⟩, 7), (⟨"DesignReader$Parser", "label", "(I)Z"⟩, 7)]
theorem lw_r2 : ∀ q ∈ lw_privs_2, lw_okq q := List.forall_mem_cons.mpr ⟨lw_p16, List.forall_mem_cons.mpr ⟨lw_p17, List.forall_mem_cons.mpr ⟨lw_p18, List.forall_mem_cons.mpr ⟨lw_p19, List.forall_mem_cons.mpr ⟨lw_p20, List.forall_mem_cons.mpr ⟨lw_p21, List.forall_mem_cons.mpr ⟨lw_p22, List.forall_mem_cons.mpr ⟨lw_p23, List.forall_mem_cons.mpr ⟨lw_p24, List.forall_mem_cons.mpr ⟨lw_p25, List.forall_mem_cons.mpr ⟨lw_p26, List.forall_mem_cons.mpr ⟨lw_p27, List.forall_mem_cons.mpr ⟨lw_p28, List.forall_mem_cons.mpr ⟨lw_p29, List.forall_mem_cons.mpr ⟨lw_p30, List.forall_mem_cons.mpr ⟨lw_p31, fun _ h => absurd h List.not_mem_nil⟩⟩⟩⟩⟩⟩⟩⟩⟩⟩⟩⟩⟩⟩⟩⟩
theorem lw_p32 : lw_okq (⟨"DesignReader$Parser", "block", "(I)Z"⟩, 7) := ⟨⟨by decide +kernel, by decide +kernel⟩, List.mem_of_getElem? (i := 151) (by decide +kernel), List.mem_of_getElem? (i := 530) (by decide +kernel), List.mem_of_getElem? (i := 531) (by decide +kernel)⟩
theorem lw_p33 : lw_okq (⟨"DesignReader$Parser", "statement", "(I)Z"⟩, 7) := ⟨⟨by decide +kernel, by decide +kernel⟩, List.mem_of_getElem? (i := 151) (by decide +kernel), List.mem_of_getElem? (i := 534) (by decide +kernel), List.mem_of_getElem? (i := 535) (by decide +kernel)⟩
theorem lw_p34 : lw_okq (⟨"DesignReader$Parser", "cases", "(I)Z"⟩, 7) := ⟨⟨by decide +kernel, by decide +kernel⟩, List.mem_of_getElem? (i := 151) (by decide +kernel), List.mem_of_getElem? (i := 538) (by decide +kernel), List.mem_of_getElem? (i := 539) (by decide +kernel)⟩
theorem lw_p35 : lw_okq (⟨"DesignReader$Parser", "oneCase", "(I)Z"⟩, 7) := ⟨⟨by decide +kernel, by decide +kernel⟩, List.mem_of_getElem? (i := 151) (by decide +kernel), List.mem_of_getElem? (i := 542) (by decide +kernel), List.mem_of_getElem? (i := 543) (by decide +kernel)⟩
theorem lw_p36 : lw_okq (⟨"DesignReader", "isNode", "(II)Z"⟩, 7) := ⟨⟨by decide +kernel, by decide +kernel⟩, List.mem_of_getElem? (i := 19) (by decide +kernel), List.mem_of_getElem? (i := 559) (by decide +kernel), List.mem_of_getElem? (i := 560) (by decide +kernel)⟩
theorem lw_p37 : lw_okq (⟨"DesignReader$Writer", "leave", "(LDesignReader$Tree;III)V"⟩, 6) := ⟨⟨by decide +kernel, by decide +kernel⟩, List.mem_of_getElem? (i := 179) (by decide +kernel), List.mem_of_getElem? (i := 595) (by decide +kernel), List.mem_of_getElem? (i := 596) (by decide +kernel)⟩
theorem lw_p38 : lw_okq (⟨"DesignReader$Writer", "putText", "(Ljava/lang/String;)V"⟩, 6) := ⟨⟨by decide +kernel, by decide +kernel⟩, List.mem_of_getElem? (i := 179) (by decide +kernel), List.mem_of_getElem? (i := 607) (by decide +kernel), List.mem_of_getElem? (i := 608) (by decide +kernel)⟩
theorem lw_p39 : lw_okq (⟨"DesignReader$Writer", "keepApartFrom", "(I)V"⟩, 6) := ⟨⟨by decide +kernel, by decide +kernel⟩, List.mem_of_getElem? (i := 179) (by decide +kernel), List.mem_of_getElem? (i := 632) (by decide +kernel), List.mem_of_getElem? (i := 633) (by decide +kernel)⟩
theorem lw_p40 : lw_okq (⟨"DesignReader$Writer", "put", "(I)V"⟩, 6) := ⟨⟨by decide +kernel, by decide +kernel⟩, List.mem_of_getElem? (i := 179) (by decide +kernel), List.mem_of_getElem? (i := 637) (by decide +kernel), List.mem_of_getElem? (i := 638) (by decide +kernel)⟩
theorem lw_p41 : lw_okq (⟨"DesignReader$Writer", "enter", "(LDesignReader$Tree;I)V"⟩, 6) := ⟨⟨by decide +kernel, by decide +kernel⟩, List.mem_of_getElem? (i := 179) (by decide +kernel), List.mem_of_getElem? (i := 676) (by decide +kernel), List.mem_of_getElem? (i := 677) (by decide +kernel)⟩
theorem lw_p42 : lw_okq (⟨"DesignReader$Writer", "putNumber", "(I)V"⟩, 6) := ⟨⟨by decide +kernel, by decide +kernel⟩, List.mem_of_getElem? (i := 179) (by decide +kernel), List.mem_of_getElem? (i := 680) (by decide +kernel), List.mem_of_getElem? (i := 681) (by decide +kernel)⟩
theorem lw_p43 : lw_okq (⟨"DesignReader$Writer", "putName", "(I)V"⟩, 6) := ⟨⟨by decide +kernel, by decide +kernel⟩, List.mem_of_getElem? (i := 179) (by decide +kernel), List.mem_of_getElem? (i := 685) (by decide +kernel), List.mem_of_getElem? (i := 686) (by decide +kernel)⟩
theorem lw_p44 : lw_okq (⟨"DesignReaderModel", "clear", "(I)V"⟩, 32) := ⟨⟨by decide +kernel, by decide +kernel⟩, List.mem_of_getElem? (i := 746) (by decide +kernel), List.mem_of_getElem? (i := 773) (by decide +kernel), List.mem_of_getElem? (i := 774) (by decide +kernel)⟩
theorem lw_p45 : lw_okq (⟨"DesignReaderModel", "add", "(IIIII)I"⟩, 32) := ⟨⟨by decide +kernel, by decide +kernel⟩, List.mem_of_getElem? (i := 746) (by decide +kernel), List.mem_of_getElem? (i := 777) (by decide +kernel), List.mem_of_getElem? (i := 778) (by decide +kernel)⟩
theorem lw_p46 : lw_okq (⟨"DesignReaderModel", "scan", "()V"⟩, 32) := ⟨⟨by decide +kernel, by decide +kernel⟩, List.mem_of_getElem? (i := 746) (by decide +kernel), List.mem_of_getElem? (i := 886) (by decide +kernel), List.mem_of_getElem? (i := 887) (by decide +kernel)⟩
theorem lw_p47 : lw_okq (⟨"DesignReaderModel", "behindBlanks", "(I)I"⟩, 32) := ⟨⟨by decide +kernel, by decide +kernel⟩, List.mem_of_getElem? (i := 746) (by decide +kernel), List.mem_of_getElem? (i := 890) (by decide +kernel), List.mem_of_getElem? (i := 891) (by decide +kernel)⟩
def lw_privs_3 : List (MethodName × Nat) := [(⟨"DesignReader$Parser", "block", "(I)Z"⟩, 7), (⟨"DesignReader$Parser", "statement", "(I)Z"⟩, 7), (⟨"DesignReader$Parser", "cases", "(I)Z"⟩, 7), (⟨"DesignReader$Parser", "oneCase", "(I)Z"⟩, 7), (⟨"DesignReader", "isNode", "(II)Z"⟩, 7), (⟨"DesignReader$Writer", "leave", "(LDesignReader$Tree;III)V"⟩, 6), (⟨"DesignReader$Writer", "putText", "(Ljava/lang/String;)V"⟩, 6), (⟨"DesignReader$Writer", "keepApartFrom", "(I)V"⟩, 6), (⟨"DesignReader$Writer", "put", "(I)V"⟩, 6), (⟨"DesignReader$Writer", "enter", "(LDesignReader$Tree;I)V"⟩, 6), (⟨"DesignReader$Writer", "putNumber", "(I)V"⟩, 6), (⟨"DesignReader$Writer", "putName", "(I)V"⟩, 6), (⟨"DesignReaderModel", "clear", "(I)V"⟩, 32), (⟨"DesignReaderModel", "add", "(IIIII)I"⟩, 32), (⟨"DesignReaderModel", "scan", "()V"⟩, 32), (⟨"DesignReaderModel", "behindBlanks", "(I)I"⟩, 32)]
theorem lw_r3 : ∀ q ∈ lw_privs_3, lw_okq q := List.forall_mem_cons.mpr ⟨lw_p32, List.forall_mem_cons.mpr ⟨lw_p33, List.forall_mem_cons.mpr ⟨lw_p34, List.forall_mem_cons.mpr ⟨lw_p35, List.forall_mem_cons.mpr ⟨lw_p36, List.forall_mem_cons.mpr ⟨lw_p37, List.forall_mem_cons.mpr ⟨lw_p38, List.forall_mem_cons.mpr ⟨lw_p39, List.forall_mem_cons.mpr ⟨lw_p40, List.forall_mem_cons.mpr ⟨lw_p41, List.forall_mem_cons.mpr ⟨lw_p42, List.forall_mem_cons.mpr ⟨lw_p43, List.forall_mem_cons.mpr ⟨lw_p44, List.forall_mem_cons.mpr ⟨lw_p45, List.forall_mem_cons.mpr ⟨lw_p46, List.forall_mem_cons.mpr ⟨lw_p47, fun _ h => absurd h List.not_mem_nil⟩⟩⟩⟩⟩⟩⟩⟩⟩⟩⟩⟩⟩⟩⟩⟩
theorem lw_p48 : lw_okq (⟨"DesignReaderModel", "isAt", "(III)Z"⟩, 32) := ⟨⟨by decide +kernel, by decide +kernel⟩, List.mem_of_getElem? (i := 746) (by decide +kernel), List.mem_of_getElem? (i := 894) (by decide +kernel), List.mem_of_getElem? (i := 895) (by decide +kernel)⟩
theorem lw_p49 : lw_okq (⟨"DesignReaderModel", "isWord", "(I)Z"⟩, 32) := ⟨⟨by decide +kernel, by decide +kernel⟩, List.mem_of_getElem? (i := 746) (by decide +kernel), List.mem_of_getElem? (i := 901) (by decide +kernel), List.mem_of_getElem? (i := 902) (by decide +kernel)⟩
theorem lw_p50 : lw_okq (⟨"DesignReaderModel", "wordOf", "(II)I"⟩, 32) := ⟨⟨by decide +kernel, by decide +kernel⟩, List.mem_of_getElem? (i := 746) (by decide +kernel), List.mem_of_getElem? (i := 908) (by decide +kernel), List.mem_of_getElem? (i := 909) (by decide +kernel)⟩
theorem lw_p51 : lw_okq (⟨"DesignReaderModel", "isNumber", "(II)Z"⟩, 32) := ⟨⟨by decide +kernel, by decide +kernel⟩, List.mem_of_getElem? (i := 746) (by decide +kernel), List.mem_of_getElem? (i := 914) (by decide +kernel), List.mem_of_getElem? (i := 915) (by decide +kernel)⟩
theorem lw_p52 : lw_okq (⟨"DesignReaderModel", "look", "()I"⟩, 32) := ⟨⟨by decide +kernel, by decide +kernel⟩, List.mem_of_getElem? (i := 746) (by decide +kernel), List.mem_of_getElem? (i := 924) (by decide +kernel), List.mem_of_getElem? (i := 925) (by decide +kernel)⟩
theorem lw_p53 : lw_okq (⟨"DesignReaderModel", "item", "()I"⟩, 32) := ⟨⟨by decide +kernel, by decide +kernel⟩, List.mem_of_getElem? (i := 746) (by decide +kernel), List.mem_of_getElem? (i := 928) (by decide +kernel), List.mem_of_getElem? (i := 929) (by decide +kernel)⟩
theorem lw_p54 : lw_okq (⟨"DesignReaderModel", "here", "()I"⟩, 32) := ⟨⟨by decide +kernel, by decide +kernel⟩, List.mem_of_getElem? (i := 746) (by decide +kernel), List.mem_of_getElem? (i := 932) (by decide +kernel), List.mem_of_getElem? (i := 933) (by decide +kernel)⟩
theorem lw_p55 : lw_okq (⟨"DesignReaderModel", "need", "(Z)V"⟩, 32) := ⟨⟨by decide +kernel, by decide +kernel⟩, List.mem_of_getElem? (i := 746) (by decide +kernel), List.mem_of_getElem? (i := 936) (by decide +kernel), List.mem_of_getElem? (i := 937) (by decide +kernel)⟩
theorem lw_p56 : lw_okq (⟨"DesignReaderModel", "draft", "(III)I"⟩, 32) := ⟨⟨by decide +kernel, by decide +kernel⟩, List.mem_of_getElem? (i := 746) (by decide +kernel), List.mem_of_getElem? (i := 940) (by decide +kernel), List.mem_of_getElem? (i := 941) (by decide +kernel)⟩
theorem lw_p57 : lw_okq (⟨"DesignReaderModel", "take", "(I)V"⟩, 32) := ⟨⟨by decide +kernel, by decide +kernel⟩, List.mem_of_getElem? (i := 746) (by decide +kernel), List.mem_of_getElem? (i := 944) (by decide +kernel), List.mem_of_getElem? (i := 945) (by decide +kernel)⟩
theorem lw_p58 : lw_okq (⟨"DesignReaderModel", "block", "(I)I"⟩, 32) := ⟨⟨by decide +kernel, by decide +kernel⟩, List.mem_of_getElem? (i := 746) (by decide +kernel), List.mem_of_getElem? (i := 948) (by decide +kernel), List.mem_of_getElem? (i := 949) (by decide +kernel)⟩
theorem lw_p59 : lw_okq (⟨"DesignReaderModel", "deep", "(I)V"⟩, 32) := ⟨⟨by decide +kernel, by decide +kernel⟩, List.mem_of_getElem? (i := 746) (by decide +kernel), List.mem_of_getElem? (i := 952) (by decide +kernel), List.mem_of_getElem? (i := 953) (by decide +kernel)⟩
theorem lw_p60 : lw_okq (⟨"DesignReaderModel", "statement", "(I)I"⟩, 32) := ⟨⟨by decide +kernel, by decide +kernel⟩, List.mem_of_getElem? (i := 746) (by decide +kernel), List.mem_of_getElem? (i := 956) (by decide +kernel), List.mem_of_getElem? (i := 957) (by decide +kernel)⟩
theorem lw_p61 : lw_okq (⟨"DesignReaderModel", "name", "()I"⟩, 32) := ⟨⟨by decide +kernel, by decide +kernel⟩, List.mem_of_getElem? (i := 746) (by decide +kernel), List.mem_of_getElem? (i := 960) (by decide +kernel), List.mem_of_getElem? (i := 961) (by decide +kernel)⟩
theorem lw_p62 : lw_okq (⟨"DesignReaderModel", "join", "(II)V"⟩, 32) := ⟨⟨by decide +kernel, by decide +kernel⟩, List.mem_of_getElem? (i := 746) (by decide +kernel), List.mem_of_getElem? (i := 964) (by decide +kernel), List.mem_of_getElem? (i := 965) (by decide +kernel)⟩
theorem lw_p63 : lw_okq (⟨"DesignReaderModel", "expr", "(I)I"⟩, 32) := ⟨⟨by decide +kernel, by decide +kernel⟩, List.mem_of_getElem? (i := 746) (by decide +kernel), List.mem_of_getElem? (i := 968) (by decide +kernel), List.mem_of_getElem? (i := 969) (by decide +kernel)⟩
def lw_privs_4 : List (MethodName × Nat) := [(⟨"DesignReaderModel", "isAt", "(III)Z"⟩, 32), (⟨"DesignReaderModel", "isWord", "(I)Z"⟩, 32), (⟨"DesignReaderModel", "wordOf", "(II)I"⟩, 32), (⟨"DesignReaderModel", "isNumber", "(II)Z"⟩, 32), (⟨"DesignReaderModel", "look", "()I"⟩, 32), (⟨"DesignReaderModel", "item", "()I"⟩, 32), (⟨"DesignReaderModel", "here", "()I"⟩, 32), (⟨"DesignReaderModel", "need", "(Z)V"⟩, 32), (⟨"DesignReaderModel", "draft", "(III)I"⟩, 32), (⟨"DesignReaderModel", "take", "(I)V"⟩, 32), (⟨"DesignReaderModel", "block", "(I)I"⟩, 32), (⟨"DesignReaderModel", "deep", "(I)V"⟩, 32), (⟨"DesignReaderModel", "statement", "(I)I"⟩, 32), (⟨"DesignReaderModel", "name", "()I"⟩, 32), (⟨"DesignReaderModel", "join", "(II)V"⟩, 32), (⟨"DesignReaderModel", "expr", "(I)I"⟩, 32)]
theorem lw_r4 : ∀ q ∈ lw_privs_4, lw_okq q := List.forall_mem_cons.mpr ⟨lw_p48, List.forall_mem_cons.mpr ⟨lw_p49, List.forall_mem_cons.mpr ⟨lw_p50, List.forall_mem_cons.mpr ⟨lw_p51, List.forall_mem_cons.mpr ⟨lw_p52, List.forall_mem_cons.mpr ⟨lw_p53, List.forall_mem_cons.mpr ⟨lw_p54, List.forall_mem_cons.mpr ⟨lw_p55, List.forall_mem_cons.mpr ⟨lw_p56, List.forall_mem_cons.mpr ⟨lw_p57, List.forall_mem_cons.mpr ⟨lw_p58, List.forall_mem_cons.mpr ⟨lw_p59, List.forall_mem_cons.mpr ⟨lw_p60, List.forall_mem_cons.mpr ⟨lw_p61, List.forall_mem_cons.mpr ⟨lw_p62, List.forall_mem_cons.mpr ⟨lw_p63, fun _ h => absurd h List.not_mem_nil⟩⟩⟩⟩⟩⟩⟩⟩⟩⟩⟩⟩⟩⟩⟩⟩
theorem lw_p64 : lw_okq (⟨"DesignReaderModel", "row", "(IIZ)I"⟩, 32) := ⟨⟨by decide +kernel, by decide +kernel⟩, List.mem_of_getElem? (i := 746) (by decide +kernel), List.mem_of_getElem? (i := 972) (by decide +kernel), List.mem_of_getElem? (i := 973) (by decide +kernel)⟩
theorem lw_p65 : lw_okq (⟨"DesignReaderModel", "atom", "(I)I"⟩, 32) := ⟨⟨by decide +kernel, by decide +kernel⟩, List.mem_of_getElem? (i := 746) (by decide +kernel), List.mem_of_getElem? (i := 976) (by decide +kernel), List.mem_of_getElem? (i := 977) (by decide +kernel)⟩
theorem lw_p66 : lw_okq (⟨"DesignReaderModel", "number", "()I"⟩, 32) := ⟨⟨by decide +kernel, by decide +kernel⟩, List.mem_of_getElem? (i := 746) (by decide +kernel), List.mem_of_getElem? (i := 980) (by decide +kernel), List.mem_of_getElem? (i := 981) (by decide +kernel)⟩
theorem lw_p67 : lw_okq (⟨"DesignReaderModel", "sum", "(I)I"⟩, 32) := ⟨⟨by decide +kernel, by decide +kernel⟩, List.mem_of_getElem? (i := 746) (by decide +kernel), List.mem_of_getElem? (i := 984) (by decide +kernel), List.mem_of_getElem? (i := 985) (by decide +kernel)⟩
theorem lw_p68 : lw_okq (⟨"DesignReaderModel", "unary", "(I)I"⟩, 32) := ⟨⟨by decide +kernel, by decide +kernel⟩, List.mem_of_getElem? (i := 746) (by decide +kernel), List.mem_of_getElem? (i := 988) (by decide +kernel), List.mem_of_getElem? (i := 989) (by decide +kernel)⟩
theorem lw_p69 : lw_okq (⟨"DesignReaderModel", "exprs", "(II)V"⟩, 32) := ⟨⟨by decide +kernel, by decide +kernel⟩, List.mem_of_getElem? (i := 746) (by decide +kernel), List.mem_of_getElem? (i := 992) (by decide +kernel), List.mem_of_getElem? (i := 993) (by decide +kernel)⟩
theorem lw_p70 : lw_okq (⟨"DesignReaderModel", "named", "(I)I"⟩, 32) := ⟨⟨by decide +kernel, by decide +kernel⟩, List.mem_of_getElem? (i := 746) (by decide +kernel), List.mem_of_getElem? (i := 996) (by decide +kernel), List.mem_of_getElem? (i := 997) (by decide +kernel)⟩
theorem lw_p71 : lw_okq (⟨"DesignReaderModel", "call", "(IIII)I"⟩, 32) := ⟨⟨by decide +kernel, by decide +kernel⟩, List.mem_of_getElem? (i := 746) (by decide +kernel), List.mem_of_getElem? (i := 1000) (by decide +kernel), List.mem_of_getElem? (i := 1001) (by decide +kernel)⟩
theorem lw_p72 : lw_okq (⟨"DesignReaderModel", "namesUpTo", "(I)V"⟩, 32) := ⟨⟨by decide +kernel, by decide +kernel⟩, List.mem_of_getElem? (i := 746) (by decide +kernel), List.mem_of_getElem? (i := 1007) (by decide +kernel), List.mem_of_getElem? (i := 1008) (by decide +kernel)⟩
theorem lw_p73 : lw_okq (⟨"DesignReaderModel", "function", "(I)V"⟩, 32) := ⟨⟨by decide +kernel, by decide +kernel⟩, List.mem_of_getElem? (i := 746) (by decide +kernel), List.mem_of_getElem? (i := 1011) (by decide +kernel), List.mem_of_getElem? (i := 1012) (by decide +kernel)⟩
theorem lw_p74 : lw_okq (⟨"DesignReaderModel", "parameter", "(I)V"⟩, 32) := ⟨⟨by decide +kernel, by decide +kernel⟩, List.mem_of_getElem? (i := 746) (by decide +kernel), List.mem_of_getElem? (i := 1015) (by decide +kernel), List.mem_of_getElem? (i := 1016) (by decide +kernel)⟩
theorem lw_p75 : lw_okq (⟨"DesignReaderModel", "width", "(I)V"⟩, 32) := ⟨⟨by decide +kernel, by decide +kernel⟩, List.mem_of_getElem? (i := 746) (by decide +kernel), List.mem_of_getElem? (i := 1019) (by decide +kernel), List.mem_of_getElem? (i := 1020) (by decide +kernel)⟩
theorem lw_p76 : lw_okq (⟨"DesignReaderModel", "label", "(I)I"⟩, 32) := ⟨⟨by decide +kernel, by decide +kernel⟩, List.mem_of_getElem? (i := 746) (by decide +kernel), List.mem_of_getElem? (i := 1023) (by decide +kernel), List.mem_of_getElem? (i := 1024) (by decide +kernel)⟩
theorem lw_p77 : lw_okq (⟨"DesignReaderModel", "keep", "(II)V"⟩, 32) := ⟨⟨by decide +kernel, by decide +kernel⟩, List.mem_of_getElem? (i := 746) (by decide +kernel), List.mem_of_getElem? (i := 1027) (by decide +kernel), List.mem_of_getElem? (i := 1028) (by decide +kernel)⟩
theorem lw_p78 : lw_okq (⟨"DesignReaderModel", "nameOf", "(I)I"⟩, 32) := ⟨⟨by decide +kernel, by decide +kernel⟩, List.mem_of_getElem? (i := 746) (by decide +kernel), List.mem_of_getElem? (i := 1031) (by decide +kernel), List.mem_of_getElem? (i := 1032) (by decide +kernel)⟩
theorem lw_p79 : lw_okq (⟨"DesignReaderModel", "has", "(II)Z"⟩, 32) := ⟨⟨by decide +kernel, by decide +kernel⟩, List.mem_of_getElem? (i := 746) (by decide +kernel), List.mem_of_getElem? (i := 1047) (by decide +kernel), List.mem_of_getElem? (i := 1048) (by decide +kernel)⟩
def lw_privs_5 : List (MethodName × Nat) := [(⟨"DesignReaderModel", "row", "(IIZ)I"⟩, 32), (⟨"DesignReaderModel", "atom", "(I)I"⟩, 32), (⟨"DesignReaderModel", "number", "()I"⟩, 32), (⟨"DesignReaderModel", "sum", "(I)I"⟩, 32), (⟨"DesignReaderModel", "unary", "(I)I"⟩, 32), (⟨"DesignReaderModel", "exprs", "(II)V"⟩, 32), (⟨"DesignReaderModel", "named", "(I)I"⟩, 32), (⟨"DesignReaderModel", "call", "(IIII)I"⟩, 32), (⟨"DesignReaderModel", "namesUpTo", "(I)V"⟩, 32), (⟨"DesignReaderModel", "function", "(I)V"⟩, 32), (⟨"DesignReaderModel", "parameter", "(I)V"⟩, 32), (⟨"DesignReaderModel", "width", "(I)V"⟩, 32), (⟨"DesignReaderModel", "label", "(I)I"⟩, 32), (⟨"DesignReaderModel", "keep", "(II)V"⟩, 32), (⟨"DesignReaderModel", "nameOf", "(I)I"⟩, 32), (⟨"DesignReaderModel", "has", "(II)Z"⟩, 32)]
theorem lw_r5 : ∀ q ∈ lw_privs_5, lw_okq q := List.forall_mem_cons.mpr ⟨lw_p64, List.forall_mem_cons.mpr ⟨lw_p65, List.forall_mem_cons.mpr ⟨lw_p66, List.forall_mem_cons.mpr ⟨lw_p67, List.forall_mem_cons.mpr ⟨lw_p68, List.forall_mem_cons.mpr ⟨lw_p69, List.forall_mem_cons.mpr ⟨lw_p70, List.forall_mem_cons.mpr ⟨lw_p71, List.forall_mem_cons.mpr ⟨lw_p72, List.forall_mem_cons.mpr ⟨lw_p73, List.forall_mem_cons.mpr ⟨lw_p74, List.forall_mem_cons.mpr ⟨lw_p75, List.forall_mem_cons.mpr ⟨lw_p76, List.forall_mem_cons.mpr ⟨lw_p77, List.forall_mem_cons.mpr ⟨lw_p78, List.forall_mem_cons.mpr ⟨lw_p79, fun _ h => absurd h List.not_mem_nil⟩⟩⟩⟩⟩⟩⟩⟩⟩⟩⟩⟩⟩⟩⟩⟩
theorem lw_p80 : lw_okq (⟨"DesignReaderModel", "parts", "(II)I"⟩, 32) := ⟨⟨by decide +kernel, by decide +kernel⟩, List.mem_of_getElem? (i := 746) (by decide +kernel), List.mem_of_getElem? (i := 1055) (by decide +kernel), List.mem_of_getElem? (i := 1056) (by decide +kernel)⟩
theorem lw_p81 : lw_okq (⟨"DesignReaderModel", "show", "(II)V"⟩, 32) := ⟨⟨by decide +kernel, by decide +kernel⟩, List.mem_of_getElem? (i := 746) (by decide +kernel), List.mem_of_getElem? (i := 1079) (by decide +kernel), List.mem_of_getElem? (i := 1080) (by decide +kernel)⟩
theorem lw_p82 : lw_okq (⟨"DesignReaderModel", "kindAt", "(II)I"⟩, 32) := ⟨⟨by decide +kernel, by decide +kernel⟩, List.mem_of_getElem? (i := 746) (by decide +kernel), List.mem_of_getElem? (i := 1083) (by decide +kernel), List.mem_of_getElem? (i := 1084) (by decide +kernel)⟩
theorem lw_p83 : lw_okq (⟨"DesignReaderModel", "behind", "(II)I"⟩, 32) := ⟨⟨by decide +kernel, by decide +kernel⟩, List.mem_of_getElem? (i := 746) (by decide +kernel), List.mem_of_getElem? (i := 1087) (by decide +kernel), List.mem_of_getElem? (i := 1088) (by decide +kernel)⟩
theorem lw_p84 : lw_okq (⟨"DesignReaderModel", "begin", "(I)V"⟩, 32) := ⟨⟨by decide +kernel, by decide +kernel⟩, List.mem_of_getElem? (i := 746) (by decide +kernel), List.mem_of_getElem? (i := 1091) (by decide +kernel), List.mem_of_getElem? (i := 1092) (by decide +kernel)⟩
theorem lw_p85 : lw_okq (⟨"DesignReaderModel", "put", "(I)V"⟩, 32) := ⟨⟨by decide +kernel, by decide +kernel⟩, List.mem_of_getElem? (i := 746) (by decide +kernel), List.mem_of_getElem? (i := 1098) (by decide +kernel), List.mem_of_getElem? (i := 1099) (by decide +kernel)⟩
theorem lw_p86 : lw_okq (⟨"DesignReaderModel", "commas", "(III)V"⟩, 32) := ⟨⟨by decide +kernel, by decide +kernel⟩, List.mem_of_getElem? (i := 746) (by decide +kernel), List.mem_of_getElem? (i := 1102) (by decide +kernel), List.mem_of_getElem? (i := 1103) (by decide +kernel)⟩
theorem lw_p87 : lw_okq (⟨"DesignReaderModel", "width", "(II)V"⟩, 32) := ⟨⟨by decide +kernel, by decide +kernel⟩, List.mem_of_getElem? (i := 746) (by decide +kernel), List.mem_of_getElem? (i := 1106) (by decide +kernel), List.mem_of_getElem? (i := 1107) (by decide +kernel)⟩
theorem lw_p88 : lw_okq (⟨"DesignReaderModel", "items", "(III)V"⟩, 32) := ⟨⟨by decide +kernel, by decide +kernel⟩, List.mem_of_getElem? (i := 746) (by decide +kernel), List.mem_of_getElem? (i := 1110) (by decide +kernel), List.mem_of_getElem? (i := 1111) (by decide +kernel)⟩
theorem lw_p89 : lw_okq (⟨"DesignReaderModel", "text", "(Ljava/lang/String;)V"⟩, 32) := ⟨⟨by decide +kernel, by decide +kernel⟩, List.mem_of_getElem? (i := 746) (by decide +kernel), List.mem_of_getElem? (i := 1114) (by decide +kernel), List.mem_of_getElem? (i := 1115) (by decide +kernel)⟩
theorem lw_p90 : lw_okq (⟨"DesignReaderModel", "showFunction", "(III)V"⟩, 32) := ⟨⟨by decide +kernel, by decide +kernel⟩, List.mem_of_getElem? (i := 746) (by decide +kernel), List.mem_of_getElem? (i := 1118) (by decide +kernel), List.mem_of_getElem? (i := 1119) (by decide +kernel)⟩
theorem lw_p91 : lw_okq (⟨"DesignReaderModel", "statements", "(III)V"⟩, 32) := ⟨⟨by decide +kernel, by decide +kernel⟩, List.mem_of_getElem? (i := 746) (by decide +kernel), List.mem_of_getElem? (i := 1122) (by decide +kernel), List.mem_of_getElem? (i := 1123) (by decide +kernel)⟩
theorem lw_p92 : lw_okq (⟨"DesignReaderModel", "labels", "(III)V"⟩, 32) := ⟨⟨by decide +kernel, by decide +kernel⟩, List.mem_of_getElem? (i := 746) (by decide +kernel), List.mem_of_getElem? (i := 1127) (by decide +kernel), List.mem_of_getElem? (i := 1128) (by decide +kernel)⟩
theorem lw_p93 : lw_okq (⟨"DesignReaderModel", "sayNumber", "(I)V"⟩, 32) := ⟨⟨by decide +kernel, by decide +kernel⟩, List.mem_of_getElem? (i := 746) (by decide +kernel), List.mem_of_getElem? (i := 1132) (by decide +kernel), List.mem_of_getElem? (i := 1133) (by decide +kernel)⟩
theorem lw_p94 : lw_okq (⟨"DesignReaderModel", "sayName", "(I)V"⟩, 32) := ⟨⟨by decide +kernel, by decide +kernel⟩, List.mem_of_getElem? (i := 746) (by decide +kernel), List.mem_of_getElem? (i := 1137) (by decide +kernel), List.mem_of_getElem? (i := 1138) (by decide +kernel)⟩
theorem lw_p95 : lw_okq (⟨"DesignReaderModel", "showExpr", "(III)V"⟩, 32) := ⟨⟨by decide +kernel, by decide +kernel⟩, List.mem_of_getElem? (i := 746) (by decide +kernel), List.mem_of_getElem? (i := 1141) (by decide +kernel), List.mem_of_getElem? (i := 1142) (by decide +kernel)⟩
def lw_privs_6 : List (MethodName × Nat) := [(⟨"DesignReaderModel", "parts", "(II)I"⟩, 32), (⟨"DesignReaderModel", "show", "(II)V"⟩, 32), (⟨"DesignReaderModel", "kindAt", "(II)I"⟩, 32), (⟨"DesignReaderModel", "behind", "(II)I"⟩, 32), (⟨"DesignReaderModel", "begin", "(I)V"⟩, 32), (⟨"DesignReaderModel", "put", "(I)V"⟩, 32), (⟨"DesignReaderModel", "commas", "(III)V"⟩, 32), (⟨"DesignReaderModel", "width", "(II)V"⟩, 32), (⟨"DesignReaderModel", "items", "(III)V"⟩, 32), (⟨"DesignReaderModel", "text", "(Ljava/lang/String;)V"⟩, 32), (⟨"DesignReaderModel", "showFunction", "(III)V"⟩, 32), (⟨"DesignReaderModel", "statements", "(III)V"⟩, 32), (⟨"DesignReaderModel", "labels", "(III)V"⟩, 32), (⟨"DesignReaderModel", "sayNumber", "(I)V"⟩, 32), (⟨"DesignReaderModel", "sayName", "(I)V"⟩, 32), (⟨"DesignReaderModel", "showExpr", "(III)V"⟩, 32)]
theorem lw_r6 : ∀ q ∈ lw_privs_6, lw_okq q := List.forall_mem_cons.mpr ⟨lw_p80, List.forall_mem_cons.mpr ⟨lw_p81, List.forall_mem_cons.mpr ⟨lw_p82, List.forall_mem_cons.mpr ⟨lw_p83, List.forall_mem_cons.mpr ⟨lw_p84, List.forall_mem_cons.mpr ⟨lw_p85, List.forall_mem_cons.mpr ⟨lw_p86, List.forall_mem_cons.mpr ⟨lw_p87, List.forall_mem_cons.mpr ⟨lw_p88, List.forall_mem_cons.mpr ⟨lw_p89, List.forall_mem_cons.mpr ⟨lw_p90, List.forall_mem_cons.mpr ⟨lw_p91, List.forall_mem_cons.mpr ⟨lw_p92, List.forall_mem_cons.mpr ⟨lw_p93, List.forall_mem_cons.mpr ⟨lw_p94, List.forall_mem_cons.mpr ⟨lw_p95, fun _ h => absurd h List.not_mem_nil⟩⟩⟩⟩⟩⟩⟩⟩⟩⟩⟩⟩⟩⟩⟩⟩
theorem lw_p96 : lw_okq (⟨"DesignReaderModel", "bindingOf", "(II)I"⟩, 32) := ⟨⟨by decide +kernel, by decide +kernel⟩, List.mem_of_getElem? (i := 746) (by decide +kernel), List.mem_of_getElem? (i := 1145) (by decide +kernel), List.mem_of_getElem? (i := 1146) (by decide +kernel)⟩
theorem lw_p97 : lw_okq (⟨"DesignReaderModel", "inside", "(III)V"⟩, 32) := ⟨⟨by decide +kernel, by decide +kernel⟩, List.mem_of_getElem? (i := 746) (by decide +kernel), List.mem_of_getElem? (i := 1152) (by decide +kernel), List.mem_of_getElem? (i := 1153) (by decide +kernel)⟩
def lw_privs_7 : List (MethodName × Nat) := [(⟨"DesignReaderModel", "bindingOf", "(II)I"⟩, 32), (⟨"DesignReaderModel", "inside", "(III)V"⟩, 32)]
theorem lw_r7 : ∀ q ∈ lw_privs_7, lw_okq q := List.forall_mem_cons.mpr ⟨lw_p96, List.forall_mem_cons.mpr ⟨lw_p97, fun _ h => absurd h List.not_mem_nil⟩⟩
def lw_privs : List (MethodName × Nat) := lw_privs_1 ++ (lw_privs_2 ++ (lw_privs_3 ++ (lw_privs_4 ++ (lw_privs_5 ++ (lw_privs_6 ++ (lw_privs_7))))))
def lw_tbl : List Cond := k2_sels lw_privs ++ tables_1
theorem lw_privs_ok : ∀ q ∈ lw_privs, lw_okq q := by
  show ∀ q ∈ lw_privs_1 ++ (lw_privs_2 ++ (lw_privs_3 ++ (lw_privs_4 ++ (lw_privs_5 ++ (lw_privs_6 ++ (lw_privs_7)))))), lw_okq q
  exact List.forall_mem_append.mpr ⟨lw_r1, List.forall_mem_append.mpr ⟨lw_r2, List.forall_mem_append.mpr ⟨lw_r3, List.forall_mem_append.mpr ⟨lw_r4, List.forall_mem_append.mpr ⟨lw_r5, List.forall_mem_append.mpr ⟨lw_r6, lw_r7⟩⟩⟩⟩⟩⟩
-- ===== end of PART A; then your names; then what follows =====
end
section
/-! THE ABSTRACT MACHINE, 1: values by cell numbers, locals as a list, the state of all cells as two functions -/
/-- a local of which nothing is known -/
def zu : Value := .retAddr 0
def zknown : Value → Bool
  | .retAddr _ => false
  | _ => true
/-- a value of the abstract machine (its references are cell numbers) as one of the machine -/
def zcv (ad : Nat → Nat) : Value → Value
  | .int x => .int x
  | .long x => .long x
  | .float x => .float x
  | .double x => .double x
  | .null => .null
  | .ref i => .ref (ad i)
  | .retAddr k => .retAddr k
theorem zcv_cat (ad : Nat → Nat) (v : Value) : (zcv ad v).category = v.category := by cases v <;> rfl
/-- the known locals, with their places -/
def zlv (ad : Nat → Nat) : Nat → List Value → List (Nat × Value)
  | _, [] => []
  | i, v :: r => if zknown v = true then (i, zcv ad v) :: zlv ad (i + 1) r else zlv ad (i + 1) r
theorem zlv_mem {ad : Nat → Nat} {q : Nat × Value} : ∀ {lv : List Value} {i : Nat}, q ∈ zlv ad i lv ↔ ∃ (j : Nat) (v : Value), lv[j]? = some v ∧ zknown v = true ∧ q = (i + j, zcv ad v) := by
  intro lv
  induction lv with
  | nil => intro i; simp [zlv]
  | cons a r ih =>
    intro i
    have hs : (∃ (j : Nat) (v : Value), (a :: r)[j]? = some v ∧ zknown v = true ∧ q = (i + j, zcv ad v)) ↔ (zknown a = true ∧ q = (i, zcv ad a)) ∨ ∃ (j : Nat) (v : Value), r[j]? = some v ∧ zknown v = true ∧ q = (i + 1 + j, zcv ad v) := by
      constructor
      · rintro ⟨j, v, h1, h2, h3⟩
        cases j with
        | zero => simp at h1; subst h1; exact Or.inl ⟨h2, by simpa using h3⟩
        | succ j => simp at h1; exact Or.inr ⟨j, v, h1, h2, by rw [h3]; congr 1; omega⟩
      · rintro (⟨h1, h2⟩ | ⟨j, v, h1, h2, h3⟩)
        · exact ⟨0, a, by simp, h1, by simpa using h2⟩
        · exact ⟨j + 1, v, by simpa using h1, h2, by rw [h3]; congr 1; omega⟩
    rw [hs]
    unfold zlv
    by_cases ha : zknown a = true
    · rw [if_pos ha, List.mem_cons, ih]
      constructor
      · rintro (h | h)
        · exact Or.inl ⟨ha, h⟩
        · exact Or.inr h
      · rintro (⟨-, h⟩ | h)
        · exact Or.inl h
        · exact Or.inr h
    · rw [if_neg ha, ih]
      constructor
      · intro h
        exact Or.inr h
      · rintro (⟨h, -⟩ | h)
        · exact absurd h ha
        · exact h
theorem zl_at {ad : Nat → Nat} {ls : Array Slot} {nL j : Nat} {lv : List Value} {v : Value} (h : lv_has ls nL (zlv ad 0 lv)) (hj : lv[j]? = some v) (hk : zknown v = true) : ls[j]? = some (.val (zcv ad v)) :=
  h.2.2 (j, zcv ad v) (zlv_mem.mpr ⟨j, v, hj, hk, by simp⟩)
/-- forget a long that stands right before place i -/
def zcutAt (lv : List Value) (j : Nat) : List Value := match lv[j]? with
  | some (.long _) => lv.set j zu
  | some (.double _) => lv.set j zu
  | _ => lv
def zcut (lv : List Value) : Nat → List Value
  | 0 => lv
  | j + 1 => zcutAt lv j
def zset (lv : List Value) (i : Nat) (v : Value) : List Value := (zcut lv i).set i v
def zset2 (lv : List Value) (i : Nat) (v : Value) : List Value := (zset lv i v).set (i + 1) zu
theorem zcut_len (lv : List Value) (i : Nat) : (zcut lv i).length = lv.length := by
  cases i with
  | zero => rfl
  | succ j => show (zcutAt lv j).length = _; unfold zcutAt; split <;> simp
theorem zset_len (lv : List Value) (i : Nat) (v : Value) : (zset lv i v).length = lv.length := by simp [zset, zcut_len]
theorem zset2_len (lv : List Value) (i : Nat) (v : Value) : (zset2 lv i v).length = lv.length := by simp [zset2, zset_len]
theorem zcut_get {lv : List Value} {i j : Nat} {w : Value} (h : (zcut lv i)[j]? = some w) (hk : zknown w = true) : lv[j]? = some w ∧ ¬ (j + 1 = i ∧ w.category = 2) := by
  cases i with
  | zero => exact ⟨h, fun q => absurd q.1 (by omega)⟩
  | succ k =>
    replace h : (zcutAt lv k)[j]? = some w := h
    unfold zcutAt at h
    by_cases hjk : j = k
    · subst hjk
      split at h
      · rw [List.getElem?_set_self' ] at h
        cases hq : lv[j]? with
        | none => rw [hq] at h; cases h
        | some x => rw [hq] at h; cases h; cases hk
      · rw [List.getElem?_set_self' ] at h
        cases hq : lv[j]? with
        | none => rw [hq] at h; cases h
        | some x => rw [hq] at h; cases h; cases hk
      · rename_i h1 h2
        refine ⟨h, fun q => ?_⟩
        cases w with
        | long x => exact h1 x h
        | double x => exact h2 x h
        | _ => exact absurd q.2 (by simp [Value.category])
    · have e : lv[j]? = some w := by
        split at h
        · rwa [List.getElem?_set_ne (fun q => hjk q.symm)] at h
        · rwa [List.getElem?_set_ne (fun q => hjk q.symm)] at h
        · exact h
      exact ⟨e, fun q => hjk (by omega)⟩
theorem zl_set1 {ad : Nat → Nat} {ls : Array Slot} {nL i : Nat} {lv : List Value} {v : Value} (hi : i < lv.length)
    (h : lv_has ls nL ((i, zcv ad v) :: (zlv ad 0 lv).filter (fun q => !(q.1 == i) && !(q.1 + 1 == i && q.2.category == 2)))) : lv_has ls nL (zlv ad 0 (zset lv i v)) := by
  refine ⟨h.1, h.2.1, fun q hq => ?_⟩
  obtain ⟨j, w, hj, hk, rfl⟩ := zlv_mem.mp hq
  rw [Nat.zero_add]
  by_cases hji : j = i
  · subst hji
    rw [zset, List.getElem?_set_self (by rw [zcut_len]; exact hi)] at hj
    cases hj
    exact h.2.2 _ List.mem_cons_self
  · rw [zset, List.getElem?_set_ne (fun q => hji q.symm)] at hj
    obtain ⟨h1, h2⟩ := zcut_get hj hk
    refine h.2.2 _ (List.mem_cons_of_mem _ (List.mem_filter.mpr ⟨zlv_mem.mpr ⟨j, w, h1, hk, by simp⟩, ?_⟩))
    rw [zcv_cat]
    simp only [Bool.and_eq_true, Bool.not_eq_true', beq_eq_false_iff_ne, ne_eq, Bool.and_eq_false_iff]
    refine ⟨hji, ?_⟩
    by_cases q : j + 1 = i
    · exact Or.inr (fun z => h2 ⟨q, z⟩)
    · exact Or.inl q
theorem zl_set2 {ad : Nat → Nat} {ls : Array Slot} {nL i : Nat} {lv : List Value} {v : Value} (hi : i < lv.length)
    (h : lv_has ls nL ((i, zcv ad v) :: (zlv ad 0 lv).filter (fun q => !(q.1 == i) && (!(q.1 == i + 1) && !(q.1 + 1 == i && q.2.category == 2))))) : lv_has ls nL (zlv ad 0 (zset2 lv i v)) := by
  refine ⟨h.1, h.2.1, fun q hq => ?_⟩
  obtain ⟨j, w, hj, hk, rfl⟩ := zlv_mem.mp hq
  rw [Nat.zero_add]
  by_cases hj1 : j = i + 1
  · subst hj1
    rw [zset2, List.getElem?_set_self'] at hj
    cases hq : (zset lv i v)[i + 1]? with
    | none => rw [hq] at hj; cases hj
    | some x => rw [hq] at hj; cases hj; cases hk
  rw [zset2, List.getElem?_set_ne (fun q => hj1 q.symm)] at hj
  by_cases hji : j = i
  · subst hji
    rw [zset, List.getElem?_set_self (by rw [zcut_len]; exact hi)] at hj
    cases hj
    exact h.2.2 _ List.mem_cons_self
  · rw [zset, List.getElem?_set_ne (fun q => hji q.symm)] at hj
    obtain ⟨h1, h2⟩ := zcut_get hj hk
    refine h.2.2 _ (List.mem_cons_of_mem _ (List.mem_filter.mpr ⟨zlv_mem.mpr ⟨j, w, h1, hk, by simp⟩, ?_⟩))
    rw [zcv_cat]
    simp only [Bool.and_eq_true, Bool.not_eq_true', beq_eq_false_iff_ne, ne_eq, Bool.and_eq_false_iff]
    refine ⟨hji, hj1, ?_⟩
    by_cases q : j + 1 = i
    · exact Or.inr (fun z => h2 ⟨q, z⟩)
    · exact Or.inl q
/-- forget the locals at some places -/
def zfg : List Nat → List Value → List Value
  | [], lv => lv
  | i :: r, lv => zfg r (lv.set i zu)
theorem zfg_len : ∀ (is : List Nat) (lv : List Value), (zfg is lv).length = lv.length
  | [], _ => rfl
  | i :: r, lv => by rw [zfg, zfg_len r]; simp
theorem zfg_get : ∀ (is : List Nat) (lv : List Value) (j : Nat) (w : Value), (zfg is lv)[j]? = some w → zknown w = true → lv[j]? = some w
  | [], _, _, _, h, _ => h
  | i :: r, lv, j, w, h, hk => by
    have h1 := zfg_get r (lv.set i zu) j w h hk
    by_cases hj : j = i
    · subst hj
      rw [List.getElem?_set_self'] at h1
      cases hq : lv[j]? with
      | none => rw [hq] at h1; cases h1
      | some x => rw [hq] at h1; cases h1; cases hk
    · rwa [List.getElem?_set_ne (fun q => hj q.symm)] at h1
theorem zl_fg {ad : Nat → Nat} {ls : Array Slot} {nL : Nat} {lv : List Value} (is : List Nat) (h : lv_has ls nL (zlv ad 0 lv)) : lv_has ls nL (zlv ad 0 (zfg is lv)) := by
  refine ⟨h.1, h.2.1, fun q hq => ?_⟩
  obtain ⟨j, w, hj, hk, rfl⟩ := zlv_mem.mp hq
  rw [Nat.zero_add]
  exact zl_at h (zfg_get is lv j w hj hk) hk
/-- arguments as locals: a long takes two places -/
def zargs : List Value → List Value
  | [] => []
  | v :: r => if v.category = 2 then v :: zu :: zargs r else v :: zargs r
def zlocals (n : Nat) (as : List Value) : List Value := zargs as ++ List.replicate (n - (zargs as).length) zu
theorem zlv_args (ad : Nat → Nat) : ∀ (as : List Value) (i : Nat) (q : Nat × Value), q ∈ zlv ad i (zargs as) → q ∈ lv_args i (as.map (zcv ad)) := by
  intro as
  induction as with
  | nil => intro i q h; simp [zargs, zlv] at h
  | cons v r ih =>
    intro i q h
    by_cases hc : v.category = 2
    · have hk : zknown v = true := by cases v <;> first | rfl | (exact absurd hc (by simp [Value.category]))
      have e : zlv ad i (zargs (v :: r)) = (i, zcv ad v) :: zlv ad (i + 2) (zargs r) := by
        have hz : zlv ad (i + 1) (zu :: zargs r) = zlv ad (i + 2) (zargs r) := by
          show (if zknown zu = true then _ else _) = _
          exact if_neg (by decide)
        rw [zargs, if_pos hc, zlv, if_pos hk, hz]
      rw [e] at h
      simp only [List.map_cons, lv_args, zcv_cat, hc, if_true]
      rcases List.mem_cons.mp h with rfl | h
      · exact List.mem_cons_self
      · exact List.mem_cons_of_mem _ (ih _ _ h)
    · simp only [List.map_cons, lv_args, zcv_cat, hc, if_false]
      rw [zargs, if_neg hc, zlv] at h
      by_cases hk : zknown v = true
      · rw [if_pos hk] at h
        rcases List.mem_cons.mp h with rfl | h
        · exact List.mem_cons_self
        · exact List.mem_cons_of_mem _ (ih _ _ h)
      · rw [if_neg hk] at h
        exact List.mem_cons_of_mem _ (ih _ _ h)
theorem zargs_len (ad : Nat → Nat) : ∀ as : List Value, (lg_sl (as.map (zcv ad))).length = (zargs as).length := by
  intro as
  induction as with
  | nil => rfl
  | cons v r ih =>
    by_cases hc : v.category = 2
    · simp [lg_sl, zargs, zcv_cat, hc] at ih ⊢
      omega
    · simp [lg_sl, zargs, zcv_cat, hc] at ih ⊢
      omega
theorem zl_entry {ad : Nat → Nat} {n : Nat} (as : List Value) (h : (zargs as).length ≤ n) : lv_has ((lg_sl (as.map (zcv ad)) ++ List.replicate (n - (lg_sl (as.map (zcv ad))).length) Slot.unset).toArray) n (zlv ad 0 (zlocals n as)) := by
  have h0 := lv_entry (as.map (zcv ad)) (n := n) (by rw [zargs_len]; exact h)
  refine ⟨h0.1, h0.2.1, fun q hq => h0.2.2 q (zlv_args ad as 0 q ?_)⟩
  obtain ⟨j, w, hj, hk, rfl⟩ := zlv_mem.mp hq
  refine zlv_mem.mpr ⟨j, w, ?_, hk, rfl⟩
  unfold zlocals at hj
  by_cases hl : j < (zargs as).length
  · rwa [List.getElem?_append_left hl] at hj
  · rw [List.getElem?_append_right (by omega)] at hj
    have := List.eq_of_mem_replicate (List.mem_of_getElem? hj)
    subst this
    cases hk
theorem zlocals_len {n : Nat} {as : List Value} (h : (zargs as).length ≤ n) : (zlocals n as).length = n := by
  simp [zlocals]
  omega
end
section
/-! THE ABSTRACT MACHINE, 2: the cells that were made, by their numbers, and the world that they stand for -/
/-- a cell: an object (which class, its fields), an array of numbers (which type, how long, what it holds), an array of references (which type, which cells) -/
abbrev zC : Type := (Nat × List Value) ⊕ ((Nat × Nat × Int32 × List (Nat × Int32)) ⊕ (Nat × List (Option Nat)))
abbrev zS : Type := List zC
/-- what an array holds: what was put last, else the same number everywhere -/
def zfun (d : Int32) : List (Nat × Int32) → Nat → Int32
  | [], _ => d
  | (i, x) :: r, j => if j = i then x else zfun d r j
theorem zfun_upd (d : Int32) (u : List (Nat × Int32)) (i : Nat) (x : Int32) : zfun d ((i, x) :: u) = upd (zfun d u) i x := rfl
theorem zfun_nil (d : Int32) : zfun d [] = fun _ => d := rfl
def zcc (cA : Nat → ClassId) (ad : Nat → Nat) : zC → va_E
  | .inl (ci, fs) => .inr (ci, fs.map (zcv ad))
  | .inr (.inl (t, n, d, u)) => .inl (cA t, n, .inl (zfun d u))
  | .inr (.inr (t, rs)) => .inl (cA t, rs.length, .inr (.inr (.inr (.inr (fun j => (rs.getD j none).map ad)))))
def zw (cA : Nat → ClassId) (ad : Nat → Nat) (st : zS) : va_W := st.mapIdx (fun i c => (ad i, zcc cA ad c))
/-- numbers from 500 on are those of constants -/
def zsc (n : Nat) : Value → Bool
  | .ref i => decide (i < n) || decide (500 ≤ i)
  | _ => true
def zsO (n : Nat) : Option Nat → Bool
  | some i => decide (i < n) || decide (500 ≤ i)
  | none => true
def zscC (n : Nat) : zC → Bool
  | .inl (_, fs) => fs.all (zsc n)
  | .inr (.inl _) => true
  | .inr (.inr (_, rs)) => rs.all (zsO n)
def zag (n : Nat) (ad ad' : Nat → Nat) : Prop := ∀ i, i < n ∨ 500 ≤ i → ad' i = ad i
section ZW
variable {cA : Nat → ClassId} {ad ad' : Nat → Nat} {st : zS} {n : Nat}
theorem zag.rf : zag n ad ad := fun _ _ => rfl
theorem zag.tr {ad'' : Nat → Nat} {n' : Nat} (h : zag n ad ad') (h' : zag n' ad' ad'') (hn : n ≤ n') : zag n ad ad'' := fun i hi => (h' i (hi.elim (fun q => Or.inl (by omega)) Or.inr)).trans (h i hi)
theorem zag.lo {n' : Nat} (h : zag n ad ad') (hn : n' ≤ n) : zag n' ad ad' := fun i hi => h i (hi.elim (fun q => Or.inl (by omega)) Or.inr)
theorem zcv_ag {v : Value} (h : zag n ad ad') (hv : zsc n v = true) : zcv ad' v = zcv ad v := by
  cases v with
  | ref i =>
    simp only [zsc, Bool.or_eq_true, decide_eq_true_eq] at hv
    simp only [zcv, h i hv]
  | _ => rfl
theorem zmap_ag {l : List Value} (h : zag n ad ad') (hv : l.all (zsc n) = true) : l.map (zcv ad') = l.map (zcv ad) := by
  apply List.map_congr_left
  intro v hm
  exact zcv_ag h (List.all_eq_true.mp hv v hm)
theorem zcc_ag {c : zC} (h : zag n ad ad') (hv : zscC n c = true) : zcc cA ad' c = zcc cA ad c := by
  obtain ⟨ci, fs⟩ | ⟨t, k, d, u⟩ | ⟨t, rs⟩ := c
  · simp only [zcc]
    rw [zmap_ag h hv]
  · rfl
  · simp only [zcc]
    congr 7
    funext j
    cases hj : rs[j]? with
    | none => simp [List.getD, hj]
    | some r =>
      cases r with
      | none => simp [List.getD, hj]
      | some i =>
        have := List.all_eq_true.mp hv (some i) (List.mem_of_getElem? hj)
        simp only [zsO, Bool.or_eq_true, decide_eq_true_eq] at this
        simp [List.getD, hj, h i this]
theorem zw_get (i : Nat) : (zw cA ad st)[i]? = (st[i]?).map (fun c => (ad i, zcc cA ad c)) := by
  simp [zw]
theorem zw_at {i : Nat} {c : zC} (h : st[i]? = some c) : (zw cA ad st)[i]? = some (ad i, zcc cA ad c) := by
  rw [zw_get, h]
  rfl
theorem zw_of {i : Nat} {q : Nat × va_E} (h : (zw cA ad st)[i]? = some q) : i < st.length ∧ q.1 = ad i := by
  rw [zw_get] at h
  cases hs : st[i]? with
  | none => rw [hs] at h; cases h
  | some c => rw [hs] at h; cases h; exact ⟨(List.getElem?_eq_some_iff.mp hs).1, rfl⟩
theorem zw_set {i : Nat} {c : zC} : (zw cA ad st).set i (ad i, zcc cA ad c) = zw cA ad (st.set i c) := by
  apply List.ext_getElem?
  intro j
  rw [zw_get]
  by_cases hj : j = i
  · subst hj
    rw [List.getElem?_set_self', List.getElem?_set_self', zw_get]
    cases st[j]? <;> rfl
  · rw [List.getElem?_set_ne (fun q => hj q.symm), List.getElem?_set_ne (fun q => hj q.symm), zw_get]
theorem zw_push {c : zC} : zw cA ad (st ++ [c]) = zw cA ad st ++ [(ad st.length, zcc cA ad c)] := by
  simp [zw, List.mapIdx_append]
theorem zw_ag (h : zag n ad ad') (hs : st.all (zscC n) = true) (hn : st.length ≤ n) : zw cA ad' st = zw cA ad st := by
  apply List.ext_getElem?
  intro i
  rw [zw_get, zw_get]
  cases hi : st[i]? with
  | none => rfl
  | some c =>
    have hl : i < st.length := (List.getElem?_eq_some_iff.mp hi).1
    simp only [Option.map_some]
    rw [h i (Or.inl (by omega)), zcc_ag h (List.all_eq_true.mp hs c (List.mem_of_getElem? hi))]
end ZW
end
section
/-! THE ABSTRACT MACHINE, 3: one step -/
/-- an instruction, its length, three numbers, the places of a switch -/
abbrev zI : Type := Instr × Nat × Nat × Nat × Nat × List (Int32 × Nat)
/-- a method: its name, its bytes, its locals, what it returns, its class, the cells and slots that it may make, the places of its words, its instructions -/
abbrev zMth : Type := MethodName × ByteArray × Nat × Option FieldType × String × Nat × Nat × List Nat × List (Nat × zI)
def zmL (m : zMth) : Nat := m.2.2.1
def zmC (m : zMth) : Nat := m.2.2.2.2.2.1
def zmS (m : zMth) : Nat := m.2.2.2.2.2.2.1
def zmI (m : zMth) : List (Nat × zI) := m.2.2.2.2.2.2.2.2
/-- a point: place, locals, stack, cells; how many cells and slots were made -/
abbrev zX : Type := Nat × List Value × List Value × zS × Nat × Nat
abbrev zO : Type := Option (zX ⊕ ((Nat × List Value × zX) ⊕ Option Value))
def zfind (pc : Nat) : List (Nat × zI) → Option zI
  | [] => none
  | (k, e) :: r => if k = pc then some e else zfind pc r
def zn (pc : Nat) (lv stk : List Value) (st : zS) (c s : Nat) : zO := some (.inl (pc, lv, stk, st, c, s))
def zbin (f : Int32 → Int32 → Int32) (pc : Nat) (lv stk : List Value) (st : zS) (c s : Nat) : zO := match stk with
  | .int y :: .int x :: r => zn (pc + 1) lv (.int (f x y) :: r) st c s
  | _ => none
def zrem (pc : Nat) (lv stk : List Value) (st : zS) (c s : Nat) : zO := match stk with
  | .int y :: .int x :: r => if y = 0 then none else zn (pc + 1) lv (.int (x - x / y * y) :: r) st c s
  | _ => none
def zi2b (pc : Nat) (lv stk : List Value) (st : zS) (c s : Nat) : zO := match stk with
  | .int x :: r => zn (pc + 1) lv (.int x.toInt8.toInt32 :: r) st c s
  | _ => none
def zldI (i len pc : Nat) (lv stk : List Value) (st : zS) (c s : Nat) : zO := match lv[i]? with
  | some (.int x) => zn (pc + len) lv (.int x :: stk) st c s
  | _ => none
def zldA (i len pc : Nat) (lv stk : List Value) (st : zS) (c s : Nat) : zO := match lv[i]? with
  | some (.ref x) => zn (pc + len) lv (.ref x :: stk) st c s
  | _ => none
def zsoI (i len pc : Nat) (lv stk : List Value) (st : zS) (c s : Nat) : zO := match stk with
  | .int x :: r => if i < lv.length then zn (pc + len) (zset lv i (.int x)) r st c s else none
  | _ => none
def zsoA (i len pc : Nat) (lv stk : List Value) (st : zS) (c s : Nat) : zO := match stk with
  | .ref x :: r => if i < lv.length then zn (pc + len) (zset lv i (.ref x)) r st c s else none
  | _ => none
def zinc (i : Nat) (n : Int) (pc : Nat) (lv stk : List Value) (st : zS) (c s : Nat) : zO := match lv[i]? with
  | some (.int x) => zn (pc + 3) (zset lv i (.int (x + Int32.ofInt n))) stk st c s
  | _ => none
def zif1 (k : ClassFile.Cond) (tgt pc : Nat) (lv stk : List Value) (st : zS) (c s : Nat) : zO := match stk with
  | .int x :: r => match k with
    | .eq => if x = 0 then zn tgt lv r st c s else zn (pc + 3) lv r st c s
    | .ne => if ¬ x = 0 then zn tgt lv r st c s else zn (pc + 3) lv r st c s
    | .lt => if x < 0 then zn tgt lv r st c s else zn (pc + 3) lv r st c s
    | .ge => if 0 ≤ x then zn tgt lv r st c s else zn (pc + 3) lv r st c s
    | .gt => if 0 < x then zn tgt lv r st c s else zn (pc + 3) lv r st c s
    | .le => if x ≤ 0 then zn tgt lv r st c s else zn (pc + 3) lv r st c s
  | _ => none
def zif2 (k : ClassFile.Cond) (tgt pc : Nat) (lv stk : List Value) (st : zS) (c s : Nat) : zO := match stk with
  | .int y :: .int x :: r => match k with
    | .eq => if x = y then zn tgt lv r st c s else zn (pc + 3) lv r st c s
    | .ne => if ¬ x = y then zn tgt lv r st c s else zn (pc + 3) lv r st c s
    | .lt => if x < y then zn tgt lv r st c s else zn (pc + 3) lv r st c s
    | .ge => if y ≤ x then zn tgt lv r st c s else zn (pc + 3) lv r st c s
    | .gt => if y < x then zn tgt lv r st c s else zn (pc + 3) lv r st c s
    | .le => if x ≤ y then zn tgt lv r st c s else zn (pc + 3) lv r st c s
  | _ => none
def zswT (x : Int32) (d : Nat) : List (Int32 × Nat) → Nat
  | [] => d
  | (k, t) :: r => if x = k then t else zswT x d r
def zsw (d : Nat) (ps : List (Int32 × Nat)) (lv stk : List Value) (st : zS) (c s : Nat) : zO := match stk with
  | .int x :: r => zn (zswT x d ps) lv r st c s
  | _ => none
/-- does a place lie in an array -/
def zin (i : Int32) (n : Nat) : Bool := !(decide (i < 0) || decide (n ≤ i.toNatClampNeg))
def zgetf (ci k pc : Nat) (lv stk : List Value) (st : zS) (c s : Nat) : zO := match stk with
  | .ref a :: r => match st[a]? with
    | some (.inl (ci', fs)) => if ci' = ci then (match fs[k]? with
      | some v => zn (pc + 3) lv (v :: r) st c s
      | none => none) else none
    | _ => none
  | _ => none
/-- what a field of a type takes -/
def zfits : FieldType → Value → Bool
  | .int, .int _ => true
  | .boolean, .int x => x == 0 || x == 1
  | .object _, .ref _ => true
  | .array _, .ref _ => true
  | _, _ => false
def zputf (ty : FieldType) (ci k pc : Nat) (lv stk : List Value) (st : zS) (c s : Nat) : zO := match stk with
  | v :: .ref a :: r => match st[a]? with
    | some (.inl (ci', fs)) => if ci' = ci ∧ k < fs.length ∧ zfits ty v = true then zn (pc + 3) lv r (st.set a (.inl (ci, fs.set k v))) c s else none
    | _ => none
  | _ => none
/-- t: the type of the array -/
def zaldN (t pc : Nat) (lv stk : List Value) (st : zS) (c s : Nat) : zO := match stk with
  | .int i :: .ref a :: r => match st[a]? with
    | some (.inr (.inl (t', n, d, u))) => if t' = t ∧ zin i n = true then zn (pc + 1) lv (.int (zfun d u i.toNatClampNeg) :: r) st c s else none
    | _ => none
  | _ => none
def zastN (t pc : Nat) (nar : Int32 → Int32) (lv stk : List Value) (st : zS) (c s : Nat) : zO := match stk with
  | .int x :: .int i :: .ref a :: r => match st[a]? with
    | some (.inr (.inl (t', n, d, u))) => if t' = t ∧ zin i n = true then zn (pc + 1) lv r (st.set a (.inr (.inl (t, n, d, (i.toNatClampNeg, nar x) :: u)))) c s else none
    | _ => none
  | _ => none
def zaldA (pc : Nat) (lv stk : List Value) (st : zS) (c s : Nat) : zO := match stk with
  | .int i :: .ref a :: r => match st[a]? with
    | some (.inr (.inr (t, rs))) => if t = 2 ∧ zin i rs.length = true then (match rs.getD i.toNatClampNeg none with
      | some q => zn (pc + 1) lv (.ref q :: r) st c s
      | none => none) else none
    | _ => none
  | _ => none
def zlen (pc : Nat) (lv stk : List Value) (st : zS) (c s : Nat) : zO := match stk with
  | .ref a :: r => match st[a]? with
    | some (.inr (.inl (t, n, _))) => if t < 4 then zn (pc + 1) lv (.int (Int32.ofNat n) :: r) st c s else none
    | some (.inr (.inr (t, rs))) => if t < 4 then zn (pc + 1) lv (.int (Int32.ofNat rs.length) :: r) st c s else none
    | _ => none
  | _ => none
def zdup (pc : Nat) (lv stk : List Value) (st : zS) (c s : Nat) : zO := match stk with
  | v :: r => if v.category = 1 then zn (pc + 1) lv (v :: v :: r) st c s else none
  | _ => none
def zdup2 (pc : Nat) (lv stk : List Value) (st : zS) (c s : Nat) : zO := match stk with
  | v :: w :: r => if v.category = 1 ∧ w.category = 1 then zn (pc + 1) lv (v :: w :: v :: w :: r) st c s else none
  | _ => none
def zpop (pc : Nat) (lv stk : List Value) (st : zS) (c s : Nat) : zO := match stk with
  | v :: r => if v.category = 1 then zn (pc + 1) lv r st c s else none
  | _ => none
end
section
/-! THE PROGRAM, printed by wip/gen.py: classes, methods, instructions; numbers are places in lw_tbl -/
def zT0 : u_T := fun k => match k with
  | 0 => ("DesignReader$Tree", "kind", "[I", true)
  | 1 => ("DesignReader$Tree", "place", "[I", true)
  | 2 => ("DesignReader$Tree", "value", "[I", true)
  | 3 => ("DesignReader$Tree", "size", "[I", true)
  | 4 => ("DesignReader$Tree", "parts", "[I", true)
  | 5 => ("DesignReader$Tree", "parent", "[I", true)
  | 6 => ("DesignReader$Tree", "rank", "[I", true)
  | _ => ("DesignReader$Tree", "count", "I", false)
def zy0 : Nat → FieldType := fun k => match k with
  | 0 => .array .int
  | 1 => .array .int
  | 2 => .array .int
  | 3 => .array .int
  | 4 => .array .int
  | 5 => .array .int
  | 6 => .array .int
  | _ => .int
def zT1 : u_T := fun k => match k with
  | 0 => ("DesignReader$NameTable", "spelling", "[B", true)
  | 1 => ("DesignReader$NameTable", "start", "[I", true)
  | 2 => ("DesignReader$NameTable", "newest", "[I", true)
  | 3 => ("DesignReader$NameTable", "older", "[I", true)
  | _ => ("DesignReader$NameTable", "count", "I", false)
def zy1 : Nat → FieldType := fun k => match k with
  | 0 => .array .byte
  | 1 => .array .int
  | 2 => .array .int
  | 3 => .array .int
  | _ => .int
def zT2 : u_T := fun k => match k with
  | 0 => ("DesignReader$Tokens", "kinds", "[I", true)
  | 1 => ("DesignReader$Tokens", "places", "[I", true)
  | 2 => ("DesignReader$Tokens", "values", "[I", true)
  | 3 => ("DesignReader$Tokens", "text", "[B", true)
  | 4 => ("DesignReader$Tokens", "length", "I", false)
  | 5 => ("DesignReader$Tokens", "count", "I", false)
  | _ => ("DesignReader$Tokens", "current", "I", false)
def zy2 : Nat → FieldType := fun k => match k with
  | 0 => .array .int
  | 1 => .array .int
  | 2 => .array .int
  | 3 => .array .byte
  | 4 => .int
  | 5 => .int
  | _ => .int
def zT3 : u_T := fun k => match k with
  | 0 => ("DesignReader$Parser", "tokens", "LDesignReader$Tokens;", true)
  | 1 => ("DesignReader$Parser", "table", "LDesignReader$NameTable;", true)
  | 2 => ("DesignReader$Parser", "tree", "LDesignReader$Tree;", false)
  | 3 => ("DesignReader$Parser", "rowAt", "[I", true)
  | 4 => ("DesignReader$Parser", "operatorAt", "[I", true)
  | 5 => ("DesignReader$Parser", "bindingAt", "[I", true)
  | _ => ("DesignReader$Parser", "rows", "I", false)
def zy3 : Nat → FieldType := fun k => match k with
  | 0 => .object "DesignReader$Tokens"
  | 1 => .object "DesignReader$NameTable"
  | 2 => .object "DesignReader$Tree"
  | 3 => .array .int
  | 4 => .array .int
  | 5 => .array .int
  | _ => .int
def zT4 : u_T := fun k => match k with
  | 0 => ("DesignReader$Writer", "table", "LDesignReader$NameTable;", true)
  | 1 => ("DesignReader$Writer", "done", "[B", false)
  | 2 => ("DesignReader$Writer", "doneCount", "I", false)
  | 3 => ("DesignReader$Writer", "draft", "[B", false)
  | 4 => ("DesignReader$Writer", "draftCount", "I", false)
  | _ => ("DesignReader$Writer", "fits", "Z", false)
def zy4 : Nat → FieldType := fun k => match k with
  | 0 => .object "DesignReader$NameTable"
  | 1 => .array .byte
  | 2 => .int
  | 3 => .array .byte
  | 4 => .int
  | _ => .boolean
def zT5 : u_T := fun k => match k with
  | 0 => ("DesignReader", "trees", "[LDesignReader$Tree;", true)
  | 1 => ("DesignReader", "nameTable", "LDesignReader$NameTable;", true)
  | 2 => ("DesignReader", "tokens", "LDesignReader$Tokens;", true)
  | 3 => ("DesignReader", "parser", "LDesignReader$Parser;", true)
  | 4 => ("DesignReader", "writer", "LDesignReader$Writer;", true)
  | 5 => ("DesignReader", "fed", "[B", true)
  | _ => ("DesignReader", "fedCount", "I", false)
def zy5 : Nat → FieldType := fun k => match k with
  | 0 => .array (.object "DesignReader$Tree")
  | 1 => .object "DesignReader$NameTable"
  | 2 => .object "DesignReader$Tokens"
  | 3 => .object "DesignReader$Parser"
  | 4 => .object "DesignReader$Writer"
  | 5 => .array .byte
  | _ => .int
def zT6 : u_T := fun k => match k with
  | 0 => ("DesignReaderModel", "words", "[Ljava/lang/String;", true)
  | 1 => ("DesignReaderModel", "bytes", "[I", true)
  | 2 => ("DesignReaderModel", "size", "I", false)
  | 3 => ("DesignReaderModel", "end", "I", false)
  | 4 => ("DesignReaderModel", "written", "[I", true)
  | 5 => ("DesignReaderModel", "writtenSize", "I", false)
  | 6 => ("DesignReaderModel", "out", "[I", true)
  | 7 => ("DesignReaderModel", "outSize", "I", false)
  | 8 => ("DesignReaderModel", "token", "[I", true)
  | 9 => ("DesignReaderModel", "place", "[I", true)
  | 10 => ("DesignReaderModel", "length", "[I", true)
  | 11 => ("DesignReaderModel", "tokens", "I", false)
  | 12 => ("DesignReaderModel", "at", "I", false)
  | 13 => ("DesignReaderModel", "bad", "Z", false)
  | 14 => ("DesignReaderModel", "fault", "I", false)
  | 15 => ("DesignReaderModel", "kindOf", "[I", true)
  | 16 => ("DesignReaderModel", "placeOf", "[I", true)
  | 17 => ("DesignReaderModel", "valueOf", "[I", true)
  | 18 => ("DesignReaderModel", "firstOf", "[I", true)
  | 19 => ("DesignReaderModel", "lastOf", "[I", true)
  | 20 => ("DesignReaderModel", "nextOf", "[I", true)
  | 21 => ("DesignReaderModel", "drafts", "I", false)
  | 22 => ("DesignReaderModel", "pile", "[I", true)
  | 23 => ("DesignReaderModel", "kind", "[I", true)
  | 24 => ("DesignReaderModel", "where", "[I", true)
  | 25 => ("DesignReaderModel", "value", "[I", true)
  | 26 => ("DesignReaderModel", "whole", "[I", true)
  | 27 => ("DesignReaderModel", "sizes", "[I", true)
  | 28 => ("DesignReaderModel", "count", "[I", true)
  | 29 => ("DesignReaderModel", "letters", "[I", false)
  | 30 => ("DesignReaderModel", "starts", "[I", false)
  | _ => ("DesignReaderModel", "names", "I", false)
def zy6 : Nat → FieldType := fun k => match k with
  | 0 => .array (.object "java/lang/String")
  | 1 => .array .int
  | 2 => .int
  | 3 => .int
  | 4 => .array .int
  | 5 => .int
  | 6 => .array .int
  | 7 => .int
  | 8 => .array .int
  | 9 => .array .int
  | 10 => .array .int
  | 11 => .int
  | 12 => .int
  | 13 => .boolean
  | 14 => .int
  | 15 => .array .int
  | 16 => .array .int
  | 17 => .array .int
  | 18 => .array .int
  | 19 => .array .int
  | 20 => .array .int
  | 21 => .int
  | 22 => .array .int
  | 23 => .array .int
  | 24 => .array .int
  | 25 => .array .int
  | 26 => .array .int
  | 27 => .array .int
  | 28 => .array .int
  | 29 => .array .int
  | 30 => .array .int
  | _ => .int
abbrev zcl : List vw_C := [("DesignReader$Tree", zT0, 8), ("DesignReader$NameTable", zT1, 5), ("DesignReader$Tokens", zT2, 7), ("DesignReader$Parser", zT3, 7), ("DesignReader$Writer", zT4, 6), ("DesignReader", zT5, 7), ("DesignReaderModel", zT6, 32)]
def zfty : List (Nat → FieldType) := [zy0, zy1, zy2, zy3, zy4, zy5, zy6]
def zdf : List (List Value) := [[.null, .null, .null, .null, .null, .null, .null, .int 0], [.null, .null, .null, .null, .int 0], [.null, .null, .null, .null, .int 0, .int 0, .int 0], [.null, .null, .null, .null, .null, .null, .int 0], [.null, .null, .int 0, .null, .int 0, .int 0], [.null, .null, .null, .null, .null, .null, .int 0], [.null, .null, .int 0, .int 0, .null, .int 0, .null, .int 0, .null, .null, .null, .int 0, .int 0, .int 0, .int 0, .null, .null, .null, .null, .null, .null, .int 0, .null, .null, .null, .null, .null, .null, .null, .null, .null, .int 0]]
def zclw : List (Nat × Nat) := [(125, 100), (191, 102), (219, 104), (248, 105), (276, 106), (117, 99), (734, 107)]
def ztys : List FieldType := [.int, .byte, .object "DesignReader$Tree", .object "java/lang/String"]
def ztyw : List Nat := [189, 217]
def zm_D_init : zMth := (⟨"DesignReader", "<init>", "()V"⟩, prog_1_method_1_code, 2, none, "DesignReader", 34, 239145, [120, 119, 99], [
  (0, .aload_n 0, 1, 0, 0, 0, []),
  (1, .invokespecial 1, 3, 1000, 1, 121, []),
  (4, .aload_n 0, 1, 0, 0, 0, []),
  (5, .iconst 2, 1, 0, 0, 0, []),
  (6, .anewarray 9, 3, 2, 0, 124, []),
  (9, .putfield 11, 3, 5, 0, 302, []),
  (12, .iconst 0, 1, 0, 0, 0, []),
  (13, .istore_n 1, 1, 0, 0, 0, []),
  (14, .iload_n 1, 1, 0, 0, 0, []),
  (15, .iconst 2, 1, 0, 0, 0, []),
  (16, .if_icmp .ge (22), 3, 38, 0, 0, []),
  (19, .aload_n 0, 1, 0, 0, 0, []),
  (20, .getfield 11, 3, 5, 0, 302, []),
  (23, .iload_n 1, 1, 0, 0, 0, []),
  (24, .new 9, 3, 0, 0, 124, []),
  (27, .dup, 1, 0, 0, 0, []),
  (28, .invokespecial 15, 3, 51, 1, 126, []),
  (31, .aastore, 1, 2, 0, 0, []),
  (32, .iinc 1 (1), 3, 0, 0, 0, []),
  (35, .goto (-21), 3, 14, 0, 0, []),
  (38, .aload_n 0, 1, 0, 0, 0, []),
  (39, .new 16, 3, 1, 0, 190, []),
  (42, .dup, 1, 0, 0, 0, []),
  (43, .invokespecial 18, 3, 39, 1, 192, []),
  (46, .putfield 19, 3, 5, 1, 303, []),
  (49, .aload_n 0, 1, 0, 0, 0, []),
  (50, .sipush (8000), 3, 0, 0, 0, []),
  (53, .newarray .byte, 2, 1, 0, 0, []),
  (55, .putfield 23, 3, 5, 5, 307, []),
  (58, .aload_n 0, 1, 0, 0, 0, []),
  (59, .new 27, 3, 2, 0, 218, []),
  (62, .dup, 1, 0, 0, 0, []),
  (63, .aload_n 0, 1, 0, 0, 0, []),
  (64, .getfield 23, 3, 5, 5, 307, []),
  (67, .invokespecial 29, 3, 44, 2, 220, []),
  (70, .putfield 32, 3, 5, 2, 304, []),
  (73, .aload_n 0, 1, 0, 0, 0, []),
  (74, .new 36, 3, 3, 0, 247, []),
  (77, .dup, 1, 0, 0, 0, []),
  (78, .aload_n 0, 1, 0, 0, 0, []),
  (79, .getfield 32, 3, 5, 2, 304, []),
  (82, .aload_n 0, 1, 0, 0, 0, []),
  (83, .getfield 19, 3, 5, 1, 303, []),
  (86, .aload_n 0, 1, 0, 0, 0, []),
  (87, .getfield 11, 3, 5, 0, 302, []),
  (90, .iconst 0, 1, 0, 0, 0, []),
  (91, .aaload, 1, 0, 0, 0, []),
  (92, .invokespecial 38, 3, 41, 4, 249, []),
  (95, .putfield 41, 3, 5, 3, 305, []),
  (98, .aload_n 0, 1, 0, 0, 0, []),
  (99, .new 45, 3, 4, 0, 275, []),
  (102, .dup, 1, 0, 0, 0, []),
  (103, .aload_n 0, 1, 0, 0, 0, []),
  (104, .getfield 19, 3, 5, 1, 303, []),
  (107, .invokespecial 47, 3, 57, 2, 277, []),
  (110, .putfield 50, 3, 5, 4, 306, []),
  (113, .return_, 1, 0, 0, 0, [])])
def zm_D_feed : zMth := (⟨"DesignReader", "feed", "(IIIII)I"⟩, prog_1_method_2_code, 6, (some .int), "DesignReader", 0, 0, [327, 325, 99, 326], [
  (0, .aload_n 0, 1, 0, 0, 0, []),
  (1, .getfield 54, 3, 5, 6, 308, []),
  (4, .sipush (7980), 3, 0, 0, 0, []),
  (7, .if_icmp .le (5), 3, 12, 0, 0, []),
  (10, .iconst (-1), 1, 0, 0, 0, []),
  (11, .ireturn, 1, 0, 0, 0, []),
  (12, .aload_n 0, 1, 0, 0, 0, []),
  (13, .iload_n 1, 1, 0, 0, 0, []),
  (14, .invokevirtual 58, 3, 15, 2, 328, []),
  (17, .aload_n 0, 1, 0, 0, 0, []),
  (18, .iload_n 2, 1, 0, 0, 0, []),
  (19, .invokevirtual 58, 3, 15, 2, 328, []),
  (22, .aload_n 0, 1, 0, 0, 0, []),
  (23, .iload_n 3, 1, 0, 0, 0, []),
  (24, .invokevirtual 58, 3, 15, 2, 328, []),
  (27, .aload_n 0, 1, 0, 0, 0, []),
  (28, .iload 4, 2, 0, 0, 0, []),
  (30, .invokevirtual 58, 3, 15, 2, 328, []),
  (33, .aload_n 0, 1, 0, 0, 0, []),
  (34, .iload 5, 2, 0, 0, 0, []),
  (36, .invokevirtual 58, 3, 15, 2, 328, []),
  (39, .aload_n 0, 1, 0, 0, 0, []),
  (40, .getfield 54, 3, 5, 6, 308, []),
  (43, .ireturn, 1, 0, 0, 0, [])])
def zm_D_read : zMth := (⟨"DesignReader", "read", "(II)I"⟩, prog_1_method_3_code, 3, (some .int), "DesignReader", 0, 0, [334, 332, 99, 333], [
  (0, .aload_n 0, 1, 0, 0, 0, []),
  (1, .iload_n 1, 1, 0, 0, 0, []),
  (2, .invokevirtual 62, 3, 13, 2, 335, []),
  (5, .ifCond .eq (16), 3, 21, 0, 0, []),
  (8, .iload_n 2, 1, 0, 0, 0, []),
  (9, .iconst (-1), 1, 0, 0, 0, []),
  (10, .if_icmp .lt (11), 3, 21, 0, 0, []),
  (13, .iload_n 2, 1, 0, 0, 0, []),
  (14, .aload_n 0, 1, 0, 0, 0, []),
  (15, .getfield 54, 3, 5, 6, 308, []),
  (18, .if_icmp .le (6), 3, 24, 0, 0, []),
  (21, .bipush (-2), 2, 0, 0, 0, []),
  (23, .ireturn, 1, 0, 0, 0, []),
  (24, .aload_n 0, 1, 0, 0, 0, []),
  (25, .getfield 32, 3, 5, 2, 304, []),
  (28, .iload_n 2, 1, 0, 0, 0, []),
  (29, .iconst (-1), 1, 0, 0, 0, []),
  (30, .if_icmp .ne (10), 3, 40, 0, 0, []),
  (33, .aload_n 0, 1, 0, 0, 0, []),
  (34, .getfield 54, 3, 5, 6, 308, []),
  (37, .goto (4), 3, 41, 0, 0, []),
  (40, .iload_n 2, 1, 0, 0, 0, []),
  (41, .invokevirtual 66, 3, 45, 2, 338, []),
  (44, .aload_n 0, 1, 0, 0, 0, []),
  (45, .iconst 0, 1, 0, 0, 0, []),
  (46, .putfield 54, 3, 5, 6, 308, []),
  (49, .aload_n 0, 1, 0, 0, 0, []),
  (50, .getfield 41, 3, 5, 3, 305, []),
  (53, .aload_n 0, 1, 0, 0, 0, []),
  (54, .getfield 11, 3, 5, 0, 302, []),
  (57, .iload_n 1, 1, 0, 0, 0, []),
  (58, .aaload, 1, 0, 0, 0, []),
  (59, .invokevirtual 69, 3, 42, 2, 466, []),
  (62, .ireturn, 1, 0, 0, 0, [])])
def zm_D_nodes : zMth := (⟨"DesignReader", "nodes", "(I)I"⟩, prog_1_method_4_code, 2, (some .int), "DesignReader", 0, 0, [603, 601, 99, 602], [
  (0, .aload_n 0, 1, 0, 0, 0, []),
  (1, .iload_n 1, 1, 0, 0, 0, []),
  (2, .invokevirtual 62, 3, 13, 2, 335, []),
  (5, .ifCond .eq (15), 3, 20, 0, 0, []),
  (8, .aload_n 0, 1, 0, 0, 0, []),
  (9, .getfield 11, 3, 5, 0, 302, []),
  (12, .iload_n 1, 1, 0, 0, 0, []),
  (13, .aaload, 1, 0, 0, 0, []),
  (14, .getfield 73, 3, 0, 7, 171, []),
  (17, .goto (4), 3, 21, 0, 0, []),
  (20, .iconst 0, 1, 0, 0, 0, []),
  (21, .ireturn, 1, 0, 0, 0, [])])
def zm_D_node : zMth := (⟨"DesignReader", "node", "(III)I"⟩, prog_1_method_5_code, 5, (some .int), "DesignReader", 0, 0, [607, 605, 99, 606], [
  (0, .aload_n 0, 1, 0, 0, 0, []),
  (1, .iload_n 1, 1, 0, 0, 0, []),
  (2, .iload_n 2, 1, 0, 0, 0, []),
  (3, .invokevirtual 76, 3, 14, 3, 608, []),
  (6, .ifCond .ne (6), 3, 12, 0, 0, []),
  (9, .bipush (-2), 2, 0, 0, 0, []),
  (11, .ireturn, 1, 0, 0, 0, []),
  (12, .aload_n 0, 1, 0, 0, 0, []),
  (13, .getfield 11, 3, 5, 0, 302, []),
  (16, .iload_n 1, 1, 0, 0, 0, []),
  (17, .aaload, 1, 0, 0, 0, []),
  (18, .astore 4, 2, 0, 0, 0, []),
  (20, .iload_n 3, 1, 0, 0, 0, []),
  (21, .tableswitch (75) 0 4 #[35, 43, 51, 59, 67], 35, 96, 0, 0, [(0, 56), (1, 64), (2, 72), (3, 80), (4, 88)]),
  (56, .aload 4, 2, 0, 0, 0, []),
  (58, .getfield 80, 3, 0, 0, 150, []),
  (61, .iload_n 2, 1, 0, 0, 0, []),
  (62, .iaload, 1, 0, 0, 0, []),
  (63, .ireturn, 1, 0, 0, 0, []),
  (64, .aload 4, 2, 0, 0, 0, []),
  (66, .getfield 84, 3, 0, 1, 153, []),
  (69, .iload_n 2, 1, 0, 0, 0, []),
  (70, .iaload, 1, 0, 0, 0, []),
  (71, .ireturn, 1, 0, 0, 0, []),
  (72, .aload 4, 2, 0, 0, 0, []),
  (74, .getfield 87, 3, 0, 2, 157, []),
  (77, .iload_n 2, 1, 0, 0, 0, []),
  (78, .iaload, 1, 0, 0, 0, []),
  (79, .ireturn, 1, 0, 0, 0, []),
  (80, .aload 4, 2, 0, 0, 0, []),
  (82, .getfield 90, 3, 0, 3, 160, []),
  (85, .iload_n 2, 1, 0, 0, 0, []),
  (86, .iaload, 1, 0, 0, 0, []),
  (87, .ireturn, 1, 0, 0, 0, []),
  (88, .aload 4, 2, 0, 0, 0, []),
  (90, .getfield 93, 3, 0, 4, 163, []),
  (93, .iload_n 2, 1, 0, 0, 0, []),
  (94, .iaload, 1, 0, 0, 0, []),
  (95, .ireturn, 1, 0, 0, 0, []),
  (96, .bipush (-2), 2, 0, 0, 0, []),
  (98, .ireturn, 1, 0, 0, 0, [])])
def zm_D_part : zMth := (⟨"DesignReader", "part", "(III)I"⟩, prog_1_method_6_code, 4, (some .int), "DesignReader", 0, 0, [614, 612, 99, 613], [
  (0, .aload_n 0, 1, 0, 0, 0, []),
  (1, .iload_n 1, 1, 0, 0, 0, []),
  (2, .iload_n 2, 1, 0, 0, 0, []),
  (3, .invokevirtual 76, 3, 14, 3, 608, []),
  (6, .ifCond .eq (17), 3, 23, 0, 0, []),
  (9, .aload_n 0, 1, 0, 0, 0, []),
  (10, .getfield 11, 3, 5, 0, 302, []),
  (13, .iload_n 1, 1, 0, 0, 0, []),
  (14, .aaload, 1, 0, 0, 0, []),
  (15, .iload_n 2, 1, 0, 0, 0, []),
  (16, .iload_n 3, 1, 0, 0, 0, []),
  (17, .invokevirtual 96, 3, 55, 3, 615, []),
  (20, .goto (4), 3, 24, 0, 0, []),
  (23, .iconst (-1), 1, 0, 0, 0, []),
  (24, .ireturn, 1, 0, 0, 0, [])])
def zm_D_whole : zMth := (⟨"DesignReader", "whole", "(II)I"⟩, prog_1_method_7_code, 3, (some .int), "DesignReader", 0, 0, [622, 620, 99, 621], [
  (0, .aload_n 0, 1, 0, 0, 0, []),
  (1, .iload_n 1, 1, 0, 0, 0, []),
  (2, .iload_n 2, 1, 0, 0, 0, []),
  (3, .invokevirtual 76, 3, 14, 3, 608, []),
  (6, .ifCond .eq (17), 3, 23, 0, 0, []),
  (9, .aload_n 0, 1, 0, 0, 0, []),
  (10, .getfield 11, 3, 5, 0, 302, []),
  (13, .iload_n 1, 1, 0, 0, 0, []),
  (14, .aaload, 1, 0, 0, 0, []),
  (15, .getfield 100, 3, 0, 5, 166, []),
  (18, .iload_n 2, 1, 0, 0, 0, []),
  (19, .iaload, 1, 0, 0, 0, []),
  (20, .goto (4), 3, 24, 0, 0, []),
  (23, .iconst (-1), 1, 0, 0, 0, []),
  (24, .ireturn, 1, 0, 0, 0, [])])
def zm_D_names : zMth := (⟨"DesignReader", "names", "()I"⟩, prog_1_method_8_code, 1, (some .int), "DesignReader", 0, 0, [626, 624, 99, 625], [
  (0, .aload_n 0, 1, 0, 0, 0, []),
  (1, .getfield 19, 3, 5, 1, 303, []),
  (4, .getfield 103, 3, 1, 4, 205, []),
  (7, .ireturn, 1, 0, 0, 0, [])])
def zm_D_spelt : zMth := (⟨"DesignReader", "spelt", "(II)I"⟩, prog_1_method_9_code, 3, (some .int), "DesignReader", 0, 0, [630, 628, 99, 629], [
  (0, .aload_n 0, 1, 0, 0, 0, []),
  (1, .getfield 19, 3, 5, 1, 303, []),
  (4, .iload_n 1, 1, 0, 0, 0, []),
  (5, .iload_n 2, 1, 0, 0, 0, []),
  (6, .invokevirtual 104, 3, 40, 3, 631, []),
  (9, .ireturn, 1, 0, 0, 0, [])])
def zm_D_write : zMth := (⟨"DesignReader", "write", "(II)I"⟩, prog_1_method_10_code, 3, (some .int), "DesignReader", 0, 0, [638, 636, 99, 637], [
  (0, .aload_n 0, 1, 0, 0, 0, []),
  (1, .iload_n 1, 1, 0, 0, 0, []),
  (2, .iload_n 2, 1, 0, 0, 0, []),
  (3, .invokevirtual 76, 3, 14, 3, 608, []),
  (6, .ifCond .eq (20), 3, 26, 0, 0, []),
  (9, .aload_n 0, 1, 0, 0, 0, []),
  (10, .getfield 50, 3, 5, 4, 306, []),
  (13, .aload_n 0, 1, 0, 0, 0, []),
  (14, .getfield 11, 3, 5, 0, 302, []),
  (17, .iload_n 1, 1, 0, 0, 0, []),
  (18, .aaload, 1, 0, 0, 0, []),
  (19, .iload_n 2, 1, 0, 0, 0, []),
  (20, .invokevirtual 107, 3, 58, 3, 639, []),
  (23, .goto (4), 3, 27, 0, 0, []),
  (26, .iconst (-1), 1, 0, 0, 0, []),
  (27, .ireturn, 1, 0, 0, 0, [])])
def zm_D_written : zMth := (⟨"DesignReader", "written", "(I)I"⟩, prog_1_method_11_code, 2, (some .int), "DesignReader", 0, 0, [719, 717, 99, 718], [
  (0, .iload_n 1, 1, 0, 0, 0, []),
  (1, .ifCond .lt (26), 3, 27, 0, 0, []),
  (4, .iload_n 1, 1, 0, 0, 0, []),
  (5, .aload_n 0, 1, 0, 0, 0, []),
  (6, .getfield 50, 3, 5, 4, 306, []),
  (9, .getfield 111, 3, 4, 2, 285, []),
  (12, .if_icmp .ge (15), 3, 27, 0, 0, []),
  (15, .aload_n 0, 1, 0, 0, 0, []),
  (16, .getfield 50, 3, 5, 4, 306, []),
  (19, .getfield 114, 3, 4, 1, 283, []),
  (22, .iload_n 1, 1, 0, 0, 0, []),
  (23, .baload, 1, 0, 0, 0, []),
  (24, .goto (4), 3, 28, 0, 0, []),
  (27, .iconst (-1), 1, 0, 0, 0, []),
  (28, .ireturn, 1, 0, 0, 0, [])])
def zm_D_again : zMth := (⟨"DesignReader", "again", "()I"⟩, prog_1_method_12_code, 1, (some .int), "DesignReader", 0, 0, [723, 721, 99, 722], [
  (0, .aload_n 0, 1, 0, 0, 0, []),
  (1, .getfield 50, 3, 5, 4, 306, []),
  (4, .getfield 114, 3, 4, 1, 283, []),
  (7, .iconst 0, 1, 0, 0, 0, []),
  (8, .aload_n 0, 1, 0, 0, 0, []),
  (9, .getfield 23, 3, 5, 5, 307, []),
  (12, .iconst 0, 1, 0, 0, 0, []),
  (13, .aload_n 0, 1, 0, 0, 0, []),
  (14, .getfield 50, 3, 5, 4, 306, []),
  (17, .getfield 111, 3, 4, 2, 285, []),
  (20, .invokestatic 117, 3, 1004, 5, 724, []),
  (23, .aload_n 0, 1, 0, 0, 0, []),
  (24, .aload_n 0, 1, 0, 0, 0, []),
  (25, .getfield 50, 3, 5, 4, 306, []),
  (28, .getfield 111, 3, 4, 2, 285, []),
  (31, .putfield 54, 3, 5, 6, 308, []),
  (34, .aload_n 0, 1, 0, 0, 0, []),
  (35, .getfield 54, 3, 5, 6, 308, []),
  (38, .ireturn, 1, 0, 0, 0, [])])
def zm_D_same : zMth := (⟨"DesignReader", "same", "()Z"⟩, prog_1_method_13_code, 1, (some .boolean), "DesignReader", 0, 0, [728, 726, 99, 727], [
  (0, .aload_n 0, 1, 0, 0, 0, []),
  (1, .getfield 11, 3, 5, 0, 302, []),
  (4, .iconst 0, 1, 0, 0, 0, []),
  (5, .aaload, 1, 0, 0, 0, []),
  (6, .aload_n 0, 1, 0, 0, 0, []),
  (7, .getfield 11, 3, 5, 0, 302, []),
  (10, .iconst 1, 1, 0, 0, 0, []),
  (11, .aaload, 1, 0, 0, 0, []),
  (12, .invokevirtual 123, 3, 56, 2, 729, []),
  (15, .ireturn, 1, 1, 0, 0, [])])
def zm_D_isTree : zMth := (⟨"DesignReader", "isTree", "(I)Z"⟩, prog_1_method_14_code, 2, (some .boolean), "DesignReader", 0, 0, [337, 336, 99, 1], [
  (0, .iload_n 1, 1, 0, 0, 0, []),
  (1, .ifCond .lt (12), 3, 13, 0, 0, []),
  (4, .iload_n 1, 1, 0, 0, 0, []),
  (5, .iconst 2, 1, 0, 0, 0, []),
  (6, .if_icmp .ge (7), 3, 13, 0, 0, []),
  (9, .iconst 1, 1, 0, 0, 0, []),
  (10, .goto (4), 3, 14, 0, 0, []),
  (13, .iconst 0, 1, 0, 0, 0, []),
  (14, .ireturn, 1, 1, 0, 0, [])])
def zm_D_isNode : zMth := (⟨"DesignReader", "isNode", "(II)Z"⟩, prog_1_method_15_code, 3, (some .boolean), "DesignReader", 0, 0, [610, 609, 99, 36], [
  (0, .aload_n 0, 1, 0, 0, 0, []),
  (1, .iload_n 1, 1, 0, 0, 0, []),
  (2, .invokevirtual 62, 3, 13, 2, 335, []),
  (5, .ifCond .eq (24), 3, 29, 0, 0, []),
  (8, .iload_n 2, 1, 0, 0, 0, []),
  (9, .ifCond .lt (20), 3, 29, 0, 0, []),
  (12, .iload_n 2, 1, 0, 0, 0, []),
  (13, .aload_n 0, 1, 0, 0, 0, []),
  (14, .getfield 11, 3, 5, 0, 302, []),
  (17, .iload_n 1, 1, 0, 0, 0, []),
  (18, .aaload, 1, 0, 0, 0, []),
  (19, .getfield 73, 3, 0, 7, 171, []),
  (22, .if_icmp .ge (7), 3, 29, 0, 0, []),
  (25, .iconst 1, 1, 0, 0, 0, []),
  (26, .goto (4), 3, 30, 0, 0, []),
  (29, .iconst 0, 1, 0, 0, 0, []),
  (30, .ireturn, 1, 1, 0, 0, [])])
def zm_D_appendFour : zMth := (⟨"DesignReader", "appendFour", "(I)V"⟩, prog_1_method_16_code, 3, none, "DesignReader", 0, 0, [330, 329, 99, 0], [
  (0, .bipush (24), 2, 0, 0, 0, []),
  (2, .istore_n 2, 1, 0, 0, 0, []),
  (3, .iload_n 2, 1, 0, 0, 0, []),
  (4, .ifCond .lt (42), 3, 46, 0, 0, []),
  (7, .aload_n 0, 1, 0, 0, 0, []),
  (8, .getfield 54, 3, 5, 6, 308, []),
  (11, .sipush (8000), 3, 0, 0, 0, []),
  (14, .if_icmp .ge (32), 3, 46, 0, 0, []),
  (17, .aload_n 0, 1, 0, 0, 0, []),
  (18, .getfield 23, 3, 5, 5, 307, []),
  (21, .aload_n 0, 1, 0, 0, 0, []),
  (22, .getfield 54, 3, 5, 6, 308, []),
  (25, .iload_n 1, 1, 0, 0, 0, []),
  (26, .iload_n 2, 1, 0, 0, 0, []),
  (27, .ishr, 1, 0, 0, 0, []),
  (28, .i2b, 1, 0, 0, 0, []),
  (29, .bastore, 1, 0, 0, 0, []),
  (30, .aload_n 0, 1, 0, 0, 0, []),
  (31, .dup, 1, 0, 0, 0, []),
  (32, .getfield 54, 3, 5, 6, 308, []),
  (35, .iconst 1, 1, 0, 0, 0, []),
  (36, .iadd, 1, 0, 0, 0, []),
  (37, .putfield 54, 3, 5, 6, 308, []),
  (40, .iinc 2 (-8), 3, 0, 0, 0, []),
  (43, .goto (-40), 3, 3, 0, 0, []),
  (46, .return_, 1, 0, 0, 0, [])])
def zm_R_init : zMth := (⟨"DesignReaderModel", "<init>", "()V"⟩, prog_10_method_1_code, 1, none, "DesignReaderModel", 22, 360348, [737, 736, 107], [
  (0, .aload_n 0, 1, 0, 0, 0, []),
  (1, .invokespecial 1, 3, 1000, 1, 738, []),
  (4, .aload_n 0, 1, 0, 0, 0, []),
  (5, .sipush (8000), 3, 0, 0, 0, []),
  (8, .newarray .int, 2, 0, 0, 0, []),
  (10, .putfield 9, 3, 6, 1, 747, []),
  (13, .aload_n 0, 1, 0, 0, 0, []),
  (14, .sipush (8000), 3, 0, 0, 0, []),
  (17, .newarray .int, 2, 0, 0, 0, []),
  (19, .putfield 13, 3, 6, 4, 750, []),
  (22, .aload_n 0, 1, 0, 0, 0, []),
  (23, .sipush (8001), 3, 0, 0, 0, []),
  (26, .newarray .int, 2, 0, 0, 0, []),
  (28, .putfield 16, 3, 6, 6, 752, []),
  (31, .aload_n 0, 1, 0, 0, 0, []),
  (32, .sipush (8002), 3, 0, 0, 0, []),
  (35, .newarray .int, 2, 0, 0, 0, []),
  (37, .putfield 19, 3, 6, 8, 754, []),
  (40, .aload_n 0, 1, 0, 0, 0, []),
  (41, .sipush (8002), 3, 0, 0, 0, []),
  (44, .newarray .int, 2, 0, 0, 0, []),
  (46, .putfield 22, 3, 6, 9, 755, []),
  (49, .aload_n 0, 1, 0, 0, 0, []),
  (50, .sipush (8002), 3, 0, 0, 0, []),
  (53, .newarray .int, 2, 0, 0, 0, []),
  (55, .putfield 25, 3, 6, 10, 756, []),
  (58, .aload_n 0, 1, 0, 0, 0, []),
  (59, .iconst (-1), 1, 0, 0, 0, []),
  (60, .putfield 28, 3, 6, 14, 760, []),
  (63, .aload_n 0, 1, 0, 0, 0, []),
  (64, .sipush (26000), 3, 0, 0, 0, []),
  (67, .newarray .int, 2, 0, 0, 0, []),
  (69, .putfield 32, 3, 6, 15, 761, []),
  (72, .aload_n 0, 1, 0, 0, 0, []),
  (73, .sipush (26000), 3, 0, 0, 0, []),
  (76, .newarray .int, 2, 0, 0, 0, []),
  (78, .putfield 35, 3, 6, 16, 762, []),
  (81, .aload_n 0, 1, 0, 0, 0, []),
  (82, .sipush (26000), 3, 0, 0, 0, []),
  (85, .newarray .int, 2, 0, 0, 0, []),
  (87, .putfield 38, 3, 6, 17, 763, []),
  (90, .aload_n 0, 1, 0, 0, 0, []),
  (91, .sipush (26000), 3, 0, 0, 0, []),
  (94, .newarray .int, 2, 0, 0, 0, []),
  (96, .putfield 41, 3, 6, 18, 764, []),
  (99, .aload_n 0, 1, 0, 0, 0, []),
  (100, .sipush (26000), 3, 0, 0, 0, []),
  (103, .newarray .int, 2, 0, 0, 0, []),
  (105, .putfield 44, 3, 6, 19, 765, []),
  (108, .aload_n 0, 1, 0, 0, 0, []),
  (109, .sipush (26000), 3, 0, 0, 0, []),
  (112, .newarray .int, 2, 0, 0, 0, []),
  (114, .putfield 47, 3, 6, 20, 766, []),
  (117, .aload_n 0, 1, 0, 0, 0, []),
  (118, .sipush (26000), 3, 0, 0, 0, []),
  (121, .newarray .int, 2, 0, 0, 0, []),
  (123, .putfield 50, 3, 6, 22, 768, []),
  (126, .aload_n 0, 1, 0, 0, 0, []),
  (127, .sipush (26000), 3, 0, 0, 0, []),
  (130, .newarray .int, 2, 0, 0, 0, []),
  (132, .putfield 53, 3, 6, 23, 769, []),
  (135, .aload_n 0, 1, 0, 0, 0, []),
  (136, .sipush (26000), 3, 0, 0, 0, []),
  (139, .newarray .int, 2, 0, 0, 0, []),
  (141, .putfield 56, 3, 6, 24, 770, []),
  (144, .aload_n 0, 1, 0, 0, 0, []),
  (145, .sipush (26000), 3, 0, 0, 0, []),
  (148, .newarray .int, 2, 0, 0, 0, []),
  (150, .putfield 59, 3, 6, 25, 771, []),
  (153, .aload_n 0, 1, 0, 0, 0, []),
  (154, .sipush (26000), 3, 0, 0, 0, []),
  (157, .newarray .int, 2, 0, 0, 0, []),
  (159, .putfield 62, 3, 6, 26, 772, []),
  (162, .aload_n 0, 1, 0, 0, 0, []),
  (163, .sipush (26000), 3, 0, 0, 0, []),
  (166, .newarray .int, 2, 0, 0, 0, []),
  (168, .putfield 65, 3, 6, 27, 773, []),
  (171, .aload_n 0, 1, 0, 0, 0, []),
  (172, .iconst 2, 1, 0, 0, 0, []),
  (173, .newarray .int, 2, 0, 0, 0, []),
  (175, .putfield 68, 3, 6, 28, 774, []),
  (178, .aload_n 0, 1, 0, 0, 0, []),
  (179, .sipush (256), 3, 0, 0, 0, []),
  (182, .newarray .int, 2, 0, 0, 0, []),
  (184, .putfield 71, 3, 6, 29, 775, []),
  (187, .aload_n 0, 1, 0, 0, 0, []),
  (188, .bipush (64), 2, 0, 0, 0, []),
  (190, .newarray .int, 2, 0, 0, 0, []),
  (192, .putfield 74, 3, 6, 30, 776, []),
  (195, .aload_n 0, 1, 0, 0, 0, []),
  (196, .bipush (19), 2, 0, 0, 0, []),
  (198, .anewarray 77, 3, 3, 0, 739, []),
  (201, .dup, 1, 0, 0, 0, []),
  (202, .iconst 0, 1, 0, 0, 0, []),
  (203, .ldc 79, 2, 0, 0, 0, []),
  (205, .aastore, 1, 3, 400, 0, []),
  (206, .dup, 1, 0, 0, 0, []),
  (207, .iconst 1, 1, 0, 0, 0, []),
  (208, .ldc 81, 2, 1, 0, 0, []),
  (210, .aastore, 1, 3, 400, 0, []),
  (211, .dup, 1, 0, 0, 0, []),
  (212, .iconst 2, 1, 0, 0, 0, []),
  (213, .ldc 83, 2, 2, 0, 0, []),
  (215, .aastore, 1, 3, 400, 0, []),
  (216, .dup, 1, 0, 0, 0, []),
  (217, .iconst 3, 1, 0, 0, 0, []),
  (218, .ldc 85, 2, 3, 0, 0, []),
  (220, .aastore, 1, 3, 400, 0, []),
  (221, .dup, 1, 0, 0, 0, []),
  (222, .iconst 4, 1, 0, 0, 0, []),
  (223, .ldc 87, 2, 4, 0, 0, []),
  (225, .aastore, 1, 3, 400, 0, []),
  (226, .dup, 1, 0, 0, 0, []),
  (227, .iconst 5, 1, 0, 0, 0, []),
  (228, .ldc 89, 2, 5, 0, 0, []),
  (230, .aastore, 1, 3, 400, 0, []),
  (231, .dup, 1, 0, 0, 0, []),
  (232, .bipush (6), 2, 0, 0, 0, []),
  (234, .ldc 91, 2, 6, 0, 0, []),
  (236, .aastore, 1, 3, 400, 0, []),
  (237, .dup, 1, 0, 0, 0, []),
  (238, .bipush (7), 2, 0, 0, 0, []),
  (240, .ldc 93, 2, 7, 0, 0, []),
  (242, .aastore, 1, 3, 400, 0, []),
  (243, .dup, 1, 0, 0, 0, []),
  (244, .bipush (8), 2, 0, 0, 0, []),
  (246, .ldc 94, 2, 8, 0, 0, []),
  (248, .aastore, 1, 3, 400, 0, []),
  (249, .dup, 1, 0, 0, 0, []),
  (250, .bipush (9), 2, 0, 0, 0, []),
  (252, .ldc 96, 2, 9, 0, 0, []),
  (254, .aastore, 1, 3, 400, 0, []),
  (255, .dup, 1, 0, 0, 0, []),
  (256, .bipush (10), 2, 0, 0, 0, []),
  (258, .ldc 98, 2, 10, 0, 0, []),
  (260, .aastore, 1, 3, 400, 0, []),
  (261, .dup, 1, 0, 0, 0, []),
  (262, .bipush (11), 2, 0, 0, 0, []),
  (264, .ldc 100, 2, 11, 0, 0, []),
  (266, .aastore, 1, 3, 400, 0, []),
  (267, .dup, 1, 0, 0, 0, []),
  (268, .bipush (12), 2, 0, 0, 0, []),
  (270, .ldc 102, 2, 12, 0, 0, []),
  (272, .aastore, 1, 3, 400, 0, []),
  (273, .dup, 1, 0, 0, 0, []),
  (274, .bipush (13), 2, 0, 0, 0, []),
  (276, .ldc 104, 2, 13, 0, 0, []),
  (278, .aastore, 1, 3, 400, 0, []),
  (279, .dup, 1, 0, 0, 0, []),
  (280, .bipush (14), 2, 0, 0, 0, []),
  (282, .ldc 106, 2, 14, 0, 0, []),
  (284, .aastore, 1, 3, 400, 0, []),
  (285, .dup, 1, 0, 0, 0, []),
  (286, .bipush (15), 2, 0, 0, 0, []),
  (288, .ldc 108, 2, 15, 0, 0, []),
  (290, .aastore, 1, 3, 400, 0, []),
  (291, .dup, 1, 0, 0, 0, []),
  (292, .bipush (16), 2, 0, 0, 0, []),
  (294, .ldc 110, 2, 16, 0, 0, []),
  (296, .aastore, 1, 3, 400, 0, []),
  (297, .dup, 1, 0, 0, 0, []),
  (298, .bipush (17), 2, 0, 0, 0, []),
  (300, .ldc 112, 2, 17, 0, 0, []),
  (302, .aastore, 1, 3, 400, 0, []),
  (303, .dup, 1, 0, 0, 0, []),
  (304, .bipush (18), 2, 0, 0, 0, []),
  (306, .ldc 114, 2, 18, 0, 0, []),
  (308, .aastore, 1, 3, 400, 0, []),
  (309, .putfield 116, 3, 6, 0, 746, []),
  (312, .aload_n 0, 1, 0, 0, 0, []),
  (313, .iconst 0, 1, 0, 0, 0, []),
  (314, .invokevirtual 120, 3, 17, 2, 740, []),
  (317, .aload_n 0, 1, 0, 0, 0, []),
  (318, .iconst 1, 1, 0, 0, 0, []),
  (319, .invokevirtual 120, 3, 17, 2, 740, []),
  (322, .return_, 1, 0, 0, 0, [])])
def zm_R_clear : zMth := (⟨"DesignReaderModel", "clear", "(I)V"⟩, prog_10_method_3_code, 2, none, "DesignReaderModel", 0, 0, [742, 741, 107, 44], [
  (0, .aload_n 0, 1, 0, 0, 0, []),
  (1, .getfield 68, 3, 6, 28, 774, []),
  (4, .iload_n 1, 1, 0, 0, 0, []),
  (5, .iconst 0, 1, 0, 0, 0, []),
  (6, .iastore, 1, 0, 0, 0, []),
  (7, .aload_n 0, 1, 0, 0, 0, []),
  (8, .iload_n 1, 1, 0, 0, 0, []),
  (9, .iconst 0, 1, 0, 0, 0, []),
  (10, .iconst (-1), 1, 0, 0, 0, []),
  (11, .iconst 0, 1, 0, 0, 0, []),
  (12, .iconst (-1), 1, 0, 0, 0, []),
  (13, .invokevirtual 130, 3, 18, 6, 743, []),
  (16, .pop, 1, 0, 0, 0, []),
  (17, .return_, 1, 0, 0, 0, [])])
def zm_R_add : zMth := (⟨"DesignReaderModel", "add", "(IIIII)I"⟩, prog_10_method_4_code, 8, (some .int), "DesignReaderModel", 0, 0, [745, 744, 107, 45], [
  (0, .sipush (13000), 3, 0, 0, 0, []),
  (3, .iload_n 1, 1, 0, 0, 0, []),
  (4, .imul, 1, 0, 0, 0, []),
  (5, .aload_n 0, 1, 0, 0, 0, []),
  (6, .getfield 68, 3, 6, 28, 774, []),
  (9, .iload_n 1, 1, 0, 0, 0, []),
  (10, .iaload, 1, 0, 0, 0, []),
  (11, .iadd, 1, 0, 0, 0, []),
  (12, .istore 6, 2, 0, 0, 0, []),
  (14, .aload_n 0, 1, 0, 0, 0, []),
  (15, .getfield 53, 3, 6, 23, 769, []),
  (18, .iload 6, 2, 0, 0, 0, []),
  (20, .iload_n 2, 1, 0, 0, 0, []),
  (21, .iastore, 1, 0, 0, 0, []),
  (22, .aload_n 0, 1, 0, 0, 0, []),
  (23, .getfield 56, 3, 6, 24, 770, []),
  (26, .iload 6, 2, 0, 0, 0, []),
  (28, .iload_n 3, 1, 0, 0, 0, []),
  (29, .iastore, 1, 0, 0, 0, []),
  (30, .aload_n 0, 1, 0, 0, 0, []),
  (31, .getfield 59, 3, 6, 25, 771, []),
  (34, .iload 6, 2, 0, 0, 0, []),
  (36, .iload 4, 2, 0, 0, 0, []),
  (38, .iastore, 1, 0, 0, 0, []),
  (39, .aload_n 0, 1, 0, 0, 0, []),
  (40, .getfield 62, 3, 6, 26, 772, []),
  (43, .iload 6, 2, 0, 0, 0, []),
  (45, .iload 5, 2, 0, 0, 0, []),
  (47, .iastore, 1, 0, 0, 0, []),
  (48, .aload_n 0, 1, 0, 0, 0, []),
  (49, .getfield 65, 3, 6, 27, 773, []),
  (52, .iload 6, 2, 0, 0, 0, []),
  (54, .iconst 1, 1, 0, 0, 0, []),
  (55, .iastore, 1, 0, 0, 0, []),
  (56, .iload 5, 2, 0, 0, 0, []),
  (58, .istore 7, 2, 0, 0, 0, []),
  (60, .iload 7, 2, 0, 0, 0, []),
  (62, .iconst (-1), 1, 0, 0, 0, []),
  (63, .if_icmp .eq (38), 3, 101, 0, 0, []),
  (66, .aload_n 0, 1, 0, 0, 0, []),
  (67, .getfield 65, 3, 6, 27, 773, []),
  (70, .sipush (13000), 3, 0, 0, 0, []),
  (73, .iload_n 1, 1, 0, 0, 0, []),
  (74, .imul, 1, 0, 0, 0, []),
  (75, .iload 7, 2, 0, 0, 0, []),
  (77, .iadd, 1, 0, 0, 0, []),
  (78, .dup2, 1, 0, 0, 0, []),
  (79, .iaload, 1, 0, 0, 0, []),
  (80, .iconst 1, 1, 0, 0, 0, []),
  (81, .iadd, 1, 0, 0, 0, []),
  (82, .iastore, 1, 0, 0, 0, []),
  (83, .aload_n 0, 1, 0, 0, 0, []),
  (84, .getfield 62, 3, 6, 26, 772, []),
  (87, .sipush (13000), 3, 0, 0, 0, []),
  (90, .iload_n 1, 1, 0, 0, 0, []),
  (91, .imul, 1, 0, 0, 0, []),
  (92, .iload 7, 2, 0, 0, 0, []),
  (94, .iadd, 1, 0, 0, 0, []),
  (95, .iaload, 1, 0, 0, 0, []),
  (96, .istore 7, 2, 0, 0, 0, []),
  (98, .goto (-38), 3, 60, 0, 0, []),
  (101, .aload_n 0, 1, 0, 0, 0, []),
  (102, .getfield 68, 3, 6, 28, 774, []),
  (105, .iload_n 1, 1, 0, 0, 0, []),
  (106, .dup2, 1, 0, 0, 0, []),
  (107, .iaload, 1, 0, 0, 0, []),
  (108, .iconst 1, 1, 0, 0, 0, []),
  (109, .iadd, 1, 0, 0, 0, []),
  (110, .iastore, 1, 0, 0, 0, []),
  (111, .aload_n 0, 1, 0, 0, 0, []),
  (112, .getfield 68, 3, 6, 28, 774, []),
  (115, .iload_n 1, 1, 0, 0, 0, []),
  (116, .iaload, 1, 0, 0, 0, []),
  (117, .iconst 1, 1, 0, 0, 0, []),
  (118, .isub, 1, 0, 0, 0, []),
  (119, .ireturn, 1, 0, 0, 0, [])])
def zm_R_feed : zMth := (⟨"DesignReaderModel", "feed", "(IIIII)I"⟩, prog_10_method_5_code, 8, (some .int), "DesignReaderModel", 0, 0, [846, 844, 107, 845], [
  (0, .aload_n 0, 1, 0, 0, 0, []),
  (1, .getfield 134, 3, 6, 2, 748, []),
  (4, .bipush (20), 2, 0, 0, 0, []),
  (6, .iadd, 1, 0, 0, 0, []),
  (7, .sipush (8000), 3, 0, 0, 0, []),
  (10, .if_icmp .le (5), 3, 15, 0, 0, []),
  (13, .iconst (-1), 1, 0, 0, 0, []),
  (14, .ireturn, 1, 0, 0, 0, []),
  (15, .iconst 0, 1, 0, 0, 0, []),
  (16, .istore 6, 2, 0, 0, 0, []),
  (18, .iload 6, 2, 0, 0, 0, []),
  (20, .bipush (20), 2, 0, 0, 0, []),
  (22, .if_icmp .ge (93), 3, 115, 0, 0, []),
  (25, .iload 6, 2, 0, 0, 0, []),
  (27, .iconst 4, 1, 0, 0, 0, []),
  (28, .if_icmp .ge (7), 3, 35, 0, 0, []),
  (31, .iload_n 1, 1, 0, 0, 0, []),
  (32, .goto (39), 3, 71, 0, 0, []),
  (35, .iload 6, 2, 0, 0, 0, []),
  (37, .bipush (8), 2, 0, 0, 0, []),
  (39, .if_icmp .ge (7), 3, 46, 0, 0, []),
  (42, .iload_n 2, 1, 0, 0, 0, []),
  (43, .goto (28), 3, 71, 0, 0, []),
  (46, .iload 6, 2, 0, 0, 0, []),
  (48, .bipush (12), 2, 0, 0, 0, []),
  (50, .if_icmp .ge (7), 3, 57, 0, 0, []),
  (53, .iload_n 3, 1, 0, 0, 0, []),
  (54, .goto (17), 3, 71, 0, 0, []),
  (57, .iload 6, 2, 0, 0, 0, []),
  (59, .bipush (16), 2, 0, 0, 0, []),
  (61, .if_icmp .ge (8), 3, 69, 0, 0, []),
  (64, .iload 4, 2, 0, 0, 0, []),
  (66, .goto (5), 3, 71, 0, 0, []),
  (69, .iload 5, 2, 0, 0, 0, []),
  (71, .istore 7, 2, 0, 0, 0, []),
  (73, .aload_n 0, 1, 0, 0, 0, []),
  (74, .getfield 9, 3, 6, 1, 747, []),
  (77, .aload_n 0, 1, 0, 0, 0, []),
  (78, .getfield 134, 3, 6, 2, 748, []),
  (81, .iload 7, 2, 0, 0, 0, []),
  (83, .bipush (24), 2, 0, 0, 0, []),
  (85, .bipush (8), 2, 0, 0, 0, []),
  (87, .iload 6, 2, 0, 0, 0, []),
  (89, .iconst 4, 1, 0, 0, 0, []),
  (90, .irem, 1, 0, 0, 0, []),
  (91, .imul, 1, 0, 0, 0, []),
  (92, .isub, 1, 0, 0, 0, []),
  (93, .ishr, 1, 0, 0, 0, []),
  (94, .sipush (255), 3, 0, 0, 0, []),
  (97, .iand, 1, 0, 0, 0, []),
  (98, .iastore, 1, 0, 0, 0, []),
  (99, .aload_n 0, 1, 0, 0, 0, []),
  (100, .dup, 1, 0, 0, 0, []),
  (101, .getfield 134, 3, 6, 2, 748, []),
  (104, .iconst 1, 1, 0, 0, 0, []),
  (105, .iadd, 1, 0, 0, 0, []),
  (106, .putfield 134, 3, 6, 2, 748, []),
  (109, .iinc 6 (1), 3, 0, 0, 0, []),
  (112, .goto (-94), 3, 18, 0, 0, []),
  (115, .aload_n 0, 1, 0, 0, 0, []),
  (116, .getfield 134, 3, 6, 2, 748, []),
  (119, .ireturn, 1, 0, 0, 0, [])])
def zm_R_behindBlanks : zMth := (⟨"DesignReaderModel", "behindBlanks", "(I)I"⟩, prog_10_method_10_code, 5, (some .int), "DesignReaderModel", 0, 0, [856, 855, 107, 47], [
  (0, .iload_n 1, 1, 0, 0, 0, []),
  (1, .istore_n 2, 1, 0, 0, 0, []),
  (2, .iconst 1, 1, 0, 0, 0, []),
  (3, .istore_n 3, 1, 0, 0, 0, []),
  (4, .iload_n 3, 1, 0, 0, 0, []),
  (5, .ifCond .eq (95), 3, 100, 0, 0, []),
  (8, .iload_n 2, 1, 0, 0, 0, []),
  (9, .aload_n 0, 1, 0, 0, 0, []),
  (10, .getfield 137, 3, 6, 3, 749, []),
  (13, .if_icmp .ge (87), 3, 100, 0, 0, []),
  (16, .aload_n 0, 1, 0, 0, 0, []),
  (17, .getfield 9, 3, 6, 1, 747, []),
  (20, .iload_n 2, 1, 0, 0, 0, []),
  (21, .iaload, 1, 0, 0, 0, []),
  (22, .istore 4, 2, 0, 0, 0, []),
  (24, .iload 4, 2, 0, 0, 0, []),
  (26, .bipush (9), 2, 0, 0, 0, []),
  (28, .if_icmp .eq (24), 3, 52, 0, 0, []),
  (31, .iload 4, 2, 0, 0, 0, []),
  (33, .bipush (10), 2, 0, 0, 0, []),
  (35, .if_icmp .eq (17), 3, 52, 0, 0, []),
  (38, .iload 4, 2, 0, 0, 0, []),
  (40, .bipush (13), 2, 0, 0, 0, []),
  (42, .if_icmp .eq (10), 3, 52, 0, 0, []),
  (45, .iload 4, 2, 0, 0, 0, []),
  (47, .bipush (32), 2, 0, 0, 0, []),
  (49, .if_icmp .ne (9), 3, 58, 0, 0, []),
  (52, .iinc 2 (1), 3, 0, 0, 0, []),
  (55, .goto (42), 3, 97, 0, 0, []),
  (58, .aload_n 0, 1, 0, 0, 0, []),
  (59, .iload_n 2, 1, 0, 0, 0, []),
  (60, .bipush (47), 2, 0, 0, 0, []),
  (62, .bipush (47), 2, 0, 0, 0, []),
  (64, .invokevirtual 147, 3, 2000, 4, 857, []),
  (67, .ifCond .eq (28), 3, 95, 0, 0, []),
  (70, .iload_n 2, 1, 0, 0, 0, []),
  (71, .aload_n 0, 1, 0, 0, 0, []),
  (72, .getfield 137, 3, 6, 3, 749, []),
  (75, .if_icmp .ge (22), 3, 97, 0, 0, []),
  (78, .aload_n 0, 1, 0, 0, 0, []),
  (79, .getfield 9, 3, 6, 1, 747, []),
  (82, .iload_n 2, 1, 0, 0, 0, []),
  (83, .iaload, 1, 0, 0, 0, []),
  (84, .bipush (10), 2, 0, 0, 0, []),
  (86, .if_icmp .eq (11), 3, 97, 0, 0, []),
  (89, .iinc 2 (1), 3, 0, 0, 0, []),
  (92, .goto (-22), 3, 70, 0, 0, []),
  (95, .iconst 0, 1, 0, 0, 0, []),
  (96, .istore_n 3, 1, 0, 0, 0, []),
  (97, .goto (-93), 3, 4, 0, 0, []),
  (100, .iload_n 2, 1, 0, 0, 0, []),
  (101, .ireturn, 1, 0, 0, 0, [])])
def zm_R_scan : zMth := (⟨"DesignReaderModel", "scan", "()V"⟩, prog_10_method_14_code, 7, none, "DesignReaderModel", 0, 0, [853, 852, 107, 46], [
  (0, .aload_n 0, 1, 0, 0, 0, []),
  (1, .iconst 0, 1, 0, 0, 0, []),
  (2, .putfield 167, 3, 6, 11, 757, []),
  (5, .aload_n 0, 1, 0, 0, 0, []),
  (6, .iconst 0, 1, 0, 0, 0, []),
  (7, .invokevirtual 170, 3, 20, 2, 854, []),
  (10, .istore_n 1, 1, 0, 0, 0, []),
  (11, .iconst 1, 1, 0, 0, 0, []),
  (12, .istore_n 2, 1, 0, 0, 0, []),
  (13, .iload_n 2, 1, 0, 0, 0, []),
  (14, .ifCond .eq (380), 3, 394, 0, 0, []),
  (17, .iconst 1, 1, 0, 0, 0, []),
  (18, .istore_n 3, 1, 0, 0, 0, []),
  (19, .iconst 1, 1, 0, 0, 0, []),
  (20, .istore 4, 2, 0, 0, 0, []),
  (22, .iload_n 1, 1, 0, 0, 0, []),
  (23, .aload_n 0, 1, 0, 0, 0, []),
  (24, .getfield 137, 3, 6, 3, 749, []),
  (27, .if_icmp .ge (12), 3, 39, 0, 0, []),
  (30, .aload_n 0, 1, 0, 0, 0, []),
  (31, .getfield 9, 3, 6, 1, 747, []),
  (34, .iload_n 1, 1, 0, 0, 0, []),
  (35, .iaload, 1, 0, 0, 0, []),
  (36, .goto (4), 3, 40, 0, 0, []),
  (39, .iconst 0, 1, 0, 0, 0, []),
  (40, .istore 5, 2, 0, 0, 0, []),
  (42, .iload_n 1, 1, 0, 0, 0, []),
  (43, .aload_n 0, 1, 0, 0, 0, []),
  (44, .getfield 137, 3, 6, 3, 749, []),
  (47, .if_icmp .lt (11), 3, 58, 0, 0, []),
  (50, .iconst 0, 1, 0, 0, 0, []),
  (51, .istore 4, 2, 0, 0, 0, []),
  (53, .iconst 0, 1, 0, 0, 0, []),
  (54, .istore_n 3, 1, 0, 0, 0, []),
  (55, .goto (270), 3, 325, 0, 0, []),
  (58, .iload 5, 2, 0, 0, 0, []),
  (60, .invokestatic 140, 3, 2000, 1, 860, []),
  (63, .ifCond .eq (30), 3, 93, 0, 0, []),
  (66, .aload_n 0, 1, 0, 0, 0, []),
  (67, .iload_n 1, 1, 0, 0, 0, []),
  (68, .iload_n 3, 1, 0, 0, 0, []),
  (69, .iadd, 1, 0, 0, 0, []),
  (70, .invokevirtual 164, 3, 2000, 2, 863, []),
  (73, .ifCond .eq (9), 3, 82, 0, 0, []),
  (76, .iinc 3 (1), 3, 0, 0, 0, []),
  (79, .goto (-13), 3, 66, 0, 0, []),
  (82, .aload_n 0, 1, 0, 0, 0, []),
  (83, .iload_n 1, 1, 0, 0, 0, []),
  (84, .iload_n 3, 1, 0, 0, 0, []),
  (85, .invokevirtual 174, 3, 2000, 3, 869, []),
  (88, .istore 4, 2, 0, 0, 0, []),
  (90, .goto (235), 3, 325, 0, 0, []),
  (93, .iload 5, 2, 0, 0, 0, []),
  (95, .invokestatic 144, 3, 2000, 1, 866, []),
  (98, .ifCond .eq (52), 3, 150, 0, 0, []),
  (101, .iload_n 1, 1, 0, 0, 0, []),
  (102, .iload_n 3, 1, 0, 0, 0, []),
  (103, .iadd, 1, 0, 0, 0, []),
  (104, .aload_n 0, 1, 0, 0, 0, []),
  (105, .getfield 137, 3, 6, 3, 749, []),
  (108, .if_icmp .ge (23), 3, 131, 0, 0, []),
  (111, .aload_n 0, 1, 0, 0, 0, []),
  (112, .getfield 9, 3, 6, 1, 747, []),
  (115, .iload_n 1, 1, 0, 0, 0, []),
  (116, .iload_n 3, 1, 0, 0, 0, []),
  (117, .iadd, 1, 0, 0, 0, []),
  (118, .iaload, 1, 0, 0, 0, []),
  (119, .invokestatic 144, 3, 2000, 1, 866, []),
  (122, .ifCond .eq (9), 3, 131, 0, 0, []),
  (125, .iinc 3 (1), 3, 0, 0, 0, []),
  (128, .goto (-27), 3, 101, 0, 0, []),
  (131, .aload_n 0, 1, 0, 0, 0, []),
  (132, .iload_n 1, 1, 0, 0, 0, []),
  (133, .iload_n 3, 1, 0, 0, 0, []),
  (134, .invokevirtual 178, 3, 2000, 3, 874, []),
  (137, .ifCond .eq (7), 3, 144, 0, 0, []),
  (140, .iconst 3, 1, 0, 0, 0, []),
  (141, .goto (4), 3, 145, 0, 0, []),
  (144, .iconst 1, 1, 0, 0, 0, []),
  (145, .istore 4, 2, 0, 0, 0, []),
  (147, .goto (178), 3, 325, 0, 0, []),
  (150, .aload_n 0, 1, 0, 0, 0, []),
  (151, .iload_n 1, 1, 0, 0, 0, []),
  (152, .bipush (60), 2, 0, 0, 0, []),
  (154, .bipush (61), 2, 0, 0, 0, []),
  (156, .invokevirtual 147, 3, 2000, 4, 857, []),
  (159, .ifCond .ne (63), 3, 222, 0, 0, []),
  (162, .aload_n 0, 1, 0, 0, 0, []),
  (163, .iload_n 1, 1, 0, 0, 0, []),
  (164, .bipush (62), 2, 0, 0, 0, []),
  (166, .bipush (61), 2, 0, 0, 0, []),
  (168, .invokevirtual 147, 3, 2000, 4, 857, []),
  (171, .ifCond .ne (51), 3, 222, 0, 0, []),
  (174, .aload_n 0, 1, 0, 0, 0, []),
  (175, .iload_n 1, 1, 0, 0, 0, []),
  (176, .bipush (60), 2, 0, 0, 0, []),
  (178, .bipush (60), 2, 0, 0, 0, []),
  (180, .invokevirtual 147, 3, 2000, 4, 857, []),
  (183, .ifCond .ne (39), 3, 222, 0, 0, []),
  (186, .aload_n 0, 1, 0, 0, 0, []),
  (187, .iload_n 1, 1, 0, 0, 0, []),
  (188, .bipush (62), 2, 0, 0, 0, []),
  (190, .bipush (62), 2, 0, 0, 0, []),
  (192, .invokevirtual 147, 3, 2000, 4, 857, []),
  (195, .ifCond .ne (27), 3, 222, 0, 0, []),
  (198, .aload_n 0, 1, 0, 0, 0, []),
  (199, .iload_n 1, 1, 0, 0, 0, []),
  (200, .bipush (61), 2, 0, 0, 0, []),
  (202, .bipush (61), 2, 0, 0, 0, []),
  (204, .invokevirtual 147, 3, 2000, 4, 857, []),
  (207, .ifCond .ne (15), 3, 222, 0, 0, []),
  (210, .aload_n 0, 1, 0, 0, 0, []),
  (211, .iload_n 1, 1, 0, 0, 0, []),
  (212, .bipush (33), 2, 0, 0, 0, []),
  (214, .bipush (61), 2, 0, 0, 0, []),
  (216, .invokevirtual 147, 3, 2000, 4, 857, []),
  (219, .ifCond .eq (94), 3, 313, 0, 0, []),
  (222, .iconst 2, 1, 0, 0, 0, []),
  (223, .istore_n 3, 1, 0, 0, 0, []),
  (224, .aload_n 0, 1, 0, 0, 0, []),
  (225, .getfield 9, 3, 6, 1, 747, []),
  (228, .iload_n 1, 1, 0, 0, 0, []),
  (229, .iconst 1, 1, 0, 0, 0, []),
  (230, .iadd, 1, 0, 0, 0, []),
  (231, .iaload, 1, 0, 0, 0, []),
  (232, .bipush (61), 2, 0, 0, 0, []),
  (234, .if_icmp .ne (7), 3, 241, 0, 0, []),
  (237, .iconst 1, 1, 0, 0, 0, []),
  (238, .goto (4), 3, 242, 0, 0, []),
  (241, .iconst 0, 1, 0, 0, 0, []),
  (242, .istore 6, 2, 0, 0, 0, []),
  (244, .iload 5, 2, 0, 0, 0, []),
  (246, .bipush (60), 2, 0, 0, 0, []),
  (248, .if_icmp .ne (20), 3, 268, 0, 0, []),
  (251, .iload 6, 2, 0, 0, 0, []),
  (253, .ifCond .eq (9), 3, 262, 0, 0, []),
  (256, .sipush (256), 3, 0, 0, 0, []),
  (259, .goto (49), 3, 308, 0, 0, []),
  (262, .sipush (258), 3, 0, 0, 0, []),
  (265, .goto (43), 3, 308, 0, 0, []),
  (268, .iload 5, 2, 0, 0, 0, []),
  (270, .bipush (62), 2, 0, 0, 0, []),
  (272, .if_icmp .ne (20), 3, 292, 0, 0, []),
  (275, .iload 6, 2, 0, 0, 0, []),
  (277, .ifCond .eq (9), 3, 286, 0, 0, []),
  (280, .sipush (257), 3, 0, 0, 0, []),
  (283, .goto (25), 3, 308, 0, 0, []),
  (286, .sipush (259), 3, 0, 0, 0, []),
  (289, .goto (19), 3, 308, 0, 0, []),
  (292, .iload 5, 2, 0, 0, 0, []),
  (294, .bipush (61), 2, 0, 0, 0, []),
  (296, .if_icmp .ne (9), 3, 305, 0, 0, []),
  (299, .sipush (260), 3, 0, 0, 0, []),
  (302, .goto (6), 3, 308, 0, 0, []),
  (305, .sipush (261), 3, 0, 0, 0, []),
  (308, .istore 4, 2, 0, 0, 0, []),
  (310, .goto (15), 3, 325, 0, 0, []),
  (313, .iload 5, 2, 0, 0, 0, []),
  (315, .invokestatic 182, 3, 2000, 1, 880, []),
  (318, .ifCond .eq (7), 3, 325, 0, 0, []),
  (321, .iload 5, 2, 0, 0, 0, []),
  (323, .istore 4, 2, 0, 0, 0, []),
  (325, .aload_n 0, 1, 0, 0, 0, []),
  (326, .getfield 19, 3, 6, 8, 754, []),
  (329, .aload_n 0, 1, 0, 0, 0, []),
  (330, .getfield 167, 3, 6, 11, 757, []),
  (333, .iload 4, 2, 0, 0, 0, []),
  (335, .iastore, 1, 0, 0, 0, []),
  (336, .aload_n 0, 1, 0, 0, 0, []),
  (337, .getfield 22, 3, 6, 9, 755, []),
  (340, .aload_n 0, 1, 0, 0, 0, []),
  (341, .getfield 167, 3, 6, 11, 757, []),
  (344, .iload_n 1, 1, 0, 0, 0, []),
  (345, .iastore, 1, 0, 0, 0, []),
  (346, .aload_n 0, 1, 0, 0, 0, []),
  (347, .getfield 25, 3, 6, 10, 756, []),
  (350, .aload_n 0, 1, 0, 0, 0, []),
  (351, .getfield 167, 3, 6, 11, 757, []),
  (354, .iload_n 3, 1, 0, 0, 0, []),
  (355, .iastore, 1, 0, 0, 0, []),
  (356, .aload_n 0, 1, 0, 0, 0, []),
  (357, .dup, 1, 0, 0, 0, []),
  (358, .getfield 167, 3, 6, 11, 757, []),
  (361, .iconst 1, 1, 0, 0, 0, []),
  (362, .iadd, 1, 0, 0, 0, []),
  (363, .putfield 167, 3, 6, 11, 757, []),
  (366, .iload 4, 2, 0, 0, 0, []),
  (368, .iconst 1, 1, 0, 0, 0, []),
  (369, .if_icmp .eq (12), 3, 381, 0, 0, []),
  (372, .iload 4, 2, 0, 0, 0, []),
  (374, .ifCond .eq (7), 3, 381, 0, 0, []),
  (377, .iconst 1, 1, 0, 0, 0, []),
  (378, .goto (4), 3, 382, 0, 0, []),
  (381, .iconst 0, 1, 0, 0, 0, []),
  (382, .istore_n 2, 1, 0, 0, 0, []),
  (383, .aload_n 0, 1, 0, 0, 0, []),
  (384, .iload_n 1, 1, 0, 0, 0, []),
  (385, .iload_n 3, 1, 0, 0, 0, []),
  (386, .iadd, 1, 0, 0, 0, []),
  (387, .invokevirtual 170, 3, 20, 2, 854, []),
  (390, .istore_n 1, 1, 0, 0, 0, []),
  (391, .goto (-378), 3, 13, 0, 0, []),
  (394, .return_, 1, 0, 0, 0, [])])
def zm_R_look : zMth := (⟨"DesignReaderModel", "look", "()I"⟩, prog_10_method_15_code, 1, (some .int), "DesignReaderModel", 0, 0, [885, 884, 107, 52], [
  (0, .aload_n 0, 1, 0, 0, 0, []),
  (1, .getfield 185, 3, 6, 13, 759, []),
  (4, .ifCond .eq (7), 3, 11, 0, 0, []),
  (7, .iconst 1, 1, 0, 0, 0, []),
  (8, .goto (12), 3, 20, 0, 0, []),
  (11, .aload_n 0, 1, 0, 0, 0, []),
  (12, .getfield 19, 3, 6, 8, 754, []),
  (15, .aload_n 0, 1, 0, 0, 0, []),
  (16, .getfield 189, 3, 6, 12, 758, []),
  (19, .iaload, 1, 0, 0, 0, []),
  (20, .ireturn, 1, 0, 0, 0, [])])
def zm_R_read : zMth := (⟨"DesignReaderModel", "read", "(II)I"⟩, prog_10_method_44_code, 4, (some .int), "DesignReaderModel", 0, 0, [850, 848, 107, 849], [
  (0, .iload_n 1, 1, 0, 0, 0, []),
  (1, .ifCond .lt (21), 3, 22, 0, 0, []),
  (4, .iload_n 1, 1, 0, 0, 0, []),
  (5, .iconst 1, 1, 0, 0, 0, []),
  (6, .if_icmp .gt (16), 3, 22, 0, 0, []),
  (9, .iload_n 2, 1, 0, 0, 0, []),
  (10, .iconst (-1), 1, 0, 0, 0, []),
  (11, .if_icmp .lt (11), 3, 22, 0, 0, []),
  (14, .iload_n 2, 1, 0, 0, 0, []),
  (15, .aload_n 0, 1, 0, 0, 0, []),
  (16, .getfield 134, 3, 6, 2, 748, []),
  (19, .if_icmp .le (6), 3, 25, 0, 0, []),
  (22, .bipush (-2), 2, 0, 0, 0, []),
  (24, .ireturn, 1, 0, 0, 0, []),
  (25, .aload_n 0, 1, 0, 0, 0, []),
  (26, .iload_n 2, 1, 0, 0, 0, []),
  (27, .iconst (-1), 1, 0, 0, 0, []),
  (28, .if_icmp .ne (10), 3, 38, 0, 0, []),
  (31, .aload_n 0, 1, 0, 0, 0, []),
  (32, .getfield 134, 3, 6, 2, 748, []),
  (35, .goto (4), 3, 39, 0, 0, []),
  (38, .iload_n 2, 1, 0, 0, 0, []),
  (39, .putfield 137, 3, 6, 3, 749, []),
  (42, .aload_n 0, 1, 0, 0, 0, []),
  (43, .iload_n 1, 1, 0, 0, 0, []),
  (44, .invokevirtual 120, 3, 17, 2, 740, []),
  (47, .aload_n 0, 1, 0, 0, 0, []),
  (48, .invokevirtual 285, 3, 21, 1, 851, []),
  (51, .aload_n 0, 1, 0, 0, 0, []),
  (52, .iconst 0, 1, 0, 0, 0, []),
  (53, .putfield 189, 3, 6, 12, 758, []),
  (56, .aload_n 0, 1, 0, 0, 0, []),
  (57, .iconst 0, 1, 0, 0, 0, []),
  (58, .putfield 185, 3, 6, 13, 759, []),
  (61, .aload_n 0, 1, 0, 0, 0, []),
  (62, .iconst (-1), 1, 0, 0, 0, []),
  (63, .putfield 28, 3, 6, 14, 760, []),
  (66, .aload_n 0, 1, 0, 0, 0, []),
  (67, .getfield 185, 3, 6, 13, 759, []),
  (70, .ifCond .ne (36), 3, 106, 0, 0, []),
  (73, .aload_n 0, 1, 0, 0, 0, []),
  (74, .invokevirtual 192, 3, 22, 1, 883, []),
  (77, .ifCond .eq (29), 3, 106, 0, 0, []),
  (80, .aload_n 0, 1, 0, 0, 0, []),
  (81, .iconst 0, 1, 0, 0, 0, []),
  (82, .putfield 199, 3, 6, 21, 767, []),
  (85, .aload_n 0, 1, 0, 0, 0, []),
  (86, .invokevirtual 288, 3, 2000, 1, 886, []),
  (89, .istore_n 3, 1, 0, 0, 0, []),
  (90, .aload_n 0, 1, 0, 0, 0, []),
  (91, .getfield 185, 3, 6, 13, 759, []),
  (94, .ifCond .ne (9), 3, 103, 0, 0, []),
  (97, .aload_n 0, 1, 0, 0, 0, []),
  (98, .iload_n 1, 1, 0, 0, 0, []),
  (99, .iload_n 3, 1, 0, 0, 0, []),
  (100, .invokevirtual 291, 3, 2000, 3, 961, []),
  (103, .goto (-37), 3, 66, 0, 0, []),
  (106, .aload_n 0, 1, 0, 0, 0, []),
  (107, .iconst 0, 1, 0, 0, 0, []),
  (108, .putfield 134, 3, 6, 2, 748, []),
  (111, .aload_n 0, 1, 0, 0, 0, []),
  (112, .getfield 28, 3, 6, 14, 760, []),
  (115, .ireturn, 1, 0, 0, 0, [])])
def zm_R_has : zMth := (⟨"DesignReaderModel", "has", "(II)Z"⟩, prog_10_method_45_code, 3, (some .boolean), "DesignReaderModel", 0, 0, [981, 980, 107, 79], [
  (0, .iload_n 1, 1, 0, 0, 0, []),
  (1, .ifCond .lt (26), 3, 27, 0, 0, []),
  (4, .iload_n 1, 1, 0, 0, 0, []),
  (5, .iconst 2, 1, 0, 0, 0, []),
  (6, .if_icmp .ge (21), 3, 27, 0, 0, []),
  (9, .iload_n 2, 1, 0, 0, 0, []),
  (10, .ifCond .lt (17), 3, 27, 0, 0, []),
  (13, .iload_n 2, 1, 0, 0, 0, []),
  (14, .aload_n 0, 1, 0, 0, 0, []),
  (15, .getfield 68, 3, 6, 28, 774, []),
  (18, .iload_n 1, 1, 0, 0, 0, []),
  (19, .iaload, 1, 0, 0, 0, []),
  (20, .if_icmp .ge (7), 3, 27, 0, 0, []),
  (23, .iconst 1, 1, 0, 0, 0, []),
  (24, .goto (4), 3, 28, 0, 0, []),
  (27, .iconst 0, 1, 0, 0, 0, []),
  (28, .ireturn, 1, 1, 0, 0, [])])
def zm_R_nodes : zMth := (⟨"DesignReaderModel", "nodes", "(I)I"⟩, prog_10_method_46_code, 2, (some .int), "DesignReaderModel", 0, 0, [974, 972, 107, 973], [
  (0, .iload_n 1, 1, 0, 0, 0, []),
  (1, .ifCond .lt (8), 3, 9, 0, 0, []),
  (4, .iload_n 1, 1, 0, 0, 0, []),
  (5, .iconst 1, 1, 0, 0, 0, []),
  (6, .if_icmp .le (7), 3, 13, 0, 0, []),
  (9, .iconst 0, 1, 0, 0, 0, []),
  (10, .goto (9), 3, 19, 0, 0, []),
  (13, .aload_n 0, 1, 0, 0, 0, []),
  (14, .getfield 68, 3, 6, 28, 774, []),
  (17, .iload_n 1, 1, 0, 0, 0, []),
  (18, .iaload, 1, 0, 0, 0, []),
  (19, .ireturn, 1, 0, 0, 0, [])])
def zm_R_parts : zMth := (⟨"DesignReaderModel", "parts", "(II)I"⟩, prog_10_method_47_code, 5, (some .int), "DesignReaderModel", 0, 0, [988, 987, 107, 80], [
  (0, .iconst 0, 1, 0, 0, 0, []),
  (1, .istore_n 3, 1, 0, 0, 0, []),
  (2, .iload_n 2, 1, 0, 0, 0, []),
  (3, .iconst 1, 1, 0, 0, 0, []),
  (4, .iadd, 1, 0, 0, 0, []),
  (5, .istore 4, 2, 0, 0, 0, []),
  (7, .iload 4, 2, 0, 0, 0, []),
  (9, .iload_n 2, 1, 0, 0, 0, []),
  (10, .aload_n 0, 1, 0, 0, 0, []),
  (11, .getfield 65, 3, 6, 27, 773, []),
  (14, .sipush (13000), 3, 0, 0, 0, []),
  (17, .iload_n 1, 1, 0, 0, 0, []),
  (18, .imul, 1, 0, 0, 0, []),
  (19, .iload_n 2, 1, 0, 0, 0, []),
  (20, .iadd, 1, 0, 0, 0, []),
  (21, .iaload, 1, 0, 0, 0, []),
  (22, .iadd, 1, 0, 0, 0, []),
  (23, .if_icmp .ge (27), 3, 50, 0, 0, []),
  (26, .iinc 3 (1), 3, 0, 0, 0, []),
  (29, .iload 4, 2, 0, 0, 0, []),
  (31, .aload_n 0, 1, 0, 0, 0, []),
  (32, .getfield 65, 3, 6, 27, 773, []),
  (35, .sipush (13000), 3, 0, 0, 0, []),
  (38, .iload_n 1, 1, 0, 0, 0, []),
  (39, .imul, 1, 0, 0, 0, []),
  (40, .iload 4, 2, 0, 0, 0, []),
  (42, .iadd, 1, 0, 0, 0, []),
  (43, .iaload, 1, 0, 0, 0, []),
  (44, .iadd, 1, 0, 0, 0, []),
  (45, .istore 4, 2, 0, 0, 0, []),
  (47, .goto (-40), 3, 7, 0, 0, []),
  (50, .iload_n 3, 1, 0, 0, 0, []),
  (51, .ireturn, 1, 0, 0, 0, [])])
def zm_R_part : zMth := (⟨"DesignReaderModel", "part", "(III)I"⟩, prog_10_method_48_code, 6, (some .int), "DesignReaderModel", 0, 0, [978, 976, 107, 977], [
  (0, .aload_n 0, 1, 0, 0, 0, []),
  (1, .iload_n 1, 1, 0, 0, 0, []),
  (2, .iload_n 2, 1, 0, 0, 0, []),
  (3, .invokevirtual 294, 3, 24, 3, 979, []),
  (6, .ifCond .eq (7), 3, 13, 0, 0, []),
  (9, .iload_n 3, 1, 0, 0, 0, []),
  (10, .ifCond .ge (5), 3, 15, 0, 0, []),
  (13, .iconst (-1), 1, 0, 0, 0, []),
  (14, .ireturn, 1, 0, 0, 0, []),
  (15, .iconst 0, 1, 0, 0, 0, []),
  (16, .istore 4, 2, 0, 0, 0, []),
  (18, .iload_n 2, 1, 0, 0, 0, []),
  (19, .iconst 1, 1, 0, 0, 0, []),
  (20, .iadd, 1, 0, 0, 0, []),
  (21, .istore 5, 2, 0, 0, 0, []),
  (23, .iload 5, 2, 0, 0, 0, []),
  (25, .iload_n 2, 1, 0, 0, 0, []),
  (26, .aload_n 0, 1, 0, 0, 0, []),
  (27, .getfield 65, 3, 6, 27, 773, []),
  (30, .sipush (13000), 3, 0, 0, 0, []),
  (33, .iload_n 1, 1, 0, 0, 0, []),
  (34, .imul, 1, 0, 0, 0, []),
  (35, .iload_n 2, 1, 0, 0, 0, []),
  (36, .iadd, 1, 0, 0, 0, []),
  (37, .iaload, 1, 0, 0, 0, []),
  (38, .iadd, 1, 0, 0, 0, []),
  (39, .if_icmp .ge (36), 3, 75, 0, 0, []),
  (42, .iload 4, 2, 0, 0, 0, []),
  (44, .iload_n 3, 1, 0, 0, 0, []),
  (45, .if_icmp .ne (6), 3, 51, 0, 0, []),
  (48, .iload 5, 2, 0, 0, 0, []),
  (50, .ireturn, 1, 0, 0, 0, []),
  (51, .iinc 4 (1), 3, 0, 0, 0, []),
  (54, .iload 5, 2, 0, 0, 0, []),
  (56, .aload_n 0, 1, 0, 0, 0, []),
  (57, .getfield 65, 3, 6, 27, 773, []),
  (60, .sipush (13000), 3, 0, 0, 0, []),
  (63, .iload_n 1, 1, 0, 0, 0, []),
  (64, .imul, 1, 0, 0, 0, []),
  (65, .iload 5, 2, 0, 0, 0, []),
  (67, .iadd, 1, 0, 0, 0, []),
  (68, .iaload, 1, 0, 0, 0, []),
  (69, .iadd, 1, 0, 0, 0, []),
  (70, .istore 5, 2, 0, 0, 0, []),
  (72, .goto (-49), 3, 23, 0, 0, []),
  (75, .iconst (-1), 1, 0, 0, 0, []),
  (76, .ireturn, 1, 0, 0, 0, [])])
def zm_R_node : zMth := (⟨"DesignReaderModel", "node", "(III)I"⟩, prog_10_method_49_code, 5, (some .int), "DesignReaderModel", 0, 0, [985, 983, 107, 984], [
  (0, .aload_n 0, 1, 0, 0, 0, []),
  (1, .iload_n 1, 1, 0, 0, 0, []),
  (2, .iload_n 2, 1, 0, 0, 0, []),
  (3, .invokevirtual 294, 3, 24, 3, 979, []),
  (6, .ifCond .ne (6), 3, 12, 0, 0, []),
  (9, .bipush (-2), 2, 0, 0, 0, []),
  (11, .ireturn, 1, 0, 0, 0, []),
  (12, .sipush (13000), 3, 0, 0, 0, []),
  (15, .iload_n 1, 1, 0, 0, 0, []),
  (16, .imul, 1, 0, 0, 0, []),
  (17, .iload_n 2, 1, 0, 0, 0, []),
  (18, .iadd, 1, 0, 0, 0, []),
  (19, .istore 4, 2, 0, 0, 0, []),
  (21, .iload_n 3, 1, 0, 0, 0, []),
  (22, .ifCond .ne (13), 3, 35, 0, 0, []),
  (25, .aload_n 0, 1, 0, 0, 0, []),
  (26, .getfield 53, 3, 6, 23, 769, []),
  (29, .iload 4, 2, 0, 0, 0, []),
  (31, .iaload, 1, 0, 0, 0, []),
  (32, .goto (64), 3, 96, 0, 0, []),
  (35, .iload_n 3, 1, 0, 0, 0, []),
  (36, .iconst 1, 1, 0, 0, 0, []),
  (37, .if_icmp .ne (13), 3, 50, 0, 0, []),
  (40, .aload_n 0, 1, 0, 0, 0, []),
  (41, .getfield 56, 3, 6, 24, 770, []),
  (44, .iload 4, 2, 0, 0, 0, []),
  (46, .iaload, 1, 0, 0, 0, []),
  (47, .goto (49), 3, 96, 0, 0, []),
  (50, .iload_n 3, 1, 0, 0, 0, []),
  (51, .iconst 2, 1, 0, 0, 0, []),
  (52, .if_icmp .ne (13), 3, 65, 0, 0, []),
  (55, .aload_n 0, 1, 0, 0, 0, []),
  (56, .getfield 59, 3, 6, 25, 771, []),
  (59, .iload 4, 2, 0, 0, 0, []),
  (61, .iaload, 1, 0, 0, 0, []),
  (62, .goto (34), 3, 96, 0, 0, []),
  (65, .iload_n 3, 1, 0, 0, 0, []),
  (66, .iconst 3, 1, 0, 0, 0, []),
  (67, .if_icmp .ne (13), 3, 80, 0, 0, []),
  (70, .aload_n 0, 1, 0, 0, 0, []),
  (71, .getfield 65, 3, 6, 27, 773, []),
  (74, .iload 4, 2, 0, 0, 0, []),
  (76, .iaload, 1, 0, 0, 0, []),
  (77, .goto (19), 3, 96, 0, 0, []),
  (80, .iload_n 3, 1, 0, 0, 0, []),
  (81, .iconst 4, 1, 0, 0, 0, []),
  (82, .if_icmp .ne (12), 3, 94, 0, 0, []),
  (85, .aload_n 0, 1, 0, 0, 0, []),
  (86, .iload_n 1, 1, 0, 0, 0, []),
  (87, .iload_n 2, 1, 0, 0, 0, []),
  (88, .invokevirtual 297, 3, 26, 3, 986, []),
  (91, .goto (5), 3, 96, 0, 0, []),
  (94, .bipush (-2), 2, 0, 0, 0, []),
  (96, .ireturn, 1, 0, 0, 0, [])])
def zm_R_whole : zMth := (⟨"DesignReaderModel", "whole", "(II)I"⟩, prog_10_method_50_code, 3, (some .int), "DesignReaderModel", 0, 0, [992, 990, 107, 991], [
  (0, .aload_n 0, 1, 0, 0, 0, []),
  (1, .iload_n 1, 1, 0, 0, 0, []),
  (2, .iload_n 2, 1, 0, 0, 0, []),
  (3, .invokevirtual 294, 3, 24, 3, 979, []),
  (6, .ifCond .eq (18), 3, 24, 0, 0, []),
  (9, .aload_n 0, 1, 0, 0, 0, []),
  (10, .getfield 62, 3, 6, 26, 772, []),
  (13, .sipush (13000), 3, 0, 0, 0, []),
  (16, .iload_n 1, 1, 0, 0, 0, []),
  (17, .imul, 1, 0, 0, 0, []),
  (18, .iload_n 2, 1, 0, 0, 0, []),
  (19, .iadd, 1, 0, 0, 0, []),
  (20, .iaload, 1, 0, 0, 0, []),
  (21, .goto (4), 3, 25, 0, 0, []),
  (24, .iconst (-1), 1, 0, 0, 0, []),
  (25, .ireturn, 1, 0, 0, 0, [])])
def zm_R_names : zMth := (⟨"DesignReaderModel", "names", "()I"⟩, prog_10_method_51_code, 1, (some .int), "DesignReaderModel", 0, 0, [996, 994, 107, 995], [
  (0, .aload_n 0, 1, 0, 0, 0, []),
  (1, .getfield 275, 3, 6, 31, 777, []),
  (4, .ireturn, 1, 0, 0, 0, [])])
def zm_R_spelt : zMth := (⟨"DesignReaderModel", "spelt", "(II)I"⟩, prog_10_method_52_code, 3, (some .int), "DesignReaderModel", 0, 0, [1000, 998, 107, 999], [
  (0, .iload_n 1, 1, 0, 0, 0, []),
  (1, .ifCond .lt (34), 3, 35, 0, 0, []),
  (4, .iload_n 1, 1, 0, 0, 0, []),
  (5, .aload_n 0, 1, 0, 0, 0, []),
  (6, .getfield 275, 3, 6, 31, 777, []),
  (9, .if_icmp .ge (26), 3, 35, 0, 0, []),
  (12, .iload_n 2, 1, 0, 0, 0, []),
  (13, .ifCond .lt (22), 3, 35, 0, 0, []),
  (16, .iload_n 2, 1, 0, 0, 0, []),
  (17, .aload_n 0, 1, 0, 0, 0, []),
  (18, .getfield 74, 3, 6, 30, 776, []),
  (21, .iload_n 1, 1, 0, 0, 0, []),
  (22, .iconst 1, 1, 0, 0, 0, []),
  (23, .iadd, 1, 0, 0, 0, []),
  (24, .iaload, 1, 0, 0, 0, []),
  (25, .aload_n 0, 1, 0, 0, 0, []),
  (26, .getfield 74, 3, 6, 30, 776, []),
  (29, .iload_n 1, 1, 0, 0, 0, []),
  (30, .iaload, 1, 0, 0, 0, []),
  (31, .isub, 1, 0, 0, 0, []),
  (32, .if_icmp .lt (7), 3, 39, 0, 0, []),
  (35, .iconst (-1), 1, 0, 0, 0, []),
  (36, .goto (16), 3, 52, 0, 0, []),
  (39, .aload_n 0, 1, 0, 0, 0, []),
  (40, .getfield 71, 3, 6, 29, 775, []),
  (43, .aload_n 0, 1, 0, 0, 0, []),
  (44, .getfield 74, 3, 6, 30, 776, []),
  (47, .iload_n 1, 1, 0, 0, 0, []),
  (48, .iaload, 1, 0, 0, 0, []),
  (49, .iload_n 2, 1, 0, 0, 0, []),
  (50, .iadd, 1, 0, 0, 0, []),
  (51, .iaload, 1, 0, 0, 0, []),
  (52, .ireturn, 1, 0, 0, 0, [])])
def zm_R_same : zMth := (⟨"DesignReaderModel", "same", "()Z"⟩, prog_10_method_53_code, 3, (some .boolean), "DesignReaderModel", 0, 0, [1004, 1002, 107, 1003], [
  (0, .aload_n 0, 1, 0, 0, 0, []),
  (1, .getfield 68, 3, 6, 28, 774, []),
  (4, .iconst 0, 1, 0, 0, 0, []),
  (5, .iaload, 1, 0, 0, 0, []),
  (6, .aload_n 0, 1, 0, 0, 0, []),
  (7, .getfield 68, 3, 6, 28, 774, []),
  (10, .iconst 1, 1, 0, 0, 0, []),
  (11, .iaload, 1, 0, 0, 0, []),
  (12, .if_icmp .ne (7), 3, 19, 0, 0, []),
  (15, .iconst 1, 1, 0, 0, 0, []),
  (16, .goto (4), 3, 20, 0, 0, []),
  (19, .iconst 0, 1, 0, 0, 0, []),
  (20, .istore_n 1, 1, 0, 0, 0, []),
  (21, .iconst 0, 1, 0, 0, 0, []),
  (22, .istore_n 2, 1, 0, 0, 0, []),
  (23, .iload_n 2, 1, 0, 0, 0, []),
  (24, .aload_n 0, 1, 0, 0, 0, []),
  (25, .getfield 68, 3, 6, 28, 774, []),
  (28, .iconst 0, 1, 0, 0, 0, []),
  (29, .iaload, 1, 0, 0, 0, []),
  (30, .if_icmp .ge (76), 3, 106, 0, 0, []),
  (33, .iload_n 1, 1, 0, 0, 0, []),
  (34, .ifCond .eq (72), 3, 106, 0, 0, []),
  (37, .aload_n 0, 1, 0, 0, 0, []),
  (38, .getfield 53, 3, 6, 23, 769, []),
  (41, .iload_n 2, 1, 0, 0, 0, []),
  (42, .iaload, 1, 0, 0, 0, []),
  (43, .aload_n 0, 1, 0, 0, 0, []),
  (44, .getfield 53, 3, 6, 23, 769, []),
  (47, .sipush (13000), 3, 0, 0, 0, []),
  (50, .iload_n 2, 1, 0, 0, 0, []),
  (51, .iadd, 1, 0, 0, 0, []),
  (52, .iaload, 1, 0, 0, 0, []),
  (53, .if_icmp .ne (45), 3, 98, 0, 0, []),
  (56, .aload_n 0, 1, 0, 0, 0, []),
  (57, .getfield 59, 3, 6, 25, 771, []),
  (60, .iload_n 2, 1, 0, 0, 0, []),
  (61, .iaload, 1, 0, 0, 0, []),
  (62, .aload_n 0, 1, 0, 0, 0, []),
  (63, .getfield 59, 3, 6, 25, 771, []),
  (66, .sipush (13000), 3, 0, 0, 0, []),
  (69, .iload_n 2, 1, 0, 0, 0, []),
  (70, .iadd, 1, 0, 0, 0, []),
  (71, .iaload, 1, 0, 0, 0, []),
  (72, .if_icmp .ne (26), 3, 98, 0, 0, []),
  (75, .aload_n 0, 1, 0, 0, 0, []),
  (76, .getfield 62, 3, 6, 26, 772, []),
  (79, .iload_n 2, 1, 0, 0, 0, []),
  (80, .iaload, 1, 0, 0, 0, []),
  (81, .aload_n 0, 1, 0, 0, 0, []),
  (82, .getfield 62, 3, 6, 26, 772, []),
  (85, .sipush (13000), 3, 0, 0, 0, []),
  (88, .iload_n 2, 1, 0, 0, 0, []),
  (89, .iadd, 1, 0, 0, 0, []),
  (90, .iaload, 1, 0, 0, 0, []),
  (91, .if_icmp .ne (7), 3, 98, 0, 0, []),
  (94, .iconst 1, 1, 0, 0, 0, []),
  (95, .goto (4), 3, 99, 0, 0, []),
  (98, .iconst 0, 1, 0, 0, 0, []),
  (99, .istore_n 1, 1, 0, 0, 0, []),
  (100, .iinc 2 (1), 3, 0, 0, 0, []),
  (103, .goto (-80), 3, 23, 0, 0, []),
  (106, .iload_n 1, 1, 0, 0, 0, []),
  (107, .ireturn, 1, 1, 0, 0, [])])
def zm_R_kindAt : zMth := (⟨"DesignReaderModel", "kindAt", "(II)I"⟩, prog_10_method_60_code, 3, (some .int), "DesignReaderModel", 0, 0, [1014, 1013, 107, 82], [
  (0, .aload_n 0, 1, 0, 0, 0, []),
  (1, .getfield 53, 3, 6, 23, 769, []),
  (4, .sipush (13000), 3, 0, 0, 0, []),
  (7, .iload_n 1, 1, 0, 0, 0, []),
  (8, .imul, 1, 0, 0, 0, []),
  (9, .iload_n 2, 1, 0, 0, 0, []),
  (10, .iadd, 1, 0, 0, 0, []),
  (11, .iaload, 1, 0, 0, 0, []),
  (12, .ireturn, 1, 0, 0, 0, [])])
def zm_R_behind : zMth := (⟨"DesignReaderModel", "behind", "(II)I"⟩, prog_10_method_61_code, 3, (some .int), "DesignReaderModel", 0, 0, [1017, 1016, 107, 83], [
  (0, .iload_n 2, 1, 0, 0, 0, []),
  (1, .aload_n 0, 1, 0, 0, 0, []),
  (2, .getfield 65, 3, 6, 27, 773, []),
  (5, .sipush (13000), 3, 0, 0, 0, []),
  (8, .iload_n 1, 1, 0, 0, 0, []),
  (9, .imul, 1, 0, 0, 0, []),
  (10, .iload_n 2, 1, 0, 0, 0, []),
  (11, .iadd, 1, 0, 0, 0, []),
  (12, .iaload, 1, 0, 0, 0, []),
  (13, .iadd, 1, 0, 0, 0, []),
  (14, .ireturn, 1, 0, 0, 0, [])])
def zm_R_show : zMth := (⟨"DesignReaderModel", "show", "(II)V"⟩, prog_10_method_73_code, 6, none, "DesignReaderModel", 0, 0, [1011, 1010, 107, 81], [
  (0, .aload_n 0, 1, 0, 0, 0, []),
  (1, .iload_n 1, 1, 0, 0, 0, []),
  (2, .iload_n 2, 1, 0, 0, 0, []),
  (3, .invokevirtual 314, 3, 33, 3, 1012, []),
  (6, .istore_n 3, 1, 0, 0, 0, []),
  (7, .aload_n 0, 1, 0, 0, 0, []),
  (8, .iload_n 1, 1, 0, 0, 0, []),
  (9, .iload_n 2, 1, 0, 0, 0, []),
  (10, .invokevirtual 317, 3, 34, 3, 1015, []),
  (13, .istore 4, 2, 0, 0, 0, []),
  (15, .iload_n 3, 1, 0, 0, 0, []),
  (16, .ifCond .eq (9), 3, 25, 0, 0, []),
  (19, .iload_n 3, 1, 0, 0, 0, []),
  (20, .bipush (12), 2, 0, 0, 0, []),
  (22, .if_icmp .ne (61), 3, 83, 0, 0, []),
  (25, .iload_n 3, 1, 0, 0, 0, []),
  (26, .bipush (12), 2, 0, 0, 0, []),
  (28, .if_icmp .ne (9), 3, 37, 0, 0, []),
  (31, .aload_n 0, 1, 0, 0, 0, []),
  (32, .bipush (123), 2, 0, 0, 0, []),
  (34, .invokevirtual 309, 3, 2000, 2, 1018, []),
  (37, .iload_n 2, 1, 0, 0, 0, []),
  (38, .iconst 1, 1, 0, 0, 0, []),
  (39, .iadd, 1, 0, 0, 0, []),
  (40, .istore 5, 2, 0, 0, 0, []),
  (42, .iload 5, 2, 0, 0, 0, []),
  (44, .iload 4, 2, 0, 0, 0, []),
  (46, .if_icmp .ge (22), 3, 68, 0, 0, []),
  (49, .aload_n 0, 1, 0, 0, 0, []),
  (50, .iload_n 1, 1, 0, 0, 0, []),
  (51, .iload 5, 2, 0, 0, 0, []),
  (53, .invokevirtual 326, 3, 35, 3, 1009, []),
  (56, .aload_n 0, 1, 0, 0, 0, []),
  (57, .iload_n 1, 1, 0, 0, 0, []),
  (58, .iload 5, 2, 0, 0, 0, []),
  (60, .invokevirtual 317, 3, 34, 3, 1015, []),
  (63, .istore 5, 2, 0, 0, 0, []),
  (65, .goto (-23), 3, 42, 0, 0, []),
  (68, .iload_n 3, 1, 0, 0, 0, []),
  (69, .bipush (12), 2, 0, 0, 0, []),
  (71, .if_icmp .ne (185), 3, 256, 0, 0, []),
  (74, .aload_n 0, 1, 0, 0, 0, []),
  (75, .bipush (125), 2, 0, 0, 0, []),
  (77, .invokevirtual 309, 3, 2000, 2, 1018, []),
  (80, .goto (176), 3, 256, 0, 0, []),
  (83, .iload_n 3, 1, 0, 0, 0, []),
  (84, .iconst 4, 1, 0, 0, 0, []),
  (85, .if_icmp .eq (9), 3, 94, 0, 0, []),
  (88, .iload_n 3, 1, 0, 0, 0, []),
  (89, .bipush (47), 2, 0, 0, 0, []),
  (91, .if_icmp .ne (36), 3, 127, 0, 0, []),
  (94, .iload_n 2, 1, 0, 0, 0, []),
  (95, .iconst 1, 1, 0, 0, 0, []),
  (96, .iadd, 1, 0, 0, 0, []),
  (97, .iload 4, 2, 0, 0, 0, []),
  (99, .if_icmp .ge (157), 3, 256, 0, 0, []),
  (102, .aload_n 0, 1, 0, 0, 0, []),
  (103, .bipush (91), 2, 0, 0, 0, []),
  (105, .invokevirtual 309, 3, 2000, 2, 1018, []),
  (108, .aload_n 0, 1, 0, 0, 0, []),
  (109, .iload_n 1, 1, 0, 0, 0, []),
  (110, .iload_n 2, 1, 0, 0, 0, []),
  (111, .iconst 1, 1, 0, 0, 0, []),
  (112, .iadd, 1, 0, 0, 0, []),
  (113, .iload 4, 2, 0, 0, 0, []),
  (115, .invokevirtual 365, 3, 2000, 4, 1027, []),
  (118, .aload_n 0, 1, 0, 0, 0, []),
  (119, .bipush (93), 2, 0, 0, 0, []),
  (121, .invokevirtual 309, 3, 2000, 2, 1018, []),
  (124, .goto (132), 3, 256, 0, 0, []),
  (127, .iload_n 3, 1, 0, 0, 0, []),
  (128, .iconst 5, 1, 0, 0, 0, []),
  (129, .if_icmp .ne (22), 3, 151, 0, 0, []),
  (132, .aload_n 0, 1, 0, 0, 0, []),
  (133, .iload_n 1, 1, 0, 0, 0, []),
  (134, .iload_n 2, 1, 0, 0, 0, []),
  (135, .iconst 1, 1, 0, 0, 0, []),
  (136, .iadd, 1, 0, 0, 0, []),
  (137, .invokevirtual 326, 3, 35, 3, 1009, []),
  (140, .aload_n 0, 1, 0, 0, 0, []),
  (141, .iload_n 1, 1, 0, 0, 0, []),
  (142, .iload_n 2, 1, 0, 0, 0, []),
  (143, .iconst 2, 1, 0, 0, 0, []),
  (144, .iadd, 1, 0, 0, 0, []),
  (145, .invokevirtual 372, 3, 2000, 3, 1030, []),
  (148, .goto (108), 3, 256, 0, 0, []),
  (151, .iload_n 3, 1, 0, 0, 0, []),
  (152, .bipush (12), 2, 0, 0, 0, []),
  (154, .if_icmp .ge (13), 3, 167, 0, 0, []),
  (157, .aload_n 0, 1, 0, 0, 0, []),
  (158, .iload_n 1, 1, 0, 0, 0, []),
  (159, .iload_n 2, 1, 0, 0, 0, []),
  (160, .iload_n 3, 1, 0, 0, 0, []),
  (161, .invokevirtual 381, 3, 2000, 4, 1033, []),
  (164, .goto (92), 3, 256, 0, 0, []),
  (167, .iload_n 3, 1, 0, 0, 0, []),
  (168, .bipush (18), 2, 0, 0, 0, []),
  (170, .if_icmp .ge (13), 3, 183, 0, 0, []),
  (173, .aload_n 0, 1, 0, 0, 0, []),
  (174, .iload_n 1, 1, 0, 0, 0, []),
  (175, .iload_n 2, 1, 0, 0, 0, []),
  (176, .iload_n 3, 1, 0, 0, 0, []),
  (177, .invokevirtual 384, 3, 2000, 4, 1042, []),
  (180, .goto (76), 3, 256, 0, 0, []),
  (183, .iload_n 3, 1, 0, 0, 0, []),
  (184, .bipush (20), 2, 0, 0, 0, []),
  (186, .if_icmp .ge (13), 3, 199, 0, 0, []),
  (189, .aload_n 0, 1, 0, 0, 0, []),
  (190, .iload_n 1, 1, 0, 0, 0, []),
  (191, .iload_n 2, 1, 0, 0, 0, []),
  (192, .iload_n 3, 1, 0, 0, 0, []),
  (193, .invokevirtual 387, 3, 2000, 4, 1045, []),
  (196, .goto (60), 3, 256, 0, 0, []),
  (199, .iload_n 3, 1, 0, 0, 0, []),
  (200, .bipush (20), 2, 0, 0, 0, []),
  (202, .if_icmp .ne (22), 3, 224, 0, 0, []),
  (205, .aload_n 0, 1, 0, 0, 0, []),
  (206, .aload_n 0, 1, 0, 0, 0, []),
  (207, .getfield 59, 3, 6, 25, 771, []),
  (210, .sipush (13000), 3, 0, 0, 0, []),
  (213, .iload_n 1, 1, 0, 0, 0, []),
  (214, .imul, 1, 0, 0, 0, []),
  (215, .iload_n 2, 1, 0, 0, 0, []),
  (216, .iadd, 1, 0, 0, 0, []),
  (217, .iaload, 1, 0, 0, 0, []),
  (218, .invokevirtual 390, 3, 2000, 2, 1048, []),
  (221, .goto (35), 3, 256, 0, 0, []),
  (224, .iload_n 3, 1, 0, 0, 0, []),
  (225, .bipush (21), 2, 0, 0, 0, []),
  (227, .if_icmp .ne (22), 3, 249, 0, 0, []),
  (230, .aload_n 0, 1, 0, 0, 0, []),
  (231, .aload_n 0, 1, 0, 0, 0, []),
  (232, .getfield 59, 3, 6, 25, 771, []),
  (235, .sipush (13000), 3, 0, 0, 0, []),
  (238, .iload_n 1, 1, 0, 0, 0, []),
  (239, .imul, 1, 0, 0, 0, []),
  (240, .iload_n 2, 1, 0, 0, 0, []),
  (241, .iadd, 1, 0, 0, 0, []),
  (242, .iaload, 1, 0, 0, 0, []),
  (243, .invokevirtual 393, 3, 2000, 2, 1052, []),
  (246, .goto (10), 3, 256, 0, 0, []),
  (249, .aload_n 0, 1, 0, 0, 0, []),
  (250, .iload_n 1, 1, 0, 0, 0, []),
  (251, .iload_n 2, 1, 0, 0, 0, []),
  (252, .iload_n 3, 1, 0, 0, 0, []),
  (253, .invokevirtual 396, 3, 2000, 4, 1055, []),
  (256, .return_, 1, 0, 0, 0, [])])
def zm_R_write : zMth := (⟨"DesignReaderModel", "write", "(II)I"⟩, prog_10_method_74_code, 4, (some .int), "DesignReaderModel", 0, 0, [1008, 1006, 107, 1007], [
  (0, .aload_n 0, 1, 0, 0, 0, []),
  (1, .iload_n 1, 1, 0, 0, 0, []),
  (2, .iload_n 2, 1, 0, 0, 0, []),
  (3, .invokevirtual 294, 3, 24, 3, 979, []),
  (6, .ifCond .ne (5), 3, 11, 0, 0, []),
  (9, .iconst (-1), 1, 0, 0, 0, []),
  (10, .ireturn, 1, 0, 0, 0, []),
  (11, .aload_n 0, 1, 0, 0, 0, []),
  (12, .iconst 0, 1, 0, 0, 0, []),
  (13, .putfield 300, 3, 6, 7, 753, []),
  (16, .aload_n 0, 1, 0, 0, 0, []),
  (17, .iload_n 1, 1, 0, 0, 0, []),
  (18, .iload_n 2, 1, 0, 0, 0, []),
  (19, .invokevirtual 326, 3, 35, 3, 1009, []),
  (22, .aload_n 0, 1, 0, 0, 0, []),
  (23, .getfield 300, 3, 6, 7, 753, []),
  (26, .sipush (8000), 3, 0, 0, 0, []),
  (29, .if_icmp .le (5), 3, 34, 0, 0, []),
  (32, .iconst (-1), 1, 0, 0, 0, []),
  (33, .ireturn, 1, 0, 0, 0, []),
  (34, .aload_n 0, 1, 0, 0, 0, []),
  (35, .aload_n 0, 1, 0, 0, 0, []),
  (36, .getfield 300, 3, 6, 7, 753, []),
  (39, .putfield 399, 3, 6, 5, 751, []),
  (42, .iconst 0, 1, 0, 0, 0, []),
  (43, .istore_n 3, 1, 0, 0, 0, []),
  (44, .iload_n 3, 1, 0, 0, 0, []),
  (45, .aload_n 0, 1, 0, 0, 0, []),
  (46, .getfield 300, 3, 6, 7, 753, []),
  (49, .if_icmp .ge (21), 3, 70, 0, 0, []),
  (52, .aload_n 0, 1, 0, 0, 0, []),
  (53, .getfield 13, 3, 6, 4, 750, []),
  (56, .iload_n 3, 1, 0, 0, 0, []),
  (57, .aload_n 0, 1, 0, 0, 0, []),
  (58, .getfield 16, 3, 6, 6, 752, []),
  (61, .iload_n 3, 1, 0, 0, 0, []),
  (62, .iaload, 1, 0, 0, 0, []),
  (63, .iastore, 1, 0, 0, 0, []),
  (64, .iinc 3 (1), 3, 0, 0, 0, []),
  (67, .goto (-23), 3, 44, 0, 0, []),
  (70, .aload_n 0, 1, 0, 0, 0, []),
  (71, .getfield 399, 3, 6, 5, 751, []),
  (74, .ireturn, 1, 0, 0, 0, [])])
def zm_R_written : zMth := (⟨"DesignReaderModel", "written", "(I)I"⟩, prog_10_method_75_code, 2, (some .int), "DesignReaderModel", 0, 0, [1073, 1071, 107, 1072], [
  (0, .iload_n 1, 1, 0, 0, 0, []),
  (1, .ifCond .lt (11), 3, 12, 0, 0, []),
  (4, .iload_n 1, 1, 0, 0, 0, []),
  (5, .aload_n 0, 1, 0, 0, 0, []),
  (6, .getfield 399, 3, 6, 5, 751, []),
  (9, .if_icmp .lt (7), 3, 16, 0, 0, []),
  (12, .iconst (-1), 1, 0, 0, 0, []),
  (13, .goto (9), 3, 22, 0, 0, []),
  (16, .aload_n 0, 1, 0, 0, 0, []),
  (17, .getfield 13, 3, 6, 4, 750, []),
  (20, .iload_n 1, 1, 0, 0, 0, []),
  (21, .iaload, 1, 0, 0, 0, []),
  (22, .ireturn, 1, 0, 0, 0, [])])
def zm_R_again : zMth := (⟨"DesignReaderModel", "again", "()I"⟩, prog_10_method_76_code, 2, (some .int), "DesignReaderModel", 0, 0, [1077, 1075, 107, 1076], [
  (0, .aload_n 0, 1, 0, 0, 0, []),
  (1, .aload_n 0, 1, 0, 0, 0, []),
  (2, .getfield 399, 3, 6, 5, 751, []),
  (5, .putfield 134, 3, 6, 2, 748, []),
  (8, .iconst 0, 1, 0, 0, 0, []),
  (9, .istore_n 1, 1, 0, 0, 0, []),
  (10, .iload_n 1, 1, 0, 0, 0, []),
  (11, .aload_n 0, 1, 0, 0, 0, []),
  (12, .getfield 134, 3, 6, 2, 748, []),
  (15, .if_icmp .ge (21), 3, 36, 0, 0, []),
  (18, .aload_n 0, 1, 0, 0, 0, []),
  (19, .getfield 9, 3, 6, 1, 747, []),
  (22, .iload_n 1, 1, 0, 0, 0, []),
  (23, .aload_n 0, 1, 0, 0, 0, []),
  (24, .getfield 13, 3, 6, 4, 750, []),
  (27, .iload_n 1, 1, 0, 0, 0, []),
  (28, .iaload, 1, 0, 0, 0, []),
  (29, .iastore, 1, 0, 0, 0, []),
  (30, .iinc 1 (1), 3, 0, 0, 0, []),
  (33, .goto (-23), 3, 10, 0, 0, []),
  (36, .aload_n 0, 1, 0, 0, 0, []),
  (37, .getfield 134, 3, 6, 2, 748, []),
  (40, .ireturn, 1, 0, 0, 0, [])])
def zm_N_init : zMth := (⟨"DesignReader$NameTable", "<init>", "()V"⟩, prog_3_method_1_code, 1, none, "DesignReader$NameTable", 4, 21505, [194, 193, 102], [
  (0, .aload_n 0, 1, 0, 0, 0, []),
  (1, .invokespecial 3, 3, 1000, 1, 195, []),
  (4, .aload_n 0, 1, 0, 0, 0, []),
  (5, .sipush (10240), 3, 0, 0, 0, []),
  (8, .newarray .byte, 2, 1, 0, 0, []),
  (10, .putfield 11, 3, 1, 0, 199, []),
  (13, .aload_n 0, 1, 0, 0, 0, []),
  (14, .sipush (5121), 3, 0, 0, 0, []),
  (17, .newarray .int, 2, 0, 0, 0, []),
  (19, .putfield 15, 3, 1, 1, 200, []),
  (22, .aload_n 0, 1, 0, 0, 0, []),
  (23, .sipush (1024), 3, 0, 0, 0, []),
  (26, .newarray .int, 2, 0, 0, 0, []),
  (28, .putfield 19, 3, 1, 2, 201, []),
  (31, .aload_n 0, 1, 0, 0, 0, []),
  (32, .sipush (5120), 3, 0, 0, 0, []),
  (35, .newarray .int, 2, 0, 0, 0, []),
  (37, .putfield 22, 3, 1, 3, 202, []),
  (40, .aload_n 0, 1, 0, 0, 0, []),
  (41, .getfield 19, 3, 1, 2, 201, []),
  (44, .iconst (-1), 1, 0, 0, 0, []),
  (45, .invokestatic 25, 3, 65, 2, 196, []),
  (48, .return_, 1, 0, 0, 0, [])])
def zm_N_byteOf : zMth := (⟨"DesignReader$NameTable", "byteOf", "(II)I"⟩, prog_3_method_4_code, 3, (some .int), "DesignReader$NameTable", 0, 0, [634, 632, 102, 633], [
  (0, .iload_n 1, 1, 0, 0, 0, []),
  (1, .ifCond .lt (34), 3, 35, 0, 0, []),
  (4, .iload_n 1, 1, 0, 0, 0, []),
  (5, .aload_n 0, 1, 0, 0, 0, []),
  (6, .getfield 39, 3, 1, 4, 204, []),
  (9, .if_icmp .ge (26), 3, 35, 0, 0, []),
  (12, .iload_n 2, 1, 0, 0, 0, []),
  (13, .ifCond .lt (22), 3, 35, 0, 0, []),
  (16, .iload_n 2, 1, 0, 0, 0, []),
  (17, .aload_n 0, 1, 0, 0, 0, []),
  (18, .getfield 15, 3, 1, 1, 200, []),
  (21, .iload_n 1, 1, 0, 0, 0, []),
  (22, .iconst 1, 1, 0, 0, 0, []),
  (23, .iadd, 1, 0, 0, 0, []),
  (24, .iaload, 1, 0, 0, 0, []),
  (25, .aload_n 0, 1, 0, 0, 0, []),
  (26, .getfield 15, 3, 1, 1, 200, []),
  (29, .iload_n 1, 1, 0, 0, 0, []),
  (30, .iaload, 1, 0, 0, 0, []),
  (31, .isub, 1, 0, 0, 0, []),
  (32, .if_icmp .lt (5), 3, 37, 0, 0, []),
  (35, .iconst (-1), 1, 0, 0, 0, []),
  (36, .ireturn, 1, 0, 0, 0, []),
  (37, .aload_n 0, 1, 0, 0, 0, []),
  (38, .getfield 11, 3, 1, 0, 199, []),
  (41, .aload_n 0, 1, 0, 0, 0, []),
  (42, .getfield 15, 3, 1, 1, 200, []),
  (45, .iload_n 1, 1, 0, 0, 0, []),
  (46, .iaload, 1, 0, 0, 0, []),
  (47, .iload_n 2, 1, 0, 0, 0, []),
  (48, .iadd, 1, 0, 0, 0, []),
  (49, .baload, 1, 0, 0, 0, []),
  (50, .ireturn, 1, 0, 0, 0, [])])
def zm_P_init : zMth := (⟨"DesignReader$Parser", "<init>", "(LDesignReader$Tokens;LDesignReader$NameTable;LDesignReader$Tree;)V"⟩, prog_4_method_1_code, 4, none, "DesignReader$Parser", 3, 1440, [251, 250, 105], [
  (0, .aload_n 0, 1, 0, 0, 0, []),
  (1, .invokespecial 3, 3, 1000, 1, 252, []),
  (4, .aload_n 0, 1, 0, 0, 0, []),
  (5, .sipush (480), 3, 0, 0, 0, []),
  (8, .newarray .int, 2, 0, 0, 0, []),
  (10, .putfield 11, 3, 3, 3, 256, []),
  (13, .aload_n 0, 1, 0, 0, 0, []),
  (14, .sipush (480), 3, 0, 0, 0, []),
  (17, .newarray .int, 2, 0, 0, 0, []),
  (19, .putfield 15, 3, 3, 4, 257, []),
  (22, .aload_n 0, 1, 0, 0, 0, []),
  (23, .sipush (480), 3, 0, 0, 0, []),
  (26, .newarray .int, 2, 0, 0, 0, []),
  (28, .putfield 18, 3, 3, 5, 258, []),
  (31, .aload_n 0, 1, 0, 0, 0, []),
  (32, .aload_n 1, 1, 0, 0, 0, []),
  (33, .putfield 21, 3, 3, 0, 253, []),
  (36, .aload_n 0, 1, 0, 0, 0, []),
  (37, .aload_n 2, 1, 0, 0, 0, []),
  (38, .putfield 25, 3, 3, 1, 254, []),
  (41, .aload_n 0, 1, 0, 0, 0, []),
  (42, .aload_n 3, 1, 0, 0, 0, []),
  (43, .putfield 29, 3, 3, 2, 255, []),
  (46, .return_, 1, 0, 0, 0, [])])
def zm_P_design : zMth := (⟨"DesignReader$Parser", "design", "(LDesignReader$Tree;)I"⟩, prog_4_method_2_code, 5, (some .int), "DesignReader$Parser", 0, 0, [469, 467, 105, 468], [
  (0, .aload_n 0, 1, 0, 0, 0, []),
  (1, .aload_n 1, 1, 0, 0, 0, []),
  (2, .putfield 29, 3, 3, 2, 255, []),
  (5, .aload_n 0, 1, 0, 0, 0, []),
  (6, .getfield 29, 3, 3, 2, 255, []),
  (9, .invokevirtual 33, 3, 52, 1, 470, []),
  (12, .iconst 0, 1, 0, 0, 0, []),
  (13, .istore_n 2, 1, 0, 0, 0, []),
  (14, .iload_n 2, 1, 0, 0, 0, []),
  (15, .sipush (8000), 3, 0, 0, 0, []),
  (18, .if_icmp .ge (66), 3, 84, 0, 0, []),
  (21, .aload_n 0, 1, 0, 0, 0, []),
  (22, .iconst 0, 1, 0, 0, 0, []),
  (23, .invokevirtual 40, 3, 43, 2, 471, []),
  (26, .ifCond .ne (58), 3, 84, 0, 0, []),
  (29, .aload_n 0, 1, 0, 0, 0, []),
  (30, .getfield 29, 3, 3, 2, 255, []),
  (33, .getfield 44, 3, 0, 7, 170, []),
  (36, .istore_n 3, 1, 0, 0, 0, []),
  (37, .aload_n 0, 1, 0, 0, 0, []),
  (38, .getfield 25, 3, 3, 1, 254, []),
  (41, .getfield 48, 3, 1, 4, 203, []),
  (44, .istore 4, 2, 0, 0, 0, []),
  (46, .aload_n 0, 1, 0, 0, 0, []),
  (47, .invokevirtual 51, 3, 2000, 1, 478, []),
  (50, .ifCond .ne (28), 3, 78, 0, 0, []),
  (53, .aload_n 0, 1, 0, 0, 0, []),
  (54, .getfield 25, 3, 3, 1, 254, []),
  (57, .iload 4, 2, 0, 0, 0, []),
  (59, .invokevirtual 55, 3, 2000, 2, 595, []),
  (62, .aload_n 0, 1, 0, 0, 0, []),
  (63, .getfield 29, 3, 3, 2, 255, []),
  (66, .iload_n 3, 1, 0, 0, 0, []),
  (67, .invokevirtual 59, 3, 54, 2, 599, []),
  (70, .aload_n 0, 1, 0, 0, 0, []),
  (71, .getfield 21, 3, 3, 0, 253, []),
  (74, .invokevirtual 62, 3, 2000, 1, 484, []),
  (77, .ireturn, 1, 0, 0, 0, []),
  (78, .iinc 2 (1), 3, 0, 0, 0, []),
  (81, .goto (-67), 3, 14, 0, 0, []),
  (84, .aload_n 0, 1, 0, 0, 0, []),
  (85, .getfield 29, 3, 3, 2, 255, []),
  (88, .aload_n 0, 1, 0, 0, 0, []),
  (89, .getfield 29, 3, 3, 2, 255, []),
  (92, .getfield 44, 3, 0, 7, 170, []),
  (95, .invokevirtual 59, 3, 54, 2, 599, []),
  (98, .iconst (-1), 1, 0, 0, 0, []),
  (99, .ireturn, 1, 0, 0, 0, [])])
def zm_P_at : zMth := (⟨"DesignReader$Parser", "at", "(I)Z"⟩, prog_4_method_3_code, 2, (some .boolean), "DesignReader$Parser", 0, 0, [473, 472, 105, 10], [
  (0, .aload_n 0, 1, 0, 0, 0, []),
  (1, .getfield 21, 3, 3, 0, 253, []),
  (4, .invokevirtual 68, 3, 46, 1, 474, []),
  (7, .iload_n 1, 1, 0, 0, 0, []),
  (8, .if_icmp .ne (7), 3, 15, 0, 0, []),
  (11, .iconst 1, 1, 0, 0, 0, []),
  (12, .goto (4), 3, 16, 0, 0, []),
  (15, .iconst 0, 1, 0, 0, 0, []),
  (16, .ireturn, 1, 1, 0, 0, [])])
def zm_K_init : zMth := (⟨"DesignReader$Tokens", "<init>", "([B)V"⟩, prog_6_method_1_code, 2, none, "DesignReader$Tokens", 3, 24003, [222, 221, 104], [
  (0, .aload_n 0, 1, 0, 0, 0, []),
  (1, .invokespecial 3, 3, 1000, 1, 223, []),
  (4, .aload_n 0, 1, 0, 0, 0, []),
  (5, .sipush (8001), 3, 0, 0, 0, []),
  (8, .newarray .int, 2, 0, 0, 0, []),
  (10, .putfield 9, 3, 2, 0, 224, []),
  (13, .aload_n 0, 1, 0, 0, 0, []),
  (14, .sipush (8001), 3, 0, 0, 0, []),
  (17, .newarray .int, 2, 0, 0, 0, []),
  (19, .putfield 15, 3, 2, 1, 225, []),
  (22, .aload_n 0, 1, 0, 0, 0, []),
  (23, .sipush (8001), 3, 0, 0, 0, []),
  (26, .newarray .int, 2, 0, 0, 0, []),
  (28, .putfield 18, 3, 2, 2, 226, []),
  (31, .aload_n 0, 1, 0, 0, 0, []),
  (32, .aload_n 1, 1, 0, 0, 0, []),
  (33, .putfield 21, 3, 2, 3, 227, []),
  (36, .return_, 1, 0, 0, 0, [])])
def zm_K_scan : zMth := (⟨"DesignReader$Tokens", "scan", "(I)V"⟩, prog_6_method_2_code, 4, none, "DesignReader$Tokens", 0, 0, [341, 339, 104, 340], [
  (0, .aload_n 0, 1, 0, 0, 0, []),
  (1, .iload_n 1, 1, 0, 0, 0, []),
  (2, .aload_n 0, 1, 0, 0, 0, []),
  (3, .getfield 21, 3, 2, 3, 227, []),
  (6, .arraylength, 1, 0, 0, 0, []),
  (7, .invokestatic 25, 3, 1001, 2, 342, []),
  (10, .putfield 31, 3, 2, 4, 229, []),
  (13, .aload_n 0, 1, 0, 0, 0, []),
  (14, .iconst 0, 1, 0, 0, 0, []),
  (15, .putfield 35, 3, 2, 5, 230, []),
  (18, .aload_n 0, 1, 0, 0, 0, []),
  (19, .iconst 0, 1, 0, 0, 0, []),
  (20, .putfield 38, 3, 2, 6, 231, []),
  (23, .iconst 0, 1, 0, 0, 0, []),
  (24, .istore_n 2, 1, 0, 0, 0, []),
  (25, .iconst 0, 1, 0, 0, 0, []),
  (26, .istore_n 3, 1, 0, 0, 0, []),
  (27, .iload_n 3, 1, 0, 0, 0, []),
  (28, .sipush (8000), 3, 0, 0, 0, []),
  (31, .if_icmp .gt (24), 3, 55, 0, 0, []),
  (34, .iload_n 2, 1, 0, 0, 0, []),
  (35, .iconst (-1), 1, 0, 0, 0, []),
  (36, .if_icmp .eq (19), 3, 55, 0, 0, []),
  (39, .aload_n 0, 1, 0, 0, 0, []),
  (40, .aload_n 0, 1, 0, 0, 0, []),
  (41, .iload_n 2, 1, 0, 0, 0, []),
  (42, .invokevirtual 41, 3, 48, 2, 343, []),
  (45, .invokevirtual 45, 3, 49, 2, 349, []),
  (48, .istore_n 2, 1, 0, 0, 0, []),
  (49, .iinc 3 (1), 3, 0, 0, 0, []),
  (52, .goto (-25), 3, 27, 0, 0, []),
  (55, .return_, 1, 0, 0, 0, [])])
def zm_K_kind : zMth := (⟨"DesignReader$Tokens", "kind", "()I"⟩, prog_6_method_3_code, 1, (some .int), "DesignReader$Tokens", 0, 0, [477, 475, 104, 476], [
  (0, .aload_n 0, 1, 0, 0, 0, []),
  (1, .getfield 9, 3, 2, 0, 224, []),
  (4, .aload_n 0, 1, 0, 0, 0, []),
  (5, .getfield 38, 3, 2, 6, 231, []),
  (8, .iaload, 1, 0, 0, 0, []),
  (9, .ireturn, 1, 0, 0, 0, [])])
def zm_K_byteAt : zMth := (⟨"DesignReader$Tokens", "byteAt", "(I)I"⟩, prog_6_method_7_code, 2, (some .int), "DesignReader$Tokens", 0, 0, [348, 347, 104, 3], [
  (0, .iload_n 1, 1, 0, 0, 0, []),
  (1, .ifCond .lt (24), 3, 25, 0, 0, []),
  (4, .iload_n 1, 1, 0, 0, 0, []),
  (5, .aload_n 0, 1, 0, 0, 0, []),
  (6, .getfield 31, 3, 2, 4, 229, []),
  (9, .if_icmp .ge (16), 3, 25, 0, 0, []),
  (12, .aload_n 0, 1, 0, 0, 0, []),
  (13, .getfield 21, 3, 2, 3, 227, []),
  (16, .iload_n 1, 1, 0, 0, 0, []),
  (17, .baload, 1, 0, 0, 0, []),
  (18, .sipush (255), 3, 0, 0, 0, []),
  (21, .iand, 1, 0, 0, 0, []),
  (22, .goto (4), 3, 26, 0, 0, []),
  (25, .iconst (-1), 1, 0, 0, 0, []),
  (26, .ireturn, 1, 0, 0, 0, [])])
def zm_K_behindBlanks : zMth := (⟨"DesignReader$Tokens", "behindBlanks", "(I)I"⟩, prog_6_method_8_code, 5, (some .int), "DesignReader$Tokens", 0, 0, [345, 344, 104, 2], [
  (0, .iconst 0, 1, 0, 0, 0, []),
  (1, .istore_n 2, 1, 0, 0, 0, []),
  (2, .iload_n 1, 1, 0, 0, 0, []),
  (3, .istore_n 3, 1, 0, 0, 0, []),
  (4, .iload_n 3, 1, 0, 0, 0, []),
  (5, .aload_n 0, 1, 0, 0, 0, []),
  (6, .getfield 31, 3, 2, 4, 229, []),
  (9, .if_icmp .ge (90), 3, 99, 0, 0, []),
  (12, .aload_n 0, 1, 0, 0, 0, []),
  (13, .iload_n 3, 1, 0, 0, 0, []),
  (14, .invokevirtual 48, 3, 47, 2, 346, []),
  (17, .istore 4, 2, 0, 0, 0, []),
  (19, .iload_n 2, 1, 0, 0, 0, []),
  (20, .ifCond .eq (19), 3, 39, 0, 0, []),
  (23, .iload 4, 2, 0, 0, 0, []),
  (25, .bipush (10), 2, 0, 0, 0, []),
  (27, .if_icmp .eq (7), 3, 34, 0, 0, []),
  (30, .iconst 1, 1, 0, 0, 0, []),
  (31, .goto (4), 3, 35, 0, 0, []),
  (34, .iconst 0, 1, 0, 0, 0, []),
  (35, .istore_n 2, 1, 0, 0, 0, []),
  (36, .goto (57), 3, 93, 0, 0, []),
  (39, .iload 4, 2, 0, 0, 0, []),
  (41, .bipush (47), 2, 0, 0, 0, []),
  (43, .if_icmp .ne (20), 3, 63, 0, 0, []),
  (46, .aload_n 0, 1, 0, 0, 0, []),
  (47, .iload_n 3, 1, 0, 0, 0, []),
  (48, .iconst 1, 1, 0, 0, 0, []),
  (49, .iadd, 1, 0, 0, 0, []),
  (50, .invokevirtual 48, 3, 47, 2, 346, []),
  (53, .bipush (47), 2, 0, 0, 0, []),
  (55, .if_icmp .ne (8), 3, 63, 0, 0, []),
  (58, .iconst 1, 1, 0, 0, 0, []),
  (59, .istore_n 2, 1, 0, 0, 0, []),
  (60, .goto (33), 3, 93, 0, 0, []),
  (63, .iload 4, 2, 0, 0, 0, []),
  (65, .bipush (9), 2, 0, 0, 0, []),
  (67, .if_icmp .eq (26), 3, 93, 0, 0, []),
  (70, .iload 4, 2, 0, 0, 0, []),
  (72, .bipush (10), 2, 0, 0, 0, []),
  (74, .if_icmp .eq (19), 3, 93, 0, 0, []),
  (77, .iload 4, 2, 0, 0, 0, []),
  (79, .bipush (13), 2, 0, 0, 0, []),
  (81, .if_icmp .eq (12), 3, 93, 0, 0, []),
  (84, .iload 4, 2, 0, 0, 0, []),
  (86, .bipush (32), 2, 0, 0, 0, []),
  (88, .if_icmp .eq (5), 3, 93, 0, 0, []),
  (91, .iload_n 3, 1, 0, 0, 0, []),
  (92, .ireturn, 1, 0, 0, 0, []),
  (93, .iinc 3 (1), 3, 0, 0, 0, []),
  (96, .goto (-92), 3, 4, 0, 0, []),
  (99, .aload_n 0, 1, 0, 0, 0, []),
  (100, .getfield 31, 3, 2, 4, 229, []),
  (103, .ireturn, 1, 0, 0, 0, [])])
def zm_K_scanToken : zMth := (⟨"DesignReader$Tokens", "scanToken", "(I)I"⟩, prog_6_method_9_code, 3, (some .int), "DesignReader$Tokens", 0, 0, [351, 350, 104, 4], [
  (0, .aload_n 0, 1, 0, 0, 0, []),
  (1, .iload_n 1, 1, 0, 0, 0, []),
  (2, .invokevirtual 48, 3, 47, 2, 346, []),
  (5, .istore_n 2, 1, 0, 0, 0, []),
  (6, .iload_n 2, 1, 0, 0, 0, []),
  (7, .iconst (-1), 1, 0, 0, 0, []),
  (8, .if_icmp .ne (15), 3, 23, 0, 0, []),
  (11, .aload_n 0, 1, 0, 0, 0, []),
  (12, .iconst 0, 1, 0, 0, 0, []),
  (13, .aload_n 0, 1, 0, 0, 0, []),
  (14, .getfield 31, 3, 2, 4, 229, []),
  (17, .iconst 0, 1, 0, 0, 0, []),
  (18, .iconst (-1), 1, 0, 0, 0, []),
  (19, .invokevirtual 53, 3, 50, 5, 352, []),
  (22, .ireturn, 1, 0, 0, 0, []),
  (23, .iload_n 2, 1, 0, 0, 0, []),
  (24, .invokestatic 57, 3, 2000, 1, 0, []),
  (27, .ifCond .eq (9), 3, 36, 0, 0, []),
  (30, .aload_n 0, 1, 0, 0, 0, []),
  (31, .iload_n 1, 1, 0, 0, 0, []),
  (32, .invokevirtual 61, 3, 2000, 2, 357, []),
  (35, .ireturn, 1, 0, 0, 0, []),
  (36, .iload_n 2, 1, 0, 0, 0, []),
  (37, .invokestatic 64, 3, 2000, 1, 0, []),
  (40, .ifCond .eq (11), 3, 51, 0, 0, []),
  (43, .aload_n 0, 1, 0, 0, 0, []),
  (44, .iload_n 1, 1, 0, 0, 0, []),
  (45, .invokevirtual 67, 3, 2000, 2, 373, []),
  (48, .goto (8), 3, 56, 0, 0, []),
  (51, .aload_n 0, 1, 0, 0, 0, []),
  (52, .iload_n 1, 1, 0, 0, 0, []),
  (53, .invokevirtual 70, 3, 2000, 2, 383, []),
  (56, .ireturn, 1, 0, 0, 0, [])])
def zm_K_keep : zMth := (⟨"DesignReader$Tokens", "keep", "(IIII)I"⟩, prog_6_method_10_code, 5, (some .int), "DesignReader$Tokens", 0, 0, [354, 353, 104, 5], [
  (0, .aload_n 0, 1, 0, 0, 0, []),
  (1, .getfield 35, 3, 2, 5, 230, []),
  (4, .aload_n 0, 1, 0, 0, 0, []),
  (5, .getfield 9, 3, 2, 0, 224, []),
  (8, .arraylength, 1, 0, 0, 0, []),
  (9, .if_icmp .ge (43), 3, 52, 0, 0, []),
  (12, .aload_n 0, 1, 0, 0, 0, []),
  (13, .getfield 9, 3, 2, 0, 224, []),
  (16, .aload_n 0, 1, 0, 0, 0, []),
  (17, .getfield 35, 3, 2, 5, 230, []),
  (20, .iload_n 1, 1, 0, 0, 0, []),
  (21, .iastore, 1, 0, 0, 0, []),
  (22, .aload_n 0, 1, 0, 0, 0, []),
  (23, .getfield 15, 3, 2, 1, 225, []),
  (26, .aload_n 0, 1, 0, 0, 0, []),
  (27, .getfield 35, 3, 2, 5, 230, []),
  (30, .iload_n 2, 1, 0, 0, 0, []),
  (31, .iastore, 1, 0, 0, 0, []),
  (32, .aload_n 0, 1, 0, 0, 0, []),
  (33, .getfield 18, 3, 2, 2, 226, []),
  (36, .aload_n 0, 1, 0, 0, 0, []),
  (37, .getfield 35, 3, 2, 5, 230, []),
  (40, .iload_n 3, 1, 0, 0, 0, []),
  (41, .iastore, 1, 0, 0, 0, []),
  (42, .aload_n 0, 1, 0, 0, 0, []),
  (43, .dup, 1, 0, 0, 0, []),
  (44, .getfield 35, 3, 2, 5, 230, []),
  (47, .iconst 1, 1, 0, 0, 0, []),
  (48, .iadd, 1, 0, 0, 0, []),
  (49, .putfield 35, 3, 2, 5, 230, []),
  (52, .iload 4, 2, 0, 0, 0, []),
  (54, .ireturn, 1, 0, 0, 0, [])])
def zm_T_init : zMth := (⟨"DesignReader$Tree", "<init>", "()V"⟩, prog_7_method_1_code, 1, none, "DesignReader$Tree", 7, 84077, [128, 127, 100], [
  (0, .aload_n 0, 1, 0, 0, 0, []),
  (1, .invokespecial 5, 3, 1000, 1, 129, []),
  (4, .aload_n 0, 1, 0, 0, 0, []),
  (5, .sipush (12011), 3, 0, 0, 0, []),
  (8, .newarray .int, 2, 0, 0, 0, []),
  (10, .putfield 11, 3, 0, 0, 148, []),
  (13, .aload_n 0, 1, 0, 0, 0, []),
  (14, .sipush (12011), 3, 0, 0, 0, []),
  (17, .newarray .int, 2, 0, 0, 0, []),
  (19, .putfield 15, 3, 0, 1, 152, []),
  (22, .aload_n 0, 1, 0, 0, 0, []),
  (23, .sipush (12011), 3, 0, 0, 0, []),
  (26, .newarray .int, 2, 0, 0, 0, []),
  (28, .putfield 18, 3, 0, 2, 155, []),
  (31, .aload_n 0, 1, 0, 0, 0, []),
  (32, .sipush (12011), 3, 0, 0, 0, []),
  (35, .newarray .int, 2, 0, 0, 0, []),
  (37, .putfield 21, 3, 0, 3, 158, []),
  (40, .aload_n 0, 1, 0, 0, 0, []),
  (41, .sipush (12011), 3, 0, 0, 0, []),
  (44, .newarray .int, 2, 0, 0, 0, []),
  (46, .putfield 24, 3, 0, 4, 161, []),
  (49, .aload_n 0, 1, 0, 0, 0, []),
  (50, .sipush (12011), 3, 0, 0, 0, []),
  (53, .newarray .int, 2, 0, 0, 0, []),
  (55, .putfield 27, 3, 0, 5, 164, []),
  (58, .aload_n 0, 1, 0, 0, 0, []),
  (59, .sipush (12011), 3, 0, 0, 0, []),
  (62, .newarray .int, 2, 0, 0, 0, []),
  (64, .putfield 30, 3, 0, 6, 167, []),
  (67, .aload_n 0, 1, 0, 0, 0, []),
  (68, .invokevirtual 33, 3, 52, 1, 130, []),
  (71, .aload_n 0, 1, 0, 0, 0, []),
  (72, .iconst 1, 1, 0, 0, 0, []),
  (73, .invokevirtual 36, 3, 54, 2, 138, []),
  (76, .return_, 1, 0, 0, 0, [])])
def zm_T_begin : zMth := (⟨"DesignReader$Tree", "begin", "()V"⟩, prog_7_method_2_code, 1, none, "DesignReader$Tree", 0, 0, [133, 131, 100, 132], [
  (0, .aload_n 0, 1, 0, 0, 0, []),
  (1, .iconst 0, 1, 0, 0, 0, []),
  (2, .putfield 40, 3, 0, 7, 169, []),
  (5, .aload_n 0, 1, 0, 0, 0, []),
  (6, .iconst 0, 1, 0, 0, 0, []),
  (7, .iconst (-1), 1, 0, 0, 0, []),
  (8, .iconst 0, 1, 0, 0, 0, []),
  (9, .invokevirtual 46, 3, 53, 4, 134, []),
  (12, .pop, 1, 0, 0, 0, []),
  (13, .return_, 1, 0, 0, 0, [])])
def zm_T_add : zMth := (⟨"DesignReader$Tree", "add", "(III)I"⟩, prog_7_method_3_code, 5, (some .int), "DesignReader$Tree", 0, 0, [137, 135, 100, 136], [
  (0, .aload_n 0, 1, 0, 0, 0, []),
  (1, .getfield 40, 3, 0, 7, 169, []),
  (4, .istore 4, 2, 0, 0, 0, []),
  (6, .iload 4, 2, 0, 0, 0, []),
  (8, .sipush (12010), 3, 0, 0, 0, []),
  (11, .if_icmp .ge (45), 3, 56, 0, 0, []),
  (14, .aload_n 0, 1, 0, 0, 0, []),
  (15, .getfield 11, 3, 0, 0, 148, []),
  (18, .iload 4, 2, 0, 0, 0, []),
  (20, .iload_n 1, 1, 0, 0, 0, []),
  (21, .iastore, 1, 0, 0, 0, []),
  (22, .aload_n 0, 1, 0, 0, 0, []),
  (23, .getfield 15, 3, 0, 1, 152, []),
  (26, .iload 4, 2, 0, 0, 0, []),
  (28, .iload_n 2, 1, 0, 0, 0, []),
  (29, .iastore, 1, 0, 0, 0, []),
  (30, .aload_n 0, 1, 0, 0, 0, []),
  (31, .getfield 18, 3, 0, 2, 155, []),
  (34, .iload 4, 2, 0, 0, 0, []),
  (36, .iload_n 3, 1, 0, 0, 0, []),
  (37, .iastore, 1, 0, 0, 0, []),
  (38, .aload_n 0, 1, 0, 0, 0, []),
  (39, .getfield 21, 3, 0, 3, 158, []),
  (42, .iload 4, 2, 0, 0, 0, []),
  (44, .iconst 1, 1, 0, 0, 0, []),
  (45, .iastore, 1, 0, 0, 0, []),
  (46, .aload_n 0, 1, 0, 0, 0, []),
  (47, .dup, 1, 0, 0, 0, []),
  (48, .getfield 40, 3, 0, 7, 169, []),
  (51, .iconst 1, 1, 0, 0, 0, []),
  (52, .iadd, 1, 0, 0, 0, []),
  (53, .putfield 40, 3, 0, 7, 169, []),
  (56, .iload 4, 2, 0, 0, 0, []),
  (58, .ireturn, 1, 0, 0, 0, [])])
def zm_T_finish : zMth := (⟨"DesignReader$Tree", "finish", "(I)V"⟩, prog_7_method_6_code, 5, none, "DesignReader$Tree", 0, 0, [141, 139, 100, 140], [
  (0, .aload_n 0, 1, 0, 0, 0, []),
  (1, .iconst 1, 1, 0, 0, 0, []),
  (2, .iload_n 1, 1, 0, 0, 0, []),
  (3, .aload_n 0, 1, 0, 0, 0, []),
  (4, .getfield 40, 3, 0, 7, 169, []),
  (7, .invokestatic 56, 3, 1001, 2, 142, []),
  (10, .invokestatic 62, 3, 1002, 2, 145, []),
  (13, .putfield 40, 3, 0, 7, 169, []),
  (16, .aload_n 0, 1, 0, 0, 0, []),
  (17, .getfield 21, 3, 0, 3, 158, []),
  (20, .iconst 0, 1, 0, 0, 0, []),
  (21, .aload_n 0, 1, 0, 0, 0, []),
  (22, .getfield 40, 3, 0, 7, 169, []),
  (25, .iastore, 1, 0, 0, 0, []),
  (26, .aload_n 0, 1, 0, 0, 0, []),
  (27, .getfield 24, 3, 0, 4, 161, []),
  (30, .iconst 0, 1, 0, 0, 0, []),
  (31, .iconst 0, 1, 0, 0, 0, []),
  (32, .iastore, 1, 0, 0, 0, []),
  (33, .aload_n 0, 1, 0, 0, 0, []),
  (34, .getfield 27, 3, 0, 5, 164, []),
  (37, .iconst 0, 1, 0, 0, 0, []),
  (38, .iconst (-1), 1, 0, 0, 0, []),
  (39, .iastore, 1, 0, 0, 0, []),
  (40, .iconst 1, 1, 0, 0, 0, []),
  (41, .istore_n 2, 1, 0, 0, 0, []),
  (42, .iload_n 2, 1, 0, 0, 0, []),
  (43, .aload_n 0, 1, 0, 0, 0, []),
  (44, .getfield 40, 3, 0, 7, 169, []),
  (47, .if_icmp .ge (87), 3, 134, 0, 0, []),
  (50, .iload_n 2, 1, 0, 0, 0, []),
  (51, .iconst 1, 1, 0, 0, 0, []),
  (52, .isub, 1, 0, 0, 0, []),
  (53, .istore_n 3, 1, 0, 0, 0, []),
  (54, .iconst 0, 1, 0, 0, 0, []),
  (55, .istore 4, 2, 0, 0, 0, []),
  (57, .iload 4, 2, 0, 0, 0, []),
  (59, .iload_n 2, 1, 0, 0, 0, []),
  (60, .if_icmp .ge (32), 3, 92, 0, 0, []),
  (63, .iload_n 3, 1, 0, 0, 0, []),
  (64, .ifCond .le (28), 3, 92, 0, 0, []),
  (67, .iload_n 3, 1, 0, 0, 0, []),
  (68, .aload_n 0, 1, 0, 0, 0, []),
  (69, .getfield 21, 3, 0, 3, 158, []),
  (72, .iload_n 3, 1, 0, 0, 0, []),
  (73, .iaload, 1, 0, 0, 0, []),
  (74, .iadd, 1, 0, 0, 0, []),
  (75, .iload_n 2, 1, 0, 0, 0, []),
  (76, .if_icmp .gt (16), 3, 92, 0, 0, []),
  (79, .aload_n 0, 1, 0, 0, 0, []),
  (80, .getfield 27, 3, 0, 5, 164, []),
  (83, .iload_n 3, 1, 0, 0, 0, []),
  (84, .iaload, 1, 0, 0, 0, []),
  (85, .istore_n 3, 1, 0, 0, 0, []),
  (86, .iinc 4 (1), 3, 0, 0, 0, []),
  (89, .goto (-32), 3, 57, 0, 0, []),
  (92, .aload_n 0, 1, 0, 0, 0, []),
  (93, .getfield 30, 3, 0, 6, 167, []),
  (96, .iload_n 2, 1, 0, 0, 0, []),
  (97, .aload_n 0, 1, 0, 0, 0, []),
  (98, .getfield 24, 3, 0, 4, 161, []),
  (101, .iload_n 3, 1, 0, 0, 0, []),
  (102, .iaload, 1, 0, 0, 0, []),
  (103, .iastore, 1, 0, 0, 0, []),
  (104, .aload_n 0, 1, 0, 0, 0, []),
  (105, .getfield 24, 3, 0, 4, 161, []),
  (108, .iload_n 3, 1, 0, 0, 0, []),
  (109, .dup2, 1, 0, 0, 0, []),
  (110, .iaload, 1, 0, 0, 0, []),
  (111, .iconst 1, 1, 0, 0, 0, []),
  (112, .iadd, 1, 0, 0, 0, []),
  (113, .iastore, 1, 0, 0, 0, []),
  (114, .aload_n 0, 1, 0, 0, 0, []),
  (115, .getfield 24, 3, 0, 4, 161, []),
  (118, .iload_n 2, 1, 0, 0, 0, []),
  (119, .iconst 0, 1, 0, 0, 0, []),
  (120, .iastore, 1, 0, 0, 0, []),
  (121, .aload_n 0, 1, 0, 0, 0, []),
  (122, .getfield 27, 3, 0, 5, 164, []),
  (125, .iload_n 2, 1, 0, 0, 0, []),
  (126, .iload_n 3, 1, 0, 0, 0, []),
  (127, .iastore, 1, 0, 0, 0, []),
  (128, .iinc 2 (1), 3, 0, 0, 0, []),
  (131, .goto (-89), 3, 42, 0, 0, []),
  (134, .return_, 1, 0, 0, 0, [])])
def zm_T_partOf : zMth := (⟨"DesignReader$Tree", "partOf", "(II)I"⟩, prog_7_method_7_code, 5, (some .int), "DesignReader$Tree", 0, 0, [618, 616, 100, 617], [
  (0, .iload_n 2, 1, 0, 0, 0, []),
  (1, .ifCond .lt (13), 3, 14, 0, 0, []),
  (4, .iload_n 2, 1, 0, 0, 0, []),
  (5, .aload_n 0, 1, 0, 0, 0, []),
  (6, .getfield 24, 3, 0, 4, 161, []),
  (9, .iload_n 1, 1, 0, 0, 0, []),
  (10, .iaload, 1, 0, 0, 0, []),
  (11, .if_icmp .lt (5), 3, 16, 0, 0, []),
  (14, .iconst (-1), 1, 0, 0, 0, []),
  (15, .ireturn, 1, 0, 0, 0, []),
  (16, .iload_n 1, 1, 0, 0, 0, []),
  (17, .iconst 1, 1, 0, 0, 0, []),
  (18, .iadd, 1, 0, 0, 0, []),
  (19, .istore_n 3, 1, 0, 0, 0, []),
  (20, .iconst 0, 1, 0, 0, 0, []),
  (21, .istore 4, 2, 0, 0, 0, []),
  (23, .iload 4, 2, 0, 0, 0, []),
  (25, .iload_n 2, 1, 0, 0, 0, []),
  (26, .if_icmp .ge (26), 3, 52, 0, 0, []),
  (29, .iload_n 3, 1, 0, 0, 0, []),
  (30, .aload_n 0, 1, 0, 0, 0, []),
  (31, .getfield 40, 3, 0, 7, 169, []),
  (34, .if_icmp .ge (18), 3, 52, 0, 0, []),
  (37, .iload_n 3, 1, 0, 0, 0, []),
  (38, .aload_n 0, 1, 0, 0, 0, []),
  (39, .getfield 21, 3, 0, 3, 158, []),
  (42, .iload_n 3, 1, 0, 0, 0, []),
  (43, .iaload, 1, 0, 0, 0, []),
  (44, .iadd, 1, 0, 0, 0, []),
  (45, .istore_n 3, 1, 0, 0, 0, []),
  (46, .iinc 4 (1), 3, 0, 0, 0, []),
  (49, .goto (-26), 3, 23, 0, 0, []),
  (52, .iload_n 3, 1, 0, 0, 0, []),
  (53, .aload_n 0, 1, 0, 0, 0, []),
  (54, .getfield 40, 3, 0, 7, 169, []),
  (57, .if_icmp .ge (7), 3, 64, 0, 0, []),
  (60, .iload_n 3, 1, 0, 0, 0, []),
  (61, .goto (4), 3, 65, 0, 0, []),
  (64, .iconst (-1), 1, 0, 0, 0, []),
  (65, .ireturn, 1, 0, 0, 0, [])])
def zm_T_isLike : zMth := (⟨"DesignReader$Tree", "isLike", "(LDesignReader$Tree;)Z"⟩, prog_7_method_8_code, 4, (some .boolean), "DesignReader$Tree", 0, 0, [732, 730, 100, 731], [
  (0, .aload_n 0, 1, 0, 0, 0, []),
  (1, .getfield 40, 3, 0, 7, 169, []),
  (4, .aload_n 1, 1, 0, 0, 0, []),
  (5, .getfield 40, 3, 0, 7, 169, []),
  (8, .if_icmp .ne (7), 3, 15, 0, 0, []),
  (11, .iconst 1, 1, 0, 0, 0, []),
  (12, .goto (4), 3, 16, 0, 0, []),
  (15, .iconst 0, 1, 0, 0, 0, []),
  (16, .istore_n 2, 1, 0, 0, 0, []),
  (17, .iconst 0, 1, 0, 0, 0, []),
  (18, .istore_n 3, 1, 0, 0, 0, []),
  (19, .iload_n 3, 1, 0, 0, 0, []),
  (20, .aload_n 0, 1, 0, 0, 0, []),
  (21, .getfield 40, 3, 0, 7, 169, []),
  (24, .if_icmp .ge (64), 3, 88, 0, 0, []),
  (27, .iload_n 2, 1, 0, 0, 0, []),
  (28, .ifCond .eq (60), 3, 88, 0, 0, []),
  (31, .aload_n 0, 1, 0, 0, 0, []),
  (32, .getfield 11, 3, 0, 0, 148, []),
  (35, .iload_n 3, 1, 0, 0, 0, []),
  (36, .iaload, 1, 0, 0, 0, []),
  (37, .aload_n 1, 1, 0, 0, 0, []),
  (38, .getfield 11, 3, 0, 0, 148, []),
  (41, .iload_n 3, 1, 0, 0, 0, []),
  (42, .iaload, 1, 0, 0, 0, []),
  (43, .if_icmp .ne (37), 3, 80, 0, 0, []),
  (46, .aload_n 0, 1, 0, 0, 0, []),
  (47, .getfield 18, 3, 0, 2, 155, []),
  (50, .iload_n 3, 1, 0, 0, 0, []),
  (51, .iaload, 1, 0, 0, 0, []),
  (52, .aload_n 1, 1, 0, 0, 0, []),
  (53, .getfield 18, 3, 0, 2, 155, []),
  (56, .iload_n 3, 1, 0, 0, 0, []),
  (57, .iaload, 1, 0, 0, 0, []),
  (58, .if_icmp .ne (22), 3, 80, 0, 0, []),
  (61, .aload_n 0, 1, 0, 0, 0, []),
  (62, .getfield 21, 3, 0, 3, 158, []),
  (65, .iload_n 3, 1, 0, 0, 0, []),
  (66, .iaload, 1, 0, 0, 0, []),
  (67, .aload_n 1, 1, 0, 0, 0, []),
  (68, .getfield 21, 3, 0, 3, 158, []),
  (71, .iload_n 3, 1, 0, 0, 0, []),
  (72, .iaload, 1, 0, 0, 0, []),
  (73, .if_icmp .ne (7), 3, 80, 0, 0, []),
  (76, .iconst 1, 1, 0, 0, 0, []),
  (77, .goto (4), 3, 81, 0, 0, []),
  (80, .iconst 0, 1, 0, 0, 0, []),
  (81, .istore_n 2, 1, 0, 0, 0, []),
  (82, .iinc 3 (1), 3, 0, 0, 0, []),
  (85, .goto (-66), 3, 19, 0, 0, []),
  (88, .iload_n 2, 1, 0, 0, 0, []),
  (89, .ireturn, 1, 1, 0, 0, [])])
def zm_W_init : zMth := (⟨"DesignReader$Writer", "<init>", "(LDesignReader$NameTable;)V"⟩, prog_8_method_1_code, 2, none, "DesignReader$Writer", 2, 16000, [279, 278, 106], [
  (0, .aload_n 0, 1, 0, 0, 0, []),
  (1, .invokespecial 3, 3, 1000, 1, 280, []),
  (4, .aload_n 0, 1, 0, 0, 0, []),
  (5, .sipush (8000), 3, 0, 0, 0, []),
  (8, .newarray .byte, 2, 1, 0, 0, []),
  (10, .putfield 9, 3, 4, 1, 282, []),
  (13, .aload_n 0, 1, 0, 0, 0, []),
  (14, .sipush (8000), 3, 0, 0, 0, []),
  (17, .newarray .byte, 2, 1, 0, 0, []),
  (19, .putfield 15, 3, 4, 3, 286, []),
  (22, .aload_n 0, 1, 0, 0, 0, []),
  (23, .aload_n 1, 1, 0, 0, 0, []),
  (24, .putfield 18, 3, 4, 0, 281, []),
  (27, .return_, 1, 0, 0, 0, [])])
def zm_W_writeNode : zMth := (⟨"DesignReader$Writer", "writeNode", "(LDesignReader$Tree;I)I"⟩, prog_8_method_2_code, 6, (some .int), "DesignReader$Writer", 0, 0, [642, 640, 106, 641], [
  (0, .aload_n 0, 1, 0, 0, 0, []),
  (1, .iconst 0, 1, 0, 0, 0, []),
  (2, .putfield 22, 3, 4, 4, 287, []),
  (5, .aload_n 0, 1, 0, 0, 0, []),
  (6, .iconst 1, 1, 0, 0, 0, []),
  (7, .putfield 26, 3, 4, 5, 288, []),
  (10, .iload_n 2, 1, 0, 0, 0, []),
  (11, .aload_n 1, 1, 0, 0, 0, []),
  (12, .getfield 30, 3, 0, 3, 159, []),
  (15, .iload_n 2, 1, 0, 0, 0, []),
  (16, .iaload, 1, 0, 0, 0, []),
  (17, .iadd, 1, 0, 0, 0, []),
  (18, .istore_n 3, 1, 0, 0, 0, []),
  (19, .iload_n 2, 1, 0, 0, 0, []),
  (20, .istore 4, 2, 0, 0, 0, []),
  (22, .iload 4, 2, 0, 0, 0, []),
  (24, .iload_n 3, 1, 0, 0, 0, []),
  (25, .if_icmp .ge (91), 3, 116, 0, 0, []),
  (28, .iload 4, 2, 0, 0, 0, []),
  (30, .iload_n 2, 1, 0, 0, 0, []),
  (31, .if_icmp .le (72), 3, 103, 0, 0, []),
  (34, .aload_n 1, 1, 0, 0, 0, []),
  (35, .getfield 36, 3, 0, 5, 165, []),
  (38, .iload 4, 2, 0, 0, 0, []),
  (40, .iaload, 1, 0, 0, 0, []),
  (41, .istore 5, 2, 0, 0, 0, []),
  (43, .aload_n 0, 1, 0, 0, 0, []),
  (44, .aload_n 1, 1, 0, 0, 0, []),
  (45, .iload 4, 2, 0, 0, 0, []),
  (47, .iconst 1, 1, 0, 0, 0, []),
  (48, .isub, 1, 0, 0, 0, []),
  (49, .iload 5, 2, 0, 0, 0, []),
  (51, .iload_n 2, 1, 0, 0, 0, []),
  (52, .invokevirtual 39, 3, 60, 5, 643, []),
  (55, .aload_n 0, 1, 0, 0, 0, []),
  (56, .aload_n 1, 1, 0, 0, 0, []),
  (57, .getfield 43, 3, 0, 0, 149, []),
  (60, .iload 5, 2, 0, 0, 0, []),
  (62, .iaload, 1, 0, 0, 0, []),
  (63, .aload_n 1, 1, 0, 0, 0, []),
  (64, .getfield 46, 3, 0, 6, 168, []),
  (67, .iload 4, 2, 0, 0, 0, []),
  (69, .iaload, 1, 0, 0, 0, []),
  (70, .aload_n 1, 1, 0, 0, 0, []),
  (71, .getfield 49, 3, 0, 4, 162, []),
  (74, .iload 5, 2, 0, 0, 0, []),
  (76, .iaload, 1, 0, 0, 0, []),
  (77, .invokestatic 52, 3, 2000, 3, 693, []),
  (80, .invokevirtual 56, 3, 64, 2, 649, []),
  (83, .aload_n 0, 1, 0, 0, 0, []),
  (84, .aload_n 1, 1, 0, 0, 0, []),
  (85, .iload 4, 2, 0, 0, 0, []),
  (87, .invokestatic 60, 3, 2000, 2, 679, []),
  (90, .ifCond .eq (8), 3, 98, 0, 0, []),
  (93, .ldc 64, 2, 999, 0, 0, []),
  (95, .goto (5), 3, 100, 0, 0, []),
  (98, .ldc 66, 2, 19, 0, 0, []),
  (100, .invokevirtual 56, 3, 64, 2, 649, []),
  (103, .aload_n 0, 1, 0, 0, 0, []),
  (104, .aload_n 1, 1, 0, 0, 0, []),
  (105, .iload 4, 2, 0, 0, 0, []),
  (107, .invokevirtual 68, 3, 59, 3, 699, []),
  (110, .iinc 4 (1), 3, 0, 0, 0, []),
  (113, .goto (-91), 3, 22, 0, 0, []),
  (116, .aload_n 0, 1, 0, 0, 0, []),
  (117, .aload_n 1, 1, 0, 0, 0, []),
  (118, .iload_n 3, 1, 0, 0, 0, []),
  (119, .iconst 1, 1, 0, 0, 0, []),
  (120, .isub, 1, 0, 0, 0, []),
  (121, .aload_n 1, 1, 0, 0, 0, []),
  (122, .getfield 36, 3, 0, 5, 165, []),
  (125, .iload_n 2, 1, 0, 0, 0, []),
  (126, .iaload, 1, 0, 0, 0, []),
  (127, .iload_n 2, 1, 0, 0, 0, []),
  (128, .invokevirtual 39, 3, 60, 5, 643, []),
  (131, .aload_n 0, 1, 0, 0, 0, []),
  (132, .getfield 26, 3, 4, 5, 288, []),
  (135, .ifCond .ne (5), 3, 140, 0, 0, []),
  (138, .iconst (-1), 1, 0, 0, 0, []),
  (139, .ireturn, 1, 0, 0, 0, []),
  (140, .aload_n 0, 1, 0, 0, 0, []),
  (141, .getfield 9, 3, 4, 1, 282, []),
  (144, .astore 4, 2, 0, 0, 0, []),
  (146, .aload_n 0, 1, 0, 0, 0, []),
  (147, .aload_n 0, 1, 0, 0, 0, []),
  (148, .getfield 15, 3, 4, 3, 286, []),
  (151, .putfield 9, 3, 4, 1, 282, []),
  (154, .aload_n 0, 1, 0, 0, 0, []),
  (155, .aload 4, 2, 0, 0, 0, []),
  (157, .putfield 15, 3, 4, 3, 286, []),
  (160, .aload_n 0, 1, 0, 0, 0, []),
  (161, .aload_n 0, 1, 0, 0, 0, []),
  (162, .getfield 22, 3, 4, 4, 287, []),
  (165, .putfield 72, 3, 4, 2, 284, []),
  (168, .aload_n 0, 1, 0, 0, 0, []),
  (169, .getfield 72, 3, 4, 2, 284, []),
  (172, .ireturn, 1, 0, 0, 0, [])])
def zm_W_enter : zMth := (⟨"DesignReader$Writer", "enter", "(LDesignReader$Tree;I)V"⟩, prog_8_method_3_code, 3, none, "DesignReader$Writer", 0, 0, [701, 700, 106, 41], [
  (0, .aload_n 1, 1, 0, 0, 0, []),
  (1, .getfield 43, 3, 0, 0, 149, []),
  (4, .iload_n 2, 1, 0, 0, 0, []),
  (5, .iaload, 1, 0, 0, 0, []),
  (6, .bipush (20), 2, 0, 0, 0, []),
  (8, .if_icmp .ne (16), 3, 24, 0, 0, []),
  (11, .aload_n 0, 1, 0, 0, 0, []),
  (12, .aload_n 1, 1, 0, 0, 0, []),
  (13, .getfield 77, 3, 0, 2, 156, []),
  (16, .iload_n 2, 1, 0, 0, 0, []),
  (17, .iaload, 1, 0, 0, 0, []),
  (18, .invokevirtual 80, 3, 2000, 2, 702, []),
  (21, .goto (46), 3, 67, 0, 0, []),
  (24, .aload_n 1, 1, 0, 0, 0, []),
  (25, .getfield 43, 3, 0, 0, 149, []),
  (28, .iload_n 2, 1, 0, 0, 0, []),
  (29, .iaload, 1, 0, 0, 0, []),
  (30, .bipush (21), 2, 0, 0, 0, []),
  (32, .if_icmp .ne (16), 3, 48, 0, 0, []),
  (35, .aload_n 0, 1, 0, 0, 0, []),
  (36, .aload_n 1, 1, 0, 0, 0, []),
  (37, .getfield 77, 3, 0, 2, 156, []),
  (40, .iload_n 2, 1, 0, 0, 0, []),
  (41, .iaload, 1, 0, 0, 0, []),
  (42, .invokevirtual 84, 3, 2000, 2, 706, []),
  (45, .goto (22), 3, 67, 0, 0, []),
  (48, .aload_n 0, 1, 0, 0, 0, []),
  (49, .aload_n 1, 1, 0, 0, 0, []),
  (50, .getfield 43, 3, 0, 0, 149, []),
  (53, .iload_n 2, 1, 0, 0, 0, []),
  (54, .iaload, 1, 0, 0, 0, []),
  (55, .aload_n 1, 1, 0, 0, 0, []),
  (56, .getfield 49, 3, 0, 4, 162, []),
  (59, .iload_n 2, 1, 0, 0, 0, []),
  (60, .iaload, 1, 0, 0, 0, []),
  (61, .invokestatic 87, 3, 61, 2, 710, []),
  (64, .invokevirtual 56, 3, 64, 2, 649, []),
  (67, .return_, 1, 0, 0, 0, [])])
def zm_W_leave : zMth := (⟨"DesignReader$Writer", "leave", "(LDesignReader$Tree;III)V"⟩, prog_8_method_4_code, 7, none, "DesignReader$Writer", 0, 0, [645, 644, 106, 37], [
  (0, .iload_n 2, 1, 0, 0, 0, []),
  (1, .istore 5, 2, 0, 0, 0, []),
  (3, .iconst 0, 1, 0, 0, 0, []),
  (4, .istore 6, 2, 0, 0, 0, []),
  (6, .iload 6, 2, 0, 0, 0, []),
  (8, .iload_n 2, 1, 0, 0, 0, []),
  (9, .if_icmp .gt (78), 3, 87, 0, 0, []),
  (12, .iload 5, 2, 0, 0, 0, []),
  (14, .iload_n 3, 1, 0, 0, 0, []),
  (15, .if_icmp .eq (72), 3, 87, 0, 0, []),
  (18, .iload 5, 2, 0, 0, 0, []),
  (20, .iconst (-1), 1, 0, 0, 0, []),
  (21, .if_icmp .eq (66), 3, 87, 0, 0, []),
  (24, .aload_n 0, 1, 0, 0, 0, []),
  (25, .aload_n 1, 1, 0, 0, 0, []),
  (26, .getfield 43, 3, 0, 0, 149, []),
  (29, .iload 5, 2, 0, 0, 0, []),
  (31, .iaload, 1, 0, 0, 0, []),
  (32, .aload_n 1, 1, 0, 0, 0, []),
  (33, .getfield 49, 3, 0, 4, 162, []),
  (36, .iload 5, 2, 0, 0, 0, []),
  (38, .iaload, 1, 0, 0, 0, []),
  (39, .invokestatic 91, 3, 63, 2, 646, []),
  (42, .invokevirtual 56, 3, 64, 2, 649, []),
  (45, .aload_n 0, 1, 0, 0, 0, []),
  (46, .iload 5, 2, 0, 0, 0, []),
  (48, .iload 4, 2, 0, 0, 0, []),
  (50, .if_icmp .eq (17), 3, 67, 0, 0, []),
  (53, .aload_n 1, 1, 0, 0, 0, []),
  (54, .iload 5, 2, 0, 0, 0, []),
  (56, .invokestatic 60, 3, 2000, 2, 679, []),
  (59, .ifCond .eq (8), 3, 67, 0, 0, []),
  (62, .ldc 94, 2, 999, 0, 0, []),
  (64, .goto (5), 3, 69, 0, 0, []),
  (67, .ldc 66, 2, 19, 0, 0, []),
  (69, .invokevirtual 56, 3, 64, 2, 649, []),
  (72, .aload_n 1, 1, 0, 0, 0, []),
  (73, .getfield 36, 3, 0, 5, 165, []),
  (76, .iload 5, 2, 0, 0, 0, []),
  (78, .iaload, 1, 0, 0, 0, []),
  (79, .istore 5, 2, 0, 0, 0, []),
  (81, .iinc 6 (1), 3, 0, 0, 0, []),
  (84, .goto (-78), 3, 6, 0, 0, []),
  (87, .return_, 1, 0, 0, 0, [])])
def zm_W_firstText : zMth := (⟨"DesignReader$Writer", "firstText", "(II)Ljava/lang/String;"⟩, prog_8_method_6_code, 2, (some (.object "java/lang/String")), "DesignReader$Writer", 0, 0, [712, 711, 106], [
  (0, .iload_n 0, 1, 0, 0, 0, []),
  (1, .tableswitch (305) 1 53 #[227, 230, 233, 236, 305, 248, 251, 254, 257, 260, 263, 266, 305, 269, 272, 305, 275, 305, 269, 305, 305, 305, 305, 305, 305, 305, 305, 305, 305, 305, 305, 305, 305, 305, 305, 305, 305, 305, 305, 278, 281, 284, 266, 305, 305, 305, 236, 287, 290, 293, 296, 299, 302], 227, 306, 0, 0, [(1, 228), (2, 231), (3, 234), (4, 237), (5, 306), (6, 249), (7, 252), (8, 255), (9, 258), (10, 261), (11, 264), (12, 267), (13, 306), (14, 270), (15, 273), (16, 306), (17, 276), (18, 306), (19, 270), (20, 306), (21, 306), (22, 306), (23, 306), (24, 306), (25, 306), (26, 306), (27, 306), (28, 306), (29, 306), (30, 306), (31, 306), (32, 306), (33, 306), (34, 306), (35, 306), (36, 306), (37, 306), (38, 306), (39, 306), (40, 279), (41, 282), (42, 285), (43, 267), (44, 306), (45, 306), (46, 306), (47, 237), (48, 288), (49, 291), (50, 294), (51, 297), (52, 300), (53, 303)]),
  (228, .ldc 110, 2, 999, 0, 0, []),
  (230, .areturn, 1, 0, 0, 0, []),
  (231, .ldc 112, 2, 999, 0, 0, []),
  (233, .areturn, 1, 0, 0, 0, []),
  (234, .ldc 114, 2, 999, 0, 0, []),
  (236, .areturn, 1, 0, 0, 0, []),
  (237, .iload_n 1, 1, 0, 0, 0, []),
  (238, .ifCond .le (8), 3, 246, 0, 0, []),
  (241, .ldc 116, 2, 999, 0, 0, []),
  (243, .goto (5), 3, 248, 0, 0, []),
  (246, .ldc 66, 2, 19, 0, 0, []),
  (248, .areturn, 1, 0, 0, 0, []),
  (249, .ldc 118, 2, 999, 0, 0, []),
  (251, .areturn, 1, 0, 0, 0, []),
  (252, .ldc 120, 2, 999, 0, 0, []),
  (254, .areturn, 1, 0, 0, 0, []),
  (255, .ldc 122, 2, 999, 0, 0, []),
  (257, .areturn, 1, 0, 0, 0, []),
  (258, .ldc 124, 2, 999, 0, 0, []),
  (260, .areturn, 1, 0, 0, 0, []),
  (261, .ldc 126, 2, 999, 0, 0, []),
  (263, .areturn, 1, 0, 0, 0, []),
  (264, .ldc 128, 2, 999, 0, 0, []),
  (266, .areturn, 1, 0, 0, 0, []),
  (267, .ldc 130, 2, 999, 0, 0, []),
  (269, .areturn, 1, 0, 0, 0, []),
  (270, .ldc 132, 2, 999, 0, 0, []),
  (272, .areturn, 1, 0, 0, 0, []),
  (273, .ldc 134, 2, 999, 0, 0, []),
  (275, .areturn, 1, 0, 0, 0, []),
  (276, .ldc 136, 2, 999, 0, 0, []),
  (278, .areturn, 1, 0, 0, 0, []),
  (279, .ldc 138, 2, 999, 0, 0, []),
  (281, .areturn, 1, 0, 0, 0, []),
  (282, .ldc 140, 2, 999, 0, 0, []),
  (284, .areturn, 1, 0, 0, 0, []),
  (285, .ldc 142, 2, 999, 0, 0, []),
  (287, .areturn, 1, 0, 0, 0, []),
  (288, .ldc 144, 2, 999, 0, 0, []),
  (290, .areturn, 1, 0, 0, 0, []),
  (291, .ldc 146, 2, 999, 0, 0, []),
  (293, .areturn, 1, 0, 0, 0, []),
  (294, .ldc 148, 2, 999, 0, 0, []),
  (296, .areturn, 1, 0, 0, 0, []),
  (297, .ldc 150, 2, 999, 0, 0, []),
  (299, .areturn, 1, 0, 0, 0, []),
  (300, .ldc 152, 2, 999, 0, 0, []),
  (302, .areturn, 1, 0, 0, 0, []),
  (303, .ldc 154, 2, 999, 0, 0, []),
  (305, .areturn, 1, 0, 0, 0, []),
  (306, .iload_n 0, 1, 0, 0, 0, []),
  (307, .invokestatic 156, 3, 62, 1, 713, []),
  (310, .areturn, 1, 0, 0, 0, [])])
def zm_W_operatorText : zMth := (⟨"DesignReader$Writer", "operatorText", "(I)Ljava/lang/String;"⟩, prog_8_method_7_code, 1, (some (.object "java/lang/String")), "DesignReader$Writer", 0, 0, [715, 714, 106], [
  (0, .iload_n 0, 1, 0, 0, 0, []),
  (1, .tableswitch (127) 24 39 #[79, 82, 85, 88, 91, 94, 97, 100, 103, 106, 109, 112, 115, 118, 121, 124], 79, 128, 0, 0, [(24, 80), (25, 83), (26, 86), (27, 89), (28, 92), (29, 95), (30, 98), (31, 101), (32, 104), (33, 107), (34, 110), (35, 113), (36, 116), (37, 119), (38, 122), (39, 125)]),
  (80, .ldc 160, 2, 999, 0, 0, []),
  (82, .areturn, 1, 0, 0, 0, []),
  (83, .ldc 162, 2, 999, 0, 0, []),
  (85, .areturn, 1, 0, 0, 0, []),
  (86, .ldc 164, 2, 999, 0, 0, []),
  (88, .areturn, 1, 0, 0, 0, []),
  (89, .ldc 166, 2, 999, 0, 0, []),
  (91, .areturn, 1, 0, 0, 0, []),
  (92, .ldc 168, 2, 999, 0, 0, []),
  (94, .areturn, 1, 0, 0, 0, []),
  (95, .ldc 170, 2, 999, 0, 0, []),
  (97, .areturn, 1, 0, 0, 0, []),
  (98, .ldc 172, 2, 999, 0, 0, []),
  (100, .areturn, 1, 0, 0, 0, []),
  (101, .ldc 174, 2, 999, 0, 0, []),
  (103, .areturn, 1, 0, 0, 0, []),
  (104, .ldc 176, 2, 999, 0, 0, []),
  (106, .areturn, 1, 0, 0, 0, []),
  (107, .ldc 178, 2, 999, 0, 0, []),
  (109, .areturn, 1, 0, 0, 0, []),
  (110, .ldc 180, 2, 999, 0, 0, []),
  (112, .areturn, 1, 0, 0, 0, []),
  (113, .ldc 182, 2, 999, 0, 0, []),
  (115, .areturn, 1, 0, 0, 0, []),
  (116, .ldc 140, 2, 999, 0, 0, []),
  (118, .areturn, 1, 0, 0, 0, []),
  (119, .ldc 184, 2, 999, 0, 0, []),
  (121, .areturn, 1, 0, 0, 0, []),
  (122, .ldc 186, 2, 999, 0, 0, []),
  (124, .areturn, 1, 0, 0, 0, []),
  (125, .ldc 188, 2, 999, 0, 0, []),
  (127, .areturn, 1, 0, 0, 0, []),
  (128, .ldc 66, 2, 19, 0, 0, []),
  (130, .areturn, 1, 0, 0, 0, [])])
def zm_W_lastText : zMth := (⟨"DesignReader$Writer", "lastText", "(II)Ljava/lang/String;"⟩, prog_8_method_10_code, 2, (some (.object "java/lang/String")), "DesignReader$Writer", 0, 0, [648, 647, 106], [
  (0, .iload_n 0, 1, 0, 0, 0, []),
  (1, .tableswitch (251) 1 53 #[227, 227, 227, 230, 242, 227, 227, 227, 227, 227, 251, 245, 227, 251, 245, 251, 251, 251, 251, 251, 251, 251, 251, 251, 251, 251, 251, 251, 251, 251, 251, 251, 251, 251, 251, 251, 251, 251, 251, 251, 251, 251, 245, 242, 242, 248, 230, 248, 248, 248, 248, 248, 248], 227, 252, 0, 0, [(1, 228), (2, 228), (3, 228), (4, 231), (5, 243), (6, 228), (7, 228), (8, 228), (9, 228), (10, 228), (11, 252), (12, 246), (13, 228), (14, 252), (15, 246), (16, 252), (17, 252), (18, 252), (19, 252), (20, 252), (21, 252), (22, 252), (23, 252), (24, 252), (25, 252), (26, 252), (27, 252), (28, 252), (29, 252), (30, 252), (31, 252), (32, 252), (33, 252), (34, 252), (35, 252), (36, 252), (37, 252), (38, 252), (39, 252), (40, 252), (41, 252), (42, 252), (43, 246), (44, 243), (45, 243), (46, 249), (47, 231), (48, 249), (49, 249), (50, 249), (51, 249), (52, 249), (53, 249)]),
  (228, .ldc 211, 2, 999, 0, 0, []),
  (230, .areturn, 1, 0, 0, 0, []),
  (231, .iload_n 1, 1, 0, 0, 0, []),
  (232, .ifCond .le (8), 3, 240, 0, 0, []),
  (235, .ldc 213, 2, 999, 0, 0, []),
  (237, .goto (5), 3, 242, 0, 0, []),
  (240, .ldc 66, 2, 19, 0, 0, []),
  (242, .areturn, 1, 0, 0, 0, []),
  (243, .ldc 213, 2, 999, 0, 0, []),
  (245, .areturn, 1, 0, 0, 0, []),
  (246, .ldc 215, 2, 999, 0, 0, []),
  (248, .areturn, 1, 0, 0, 0, []),
  (249, .ldc 94, 2, 999, 0, 0, []),
  (251, .areturn, 1, 0, 0, 0, []),
  (252, .ldc 66, 2, 19, 0, 0, []),
  (254, .areturn, 1, 0, 0, 0, [])])
def zm_W_putText : zMth := (⟨"DesignReader$Writer", "putText", "(Ljava/lang/String;)V"⟩, prog_8_method_11_code, 3, none, "DesignReader$Writer", 0, 0, [651, 650, 106, 38], [
  (0, .iconst 0, 1, 0, 0, 0, []),
  (1, .istore_n 2, 1, 0, 0, 0, []),
  (2, .iload_n 2, 1, 0, 0, 0, []),
  (3, .aload_n 1, 1, 0, 0, 0, []),
  (4, .invokevirtual 217, 3, 1003, 1, 652, []),
  (7, .if_icmp .ge (31), 3, 38, 0, 0, []),
  (10, .iload_n 2, 1, 0, 0, 0, []),
  (11, .ifCond .ne (12), 3, 23, 0, 0, []),
  (14, .aload_n 0, 1, 0, 0, 0, []),
  (15, .aload_n 1, 1, 0, 0, 0, []),
  (16, .iconst 0, 1, 0, 0, 0, []),
  (17, .invokevirtual 223, 3, 2000, 2, 653, []),
  (20, .invokevirtual 227, 3, 2000, 2, 673, []),
  (23, .aload_n 0, 1, 0, 0, 0, []),
  (24, .aload_n 1, 1, 0, 0, 0, []),
  (25, .iload_n 2, 1, 0, 0, 0, []),
  (26, .invokevirtual 223, 3, 2000, 2, 653, []),
  (29, .invokevirtual 230, 3, 2000, 2, 676, []),
  (32, .iinc 2 (1), 3, 0, 0, 0, []),
  (35, .goto (-33), 3, 2, 0, 0, []),
  (38, .return_, 1, 0, 0, 0, [])])
def zm_J_fill : zMth := (⟨"java/util/Arrays", "fill", "([II)V"⟩, prog_17_method_103_code, 4, none, "java/util/Arrays", 0, 0, [198, 197, 103], [
  (0, .iconst 0, 1, 0, 0, 0, []),
  (1, .istore_n 2, 1, 0, 0, 0, []),
  (2, .aload_n 0, 1, 0, 0, 0, []),
  (3, .arraylength, 1, 0, 0, 0, []),
  (4, .istore_n 3, 1, 0, 0, 0, []),
  (5, .iload_n 2, 1, 0, 0, 0, []),
  (6, .iload_n 3, 1, 0, 0, 0, []),
  (7, .if_icmp .ge (13), 3, 20, 0, 0, []),
  (10, .aload_n 0, 1, 0, 0, 0, []),
  (11, .iload_n 2, 1, 0, 0, 0, []),
  (12, .iload_n 1, 1, 0, 0, 0, []),
  (13, .iastore, 1, 0, 0, 0, []),
  (14, .iinc 2 (1), 3, 0, 0, 0, []),
  (17, .goto (-12), 3, 5, 0, 0, []),
  (20, .return_, 1, 0, 0, 0, [])])
def zMs : List zMth := [zm_D_init, zm_D_feed, zm_D_read, zm_D_nodes, zm_D_node, zm_D_part, zm_D_whole, zm_D_names, zm_D_spelt, zm_D_write, zm_D_written, zm_D_again, zm_D_same, zm_D_isTree, zm_D_isNode, zm_D_appendFour, zm_R_init, zm_R_clear, zm_R_add, zm_R_feed, zm_R_behindBlanks, zm_R_scan, zm_R_look, zm_R_read, zm_R_has, zm_R_nodes, zm_R_parts, zm_R_part, zm_R_node, zm_R_whole, zm_R_names, zm_R_spelt, zm_R_same, zm_R_kindAt, zm_R_behind, zm_R_show, zm_R_write, zm_R_written, zm_R_again, zm_N_init, zm_N_byteOf, zm_P_init, zm_P_design, zm_P_at, zm_K_init, zm_K_scan, zm_K_kind, zm_K_byteAt, zm_K_behindBlanks, zm_K_scanToken, zm_K_keep, zm_T_init, zm_T_begin, zm_T_add, zm_T_finish, zm_T_partOf, zm_T_isLike, zm_W_init, zm_W_writeNode, zm_W_enter, zm_W_leave, zm_W_firstText, zm_W_operatorText, zm_W_lastText, zm_W_putText, zm_J_fill]
def zstrs : List (String × Nat × String) := [("DesignReaderModel", 79, "level"), ("DesignReaderModel", 81, "const"), ("DesignReaderModel", 83, "fun"), ("DesignReaderModel", 85, "mode"), ("DesignReaderModel", 87, "in"), ("DesignReaderModel", 89, "reg"), ("DesignReaderModel", 91, "wire"), ("DesignReaderModel", 93, "out"), ("DesignReaderModel", 94, "next"), ("DesignReaderModel", 96, "if"), ("DesignReaderModel", 98, "else"), ("DesignReaderModel", 100, "case"), ("DesignReaderModel", 102, "default"), ("DesignReaderModel", 104, "num"), ("DesignReaderModel", 106, "zext"), ("DesignReaderModel", 108, "sext"), ("DesignReaderModel", 110, "any"), ("DesignReaderModel", 112, "all"), ("DesignReaderModel", 114, "odd"), ("DesignReader$Writer", 66, "")]
end
section
/-! THE ABSTRACT MACHINE, 4: a step of a method, what its tables must say, and a run -/
def zall (n : Nat) (lv stk : List Value) (st : zS) : Bool := lv.all (zsc n) && stk.all (zsc n) && st.all (zscC n) && decide (n < 500)
def znew (fs : List Value) (ci N MC MS pc : Nat) (lv stk : List Value) (st : zS) (c s : Nat) : zO :=
  if zall st.length lv stk st = true ∧ c + 1 ≤ MC ∧ s + N ≤ MS then zn (pc + 3) lv (.ref st.length :: stk) (st ++ [.inl (ci, fs)]) (c + 1) (s + N) else none
def znewN (t MC MS pc : Nat) (lv stk : List Value) (st : zS) (c s : Nat) : zO := match stk with
  | .int n :: r => if zall st.length lv r st = true ∧ ¬ n < 0 ∧ c + 1 ≤ MC ∧ s + n.toNatClampNeg ≤ MS ∧ n.toNatClampNeg ≤ 60000000 then zn (pc + 2) lv (.ref st.length :: r) (st ++ [.inr (.inl (t, n.toNatClampNeg, 0, []))]) (c + 1) (s + n.toNatClampNeg) else none
  | _ => none
def znewA (t MC MS pc : Nat) (lv stk : List Value) (st : zS) (c s : Nat) : zO := match stk with
  | .int n :: r => if zall st.length lv r st = true ∧ ¬ n < 0 ∧ c + 1 ≤ MC ∧ s + n.toNatClampNeg ≤ MS ∧ n.toNatClampNeg ≤ 60000000 then zn (pc + 3) lv (.ref st.length :: r) (st ++ [.inr (.inr (t, List.replicate n.toNatClampNeg none))]) (c + 1) (s + n.toNatClampNeg) else none
  | _ => none
/-- ci: the class of what is put; 400: a constant text -/
def zastV (ci v : Nat) (st : zS) : Bool := if ci = 400 then decide (500 ≤ v) && (zstrs[v - 500]?).isSome else match st[v]? with
  | some (.inl (ci', _)) => decide (ci' = ci)
  | _ => false
def zastA (t ci pc : Nat) (lv stk : List Value) (st : zS) (c s : Nat) : zO := match stk with
  | .ref v :: .int i :: .ref a :: r => match st[a]? with
    | some (.inr (.inr (t', rs))) => if t' = t ∧ zin i rs.length = true ∧ zastV ci v st = true then zn (pc + 1) lv r (st.set a (.inr (.inr (t, rs.set i.toNatClampNeg (some v))))) c s else none
    | _ => none
  | _ => none
def zmin (pc : Nat) (lv stk : List Value) (st : zS) (c s : Nat) : zO := match stk with
  | .int y :: .int x :: r => if (r.map fun v => v.category).sum ≤ 8 then zn (pc + 3) lv (.int (if y < x then y else x) :: r) st c s else none
  | _ => none
def zmax (pc : Nat) (lv stk : List Value) (st : zS) (c s : Nat) : zO := match stk with
  | .int y :: .int x :: r => if (r.map fun v => v.category).sum ≤ 8 then zn (pc + 3) lv (.int (if x < y then y else x) :: r) st c s else none
  | _ => none
def zobj (pc : Nat) (lv stk : List Value) (st : zS) (c s : Nat) : zO := match stk with
  | .ref _ :: r => if (r.map fun v => v.category).sum ≤ 8 then zn (pc + 3) lv r st c s else none
  | _ => none
/-- String.length of a constant text -/
def zslen (pc : Nat) (lv stk : List Value) (st : zS) (c s : Nat) : zO := match stk with
  | .ref v :: r => if 500 ≤ v ∧ (r.map fun v => v.category).sum ≤ 8 then (match zstrs[v - 500]? with
    | some (_, _, tx) => zn (pc + 3) lv (.int (Int32.ofNat tx.length) :: r) st c s
    | none => none) else none
  | _ => none
/-- System.arraycopy of no bytes -/
def zcopy (pc : Nat) (lv stk : List Value) (st : zS) (c s : Nat) : zO := match stk with
  | .int n :: .int dp :: .ref a1 :: .int sp :: .ref a0 :: r => (match st[a0]?, st[a1]? with
    | some (.inr (.inl (t0, n0, _, _))), some (.inr (.inl (t1, n1, _, _))) => if n = 0 ∧ ¬ sp < 0 ∧ ¬ dp < 0 ∧ sp.toNatClampNeg ≤ n0 ∧ dp.toNatClampNeg ≤ n1 ∧ t0 = 1 ∧ t1 = 1 ∧ (r.map fun v => v.category).sum ≤ 8 then zn (pc + 3) lv r st c s else none
    | _, _ => none)
  | _ => none
/-- what a call begins with: an object of the method's class (0, virtual), anything (1, static), a reference (2, special) -/
def zrcv0 (m : zMth) (as : List Value) (st : zS) : Bool := match as with
  | .ref r :: _ => (match st[r]? with
    | some (.inl (ci, _)) => (match zcl[ci]? with
      | some (C, _, _) => decide (C = m.1.cls)
      | none => false)
    | _ => false)
  | _ => false
def zrcv2 (as : List Value) : Bool := match as with
  | .ref _ :: _ => true
  | _ => false
def zrcv (how : Nat) (m : zMth) (as : List Value) (st : zS) : Bool := if how = 0 then zrcv0 m as st else if how = 1 then true else zrcv2 as
/-- a call of method n, with k values from the stack -/
def zcall (how MC MS n k pc : Nat) (lv stk : List Value) (st : zS) (c s : Nat) : zO := match zMs[n]? with
  | some m => if (k ≤ stk.length ∧ zrcv how m (stk.take k).reverse st = true ∧ (zargs (stk.take k).reverse).length ≤ zmL m) ∧ (((stk.drop k).map fun v => v.category).sum ≤ 8 ∧ lv.all (zsc st.length) = true ∧ (stk.drop k).all (zsc st.length) = true) ∧ (c + zmC m ≤ MC ∧ s + zmS m ≤ MS) then
      some (.inr (.inl (n, (stk.take k).reverse, pc + 3, lv, stk.drop k, st, c + zmC m, s + zmS m))) else none
  | none => none
def zret (b : Nat) (stk : List Value) : zO := match stk with
  | [.int v] => if b = 0 ∨ v = 0 ∨ v = 1 then some (.inr (.inr (some (.int v)))) else none
  | _ => none
def zretA (stk : List Value) : zO := match stk with
  | [.ref v] => some (.inr (.inr (some (.ref v))))
  | _ => none
def zretV (stk : List Value) : zO := match stk with
  | [] => some (.inr (.inr none))
  | _ => none
def zstep (m : zMth) (x : zX) : zO := match x with
  | (pc, lv, stk, st, c, s) => match zfind pc (zmI m) with
    | none => none
    | some (ins, len, a, b, _, sw) => match ins with
      | .iconst n => zn (pc + 1) lv (.int (Int32.ofInt n) :: stk) st c s
      | .bipush n => zn (pc + 2) lv (.int (Int8.ofInt n).toInt32 :: stk) st c s
      | .sipush n => zn (pc + 3) lv (.int (Int16.ofInt n).toInt32 :: stk) st c s
      | .ldc _ => if a < 400 then zn (pc + 2) lv (.ref (500 + a) :: stk) st c s else none
      | .iload i => zldI i 2 pc lv stk st c s
      | .iload_n i => zldI i 1 pc lv stk st c s
      | .aload i => zldA i 2 pc lv stk st c s
      | .aload_n i => zldA i 1 pc lv stk st c s
      | .istore i => zsoI i 2 pc lv stk st c s
      | .istore_n i => zsoI i 1 pc lv stk st c s
      | .astore i => zsoA i 2 pc lv stk st c s
      | .astore_n i => zsoA i 1 pc lv stk st c s
      | .iinc i n => zinc i n pc lv stk st c s
      | .iadd => zbin (fun x y => x + y) pc lv stk st c s
      | .isub => zbin (fun x y => x - y) pc lv stk st c s
      | .imul => zbin (fun x y => x * y) pc lv stk st c s
      | .iand => zbin (fun x y => x &&& y) pc lv stk st c s
      | .ishr => zbin (fun x y => x >>> (y &&& 31)) pc lv stk st c s
      | .irem => zrem pc lv stk st c s
      | .i2b => zi2b pc lv stk st c s
      | .dup => zdup pc lv stk st c s
      | .dup2 => zdup2 pc lv stk st c s
      | .pop => zpop pc lv stk st c s
      | .goto _ => zn a lv stk st c s
      | .ifCond k _ => zif1 k a pc lv stk st c s
      | .if_icmp k _ => zif2 k a pc lv stk st c s
      | .tableswitch _ _ _ _ => zsw a sw lv stk st c s
      | .getfield _ => zgetf a b pc lv stk st c s
      | .putfield _ => (match zfty[a]? with
        | some f => zputf (f b) a b pc lv stk st c s
        | none => none)
      | .iaload => zaldN 0 pc lv stk st c s
      | .baload => zaldN 1 pc lv stk st c s
      | .iastore => zastN 0 pc id lv stk st c s
      | .bastore => zastN 1 pc (fun x => vp_nar .byte x) lv stk st c s
      | .aaload => zaldA pc lv stk st c s
      | .aastore => zastA a b pc lv stk st c s
      | .arraylength => zlen pc lv stk st c s
      | .new _ => (match zdf[a]? with
        | some fs => znew fs a fs.length (zmC m) (zmS m) pc lv stk st c s
        | none => none)
      | .newarray _ => znewN a (zmC m) (zmS m) pc lv stk st c s
      | .anewarray _ => znewA a (zmC m) (zmS m) pc lv stk st c s
      | .invokespecial _ => if a = 1000 then zobj pc lv stk st c s else zcall 2 (zmC m) (zmS m) a b pc lv stk st c s
      | .invokestatic _ => if a = 1001 then zmin pc lv stk st c s else if a = 1002 then zmax pc lv stk st c s else if a = 1004 then zcopy pc lv stk st c s else zcall 1 (zmC m) (zmS m) a b pc lv stk st c s
      | .invokevirtual _ => if a = 1003 then zslen pc lv stk st c s else zcall 0 (zmC m) (zmS m) a b pc lv stk st c s
      | .ireturn => zret a stk
      | .areturn => zretA stk
      | .return_ => zretV stk
      | _ => none
def zgo (call : Nat → List Value → zS → Option (Option Value × zS)) (m : zMth) : Nat → zX → Option (Option Value × zS)
  | 0, _ => none
  | f + 1, x => match zstep m x with
    | none => none
    | some (.inl y) => zgo call m f y
    | some (.inr (.inl (n, as, pc, lv, stk, st, c, s))) => (match call n as st with
      | none => none
      | some (v, st') => zgo call m f (pc, lv, v.toList ++ stk, st', c, s))
    | some (.inr (.inr v)) => some (v, x.2.2.2.1)
def zrun (F : Nat) : Nat → Nat → List Value → zS → Option (Option Value × zS)
  | 0 => fun _ _ _ => none
  | d + 1 => fun n as st => match zMs[n]? with
    | none => none
    | some m => if (zargs as).length ≤ zmL m then zgo (zrun F d) m F (0, zlocals (zmL m) as, [], st, 0, 0) else none
end
section
/-! THE ABSTRACT MACHINE, 5: what its tables must say of the class files; the machine's own point for a point of its -/
/-- the words that may be handed on to a callee -/
def zT : List Cond := lw_tbl.filter goodWord
def zmO (m : zMth) : String := m.2.2.2.2.1
def zmR (m : zMth) : Option FieldType := m.2.2.2.1
def zmW (m : zMth) : List Nat := m.2.2.2.2.2.2.2.1
def zws (m : zMth) : List Cond := .code m.1 m.2.1 (zmL m) (zmR m) :: zT
def zrm (d : Nat) (m : zMth) : Room := { frames := d + 1, cells := zmC m, slots := zmS m, locals := 64 * (d + 1) }
def zlenI : Instr → Nat
  | .iconst _ => 1
  | .bipush _ => 2
  | .sipush _ => 3
  | .ldc _ => 2
  | .iload _ => 2
  | .aload _ => 2
  | .istore _ => 2
  | .astore _ => 2
  | .iinc _ _ => 3
  | .goto _ => 3
  | .ifCond _ _ => 3
  | .if_icmp _ _ => 3
  | .getfield _ => 3
  | .putfield _ => 3
  | .new _ => 3
  | .newarray _ => 2
  | .anewarray _ => 3
  | .invokespecial _ => 3
  | .invokestatic _ => 3
  | .invokevirtual _ => 3
  | _ => 1
def zokF (own : String) (idx a b c : Nat) : Bool := match zcl[a]? with
  | some (_, T, N) => decide (b < N) && decide (zT[c]? = some (.fieldLink own idx (T b).1 (T b).2.1 (T b).2.2.1))
  | none => false
def zokP (m : zMth) (a b : Nat) : Bool := match zcl[a]? with
  | some (_, T, _) => !(T b).2.2.2 || (decide (m.1.name = "<init>") && decide ((T b).1 = zmO m))
  | none => false
def zokN (own : String) (idx a c : Nat) : Bool := match zcl[a]?, zclw[a]?, zdf[a]? with
  | some (C, _, N), some (i, j), some fs => decide (zT[c]? = some (.classLink own idx C)) && decide (zT[i]? = some (.instantiable C N)) && decide (zT[j]? = some (.initialized C)) && decide (fs.length = N)
  | _, _, _ => false
def zokA (own : String) (idx a c : Nat) : Bool := match ztys[a]? with
  | some (.object C) => decide (zT[c]? = some (.classLink own idx C))
  | _ => false
def zokSw (pc : Nat) (lo hi : Int) (offs : Array Int) (sw : List (Int32 × Nat)) : Bool := decide (sw.map (fun q => (q.1.toInt, (q.2 : Int))) = offs.toList.mapIdx (fun i o => (lo + (i : Int), (pc : Int) + o))) && decide ((offs.size : Int) = hi - lo + 1)
def zokM1 (own : String) (idx c : Nat) (y : MethodName) : Bool := decide (zT[c]? = some (.methodLink own idx y))
def znpar (y : MethodName) : Option Nat := (parseMethodDescriptor y.desc).map (fun d => d.parameters.length)
def zcw0 (m : zMth) : Bool := match zmW m with
  | [i, j, k, n] => decide (zT[i]? = some (.code m.1 m.2.1 (zmL m) (zmR m))) && decide (zT[j]? = some (.instanceMethod m.1)) && decide (zT[k]? = some (.initialized m.1.cls)) && decide (zT[n]? = some (.selects m.1.cls m.1 m.1))
  | _ => false
def zcw1 (m : zMth) : Bool := match zmW m with
  | [i, j, k] => decide (zT[i]? = some (.code m.1 m.2.1 (zmL m) (zmR m))) && decide (zT[j]? = some (.static m.1)) && decide (zT[k]? = some (.initialized m.1.cls))
  | _ => false
def zcw2 (m : zMth) : Bool := match zmW m with
  | [i, j, k] => decide (zT[i]? = some (.code m.1 m.2.1 (zmL m) (zmR m))) && decide (zT[j]? = some (.instanceMethod m.1)) && decide (zT[k]? = some (.initialized m.1.cls)) && decide (m.1.name = "<init>" ∧ zmR m = none)
  | _ => false
/-- a call's words: how it is called (0 virtual, 1 static, 2 special), its number of values, its link -/
def zokC (own : String) (how idx a b c : Nat) : Bool := match zMs[a]? with
  | some m => (zokM1 own idx c m.1 && decide (m.1.cls ≠ "java/lang/invoke/MethodHandle" ∧ m.1.cls ≠ "java/lang/invoke/VarHandle") && decide (zmL m ≤ 40) && decide (znpar m.1 = some (if how = 1 then b else b - 1))) && (if how = 0 then zcw0 m else if how = 1 then zcw1 m else zcw2 m)
  | none => false
def zokI (m : zMth) (pc : Nat) (e : zI) : Bool := match e with
  | (ins, len, a, b, c, sw) => match ins with
    | .tableswitch d lo hi offs => decide (decode m.2.1 pc = .ok (.tableswitch d lo hi offs, len)) && decide ((pc : Int) + d = (a : Int)) && zokSw pc lo hi offs sw
    | _ => decide (decode m.2.1 pc = .ok (ins, zlenI ins)) && (match ins with
      | .ldc idx => if a < 400 then (match zstrs[a]? with
        | some (o, k, _) => decide (o = zmO m ∧ k = idx)
        | none => false) else true
      | .goto o => decide ((pc : Int) + o = (a : Int))
      | .ifCond _ o => decide ((pc : Int) + o = (a : Int))
      | .if_icmp _ o => decide ((pc : Int) + o = (a : Int))
      | .getfield idx => zokF (zmO m) idx a b c
      | .putfield idx => zokF (zmO m) idx a b c && zokP m a b
      | .new idx => zokN (zmO m) idx a c
      | .newarray t => decide ((a = 0 ∧ t = .int) ∨ (a = 1 ∧ t = .byte))
      | .anewarray idx => zokA (zmO m) idx a c
      | .aastore => decide ((a = 2 ∧ b = 0) ∨ (a = 3 ∧ b = 400))
      | .invokespecial idx => if a = 1000 then zokM1 (zmO m) idx c objectInit else if a < 1000 then zokC (zmO m) 2 idx a b c else true
      | .invokestatic idx => if a = 1001 then zokM1 (zmO m) idx c Lib.Math.min.name else if a = 1002 then zokM1 (zmO m) idx c Lib.Math.max.name else if a = 1004 then zokM1 (zmO m) idx c arraycopyName else if a < 1000 then zokC (zmO m) 1 idx a b c else true
      | .invokevirtual idx => if a = 1003 then zokM1 (zmO m) idx c ⟨"java/lang/String", "length", "()I"⟩ else if a < 1000 then zokC (zmO m) 0 idx a b c else true
      | .ireturn => decide ((a = 0 ∧ zmR m = some .int) ∨ (a = 1 ∧ zmR m = some .boolean))
      | .areturn => (match zmR m with
        | some (.object _) => true
        | _ => false)
      | .return_ => decide (zmR m = none)
      | _ => true)
def zokT (m : zMth) : Bool := (zmI m).all (fun q => zokI m q.1 q.2)
def zokM (m : zMth) : Bool := (plainName m.1.cls && decide (m.1.cls = zmO m) && decide (Cond.code m.1 m.2.1 (zmL m) (zmR m) ∈ zT)) && zokT m
theorem zfind_mem {pc : Nat} {e : zI} : ∀ {l : List (Nat × zI)}, zfind pc l = some e → (pc, e) ∈ l := by
  intro l
  induction l with
  | nil => intro h; cases h
  | cons q r ih =>
    obtain ⟨k, e'⟩ := q
    intro h
    unfold zfind at h
    by_cases hk : k = pc
    · rw [if_pos hk] at h
      cases h
      subst hk
      exact List.mem_cons_self
    · rw [if_neg hk] at h
      exact List.mem_cons_of_mem _ (ih h)
theorem zok_of {m : zMth} {pc : Nat} {e : zI} (h : zokT m = true) (hf : zfind pc (zmI m) = some e) : zokI m pc e = true := List.all_eq_true.mp h _ (zfind_mem hf)
end
section
/-! the tables of some methods are those of the class files -/
set_option maxRecDepth 100000 in
theorem zok_0 : zokM zm_D_init = true := by decide +kernel
set_option maxRecDepth 100000 in
theorem zok_1 : zokM zm_D_feed = true := by decide +kernel
set_option maxRecDepth 100000 in
theorem zok_2 : zokM zm_D_read = true := by decide +kernel
set_option maxRecDepth 100000 in
theorem zok_3 : zokM zm_D_nodes = true := by decide +kernel
set_option maxRecDepth 100000 in
theorem zok_4 : zokM zm_D_node = true := by decide +kernel
set_option maxRecDepth 100000 in
theorem zok_5 : zokM zm_D_part = true := by decide +kernel
set_option maxRecDepth 100000 in
theorem zok_6 : zokM zm_D_whole = true := by decide +kernel
set_option maxRecDepth 100000 in
theorem zok_7 : zokM zm_D_names = true := by decide +kernel
set_option maxRecDepth 100000 in
theorem zok_8 : zokM zm_D_spelt = true := by decide +kernel
set_option maxRecDepth 100000 in
theorem zok_9 : zokM zm_D_write = true := by decide +kernel
set_option maxRecDepth 100000 in
theorem zok_10 : zokM zm_D_written = true := by decide +kernel
set_option maxRecDepth 100000 in
theorem zok_11 : zokM zm_D_again = true := by decide +kernel
set_option maxRecDepth 100000 in
theorem zok_12 : zokM zm_D_same = true := by decide +kernel
set_option maxRecDepth 100000 in
theorem zok_13 : zokM zm_D_isTree = true := by decide +kernel
set_option maxRecDepth 100000 in
theorem zok_14 : zokM zm_D_isNode = true := by decide +kernel
set_option maxRecDepth 100000 in
theorem zok_15 : zokM zm_D_appendFour = true := by decide +kernel
set_option maxRecDepth 100000 in
theorem zok_16 : zokM zm_R_init = true := by decide +kernel
end
section
/-! the tables of some methods are those of the class files -/
set_option maxRecDepth 100000 in
theorem zok_17 : zokM zm_R_clear = true := by decide +kernel
set_option maxRecDepth 100000 in
theorem zok_18 : zokM zm_R_add = true := by decide +kernel
set_option maxRecDepth 100000 in
theorem zok_19 : zokM zm_R_feed = true := by decide +kernel
set_option maxRecDepth 100000 in
theorem zok_20 : zokM zm_R_behindBlanks = true := by decide +kernel
set_option maxRecDepth 100000 in
theorem zok_21 : zokM zm_R_scan = true := by decide +kernel
set_option maxRecDepth 100000 in
theorem zok_22 : zokM zm_R_look = true := by decide +kernel
set_option maxRecDepth 100000 in
theorem zok_23 : zokM zm_R_read = true := by decide +kernel
set_option maxRecDepth 100000 in
theorem zok_24 : zokM zm_R_has = true := by decide +kernel
set_option maxRecDepth 100000 in
theorem zok_25 : zokM zm_R_nodes = true := by decide +kernel
set_option maxRecDepth 100000 in
theorem zok_26 : zokM zm_R_parts = true := by decide +kernel
set_option maxRecDepth 100000 in
theorem zok_27 : zokM zm_R_part = true := by decide +kernel
set_option maxRecDepth 100000 in
theorem zok_28 : zokM zm_R_node = true := by decide +kernel
set_option maxRecDepth 100000 in
theorem zok_29 : zokM zm_R_whole = true := by decide +kernel
set_option maxRecDepth 100000 in
theorem zok_30 : zokM zm_R_names = true := by decide +kernel
set_option maxRecDepth 100000 in
theorem zok_31 : zokM zm_R_spelt = true := by decide +kernel
set_option maxRecDepth 100000 in
theorem zok_32 : zokM zm_R_same = true := by decide +kernel
set_option maxRecDepth 100000 in
theorem zok_33 : zokM zm_R_kindAt = true := by decide +kernel
end
section
/-! the tables of some methods are those of the class files -/
set_option maxRecDepth 100000 in
theorem zok_34 : zokM zm_R_behind = true := by decide +kernel
set_option maxRecDepth 100000 in
theorem zok_35 : zokM zm_R_show = true := by decide +kernel
set_option maxRecDepth 100000 in
theorem zok_36 : zokM zm_R_write = true := by decide +kernel
set_option maxRecDepth 100000 in
theorem zok_37 : zokM zm_R_written = true := by decide +kernel
set_option maxRecDepth 100000 in
theorem zok_38 : zokM zm_R_again = true := by decide +kernel
set_option maxRecDepth 100000 in
theorem zok_39 : zokM zm_N_init = true := by decide +kernel
set_option maxRecDepth 100000 in
theorem zok_40 : zokM zm_N_byteOf = true := by decide +kernel
set_option maxRecDepth 100000 in
theorem zok_41 : zokM zm_P_init = true := by decide +kernel
set_option maxRecDepth 100000 in
theorem zok_42 : zokM zm_P_design = true := by decide +kernel
set_option maxRecDepth 100000 in
theorem zok_43 : zokM zm_P_at = true := by decide +kernel
set_option maxRecDepth 100000 in
theorem zok_44 : zokM zm_K_init = true := by decide +kernel
set_option maxRecDepth 100000 in
theorem zok_45 : zokM zm_K_scan = true := by decide +kernel
set_option maxRecDepth 100000 in
theorem zok_46 : zokM zm_K_kind = true := by decide +kernel
set_option maxRecDepth 100000 in
theorem zok_47 : zokM zm_K_byteAt = true := by decide +kernel
set_option maxRecDepth 100000 in
theorem zok_48 : zokM zm_K_behindBlanks = true := by decide +kernel
set_option maxRecDepth 100000 in
theorem zok_49 : zokM zm_K_scanToken = true := by decide +kernel
set_option maxRecDepth 100000 in
theorem zok_50 : zokM zm_K_keep = true := by decide +kernel
end
section
/-! the tables of some methods are those of the class files -/
set_option maxRecDepth 100000 in
theorem zok_51 : zokM zm_T_init = true := by decide +kernel
set_option maxRecDepth 100000 in
theorem zok_52 : zokM zm_T_begin = true := by decide +kernel
set_option maxRecDepth 100000 in
theorem zok_53 : zokM zm_T_add = true := by decide +kernel
set_option maxRecDepth 100000 in
theorem zok_54 : zokM zm_T_finish = true := by decide +kernel
set_option maxRecDepth 100000 in
theorem zok_55 : zokM zm_T_partOf = true := by decide +kernel
set_option maxRecDepth 100000 in
theorem zok_56 : zokM zm_T_isLike = true := by decide +kernel
set_option maxRecDepth 100000 in
theorem zok_57 : zokM zm_W_init = true := by decide +kernel
set_option maxRecDepth 100000 in
theorem zok_58 : zokM zm_W_writeNode = true := by decide +kernel
set_option maxRecDepth 100000 in
theorem zok_59 : zokM zm_W_enter = true := by decide +kernel
set_option maxRecDepth 100000 in
theorem zok_60 : zokM zm_W_leave = true := by decide +kernel
set_option maxRecDepth 100000 in
theorem zok_61 : zokM zm_W_firstText = true := by decide +kernel
set_option maxRecDepth 100000 in
theorem zok_62 : zokM zm_W_operatorText = true := by decide +kernel
set_option maxRecDepth 100000 in
theorem zok_63 : zokM zm_W_lastText = true := by decide +kernel
set_option maxRecDepth 100000 in
theorem zok_64 : zokM zm_W_putText = true := by decide +kernel
set_option maxRecDepth 100000 in
theorem zok_65 : zokM zm_J_fill = true := by decide +kernel
theorem zMs_ok : ∀ M ∈ zMs, zokM M = true := by
  unfold zMs
  exact List.forall_mem_cons.mpr ⟨zok_0, List.forall_mem_cons.mpr ⟨zok_1, List.forall_mem_cons.mpr ⟨zok_2, List.forall_mem_cons.mpr ⟨zok_3, List.forall_mem_cons.mpr ⟨zok_4, List.forall_mem_cons.mpr ⟨zok_5, List.forall_mem_cons.mpr ⟨zok_6, List.forall_mem_cons.mpr ⟨zok_7, List.forall_mem_cons.mpr ⟨zok_8, List.forall_mem_cons.mpr ⟨zok_9, List.forall_mem_cons.mpr ⟨zok_10, List.forall_mem_cons.mpr ⟨zok_11, List.forall_mem_cons.mpr ⟨zok_12, List.forall_mem_cons.mpr ⟨zok_13, List.forall_mem_cons.mpr ⟨zok_14, List.forall_mem_cons.mpr ⟨zok_15, List.forall_mem_cons.mpr ⟨zok_16, List.forall_mem_cons.mpr ⟨zok_17, List.forall_mem_cons.mpr ⟨zok_18, List.forall_mem_cons.mpr ⟨zok_19, List.forall_mem_cons.mpr ⟨zok_20, List.forall_mem_cons.mpr ⟨zok_21, List.forall_mem_cons.mpr ⟨zok_22, List.forall_mem_cons.mpr ⟨zok_23, List.forall_mem_cons.mpr ⟨zok_24, List.forall_mem_cons.mpr ⟨zok_25, List.forall_mem_cons.mpr ⟨zok_26, List.forall_mem_cons.mpr ⟨zok_27, List.forall_mem_cons.mpr ⟨zok_28, List.forall_mem_cons.mpr ⟨zok_29, List.forall_mem_cons.mpr ⟨zok_30, List.forall_mem_cons.mpr ⟨zok_31, List.forall_mem_cons.mpr ⟨zok_32, List.forall_mem_cons.mpr ⟨zok_33, List.forall_mem_cons.mpr ⟨zok_34, List.forall_mem_cons.mpr ⟨zok_35, List.forall_mem_cons.mpr ⟨zok_36, List.forall_mem_cons.mpr ⟨zok_37, List.forall_mem_cons.mpr ⟨zok_38, List.forall_mem_cons.mpr ⟨zok_39, List.forall_mem_cons.mpr ⟨zok_40, List.forall_mem_cons.mpr ⟨zok_41, List.forall_mem_cons.mpr ⟨zok_42, List.forall_mem_cons.mpr ⟨zok_43, List.forall_mem_cons.mpr ⟨zok_44, List.forall_mem_cons.mpr ⟨zok_45, List.forall_mem_cons.mpr ⟨zok_46, List.forall_mem_cons.mpr ⟨zok_47, List.forall_mem_cons.mpr ⟨zok_48, List.forall_mem_cons.mpr ⟨zok_49, List.forall_mem_cons.mpr ⟨zok_50, List.forall_mem_cons.mpr ⟨zok_51, List.forall_mem_cons.mpr ⟨zok_52, List.forall_mem_cons.mpr ⟨zok_53, List.forall_mem_cons.mpr ⟨zok_54, List.forall_mem_cons.mpr ⟨zok_55, List.forall_mem_cons.mpr ⟨zok_56, List.forall_mem_cons.mpr ⟨zok_57, List.forall_mem_cons.mpr ⟨zok_58, List.forall_mem_cons.mpr ⟨zok_59, List.forall_mem_cons.mpr ⟨zok_60, List.forall_mem_cons.mpr ⟨zok_61, List.forall_mem_cons.mpr ⟨zok_62, List.forall_mem_cons.mpr ⟨zok_63, List.forall_mem_cons.mpr ⟨zok_64, List.forall_mem_cons.mpr ⟨zok_65, fun _ h => absurd h List.not_mem_nil⟩⟩⟩⟩⟩⟩⟩⟩⟩⟩⟩⟩⟩⟩⟩⟩⟩⟩⟩⟩⟩⟩⟩⟩⟩⟩⟩⟩⟩⟩⟩⟩⟩⟩⟩⟩⟩⟩⟩⟩⟩⟩⟩⟩⟩⟩⟩⟩⟩⟩⟩⟩⟩⟩⟩⟩⟩⟩⟩⟩⟩⟩⟩⟩⟩⟩
end
section
/-! equality of cells, by program -/
def zeqC : zC → zC → Bool
  | .inl a, .inl b => decide (a = b)
  | .inr (.inl a), .inr (.inl b) => decide (a = b)
  | .inr (.inr a), .inr (.inr b) => decide (a = b)
  | _, _ => false
theorem zeqC_eq {a b : zC} (h : zeqC a b = true) : a = b := by
  unfold zeqC at h
  split at h
  · rw [of_decide_eq_true h]
  · rw [of_decide_eq_true h]
  · rw [of_decide_eq_true h]
  · cases h
def zeqS : zS → zS → Bool
  | [], [] => true
  | a :: r, b :: t => zeqC a b && zeqS r t
  | _, _ => false
theorem zeqS_eq : ∀ {a b : zS}, zeqS a b = true → a = b
  | [], [], _ => rfl
  | a :: r, b :: t, h => by
    have h1 := Bool.and_eq_true_iff.mp h
    rw [zeqC_eq h1.1, zeqS_eq h1.2]
  | [], b :: t, h => by cases h
  | a :: r, [], h => by cases h
def zis (r : Option (Option Value × zS)) (v : Option Value) (st : zS) : Bool := match r with
  | some (v', st') => decide (v' = v) && zeqS st' st
  | none => false
theorem zis_eq {r : Option (Option Value × zS)} {v : Option Value} {st : zS} (h : zis r v st = true) : r = some (v, st) := by
  unfold zis at h
  split at h
  · have h1 := Bool.and_eq_true_iff.mp h
    rw [of_decide_eq_true h1.1, zeqS_eq h1.2]
  · cases h

/-! the cells behind the constructors, by program (wip/sim.py) -/
def zst0 : zS := [.inl (5, [.null, .null, .null, .null, .null, .null, .int 0])]
def zst1 : zS := [
  .inl (5, [.ref 1, .ref 18, .ref 24, .ref 28, .ref 32, .ref 23, .int 0]),
  .inr (.inr (2, [some 2, some 10])),
  .inl (0, [.ref 3, .ref 4, .ref 5, .ref 6, .ref 7, .ref 8, .ref 9, .int 1]),
  .inr (.inl (0, 12011, 0, [(0, 0)])),
  .inr (.inl (0, 12011, 0, [(0, -1)])),
  .inr (.inl (0, 12011, 0, [(0, 0)])),
  .inr (.inl (0, 12011, 0, [(0, 1), (0, 1)])),
  .inr (.inl (0, 12011, 0, [(0, 0)])),
  .inr (.inl (0, 12011, 0, [(0, -1)])),
  .inr (.inl (0, 12011, 0, [])),
  .inl (0, [.ref 11, .ref 12, .ref 13, .ref 14, .ref 15, .ref 16, .ref 17, .int 1]),
  .inr (.inl (0, 12011, 0, [(0, 0)])),
  .inr (.inl (0, 12011, 0, [(0, -1)])),
  .inr (.inl (0, 12011, 0, [(0, 0)])),
  .inr (.inl (0, 12011, 0, [(0, 1), (0, 1)])),
  .inr (.inl (0, 12011, 0, [(0, 0)])),
  .inr (.inl (0, 12011, 0, [(0, -1)])),
  .inr (.inl (0, 12011, 0, [])),
  .inl (1, [.ref 19, .ref 20, .ref 21, .ref 22, .int 0]),
  .inr (.inl (1, 10240, 0, [])),
  .inr (.inl (0, 5121, 0, [])),
  .inr (.inl (0, 1024, 0, ((List.range 1024).map (fun i => (i, (-1 : Int32)))).reverse)),
  .inr (.inl (0, 5120, 0, [])),
  .inr (.inl (1, 8000, 0, [])),
  .inl (2, [.ref 25, .ref 26, .ref 27, .ref 23, .int 0, .int 0, .int 0]),
  .inr (.inl (0, 8001, 0, [])),
  .inr (.inl (0, 8001, 0, [])),
  .inr (.inl (0, 8001, 0, [])),
  .inl (3, [.ref 24, .ref 18, .ref 2, .ref 29, .ref 30, .ref 31, .int 0]),
  .inr (.inl (0, 480, 0, [])),
  .inr (.inl (0, 480, 0, [])),
  .inr (.inl (0, 480, 0, [])),
  .inl (4, [.ref 18, .ref 33, .int 0, .ref 34, .int 0, .int 0]),
  .inr (.inl (1, 8000, 0, [])),
  .inr (.inl (1, 8000, 0, []))]
def zmod : zC := .inl (6, [.null, .null, .int 0, .int 0, .null, .int 0, .null, .int 0, .null, .null, .null, .int 0, .int 0, .int 0, .int 0, .null, .null, .null, .null, .null, .null, .int 0, .null, .null, .null, .null, .null, .null, .null, .null, .null, .int 0])
def zst2 : zS := zst1 ++ [
  .inl (6, [.ref 57, .ref 36, .int 0, .int 0, .ref 37, .int 0, .ref 38, .int 0, .ref 39, .ref 40, .ref 41, .int 0, .int 0, .int 0, .int (-1), .ref 42, .ref 43, .ref 44, .ref 45, .ref 46, .ref 47, .int 0, .ref 48, .ref 49, .ref 50, .ref 51, .ref 52, .ref 53, .ref 54, .ref 55, .ref 56, .int 0]),
  .inr (.inl (0, 8000, 0, [])),
  .inr (.inl (0, 8000, 0, [])),
  .inr (.inl (0, 8001, 0, [])),
  .inr (.inl (0, 8002, 0, [])),
  .inr (.inl (0, 8002, 0, [])),
  .inr (.inl (0, 8002, 0, [])),
  .inr (.inl (0, 26000, 0, [])),
  .inr (.inl (0, 26000, 0, [])),
  .inr (.inl (0, 26000, 0, [])),
  .inr (.inl (0, 26000, 0, [])),
  .inr (.inl (0, 26000, 0, [])),
  .inr (.inl (0, 26000, 0, [])),
  .inr (.inl (0, 26000, 0, [])),
  .inr (.inl (0, 26000, 0, [(13000, 0), (0, 0)])),
  .inr (.inl (0, 26000, 0, [(13000, -1), (0, -1)])),
  .inr (.inl (0, 26000, 0, [(13000, 0), (0, 0)])),
  .inr (.inl (0, 26000, 0, [(13000, -1), (0, -1)])),
  .inr (.inl (0, 26000, 0, [(13000, 1), (0, 1)])),
  .inr (.inl (0, 2, 0, [(1, 1), (1, 0), (0, 1), (0, 0)])),
  .inr (.inl (0, 256, 0, [])),
  .inr (.inl (0, 64, 0, [])),
  .inr (.inr (3, [some 500, some 501, some 502, some 503, some 504, some 505, some 506, some 507, some 508, some 509, some 510, some 511, some 512, some 513, some 514, some 515, some 516, some 517, some 518]))]
set_option maxRecDepth 1000000 in
theorem zrun_1 : zrun 20000 8 0 [.ref 0] zst0 = some (none, zst1) := zis_eq (by decide +kernel)
set_option maxRecDepth 1000000 in
theorem zrun_2 : zrun 20000 8 16 [.ref 35] (zst1 ++ [zmod]) = some (none, zst2) := zis_eq (by decide +kernel)
end
section
/-! THE ABSTRACT MACHINE, 6: it stands for the machine: what holds at a point -/
def ztl (cA : Nat → ClassId) : List (ClassId × FieldType) := [(cA 0, .int), (cA 1, .byte), (cA 2, .object "DesignReader$Tree"), (cA 3, .object "java/lang/String")]
/-- constant texts: resolved; ordinary, of one byte a sign -/
def zcon (ad : Nat → Nat) (B : Nat) (U : State) : Prop :=
  (∀ (i k : Nat) (o tx : String), zstrs[i]? = some (o, k, tx) → vk_R o k tx (ad (500 + i)) U ∧ va_O "java/lang/String" (ad (500 + i)) (fun q => B ≤ q) U U.heap ∧ va_OF "java/lang/String" "coder" "B" (.int 0) (ad (500 + i)) (fun q => B ≤ q) U U.heap ∧ ∃ t : Nat, va_OF "java/lang/String" "value" "[B" (.ref t) (ad (500 + i)) (fun q => B ≤ q) U U.heap ∧ ∃ f : Nat → Value, va_T .byte t tx.length f (fun q => B ≤ q) U U.heap) ∧
  (va_Z "java/lang/String" "COMPACT_STRINGS" "Z" (.int 1) (fun q => B ≤ q) U U.heap ∧ va_AO "DesignReader$Tree" U ∧ va_AO "java/lang/String" U)
theorem zcon.go {ad ad' : Nat → Nat} {B : Nat} {s U : State} (h : zcon ad B s) (hW : s.WarmedH U.vm) (hk : ∀ a : Nat, a < s.heap.size → ¬ B ≤ a → U.heap[a]? = s.heap[a]?) (ha : ∀ i, ad' (500 + i) = ad (500 + i)) : zcon ad' B U := by
  refine ⟨fun i k o tx hi => ?_, (h.2.1.moved hW.alike).kept hk, h.2.2.1.moved hW.alike, h.2.2.2.moved hW.alike⟩
  obtain ⟨h1, h2, h3, t, h4, f, h5⟩ := h.1 i k o tx hi
  rw [ha i]
  exact ⟨h1.warm hW, (h2.moved hW.alike).kept hk, (h3.moved hW.alike).kept hk, t, (h4.moved hW.alike).kept hk, f, (h5.moved hW.alike).kept hk⟩
theorem zcon.blind {ad : Nat → Nat} {B : Nat} {U : State} {g : JFrame} {mk : MethodId} {a : Array Value} (h : zcon ad B U) : zcon ad B (U.calling g mk a) := by
  have hv : U.vm.Alike (U.calling g mk a).vm := Vm.Alike.refl U.vm
  refine ⟨fun i k o tx hi => ?_, va_Z.moved hv h.2.1, va_AO.moved hv h.2.2.1, va_AO.moved hv h.2.2.2⟩
  obtain ⟨h1, h2, h3, t, h4, f, h5⟩ := h.1 i k o tx hi
  exact ⟨h1.same rfl, va_O.moved hv h2, va_OF.moved hv h3, t, va_OF.moved hv h4, f, va_T.moved hv h5⟩
/-- classes: their fields' words, types, names -/
theorem zcl_in : ∀ q ∈ zcl, (u_ws q.1 q.2.1 q.2.2).all (fun w => decide (w ∈ zT)) = true := by decide +kernel
def zclT (i : Nat) : Bool := match zcl[i]?, zfty[i]? with
  | some (_, T, N), some f => (List.range N).all (fun k => decide (parseFieldDescriptor (T k).2.2.1 = some (f k))) && (List.range N).all (fun a => (List.range N).all (fun b => decide (a = b) || decide ((T a).2.1 ≠ (T b).2.1)))
  | _, _ => false
theorem zcl_T : (List.range 7).all zclT = true := by decide +kernel
theorem zcl_N : zcl.length = 7 := rfl
theorem zcl_ws {i N : Nat} {C : String} {T : u_T} (h : zcl[i]? = some (C, T, N)) : ∀ w ∈ u_ws C T N, w ∈ zT := fun w hw => by
  have h1 := zcl_in _ (List.mem_of_getElem? h)
  exact of_decide_eq_true (List.all_eq_true.mp h1 w hw)
theorem zcl_ty {i N : Nat} {C : String} {T : u_T} {f : Nat → FieldType} (h : zcl[i]? = some (C, T, N)) (hf : zfty[i]? = some f) : (∀ k, k < N → parseFieldDescriptor (T k).2.2.1 = some (f k)) ∧ ∀ a, a < N → ∀ b, b < N → a ≠ b → (T a).2.1 ≠ (T b).2.1 := by
  have hi : i < 7 := by
    have := (List.getElem?_eq_some_iff.mp h).1
    rwa [zcl_N] at this
  have h1 := List.all_eq_true.mp zcl_T i (List.mem_range.mpr hi)
  unfold zclT at h1
  rw [h, hf] at h1
  simp only [Bool.and_eq_true] at h1
  refine ⟨fun k hk => of_decide_eq_true (List.all_eq_true.mp h1.1 k (List.mem_range.mpr hk)), fun a ha b hb hab => ?_⟩
  have h2 := List.all_eq_true.mp (List.all_eq_true.mp h1.2 a (List.mem_range.mpr ha)) b (List.mem_range.mpr hb)
  rcases Bool.or_eq_true_iff.mp h2 with h3 | h3
  · exact absurd (of_decide_eq_true h3) hab
  · exact of_decide_eq_true h3
section ZSND
variable {p : Program} {l : Launch} {e : Env} {R : Room} {s : State} {m : MethodId} {args : Array Value} {below : List Frame} {meth : Method} {cd : Code} {Q : State → Prop}
variable {D : va_G} {cA : Nat → ClassId} {A : Nat → Prop} {M : zMth} {ad0 : Nat → Nat} {n0 B : Nat}
/-- what doesn't change while a method runs -/
def zFx (p : Program) (R : Room) (s : State) (m : MethodId) (args : Array Value) (meth : Method) (cd : Code) (D : va_G) (cA : Nat → ClassId) (A : Nat → Prop) (M : zMth) (ad0 : Nat → Nat) (B : Nat) : Prop :=
  (p.tables.exec = Jvm.exec ∧ cd.code = M.2.1 ∧ cd.maxLocals = zmL M ∧ s.vm.findClass (zmO M) = some m.cls ∧ ∀ w ∈ zT, w.before args s = true) ∧
  (va_K D zcl (ztl cA) s ∧ (∀ q, s.heap.size ≤ q → A q) ∧ zcon ad0 B s ∧ (∀ q, A q → B ≤ q) ∧ B ≤ s.heap.size) ∧
  (meth.sig.returnType = zmR M ∧ meth.locks = false ∧ (M.1.name = "<init>" → meth.name = "<init>")) ∧
  (1 ≤ R.frames ∧ 64 ≤ R.locals ∧ R.cells = zmC M ∧ R.slots = zmS M) ∧ zokT M = true
/-- what holds at a point -/
def zInv (s : State) (D : va_G) (cA : Nat → ClassId) (A : Nat → Prop) (M : zMth) (ad0 : Nat → Nat) (n0 : Nat) (ad : Nat → Nat) (lv : List Value) (st : zS) (c k : Nat) (ls : Array Slot) (H : Heap) (locs : List Loc) : Prop :=
  (lv_has ls (zmL M) (zlv ad 0 lv) ∧ lv.length = zmL M) ∧ (va_P D zcl (zw cA ad st) H ∧ va_D A (zw cA ad st) ∧ va_S A s.heap H locs) ∧ (c ≤ zmC M ∧ k ≤ zmS M) ∧ zag n0 ad0 ad ∧ n0 ≤ st.length
def zKp (p : Program) (l : Launch) (e : Env) (R : Room) (s : State) (m : MethodId) (args : Array Value) (below : List Frame) (meth : Method) (cd : Code) (Q : State → Prop) (D : va_G) (cA : Nat → ClassId) (A : Nat → Prop) (M : zMth) (ad0 : Nat → Nat) (n0 : Nat) (x : zX) : Prop :=
  ∀ (ad : Nat → Nat) (ls : Array Slot) (H : Heap) (locs : List Loc), zInv s D cA A M ad0 n0 ad x.2.1 x.2.2.2.1 x.2.2.2.2.1 x.2.2.2.2.2 ls H locs → W p l e R s m args below meth cd H locs x.2.2.2.2.1 x.2.2.2.2.2 Q (F0 m x.1 ls (x.2.2.1.map (zcv ad)))
theorem zw_in {i : Nat} {w : Cond} (F : zFx p R s m args meth cd D cA A M ad0 B) (h : zT[i]? = some w) : w.before args s = true := F.1.2.2.2.2 w (List.mem_of_getElem? h)
theorem zin_of {i : Int32} {n : Nat} (h : zin i n = true) : vp_in i n := by
  unfold zin at h
  simp only [Bool.not_eq_true', Bool.or_eq_false_iff, decide_eq_false_iff_not] at h
  exact fun q => q.elim h.1 h.2
theorem zlv_ag {n : Nat} {ad ad' : Nat → Nat} (h : zag n ad ad') : ∀ (lv : List Value) (i : Nat), lv.all (zsc n) = true → zlv ad' i lv = zlv ad i lv := by
  intro lv
  induction lv with
  | nil => intro i _; rfl
  | cons v r ih =>
    intro i hv
    simp only [List.all_cons, Bool.and_eq_true] at hv
    unfold zlv
    rw [zcv_ag h hv.1, ih _ hv.2]
/-- steps on locals and the stack alone: the same point but for place and stack -/
theorem zk_same {pc pc' : Nat} {lv stk stk' : List Value} {st : zS} {c k : Nat} (hk : zKp p l e R s m args below meth cd Q D cA A M ad0 n0 (pc', lv, stk', st, c, k))
    (h : ∀ (ad : Nat → Nat) (ls : Array Slot) (H : Heap) (locs : List Loc), lv_has ls (zmL M) (zlv ad 0 lv) → W p l e R s m args below meth cd H locs c k Q (F0 m pc' ls (stk'.map (zcv ad))) → W p l e R s m args below meth cd H locs c k Q (F0 m pc ls (stk.map (zcv ad)))) : zKp p l e R s m args below meth cd Q D cA A M ad0 n0 (pc, lv, stk, st, c, k) :=
  fun ad ls H locs I => h ad ls H locs I.1.1 (hk ad ls H locs I)
theorem zk_iconst {pc : Nat} {lv stk : List Value} {st : zS} {c k : Nat} {n : Int} (F : zFx p R s m args meth cd D cA A M ad0 B) (hd : decode M.2.1 pc = .ok (.iconst n, 1)) (hk : zKp p l e R s m args below meth cd Q D cA A M ad0 n0 (pc + 1, lv, .int (Int32.ofInt n) :: stk, st, c, k)) : zKp p l e R s m args below meth cd Q D cA A M ad0 n0 (pc, lv, stk, st, c, k) :=
  zk_same hk fun _ _ _ _ _ w => lv_iconst F.1.1 F.1.2.1 hd rfl w
theorem zk_bipush {pc : Nat} {lv stk : List Value} {st : zS} {c k : Nat} {n : Int} (F : zFx p R s m args meth cd D cA A M ad0 B) (hd : decode M.2.1 pc = .ok (.bipush n, 2)) (hk : zKp p l e R s m args below meth cd Q D cA A M ad0 n0 (pc + 2, lv, .int (Int8.ofInt n).toInt32 :: stk, st, c, k)) : zKp p l e R s m args below meth cd Q D cA A M ad0 n0 (pc, lv, stk, st, c, k) :=
  zk_same hk fun _ _ _ _ _ w => lv_bipush F.1.1 F.1.2.1 hd rfl w
theorem zk_sipush {pc : Nat} {lv stk : List Value} {st : zS} {c k : Nat} {n : Int} (F : zFx p R s m args meth cd D cA A M ad0 B) (hd : decode M.2.1 pc = .ok (.sipush n, 3)) (hk : zKp p l e R s m args below meth cd Q D cA A M ad0 n0 (pc + 3, lv, .int (Int16.ofInt n).toInt32 :: stk, st, c, k)) : zKp p l e R s m args below meth cd Q D cA A M ad0 n0 (pc, lv, stk, st, c, k) :=
  zk_same hk fun _ _ _ _ _ w => lv_sipush F.1.1 F.1.2.1 hd rfl w
theorem zk_ldI {i len pc : Nat} {lv stk : List Value} {st : zS} {c k : Nat} {y : zX} (F : zFx p R s m args meth cd D cA A M ad0 B) (hd : (decode M.2.1 pc = .ok (.iload i, 2) ∧ len = 2) ∨ ∃ j : Fin 4, decode M.2.1 pc = .ok (.iload_n j, 1) ∧ (j : Nat) = i ∧ len = 1) (h : zldI i len pc lv stk st c k = some (.inl y)) (hk : zKp p l e R s m args below meth cd Q D cA A M ad0 n0 y) : zKp p l e R s m args below meth cd Q D cA A M ad0 n0 (pc, lv, stk, st, c, k) := by
  unfold zldI zn at h
  split at h
  · rename_i x hx
    cases h
    refine zk_same hk fun ad ls H locs hl w => ?_
    have hv := zl_at (ad := ad) hl hx rfl
    rcases hd with ⟨hd, rfl⟩ | ⟨j, hd, hj, rfl⟩
    · exact lv_iload F.1.1 F.1.2.1 hd hv w
    · exact lv_iload_n F.1.1 F.1.2.1 hd hj hv w
  · cases h
theorem zk_ldA {i len pc : Nat} {lv stk : List Value} {st : zS} {c k : Nat} {y : zX} (F : zFx p R s m args meth cd D cA A M ad0 B) (hd : (decode M.2.1 pc = .ok (.aload i, 2) ∧ len = 2) ∨ ∃ j : Fin 4, decode M.2.1 pc = .ok (.aload_n j, 1) ∧ (j : Nat) = i ∧ len = 1) (h : zldA i len pc lv stk st c k = some (.inl y)) (hk : zKp p l e R s m args below meth cd Q D cA A M ad0 n0 y) : zKp p l e R s m args below meth cd Q D cA A M ad0 n0 (pc, lv, stk, st, c, k) := by
  unfold zldA zn at h
  split at h
  · rename_i x hx
    cases h
    refine zk_same hk fun ad ls H locs hl w => ?_
    have hv := zl_at (ad := ad) hl hx rfl
    rcases hd with ⟨hd, rfl⟩ | ⟨j, hd, hj, rfl⟩
    · exact lv_aload F.1.1 F.1.2.1 hd hv w
    · exact lv_aload_n F.1.1 F.1.2.1 hd hj hv w
  · cases h
theorem zk_soI {i len pc : Nat} {lv stk : List Value} {st : zS} {c k : Nat} {y : zX} (F : zFx p R s m args meth cd D cA A M ad0 B) (hd : (decode M.2.1 pc = .ok (.istore i, 2) ∧ len = 2) ∨ ∃ j : Fin 4, decode M.2.1 pc = .ok (.istore_n j, 1) ∧ (j : Nat) = i ∧ len = 1) (h : zsoI i len pc lv stk st c k = some (.inl y)) (hk : zKp p l e R s m args below meth cd Q D cA A M ad0 n0 y) : zKp p l e R s m args below meth cd Q D cA A M ad0 n0 (pc, lv, stk, st, c, k) := by
  unfold zsoI zn at h
  split at h
  · split at h
    · rename_i x r hi
      cases h
      intro ad ls H locs I
      have hi' : i < zmL M := I.1.2 ▸ hi
      have go : ∀ ls' : Array Slot, lv_has ls' (zmL M) ((i, Value.int x) :: (zlv ad 0 lv).filter (fun q => !(q.1 == i) && !(q.1 + 1 == i && q.2.category == 2))) → W p l e R s m args below meth cd H locs c k Q (F0 m (pc + len) ls' (r.map (zcv ad))) := fun ls' h' => hk ad ls' H locs ⟨⟨zl_set1 (v := .int x) hi h', by rw [zset_len]; exact I.1.2⟩, I.2⟩
      rcases hd with ⟨hd, rfl⟩ | ⟨j, hd, hj, rfl⟩
      · exact lv_istore F.1.1 F.1.2.1 hd I.1.1 hi' rfl go
      · exact lv_istore_n F.1.1 F.1.2.1 hd hj I.1.1 hi' rfl go
    · cases h
  · cases h
theorem zk_soA {i len pc : Nat} {lv stk : List Value} {st : zS} {c k : Nat} {y : zX} (F : zFx p R s m args meth cd D cA A M ad0 B) (hd : (decode M.2.1 pc = .ok (.astore i, 2) ∧ len = 2) ∨ ∃ j : Fin 4, decode M.2.1 pc = .ok (.astore_n j, 1) ∧ (j : Nat) = i ∧ len = 1) (h : zsoA i len pc lv stk st c k = some (.inl y)) (hk : zKp p l e R s m args below meth cd Q D cA A M ad0 n0 y) : zKp p l e R s m args below meth cd Q D cA A M ad0 n0 (pc, lv, stk, st, c, k) := by
  unfold zsoA zn at h
  split at h
  · split at h
    · rename_i x r hi
      cases h
      intro ad ls H locs I
      have hi' : i < zmL M := I.1.2 ▸ hi
      have go : ∀ ls' : Array Slot, lv_has ls' (zmL M) ((i, Value.ref (ad x)) :: (zlv ad 0 lv).filter (fun q => !(q.1 == i) && !(q.1 + 1 == i && q.2.category == 2))) → W p l e R s m args below meth cd H locs c k Q (F0 m (pc + len) ls' (r.map (zcv ad))) := fun ls' h' => hk ad ls' H locs ⟨⟨zl_set1 (v := .ref x) hi h', by rw [zset_len]; exact I.1.2⟩, I.2⟩
      rcases hd with ⟨hd, rfl⟩ | ⟨j, hd, hj, rfl⟩
      · exact lv_astore F.1.1 F.1.2.1 hd I.1.1 hi' rfl go
      · exact lv_astore_n F.1.1 F.1.2.1 hd hj I.1.1 hi' rfl go
    · cases h
  · cases h
theorem zk_inc {i pc : Nat} {n : Int} {lv stk : List Value} {st : zS} {c k : Nat} {y : zX} (F : zFx p R s m args meth cd D cA A M ad0 B) (hd : decode M.2.1 pc = .ok (.iinc i n, 3)) (h : zinc i n pc lv stk st c k = some (.inl y)) (hk : zKp p l e R s m args below meth cd Q D cA A M ad0 n0 y) : zKp p l e R s m args below meth cd Q D cA A M ad0 n0 (pc, lv, stk, st, c, k) := by
  unfold zinc zn at h
  split at h
  · rename_i x hx
    cases h
    intro ad ls H locs I
    have hi : i < lv.length := (List.getElem?_eq_some_iff.mp hx).1
    have hi' : i < zmL M := I.1.2 ▸ hi
    obtain ⟨kk, hkk⟩ := List.getElem?_of_mem (zlv_mem (ad := ad) (i := 0) (lv := lv) (q := (i, .int x)) |>.mpr ⟨i, .int x, hx, rfl, by simp [zcv]⟩)
    exact lv_iinc F.1.1 F.1.2.1 hd I.1.1 hkk rfl hi' rfl fun ls' h' => hk ad ls' H locs ⟨⟨zl_set1 (v := .int (x + Int32.ofInt n)) hi h', by rw [zset_len]; exact I.1.2⟩, I.2⟩
  · cases h
end ZSND
end
section
/-! THE ABSTRACT MACHINE, 7: arithmetic, branches, fields, arrays -/
section ZSND
variable {p : Program} {l : Launch} {e : Env} {R : Room} {s : State} {m : MethodId} {args : Array Value} {below : List Frame} {meth : Method} {cd : Code} {Q : State → Prop}
variable {D : va_G} {cA : Nat → ClassId} {A : Nat → Prop} {M : zMth} {ad0 : Nat → Nat} {n0 B : Nat}
variable {pc : Nat} {lv stk : List Value} {st : zS} {c k : Nat} {y : zX}
theorem zk_bin {f : Int32 → Int32 → Int32} (row : ∀ (x z : Int32) (H : Heap) (locs : List Loc) (ls : Array Slot) (r : List Value), W p l e R s m args below meth cd H locs c k Q (F0 m (pc + 1) ls (.int (f x z) :: r)) → W p l e R s m args below meth cd H locs c k Q (F0 m pc ls (.int z :: .int x :: r)))
    (h : zbin f pc lv stk st c k = some (.inl y)) (hk : zKp p l e R s m args below meth cd Q D cA A M ad0 n0 y) : zKp p l e R s m args below meth cd Q D cA A M ad0 n0 (pc, lv, stk, st, c, k) := by
  unfold zbin zn at h
  split at h
  · cases h
    exact zk_same hk fun _ _ _ _ _ w => row _ _ _ _ _ _ w
  · cases h
theorem zk_rem (F : zFx p R s m args meth cd D cA A M ad0 B) (hd : decode M.2.1 pc = .ok (.irem, 1)) (h : zrem pc lv stk st c k = some (.inl y)) (hk : zKp p l e R s m args below meth cd Q D cA A M ad0 n0 y) : zKp p l e R s m args below meth cd Q D cA A M ad0 n0 (pc, lv, stk, st, c, k) := by
  unfold zrem zn at h
  split at h
  · split at h
    · cases h
    · rename_i hne
      cases h
      exact zk_same hk fun _ _ _ _ _ w => lv_irem F.1.1 F.1.2.1 hd hne w
  · cases h
theorem zk_i2b (F : zFx p R s m args meth cd D cA A M ad0 B) (hd : decode M.2.1 pc = .ok (.i2b, 1)) (h : zi2b pc lv stk st c k = some (.inl y)) (hk : zKp p l e R s m args below meth cd Q D cA A M ad0 n0 y) : zKp p l e R s m args below meth cd Q D cA A M ad0 n0 (pc, lv, stk, st, c, k) := by
  unfold zi2b zn at h
  split at h
  · cases h
    exact zk_same hk fun _ _ _ _ _ w => lv_i2b F.1.1 F.1.2.1 hd rfl w
  · cases h
theorem zk_dup (F : zFx p R s m args meth cd D cA A M ad0 B) (hd : decode M.2.1 pc = .ok (.dup, 1)) (h : zdup pc lv stk st c k = some (.inl y)) (hk : zKp p l e R s m args below meth cd Q D cA A M ad0 n0 y) : zKp p l e R s m args below meth cd Q D cA A M ad0 n0 (pc, lv, stk, st, c, k) := by
  unfold zdup zn at h
  split at h
  · split at h
    · rename_i hc
      cases h
      exact zk_same hk fun ad _ _ _ _ w => lv_dup F.1.1 F.1.2.1 hd (by rw [zcv_cat]; exact hc) w
    · cases h
  · cases h
theorem zk_dup2 (F : zFx p R s m args meth cd D cA A M ad0 B) (hd : decode M.2.1 pc = .ok (.dup2, 1)) (h : zdup2 pc lv stk st c k = some (.inl y)) (hk : zKp p l e R s m args below meth cd Q D cA A M ad0 n0 y) : zKp p l e R s m args below meth cd Q D cA A M ad0 n0 (pc, lv, stk, st, c, k) := by
  unfold zdup2 zn at h
  split at h
  · split at h
    · rename_i hc
      cases h
      exact zk_same hk fun ad _ _ _ _ w => lv_dup2_11 F.1.1 F.1.2.1 hd (by rw [zcv_cat]; exact hc.1) (by rw [zcv_cat]; exact hc.2) w
    · cases h
  · cases h
theorem zk_pop (F : zFx p R s m args meth cd D cA A M ad0 B) (hd : decode M.2.1 pc = .ok (.pop, 1)) (h : zpop pc lv stk st c k = some (.inl y)) (hk : zKp p l e R s m args below meth cd Q D cA A M ad0 n0 y) : zKp p l e R s m args below meth cd Q D cA A M ad0 n0 (pc, lv, stk, st, c, k) := by
  unfold zpop zn at h
  split at h
  · split at h
    · rename_i hc
      cases h
      exact zk_same hk fun ad _ _ _ _ w => lv_pop F.1.1 F.1.2.1 hd (by rw [zcv_cat]; exact hc) w
    · cases h
  · cases h
theorem zk_goto {a : Nat} {off : Int} (F : zFx p R s m args meth cd D cA A M ad0 B) (hd : decode M.2.1 pc = .ok (.goto off, 3)) (ht : (pc : Int) + off = (a : Int)) (hk : zKp p l e R s m args below meth cd Q D cA A M ad0 n0 (a, lv, stk, st, c, k)) : zKp p l e R s m args below meth cd Q D cA A M ad0 n0 (pc, lv, stk, st, c, k) :=
  zk_same hk fun _ _ _ _ _ w => lv_goto F.1.1 F.1.2.1 hd ht w
/-- of two ways, the one that is gone -/
theorem zk_two {t pc' : Nat} {r : List Value} {P : Prop} [Decidable P] (h : (if P then zn t lv r st c k else zn pc' lv r st c k) = some (.inl y)) (hk : zKp p l e R s m args below meth cd Q D cA A M ad0 n0 y)
    (row : ∀ (H : Heap) (locs : List Loc) (ls : Array Slot) (r' : List Value), (P → W p l e R s m args below meth cd H locs c k Q (F0 m t ls r')) → (¬ P → W p l e R s m args below meth cd H locs c k Q (F0 m pc' ls r')) → ∀ ad : Nat → Nat, r' = r.map (zcv ad) → W p l e R s m args below meth cd H locs c k Q (F0 m pc ls (stk.map (zcv ad)))) : zKp p l e R s m args below meth cd Q D cA A M ad0 n0 (pc, lv, stk, st, c, k) := by
  intro ad ls H locs I
  by_cases hP : P
  · rw [if_pos hP] at h
    cases h
    exact row H locs ls _ (fun _ => hk ad ls H locs I) (fun q => absurd hP q) ad rfl
  · rw [if_neg hP] at h
    cases h
    exact row H locs ls _ (fun q => absurd q hP) (fun _ => hk ad ls H locs I) ad rfl
theorem zk_if1 {a : Nat} {off : Int} {kd : ClassFile.Cond} (F : zFx p R s m args meth cd D cA A M ad0 B) (hd : decode M.2.1 pc = .ok (.ifCond kd off, 3)) (ht : (pc : Int) + off = (a : Int)) (h : zif1 kd a pc lv stk st c k = some (.inl y)) (hk : zKp p l e R s m args below meth cd Q D cA A M ad0 n0 y) : zKp p l e R s m args below meth cd Q D cA A M ad0 n0 (pc, lv, stk, st, c, k) := by
  unfold zif1 at h
  split at h
  · cases kd with
    | eq => exact zk_two h hk fun H locs ls r' kt kf ad e => by subst e; exact lv_if_eq F.1.1 F.1.2.1 hd ht kt kf
    | ne => exact zk_two h hk fun H locs ls r' kt kf ad e => by subst e; exact lv_if_ne F.1.1 F.1.2.1 hd ht kt (fun q => kf (fun z => z q))
    | lt => exact zk_two h hk fun H locs ls r' kt kf ad e => by subst e; exact lv_if_lt F.1.1 F.1.2.1 hd ht kt kf
    | ge => exact zk_two h hk fun H locs ls r' kt kf ad e => by subst e; exact lv_if_ge F.1.1 F.1.2.1 hd ht kt kf
    | gt => exact zk_two h hk fun H locs ls r' kt kf ad e => by subst e; exact lv_if_gt F.1.1 F.1.2.1 hd ht kt kf
    | le => exact zk_two h hk fun H locs ls r' kt kf ad e => by subst e; exact lv_if_le F.1.1 F.1.2.1 hd ht kt kf
  · cases h
theorem zk_if2 {a : Nat} {off : Int} {kd : ClassFile.Cond} (F : zFx p R s m args meth cd D cA A M ad0 B) (hd : decode M.2.1 pc = .ok (.if_icmp kd off, 3)) (ht : (pc : Int) + off = (a : Int)) (h : zif2 kd a pc lv stk st c k = some (.inl y)) (hk : zKp p l e R s m args below meth cd Q D cA A M ad0 n0 y) : zKp p l e R s m args below meth cd Q D cA A M ad0 n0 (pc, lv, stk, st, c, k) := by
  unfold zif2 at h
  split at h
  · cases kd with
    | eq => exact zk_two h hk fun H locs ls r' kt kf ad e => by subst e; exact lv_icmp_eq F.1.1 F.1.2.1 hd ht kt kf
    | ne => exact zk_two h hk fun H locs ls r' kt kf ad e => by subst e; exact lv_icmp_ne F.1.1 F.1.2.1 hd ht kt (fun q => kf (fun z => z q))
    | lt => exact zk_two h hk fun H locs ls r' kt kf ad e => by subst e; exact lv_icmp_lt F.1.1 F.1.2.1 hd ht kt kf
    | ge => exact zk_two h hk fun H locs ls r' kt kf ad e => by subst e; exact lv_icmp_ge F.1.1 F.1.2.1 hd ht kt kf
    | gt => exact zk_two h hk fun H locs ls r' kt kf ad e => by subst e; exact lv_icmp_gt F.1.1 F.1.2.1 hd ht kt kf
    | le => exact zk_two h hk fun H locs ls r' kt kf ad e => by subst e; exact lv_icmp_le F.1.1 F.1.2.1 hd ht kt kf
  · cases h
theorem zsw_out {x : Int32} {d pc : Nat} {lo : Int} : ∀ (sw : List (Int32 × Nat)) (os : List Int) (j : Nat), sw.map (fun q => (q.1.toInt, (q.2 : Int))) = os.mapIdx (fun i o => (lo + ((j + i : Nat) : Int), (pc : Int) + o)) → (x.toInt < lo + (j : Int) ∨ lo + (j : Int) + (os.length : Int) ≤ x.toInt) → zswT x d sw = d := by
  intro sw
  induction sw with
  | nil => intro os j _ _; rfl
  | cons q r ih =>
    intro os j h hx
    cases os with
    | nil => simp at h
    | cons o os =>
      simp only [List.map_cons, List.mapIdx_cons, List.cons.injEq, Prod.mk.injEq] at h
      obtain ⟨⟨h1, h2⟩, h3⟩ := h
      unfold zswT
      have hne : ¬ x = q.1 := fun e => by
        subst e
        simp only [List.length_cons] at hx
        omega
      rw [if_neg hne]
      refine ih os (j + 1) ?_ ?_
      · rw [h3]
        congr 1
        funext i o'
        congr 2
        omega
      · simp only [List.length_cons] at hx
        omega
theorem zsw_in {x : Int32} {d pc : Nat} {lo : Int} : ∀ (sw : List (Int32 × Nat)) (os : List Int) (j : Nat), sw.map (fun q => (q.1.toInt, (q.2 : Int))) = os.mapIdx (fun i o => (lo + ((j + i : Nat) : Int), (pc : Int) + o)) → lo + (j : Int) ≤ x.toInt → x.toInt < lo + (j : Int) + (os.length : Int) → ∃ off, os[(x.toInt - lo - (j : Int)).toNat]? = some off ∧ (pc : Int) + off = (zswT x d sw : Int) := by
  intro sw
  induction sw with
  | nil =>
    intro os j h hx hy
    cases os with
    | nil => simp at hy; omega
    | cons o os => simp at h
  | cons q r ih =>
    intro os j h hx hy
    cases os with
    | nil => simp at h
    | cons o os =>
      simp only [List.map_cons, List.mapIdx_cons, List.cons.injEq, Prod.mk.injEq] at h
      obtain ⟨⟨h1, h2⟩, h3⟩ := h
      unfold zswT
      by_cases he : x = q.1
      · rw [if_pos he]
        subst he
        refine ⟨o, ?_, h2.symm⟩
        rw [show (q.1.toInt - lo - (j : Int)).toNat = 0 by omega]
        rfl
      · rw [if_neg he]
        have hne : x.toInt ≠ lo + (j : Int) := fun z => he (Int32.toInt_inj.mp (by rw [z, h1]; simp))
        simp only [List.length_cons] at hy
        obtain ⟨off, e1, e2⟩ := ih os (j + 1) (by
          rw [h3]
          congr 1
          funext i o'
          congr 2
          omega) (by omega) (by omega)
        refine ⟨off, ?_, e2⟩
        rw [show (x.toInt - lo - (j : Int)).toNat = (x.toInt - lo - ((j + 1 : Nat) : Int)).toNat + 1 by omega]
        simpa using e1
theorem zk_sw {a len : Nat} {dflt lo hi : Int} {offs : Array Int} {sw : List (Int32 × Nat)} (F : zFx p R s m args meth cd D cA A M ad0 B) (hd : decode M.2.1 pc = .ok (.tableswitch dflt lo hi offs, len)) (ht : (pc : Int) + dflt = (a : Int)) (hs : zokSw pc lo hi offs sw = true) (h : zsw a sw lv stk st c k = some (.inl y)) (hk : zKp p l e R s m args below meth cd Q D cA A M ad0 n0 y) : zKp p l e R s m args below meth cd Q D cA A M ad0 n0 (pc, lv, stk, st, c, k) := by
  unfold zokSw at hs
  simp only [Bool.and_eq_true, decide_eq_true_eq] at hs
  obtain ⟨h1, h2⟩ := hs
  have h1' : sw.map (fun q => (q.1.toInt, (q.2 : Int))) = offs.toList.mapIdx (fun i o => (lo + ((0 + i : Nat) : Int), (pc : Int) + o)) := by
    rw [h1]
    congr 1
    funext i o
    simp
  have hlen : (offs.toList.length : Int) = hi - lo + 1 := by simpa using h2
  unfold zsw zn at h
  split at h
  · rename_i x r
    cases h
    refine zk_same hk fun ad ls H locs _ w => ?_
    by_cases hx : x.toInt < lo ∨ hi < x.toInt
    · rw [zsw_out sw offs.toList 0 h1' (by omega)] at w
      exact lv_tableOut F.1.1 F.1.2.1 hd hx ht w
    · obtain ⟨off, e1, e2⟩ := zsw_in (d := a) (x := x) sw offs.toList 0 h1' (by omega) (by omega)
      refine lv_tableIn F.1.1 F.1.2.1 hd (fun q => hx (Or.inl q)) (fun q => hx (Or.inr q)) (off := off) ?_ e2 w
      rw [← Array.getElem?_toList]
      simpa using e1
  · cases h
theorem zk_getf {a b cw idx : Nat} (F : zFx p R s m args meth cd D cA A M ad0 B) (hd : decode M.2.1 pc = .ok (.getfield idx, 3)) (hok : zokF (zmO M) idx a b cw = true) (h : zgetf a b pc lv stk st c k = some (.inl y)) (hk : zKp p l e R s m args below meth cd Q D cA A M ad0 n0 y) : zKp p l e R s m args below meth cd Q D cA A M ad0 n0 (pc, lv, stk, st, c, k) := by
  unfold zokF at hok
  split at hok
  · rename_i C T N hc
    simp only [Bool.and_eq_true, decide_eq_true_eq] at hok
    unfold zgetf zn at h
    split at h
    · rename_i r rest
      split at h
      · rename_i ci' fs hs
        split at h
        · rename_i hci
          subst hci
          split at h
          · rename_i v hv
            cases h
            intro ad ls H locs I
            refine va_get (D := D) (ci := ci') (v := zcv ad v) F.1.1 F.1.2.1 F.1.2.2.2.2 (zcl_ws hc) F.1.2.2.2.1 F.2.1.1 I.2.1.1 r (zw_at hs) hc b hok.1 (zw_in F hok.2) (fun _ q => q) ?_ hd (hk ad ls H locs I)
            rw [List.getElem?_map, hv]
            rfl
          · cases h
        · cases h
      · cases h
    · cases h
  · cases hok
theorem zfits_ok {ty : FieldType} {v : Value} {ad : Nat → Nat} (h : zfits ty v = true) : narrow ty (zcv ad v) = zcv ad v ∧ fits ty (zcv ad v) = true := by
  unfold zfits at h
  split at h
  · exact ⟨rfl, rfl⟩
  · rename_i x
    simp only [Bool.or_eq_true, beq_iff_eq] at h
    rcases h with rfl | rfl <;> exact ⟨rfl, rfl⟩
  · exact ⟨rfl, rfl⟩
  · exact ⟨rfl, rfl⟩
  · cases h
theorem zk_putf {a b cw idx : Nat} {ft : Nat → FieldType} (F : zFx p R s m args meth cd D cA A M ad0 B) (hd : decode M.2.1 pc = .ok (.putfield idx, 3)) (hok : zokF (zmO M) idx a b cw = true) (hop : zokP M a b = true) (hft : zfty[a]? = some ft) (h : zputf (ft b) a b pc lv stk st c k = some (.inl y)) (hk : zKp p l e R s m args below meth cd Q D cA A M ad0 n0 y) : zKp p l e R s m args below meth cd Q D cA A M ad0 n0 (pc, lv, stk, st, c, k) := by
  unfold zokF at hok
  unfold zokP at hop
  split at hok
  · rename_i C T N hc
    rw [hc] at hop
    dsimp only at hop
    simp only [Bool.and_eq_true, decide_eq_true_eq] at hok
    unfold zputf zn at h
    split at h
    · rename_i v r rest
      split at h
      · rename_i ci' fs hs
        split at h
        · rename_i hci
          obtain ⟨rfl, hl, hfit⟩ := hci
          cases h
          intro ad ls H locs I
          obtain ⟨hty, hnm⟩ := zcl_ty hc hft
          obtain ⟨f1, f2⟩ := zfits_ok (ad := ad) hfit
          have hlm : b < (fs.map (zcv ad)).length := by rw [List.length_map]; exact hl
          have go : ∀ (H1 : Heap) (locs1 : List Loc), va_P D zcl ((zw cA ad st).set r (ad r, .inr (ci', (fs.map (zcv ad)).set b (zcv ad v)))) H1 → va_D A ((zw cA ad st).set r (ad r, .inr (ci', (fs.map (zcv ad)).set b (zcv ad v)))) → va_S A s.heap H1 locs1 → W p l e R s m args below meth cd H1 locs1 c k Q (F0 m (pc + 3) ls (rest.map (zcv ad))) := by
            intro H1 locs1 hP hD hS
            have e1 : (zw cA ad st).set r (ad r, .inr (ci', (fs.map (zcv ad)).set b (zcv ad v))) = zw cA ad (st.set r (.inl (ci', fs.set b v))) := by
              rw [← zw_set]
              simp only [zcc, List.map_set]
            rw [e1] at hP hD
            exact hk ad ls H1 locs1 ⟨I.1, ⟨hP, hD, hS⟩, I.2.2.1, I.2.2.2.1, by rw [List.length_set]; exact I.2.2.2.2⟩
          cases hfin : (T b).2.2.2 with
          | false => exact va_put (D := D) (ci := ci') (v := zcv ad v) F.1.1 F.1.2.1 F.1.2.2.2.2 (zcl_ws hc) ft hty hnm F.1.2.2.2.1 F.2.1.1 I.2.1.1 I.2.1.2.1 I.2.1.2.2 r (zw_at hs) hc b hok.1 (zw_in F hok.2) (fun _ q => q) hfin (hty b hok.1) f1 f2 hlm hd go
          | true =>
            rw [hfin] at hop
            simp only [Bool.not_true, Bool.false_or, Bool.and_eq_true, decide_eq_true_eq] at hop
            exact va_putF (D := D) (ci := ci') (v := zcv ad v) F.1.1 F.1.2.1 F.1.2.2.2.2 (zcl_ws hc) ft hty hnm F.1.2.2.2.1 F.2.1.1 I.2.1.1 I.2.1.2.1 I.2.1.2.2 r (zw_at hs) hc b hok.1 (zw_in F hok.2) (fun _ q => q) hfin (F.2.2.1.2.2 hop.1) hop.2 (hty b hok.1) f1 f2 hlm hd go
        · cases h
      · cases h
    · cases h
  · cases hok
end ZSND
end
section
/-! THE ABSTRACT MACHINE, 8: arrays, new cells, texts, the library's own -/
section ZSND
variable {p : Program} {l : Launch} {e : Env} {R : Room} {s : State} {m : MethodId} {args : Array Value} {below : List Frame} {meth : Method} {cd : Code} {Q : State → Prop}
variable {D : va_G} {cA : Nat → ClassId} {A : Nat → Prop} {M : zMth} {ad0 : Nat → Nat} {n0 B : Nat}
variable {pc : Nat} {lv stk : List Value} {st : zS} {c k : Nat} {y : zX}
theorem zk_iald (F : zFx p R s m args meth cd D cA A M ad0 B) (hd : decode M.2.1 pc = .ok (.iaload, 1)) (h : zaldN 0 pc lv stk st c k = some (.inl y)) (hk : zKp p l e R s m args below meth cd Q D cA A M ad0 n0 y) : zKp p l e R s m args below meth cd Q D cA A M ad0 n0 (pc, lv, stk, st, c, k) := by
  unfold zaldN zn at h
  split at h
  · split at h
    · rename_i r rest _ t n d u hs
      split at h
      · rename_i hq
        obtain ⟨rfl, hin⟩ := hq
        cases h
        intro ad ls H locs I
        exact va_iald F.1.1 F.1.2.1 F.2.1.1 I.2.1.1 r 0 (zw_at hs) rfl (zin_of hin) hd (hk ad ls H locs I)
      · cases h
    · cases h
  · cases h
theorem zk_bald (F : zFx p R s m args meth cd D cA A M ad0 B) (hd : decode M.2.1 pc = .ok (.baload, 1)) (h : zaldN 1 pc lv stk st c k = some (.inl y)) (hk : zKp p l e R s m args below meth cd Q D cA A M ad0 n0 y) : zKp p l e R s m args below meth cd Q D cA A M ad0 n0 (pc, lv, stk, st, c, k) := by
  unfold zaldN zn at h
  split at h
  · split at h
    · rename_i r rest _ t n d u hs
      split at h
      · rename_i hq
        obtain ⟨rfl, hin⟩ := hq
        cases h
        intro ad ls H locs I
        exact va_bald F.1.1 F.1.2.1 F.2.1.1 I.2.1.1 r 1 (zw_at hs) rfl (zin_of hin) hd (hk ad ls H locs I)
      · cases h
    · cases h
  · cases h
theorem zk_iast (F : zFx p R s m args meth cd D cA A M ad0 B) (hd : decode M.2.1 pc = .ok (.iastore, 1)) (h : zastN 0 pc id lv stk st c k = some (.inl y)) (hk : zKp p l e R s m args below meth cd Q D cA A M ad0 n0 y) : zKp p l e R s m args below meth cd Q D cA A M ad0 n0 (pc, lv, stk, st, c, k) := by
  unfold zastN zn at h
  split at h
  · rename_i x i r rest
    split at h
    · rename_i t n d u hs
      split at h
      · rename_i hq
        obtain ⟨rfl, hin⟩ := hq
        cases h
        intro ad ls H locs I
        refine va_iast F.1.1 F.1.2.1 F.2.1.1 I.2.1.1 I.2.1.2.1 I.2.1.2.2 r 0 (zw_at hs) rfl (zin_of hin) hd fun H1 locs1 hP hD hS => ?_
        have e1 : (zw cA ad st).set r (ad r, .inl (cA 0, n, .inl (upd (zfun d u) i.toNatClampNeg x))) = zw cA ad (st.set r (.inr (.inl (0, n, d, (i.toNatClampNeg, id x) :: u)))) := by
          rw [← zw_set]
          rfl
        rw [e1] at hP hD
        exact hk ad ls H1 locs1 ⟨I.1, ⟨hP, hD, hS⟩, I.2.2.1, I.2.2.2.1, by rw [List.length_set]; exact I.2.2.2.2⟩
      · cases h
    · cases h
  · cases h
theorem zk_bast (F : zFx p R s m args meth cd D cA A M ad0 B) (hd : decode M.2.1 pc = .ok (.bastore, 1)) (h : zastN 1 pc (fun x => vp_nar .byte x) lv stk st c k = some (.inl y)) (hk : zKp p l e R s m args below meth cd Q D cA A M ad0 n0 y) : zKp p l e R s m args below meth cd Q D cA A M ad0 n0 (pc, lv, stk, st, c, k) := by
  unfold zastN zn at h
  split at h
  · rename_i x i r rest
    split at h
    · rename_i t n d u hs
      split at h
      · rename_i hq
        obtain ⟨rfl, hin⟩ := hq
        cases h
        intro ad ls H locs I
        refine va_bast F.1.1 F.1.2.1 F.2.1.1 I.2.1.1 I.2.1.2.1 I.2.1.2.2 r 1 (zw_at hs) rfl (zin_of hin) hd fun H1 locs1 hP hD hS => ?_
        have e1 : (zw cA ad st).set r (ad r, .inl (cA 1, n, .inl (upd (zfun d u) i.toNatClampNeg (vp_nar .byte x)))) = zw cA ad (st.set r (.inr (.inl (1, n, d, (i.toNatClampNeg, vp_nar .byte x) :: u)))) := by
          rw [← zw_set]
          rfl
        rw [e1] at hP hD
        exact hk ad ls H1 locs1 ⟨I.1, ⟨hP, hD, hS⟩, I.2.2.1, I.2.2.2.1, by rw [List.length_set]; exact I.2.2.2.2⟩
      · cases h
    · cases h
  · cases h
theorem zk_aald (F : zFx p R s m args meth cd D cA A M ad0 B) (hd : decode M.2.1 pc = .ok (.aaload, 1)) (h : zaldA pc lv stk st c k = some (.inl y)) (hk : zKp p l e R s m args below meth cd Q D cA A M ad0 n0 y) : zKp p l e R s m args below meth cd Q D cA A M ad0 n0 (pc, lv, stk, st, c, k) := by
  unfold zaldA zn at h
  split at h
  · rename_i i r rest
    split at h
    · rename_i t rs hs
      split at h
      · rename_i hq
        obtain ⟨rfl, hin⟩ := hq
        split at h
        · rename_i q hq
          cases h
          intro ad ls H locs I
          refine va_aldq F.1.1 F.1.2.1 F.2.1.1 I.2.1.1 r 2 (zw_at hs) rfl (zin_of hin) hd ?_
          rw [hq]
          exact hk ad ls H locs I
        · cases h
      · cases h
    · cases h
  · cases h
theorem ztl_ty {t : Nat} (h : t < 4) : ∃ ty, (ztl cA)[t]? = some (cA t, ty) := by
  rcases (show t = 0 ∨ t = 1 ∨ t = 2 ∨ t = 3 by omega) with rfl | rfl | rfl | rfl <;> exact ⟨_, rfl⟩
theorem zk_len (F : zFx p R s m args meth cd D cA A M ad0 B) (hd : decode M.2.1 pc = .ok (.arraylength, 1)) (h : zlen pc lv stk st c k = some (.inl y)) (hk : zKp p l e R s m args below meth cd Q D cA A M ad0 n0 y) : zKp p l e R s m args below meth cd Q D cA A M ad0 n0 (pc, lv, stk, st, c, k) := by
  unfold zlen zn at h
  split at h
  · rename_i r rest
    split at h
    · rename_i t n du hs
      split at h
      · rename_i ht
        cases h
        intro ad ls H locs I
        obtain ⟨ty, hty⟩ := ztl_ty (cA := cA) ht
        obtain ⟨d, u⟩ := du
        exact va_alen F.1.1 F.1.2.1 F.2.1.1 I.2.1.1 r t (zw_at hs) hty rfl hd (hk ad ls H locs I)
      · cases h
    · rename_i t rs hs
      split at h
      · rename_i ht
        cases h
        intro ad ls H locs I
        obtain ⟨ty, hty⟩ := ztl_ty (cA := cA) ht
        exact va_alen F.1.1 F.1.2.1 F.2.1.1 I.2.1.1 r t (zw_at hs) hty rfl hd (hk ad ls H locs I)
      · cases h
    · cases h
  · cases h
/-- the addresses, with one more -/
def zadd (ad : Nat → Nat) (n q : Nat) : Nat → Nat := fun i => if i = n then q else ad i
theorem zadd_ag {ad : Nat → Nat} {n q : Nat} (h : n < 500) : zag n ad (zadd ad n q) := fun i hi => if_neg (fun z => by omega)
theorem zall_of {n : Nat} (h : zall n lv stk st = true) : (lv.all (zsc n) = true ∧ stk.all (zsc n) = true) ∧ st.all (zscC n) = true ∧ n < 500 := by
  unfold zall at h
  simp only [Bool.and_eq_true, decide_eq_true_eq] at h
  exact ⟨⟨h.1.1.1, h.1.1.2⟩, h.1.2, h.2⟩
/-- a new cell: the point behind it -/
theorem zk_grow {pc' : Nat} {stk' : List Value} {x : zC} {c' k' q : Nat} {ad : Nat → Nat} {ls : Array Slot} {H H1 : Heap} {locs : List Loc} (hk : zKp p l e R s m args below meth cd Q D cA A M ad0 n0 (pc', lv, .ref st.length :: stk', st ++ [x], c', k')) (ha : zall st.length lv stk' st = true) (I : zInv s D cA A M ad0 n0 ad lv st c k ls H locs) (hx : zcc cA (zadd ad st.length q) x = zcc cA ad x) (hc : c' ≤ zmC M) (hs : k' ≤ zmS M)
    (hP : va_P D zcl (zw cA ad st ++ [(q, zcc cA ad x)]) H1) (hD : va_D A (zw cA ad st ++ [(q, zcc cA ad x)])) (hS : va_S A s.heap H1 locs) : W p l e R s m args below meth cd H1 locs c' k' Q (F0 m pc' ls (.ref q :: stk'.map (zcv ad))) := by
  obtain ⟨⟨h1, h2⟩, h3, h4⟩ := zall_of ha
  have g := zadd_ag (ad := ad) (q := q) h4
  have e1 : zw cA (zadd ad st.length q) (st ++ [x]) = zw cA ad st ++ [(q, zcc cA ad x)] := by
    rw [zw_push, zw_ag g h3 (Nat.le_refl _), hx]
    simp [zadd]
  have w := hk (zadd ad st.length q) ls H1 locs ⟨⟨by rw [zlv_ag g lv 0 h1]; exact I.1.1, I.1.2⟩, ⟨by rw [e1]; exact hP, by rw [e1]; exact hD, hS⟩, ⟨hc, hs⟩, I.2.2.2.1.tr g I.2.2.2.2, by simp; have := I.2.2.2.2; omega⟩
  have e2 : (Value.ref st.length :: stk').map (zcv (zadd ad st.length q)) = .ref q :: stk'.map (zcv ad) := by
    rw [List.map_cons, zmap_ag g h2]
    simp [zcv, zadd]
  dsimp only at w
  rw [e2] at w
  exact w
theorem zdf_ok : zdf.all (fun fs => fs.all (fun v => decide (v = .null) || decide (v = .int 0))) = true := by decide +kernel
theorem zdf_map {a : Nat} {fs : List Value} (h : zdf[a]? = some fs) (ad : Nat → Nat) : fs.map (zcv ad) = fs := by
  have h1 := List.all_eq_true.mp zdf_ok fs (List.mem_of_getElem? h)
  conv => rhs; rw [← List.map_id fs]
  apply List.map_congr_left
  intro v hv
  have h2 := List.all_eq_true.mp h1 v hv
  simp only [Bool.or_eq_true, decide_eq_true_eq] at h2
  rcases h2 with rfl | rfl <;> rfl
def zdfT (i : Nat) : Bool := match zcl[i]?, zfty[i]?, zdf[i]? with
  | some (_, _, N), some f, some fs => (List.range N).all (fun k => decide (defaultValue (f k) = vp_V fs k))
  | _, _, _ => false
theorem zdf_T : (List.range 7).all zdfT = true := by decide +kernel
theorem zk_new {a cw idx : Nat} {fs : List Value} (F : zFx p R s m args meth cd D cA A M ad0 B) (hd : decode M.2.1 pc = .ok (.new idx, 3)) (hok : zokN (zmO M) idx a cw = true) (hfs : zdf[a]? = some fs) (h : znew fs a fs.length (zmC M) (zmS M) pc lv stk st c k = some (.inl y)) (hk : zKp p l e R s m args below meth cd Q D cA A M ad0 n0 y) : zKp p l e R s m args below meth cd Q D cA A M ad0 n0 (pc, lv, stk, st, c, k) := by
  unfold zokN at hok
  split at hok
  · rename_i C T N i j fs' hc hw hf
    cases hfs.symm.trans hf
    simp only [Bool.and_eq_true, decide_eq_true_eq] at hok
    obtain ⟨⟨⟨o1, o2⟩, o3⟩, o4⟩ := hok
    unfold znew zn at h
    split at h
    · rename_i hq
      obtain ⟨ha, hc1, hs1⟩ := hq
      cases h
      have hi : a < 7 := by
        have := (List.getElem?_eq_some_iff.mp hc).1
        rwa [zcl_N] at this
      have hfty : ∃ ft, zfty[a]? = some ft := by
        have : a < zfty.length := hi
        exact ⟨_, List.getElem?_eq_getElem this⟩
      obtain ⟨ft, hft⟩ := hfty
      have hT := List.all_eq_true.mp zdf_T a (List.mem_range.mpr hi)
      unfold zdfT at hT
      rw [hc, hft, hfs] at hT
      intro ad ls H locs I
      subst o4
      refine va_new (ci := a) (fs := fs) F.1.1 F.1.2.1 F.1.2.2.2.2 (zcl_ws hc) ft (zcl_ty hc hft).1 F.1.2.2.2.1 (zw_in F o1) (zw_in F o2) (zw_in F o3) F.2.1.1 I.2.1.1 I.2.1.2.1 I.2.1.2.2 F.2.1.2.1 hc (fun k' hk' => of_decide_eq_true (List.all_eq_true.mp hT k' (List.mem_range.mpr hk'))) (by rw [F.2.2.2.1.2.2.1]; exact hc1) (by rw [F.2.2.2.1.2.2.2]; exact hs1) hd fun q H1 hP hD hS => ?_
      have e1 : zcc cA ad (.inl (a, fs)) = .inr (a, fs) := by simp only [zcc, zdf_map hfs]
      have e2 : zcc cA (zadd ad st.length q) (.inl (a, fs)) = zcc cA ad (.inl (a, fs)) := by simp only [zcc, zdf_map hfs]
      exact zk_grow (x := .inl (a, fs)) hk ha I e2 hc1 hs1 (by rw [e1]; exact hP) (by rw [e1]; exact hD) hS
    · cases h
  · cases hok
theorem ztyw_0 : zT[ztyw.getD 0 0]? = some (.arrayClass .int) := by decide +kernel
theorem ztyw_1 : zT[ztyw.getD 1 0]? = some (.arrayClass .byte) := by decide +kernel
theorem zk_newN {a : Nat} {t : ArrayType} (F : zFx p R s m args meth cd D cA A M ad0 B) (hd : decode M.2.1 pc = .ok (.newarray t, 2)) (hok : (a = 0 ∧ t = .int) ∨ (a = 1 ∧ t = .byte)) (h : znewN a (zmC M) (zmS M) pc lv stk st c k = some (.inl y)) (hk : zKp p l e R s m args below meth cd Q D cA A M ad0 n0 y) : zKp p l e R s m args below meth cd Q D cA A M ad0 n0 (pc, lv, stk, st, c, k) := by
  unfold znewN zn at h
  split at h
  · rename_i n rest
    split at h
    · rename_i hq
      obtain ⟨ha, hn, hc1, hs1, hb⟩ := hq
      cases h
      intro ad ls H locs I
      rcases hok with ⟨rfl, rfl⟩ | ⟨rfl, rfl⟩
      · refine va_newa (ty := .int) (a0 := (n.toNatClampNeg, .inl (fun _ => 0))) F.1.1 F.1.2.1 (zw_in F ztyw_0) rfl F.2.1.1 I.2.1.1 I.2.1.2.1 I.2.1.2.2 F.2.1.2.1 (fun _ => rfl) hn rfl (by simp [componentBytes]; omega) (by rw [F.2.2.2.1.2.2.1]; exact hc1) (by rw [F.2.2.2.1.2.2.2]; exact hs1) hd fun q cA' H1 hK' hP hD hS => ?_
        have hA' : cA' = cA 0 := by
          have h1 := (F.2.1.1.2 0 _ rfl).2
          have h2 := (hK'.2 4 (cA', .int) rfl).2
          exact Option.some.inj (h2.symm.trans h1)
        subst hA'
        exact zk_grow (x := .inr (.inl (0, n.toNatClampNeg, 0, []))) hk ha I rfl hc1 hs1 hP hD hS
      · refine va_newa (ty := .byte) (a0 := (n.toNatClampNeg, .inl (fun _ => 0))) F.1.1 F.1.2.1 (zw_in F ztyw_1) rfl F.2.1.1 I.2.1.1 I.2.1.2.1 I.2.1.2.2 F.2.1.2.1 (fun _ => rfl) hn rfl (by simp [componentBytes]; omega) (by rw [F.2.2.2.1.2.2.1]; exact hc1) (by rw [F.2.2.2.1.2.2.2]; exact hs1) hd fun q cA' H1 hK' hP hD hS => ?_
        have hA' : cA' = cA 1 := by
          have h1 := (F.2.1.1.2 1 _ rfl).2
          have h2 := (hK'.2 4 (cA', .byte) rfl).2
          exact Option.some.inj (h2.symm.trans h1)
        subst hA'
        exact zk_grow (x := .inr (.inl (1, n.toNatClampNeg, 0, []))) hk ha I rfl hc1 hs1 hP hD hS
    · cases h
  · cases h
end ZSND
end
section
/-! THE ABSTRACT MACHINE, 9: all words may be handed on; String.length -/
theorem zT_good : zT.all goodWord = true := by decide +kernel
theorem zT_in {w : Cond} (h : w ∈ zT) : w ∈ zT ∧ ((w.onTables && w.keeps) = true ∨ ∃ ty, w = .arrayClass ty) := ⟨h, good_of_word (List.all_eq_true.mp zT_good w h)⟩
theorem zgood {m : zMth} (h : Cond.code m.1 m.2.1 (zmL m) (zmR m) ∈ zT) : GoodIn zT (zws m) := by
  intro w hw
  rcases List.mem_cons.mp hw with rfl | hw
  · exact zT_in h
  · exact zT_in hw
end
section
/-! THE ABSTRACT MACHINE, 10: String.length; arrays of references; texts; Math; Object's constructor; System.arraycopy of nothing -/
def zy_coder : MethodName := ⟨"java/lang/String", "coder", "()B"⟩
def zy_length : MethodName := ⟨"java/lang/String", "length", "()I"⟩
theorem zd_coder_0 : decode prog_13_method_152_code 0 = .ok (.getstatic 38, 3) := by decide +kernel
theorem zd_coder_3 : decode prog_13_method_152_code 3 = .ok (.ifCond .eq 10, 3) := by decide +kernel
theorem zd_coder_6 : decode prog_13_method_152_code 6 = .ok (.aload_n 0, 1) := by decide +kernel
theorem zd_coder_7 : decode prog_13_method_152_code 7 = .ok (.getfield 15, 3) := by decide +kernel
theorem zd_coder_10 : decode prog_13_method_152_code 10 = .ok (.goto 4, 3) := by decide +kernel
theorem zd_coder_14 : decode prog_13_method_152_code 14 = .ok (.ireturn, 1) := by decide +kernel
theorem zd_length_0 : decode prog_13_method_54_code 0 = .ok (.aload_n 0, 1) := by decide +kernel
theorem zd_length_1 : decode prog_13_method_54_code 1 = .ok (.getfield 9, 3) := by decide +kernel
theorem zd_length_4 : decode prog_13_method_54_code 4 = .ok (.arraylength, 1) := by decide +kernel
theorem zd_length_5 : decode prog_13_method_54_code 5 = .ok (.aload_n 0, 1) := by decide +kernel
theorem zd_length_6 : decode prog_13_method_54_code 6 = .ok (.invokevirtual 335, 3) := by decide +kernel
theorem zd_length_9 : decode prog_13_method_54_code 9 = .ok (.ishr, 1) := by decide +kernel
theorem zd_length_10 : decode prog_13_method_54_code 10 = .ok (.ireturn, 1) := by decide +kernel
def zw_coder : List Cond := .code zy_coder prog_13_method_152_code 1 (some .byte) :: zT
def zw_length : List Cond := .code zy_length prog_13_method_54_code 1 (some .int) :: zT
theorem zT_coder : Cond.code zy_coder prog_13_method_152_code 1 (some .byte) ∈ zT := by decide +kernel
theorem zT_length : Cond.code zy_length prog_13_method_54_code 1 (some .int) ∈ zT := by decide +kernel
theorem zT_f38 : Cond.fieldLink "java/lang/String" 38 "java/lang/String" "COMPACT_STRINGS" "Z" ∈ zT := by decide +kernel
theorem zT_f15 : Cond.fieldLink "java/lang/String" 15 "java/lang/String" "coder" "B" ∈ zT := by decide +kernel
theorem zT_f9 : Cond.fieldLink "java/lang/String" 9 "java/lang/String" "value" "[B" ∈ zT := by decide +kernel
theorem zT_m335 : Cond.methodLink "java/lang/String" 335 zy_coder ∈ zT := by decide +kernel
theorem zT_coderI : Cond.instanceMethod zy_coder ∈ zT := by decide +kernel
theorem zT_coderS : Cond.selects "java/lang/String" zy_coder zy_coder ∈ zT := by decide +kernel
theorem zT_strI : Cond.initialized "java/lang/String" ∈ zT := by decide +kernel
theorem zT_lengthI : Cond.instanceMethod zy_length ∈ zT := by decide +kernel
theorem zT_lengthS : Cond.selects "java/lang/String" zy_length zy_length ∈ zT := by decide +kernel
/-- a constant text of n signs at q, and String's own static -/
def zstr (q n B : Nat) (U : State) : Prop := B ≤ U.heap.size ∧ (va_O "java/lang/String" q (fun x => B ≤ x) U U.heap ∧ va_OF "java/lang/String" "coder" "B" (.int 0) q (fun x => B ≤ x) U U.heap ∧ ∃ t : Nat, va_OF "java/lang/String" "value" "[B" (.ref t) q (fun x => B ≤ x) U U.heap ∧ ∃ f : Nat → Value, va_T .byte t n f (fun x => B ≤ x) U U.heap) ∧ va_Z "java/lang/String" "COMPACT_STRINGS" "Z" (.int 1) (fun x => B ≤ x) U U.heap
theorem zstr.blind {q n B : Nat} {U : State} {g : JFrame} {mk : MethodId} {a : Array Value} (h : zstr q n B U) : zstr q n B (U.calling g mk a) := by
  have hv : U.vm.Alike (U.calling g mk a).vm := Vm.Alike.refl U.vm
  obtain ⟨h0, ⟨h1, h2, t, h3, f, h4⟩, h5⟩ := h
  exact ⟨h0, ⟨va_O.moved hv h1, va_OF.moved hv h2, t, va_OF.moved hv h3, f, va_T.moved hv h4⟩, va_Z.moved hv h5⟩
theorem zstr.go {q n B : Nat} {s U : State} (h : zstr q n B s) (hW : s.WarmedH U.vm) (hz : s.heap.size ≤ U.heap.size) (hk : ∀ a : Nat, a < s.heap.size → ¬ B ≤ a → U.heap[a]? = s.heap[a]?) : zstr q n B U := by
  obtain ⟨h0, ⟨h1, h2, t, h3, f, h4⟩, h5⟩ := h
  exact ⟨Nat.le_trans h0 hz, ⟨(h1.moved hW.alike).kept hk, (h2.moved hW.alike).kept hk, t, (h3.moved hW.alike).kept hk, f, (h4.moved hW.alike).kept hk⟩, (h5.moved hW.alike).kept hk⟩
set_option maxHeartbeats 4000000 in
theorem zc_coder (l : Launch) (q n B : Nat) : Met l zy_coder zw_coder ({ frames := 0, cells := 0, slots := 0, locals := 0 }) (va_Pc [.ref q] (fun U => zstr q n B U)) (va_Qi (fun (r : Int32) (_ : Unit) => r = 0) (fun _ _ => True) (fun _ => False)) 0 0 (fun _ => False) := by
  refine Met.ofW (cc := prog_13_method_152_code) (maxL := 1) (ret := (some .byte)) (by decide) rfl ?_
  intro p e s m args below meth c s₁ Bd hml hv
  obtain ⟨rfl, h0, ⟨h1, h2, t, h3, f, h4⟩, h5⟩ := hv
  have hx := Bd.exec
  have hb := Bd.bytes
  have hr := Bd.returns
  have hts := atoms_spec (ws := zw_coder) Bd.pre
  have hown : s.vm.findClass "java/lang/String" = some m.cls := findClass_of_methodNamed Bd.named
  have hlocks := Bd.notSynchronized
  have hS : va_S (fun x => B ≤ x) s.heap s.heap [] := va_S.rf
  have hl := lv_entry ([.ref q]) (n := 1) (Nat.le_of_ble_eq_true rfl)
  rw [lg_entry_eq]
  generalize (lg_sl ([.ref q]) ++ List.replicate (1 - (lg_sl ([.ref q])).length) Slot.unset).toArray = ls at hl ⊢
  have hl : lv_has ls 1 [(0, .ref q)] := hl
  refine va_gets hx hb h5 hS hown (hts _ (List.mem_cons_of_mem _ zT_f38)) (fun _ q => q) zd_coder_0 ?_
  refine lv_if_eq (tgt := 13) hx hb zd_coder_3 (by decide) (fun z => absurd z (by decide)) (fun _ => ?_)
  refine lv_aload_n hx hb zd_coder_6 rfl (lv_at hl 0 rfl) ?_
  refine vk_getf hx hb h2 hS hown (hts _ (List.mem_cons_of_mem _ zT_f15)) (fun _ q => q) zd_coder_7 ?_
  refine lv_goto (tgt := 14) hx hb zd_coder_10 (by decide) ?_
  exact W.zret (v := 0) hx hb hr rfl (fun t ht hW => ⟨⟨0, (), rfl, rfl, trivial⟩, va_S.F (A := fun _ => False) va_S.rf ht⟩) (fun _ h => by cases h) zd_coder_14
set_option maxHeartbeats 4000000 in
theorem zc_length (l : Launch) (q n B : Nat) : Met l zy_length zw_length ({ frames := 1, cells := 0, slots := 0, locals := 20 }) (va_Pc [.ref q] (fun U => zstr q n B U)) (va_Qi (fun (r : Int32) (_ : Unit) => r = Int32.ofNat n) (fun _ _ => True) (fun _ => False)) 0 0 (fun _ => False) := by
  refine Met.ofW (cc := prog_13_method_54_code) (maxL := 1) (ret := (some .int)) (by decide) rfl ?_
  intro p e s m args below meth c s₁ Bd hml hv
  obtain ⟨rfl, hz⟩ := hv
  obtain ⟨h0, ⟨h1, h2, t, h3, f, h4⟩, h5⟩ := id hz
  have hx := Bd.exec
  have hb := Bd.bytes
  have hr := Bd.returns
  have hts := atoms_spec (ws := zw_length) Bd.pre
  have hts' : ∀ w ∈ zT, w.before #[Value.ref q] s = true := fun w h => hts w (List.mem_cons_of_mem _ h)
  have hown : s.vm.findClass "java/lang/String" = some m.cls := findClass_of_methodNamed Bd.named
  have hlocks := Bd.notSynchronized
  have hS : va_S (fun x => B ≤ x) s.heap s.heap [] := va_S.rf
  have hl := lv_entry ([.ref q]) (n := 1) (Nat.le_of_ble_eq_true rfl)
  rw [lg_entry_eq]
  generalize (lg_sl ([.ref q]) ++ List.replicate (1 - (lg_sl ([.ref q])).length) Slot.unset).toArray = ls at hl ⊢
  have hl : lv_has ls 1 [(0, .ref q)] := hl
  refine lv_aload_n hx hb zd_length_0 rfl (lv_at hl 0 rfl) ?_
  refine vk_getf hx hb h3 hS hown (hts' _ zT_f9) (fun _ q => q) zd_length_1 ?_
  refine va_tlen (v := Int32.ofNat n) hx hb h4 hS rfl zd_length_4 ?_
  refine lv_aload_n hx hb zd_length_5 rfl (lv_at hl 0 rfl) ?_
  have hG : GoodIn zT (wsV "java/lang/String" 335 "java/lang/String" zy_coder zw_coder) := by
    intro w hw
    simp only [wsV, List.cons_append, List.nil_append, List.mem_cons, zw_coder] at hw
    rcases hw with rfl | rfl | rfl | rfl | rfl | hw
    · exact zT_in zT_m335
    · exact zT_in zT_coderI
    · exact zT_in zT_coderS
    · exact zT_in zT_strI
    · exact zT_in zT_coder
    · exact zT_in hw
  refine va_calli (A0 := fun _ => False) (A1 := fun _ => False) (va_runV (As := []) (rest := [.int (Int32.ofNat n)]) ⟨hx, hb, hml, hown, hts'⟩ (zc_coder l q n B) (cwV 0 hts' hG rfl rfl rfl (by decide +kernel) ⟨Nat.le_of_ble_eq_true rfl, Nat.le_of_ble_eq_true rfl⟩) ⟨fun a U g mk z => ⟨z.1, z.2.blind⟩, va_Orecv h1 hS, fun U hU hW => ⟨rfl, hz.go hW (by rw [hU]; exact Nat.le_refl _) (fun a _ _ => by rw [hU])⟩⟩ rfl rfl hl.1 rfl (lv_room (Nat.le_of_ble_eq_true rfl)) zd_length_6 ⟨Nat.zero_le _, Nat.zero_le _⟩) va_S.rf (fun _ _ z => z) (fun _ z => z) (fun r u t H1 locs ht hvm hw hB hz1 hk1 hS1 => ?_)
  subst hw
  refine lv_ishr hx hb zd_length_9 ?_
  rw [sb_shr0]
  exact W.iret (v := Int32.ofNat n) hx hb hr (fun t ht hW => ⟨⟨_, (), rfl, rfl, trivial⟩, hS1.F ht⟩) (fun q hq => hS1.2.2 q hq) zd_length_10
end
section
/-! THE START: what the Statement gives of classes, arrays and constant texts -/
def zFL : List Jvm.Cond := flatC (Jvm.Cond.and given_1 narrow_1)
def zcs (q : String × Nat × String) : Bool :=
  decide (Cond.stringRef q.1 q.2.1 q.2.2 ∈ lw_tbl) && decide (Cond.exactly (.string q.1 q.2.1) "java/lang/String" ∈ zFL) && decide (Cond.eq (.field (.string q.1 q.2.1) "java/lang/String" "coder" "B") (.int 0) ∈ zFL) && decide (Cond.arrayOf (.field (.string q.1 q.2.1) "java/lang/String" "value" "[B") .byte ∈ zFL) && decide (Cond.eq (.length (.field (.string q.1 q.2.1) "java/lang/String" "value" "[B")) (.int (Int32.ofNat q.2.2.length)) ∈ zFL) && (List.range q.2.2.length).all (fun j => decide (Cond.eq (.elem (.field (.string q.1 q.2.1) "java/lang/String" "value" "[B") (.int (Int32.ofNat j))) (.int (Int32.ofNat (q.2.2.toList.getD j ' ').toNat)) ∈ zFL)) && decide (q.2.2.length < 100)
set_option maxRecDepth 100000 in
theorem zcs_0 : zcs ("DesignReaderModel", 79, "level") = true := by decide +kernel
set_option maxRecDepth 100000 in
theorem zcs_1 : zcs ("DesignReaderModel", 81, "const") = true := by decide +kernel
set_option maxRecDepth 100000 in
theorem zcs_2 : zcs ("DesignReaderModel", 83, "fun") = true := by decide +kernel
set_option maxRecDepth 100000 in
theorem zcs_3 : zcs ("DesignReaderModel", 85, "mode") = true := by decide +kernel
set_option maxRecDepth 100000 in
theorem zcs_4 : zcs ("DesignReaderModel", 87, "in") = true := by decide +kernel
set_option maxRecDepth 100000 in
theorem zcs_5 : zcs ("DesignReaderModel", 89, "reg") = true := by decide +kernel
set_option maxRecDepth 100000 in
theorem zcs_6 : zcs ("DesignReaderModel", 91, "wire") = true := by decide +kernel
set_option maxRecDepth 100000 in
theorem zcs_7 : zcs ("DesignReaderModel", 93, "out") = true := by decide +kernel
set_option maxRecDepth 100000 in
theorem zcs_8 : zcs ("DesignReaderModel", 94, "next") = true := by decide +kernel
set_option maxRecDepth 100000 in
theorem zcs_9 : zcs ("DesignReaderModel", 96, "if") = true := by decide +kernel
set_option maxRecDepth 100000 in
theorem zcs_10 : zcs ("DesignReaderModel", 98, "else") = true := by decide +kernel
set_option maxRecDepth 100000 in
theorem zcs_11 : zcs ("DesignReaderModel", 100, "case") = true := by decide +kernel
set_option maxRecDepth 100000 in
theorem zcs_12 : zcs ("DesignReaderModel", 102, "default") = true := by decide +kernel
set_option maxRecDepth 100000 in
theorem zcs_13 : zcs ("DesignReaderModel", 104, "num") = true := by decide +kernel
set_option maxRecDepth 100000 in
theorem zcs_14 : zcs ("DesignReaderModel", 106, "zext") = true := by decide +kernel
set_option maxRecDepth 100000 in
theorem zcs_15 : zcs ("DesignReaderModel", 108, "sext") = true := by decide +kernel
set_option maxRecDepth 100000 in
theorem zcs_16 : zcs ("DesignReaderModel", 110, "any") = true := by decide +kernel
set_option maxRecDepth 100000 in
theorem zcs_17 : zcs ("DesignReaderModel", 112, "all") = true := by decide +kernel
set_option maxRecDepth 100000 in
theorem zcs_18 : zcs ("DesignReaderModel", 114, "odd") = true := by decide +kernel
set_option maxRecDepth 100000 in
theorem zcs_19 : zcs ("DesignReader$Writer", 66, "") = true := by decide +kernel
theorem zcs_all : zstrs.all zcs = true := by
  apply List.all_eq_true.mpr
  unfold zstrs
  exact List.forall_mem_cons.mpr ⟨zcs_0, List.forall_mem_cons.mpr ⟨zcs_1, List.forall_mem_cons.mpr ⟨zcs_2, List.forall_mem_cons.mpr ⟨zcs_3, List.forall_mem_cons.mpr ⟨zcs_4, List.forall_mem_cons.mpr ⟨zcs_5, List.forall_mem_cons.mpr ⟨zcs_6, List.forall_mem_cons.mpr ⟨zcs_7, List.forall_mem_cons.mpr ⟨zcs_8, List.forall_mem_cons.mpr ⟨zcs_9, List.forall_mem_cons.mpr ⟨zcs_10, List.forall_mem_cons.mpr ⟨zcs_11, List.forall_mem_cons.mpr ⟨zcs_12, List.forall_mem_cons.mpr ⟨zcs_13, List.forall_mem_cons.mpr ⟨zcs_14, List.forall_mem_cons.mpr ⟨zcs_15, List.forall_mem_cons.mpr ⟨zcs_16, List.forall_mem_cons.mpr ⟨zcs_17, List.forall_mem_cons.mpr ⟨zcs_18, List.forall_mem_cons.mpr ⟨zcs_19, fun _ h => absurd h List.not_mem_nil⟩⟩⟩⟩⟩⟩⟩⟩⟩⟩⟩⟩⟩⟩⟩⟩⟩⟩⟩⟩
theorem zcl_I : zcl.all (fun q => decide (Cond.instantiable q.1 q.2.2 ∈ lw_tbl)) = true := by decide +kernel
theorem zT_sub {w : Cond} (h : w ∈ zT) : w ∈ lw_tbl := (List.mem_filter.mp h).1
theorem zAO_T : Cond.arrayOver (.object "DesignReader$Tree") ∈ lw_tbl := by decide +kernel
theorem zAO_S : Cond.arrayOver (.object "java/lang/String") ∈ lw_tbl := by decide +kernel
theorem zZ_l : Cond.laysStatic "java/lang/String" "COMPACT_STRINGS" "Z" ∈ lw_tbl := by decide +kernel
theorem zZ_v : Cond.eq (.static "java/lang/String" "COMPACT_STRINGS" "Z") (.int 1) ∈ zFL := by decide +kernel
theorem zarr_prim {args : Array Value} {s : State} {ty : FieldType} (h : (Cond.arrayClass ty).before args s = true) : ∃ cA : ClassId, ArrOfT s cA ty ∧ s.vm.findClass ("[" ++ ty.toString) = some cA := by
  obtain ⟨cA, kA, comp, h1, h2, h3⟩ := Cond.arrayClass_spec h
  exact ⟨cA, fun N z => ⟨(fun k h => by cases h), kA, h2, comp, h3⟩, h1⟩
theorem zarr_obj {s : State} {C : String} (h : va_AO C s) : ∃ cA : ClassId, ArrOfT s cA (.object C) ∧ va_RA s cA (.object C) := by
  obtain ⟨comp, cA, kA, h1, h2, h3, h4, h5⟩ := Cond.arrayOver_spec h
  exact ⟨cA, fun N z => ⟨(fun k h => by cases h), kA, h3, comp, h4⟩, kA, comp, h3, h4, h1, h5⟩
theorem zstart {args : Array Value} {s : State} (b : Nat) (hts : ∀ w ∈ lw_tbl, w.before args s = true) (hgv : (Jvm.Cond.and given_1 narrow_1).before args s = true) : ∃ (D : va_G) (cA : Nat → ClassId) (ad : Nat → Nat), va_K D zcl (ztl cA) s ∧ zcon ad s.heap.size s ∧ ad 700 = b := by
  have hfl := flat_of_before _ hgv
  have hA : ∀ a : Nat, a < s.heap.size → ¬ (fun q => s.heap.size ≤ q) a := fun a ha hb => absurd hb (Nat.not_le.mpr ha)
  -- classes
  have hC : ∀ k : Nat, ∃ q : ClassId × (Nat → Nat), ∀ (C : String) (T : u_T) (N : Nat), zcl[k]? = some (C, T, N) → u_Kn s C T N q.1 q.2 := by
    intro k
    cases hk : zcl[k]? with
    | none => exact ⟨(0, fun _ => 0), fun C T N h => by cases h⟩
    | some x =>
      obtain ⟨C, T, N⟩ := x
      have hi := of_decide_eq_true (List.all_eq_true.mp zcl_I _ (List.mem_of_getElem? hk))
      obtain ⟨cC, iS, h⟩ := u_known (C := C) (T := T) (N := N) (n := N) hts (fun w hw => zT_sub (zcl_ws hk w hw)) (hts _ hi)
      exact ⟨(cC, iS), fun C' T' N' h' => by cases h'; exact h⟩
  obtain ⟨dd, hdd⟩ := Classical.axiomOfChoice hC
  -- arrays
  have hO1 : va_AO "DesignReader$Tree" s := va_AO.of (hts _ zAO_T)
  have hO2 : va_AO "java/lang/String" s := va_AO.of (hts _ zAO_S)
  obtain ⟨a0, p0, q0⟩ := zarr_prim (hts _ (zT_sub (List.mem_of_getElem? ztyw_0)))
  obtain ⟨a1, p1, q1⟩ := zarr_prim (hts _ (zT_sub (List.mem_of_getElem? ztyw_1)))
  obtain ⟨a2, p2, q2⟩ := zarr_obj hO1
  obtain ⟨a3, p3, q3⟩ := zarr_obj hO2
  -- texts
  have hS : ∀ i : Nat, ∃ a : Nat, ∀ (k : Nat) (o tx : String), zstrs[i]? = some (o, k, tx) → vk_R o k tx a s ∧ va_O "java/lang/String" a (fun q => s.heap.size ≤ q) s s.heap ∧ va_OF "java/lang/String" "coder" "B" (.int 0) a (fun q => s.heap.size ≤ q) s s.heap ∧ ∃ t : Nat, va_OF "java/lang/String" "value" "[B" (.ref t) a (fun q => s.heap.size ≤ q) s s.heap ∧ ∃ f : Nat → Value, va_T .byte t tx.length f (fun q => s.heap.size ≤ q) s s.heap := by
    intro i
    cases hi : zstrs[i]? with
    | none => exact ⟨0, fun k o tx h => by cases h⟩
    | some x =>
      obtain ⟨o, k, tx⟩ := x
      have hc := List.all_eq_true.mp zcs_all _ (List.mem_of_getElem? hi)
      unfold zcs at hc
      simp only [Bool.and_eq_true] at hc
      obtain ⟨⟨⟨⟨⟨⟨c1, c2⟩, c3⟩, c4⟩, c5⟩, c6⟩, c7⟩ := hc
      have c1 := hts _ (of_decide_eq_true c1)
      have c2 := hfl _ (of_decide_eq_true c2)
      have c3 := hfl _ (of_decide_eq_true c3)
      have c4 := hfl _ (of_decide_eq_true c4)
      have c5 := hfl _ (of_decide_eq_true c5)
      have c7 : tx.length < 100 := of_decide_eq_true c7
      obtain ⟨a, cx, cc, kA, g1, g2, g3, g4, g5, g6, -⟩ := Cond.exactly_spec (args := args) (first := s) (o := none) (s := s) (idx := []) (t := .string o k) (cls := "java/lang/String") c2
      obtain ⟨t, ht, hT⟩ := va_Tof (f := fun j => .int (Int32.ofNat (tx.toList.getD j ' ').toNat)) (A := fun q => s.heap.size ≤ q) (N := tx.length) (by omega) c4 (va_eqt c5) (fun j hj => va_eqt (hfl _ (of_decide_eq_true (List.all_eq_true.mp c6 j (List.mem_range.mpr hj))))) hA
      refine ⟨a, fun k' o' tx' h' => ?_⟩
      cases h'
      exact ⟨vk_R.of c1 g1, ⟨cc, g3, g5, by rw [g6]; exact g2, hA a (Array.getElem?_eq_some_iff.mp g3).1⟩, vk_OFof g1 (va_eqt c3) hA, t, vk_OFof g1 ht hA, _, hT⟩
  obtain ⟨adS, hadS⟩ := Classical.axiomOfChoice hS
  refine ⟨(fun k => (dd k).1, fun k => (dd k).2), fun t => if t = 0 then a0 else if t = 1 then a1 else if t = 2 then a2 else a3, fun i => if i = 700 then b else adS (i - 500), ⟨fun k q hq => hdd k q.1 q.2.1 q.2.2 hq, fun k q hq => ?_⟩, ⟨fun i k o tx hi => ?_, ?_, hO1, hO2⟩, if_pos rfl⟩
  · match k, hq with
    | 0, hq => cases hq; exact ⟨p0, q0⟩
    | 1, hq => cases hq; exact ⟨p1, q1⟩
    | 2, hq => cases hq; exact ⟨p2, q2⟩
    | 3, hq => cases hq; exact ⟨p3, q3⟩
    | k + 4, hq => simp [ztl] at hq
  · have hlt : i < 200 := Nat.lt_of_lt_of_le (List.getElem?_eq_some_iff.mp hi).1 (by decide)
    have e1 : (if 500 + i = 700 then b else adS (500 + i - 500)) = adS i := by
      rw [if_neg (by omega), Nat.add_sub_cancel_left]
    show vk_R o k tx (if 500 + i = 700 then b else adS (500 + i - 500)) s ∧ va_O "java/lang/String" (if 500 + i = 700 then b else adS (500 + i - 500)) (fun q => s.heap.size ≤ q) s s.heap ∧ va_OF "java/lang/String" "coder" "B" (.int 0) (if 500 + i = 700 then b else adS (500 + i - 500)) (fun q => s.heap.size ≤ q) s s.heap ∧ ∃ t : Nat, va_OF "java/lang/String" "value" "[B" (.ref t) (if 500 + i = 700 then b else adS (500 + i - 500)) (fun q => s.heap.size ≤ q) s s.heap ∧ ∃ f : Nat → Value, va_T .byte t tx.length f (fun q => s.heap.size ≤ q) s s.heap
    rw [e1]
    exact hadS i k o tx hi
  · exact va_Zof (hts _ zZ_l) (hts _ (zT_sub zT_strI)) (va_eqt (hfl _ zZ_v)) hA
end
section
/-! THE ABSTRACT MACHINE, 11: arrays of references, texts, Math, Object's constructor, System.arraycopy of nothing -/
theorem zT_minS : Cond.static Lib.Math.min.name ∈ zT := by decide +kernel
theorem zT_minC : Cond.code Lib.Math.min.name Lib.Math.min.code 2 (some .int) ∈ zT := by decide +kernel
theorem zT_maxS : Cond.static Lib.Math.max.name ∈ zT := by decide +kernel
theorem zT_maxC : Cond.code Lib.Math.max.name Lib.Math.max.code 2 (some .int) ∈ zT := by decide +kernel
theorem zT_math : Cond.initialized "java/lang/Math" ∈ zT := by decide +kernel
theorem zT_objI : Cond.instanceMethod objectInit ∈ zT := by decide +kernel
theorem zT_objC : Cond.code objectInit ⟨#[0xb1]⟩ 1 none ∈ zT := by decide +kernel
theorem zT_cpN : Cond.native arraycopyName ∈ zT := by decide +kernel
theorem zT_cpS : Cond.static arraycopyName ∈ zT := by decide +kernel
theorem zT_sys : Cond.initialized "java/lang/System" ∈ zT := by decide +kernel
section ZSND
variable {p : Program} {l : Launch} {e : Env} {R : Room} {s : State} {m : MethodId} {args : Array Value} {below : List Frame} {meth : Method} {cd : Code} {Q : State → Prop}
variable {D : va_G} {cA : Nat → ClassId} {A : Nat → Prop} {M : zMth} {ad0 : Nat → Nat} {n0 B : Nat}
variable {pc : Nat} {lv stk : List Value} {st : zS} {c k : Nat} {y : zX}
theorem zsum (ad : Nat → Nat) (r : List Value) : ((r.map (zcv ad)).map fun v => v.category).sum = (r.map fun v => v.category).sum := by
  rw [List.map_map]
  congr 1
  apply List.map_congr_left
  intro v _
  exact zcv_cat ad v
theorem zt_none (t n : Nat) (ad : Nat → Nat) : zcc cA ad (.inr (.inr (t, List.replicate n none))) = .inl (cA t, n, .inr (.inr (.inr (.inr (fun _ => none))))) := by
  simp only [zcc, List.length_replicate]
  congr 7
  funext j
  simp only [List.getD, List.getElem?_replicate]
  split <;> rfl
theorem zk_newA {a cw idx : Nat} (F : zFx p R s m args meth cd D cA A M ad0 B) (hd : decode M.2.1 pc = .ok (.anewarray idx, 3)) (hok : zokA (zmO M) idx a cw = true) (h : znewA a (zmC M) (zmS M) pc lv stk st c k = some (.inl y)) (hk : zKp p l e R s m args below meth cd Q D cA A M ad0 n0 y) : zKp p l e R s m args below meth cd Q D cA A M ad0 n0 (pc, lv, stk, st, c, k) := by
  unfold zokA at hok
  split at hok
  · rename_i C hC
    have hok := of_decide_eq_true hok
    unfold znewA zn at h
    split at h
    · rename_i n rest
      split at h
      · rename_i hq
        obtain ⟨ha, hn, hc1, hs1, hb⟩ := hq
        cases h
        intro ad ls H locs I
        have ha4 : a < 4 := (List.getElem?_eq_some_iff.mp hC).1
        have hAO : va_AO C s ∧ (ztl cA)[a]? = some (cA a, .object C) := by
          rcases (show a = 0 ∨ a = 1 ∨ a = 2 ∨ a = 3 by omega) with rfl | rfl | rfl | rfl
          · cases hC
          · cases hC
          · cases hC; exact ⟨F.2.1.2.2.1.2.2.1, rfl⟩
          · cases hC; exact ⟨F.2.1.2.2.1.2.2.2, rfl⟩
        refine va_newq F.1.1 F.1.2.1 F.1.2.2.2.1 (zw_in F hok) hAO.1 F.2.1.1 I.2.1.1 I.2.1.2.1 I.2.1.2.2 F.2.1.2.1 hn rfl (by omega) (by rw [F.2.2.2.1.2.2.1]; exact hc1) (by rw [F.2.2.2.1.2.2.2]; exact hs1) hd fun q cA' H1 hK' hP hD hS => ?_
        have hA' : cA' = cA a := by
          obtain ⟨-, -, -, -, -, h1⟩ := (F.2.1.1.2 a _ hAO.2).2
          obtain ⟨-, -, -, -, -, h2⟩ := (hK'.2 4 (cA', .object C) rfl).2
          exact Option.some.inj (h2.symm.trans h1)
        subst hA'
        exact zk_grow (x := .inr (.inr (a, List.replicate n.toNatClampNeg none))) hk ha I (by rw [zt_none, zt_none]) hc1 hs1 (by rw [zt_none]; exact hP) (by rw [zt_none]; exact hD) hS
      · cases h
    · cases h
  · cases hok
theorem zt_up {t i v : Nat} {rs : List (Option Nat)} {ad : Nat → Nat} (hi : i < rs.length) : zcc cA ad (.inr (.inr (t, rs.set i (some v)))) = .inl (cA t, rs.length, .inr (.inr (.inr (.inr (va_up (fun j => (rs.getD j none).map ad) i (some (ad v))))))) := by
  simp only [zcc, List.length_set]
  congr 7
  funext j
  by_cases hj : j = i
  · subst hj
    simp [va_up, List.getD, hi]
  · simp [va_up, List.getD, hj, List.getElem?_set_ne (fun q => hj q.symm)]
theorem zk_aast {a b : Nat} (F : zFx p R s m args meth cd D cA A M ad0 B) (hd : decode M.2.1 pc = .ok (.aastore, 1)) (hok : (a = 2 ∧ b = 0) ∨ (a = 3 ∧ b = 400)) (h : zastA a b pc lv stk st c k = some (.inl y)) (hk : zKp p l e R s m args below meth cd Q D cA A M ad0 n0 y) : zKp p l e R s m args below meth cd Q D cA A M ad0 n0 (pc, lv, stk, st, c, k) := by
  unfold zastA zn at h
  split at h
  · rename_i v i r rest
    split at h
    · rename_i t rs hs
      split at h
      · rename_i hq
        obtain ⟨rfl, hin, hv⟩ := hq
        cases h
        intro ad ls H locs I
        have hvp := zin_of hin
        unfold zastV at hv
        have hil : i.toNatClampNeg < rs.length := Nat.not_le.mp fun q => hvp (Or.inr q)
        have go : ∀ (H1 : Heap) (locs1 : List Loc), va_P D zcl ((zw cA ad st).set r (ad r, .inl (cA t, rs.length, .inr (.inr (.inr (.inr (va_up (fun j => (rs.getD j none).map ad) i.toNatClampNeg (some (ad v))))))))) H1 → va_D A ((zw cA ad st).set r (ad r, .inl (cA t, rs.length, .inr (.inr (.inr (.inr (va_up (fun j => (rs.getD j none).map ad) i.toNatClampNeg (some (ad v))))))))) → va_S A s.heap H1 locs1 → W p l e R s m args below meth cd H1 locs1 c k Q (F0 m (pc + 1) ls (rest.map (zcv ad))) := by
          intro H1 locs1 hP hD hS
          rw [← zt_up hil, zw_set] at hP hD
          exact hk ad ls H1 locs1 ⟨I.1, ⟨hP, hD, hS⟩, I.2.2.1, I.2.2.2.1, by rw [List.length_set]; exact I.2.2.2.2⟩
        rcases hok with ⟨rfl, rfl⟩ | ⟨rfl, rfl⟩
        · rw [if_neg (by decide)] at hv
          split at hv
          · rename_i ci' vs hv2
            have := of_decide_eq_true hv
            subst this
            exact va_astq F.1.1 F.1.2.1 F.2.1.1 I.2.1.1 I.2.1.2.1 I.2.1.2.2 r 2 v 0 (zw_at hs) rfl (zw_at hv2) rfl hvp hd go
          · cases hv
        · rw [if_pos rfl] at hv
          simp only [Bool.and_eq_true, decide_eq_true_eq] at hv
          obtain ⟨h5, h6⟩ := hv
          obtain ⟨⟨o, kk, tx⟩, h7⟩ := Option.isSome_iff_exists.mp h6
          obtain ⟨-, hO, -⟩ := F.2.1.2.2.1.1 (v - 500) kk o tx h7
          have e5 : ad0 (500 + (v - 500)) = ad v := (congrArg ad0 (Nat.add_sub_cancel' h5)).trans (I.2.2.2.1 v (Or.inr h5)).symm
          rw [e5] at hO
          have hO := va_O.narrow hO (B := A) F.2.1.2.2.2.1
          obtain ⟨cell, g1, g2, g3⟩ := va_Orecv hO I.2.1.2.2
          obtain ⟨kC, hkC, -⟩ := Vm.findClass_spec g3
          exact va_astqM F.1.1 F.1.2.1 F.2.1.1 I.2.1.1 I.2.1.2.1 I.2.1.2.2 r 3 (E := "java/lang/String") (zw_at hs) rfl ⟨cell, g1, g2, ⟨kC, hkC⟩, fun comp hcm => vb_asgS comp _ hcm g3⟩ hvp hd go
      · cases h
    · cases h
  · cases h
theorem zk_ldc {a idx kk : Nat} {o tx : String} (F : zFx p R s m args meth cd D cA A M ad0 B) (hd : decode M.2.1 pc = .ok (.ldc idx, 2)) (hs : zstrs[a]? = some (o, kk, tx)) (ho : o = zmO M ∧ kk = idx) (hk : zKp p l e R s m args below meth cd Q D cA A M ad0 n0 (pc + 2, lv, .ref (500 + a) :: stk, st, c, k)) : zKp p l e R s m args below meth cd Q D cA A M ad0 n0 (pc, lv, stk, st, c, k) := by
  obtain ⟨rfl, rfl⟩ := ho
  intro ad ls H locs I
  obtain ⟨hR, -⟩ := F.2.1.2.2.1.1 a kk _ tx hs
  rw [← I.2.2.2.1 (500 + a) (Or.inr (by omega))] at hR
  exact va_ldcS F.1.1 F.1.2.1 F.1.2.2.2.1 hR hd (hk ad ls H locs I)
theorem zk_min {idx cw : Nat} (F : zFx p R s m args meth cd D cA A M ad0 B) (hd : decode M.2.1 pc = .ok (.invokestatic idx, 3)) (hok : zokM1 (zmO M) idx cw Lib.Math.min.name = true) (h : zmin pc lv stk st c k = some (.inl y)) (hk : zKp p l e R s m args below meth cd Q D cA A M ad0 n0 y) : zKp p l e R s m args below meth cd Q D cA A M ad0 n0 (pc, lv, stk, st, c, k) := by
  have hl := zw_in F (of_decide_eq_true hok)
  unfold zmin zn at h
  split at h
  · split at h
    · rename_i hsum
      cases h
      intro ad ls H locs I
      exact va_mmin F.1.1 F.1.2.1 (F.1.2.2.1.trans I.1.1.1.symm) F.1.2.2.2.1 hl (F.1.2.2.2.2 _ zT_minS) (F.1.2.2.2.2 _ zT_math) (F.1.2.2.2.2 _ zT_minC) F.2.2.2.1.1 (by rw [zsum]; have := F.2.2.2.1.2.1; omega) (by rw [F.2.2.2.1.2.2.1]; exact I.2.2.1.1) (by rw [F.2.2.2.1.2.2.2]; exact I.2.2.1.2) hd (hk ad ls H locs I)
    · cases h
  · cases h
theorem zk_max {idx cw : Nat} (F : zFx p R s m args meth cd D cA A M ad0 B) (hd : decode M.2.1 pc = .ok (.invokestatic idx, 3)) (hok : zokM1 (zmO M) idx cw Lib.Math.max.name = true) (h : zmax pc lv stk st c k = some (.inl y)) (hk : zKp p l e R s m args below meth cd Q D cA A M ad0 n0 y) : zKp p l e R s m args below meth cd Q D cA A M ad0 n0 (pc, lv, stk, st, c, k) := by
  have hl := zw_in F (of_decide_eq_true hok)
  unfold zmax zn at h
  split at h
  · split at h
    · rename_i hsum
      cases h
      intro ad ls H locs I
      exact va_mmax F.1.1 F.1.2.1 (F.1.2.2.1.trans I.1.1.1.symm) F.1.2.2.2.1 hl (F.1.2.2.2.2 _ zT_maxS) (F.1.2.2.2.2 _ zT_math) (F.1.2.2.2.2 _ zT_maxC) F.2.2.2.1.1 (by rw [zsum]; have := F.2.2.2.1.2.1; omega) (by rw [F.2.2.2.1.2.2.1]; exact I.2.2.1.1) (by rw [F.2.2.2.1.2.2.2]; exact I.2.2.1.2) hd (hk ad ls H locs I)
    · cases h
  · cases h
theorem zk_obj {idx cw : Nat} (F : zFx p R s m args meth cd D cA A M ad0 B) (hd : decode M.2.1 pc = .ok (.invokespecial idx, 3)) (hok : zokM1 (zmO M) idx cw objectInit = true) (h : zobj pc lv stk st c k = some (.inl y)) (hk : zKp p l e R s m args below meth cd Q D cA A M ad0 n0 y) : zKp p l e R s m args below meth cd Q D cA A M ad0 n0 (pc, lv, stk, st, c, k) := by
  have hl := zw_in F (of_decide_eq_true hok)
  unfold zobj zn at h
  split at h
  · rename_i a rest
    split at h
    · rename_i hsum
      cases h
      intro ad ls H locs I
      refine W.objInit (a := ad a) (rest := rest.map (zcv ad)) F.1.1 F.1.2.1 F.1.2.2.2.1 hl (F.1.2.2.2.2 _ zT_objI) (F.1.2.2.2.2 _ zT_objC) rfl (I.1.1.1.trans F.1.2.2.1.symm) rfl hd F.2.2.2.1.1 ?_ (hk ad ls H locs I)
      have h1 := lv_room (m := m) (pc := pc) (ls := ls) (rest := (Value.ref a :: rest).map (zcv ad)) (st := rest.map (zcv ad)) (by rw [zsum]; exact hsum)
      have h2 := F.2.2.2.1.2.1
      exact Nat.le_trans (Nat.add_le_add_right h1 12) (by omega)
    · cases h
  · cases h
theorem zk_copy {idx cw : Nat} (F : zFx p R s m args meth cd D cA A M ad0 B) (hd : decode M.2.1 pc = .ok (.invokestatic idx, 3)) (hok : zokM1 (zmO M) idx cw arraycopyName = true) (h : zcopy pc lv stk st c k = some (.inl y)) (hk : zKp p l e R s m args below meth cd Q D cA A M ad0 n0 y) : zKp p l e R s m args below meth cd Q D cA A M ad0 n0 (pc, lv, stk, st, c, k) := by
  have hl := zw_in F (of_decide_eq_true hok)
  unfold zcopy zn at h
  split at h
  · rename_i n dp a1 sp a0 rest
    split at h
    · rename_i t0 n0' d0 u0 t1 n1 d1 u1 hs0 hs1
      split at h
      · rename_i hq
        obtain ⟨rfl, h1, h2, h3, h4, rfl, rfl, hsum⟩ := hq
        cases h
        intro ad ls H locs I
        refine va_copyi F.1.1 F.1.2.1 (F.1.2.2.1.trans I.1.1.1.symm) F.1.2.2.2.1 hl (F.1.2.2.2.2 _ zT_cpN) (F.1.2.2.2.2 _ zT_cpS) (F.1.2.2.2.2 _ zT_sys) F.2.1.1 I.2.1.1 I.2.1.2.1 I.2.1.2.2 a0 a1 1 1 (ty := .byte) (zw_at hs0) (zw_at hs1) rfl rfl rfl h1 h2 (by decide) (by rw [sb_cl0]; omega) (by rw [sb_cl0]; omega) (fun i hi => absurd hi (by rw [sb_cl0]; omega)) F.2.2.2.1.1 ?_ hd fun H1 locs1 hP hD hS => ?_
        · rw [zsum]
          have h9 := F.2.2.2.1.2.1
          have h8 : nativeFrameWords "java/lang/System" "arraycopy" 5 = 7 := by decide
          rw [h8]
          omega
        · have e0 : va_cpy (zfun d0 u0) (zfun d1 u1) sp.toNatClampNeg dp.toNatClampNeg (0 : Int32).toNatClampNeg = zfun d1 u1 := by
            funext j
            rw [sb_cl0]
            exact pk_cpy_out (by omega)
          have e1 : (zw cA ad st).set a1 (ad a1, .inl (cA 1, n1, .inl (zfun d1 u1))) = zw cA ad st := by
            apply List.ext_getElem?
            intro j
            by_cases hj : j = a1
            · subst hj
              rw [List.getElem?_set_self', zw_at hs1]
              rfl
            · rw [List.getElem?_set_ne (fun q => hj q.symm)]
          rw [e0, e1] at hP hD
          exact hk ad ls H1 locs1 ⟨I.1, ⟨hP, hD, hS⟩, I.2.2⟩
      · cases h
    · cases h
  · cases h
theorem zk_slen {idx cw : Nat} (F : zFx p R s m args meth cd D cA A M ad0 B) (hfr : 2 ≤ R.frames) (hd : decode M.2.1 pc = .ok (.invokevirtual idx, 3)) (hok : zokM1 (zmO M) idx cw zy_length = true) (h : zslen pc lv stk st c k = some (.inl y)) (hk : zKp p l e R s m args below meth cd Q D cA A M ad0 n0 y) : zKp p l e R s m args below meth cd Q D cA A M ad0 n0 (pc, lv, stk, st, c, k) := by
  have hm := List.mem_of_getElem? (of_decide_eq_true hok)
  unfold zslen zn at h
  split at h
  · rename_i v rest
    split at h
    · rename_i hq
      obtain ⟨h5, hsum⟩ := hq
      split at h
      · rename_i o kk tx h7
        cases h
        intro ad ls H locs I
        have h5 : (500 : Nat) ≤ v := h5
        obtain ⟨-, hs2⟩ := F.2.1.2.2.1.1 (v - 500) kk o tx h7
        have e5 : ad0 (500 + (v - 500)) = ad v := (congrArg ad0 (Nat.add_sub_cancel' h5)).trans (I.2.2.2.1 v (Or.inr h5)).symm
        rw [e5] at hs2
        have hz : zstr (ad v) tx.length B s := ⟨F.2.1.2.2.2.2, hs2, F.2.1.2.2.1.2.1⟩
        have hG : GoodIn zT (wsV (zmO M) idx "java/lang/String" zy_length zw_length) := by
          intro w hw
          simp only [wsV, List.cons_append, List.nil_append, List.mem_cons, zw_length] at hw
          rcases hw with rfl | rfl | rfl | rfl | rfl | hw
          · exact zT_in hm
          · exact zT_in zT_lengthI
          · exact zT_in zT_lengthS
          · exact zT_in zT_strI
          · exact zT_in zT_length
          · exact zT_in hw
        have hAB := F.2.1.2.2.2.1
        have hSS := I.2.1.2.2
        refine va_calli (A0 := A) (A1 := fun _ => False) (va_runV (As := []) (b := ad v) (rest := rest.map (zcv ad)) ⟨F.1.1, F.1.2.1, F.1.2.2.1, F.1.2.2.2.1, F.1.2.2.2.2⟩ (zc_length l (ad v) tx.length B) (cwV 0 F.1.2.2.2.2 hG rfl rfl rfl (by decide +kernel) ⟨hfr, by have := F.2.2.2.1.2.1; show 8 + (1 + 11) + 20 ≤ R.locals; omega⟩) ⟨fun a U g mk z => ⟨z.1, z.2.blind⟩, va_Orecv (va_O.narrow hs2.1 (B := A) hAB) hSS, fun U hU hW => ⟨rfl, hz.go hW (by rw [hU]; exact hSS.1) (fun a ha hb => by rw [hU]; exact hSS.2.1 a ha (fun q => hb (hAB a q)))⟩⟩ rfl rfl I.1.1.1 rfl (lv_room (by rw [zsum]; exact hsum)) hd ⟨by rw [F.2.2.2.1.2.2.1]; exact I.2.2.1.1, by rw [F.2.2.2.1.2.2.2]; exact I.2.2.1.2⟩) hSS (fun _ _ z => z.elim) (fun _ z => z.elim) (fun r u t H1 locs1 ht hvm hw hB hz1 hk1 hS1 => ?_)
        subst hw
        have hP1 : va_P D zcl (zw cA ad st) H1 := I.2.1.1.kept fun k' q hq => hk1 q.1 ((I.2.1.1 k' q hq).lt) id
        exact hk ad ls H1 locs1 ⟨I.1, ⟨hP1, I.2.1.2.1, hS1⟩, I.2.2⟩
      · cases h
    · cases h
  · cases h
end ZSND
end
section
/-! THE ABSTRACT MACHINE, 12: calls and ends -/
/-- a method's start, and its end: the answer, the cells behind it; addresses of old cells stay -/
def zPre (D : va_G) (cA : Nat → ClassId) (ad : Nat → Nat) (B : Nat) (st : zS) (sz : Nat) (U : State) : Prop := U.heap.size = sz ∧ va_P D zcl (zw cA ad st) U.heap ∧ va_K D zcl (ztl cA) U ∧ va_D (fun q => B ≤ q) (zw cA ad st) ∧ B ≤ U.heap.size ∧ zcon ad B U
def zQ (D : va_G) (cA : Nat → ClassId) (ad : Nat → Nat) (st : zS) (A : Nat → Prop) (v : Option Value) (st' : zS) : Array Value → State → Outcome → State → Prop := fun _ s0 oc t => (∃ ad' : Nat → Nat, zag st.length ad ad' ∧ oc = .returned (v.map (zcv ad')) ∧ va_P D zcl (zw cA ad' st') t.heap ∧ va_D A (zw cA ad' st') ∧ st.length ≤ st'.length) ∧ va_F A s0 t
def zMet (l : Launch) (d n : Nat) (as : List Value) (st : zS) (v : Option Value) (st' : zS) : Prop := ∀ M : zMth, zMs[n]? = some M → ∀ (D : va_G) (cA : Nat → ClassId) (ad : Nat → Nat) (B sz : Nat), Met l M.1 (zws M) (zrm d M) (va_Pc (as.map (zcv ad)) (zPre D cA ad B st sz)) (zQ D cA ad st (va_A (zw cA ad st) sz) v st') (zmC M) (zmS M) (va_A (zw cA ad st) sz)
section ZSND
variable {p : Program} {l : Launch} {e : Env} {R : Room} {s : State} {m : MethodId} {args : Array Value} {below : List Frame} {meth : Method} {cd : Code} {Q : State → Prop}
variable {D : va_G} {cA : Nat → ClassId} {A : Nat → Prop} {M : zMth} {ad0 : Nat → Nat} {n0 B : Nat}
variable {pc : Nat} {lv stk : List Value} {st : zS} {c k : Nat} {y : zX}
theorem zfree {ad : Nat → Nat} {ls : Array Slot} {H : Heap} {locs : List Loc} (F : zFx p R s m args meth cd D cA A M ad0 B) (I : zInv s D cA A M ad0 n0 ad lv st c k ls H locs) : ∀ q, va_A (zw cA ad st) H.size q → A q := by
  intro q h
  rcases h with ⟨k', e', h⟩ | h
  · exact I.2.1.2.1.2 k' _ h
  · exact F.2.1.2.1 q (Nat.le_trans I.2.1.2.2.1 h)
/-- behind a call -/
theorem zk_after {rest : List Value} {st0 : List Value} {mc ms : Nat} {v : Option Value} {st' : zS} {ad : Nat → Nat} {ls : Array Slot} {H : Heap} {locs : List Loc} {a : Array Value} (F : zFx p R s m args meth cd D cA A M ad0 B) (I : zInv s D cA A M ad0 n0 ad lv st c k ls H locs)
    (hr : va_Run p l e R s m args below meth cd H locs c k mc ms (F0 m pc ls st0) (rest.map (zcv ad)) (zQ D cA ad st (va_A (zw cA ad st) H.size) v st' a) (va_A (zw cA ad st) H.size))
    (h1 : lv.all (zsc st.length) = true) (h2 : rest.all (zsc st.length) = true) (h3 : c + mc ≤ zmC M) (h4 : k + ms ≤ zmS M) (hk : zKp p l e R s m args below meth cd Q D cA A M ad0 n0 (pc + 3, lv, v.toList ++ rest, st', c + mc, k + ms)) : W p l e R s m args below meth cd H locs c k Q (F0 m pc ls st0) := by
  intro T hT X
  obtain ⟨v', st₀, t, T', L, e0, X', hL, e1, e2, ⟨⟨ad', g, ho, hP, hD, hn⟩, hz, hkp⟩, go⟩ := hr T hT X
  cases ho
  rw [e0] at hz hkp
  have hfr := zfree F I
  have hS := I.2.1.2.2
  have w := hk ad' ls T'.heap (locs ++ L) ⟨⟨by rw [zlv_ag g lv 0 h1]; exact I.1.1, I.1.2⟩, ⟨by rw [e1]; exact hP, hD.weaken (fun _ _ _ z => hfr _ z), ⟨Nat.le_trans hS.1 (by rw [e1]; exact hz), fun q q1 q2 => by rw [e1, hkp q (Nat.lt_of_lt_of_le q1 hS.1) (fun z => q2 (hfr q z))]; exact hS.2.1 q q1 q2, fun q hq => by
      rcases List.mem_append.mp hq with z | z
      · exact hS.2.2 q z
      · exact hfr _ (hL q z)⟩⟩, ⟨h3, h4⟩, I.2.2.2.1.tr g I.2.2.2.2, Nat.le_trans I.2.2.2.2 hn⟩
  have e3 : (v.toList ++ rest).map (zcv ad') = (v.map (zcv ad')).toList ++ rest.map (zcv ad) := by
    rw [List.map_append, zmap_ag g h2]
    cases v <;> rfl
  dsimp only at w
  rw [e3] at w
  obtain ⟨t2, a1, b1⟩ := w T' rfl X'
  exact ⟨t2, go t2 a1, b1⟩
theorem zpre_at {ad : Nat → Nat} {ls : Array Slot} {H : Heap} {locs : List Loc} (F : zFx p R s m args meth cd D cA A M ad0 B) (I : zInv s D cA A M ad0 n0 ad lv st c k ls H locs) (U : State) (hU : U.heap = H) (hW : s.WarmedH U.vm) : zPre D cA ad B st H.size U := by
  refine ⟨by rw [hU], by rw [hU]; exact I.2.1.1, va_K.moved hW.alike F.2.1.1, I.2.1.2.1.weaken (fun _ _ _ z => F.2.1.2.2.2.1 _ z), by rw [hU]; exact Nat.le_trans F.2.1.2.2.2.2 I.2.1.2.2.1, F.2.1.2.2.1.go hW (fun a ha hb => by rw [hU]; exact I.2.1.2.2.2.1 a ha (fun z => hb (F.2.1.2.2.2.1 a z))) (fun i => I.2.2.2.1 (500 + i) (Or.inr (by omega)))⟩
theorem zpre_blind {D : va_G} {cA : Nat → ClassId} {ad : Nat → Nat} {B sz : Nat} {st : zS} {av : List Value} : FrameBlind (va_Pc av (zPre D cA ad B st sz)) := by
  intro a U g mk h
  obtain ⟨h0, h1, h2, h3, h4, h5, h6⟩ := h
  exact ⟨h0, h1, h2, va_K.moved (u := U) (U := U.calling g mk a) (Vm.Alike.refl U.vm) h3, h4, h5, h6.blind⟩
theorem zcb {m' : zMth} {own : String} {idx cw n : Nat} {args : Array Value} {s : State} {d : Nat} (hts : ∀ w ∈ zT, w.before args s = true) (hfr : d + 2 ≤ R.frames) (hlo : 64 * (d + 2) ≤ R.locals) (hL : zmL m' ≤ 40) (hcode : Cond.code m'.1 m'.2.1 (zmL m') (zmR m') ∈ zT) (hini : Cond.initialized m'.1.cls ∈ zT) (hlink : zT[cw]? = some (.methodLink own idx m'.1)) (hc : m'.1.cls ≠ "java/lang/invoke/MethodHandle" ∧ m'.1.cls ≠ "java/lang/invoke/VarHandle") (hn : znpar m'.1 = some n) : CallB R s args own idx m'.1 m'.2.1 (zmL m') (zmR m') (zws m') (zrm d m') (zmC m') (zmS m') n := by
  refine ⟨rfl, rfl, hfr, ?_, fun w hw a' U hW => ?_, List.mem_cons_self, hts _ hcode, hts _ hini, hc, fun sig hs => ?_, hts _ (List.mem_of_getElem? hlink)⟩
  · show 8 + (zmL m' + 11) + 64 * (d + 1) ≤ R.locals
    omega
  · have hw' : w ∈ zT := by
      rcases List.mem_cons.mp hw with rfl | z
      · exact hcode
      · exact z
    exact word_at hW (zT_in hw').2 (hts w hw')
  · unfold znpar at hn
    rw [hs] at hn
    exact (Option.some.inj hn).symm
theorem zrcv0_of {m' : zMth} {as : List Value} (h : zrcv0 m' as st = true) : ∃ (r : Nat) (ar : List Value) (ci : Nat) (fs : List Value) (T : u_T) (N : Nat), as = .ref r :: ar ∧ st[r]? = some (.inl (ci, fs)) ∧ zcl[ci]? = some (m'.1.cls, T, N) := by
  unfold zrcv0 at h
  split at h
  · rename_i r ar
    split at h
    · rename_i ci fs hr
      split at h
      · rename_i C T N hc
        have := of_decide_eq_true h
        subst this
        exact ⟨r, ar, ci, fs, T, N, rfl, hr, hc⟩
      · cases h
    · cases h
  · cases h
theorem zrcv2_of {as : List Value} (h : zrcv2 as = true) : ∃ (r : Nat) (ar : List Value), as = .ref r :: ar := by
  unfold zrcv2 at h
  split at h
  · exact ⟨_, _, rfl⟩
  · cases h
theorem zcw0_of {m' : zMth} (h : zcw0 m' = true) : (Cond.code m'.1 m'.2.1 (zmL m') (zmR m') ∈ zT ∧ Cond.initialized m'.1.cls ∈ zT) ∧ Cond.instanceMethod m'.1 ∈ zT ∧ Cond.selects m'.1.cls m'.1 m'.1 ∈ zT := by
  unfold zcw0 at h
  split at h
  · simp only [Bool.and_eq_true, decide_eq_true_eq] at h
    obtain ⟨⟨⟨w1, w2⟩, w3⟩, w4⟩ := h
    exact ⟨⟨List.mem_of_getElem? w1, List.mem_of_getElem? w3⟩, List.mem_of_getElem? w2, List.mem_of_getElem? w4⟩
  · cases h
theorem zcw1_of {m' : zMth} (h : zcw1 m' = true) : (Cond.code m'.1 m'.2.1 (zmL m') (zmR m') ∈ zT ∧ Cond.initialized m'.1.cls ∈ zT) ∧ Cond.static m'.1 ∈ zT := by
  unfold zcw1 at h
  split at h
  · simp only [Bool.and_eq_true, decide_eq_true_eq] at h
    obtain ⟨⟨w1, w2⟩, w3⟩ := h
    exact ⟨⟨List.mem_of_getElem? w1, List.mem_of_getElem? w3⟩, List.mem_of_getElem? w2⟩
  · cases h
theorem zcw2_of {m' : zMth} (h : zcw2 m' = true) : (Cond.code m'.1 m'.2.1 (zmL m') (zmR m') ∈ zT ∧ Cond.initialized m'.1.cls ∈ zT) ∧ Cond.instanceMethod m'.1 ∈ zT ∧ m'.1.name = "<init>" ∧ zmR m' = none := by
  unfold zcw2 at h
  split at h
  · simp only [Bool.and_eq_true, decide_eq_true_eq] at h
    obtain ⟨⟨⟨w1, w2⟩, w3⟩, w4⟩ := h
    exact ⟨⟨List.mem_of_getElem? w1, List.mem_of_getElem? w3⟩, List.mem_of_getElem? w2, w4⟩
  · cases h
/-- a call -/
theorem zk_call {how a b idx cw d : Nat} {as : List Value} {x : zX} {n : Nat} (F : zFx p R s m args meth cd D cA A M ad0 B) (hfr : d + 2 ≤ R.frames) (hlo : 64 * (d + 2) ≤ R.locals) (hhow : (how = 0 ∧ decode M.2.1 pc = .ok (.invokevirtual idx, 3)) ∨ (how = 1 ∧ decode M.2.1 pc = .ok (.invokestatic idx, 3)) ∨ (how = 2 ∧ decode M.2.1 pc = .ok (.invokespecial idx, 3))) (hok : zokC (zmO M) how idx a b cw = true)
    (h : zcall how (zmC M) (zmS M) a b pc lv stk st c k = some (.inr (.inl (n, as, x)))) : n = a ∧ x.2.2.2.1 = st ∧ ∀ (v : Option Value) (st' : zS), zMet l d a as st v st' → zKp p l e R s m args below meth cd Q D cA A M ad0 n0 (x.1, x.2.1, v.toList ++ x.2.2.1, st', x.2.2.2.2.1, x.2.2.2.2.2) → zKp p l e R s m args below meth cd Q D cA A M ad0 n0 (pc, lv, stk, st, c, k) := by
  unfold zcall at h
  cases hm : zMs[a]? with
  | none => rw [hm] at h; cases h
  | some m' =>
    rw [hm] at h
    dsimp only at h
    split at h
    · rename_i hq
      obtain ⟨⟨hb, hrc, hal⟩, ⟨hsum, h1, h2⟩, h3, h4⟩ := hq
      cases h
      refine ⟨rfl, rfl, fun v st' hM hk => ?_⟩
      unfold zokC at hok
      rw [hm] at hok
      simp only [Bool.and_eq_true, decide_eq_true_eq] at hok
      obtain ⟨⟨⟨⟨o1, o2⟩, o3⟩, o4⟩, o6⟩ := hok
      have o1 := of_decide_eq_true o1
      intro ad ls H locs I
      have hst : stk.map (zcv ad) = (((stk.take b).reverse).map (zcv ad)).reverse ++ (stk.drop b).map (zcv ad) := by
        rw [← List.map_reverse, List.reverse_reverse, ← List.map_append, List.take_append_drop]
      have hlen : ((stk.take b).reverse).length = b := by simp; omega
      have hCF : CallFix p m cd M.2.1 (zmL M) s args zT (zmO M) := ⟨F.1.1, F.1.2.1, F.1.2.2.1, F.1.2.2.2.1, F.1.2.2.2.2⟩
      have hrm : c + zmC m' ≤ R.cells ∧ k + zmS m' ≤ R.slots := ⟨by rw [F.2.2.2.1.2.2.1]; exact h3, by rw [F.2.2.2.1.2.2.2]; exact h4⟩
      have hMet := hM m' hm D cA ad B H.size
      have hpre : ∀ (U : State), U.heap = H → s.WarmedH U.vm → va_Pc (((stk.take b).reverse).map (zcv ad)) (zPre D cA ad B st H.size) (((stk.take b).reverse).map (zcv ad)).toArray U := fun U hU hW => ⟨rfl, zpre_at F I U hU hW⟩
      have hroom : 2 * (F0 m pc ls (stk.map (zcv ad))).monitorRoom + (((stk.drop b).map (zcv ad)).map fun v => v.category).sum ≤ 8 := lv_room (by rw [zsum]; exact hsum)
      generalize hase : (stk.take b).reverse = as at *
      rcases hhow with ⟨rfl, hd⟩ | ⟨rfl, hd⟩ | ⟨rfl, hd⟩
      · rw [if_pos rfl] at o6
        obtain ⟨⟨w1, w3⟩, w2, w4⟩ := zcw0_of o6
        unfold zrcv at hrc
        rw [if_pos rfl] at hrc
        obtain ⟨r, ar, ci, fs, T, N, rfl, hr, hc⟩ := zrcv0_of hrc
        have hcb := zcb (R := R) (d := d) F.1.2.2.2.2 (by omega) (by omega) o3 w1 w3 o1 o2 (n := b - 1) (by simpa using o4)
        have hrecv := va_recv F.2.1.1 I.2.1.1 hc (zw_at hr)
        exact zk_after F I (va_runV (As := ar.map (zcv ad)) (b := ad r) (rest := (stk.drop b).map (zcv ad)) hCF hMet ⟨hcb, F.1.2.2.2.2 _ w2, F.1.2.2.2.2 _ w4⟩ ⟨zpre_blind, hrecv, hpre⟩ rfl (by simp at hlen ⊢; omega) I.1.1.1 (by show stk.map (zcv ad) = _; rw [hst]; simp [zcv]) hroom hd hrm) h1 h2 h3 h4 hk
      · rw [if_neg (by decide), if_pos rfl] at o6
        obtain ⟨⟨w1, w3⟩, w2⟩ := zcw1_of o6
        have hcb := zcb (R := R) (d := d) F.1.2.2.2.2 (by omega) (by omega) o3 w1 w3 o1 o2 (n := b) (by simpa using o4)
        exact zk_after F I (va_runS (As := as.map (zcv ad)) (rest := (stk.drop b).map (zcv ad)) hCF hMet ⟨hcb, F.1.2.2.2.2 _ w2⟩ ⟨zpre_blind, hpre⟩ rfl (by rw [List.length_map]; exact hlen) I.1.1.1 (by show stk.map (zcv ad) = _; rw [hst]) hroom hd hrm) h1 h2 h3 h4 hk
      · rw [if_neg (by decide), if_neg (by decide)] at o6
        obtain ⟨⟨w1, w3⟩, w2, w4, w5⟩ := zcw2_of o6
        unfold zrcv at hrc
        rw [if_neg (by decide), if_neg (by decide)] at hrc
        obtain ⟨r, ar, rfl⟩ := zrcv2_of hrc
        have hcb := zcb (R := R) (d := d) F.1.2.2.2.2 (by omega) (by omega) o3 w1 w3 o1 o2 (n := b - 1) (by simpa using o4)
        rw [w5] at hcb
        exact zk_after F I (va_runI (As := ar.map (zcv ad)) (b := ad r) (rest := (stk.drop b).map (zcv ad)) hCF hMet ⟨hcb, w4, F.1.2.2.2.2 _ w2⟩ ⟨zpre_blind, hpre⟩ rfl (by simp at hlen ⊢; omega) I.1.1.1 (by show stk.map (zcv ad) = _; rw [hst]; simp [zcv]) hroom hd hrm) h1 h2 h3 h4 hk
    · cases h
end ZSND
end
section
/-! THE ABSTRACT MACHINE, 13: what it runs to, the machine runs to -/
section ZSND
variable {p : Program} {l : Launch} {e : Env} {R : Room} {s : State} {m : MethodId} {args : Array Value} {below : List Frame} {meth : Method} {cd : Code} {Q : State → Prop}
variable {D : va_G} {cA : Nat → ClassId} {A : Nat → Prop} {M : zMth} {ad0 : Nat → Nat} {n0 B : Nat}
variable {pc : Nat} {lv stk : List Value} {st : zS} {c k : Nat} {y : zX}
theorem zq_at {ad : Nat → Nat} {ls : Array Slot} {H : Heap} {locs : List Loc} {stI : zS} {v : Option Value} (hn : stI.length = n0) (I : zInv s D cA A M ad0 n0 ad lv st c k ls H locs) (t : State) (ht : t.heap = H) : zQ D cA ad0 stI A v st args s (.returned (v.map (zcv ad))) t :=
  ⟨⟨ad, by rw [hn]; exact I.2.2.2.1, rfl, by rw [ht]; exact I.2.1.1, I.2.1.2.1, by rw [hn]; exact I.2.2.2.2⟩, I.2.1.2.2.F ht⟩
theorem zk_ret {a : Nat} {stI : zS} {v : Option Value} (F : zFx p R s m args meth cd D cA A M ad0 B) (hn : stI.length = n0) (hd : decode M.2.1 pc = .ok (.ireturn, 1)) (hok : (a = 0 ∧ zmR M = some .int) ∨ (a = 1 ∧ zmR M = some .boolean)) (h : zret a stk = some (.inr (.inr v))) : zKp p l e R s m args below meth cd (MQ below (zQ D cA ad0 stI A v st) args s (zmC M) (zmS M) A) D cA A M ad0 n0 (pc, lv, stk, st, c, k) := by
  unfold zret at h
  split at h
  · rename_i x
    split at h
    · rename_i hq
      cases h
      intro ad ls H locs I
      refine W.widen I.2.2.1.1 I.2.2.1.2 ?_
      rcases hok with ⟨rfl, hr⟩ | ⟨rfl, hr⟩
      · exact W.iret F.1.1 F.1.2.1 (F.2.2.1.1.trans hr) (fun t ht _ => zq_at hn I t ht) (fun q hq => I.2.1.2.2.2.2 q hq) hd F.2.2.1.2.1
      · have hx : narrow .boolean (.int x) = .int x := by
          rcases hq with z | rfl | rfl
          · cases z
          · rfl
          · rfl
        exact W.zret F.1.1 F.1.2.1 (F.2.2.1.1.trans hr) hx (fun t ht _ => zq_at hn I t ht) (fun q hq => I.2.1.2.2.2.2 q hq) hd F.2.2.1.2.1
    · cases h
  · cases h
theorem zk_retA {stI : zS} {v : Option Value} {C : String} (F : zFx p R s m args meth cd D cA A M ad0 B) (hn : stI.length = n0) (hd : decode M.2.1 pc = .ok (.areturn, 1)) (hr : zmR M = some (.object C)) (h : zretA stk = some (.inr (.inr v))) : zKp p l e R s m args below meth cd (MQ below (zQ D cA ad0 stI A v st) args s (zmC M) (zmS M) A) D cA A M ad0 n0 (pc, lv, stk, st, c, k) := by
  unfold zretA at h
  split at h
  · rename_i x
    cases h
    intro ad ls H locs I
    refine W.widen I.2.2.1.1 I.2.2.1.2 ?_
    exact W.aret (v := .ref (ad x)) F.1.1 F.1.2.1 (F.2.2.1.1.trans hr) (Or.inl ⟨_, rfl⟩) (Or.inr ⟨_, rfl⟩) (fun t ht _ => zq_at hn I t ht) (fun q hq => I.2.1.2.2.2.2 q hq) hd F.2.2.1.2.1
  · cases h
theorem zk_retV {stI : zS} {v : Option Value} (F : zFx p R s m args meth cd D cA A M ad0 B) (hn : stI.length = n0) (hd : decode M.2.1 pc = .ok (.return_, 1)) (hr : zmR M = none) (h : zretV stk = some (.inr (.inr v))) : zKp p l e R s m args below meth cd (MQ below (zQ D cA ad0 stI A v st) args s (zmC M) (zmS M) A) D cA A M ad0 n0 (pc, lv, stk, st, c, k) := by
  unfold zretV at h
  split at h
  · cases h
    intro ad ls H locs I
    refine W.widen I.2.2.1.1 I.2.2.1.2 ?_
    exact W.vret F.1.1 F.1.2.1 (F.2.2.1.1.trans hr) (fun t ht _ => zq_at hn I t ht) (fun q hq => I.2.1.2.2.2.2 q hq) hd F.2.2.1.2.1
  · cases h
theorem zcall_ne {how MC MS n k' pc' : Nat} {lv' stk' : List Value} {st' : zS} {c' s' : Nat} : ∀ y, zcall how MC MS n k' pc' lv' stk' st' c' s' ≠ some (.inl y) := by
  intro y h
  unfold zcall at h
  split at h
  · split at h <;> cases h
  · cases h
theorem zcall_ne2 {how MC MS n k' pc' : Nat} {lv' stk' : List Value} {st' : zS} {c' s' : Nat} : ∀ y, zcall how MC MS n k' pc' lv' stk' st' c' s' ≠ some (.inr (.inr y)) := by
  intro y h
  unfold zcall at h
  split at h
  · split at h <;> cases h
  · cases h
theorem zret_ne {a' : Nat} {stk' : List Value} : ∀ y, zret a' stk' ≠ some (.inl y) := by
  intro y h
  unfold zret at h
  split at h
  · split at h <;> cases h
  · cases h
theorem zretA_ne {stk' : List Value} : ∀ y, zretA stk' ≠ some (.inl y) := by
  intro y h
  unfold zretA at h
  split at h <;> cases h
theorem zretV_ne {stk' : List Value} : ∀ y, zretV stk' ≠ some (.inl y) := by
  intro y h
  unfold zretV at h
  split at h <;> cases h
theorem zs_next {d : Nat} {x : zX} (F : zFx p R s m args meth cd D cA A M ad0 B) (hfr : d + 2 ≤ R.frames) (h : zstep M x = some (.inl y)) (hk : zKp p l e R s m args below meth cd Q D cA A M ad0 n0 y) : zKp p l e R s m args below meth cd Q D cA A M ad0 n0 x := by
  obtain ⟨pc, lv, stk, st, c, k⟩ := x
  unfold zstep at h
  dsimp only at h
  cases hf : zfind pc (zmI M) with
  | none => rw [hf] at h; cases h
  | some en =>
    obtain ⟨ins, len, a, b, cw, sw⟩ := en
    have ok := zok_of F.2.2.2.2 hf
    rw [hf] at h
    dsimp only at h
    unfold zokI at ok
    dsimp only at ok
    cases ins <;> first | (exfalso; cases h; done) | skip
    all_goals simp only [Bool.and_eq_true, zlenI] at ok
    case aaload => exact zk_aald F (of_decide_eq_true ok.1) h hk
    case aastore => exact zk_aast F (of_decide_eq_true ok.1) (of_decide_eq_true ok.2) h hk
    case aload i => exact zk_ldA F (Or.inl ⟨(of_decide_eq_true ok.1), rfl⟩) h hk
    case aload_n i => exact zk_ldA F (Or.inr ⟨i, (of_decide_eq_true ok.1), rfl, rfl⟩) h hk
    case anewarray idx => exact zk_newA F (of_decide_eq_true ok.1) ok.2 h hk
    case areturn => exact absurd h (zretA_ne y)
    case arraylength => exact zk_len F (of_decide_eq_true ok.1) h hk
    case astore i => exact zk_soA F (Or.inl ⟨(of_decide_eq_true ok.1), rfl⟩) h hk
    case astore_n i => exact zk_soA F (Or.inr ⟨i, (of_decide_eq_true ok.1), rfl, rfl⟩) h hk
    case baload => exact zk_bald F (of_decide_eq_true ok.1) h hk
    case bastore => exact zk_bast F (of_decide_eq_true ok.1) h hk
    case bipush n =>
      cases h
      exact zk_bipush F (of_decide_eq_true ok.1) hk
    case dup => exact zk_dup F (of_decide_eq_true ok.1) h hk
    case dup2 => exact zk_dup2 F (of_decide_eq_true ok.1) h hk
    case getfield idx => exact zk_getf F (of_decide_eq_true ok.1) ok.2 h hk
    case goto o =>
      cases h
      exact zk_goto F (of_decide_eq_true ok.1) (of_decide_eq_true ok.2) hk
    case i2b => exact zk_i2b F (of_decide_eq_true ok.1) h hk
    case iadd => exact zk_bin (fun _ _ _ _ _ _ w => lv_iadd F.1.1 F.1.2.1 (of_decide_eq_true ok.1) w) h hk
    case iaload => exact zk_iald F (of_decide_eq_true ok.1) h hk
    case iand => exact zk_bin (fun _ _ _ _ _ _ w => lv_iand F.1.1 F.1.2.1 (of_decide_eq_true ok.1) w) h hk
    case iastore => exact zk_iast F (of_decide_eq_true ok.1) h hk
    case iconst n =>
      cases h
      exact zk_iconst F (of_decide_eq_true ok.1) hk
    case if_icmp kd o => exact zk_if2 F (of_decide_eq_true ok.1) (of_decide_eq_true ok.2) h hk
    case ifCond kd o => exact zk_if1 F (of_decide_eq_true ok.1) (of_decide_eq_true ok.2) h hk
    case iinc i n => exact zk_inc F (of_decide_eq_true ok.1) h hk
    case iload i => exact zk_ldI F (Or.inl ⟨(of_decide_eq_true ok.1), rfl⟩) h hk
    case iload_n i => exact zk_ldI F (Or.inr ⟨i, (of_decide_eq_true ok.1), rfl, rfl⟩) h hk
    case imul => exact zk_bin (fun _ _ _ _ _ _ w => lv_imul F.1.1 F.1.2.1 (of_decide_eq_true ok.1) w) h hk
    case invokespecial idx =>
      by_cases ha : a = 1000
      · rw [if_pos ha] at h
        rw [if_pos ha] at ok
        exact zk_obj F (of_decide_eq_true ok.1) ok.2 h hk
      · rw [if_neg ha] at h
        exact absurd h (zcall_ne y)
    case invokestatic idx =>
      by_cases ha : a = 1001
      · rw [if_pos ha] at h
        rw [if_pos ha] at ok
        exact zk_min F (of_decide_eq_true ok.1) ok.2 h hk
      · rw [if_neg ha] at h
        rw [if_neg ha] at ok
        by_cases ha2 : a = 1002
        · rw [if_pos ha2] at h
          rw [if_pos ha2] at ok
          exact zk_max F (of_decide_eq_true ok.1) ok.2 h hk
        · rw [if_neg ha2] at h
          rw [if_neg ha2] at ok
          by_cases ha3 : a = 1004
          · rw [if_pos ha3] at h
            rw [if_pos ha3] at ok
            exact zk_copy F (of_decide_eq_true ok.1) ok.2 h hk
          · rw [if_neg ha3] at h
            exact absurd h (zcall_ne y)
    case invokevirtual idx =>
      by_cases ha : a = 1003
      · rw [if_pos ha] at h
        rw [if_pos ha] at ok
        exact zk_slen F (by omega) (of_decide_eq_true ok.1) ok.2 h hk
      · rw [if_neg ha] at h
        exact absurd h (zcall_ne y)
    case irem => exact zk_rem F (of_decide_eq_true ok.1) h hk
    case ireturn => exact absurd h (zret_ne y)
    case ishr => exact zk_bin (fun _ _ _ _ _ _ w => lv_ishr F.1.1 F.1.2.1 (of_decide_eq_true ok.1) w) h hk
    case istore i => exact zk_soI F (Or.inl ⟨(of_decide_eq_true ok.1), rfl⟩) h hk
    case istore_n i => exact zk_soI F (Or.inr ⟨i, (of_decide_eq_true ok.1), rfl, rfl⟩) h hk
    case isub => exact zk_bin (fun _ _ _ _ _ _ w => lv_isub F.1.1 F.1.2.1 (of_decide_eq_true ok.1) w) h hk
    case ldc idx =>
      dsimp only at h
      obtain ⟨o1, o2⟩ := ok
      by_cases hlt : a < 400
      · rw [if_pos hlt] at h o2
        cases h
        split at o2
        · rename_i o kk tx hs
          exact zk_ldc F (of_decide_eq_true o1) hs (of_decide_eq_true o2) hk
        · cases o2
      · rw [if_neg hlt] at h
        cases h
    case new idx =>
      dsimp only at h
      split at h
      · rename_i fs hfs
        exact zk_new F (of_decide_eq_true ok.1) ok.2 hfs h hk
      · cases h
    case newarray t => exact zk_newN F (of_decide_eq_true ok.1) (of_decide_eq_true ok.2) h hk
    case pop => exact zk_pop F (of_decide_eq_true ok.1) h hk
    case putfield idx =>
      dsimp only at h
      split at h
      · rename_i ft hft
        exact zk_putf F (of_decide_eq_true ok.1) ok.2.1 ok.2.2 hft h hk
      · cases h
    case return_ => exact absurd h (zretV_ne y)
    case sipush n =>
      cases h
      exact zk_sipush F (of_decide_eq_true ok.1) hk
    case tableswitch dflt lo hi offs => exact zk_sw F (of_decide_eq_true ok.1.1) (of_decide_eq_true ok.1.2) ok.2 h hk
/-- a call, in a step -/
theorem zs_call {d n : Nat} {as : List Value} {x x' : zX} (F : zFx p R s m args meth cd D cA A M ad0 B) (hfr : d + 2 ≤ R.frames) (hlo : 64 * (d + 2) ≤ R.locals) (h : zstep M x = some (.inr (.inl (n, as, x')))) : x'.2.2.2.1 = x.2.2.2.1 ∧ ∀ (v : Option Value) (st' : zS), zMet l d n as x.2.2.2.1 v st' → zKp p l e R s m args below meth cd Q D cA A M ad0 n0 (x'.1, x'.2.1, v.toList ++ x'.2.2.1, st', x'.2.2.2.2.1, x'.2.2.2.2.2) → zKp p l e R s m args below meth cd Q D cA A M ad0 n0 x := by
  obtain ⟨pc, lv, stk, st, c, k⟩ := x
  unfold zstep at h
  dsimp only at h
  cases hf : zfind pc (zmI M) with
  | none => rw [hf] at h; cases h
  | some en =>
    obtain ⟨ins, len, a, b, cw, sw⟩ := en
    have ok := zok_of F.2.2.2.2 hf
    rw [hf] at h
    dsimp only at h
    unfold zokI at ok
    dsimp only at ok
    have go : ∀ (how idx : Nat), ((how = 0 ∧ decode M.2.1 pc = .ok (.invokevirtual idx, 3)) ∨ (how = 1 ∧ decode M.2.1 pc = .ok (.invokestatic idx, 3)) ∨ (how = 2 ∧ decode M.2.1 pc = .ok (.invokespecial idx, 3))) → (a < 1000 → zokC (zmO M) how idx a b cw = true) → zcall how (zmC M) (zmS M) a b pc lv stk st c k = some (.inr (.inl (n, as, x'))) → x'.2.2.2.1 = st ∧ ∀ (v : Option Value) (st' : zS), zMet l d n as st v st' → zKp p l e R s m args below meth cd Q D cA A M ad0 n0 (x'.1, x'.2.1, v.toList ++ x'.2.2.1, st', x'.2.2.2.2.1, x'.2.2.2.2.2) → zKp p l e R s m args below meth cd Q D cA A M ad0 n0 (pc, lv, stk, st, c, k) := by
      intro how idx hhow hokc hc
      have ha : a < 1000 := by
        unfold zcall at hc
        split at hc
        · rename_i m' hm
          exact Nat.lt_of_lt_of_le (List.getElem?_eq_some_iff.mp hm).1 (by decide)
        · cases hc
      obtain ⟨e1, e2, e3⟩ := zk_call (l := l) (e := e) (below := below) (Q := Q) (n0 := n0) F hfr hlo hhow (hokc ha) hc
      subst e1
      exact ⟨e2, e3⟩
    cases ins <;> first | (exfalso; cases h; done) | skip
    all_goals simp only [Bool.and_eq_true, zlenI] at ok
    case invokespecial idx =>
      dsimp only at h
      split at h
      · exfalso
        unfold zobj zn at h
        split at h
        · split at h <;> cases h
        · cases h
      · rename_i ha
        rw [if_neg ha] at ok
        exact go 2 idx (Or.inr (Or.inr ⟨rfl, of_decide_eq_true ok.1⟩)) (fun hl => by have := ok.2; rwa [if_pos hl] at this) h
    case invokestatic idx =>
      dsimp only at h
      split at h
      · exfalso
        unfold zmin zn at h
        split at h
        · split at h <;> cases h
        · cases h
      · rename_i ha
        rw [if_neg ha] at ok
        split at h
        · exfalso
          unfold zmax zn at h
          split at h
          · split at h <;> cases h
          · cases h
        · rename_i ha2
          rw [if_neg ha2] at ok
          split at h
          · exfalso
            unfold zcopy zn at h
            split at h
            · split at h
              · split at h <;> cases h
              · cases h
            · cases h
          · rename_i ha3
            rw [if_neg ha3] at ok
            exact go 1 idx (Or.inr (Or.inl ⟨rfl, of_decide_eq_true ok.1⟩)) (fun hl => by have := ok.2; rwa [if_pos hl] at this) h
    case invokevirtual idx =>
      dsimp only at h
      split at h
      · exfalso
        unfold zslen zn at h
        split at h
        · split at h
          · split at h <;> cases h
          · cases h
        · cases h
      · rename_i ha
        rw [if_neg ha] at ok
        exact go 0 idx (Or.inl ⟨rfl, of_decide_eq_true ok.1⟩) (fun hl => by have := ok.2; rwa [if_pos hl] at this) h
    all_goals (exfalso; dsimp only [zbin, zrem, zi2b, zldI, zldA, zsoI, zsoA, zinc, zif1, zif2, zsw, zgetf, zputf, zaldN, zastN, zaldA, zastA, zlen, zdup, zdup2, zpop, znew, znewN, znewA, zret, zretA, zretV, zn] at h; (repeat' split at h) <;> cases h)
/-- an end, in a step -/
theorem zs_ret {stI : zS} {v : Option Value} {x : zX} (F : zFx p R s m args meth cd D cA A M ad0 B) (hn : stI.length = n0) (h : zstep M x = some (.inr (.inr v))) : zKp p l e R s m args below meth cd (MQ below (zQ D cA ad0 stI A v x.2.2.2.1) args s (zmC M) (zmS M) A) D cA A M ad0 n0 x := by
  obtain ⟨pc, lv, stk, st, c, k⟩ := x
  unfold zstep at h
  dsimp only at h
  cases hf : zfind pc (zmI M) with
  | none => rw [hf] at h; cases h
  | some en =>
    obtain ⟨ins, len, a, b, cw, sw⟩ := en
    have ok := zok_of F.2.2.2.2 hf
    rw [hf] at h
    dsimp only at h
    unfold zokI at ok
    dsimp only at ok
    cases ins <;> first | (exfalso; cases h; done) | skip
    all_goals simp only [Bool.and_eq_true, zlenI] at ok
    case ireturn => exact zk_ret F hn (of_decide_eq_true ok.1) (of_decide_eq_true ok.2) h
    case areturn =>
      obtain ⟨o1, o2⟩ := ok
      split at o2
      · rename_i C hr
        exact zk_retA F hn (of_decide_eq_true o1) hr h
      · cases o2
    case return_ => exact zk_retV F hn (of_decide_eq_true ok.1) (of_decide_eq_true ok.2) h
    case invokespecial idx =>
      dsimp only at h
      split at h
      · exfalso
        unfold zobj zn at h
        split at h
        · split at h <;> cases h
        · cases h
      · exact absurd h (zcall_ne2 v)
    case invokestatic idx =>
      dsimp only at h
      split at h
      · exfalso
        unfold zmin zn at h
        split at h
        · split at h <;> cases h
        · cases h
      · split at h
        · exfalso
          unfold zmax zn at h
          split at h
          · split at h <;> cases h
          · cases h
        · split at h
          · exfalso
            unfold zcopy zn at h
            split at h
            · split at h
              · split at h <;> cases h
              · cases h
            · cases h
          · exact absurd h (zcall_ne2 v)
    case invokevirtual idx =>
      dsimp only at h
      split at h
      · exfalso
        unfold zslen zn at h
        split at h
        · split at h
          · split at h <;> cases h
          · cases h
        · cases h
      · exact absurd h (zcall_ne2 v)
    all_goals (exfalso; dsimp only [zbin, zrem, zi2b, zldI, zldA, zsoI, zsoA, zinc, zif1, zif2, zsw, zgetf, zputf, zaldN, zastN, zaldA, zastA, zlen, zdup, zdup2, zpop, znew, znewN, znewA, zret, zretA, zretV, zn] at h; (repeat' split at h) <;> cases h)
end ZSND
end
section
/-! THE ABSTRACT MACHINE, 14: a run of a method is its contract -/
theorem zgo_sound {p : Program} {l : Launch} {e : Env} {R : Room} {s : State} {m : MethodId} {args : Array Value} {below : List Frame} {meth : Method} {cd : Code} {D : va_G} {cA : Nat → ClassId} {A : Nat → Prop} {M : zMth} {ad0 : Nat → Nat} {n0 B d : Nat} {stI st' : zS} {v : Option Value} {call : Nat → List Value → zS → Option (Option Value × zS)}
    (hcall : ∀ (n : Nat) (as : List Value) (st : zS) (v : Option Value) (st' : zS), call n as st = some (v, st') → zMet l d n as st v st') (F : zFx p R s m args meth cd D cA A M ad0 B) (hfr : d + 2 ≤ R.frames) (hlo : 64 * (d + 2) ≤ R.locals) (hn : stI.length = n0) :
    ∀ (f : Nat) (x : zX), zgo call M f x = some (v, st') → zKp p l e R s m args below meth cd (MQ below (zQ D cA ad0 stI A v st') args s (zmC M) (zmS M) A) D cA A M ad0 n0 x := by
  intro f
  induction f with
  | zero => intro x h; cases h
  | succ f ih =>
    intro x h
    unfold zgo at h
    cases hz : zstep M x with
    | none => rw [hz] at h; cases h
    | some o =>
      rw [hz] at h
      obtain y | ⟨n, as, x'⟩ | v' := o
      · exact zs_next F hfr hz (ih y h)
      · obtain ⟨pc, lv, stk, st, c, k⟩ := x'
        dsimp only at h
        obtain ⟨e1, e2⟩ := zs_call (l := l) (e := e) (below := below) (Q := MQ below (zQ D cA ad0 stI A v st') args s (zmC M) (zmS M) A) (n0 := n0) F hfr hlo hz
        dsimp only at e1
        cases hc : call n as st with
        | none => rw [hc] at h; cases h
        | some q =>
          obtain ⟨v1, st1⟩ := q
          rw [hc] at h
          dsimp only at h
          exact e2 v1 st1 (by rw [← e1]; exact hcall n as st v1 st1 hc) (ih _ h)
      · cases h
        exact zs_ret F hn hz
theorem zsound {l : Launch} (hok : ∀ M ∈ zMs, zokM M = true) (Fu : Nat) : ∀ (d n : Nat) (as : List Value) (st : zS) (v : Option Value) (st' : zS), zrun Fu d n as st = some (v, st') → zMet l d n as st v st' := by
  intro d
  induction d with
  | zero => intro n as st v st' h; cases h
  | succ d ih =>
    intro n as st v st' h M hm D cA ad B sz
    have h : (match zMs[n]? with
      | none => none
      | some m => if (zargs as).length ≤ zmL m then zgo (zrun Fu d) m Fu (0, zlocals (zmL m) as, [], st, 0, 0) else none) = some (v, st') := h
    rw [hm] at h
    dsimp only at h
    split at h
    · rename_i hal
      have okM := hok M (List.mem_of_getElem? hm)
      have ok1 := (Bool.and_eq_true_iff.mp okM).1
      simp only [Bool.and_eq_true, decide_eq_true_eq] at ok1
      obtain ⟨⟨k1, k2⟩, k3⟩ := ok1
      refine Met.ofW (cc := M.2.1) (maxL := zmL M) (ret := zmR M) k1 rfl ?_
      intro p e s m args below meth c s₁ Bd hml hv
      obtain ⟨rfl, h0, h1, h2, h3, h4, h5⟩ := hv
      subst h0
      have hts0 := atoms_spec (ws := zws M) Bd.pre
      have hts : ∀ w ∈ zT, w.before ((as.map (zcv ad)).toArray) s = true := fun w hw => hts0 w (List.mem_cons_of_mem _ hw)
      have hown : s.vm.findClass (zmO M) = some m.cls := k2 ▸ findClass_of_methodNamed Bd.named
      have hA : ∀ q, s.heap.size ≤ q → va_A (zw cA ad st) s.heap.size q := fun q hq => Or.inr hq
      have hAB : ∀ q, va_A (zw cA ad st) s.heap.size q → B ≤ q := by
        intro q hq
        rcases hq with ⟨k', e', z⟩ | z
        · exact h3.2 k' _ z
        · exact Nat.le_trans h4 z
      have F : zFx p (headSpec (zws M) (zrm (d + 1) M)).room s m ((as.map (zcv ad)).toArray) meth c D cA (va_A (zw cA ad st) s.heap.size) M ad B :=
        ⟨⟨Bd.exec, Bd.bytes, hml, hown, hts⟩, ⟨h2, hA, h5, hAB, h4⟩, ⟨Bd.returns, Bd.notSynchronized, fun hin => ((name_of_methodNamed Bd.named Bd.method).1).trans hin⟩, ⟨Nat.succ_le_succ (Nat.zero_le _), by show 64 ≤ 64 * (d + 1 + 1); omega, rfl, rfl⟩, (Bool.and_eq_true_iff.mp okM).2⟩
      rw [lg_entry_eq]
      have hl := zl_entry (ad := ad) (n := zmL M) as hal
      exact zgo_sound ih F (Nat.le_refl _) (Nat.le_refl _) rfl Fu (0, zlocals (zmL M) as, [], st, 0, 0) h ad _ s.heap [] ⟨⟨hl, zlocals_len hal⟩, ⟨h1, h3.self, va_S.rf⟩, ⟨Nat.zero_le _, Nat.zero_le _⟩, zag.rf, Nat.le_refl _⟩
    · cases h
end
section
/-! A RUN UP TO A PLACE -/
def zto (call : Nat → List Value → zS → Option (Option Value × zS)) (m : zMth) (stop : Nat) : Nat → zX → Option zX
  | 0, _ => none
  | f + 1, x => if x.1 = stop then some x else match zstep m x with
    | some (.inl y) => zto call m stop f y
    | some (.inr (.inl (n, as, pc, lv, stk, st, c, s))) => (match call n as st with
      | none => none
      | some (v, st') => zto call m stop f (pc, lv, v.toList ++ stk, st', c, s))
    | _ => none
theorem zto_sound {p : Program} {l : Launch} {e : Env} {R : Room} {s : State} {m : MethodId} {args : Array Value} {below : List Frame} {meth : Method} {cd : Code} {Q : State → Prop} {D : va_G} {cA : Nat → ClassId} {A : Nat → Prop} {M : zMth} {ad0 : Nat → Nat} {n0 B d stop : Nat} {y : zX} {call : Nat → List Value → zS → Option (Option Value × zS)}
    (hcall : ∀ (n : Nat) (as : List Value) (st : zS) (v : Option Value) (st' : zS), call n as st = some (v, st') → zMet l d n as st v st') (F : zFx p R s m args meth cd D cA A M ad0 B) (hfr : d + 2 ≤ R.frames) (hlo : 64 * (d + 2) ≤ R.locals) (hk : zKp p l e R s m args below meth cd Q D cA A M ad0 n0 y) :
    ∀ (f : Nat) (x : zX), zto call M stop f x = some y → zKp p l e R s m args below meth cd Q D cA A M ad0 n0 x := by
  intro f
  induction f with
  | zero => intro x h; cases h
  | succ f ih =>
    intro x h
    unfold zto at h
    split at h
    · cases h
      exact hk
    · cases hz : zstep M x with
      | none => rw [hz] at h; cases h
      | some o =>
        rw [hz] at h
        obtain y' | ⟨n, as, x'⟩ | v' := o
        · exact zs_next F hfr hz (ih y' h)
        · obtain ⟨pc, lv, stk, st, c, k⟩ := x'
          dsimp only at h
          obtain ⟨e1, e2⟩ := zs_call (l := l) (e := e) (below := below) (Q := Q) (n0 := n0) F hfr hlo hz
          dsimp only at e1
          cases hc : call n as st with
          | none => rw [hc] at h; cases h
          | some q =>
            obtain ⟨v1, st1⟩ := q
            rw [hc] at h
            dsimp only at h
            exact e2 v1 st1 (by rw [← e1]; exact hcall n as st v1 st1 hc) (ih _ h)
        · cases h
end
section
/-! THE SCRIPT: an array that isn't of the world, number 700 -/
section ZSND
variable {p : Program} {l : Launch} {e : Env} {R : Room} {s : State} {m : MethodId} {args : Array Value} {below : List Frame} {meth : Method} {cd : Code} {Q : State → Prop}
variable {D : va_G} {cA : Nat → ClassId} {A : Nat → Prop} {M : zMth} {ad0 : Nat → Nat} {n0 B : Nat}
variable {pc : Nat} {lv r : List Value} {st : zS} {c k b L : Nat} {xs : Nat → Int32}
theorem zk_sld (F : zFx p R s m args meth cd D cA A M ad0 B) (hX : va_X b L xs s s.heap) (hbl : b < s.heap.size) (hbA : ¬ A b) (h7 : ad0 700 = b) (hd : decode M.2.1 pc = .ok (.iaload, 1)) {i : Int32} (hin : vp_in i L) (hk : zKp p l e R s m args below meth cd Q D cA A M ad0 n0 (pc + 1, lv, .int (xs i.toNatClampNeg) :: r, st, c, k)) : zKp p l e R s m args below meth cd Q D cA A M ad0 n0 (pc, lv, .int i :: .ref 700 :: r, st, c, k) := by
  intro ad ls H locs I
  have e7 : ad 700 = b := (I.2.2.2.1 700 (Or.inr (by decide))).trans h7
  show W p l e R s m args below meth cd H locs c k Q (F0 m pc ls (.int i :: .ref (ad 700) :: r.map (zcv ad)))
  rw [e7]
  exact va_sld F.1.1 F.1.2.1 hX hbl hbA I.2.1.2.2 hin hd (hk ad ls H locs I)
theorem zk_slenS (F : zFx p R s m args meth cd D cA A M ad0 B) (hX : va_X b L xs s s.heap) (hbl : b < s.heap.size) (hbA : ¬ A b) (h7 : ad0 700 = b) (hd : decode M.2.1 pc = .ok (.arraylength, 1)) (hk : zKp p l e R s m args below meth cd Q D cA A M ad0 n0 (pc + 1, lv, .int (Int32.ofNat L) :: r, st, c, k)) : zKp p l e R s m args below meth cd Q D cA A M ad0 n0 (pc, lv, .ref 700 :: r, st, c, k) := by
  intro ad ls H locs I
  have e7 : ad 700 = b := (I.2.2.2.1 700 (Or.inr (by decide))).trans h7
  show W p l e R s m args below meth cd H locs c k Q (F0 m pc ls (.ref (ad 700) :: r.map (zcv ad)))
  rw [e7]
  exact va_slen F.1.1 F.1.2.1 hX hbl hbA I.2.1.2.2 hd (hk ad ls H locs I)
end ZSND
/-- a chain of steps -/
theorem zg_nx {call : Nat → List Value → zS → Option (Option Value × zS)} {m : zMth} {f : Nat} {x y : zX} {o : Option (Option Value × zS)} (h : zstep m x = some (.inl y)) (k : zgo call m f y = o) : zgo call m (f + 1) x = o := by
  show (match zstep m x with
    | none => none
    | some (.inl y) => zgo call m f y
    | some (.inr (.inl (n, as, pc, lv, stk, st, c, s))) => (match call n as st with
      | none => none
      | some (v, st') => zgo call m f (pc, lv, v.toList ++ stk, st', c, s))
    | some (.inr (.inr v)) => some (v, x.2.2.2.1)) = o
  rw [h]
  exact k
theorem zg_call {call : Nat → List Value → zS → Option (Option Value × zS)} {m : zMth} {f n pc c s : Nat} {x : zX} {as lv stk : List Value} {st st' : zS} {v : Option Value} {o : Option (Option Value × zS)} (h : zstep m x = some (.inr (.inl (n, as, pc, lv, stk, st, c, s)))) (hc : call n as st = some (v, st')) (k : zgo call m f (pc, lv, v.toList ++ stk, st', c, s) = o) : zgo call m (f + 1) x = o := by
  show (match zstep m x with
    | none => none
    | some (.inl y) => zgo call m f y
    | some (.inr (.inl (n, as, pc, lv, stk, st, c, s))) => (match call n as st with
      | none => none
      | some (v, st') => zgo call m f (pc, lv, v.toList ++ stk, st', c, s))
    | some (.inr (.inr v)) => some (v, x.2.2.2.1)) = o
  rw [h]
  dsimp only
  rw [hc]
  exact k
theorem zg_ret {call : Nat → List Value → zS → Option (Option Value × zS)} {m : zMth} {f : Nat} {x : zX} {v : Option Value} (h : zstep m x = some (.inr (.inr v))) : zgo call m (f + 1) x = some (v, x.2.2.2.1) := by
  show (match zstep m x with
    | none => none
    | some (.inl y) => zgo call m f y
    | some (.inr (.inl (n, as, pc, lv, stk, st, c, s))) => (match call n as st with
      | none => none
      | some (v, st') => zgo call m f (pc, lv, v.toList ++ stk, st', c, s))
    | some (.inr (.inr v)) => some (v, x.2.2.2.1)) = _
  rw [h]
theorem zr_of {F d n : Nat} {as : List Value} {st : zS} {m : zMth} {o : Option (Option Value × zS)} (hm : zMs[n]? = some m) (ha : (zargs as).length ≤ zmL m) (h : zgo (zrun F d) m F (0, zlocals (zmL m) as, [], st, 0, 0) = o) : zrun F (d + 1) n as st = o := by
  show (match zMs[n]? with
    | none => none
    | some m => if (zargs as).length ≤ zmL m then zgo (zrun F d) m F (0, zlocals (zmL m) as, [], st, 0, 0) else none) = o
  rw [hm]
  dsimp only
  rw [if_pos ha]
  exact h
end
section
/-! CHAINS: branches and switches on unknown numbers -/
theorem zg_brT {call : Nat → List Value → zS → Option (Option Value × zS)} {m : zMth} {f : Nat} {x : zX} {o : Option (Option Value × zS)} {P : Prop} [Decidable P] {b : zO} {pc : Nat} {lv stk : List Value} {st : zS} {c s : Nat} (e : zstep m x = if P then zn pc lv stk st c s else b) (h : P) (k : zgo call m f (pc, lv, stk, st, c, s) = o) : zgo call m (f + 1) x = o := zg_nx (e.trans (if_pos h)) k
theorem zg_brF {call : Nat → List Value → zS → Option (Option Value × zS)} {m : zMth} {f : Nat} {x : zX} {o : Option (Option Value × zS)} {P : Prop} [Decidable P] {a : zO} {pc : Nat} {lv stk : List Value} {st : zS} {c s : Nat} (e : zstep m x = if P then a else zn pc lv stk st c s) (h : ¬ P) (k : zgo call m f (pc, lv, stk, st, c, s) = o) : zgo call m (f + 1) x = o := zg_nx (e.trans (if_neg h)) k
theorem zg_sw {call : Nat → List Value → zS → Option (Option Value × zS)} {m : zMth} {f : Nat} {x : zX} {o : Option (Option Value × zS)} {T pc : Nat} {lv stk : List Value} {st : zS} {c s : Nat} (e : zstep m x = zn T lv stk st c s) (h : T = pc) (k : zgo call m f (pc, lv, stk, st, c, s) = o) : zgo call m (f + 1) x = o := zg_nx (y := (pc, lv, stk, st, c, s)) (by rw [e, h]; rfl) k
/-! numbers -/
theorem zi_lt {a b : Int32} : (a < b) = (a.toInt < b.toInt) := propext Int32.lt_iff_toInt_lt
theorem zi_le {a b : Int32} : (a ≤ b) = (a.toInt ≤ b.toInt) := propext Int32.le_iff_toInt_le
theorem zi_eq {a b : Int32} : (a = b) = (a.toInt = b.toInt) := propext Int32.toInt_inj.symm
theorem zi_0 : (0 : Int32).toInt = 0 := rfl
theorem zi_1 : (1 : Int32).toInt = 1 := rfl
theorem zi_2 : (2 : Int32).toInt = 2 := rfl
theorem zi_m1 : (-1 : Int32).toInt = -1 := rfl
theorem zi_tree (t : Int32) : t < 0 ∨ t = 0 ∨ t = 1 ∨ 2 ≤ t := by
  simp only [zi_lt, zi_le, zi_eq, zi_0, zi_1, zi_2]
  omega
theorem zi_node (k : Int32) : k < 0 ∨ k = 0 ∨ 1 ≤ k := by
  simp only [zi_lt, zi_le, zi_eq, zi_0, zi_1]
  omega
theorem zi_len (n : Int32) : n < -1 ∨ n = -1 ∨ n = 0 ∨ 1 ≤ n := by
  simp only [zi_lt, zi_le, zi_eq, zi_0, zi_1, zi_m1]
  omega
theorem zi_neg (i : Int32) : i < 0 ∨ 0 ≤ i := by
  simp only [zi_lt, zi_le, zi_0]
  omega
end
section
/-! RUNS with unknown numbers, printed by wip/gen3.py, gen4.py -/
/-- the cells behind both constructors, with what feed changes: the number of bytes and the bytes, of the class and of the reference -/
def zsF (fc : Int32) (v : List (Nat × Int32)) (n : Int32) (u : List (Nat × Int32)) : zS := [
  .inl (5, [.ref 1, .ref 18, .ref 24, .ref 28, .ref 32, .ref 23, .int fc]),
  .inr (.inr (2, [some 2, some 10])),
  .inl (0, [.ref 3, .ref 4, .ref 5, .ref 6, .ref 7, .ref 8, .ref 9, .int 1]),
  .inr (.inl (0, 12011, 0, [(0, 0)])),
  .inr (.inl (0, 12011, 0, [(0, -1)])),
  .inr (.inl (0, 12011, 0, [(0, 0)])),
  .inr (.inl (0, 12011, 0, [(0, 1), (0, 1)])),
  .inr (.inl (0, 12011, 0, [(0, 0)])),
  .inr (.inl (0, 12011, 0, [(0, -1)])),
  .inr (.inl (0, 12011, 0, [])),
  .inl (0, [.ref 11, .ref 12, .ref 13, .ref 14, .ref 15, .ref 16, .ref 17, .int 1]),
  .inr (.inl (0, 12011, 0, [(0, 0)])),
  .inr (.inl (0, 12011, 0, [(0, -1)])),
  .inr (.inl (0, 12011, 0, [(0, 0)])),
  .inr (.inl (0, 12011, 0, [(0, 1), (0, 1)])),
  .inr (.inl (0, 12011, 0, [(0, 0)])),
  .inr (.inl (0, 12011, 0, [(0, -1)])),
  .inr (.inl (0, 12011, 0, [])),
  .inl (1, [.ref 19, .ref 20, .ref 21, .ref 22, .int 0]),
  .inr (.inl (1, 10240, 0, [])),
  .inr (.inl (0, 5121, 0, [])),
  .inr (.inl (0, 1024, 0, ((List.range 1024).map (fun i => (i, (-1 : Int32)))).reverse)),
  .inr (.inl (0, 5120, 0, [])),
  .inr (.inl (1, 8000, 0, v)),
  .inl (2, [.ref 25, .ref 26, .ref 27, .ref 23, .int 0, .int 0, .int 0]),
  .inr (.inl (0, 8001, 0, [])),
  .inr (.inl (0, 8001, 0, [])),
  .inr (.inl (0, 8001, 0, [])),
  .inl (3, [.ref 24, .ref 18, .ref 2, .ref 29, .ref 30, .ref 31, .int 0]),
  .inr (.inl (0, 480, 0, [])),
  .inr (.inl (0, 480, 0, [])),
  .inr (.inl (0, 480, 0, [])),
  .inl (4, [.ref 18, .ref 33, .int 0, .ref 34, .int 0, .int 0]),
  .inr (.inl (1, 8000, 0, [])),
  .inr (.inl (1, 8000, 0, [])),
  .inl (6, [.ref 57, .ref 36, .int n, .int 0, .ref 37, .int 0, .ref 38, .int 0, .ref 39, .ref 40, .ref 41, .int 0, .int 0, .int 0, .int (-1), .ref 42, .ref 43, .ref 44, .ref 45, .ref 46, .ref 47, .int 0, .ref 48, .ref 49, .ref 50, .ref 51, .ref 52, .ref 53, .ref 54, .ref 55, .ref 56, .int 0]),
  .inr (.inl (0, 8000, 0, u)),
  .inr (.inl (0, 8000, 0, [])),
  .inr (.inl (0, 8001, 0, [])),
  .inr (.inl (0, 8002, 0, [])),
  .inr (.inl (0, 8002, 0, [])),
  .inr (.inl (0, 8002, 0, [])),
  .inr (.inl (0, 26000, 0, [])),
  .inr (.inl (0, 26000, 0, [])),
  .inr (.inl (0, 26000, 0, [])),
  .inr (.inl (0, 26000, 0, [])),
  .inr (.inl (0, 26000, 0, [])),
  .inr (.inl (0, 26000, 0, [])),
  .inr (.inl (0, 26000, 0, [])),
  .inr (.inl (0, 26000, 0, [(13000, 0), (0, 0)])),
  .inr (.inl (0, 26000, 0, [(13000, -1), (0, -1)])),
  .inr (.inl (0, 26000, 0, [(13000, 0), (0, 0)])),
  .inr (.inl (0, 26000, 0, [(13000, -1), (0, -1)])),
  .inr (.inl (0, 26000, 0, [(13000, 1), (0, 1)])),
  .inr (.inl (0, 2, 0, [(1, 1), (1, 0), (0, 1), (0, 0)])),
  .inr (.inl (0, 256, 0, [])),
  .inr (.inl (0, 64, 0, [])),
  .inr (.inr (3, [some 500, some 501, some 502, some 503, some 504, some 505, some 506, some 507, some 508, some 509, some 510, some 511, some 512, some 513, some 514, some 515, some 516, some 517, some 518]))]
/-- DesignReader.isTree -/
theorem zq_1 {t : Int32} (h0 : t < 0) : zrun 20000 7 13 [.ref 0, .int t] (zsF 0 [] 0 []) = some (some (.int 0), (zsF 0 [] 0 [])) := by
  refine zr_of (m := zm_D_isTree) rfl (Nat.le_of_ble_eq_true rfl) ?_
  show zgo _ _ _ (0, [.ref 0, .int t], [], (zsF 0 [] 0 []), 0, 0) = _
  refine zg_nx (y := (1, [.ref 0, .int t], [.int t], (zsF 0 [] 0 []), 0, 0)) rfl ?_
  refine zg_brT (P := t < 0) (b := (zn 4 [.ref 0, .int t] [] (zsF 0 [] 0 []) 0 0)) (pc := 13) (lv := [.ref 0, .int t]) (stk := []) (st := (zsF 0 [] 0 [])) (c := 0) (s := 0) rfl h0 ?_
  refine zg_nx (y := (14, [.ref 0, .int t], [.int 0], (zsF 0 [] 0 []), 0, 0)) rfl ?_
  exact zg_ret rfl

/-- DesignReader.nodes -/
theorem zq_2 {t : Int32} (h0 : t < 0) : zrun 20000 8 3 [.ref 0, .int t] (zsF 0 [] 0 []) = some (some (.int 0), (zsF 0 [] 0 [])) := by
  refine zr_of (m := zm_D_nodes) rfl (Nat.le_of_ble_eq_true rfl) ?_
  show zgo _ _ _ (0, [.ref 0, .int t], [], (zsF 0 [] 0 []), 0, 0) = _
  refine zg_nx (y := (1, [.ref 0, .int t], [.ref 0], (zsF 0 [] 0 []), 0, 0)) rfl ?_
  refine zg_nx (y := (2, [.ref 0, .int t], [.int t, .ref 0], (zsF 0 [] 0 []), 0, 0)) rfl ?_
  refine zg_call (n := 13) (as := [.ref 0, .int t]) (pc := 5) (lv := [.ref 0, .int t]) (stk := []) (st := (zsF 0 [] 0 [])) (c := 0) (s := 0) (v := (some (.int 0))) (st' := (zsF 0 [] 0 [])) rfl (zq_1 h0) ?_
  show zgo _ _ _ (5, [.ref 0, .int t], [.int 0], (zsF 0 [] 0 []), 0, 0) = _
  refine zg_nx (y := (20, [.ref 0, .int t], [], (zsF 0 [] 0 []), 0, 0)) rfl ?_
  refine zg_nx (y := (21, [.ref 0, .int t], [.int 0], (zsF 0 [] 0 []), 0, 0)) rfl ?_
  exact zg_ret rfl

/-- DesignReaderModel.nodes -/
theorem zq_3 {t : Int32} (h0 : t < 0) : zrun 20000 8 25 [.ref 35, .int t] (zsF 0 [] 0 []) = some (some (.int 0), (zsF 0 [] 0 [])) := by
  refine zr_of (m := zm_R_nodes) rfl (Nat.le_of_ble_eq_true rfl) ?_
  show zgo _ _ _ (0, [.ref 35, .int t], [], (zsF 0 [] 0 []), 0, 0) = _
  refine zg_nx (y := (1, [.ref 35, .int t], [.int t], (zsF 0 [] 0 []), 0, 0)) rfl ?_
  refine zg_brT (P := t < 0) (b := (zn 4 [.ref 35, .int t] [] (zsF 0 [] 0 []) 0 0)) (pc := 9) (lv := [.ref 35, .int t]) (stk := []) (st := (zsF 0 [] 0 [])) (c := 0) (s := 0) rfl h0 ?_
  refine zg_nx (y := (10, [.ref 35, .int t], [.int 0], (zsF 0 [] 0 []), 0, 0)) rfl ?_
  refine zg_nx (y := (19, [.ref 35, .int t], [.int 0], (zsF 0 [] 0 []), 0, 0)) rfl ?_
  exact zg_ret rfl

/-- DesignReader.isTree -/
theorem zq_4 {t : Int32} (h0 : ¬ (t < 0)) (h1 : 2 ≤ t) : zrun 20000 7 13 [.ref 0, .int t] (zsF 0 [] 0 []) = some (some (.int 0), (zsF 0 [] 0 [])) := by
  refine zr_of (m := zm_D_isTree) rfl (Nat.le_of_ble_eq_true rfl) ?_
  show zgo _ _ _ (0, [.ref 0, .int t], [], (zsF 0 [] 0 []), 0, 0) = _
  refine zg_nx (y := (1, [.ref 0, .int t], [.int t], (zsF 0 [] 0 []), 0, 0)) rfl ?_
  refine zg_brF (P := t < 0) (a := (zn 13 [.ref 0, .int t] [] (zsF 0 [] 0 []) 0 0)) (pc := 4) (lv := [.ref 0, .int t]) (stk := []) (st := (zsF 0 [] 0 [])) (c := 0) (s := 0) rfl h0 ?_
  refine zg_nx (y := (5, [.ref 0, .int t], [.int t], (zsF 0 [] 0 []), 0, 0)) rfl ?_
  refine zg_nx (y := (6, [.ref 0, .int t], [.int 2, .int t], (zsF 0 [] 0 []), 0, 0)) rfl ?_
  refine zg_brT (P := 2 ≤ t) (b := (zn 9 [.ref 0, .int t] [] (zsF 0 [] 0 []) 0 0)) (pc := 13) (lv := [.ref 0, .int t]) (stk := []) (st := (zsF 0 [] 0 [])) (c := 0) (s := 0) rfl h1 ?_
  refine zg_nx (y := (14, [.ref 0, .int t], [.int 0], (zsF 0 [] 0 []), 0, 0)) rfl ?_
  exact zg_ret rfl

/-- DesignReader.nodes -/
theorem zq_5 {t : Int32} (h0 : ¬ (t < 0)) (h1 : 2 ≤ t) : zrun 20000 8 3 [.ref 0, .int t] (zsF 0 [] 0 []) = some (some (.int 0), (zsF 0 [] 0 [])) := by
  refine zr_of (m := zm_D_nodes) rfl (Nat.le_of_ble_eq_true rfl) ?_
  show zgo _ _ _ (0, [.ref 0, .int t], [], (zsF 0 [] 0 []), 0, 0) = _
  refine zg_nx (y := (1, [.ref 0, .int t], [.ref 0], (zsF 0 [] 0 []), 0, 0)) rfl ?_
  refine zg_nx (y := (2, [.ref 0, .int t], [.int t, .ref 0], (zsF 0 [] 0 []), 0, 0)) rfl ?_
  refine zg_call (n := 13) (as := [.ref 0, .int t]) (pc := 5) (lv := [.ref 0, .int t]) (stk := []) (st := (zsF 0 [] 0 [])) (c := 0) (s := 0) (v := (some (.int 0))) (st' := (zsF 0 [] 0 [])) rfl (zq_4 h0 h1) ?_
  show zgo _ _ _ (5, [.ref 0, .int t], [.int 0], (zsF 0 [] 0 []), 0, 0) = _
  refine zg_nx (y := (20, [.ref 0, .int t], [], (zsF 0 [] 0 []), 0, 0)) rfl ?_
  refine zg_nx (y := (21, [.ref 0, .int t], [.int 0], (zsF 0 [] 0 []), 0, 0)) rfl ?_
  exact zg_ret rfl

/-- DesignReaderModel.nodes -/
theorem zq_6 {t : Int32} (h0 : ¬ (t < 0)) (h1 : ¬ (t ≤ 1)) : zrun 20000 8 25 [.ref 35, .int t] (zsF 0 [] 0 []) = some (some (.int 0), (zsF 0 [] 0 [])) := by
  refine zr_of (m := zm_R_nodes) rfl (Nat.le_of_ble_eq_true rfl) ?_
  show zgo _ _ _ (0, [.ref 35, .int t], [], (zsF 0 [] 0 []), 0, 0) = _
  refine zg_nx (y := (1, [.ref 35, .int t], [.int t], (zsF 0 [] 0 []), 0, 0)) rfl ?_
  refine zg_brF (P := t < 0) (a := (zn 9 [.ref 35, .int t] [] (zsF 0 [] 0 []) 0 0)) (pc := 4) (lv := [.ref 35, .int t]) (stk := []) (st := (zsF 0 [] 0 [])) (c := 0) (s := 0) rfl h0 ?_
  refine zg_nx (y := (5, [.ref 35, .int t], [.int t], (zsF 0 [] 0 []), 0, 0)) rfl ?_
  refine zg_nx (y := (6, [.ref 35, .int t], [.int 1, .int t], (zsF 0 [] 0 []), 0, 0)) rfl ?_
  refine zg_brF (P := t ≤ 1) (a := (zn 13 [.ref 35, .int t] [] (zsF 0 [] 0 []) 0 0)) (pc := 9) (lv := [.ref 35, .int t]) (stk := []) (st := (zsF 0 [] 0 [])) (c := 0) (s := 0) rfl h1 ?_
  refine zg_nx (y := (10, [.ref 35, .int t], [.int 0], (zsF 0 [] 0 []), 0, 0)) rfl ?_
  refine zg_nx (y := (19, [.ref 35, .int t], [.int 0], (zsF 0 [] 0 []), 0, 0)) rfl ?_
  exact zg_ret rfl

/-- DesignReader.read -/
theorem zq_7 {t n : Int32} (h0 : t < 0) : zrun 20000 8 2 [.ref 0, .int t, .int n] (zsF 0 [] 0 []) = some (some (.int (-2)), (zsF 0 [] 0 [])) := by
  refine zr_of (m := zm_D_read) rfl (Nat.le_of_ble_eq_true rfl) ?_
  show zgo _ _ _ (0, [.ref 0, .int t, .int n], [], (zsF 0 [] 0 []), 0, 0) = _
  refine zg_nx (y := (1, [.ref 0, .int t, .int n], [.ref 0], (zsF 0 [] 0 []), 0, 0)) rfl ?_
  refine zg_nx (y := (2, [.ref 0, .int t, .int n], [.int t, .ref 0], (zsF 0 [] 0 []), 0, 0)) rfl ?_
  refine zg_call (n := 13) (as := [.ref 0, .int t]) (pc := 5) (lv := [.ref 0, .int t, .int n]) (stk := []) (st := (zsF 0 [] 0 [])) (c := 0) (s := 0) (v := (some (.int 0))) (st' := (zsF 0 [] 0 [])) rfl (zq_1 h0) ?_
  show zgo _ _ _ (5, [.ref 0, .int t, .int n], [.int 0], (zsF 0 [] 0 []), 0, 0) = _
  refine zg_nx (y := (21, [.ref 0, .int t, .int n], [], (zsF 0 [] 0 []), 0, 0)) rfl ?_
  refine zg_nx (y := (23, [.ref 0, .int t, .int n], [.int (-2)], (zsF 0 [] 0 []), 0, 0)) rfl ?_
  exact zg_ret rfl

/-- DesignReaderModel.read -/
theorem zq_8 {t n : Int32} (h0 : t < 0) : zrun 20000 8 23 [.ref 35, .int t, .int n] (zsF 0 [] 0 []) = some (some (.int (-2)), (zsF 0 [] 0 [])) := by
  refine zr_of (m := zm_R_read) rfl (Nat.le_of_ble_eq_true rfl) ?_
  show zgo _ _ _ (0, [.ref 35, .int t, .int n, zu], [], (zsF 0 [] 0 []), 0, 0) = _
  refine zg_nx (y := (1, [.ref 35, .int t, .int n, zu], [.int t], (zsF 0 [] 0 []), 0, 0)) rfl ?_
  refine zg_brT (P := t < 0) (b := (zn 4 [.ref 35, .int t, .int n, zu] [] (zsF 0 [] 0 []) 0 0)) (pc := 22) (lv := [.ref 35, .int t, .int n, zu]) (stk := []) (st := (zsF 0 [] 0 [])) (c := 0) (s := 0) rfl h0 ?_
  refine zg_nx (y := (24, [.ref 35, .int t, .int n, zu], [.int (-2)], (zsF 0 [] 0 []), 0, 0)) rfl ?_
  exact zg_ret rfl

/-- DesignReader.isTree -/
theorem zq_9 : zrun 20000 7 13 [.ref 0, .int 0] (zsF 0 [] 0 []) = some (some (.int 1), (zsF 0 [] 0 [])) := by
  refine zr_of (m := zm_D_isTree) rfl (Nat.le_of_ble_eq_true rfl) ?_
  show zgo _ _ _ (0, [.ref 0, .int 0], [], (zsF 0 [] 0 []), 0, 0) = _
  refine zg_nx (y := (1, [.ref 0, .int 0], [.int 0], (zsF 0 [] 0 []), 0, 0)) rfl ?_
  refine zg_nx (y := (4, [.ref 0, .int 0], [], (zsF 0 [] 0 []), 0, 0)) rfl ?_
  refine zg_nx (y := (5, [.ref 0, .int 0], [.int 0], (zsF 0 [] 0 []), 0, 0)) rfl ?_
  refine zg_nx (y := (6, [.ref 0, .int 0], [.int 2, .int 0], (zsF 0 [] 0 []), 0, 0)) rfl ?_
  refine zg_nx (y := (9, [.ref 0, .int 0], [], (zsF 0 [] 0 []), 0, 0)) rfl ?_
  refine zg_nx (y := (10, [.ref 0, .int 0], [.int 1], (zsF 0 [] 0 []), 0, 0)) rfl ?_
  refine zg_nx (y := (14, [.ref 0, .int 0], [.int 1], (zsF 0 [] 0 []), 0, 0)) rfl ?_
  exact zg_ret rfl

/-- DesignReader.read -/
theorem zq_10 {n : Int32} (h0 : n < (-1)) : zrun 20000 8 2 [.ref 0, .int 0, .int n] (zsF 0 [] 0 []) = some (some (.int (-2)), (zsF 0 [] 0 [])) := by
  refine zr_of (m := zm_D_read) rfl (Nat.le_of_ble_eq_true rfl) ?_
  show zgo _ _ _ (0, [.ref 0, .int 0, .int n], [], (zsF 0 [] 0 []), 0, 0) = _
  refine zg_nx (y := (1, [.ref 0, .int 0, .int n], [.ref 0], (zsF 0 [] 0 []), 0, 0)) rfl ?_
  refine zg_nx (y := (2, [.ref 0, .int 0, .int n], [.int 0, .ref 0], (zsF 0 [] 0 []), 0, 0)) rfl ?_
  refine zg_call (n := 13) (as := [.ref 0, .int 0]) (pc := 5) (lv := [.ref 0, .int 0, .int n]) (stk := []) (st := (zsF 0 [] 0 [])) (c := 0) (s := 0) (v := (some (.int 1))) (st' := (zsF 0 [] 0 [])) rfl (zq_9) ?_
  show zgo _ _ _ (5, [.ref 0, .int 0, .int n], [.int 1], (zsF 0 [] 0 []), 0, 0) = _
  refine zg_nx (y := (8, [.ref 0, .int 0, .int n], [], (zsF 0 [] 0 []), 0, 0)) rfl ?_
  refine zg_nx (y := (9, [.ref 0, .int 0, .int n], [.int n], (zsF 0 [] 0 []), 0, 0)) rfl ?_
  refine zg_nx (y := (10, [.ref 0, .int 0, .int n], [.int (-1), .int n], (zsF 0 [] 0 []), 0, 0)) rfl ?_
  refine zg_brT (P := n < (-1)) (b := (zn 13 [.ref 0, .int 0, .int n] [] (zsF 0 [] 0 []) 0 0)) (pc := 21) (lv := [.ref 0, .int 0, .int n]) (stk := []) (st := (zsF 0 [] 0 [])) (c := 0) (s := 0) rfl h0 ?_
  refine zg_nx (y := (23, [.ref 0, .int 0, .int n], [.int (-2)], (zsF 0 [] 0 []), 0, 0)) rfl ?_
  exact zg_ret rfl

/-- DesignReaderModel.read -/
theorem zq_11 {n : Int32} (h0 : n < (-1)) : zrun 20000 8 23 [.ref 35, .int 0, .int n] (zsF 0 [] 0 []) = some (some (.int (-2)), (zsF 0 [] 0 [])) := by
  refine zr_of (m := zm_R_read) rfl (Nat.le_of_ble_eq_true rfl) ?_
  show zgo _ _ _ (0, [.ref 35, .int 0, .int n, zu], [], (zsF 0 [] 0 []), 0, 0) = _
  refine zg_nx (y := (1, [.ref 35, .int 0, .int n, zu], [.int 0], (zsF 0 [] 0 []), 0, 0)) rfl ?_
  refine zg_nx (y := (4, [.ref 35, .int 0, .int n, zu], [], (zsF 0 [] 0 []), 0, 0)) rfl ?_
  refine zg_nx (y := (5, [.ref 35, .int 0, .int n, zu], [.int 0], (zsF 0 [] 0 []), 0, 0)) rfl ?_
  refine zg_nx (y := (6, [.ref 35, .int 0, .int n, zu], [.int 1, .int 0], (zsF 0 [] 0 []), 0, 0)) rfl ?_
  refine zg_nx (y := (9, [.ref 35, .int 0, .int n, zu], [], (zsF 0 [] 0 []), 0, 0)) rfl ?_
  refine zg_nx (y := (10, [.ref 35, .int 0, .int n, zu], [.int n], (zsF 0 [] 0 []), 0, 0)) rfl ?_
  refine zg_nx (y := (11, [.ref 35, .int 0, .int n, zu], [.int (-1), .int n], (zsF 0 [] 0 []), 0, 0)) rfl ?_
  refine zg_brT (P := n < (-1)) (b := (zn 14 [.ref 35, .int 0, .int n, zu] [] (zsF 0 [] 0 []) 0 0)) (pc := 22) (lv := [.ref 35, .int 0, .int n, zu]) (stk := []) (st := (zsF 0 [] 0 [])) (c := 0) (s := 0) rfl h0 ?_
  refine zg_nx (y := (24, [.ref 35, .int 0, .int n, zu], [.int (-2)], (zsF 0 [] 0 []), 0, 0)) rfl ?_
  exact zg_ret rfl

/-- DesignReader.read -/
theorem zq_12 {n : Int32} (h0 : ¬ (n < (-1))) (h1 : ¬ (n ≤ 0)) : zrun 20000 8 2 [.ref 0, .int 0, .int n] (zsF 0 [] 0 []) = some (some (.int (-2)), (zsF 0 [] 0 [])) := by
  refine zr_of (m := zm_D_read) rfl (Nat.le_of_ble_eq_true rfl) ?_
  show zgo _ _ _ (0, [.ref 0, .int 0, .int n], [], (zsF 0 [] 0 []), 0, 0) = _
  refine zg_nx (y := (1, [.ref 0, .int 0, .int n], [.ref 0], (zsF 0 [] 0 []), 0, 0)) rfl ?_
  refine zg_nx (y := (2, [.ref 0, .int 0, .int n], [.int 0, .ref 0], (zsF 0 [] 0 []), 0, 0)) rfl ?_
  refine zg_call (n := 13) (as := [.ref 0, .int 0]) (pc := 5) (lv := [.ref 0, .int 0, .int n]) (stk := []) (st := (zsF 0 [] 0 [])) (c := 0) (s := 0) (v := (some (.int 1))) (st' := (zsF 0 [] 0 [])) rfl (zq_9) ?_
  show zgo _ _ _ (5, [.ref 0, .int 0, .int n], [.int 1], (zsF 0 [] 0 []), 0, 0) = _
  refine zg_nx (y := (8, [.ref 0, .int 0, .int n], [], (zsF 0 [] 0 []), 0, 0)) rfl ?_
  refine zg_nx (y := (9, [.ref 0, .int 0, .int n], [.int n], (zsF 0 [] 0 []), 0, 0)) rfl ?_
  refine zg_nx (y := (10, [.ref 0, .int 0, .int n], [.int (-1), .int n], (zsF 0 [] 0 []), 0, 0)) rfl ?_
  refine zg_brF (P := n < (-1)) (a := (zn 21 [.ref 0, .int 0, .int n] [] (zsF 0 [] 0 []) 0 0)) (pc := 13) (lv := [.ref 0, .int 0, .int n]) (stk := []) (st := (zsF 0 [] 0 [])) (c := 0) (s := 0) rfl h0 ?_
  refine zg_nx (y := (14, [.ref 0, .int 0, .int n], [.int n], (zsF 0 [] 0 []), 0, 0)) rfl ?_
  refine zg_nx (y := (15, [.ref 0, .int 0, .int n], [.ref 0, .int n], (zsF 0 [] 0 []), 0, 0)) rfl ?_
  refine zg_nx (y := (18, [.ref 0, .int 0, .int n], [.int 0, .int n], (zsF 0 [] 0 []), 0, 0)) rfl ?_
  refine zg_brF (P := n ≤ 0) (a := (zn 24 [.ref 0, .int 0, .int n] [] (zsF 0 [] 0 []) 0 0)) (pc := 21) (lv := [.ref 0, .int 0, .int n]) (stk := []) (st := (zsF 0 [] 0 [])) (c := 0) (s := 0) rfl h1 ?_
  refine zg_nx (y := (23, [.ref 0, .int 0, .int n], [.int (-2)], (zsF 0 [] 0 []), 0, 0)) rfl ?_
  exact zg_ret rfl

/-- DesignReaderModel.read -/
theorem zq_13 {n : Int32} (h0 : ¬ (n < (-1))) (h1 : ¬ (n ≤ 0)) : zrun 20000 8 23 [.ref 35, .int 0, .int n] (zsF 0 [] 0 []) = some (some (.int (-2)), (zsF 0 [] 0 [])) := by
  refine zr_of (m := zm_R_read) rfl (Nat.le_of_ble_eq_true rfl) ?_
  show zgo _ _ _ (0, [.ref 35, .int 0, .int n, zu], [], (zsF 0 [] 0 []), 0, 0) = _
  refine zg_nx (y := (1, [.ref 35, .int 0, .int n, zu], [.int 0], (zsF 0 [] 0 []), 0, 0)) rfl ?_
  refine zg_nx (y := (4, [.ref 35, .int 0, .int n, zu], [], (zsF 0 [] 0 []), 0, 0)) rfl ?_
  refine zg_nx (y := (5, [.ref 35, .int 0, .int n, zu], [.int 0], (zsF 0 [] 0 []), 0, 0)) rfl ?_
  refine zg_nx (y := (6, [.ref 35, .int 0, .int n, zu], [.int 1, .int 0], (zsF 0 [] 0 []), 0, 0)) rfl ?_
  refine zg_nx (y := (9, [.ref 35, .int 0, .int n, zu], [], (zsF 0 [] 0 []), 0, 0)) rfl ?_
  refine zg_nx (y := (10, [.ref 35, .int 0, .int n, zu], [.int n], (zsF 0 [] 0 []), 0, 0)) rfl ?_
  refine zg_nx (y := (11, [.ref 35, .int 0, .int n, zu], [.int (-1), .int n], (zsF 0 [] 0 []), 0, 0)) rfl ?_
  refine zg_brF (P := n < (-1)) (a := (zn 22 [.ref 35, .int 0, .int n, zu] [] (zsF 0 [] 0 []) 0 0)) (pc := 14) (lv := [.ref 35, .int 0, .int n, zu]) (stk := []) (st := (zsF 0 [] 0 [])) (c := 0) (s := 0) rfl h0 ?_
  refine zg_nx (y := (15, [.ref 35, .int 0, .int n, zu], [.int n], (zsF 0 [] 0 []), 0, 0)) rfl ?_
  refine zg_nx (y := (16, [.ref 35, .int 0, .int n, zu], [.ref 35, .int n], (zsF 0 [] 0 []), 0, 0)) rfl ?_
  refine zg_nx (y := (19, [.ref 35, .int 0, .int n, zu], [.int 0, .int n], (zsF 0 [] 0 []), 0, 0)) rfl ?_
  refine zg_brF (P := n ≤ 0) (a := (zn 25 [.ref 35, .int 0, .int n, zu] [] (zsF 0 [] 0 []) 0 0)) (pc := 22) (lv := [.ref 35, .int 0, .int n, zu]) (stk := []) (st := (zsF 0 [] 0 [])) (c := 0) (s := 0) rfl h1 ?_
  refine zg_nx (y := (24, [.ref 35, .int 0, .int n, zu], [.int (-2)], (zsF 0 [] 0 []), 0, 0)) rfl ?_
  exact zg_ret rfl

/-- DesignReader.isTree -/
theorem zq_14 : zrun 20000 7 13 [.ref 0, .int 1] (zsF 0 [] 0 []) = some (some (.int 1), (zsF 0 [] 0 [])) := by
  refine zr_of (m := zm_D_isTree) rfl (Nat.le_of_ble_eq_true rfl) ?_
  show zgo _ _ _ (0, [.ref 0, .int 1], [], (zsF 0 [] 0 []), 0, 0) = _
  refine zg_nx (y := (1, [.ref 0, .int 1], [.int 1], (zsF 0 [] 0 []), 0, 0)) rfl ?_
  refine zg_nx (y := (4, [.ref 0, .int 1], [], (zsF 0 [] 0 []), 0, 0)) rfl ?_
  refine zg_nx (y := (5, [.ref 0, .int 1], [.int 1], (zsF 0 [] 0 []), 0, 0)) rfl ?_
  refine zg_nx (y := (6, [.ref 0, .int 1], [.int 2, .int 1], (zsF 0 [] 0 []), 0, 0)) rfl ?_
  refine zg_nx (y := (9, [.ref 0, .int 1], [], (zsF 0 [] 0 []), 0, 0)) rfl ?_
  refine zg_nx (y := (10, [.ref 0, .int 1], [.int 1], (zsF 0 [] 0 []), 0, 0)) rfl ?_
  refine zg_nx (y := (14, [.ref 0, .int 1], [.int 1], (zsF 0 [] 0 []), 0, 0)) rfl ?_
  exact zg_ret rfl

/-- DesignReader.read -/
theorem zq_15 {n : Int32} (h0 : n < (-1)) : zrun 20000 8 2 [.ref 0, .int 1, .int n] (zsF 0 [] 0 []) = some (some (.int (-2)), (zsF 0 [] 0 [])) := by
  refine zr_of (m := zm_D_read) rfl (Nat.le_of_ble_eq_true rfl) ?_
  show zgo _ _ _ (0, [.ref 0, .int 1, .int n], [], (zsF 0 [] 0 []), 0, 0) = _
  refine zg_nx (y := (1, [.ref 0, .int 1, .int n], [.ref 0], (zsF 0 [] 0 []), 0, 0)) rfl ?_
  refine zg_nx (y := (2, [.ref 0, .int 1, .int n], [.int 1, .ref 0], (zsF 0 [] 0 []), 0, 0)) rfl ?_
  refine zg_call (n := 13) (as := [.ref 0, .int 1]) (pc := 5) (lv := [.ref 0, .int 1, .int n]) (stk := []) (st := (zsF 0 [] 0 [])) (c := 0) (s := 0) (v := (some (.int 1))) (st' := (zsF 0 [] 0 [])) rfl (zq_14) ?_
  show zgo _ _ _ (5, [.ref 0, .int 1, .int n], [.int 1], (zsF 0 [] 0 []), 0, 0) = _
  refine zg_nx (y := (8, [.ref 0, .int 1, .int n], [], (zsF 0 [] 0 []), 0, 0)) rfl ?_
  refine zg_nx (y := (9, [.ref 0, .int 1, .int n], [.int n], (zsF 0 [] 0 []), 0, 0)) rfl ?_
  refine zg_nx (y := (10, [.ref 0, .int 1, .int n], [.int (-1), .int n], (zsF 0 [] 0 []), 0, 0)) rfl ?_
  refine zg_brT (P := n < (-1)) (b := (zn 13 [.ref 0, .int 1, .int n] [] (zsF 0 [] 0 []) 0 0)) (pc := 21) (lv := [.ref 0, .int 1, .int n]) (stk := []) (st := (zsF 0 [] 0 [])) (c := 0) (s := 0) rfl h0 ?_
  refine zg_nx (y := (23, [.ref 0, .int 1, .int n], [.int (-2)], (zsF 0 [] 0 []), 0, 0)) rfl ?_
  exact zg_ret rfl

/-- DesignReaderModel.read -/
theorem zq_16 {n : Int32} (h0 : n < (-1)) : zrun 20000 8 23 [.ref 35, .int 1, .int n] (zsF 0 [] 0 []) = some (some (.int (-2)), (zsF 0 [] 0 [])) := by
  refine zr_of (m := zm_R_read) rfl (Nat.le_of_ble_eq_true rfl) ?_
  show zgo _ _ _ (0, [.ref 35, .int 1, .int n, zu], [], (zsF 0 [] 0 []), 0, 0) = _
  refine zg_nx (y := (1, [.ref 35, .int 1, .int n, zu], [.int 1], (zsF 0 [] 0 []), 0, 0)) rfl ?_
  refine zg_nx (y := (4, [.ref 35, .int 1, .int n, zu], [], (zsF 0 [] 0 []), 0, 0)) rfl ?_
  refine zg_nx (y := (5, [.ref 35, .int 1, .int n, zu], [.int 1], (zsF 0 [] 0 []), 0, 0)) rfl ?_
  refine zg_nx (y := (6, [.ref 35, .int 1, .int n, zu], [.int 1, .int 1], (zsF 0 [] 0 []), 0, 0)) rfl ?_
  refine zg_nx (y := (9, [.ref 35, .int 1, .int n, zu], [], (zsF 0 [] 0 []), 0, 0)) rfl ?_
  refine zg_nx (y := (10, [.ref 35, .int 1, .int n, zu], [.int n], (zsF 0 [] 0 []), 0, 0)) rfl ?_
  refine zg_nx (y := (11, [.ref 35, .int 1, .int n, zu], [.int (-1), .int n], (zsF 0 [] 0 []), 0, 0)) rfl ?_
  refine zg_brT (P := n < (-1)) (b := (zn 14 [.ref 35, .int 1, .int n, zu] [] (zsF 0 [] 0 []) 0 0)) (pc := 22) (lv := [.ref 35, .int 1, .int n, zu]) (stk := []) (st := (zsF 0 [] 0 [])) (c := 0) (s := 0) rfl h0 ?_
  refine zg_nx (y := (24, [.ref 35, .int 1, .int n, zu], [.int (-2)], (zsF 0 [] 0 []), 0, 0)) rfl ?_
  exact zg_ret rfl

/-- DesignReader.read -/
theorem zq_17 {n : Int32} (h0 : ¬ (n < (-1))) (h1 : ¬ (n ≤ 0)) : zrun 20000 8 2 [.ref 0, .int 1, .int n] (zsF 0 [] 0 []) = some (some (.int (-2)), (zsF 0 [] 0 [])) := by
  refine zr_of (m := zm_D_read) rfl (Nat.le_of_ble_eq_true rfl) ?_
  show zgo _ _ _ (0, [.ref 0, .int 1, .int n], [], (zsF 0 [] 0 []), 0, 0) = _
  refine zg_nx (y := (1, [.ref 0, .int 1, .int n], [.ref 0], (zsF 0 [] 0 []), 0, 0)) rfl ?_
  refine zg_nx (y := (2, [.ref 0, .int 1, .int n], [.int 1, .ref 0], (zsF 0 [] 0 []), 0, 0)) rfl ?_
  refine zg_call (n := 13) (as := [.ref 0, .int 1]) (pc := 5) (lv := [.ref 0, .int 1, .int n]) (stk := []) (st := (zsF 0 [] 0 [])) (c := 0) (s := 0) (v := (some (.int 1))) (st' := (zsF 0 [] 0 [])) rfl (zq_14) ?_
  show zgo _ _ _ (5, [.ref 0, .int 1, .int n], [.int 1], (zsF 0 [] 0 []), 0, 0) = _
  refine zg_nx (y := (8, [.ref 0, .int 1, .int n], [], (zsF 0 [] 0 []), 0, 0)) rfl ?_
  refine zg_nx (y := (9, [.ref 0, .int 1, .int n], [.int n], (zsF 0 [] 0 []), 0, 0)) rfl ?_
  refine zg_nx (y := (10, [.ref 0, .int 1, .int n], [.int (-1), .int n], (zsF 0 [] 0 []), 0, 0)) rfl ?_
  refine zg_brF (P := n < (-1)) (a := (zn 21 [.ref 0, .int 1, .int n] [] (zsF 0 [] 0 []) 0 0)) (pc := 13) (lv := [.ref 0, .int 1, .int n]) (stk := []) (st := (zsF 0 [] 0 [])) (c := 0) (s := 0) rfl h0 ?_
  refine zg_nx (y := (14, [.ref 0, .int 1, .int n], [.int n], (zsF 0 [] 0 []), 0, 0)) rfl ?_
  refine zg_nx (y := (15, [.ref 0, .int 1, .int n], [.ref 0, .int n], (zsF 0 [] 0 []), 0, 0)) rfl ?_
  refine zg_nx (y := (18, [.ref 0, .int 1, .int n], [.int 0, .int n], (zsF 0 [] 0 []), 0, 0)) rfl ?_
  refine zg_brF (P := n ≤ 0) (a := (zn 24 [.ref 0, .int 1, .int n] [] (zsF 0 [] 0 []) 0 0)) (pc := 21) (lv := [.ref 0, .int 1, .int n]) (stk := []) (st := (zsF 0 [] 0 [])) (c := 0) (s := 0) rfl h1 ?_
  refine zg_nx (y := (23, [.ref 0, .int 1, .int n], [.int (-2)], (zsF 0 [] 0 []), 0, 0)) rfl ?_
  exact zg_ret rfl

/-- DesignReaderModel.read -/
theorem zq_18 {n : Int32} (h0 : ¬ (n < (-1))) (h1 : ¬ (n ≤ 0)) : zrun 20000 8 23 [.ref 35, .int 1, .int n] (zsF 0 [] 0 []) = some (some (.int (-2)), (zsF 0 [] 0 [])) := by
  refine zr_of (m := zm_R_read) rfl (Nat.le_of_ble_eq_true rfl) ?_
  show zgo _ _ _ (0, [.ref 35, .int 1, .int n, zu], [], (zsF 0 [] 0 []), 0, 0) = _
  refine zg_nx (y := (1, [.ref 35, .int 1, .int n, zu], [.int 1], (zsF 0 [] 0 []), 0, 0)) rfl ?_
  refine zg_nx (y := (4, [.ref 35, .int 1, .int n, zu], [], (zsF 0 [] 0 []), 0, 0)) rfl ?_
  refine zg_nx (y := (5, [.ref 35, .int 1, .int n, zu], [.int 1], (zsF 0 [] 0 []), 0, 0)) rfl ?_
  refine zg_nx (y := (6, [.ref 35, .int 1, .int n, zu], [.int 1, .int 1], (zsF 0 [] 0 []), 0, 0)) rfl ?_
  refine zg_nx (y := (9, [.ref 35, .int 1, .int n, zu], [], (zsF 0 [] 0 []), 0, 0)) rfl ?_
  refine zg_nx (y := (10, [.ref 35, .int 1, .int n, zu], [.int n], (zsF 0 [] 0 []), 0, 0)) rfl ?_
  refine zg_nx (y := (11, [.ref 35, .int 1, .int n, zu], [.int (-1), .int n], (zsF 0 [] 0 []), 0, 0)) rfl ?_
  refine zg_brF (P := n < (-1)) (a := (zn 22 [.ref 35, .int 1, .int n, zu] [] (zsF 0 [] 0 []) 0 0)) (pc := 14) (lv := [.ref 35, .int 1, .int n, zu]) (stk := []) (st := (zsF 0 [] 0 [])) (c := 0) (s := 0) rfl h0 ?_
  refine zg_nx (y := (15, [.ref 35, .int 1, .int n, zu], [.int n], (zsF 0 [] 0 []), 0, 0)) rfl ?_
  refine zg_nx (y := (16, [.ref 35, .int 1, .int n, zu], [.ref 35, .int n], (zsF 0 [] 0 []), 0, 0)) rfl ?_
  refine zg_nx (y := (19, [.ref 35, .int 1, .int n, zu], [.int 0, .int n], (zsF 0 [] 0 []), 0, 0)) rfl ?_
  refine zg_brF (P := n ≤ 0) (a := (zn 25 [.ref 35, .int 1, .int n, zu] [] (zsF 0 [] 0 []) 0 0)) (pc := 22) (lv := [.ref 35, .int 1, .int n, zu]) (stk := []) (st := (zsF 0 [] 0 [])) (c := 0) (s := 0) rfl h1 ?_
  refine zg_nx (y := (24, [.ref 35, .int 1, .int n, zu], [.int (-2)], (zsF 0 [] 0 []), 0, 0)) rfl ?_
  exact zg_ret rfl

/-- DesignReader.read -/
theorem zq_19 {t n : Int32} (h0 : ¬ (t < 0)) (h1 : 2 ≤ t) : zrun 20000 8 2 [.ref 0, .int t, .int n] (zsF 0 [] 0 []) = some (some (.int (-2)), (zsF 0 [] 0 [])) := by
  refine zr_of (m := zm_D_read) rfl (Nat.le_of_ble_eq_true rfl) ?_
  show zgo _ _ _ (0, [.ref 0, .int t, .int n], [], (zsF 0 [] 0 []), 0, 0) = _
  refine zg_nx (y := (1, [.ref 0, .int t, .int n], [.ref 0], (zsF 0 [] 0 []), 0, 0)) rfl ?_
  refine zg_nx (y := (2, [.ref 0, .int t, .int n], [.int t, .ref 0], (zsF 0 [] 0 []), 0, 0)) rfl ?_
  refine zg_call (n := 13) (as := [.ref 0, .int t]) (pc := 5) (lv := [.ref 0, .int t, .int n]) (stk := []) (st := (zsF 0 [] 0 [])) (c := 0) (s := 0) (v := (some (.int 0))) (st' := (zsF 0 [] 0 [])) rfl (zq_4 h0 h1) ?_
  show zgo _ _ _ (5, [.ref 0, .int t, .int n], [.int 0], (zsF 0 [] 0 []), 0, 0) = _
  refine zg_nx (y := (21, [.ref 0, .int t, .int n], [], (zsF 0 [] 0 []), 0, 0)) rfl ?_
  refine zg_nx (y := (23, [.ref 0, .int t, .int n], [.int (-2)], (zsF 0 [] 0 []), 0, 0)) rfl ?_
  exact zg_ret rfl

/-- DesignReaderModel.read -/
theorem zq_20 {t n : Int32} (h0 : ¬ (t < 0)) (h1 : 1 < t) : zrun 20000 8 23 [.ref 35, .int t, .int n] (zsF 0 [] 0 []) = some (some (.int (-2)), (zsF 0 [] 0 [])) := by
  refine zr_of (m := zm_R_read) rfl (Nat.le_of_ble_eq_true rfl) ?_
  show zgo _ _ _ (0, [.ref 35, .int t, .int n, zu], [], (zsF 0 [] 0 []), 0, 0) = _
  refine zg_nx (y := (1, [.ref 35, .int t, .int n, zu], [.int t], (zsF 0 [] 0 []), 0, 0)) rfl ?_
  refine zg_brF (P := t < 0) (a := (zn 22 [.ref 35, .int t, .int n, zu] [] (zsF 0 [] 0 []) 0 0)) (pc := 4) (lv := [.ref 35, .int t, .int n, zu]) (stk := []) (st := (zsF 0 [] 0 [])) (c := 0) (s := 0) rfl h0 ?_
  refine zg_nx (y := (5, [.ref 35, .int t, .int n, zu], [.int t], (zsF 0 [] 0 []), 0, 0)) rfl ?_
  refine zg_nx (y := (6, [.ref 35, .int t, .int n, zu], [.int 1, .int t], (zsF 0 [] 0 []), 0, 0)) rfl ?_
  refine zg_brT (P := 1 < t) (b := (zn 9 [.ref 35, .int t, .int n, zu] [] (zsF 0 [] 0 []) 0 0)) (pc := 22) (lv := [.ref 35, .int t, .int n, zu]) (stk := []) (st := (zsF 0 [] 0 [])) (c := 0) (s := 0) rfl h1 ?_
  refine zg_nx (y := (24, [.ref 35, .int t, .int n, zu], [.int (-2)], (zsF 0 [] 0 []), 0, 0)) rfl ?_
  exact zg_ret rfl

/-- DesignReader.isTree -/
theorem zq_21 {t : Int32} (h0 : t < 0) : zrun 20000 6 13 [.ref 0, .int t] (zsF 0 [] 0 []) = some (some (.int 0), (zsF 0 [] 0 [])) := by
  refine zr_of (m := zm_D_isTree) rfl (Nat.le_of_ble_eq_true rfl) ?_
  show zgo _ _ _ (0, [.ref 0, .int t], [], (zsF 0 [] 0 []), 0, 0) = _
  refine zg_nx (y := (1, [.ref 0, .int t], [.int t], (zsF 0 [] 0 []), 0, 0)) rfl ?_
  refine zg_brT (P := t < 0) (b := (zn 4 [.ref 0, .int t] [] (zsF 0 [] 0 []) 0 0)) (pc := 13) (lv := [.ref 0, .int t]) (stk := []) (st := (zsF 0 [] 0 [])) (c := 0) (s := 0) rfl h0 ?_
  refine zg_nx (y := (14, [.ref 0, .int t], [.int 0], (zsF 0 [] 0 []), 0, 0)) rfl ?_
  exact zg_ret rfl

/-- DesignReader.isNode -/
theorem zq_22 {t k : Int32} (h0 : t < 0) : zrun 20000 7 14 [.ref 0, .int t, .int k] (zsF 0 [] 0 []) = some (some (.int 0), (zsF 0 [] 0 [])) := by
  refine zr_of (m := zm_D_isNode) rfl (Nat.le_of_ble_eq_true rfl) ?_
  show zgo _ _ _ (0, [.ref 0, .int t, .int k], [], (zsF 0 [] 0 []), 0, 0) = _
  refine zg_nx (y := (1, [.ref 0, .int t, .int k], [.ref 0], (zsF 0 [] 0 []), 0, 0)) rfl ?_
  refine zg_nx (y := (2, [.ref 0, .int t, .int k], [.int t, .ref 0], (zsF 0 [] 0 []), 0, 0)) rfl ?_
  refine zg_call (n := 13) (as := [.ref 0, .int t]) (pc := 5) (lv := [.ref 0, .int t, .int k]) (stk := []) (st := (zsF 0 [] 0 [])) (c := 0) (s := 0) (v := (some (.int 0))) (st' := (zsF 0 [] 0 [])) rfl (zq_21 h0) ?_
  show zgo _ _ _ (5, [.ref 0, .int t, .int k], [.int 0], (zsF 0 [] 0 []), 0, 0) = _
  refine zg_nx (y := (29, [.ref 0, .int t, .int k], [], (zsF 0 [] 0 []), 0, 0)) rfl ?_
  refine zg_nx (y := (30, [.ref 0, .int t, .int k], [.int 0], (zsF 0 [] 0 []), 0, 0)) rfl ?_
  exact zg_ret rfl

/-- DesignReader.whole -/
theorem zq_23 {t k : Int32} (h0 : t < 0) : zrun 20000 8 6 [.ref 0, .int t, .int k] (zsF 0 [] 0 []) = some (some (.int (-1)), (zsF 0 [] 0 [])) := by
  refine zr_of (m := zm_D_whole) rfl (Nat.le_of_ble_eq_true rfl) ?_
  show zgo _ _ _ (0, [.ref 0, .int t, .int k], [], (zsF 0 [] 0 []), 0, 0) = _
  refine zg_nx (y := (1, [.ref 0, .int t, .int k], [.ref 0], (zsF 0 [] 0 []), 0, 0)) rfl ?_
  refine zg_nx (y := (2, [.ref 0, .int t, .int k], [.int t, .ref 0], (zsF 0 [] 0 []), 0, 0)) rfl ?_
  refine zg_nx (y := (3, [.ref 0, .int t, .int k], [.int k, .int t, .ref 0], (zsF 0 [] 0 []), 0, 0)) rfl ?_
  refine zg_call (n := 14) (as := [.ref 0, .int t, .int k]) (pc := 6) (lv := [.ref 0, .int t, .int k]) (stk := []) (st := (zsF 0 [] 0 [])) (c := 0) (s := 0) (v := (some (.int 0))) (st' := (zsF 0 [] 0 [])) rfl (zq_22 h0) ?_
  show zgo _ _ _ (6, [.ref 0, .int t, .int k], [.int 0], (zsF 0 [] 0 []), 0, 0) = _
  refine zg_nx (y := (23, [.ref 0, .int t, .int k], [], (zsF 0 [] 0 []), 0, 0)) rfl ?_
  refine zg_nx (y := (24, [.ref 0, .int t, .int k], [.int (-1)], (zsF 0 [] 0 []), 0, 0)) rfl ?_
  exact zg_ret rfl

/-- DesignReaderModel.has -/
theorem zq_24 {t k : Int32} (h0 : t < 0) : zrun 20000 7 24 [.ref 35, .int t, .int k] (zsF 0 [] 0 []) = some (some (.int 0), (zsF 0 [] 0 [])) := by
  refine zr_of (m := zm_R_has) rfl (Nat.le_of_ble_eq_true rfl) ?_
  show zgo _ _ _ (0, [.ref 35, .int t, .int k], [], (zsF 0 [] 0 []), 0, 0) = _
  refine zg_nx (y := (1, [.ref 35, .int t, .int k], [.int t], (zsF 0 [] 0 []), 0, 0)) rfl ?_
  refine zg_brT (P := t < 0) (b := (zn 4 [.ref 35, .int t, .int k] [] (zsF 0 [] 0 []) 0 0)) (pc := 27) (lv := [.ref 35, .int t, .int k]) (stk := []) (st := (zsF 0 [] 0 [])) (c := 0) (s := 0) rfl h0 ?_
  refine zg_nx (y := (28, [.ref 35, .int t, .int k], [.int 0], (zsF 0 [] 0 []), 0, 0)) rfl ?_
  exact zg_ret rfl

/-- DesignReaderModel.whole -/
theorem zq_25 {t k : Int32} (h0 : t < 0) : zrun 20000 8 29 [.ref 35, .int t, .int k] (zsF 0 [] 0 []) = some (some (.int (-1)), (zsF 0 [] 0 [])) := by
  refine zr_of (m := zm_R_whole) rfl (Nat.le_of_ble_eq_true rfl) ?_
  show zgo _ _ _ (0, [.ref 35, .int t, .int k], [], (zsF 0 [] 0 []), 0, 0) = _
  refine zg_nx (y := (1, [.ref 35, .int t, .int k], [.ref 35], (zsF 0 [] 0 []), 0, 0)) rfl ?_
  refine zg_nx (y := (2, [.ref 35, .int t, .int k], [.int t, .ref 35], (zsF 0 [] 0 []), 0, 0)) rfl ?_
  refine zg_nx (y := (3, [.ref 35, .int t, .int k], [.int k, .int t, .ref 35], (zsF 0 [] 0 []), 0, 0)) rfl ?_
  refine zg_call (n := 24) (as := [.ref 35, .int t, .int k]) (pc := 6) (lv := [.ref 35, .int t, .int k]) (stk := []) (st := (zsF 0 [] 0 [])) (c := 0) (s := 0) (v := (some (.int 0))) (st' := (zsF 0 [] 0 [])) rfl (zq_24 h0) ?_
  show zgo _ _ _ (6, [.ref 35, .int t, .int k], [.int 0], (zsF 0 [] 0 []), 0, 0) = _
  refine zg_nx (y := (24, [.ref 35, .int t, .int k], [], (zsF 0 [] 0 []), 0, 0)) rfl ?_
  refine zg_nx (y := (25, [.ref 35, .int t, .int k], [.int (-1)], (zsF 0 [] 0 []), 0, 0)) rfl ?_
  exact zg_ret rfl

/-- DesignReader.isTree -/
theorem zq_26 : zrun 20000 6 13 [.ref 0, .int 0] (zsF 0 [] 0 []) = some (some (.int 1), (zsF 0 [] 0 [])) := by
  refine zr_of (m := zm_D_isTree) rfl (Nat.le_of_ble_eq_true rfl) ?_
  show zgo _ _ _ (0, [.ref 0, .int 0], [], (zsF 0 [] 0 []), 0, 0) = _
  refine zg_nx (y := (1, [.ref 0, .int 0], [.int 0], (zsF 0 [] 0 []), 0, 0)) rfl ?_
  refine zg_nx (y := (4, [.ref 0, .int 0], [], (zsF 0 [] 0 []), 0, 0)) rfl ?_
  refine zg_nx (y := (5, [.ref 0, .int 0], [.int 0], (zsF 0 [] 0 []), 0, 0)) rfl ?_
  refine zg_nx (y := (6, [.ref 0, .int 0], [.int 2, .int 0], (zsF 0 [] 0 []), 0, 0)) rfl ?_
  refine zg_nx (y := (9, [.ref 0, .int 0], [], (zsF 0 [] 0 []), 0, 0)) rfl ?_
  refine zg_nx (y := (10, [.ref 0, .int 0], [.int 1], (zsF 0 [] 0 []), 0, 0)) rfl ?_
  refine zg_nx (y := (14, [.ref 0, .int 0], [.int 1], (zsF 0 [] 0 []), 0, 0)) rfl ?_
  exact zg_ret rfl

/-- DesignReader.isNode -/
theorem zq_27 {k : Int32} (h0 : k < 0) : zrun 20000 7 14 [.ref 0, .int 0, .int k] (zsF 0 [] 0 []) = some (some (.int 0), (zsF 0 [] 0 [])) := by
  refine zr_of (m := zm_D_isNode) rfl (Nat.le_of_ble_eq_true rfl) ?_
  show zgo _ _ _ (0, [.ref 0, .int 0, .int k], [], (zsF 0 [] 0 []), 0, 0) = _
  refine zg_nx (y := (1, [.ref 0, .int 0, .int k], [.ref 0], (zsF 0 [] 0 []), 0, 0)) rfl ?_
  refine zg_nx (y := (2, [.ref 0, .int 0, .int k], [.int 0, .ref 0], (zsF 0 [] 0 []), 0, 0)) rfl ?_
  refine zg_call (n := 13) (as := [.ref 0, .int 0]) (pc := 5) (lv := [.ref 0, .int 0, .int k]) (stk := []) (st := (zsF 0 [] 0 [])) (c := 0) (s := 0) (v := (some (.int 1))) (st' := (zsF 0 [] 0 [])) rfl (zq_26) ?_
  show zgo _ _ _ (5, [.ref 0, .int 0, .int k], [.int 1], (zsF 0 [] 0 []), 0, 0) = _
  refine zg_nx (y := (8, [.ref 0, .int 0, .int k], [], (zsF 0 [] 0 []), 0, 0)) rfl ?_
  refine zg_nx (y := (9, [.ref 0, .int 0, .int k], [.int k], (zsF 0 [] 0 []), 0, 0)) rfl ?_
  refine zg_brT (P := k < 0) (b := (zn 12 [.ref 0, .int 0, .int k] [] (zsF 0 [] 0 []) 0 0)) (pc := 29) (lv := [.ref 0, .int 0, .int k]) (stk := []) (st := (zsF 0 [] 0 [])) (c := 0) (s := 0) rfl h0 ?_
  refine zg_nx (y := (30, [.ref 0, .int 0, .int k], [.int 0], (zsF 0 [] 0 []), 0, 0)) rfl ?_
  exact zg_ret rfl

/-- DesignReader.whole -/
theorem zq_28 {k : Int32} (h0 : k < 0) : zrun 20000 8 6 [.ref 0, .int 0, .int k] (zsF 0 [] 0 []) = some (some (.int (-1)), (zsF 0 [] 0 [])) := by
  refine zr_of (m := zm_D_whole) rfl (Nat.le_of_ble_eq_true rfl) ?_
  show zgo _ _ _ (0, [.ref 0, .int 0, .int k], [], (zsF 0 [] 0 []), 0, 0) = _
  refine zg_nx (y := (1, [.ref 0, .int 0, .int k], [.ref 0], (zsF 0 [] 0 []), 0, 0)) rfl ?_
  refine zg_nx (y := (2, [.ref 0, .int 0, .int k], [.int 0, .ref 0], (zsF 0 [] 0 []), 0, 0)) rfl ?_
  refine zg_nx (y := (3, [.ref 0, .int 0, .int k], [.int k, .int 0, .ref 0], (zsF 0 [] 0 []), 0, 0)) rfl ?_
  refine zg_call (n := 14) (as := [.ref 0, .int 0, .int k]) (pc := 6) (lv := [.ref 0, .int 0, .int k]) (stk := []) (st := (zsF 0 [] 0 [])) (c := 0) (s := 0) (v := (some (.int 0))) (st' := (zsF 0 [] 0 [])) rfl (zq_27 h0) ?_
  show zgo _ _ _ (6, [.ref 0, .int 0, .int k], [.int 0], (zsF 0 [] 0 []), 0, 0) = _
  refine zg_nx (y := (23, [.ref 0, .int 0, .int k], [], (zsF 0 [] 0 []), 0, 0)) rfl ?_
  refine zg_nx (y := (24, [.ref 0, .int 0, .int k], [.int (-1)], (zsF 0 [] 0 []), 0, 0)) rfl ?_
  exact zg_ret rfl

/-- DesignReaderModel.has -/
theorem zq_29 {k : Int32} (h0 : k < 0) : zrun 20000 7 24 [.ref 35, .int 0, .int k] (zsF 0 [] 0 []) = some (some (.int 0), (zsF 0 [] 0 [])) := by
  refine zr_of (m := zm_R_has) rfl (Nat.le_of_ble_eq_true rfl) ?_
  show zgo _ _ _ (0, [.ref 35, .int 0, .int k], [], (zsF 0 [] 0 []), 0, 0) = _
  refine zg_nx (y := (1, [.ref 35, .int 0, .int k], [.int 0], (zsF 0 [] 0 []), 0, 0)) rfl ?_
  refine zg_nx (y := (4, [.ref 35, .int 0, .int k], [], (zsF 0 [] 0 []), 0, 0)) rfl ?_
  refine zg_nx (y := (5, [.ref 35, .int 0, .int k], [.int 0], (zsF 0 [] 0 []), 0, 0)) rfl ?_
  refine zg_nx (y := (6, [.ref 35, .int 0, .int k], [.int 2, .int 0], (zsF 0 [] 0 []), 0, 0)) rfl ?_
  refine zg_nx (y := (9, [.ref 35, .int 0, .int k], [], (zsF 0 [] 0 []), 0, 0)) rfl ?_
  refine zg_nx (y := (10, [.ref 35, .int 0, .int k], [.int k], (zsF 0 [] 0 []), 0, 0)) rfl ?_
  refine zg_brT (P := k < 0) (b := (zn 13 [.ref 35, .int 0, .int k] [] (zsF 0 [] 0 []) 0 0)) (pc := 27) (lv := [.ref 35, .int 0, .int k]) (stk := []) (st := (zsF 0 [] 0 [])) (c := 0) (s := 0) rfl h0 ?_
  refine zg_nx (y := (28, [.ref 35, .int 0, .int k], [.int 0], (zsF 0 [] 0 []), 0, 0)) rfl ?_
  exact zg_ret rfl

/-- DesignReaderModel.whole -/
theorem zq_30 {k : Int32} (h0 : k < 0) : zrun 20000 8 29 [.ref 35, .int 0, .int k] (zsF 0 [] 0 []) = some (some (.int (-1)), (zsF 0 [] 0 [])) := by
  refine zr_of (m := zm_R_whole) rfl (Nat.le_of_ble_eq_true rfl) ?_
  show zgo _ _ _ (0, [.ref 35, .int 0, .int k], [], (zsF 0 [] 0 []), 0, 0) = _
  refine zg_nx (y := (1, [.ref 35, .int 0, .int k], [.ref 35], (zsF 0 [] 0 []), 0, 0)) rfl ?_
  refine zg_nx (y := (2, [.ref 35, .int 0, .int k], [.int 0, .ref 35], (zsF 0 [] 0 []), 0, 0)) rfl ?_
  refine zg_nx (y := (3, [.ref 35, .int 0, .int k], [.int k, .int 0, .ref 35], (zsF 0 [] 0 []), 0, 0)) rfl ?_
  refine zg_call (n := 24) (as := [.ref 35, .int 0, .int k]) (pc := 6) (lv := [.ref 35, .int 0, .int k]) (stk := []) (st := (zsF 0 [] 0 [])) (c := 0) (s := 0) (v := (some (.int 0))) (st' := (zsF 0 [] 0 [])) rfl (zq_29 h0) ?_
  show zgo _ _ _ (6, [.ref 35, .int 0, .int k], [.int 0], (zsF 0 [] 0 []), 0, 0) = _
  refine zg_nx (y := (24, [.ref 35, .int 0, .int k], [], (zsF 0 [] 0 []), 0, 0)) rfl ?_
  refine zg_nx (y := (25, [.ref 35, .int 0, .int k], [.int (-1)], (zsF 0 [] 0 []), 0, 0)) rfl ?_
  exact zg_ret rfl

/-- DesignReader.isNode -/
theorem zq_31 {k : Int32} (h0 : ¬ (k < 0)) (h1 : 1 ≤ k) : zrun 20000 7 14 [.ref 0, .int 0, .int k] (zsF 0 [] 0 []) = some (some (.int 0), (zsF 0 [] 0 [])) := by
  refine zr_of (m := zm_D_isNode) rfl (Nat.le_of_ble_eq_true rfl) ?_
  show zgo _ _ _ (0, [.ref 0, .int 0, .int k], [], (zsF 0 [] 0 []), 0, 0) = _
  refine zg_nx (y := (1, [.ref 0, .int 0, .int k], [.ref 0], (zsF 0 [] 0 []), 0, 0)) rfl ?_
  refine zg_nx (y := (2, [.ref 0, .int 0, .int k], [.int 0, .ref 0], (zsF 0 [] 0 []), 0, 0)) rfl ?_
  refine zg_call (n := 13) (as := [.ref 0, .int 0]) (pc := 5) (lv := [.ref 0, .int 0, .int k]) (stk := []) (st := (zsF 0 [] 0 [])) (c := 0) (s := 0) (v := (some (.int 1))) (st' := (zsF 0 [] 0 [])) rfl (zq_26) ?_
  show zgo _ _ _ (5, [.ref 0, .int 0, .int k], [.int 1], (zsF 0 [] 0 []), 0, 0) = _
  refine zg_nx (y := (8, [.ref 0, .int 0, .int k], [], (zsF 0 [] 0 []), 0, 0)) rfl ?_
  refine zg_nx (y := (9, [.ref 0, .int 0, .int k], [.int k], (zsF 0 [] 0 []), 0, 0)) rfl ?_
  refine zg_brF (P := k < 0) (a := (zn 29 [.ref 0, .int 0, .int k] [] (zsF 0 [] 0 []) 0 0)) (pc := 12) (lv := [.ref 0, .int 0, .int k]) (stk := []) (st := (zsF 0 [] 0 [])) (c := 0) (s := 0) rfl h0 ?_
  refine zg_nx (y := (13, [.ref 0, .int 0, .int k], [.int k], (zsF 0 [] 0 []), 0, 0)) rfl ?_
  refine zg_nx (y := (14, [.ref 0, .int 0, .int k], [.ref 0, .int k], (zsF 0 [] 0 []), 0, 0)) rfl ?_
  refine zg_nx (y := (17, [.ref 0, .int 0, .int k], [.ref 1, .int k], (zsF 0 [] 0 []), 0, 0)) rfl ?_
  refine zg_nx (y := (18, [.ref 0, .int 0, .int k], [.int 0, .ref 1, .int k], (zsF 0 [] 0 []), 0, 0)) rfl ?_
  refine zg_nx (y := (19, [.ref 0, .int 0, .int k], [.ref 2, .int k], (zsF 0 [] 0 []), 0, 0)) rfl ?_
  refine zg_nx (y := (22, [.ref 0, .int 0, .int k], [.int 1, .int k], (zsF 0 [] 0 []), 0, 0)) rfl ?_
  refine zg_brT (P := 1 ≤ k) (b := (zn 25 [.ref 0, .int 0, .int k] [] (zsF 0 [] 0 []) 0 0)) (pc := 29) (lv := [.ref 0, .int 0, .int k]) (stk := []) (st := (zsF 0 [] 0 [])) (c := 0) (s := 0) rfl h1 ?_
  refine zg_nx (y := (30, [.ref 0, .int 0, .int k], [.int 0], (zsF 0 [] 0 []), 0, 0)) rfl ?_
  exact zg_ret rfl

/-- DesignReader.whole -/
theorem zq_32 {k : Int32} (h0 : ¬ (k < 0)) (h1 : 1 ≤ k) : zrun 20000 8 6 [.ref 0, .int 0, .int k] (zsF 0 [] 0 []) = some (some (.int (-1)), (zsF 0 [] 0 [])) := by
  refine zr_of (m := zm_D_whole) rfl (Nat.le_of_ble_eq_true rfl) ?_
  show zgo _ _ _ (0, [.ref 0, .int 0, .int k], [], (zsF 0 [] 0 []), 0, 0) = _
  refine zg_nx (y := (1, [.ref 0, .int 0, .int k], [.ref 0], (zsF 0 [] 0 []), 0, 0)) rfl ?_
  refine zg_nx (y := (2, [.ref 0, .int 0, .int k], [.int 0, .ref 0], (zsF 0 [] 0 []), 0, 0)) rfl ?_
  refine zg_nx (y := (3, [.ref 0, .int 0, .int k], [.int k, .int 0, .ref 0], (zsF 0 [] 0 []), 0, 0)) rfl ?_
  refine zg_call (n := 14) (as := [.ref 0, .int 0, .int k]) (pc := 6) (lv := [.ref 0, .int 0, .int k]) (stk := []) (st := (zsF 0 [] 0 [])) (c := 0) (s := 0) (v := (some (.int 0))) (st' := (zsF 0 [] 0 [])) rfl (zq_31 h0 h1) ?_
  show zgo _ _ _ (6, [.ref 0, .int 0, .int k], [.int 0], (zsF 0 [] 0 []), 0, 0) = _
  refine zg_nx (y := (23, [.ref 0, .int 0, .int k], [], (zsF 0 [] 0 []), 0, 0)) rfl ?_
  refine zg_nx (y := (24, [.ref 0, .int 0, .int k], [.int (-1)], (zsF 0 [] 0 []), 0, 0)) rfl ?_
  exact zg_ret rfl

/-- DesignReaderModel.has -/
theorem zq_33 {k : Int32} (h0 : ¬ (k < 0)) (h1 : 1 ≤ k) : zrun 20000 7 24 [.ref 35, .int 0, .int k] (zsF 0 [] 0 []) = some (some (.int 0), (zsF 0 [] 0 [])) := by
  refine zr_of (m := zm_R_has) rfl (Nat.le_of_ble_eq_true rfl) ?_
  show zgo _ _ _ (0, [.ref 35, .int 0, .int k], [], (zsF 0 [] 0 []), 0, 0) = _
  refine zg_nx (y := (1, [.ref 35, .int 0, .int k], [.int 0], (zsF 0 [] 0 []), 0, 0)) rfl ?_
  refine zg_nx (y := (4, [.ref 35, .int 0, .int k], [], (zsF 0 [] 0 []), 0, 0)) rfl ?_
  refine zg_nx (y := (5, [.ref 35, .int 0, .int k], [.int 0], (zsF 0 [] 0 []), 0, 0)) rfl ?_
  refine zg_nx (y := (6, [.ref 35, .int 0, .int k], [.int 2, .int 0], (zsF 0 [] 0 []), 0, 0)) rfl ?_
  refine zg_nx (y := (9, [.ref 35, .int 0, .int k], [], (zsF 0 [] 0 []), 0, 0)) rfl ?_
  refine zg_nx (y := (10, [.ref 35, .int 0, .int k], [.int k], (zsF 0 [] 0 []), 0, 0)) rfl ?_
  refine zg_brF (P := k < 0) (a := (zn 27 [.ref 35, .int 0, .int k] [] (zsF 0 [] 0 []) 0 0)) (pc := 13) (lv := [.ref 35, .int 0, .int k]) (stk := []) (st := (zsF 0 [] 0 [])) (c := 0) (s := 0) rfl h0 ?_
  refine zg_nx (y := (14, [.ref 35, .int 0, .int k], [.int k], (zsF 0 [] 0 []), 0, 0)) rfl ?_
  refine zg_nx (y := (15, [.ref 35, .int 0, .int k], [.ref 35, .int k], (zsF 0 [] 0 []), 0, 0)) rfl ?_
  refine zg_nx (y := (18, [.ref 35, .int 0, .int k], [.ref 54, .int k], (zsF 0 [] 0 []), 0, 0)) rfl ?_
  refine zg_nx (y := (19, [.ref 35, .int 0, .int k], [.int 0, .ref 54, .int k], (zsF 0 [] 0 []), 0, 0)) rfl ?_
  refine zg_nx (y := (20, [.ref 35, .int 0, .int k], [.int 1, .int k], (zsF 0 [] 0 []), 0, 0)) rfl ?_
  refine zg_brT (P := 1 ≤ k) (b := (zn 23 [.ref 35, .int 0, .int k] [] (zsF 0 [] 0 []) 0 0)) (pc := 27) (lv := [.ref 35, .int 0, .int k]) (stk := []) (st := (zsF 0 [] 0 [])) (c := 0) (s := 0) rfl h1 ?_
  refine zg_nx (y := (28, [.ref 35, .int 0, .int k], [.int 0], (zsF 0 [] 0 []), 0, 0)) rfl ?_
  exact zg_ret rfl

/-- DesignReaderModel.whole -/
theorem zq_34 {k : Int32} (h0 : ¬ (k < 0)) (h1 : 1 ≤ k) : zrun 20000 8 29 [.ref 35, .int 0, .int k] (zsF 0 [] 0 []) = some (some (.int (-1)), (zsF 0 [] 0 [])) := by
  refine zr_of (m := zm_R_whole) rfl (Nat.le_of_ble_eq_true rfl) ?_
  show zgo _ _ _ (0, [.ref 35, .int 0, .int k], [], (zsF 0 [] 0 []), 0, 0) = _
  refine zg_nx (y := (1, [.ref 35, .int 0, .int k], [.ref 35], (zsF 0 [] 0 []), 0, 0)) rfl ?_
  refine zg_nx (y := (2, [.ref 35, .int 0, .int k], [.int 0, .ref 35], (zsF 0 [] 0 []), 0, 0)) rfl ?_
  refine zg_nx (y := (3, [.ref 35, .int 0, .int k], [.int k, .int 0, .ref 35], (zsF 0 [] 0 []), 0, 0)) rfl ?_
  refine zg_call (n := 24) (as := [.ref 35, .int 0, .int k]) (pc := 6) (lv := [.ref 35, .int 0, .int k]) (stk := []) (st := (zsF 0 [] 0 [])) (c := 0) (s := 0) (v := (some (.int 0))) (st' := (zsF 0 [] 0 [])) rfl (zq_33 h0 h1) ?_
  show zgo _ _ _ (6, [.ref 35, .int 0, .int k], [.int 0], (zsF 0 [] 0 []), 0, 0) = _
  refine zg_nx (y := (24, [.ref 35, .int 0, .int k], [], (zsF 0 [] 0 []), 0, 0)) rfl ?_
  refine zg_nx (y := (25, [.ref 35, .int 0, .int k], [.int (-1)], (zsF 0 [] 0 []), 0, 0)) rfl ?_
  exact zg_ret rfl

/-- DesignReader.isTree -/
theorem zq_35 : zrun 20000 6 13 [.ref 0, .int 1] (zsF 0 [] 0 []) = some (some (.int 1), (zsF 0 [] 0 [])) := by
  refine zr_of (m := zm_D_isTree) rfl (Nat.le_of_ble_eq_true rfl) ?_
  show zgo _ _ _ (0, [.ref 0, .int 1], [], (zsF 0 [] 0 []), 0, 0) = _
  refine zg_nx (y := (1, [.ref 0, .int 1], [.int 1], (zsF 0 [] 0 []), 0, 0)) rfl ?_
  refine zg_nx (y := (4, [.ref 0, .int 1], [], (zsF 0 [] 0 []), 0, 0)) rfl ?_
  refine zg_nx (y := (5, [.ref 0, .int 1], [.int 1], (zsF 0 [] 0 []), 0, 0)) rfl ?_
  refine zg_nx (y := (6, [.ref 0, .int 1], [.int 2, .int 1], (zsF 0 [] 0 []), 0, 0)) rfl ?_
  refine zg_nx (y := (9, [.ref 0, .int 1], [], (zsF 0 [] 0 []), 0, 0)) rfl ?_
  refine zg_nx (y := (10, [.ref 0, .int 1], [.int 1], (zsF 0 [] 0 []), 0, 0)) rfl ?_
  refine zg_nx (y := (14, [.ref 0, .int 1], [.int 1], (zsF 0 [] 0 []), 0, 0)) rfl ?_
  exact zg_ret rfl

/-- DesignReader.isNode -/
theorem zq_36 {k : Int32} (h0 : k < 0) : zrun 20000 7 14 [.ref 0, .int 1, .int k] (zsF 0 [] 0 []) = some (some (.int 0), (zsF 0 [] 0 [])) := by
  refine zr_of (m := zm_D_isNode) rfl (Nat.le_of_ble_eq_true rfl) ?_
  show zgo _ _ _ (0, [.ref 0, .int 1, .int k], [], (zsF 0 [] 0 []), 0, 0) = _
  refine zg_nx (y := (1, [.ref 0, .int 1, .int k], [.ref 0], (zsF 0 [] 0 []), 0, 0)) rfl ?_
  refine zg_nx (y := (2, [.ref 0, .int 1, .int k], [.int 1, .ref 0], (zsF 0 [] 0 []), 0, 0)) rfl ?_
  refine zg_call (n := 13) (as := [.ref 0, .int 1]) (pc := 5) (lv := [.ref 0, .int 1, .int k]) (stk := []) (st := (zsF 0 [] 0 [])) (c := 0) (s := 0) (v := (some (.int 1))) (st' := (zsF 0 [] 0 [])) rfl (zq_35) ?_
  show zgo _ _ _ (5, [.ref 0, .int 1, .int k], [.int 1], (zsF 0 [] 0 []), 0, 0) = _
  refine zg_nx (y := (8, [.ref 0, .int 1, .int k], [], (zsF 0 [] 0 []), 0, 0)) rfl ?_
  refine zg_nx (y := (9, [.ref 0, .int 1, .int k], [.int k], (zsF 0 [] 0 []), 0, 0)) rfl ?_
  refine zg_brT (P := k < 0) (b := (zn 12 [.ref 0, .int 1, .int k] [] (zsF 0 [] 0 []) 0 0)) (pc := 29) (lv := [.ref 0, .int 1, .int k]) (stk := []) (st := (zsF 0 [] 0 [])) (c := 0) (s := 0) rfl h0 ?_
  refine zg_nx (y := (30, [.ref 0, .int 1, .int k], [.int 0], (zsF 0 [] 0 []), 0, 0)) rfl ?_
  exact zg_ret rfl

/-- DesignReader.whole -/
theorem zq_37 {k : Int32} (h0 : k < 0) : zrun 20000 8 6 [.ref 0, .int 1, .int k] (zsF 0 [] 0 []) = some (some (.int (-1)), (zsF 0 [] 0 [])) := by
  refine zr_of (m := zm_D_whole) rfl (Nat.le_of_ble_eq_true rfl) ?_
  show zgo _ _ _ (0, [.ref 0, .int 1, .int k], [], (zsF 0 [] 0 []), 0, 0) = _
  refine zg_nx (y := (1, [.ref 0, .int 1, .int k], [.ref 0], (zsF 0 [] 0 []), 0, 0)) rfl ?_
  refine zg_nx (y := (2, [.ref 0, .int 1, .int k], [.int 1, .ref 0], (zsF 0 [] 0 []), 0, 0)) rfl ?_
  refine zg_nx (y := (3, [.ref 0, .int 1, .int k], [.int k, .int 1, .ref 0], (zsF 0 [] 0 []), 0, 0)) rfl ?_
  refine zg_call (n := 14) (as := [.ref 0, .int 1, .int k]) (pc := 6) (lv := [.ref 0, .int 1, .int k]) (stk := []) (st := (zsF 0 [] 0 [])) (c := 0) (s := 0) (v := (some (.int 0))) (st' := (zsF 0 [] 0 [])) rfl (zq_36 h0) ?_
  show zgo _ _ _ (6, [.ref 0, .int 1, .int k], [.int 0], (zsF 0 [] 0 []), 0, 0) = _
  refine zg_nx (y := (23, [.ref 0, .int 1, .int k], [], (zsF 0 [] 0 []), 0, 0)) rfl ?_
  refine zg_nx (y := (24, [.ref 0, .int 1, .int k], [.int (-1)], (zsF 0 [] 0 []), 0, 0)) rfl ?_
  exact zg_ret rfl

/-- DesignReaderModel.has -/
theorem zq_38 {k : Int32} (h0 : k < 0) : zrun 20000 7 24 [.ref 35, .int 1, .int k] (zsF 0 [] 0 []) = some (some (.int 0), (zsF 0 [] 0 [])) := by
  refine zr_of (m := zm_R_has) rfl (Nat.le_of_ble_eq_true rfl) ?_
  show zgo _ _ _ (0, [.ref 35, .int 1, .int k], [], (zsF 0 [] 0 []), 0, 0) = _
  refine zg_nx (y := (1, [.ref 35, .int 1, .int k], [.int 1], (zsF 0 [] 0 []), 0, 0)) rfl ?_
  refine zg_nx (y := (4, [.ref 35, .int 1, .int k], [], (zsF 0 [] 0 []), 0, 0)) rfl ?_
  refine zg_nx (y := (5, [.ref 35, .int 1, .int k], [.int 1], (zsF 0 [] 0 []), 0, 0)) rfl ?_
  refine zg_nx (y := (6, [.ref 35, .int 1, .int k], [.int 2, .int 1], (zsF 0 [] 0 []), 0, 0)) rfl ?_
  refine zg_nx (y := (9, [.ref 35, .int 1, .int k], [], (zsF 0 [] 0 []), 0, 0)) rfl ?_
  refine zg_nx (y := (10, [.ref 35, .int 1, .int k], [.int k], (zsF 0 [] 0 []), 0, 0)) rfl ?_
  refine zg_brT (P := k < 0) (b := (zn 13 [.ref 35, .int 1, .int k] [] (zsF 0 [] 0 []) 0 0)) (pc := 27) (lv := [.ref 35, .int 1, .int k]) (stk := []) (st := (zsF 0 [] 0 [])) (c := 0) (s := 0) rfl h0 ?_
  refine zg_nx (y := (28, [.ref 35, .int 1, .int k], [.int 0], (zsF 0 [] 0 []), 0, 0)) rfl ?_
  exact zg_ret rfl

/-- DesignReaderModel.whole -/
theorem zq_39 {k : Int32} (h0 : k < 0) : zrun 20000 8 29 [.ref 35, .int 1, .int k] (zsF 0 [] 0 []) = some (some (.int (-1)), (zsF 0 [] 0 [])) := by
  refine zr_of (m := zm_R_whole) rfl (Nat.le_of_ble_eq_true rfl) ?_
  show zgo _ _ _ (0, [.ref 35, .int 1, .int k], [], (zsF 0 [] 0 []), 0, 0) = _
  refine zg_nx (y := (1, [.ref 35, .int 1, .int k], [.ref 35], (zsF 0 [] 0 []), 0, 0)) rfl ?_
  refine zg_nx (y := (2, [.ref 35, .int 1, .int k], [.int 1, .ref 35], (zsF 0 [] 0 []), 0, 0)) rfl ?_
  refine zg_nx (y := (3, [.ref 35, .int 1, .int k], [.int k, .int 1, .ref 35], (zsF 0 [] 0 []), 0, 0)) rfl ?_
  refine zg_call (n := 24) (as := [.ref 35, .int 1, .int k]) (pc := 6) (lv := [.ref 35, .int 1, .int k]) (stk := []) (st := (zsF 0 [] 0 [])) (c := 0) (s := 0) (v := (some (.int 0))) (st' := (zsF 0 [] 0 [])) rfl (zq_38 h0) ?_
  show zgo _ _ _ (6, [.ref 35, .int 1, .int k], [.int 0], (zsF 0 [] 0 []), 0, 0) = _
  refine zg_nx (y := (24, [.ref 35, .int 1, .int k], [], (zsF 0 [] 0 []), 0, 0)) rfl ?_
  refine zg_nx (y := (25, [.ref 35, .int 1, .int k], [.int (-1)], (zsF 0 [] 0 []), 0, 0)) rfl ?_
  exact zg_ret rfl

/-- DesignReader.isNode -/
theorem zq_40 {k : Int32} (h0 : ¬ (k < 0)) (h1 : 1 ≤ k) : zrun 20000 7 14 [.ref 0, .int 1, .int k] (zsF 0 [] 0 []) = some (some (.int 0), (zsF 0 [] 0 [])) := by
  refine zr_of (m := zm_D_isNode) rfl (Nat.le_of_ble_eq_true rfl) ?_
  show zgo _ _ _ (0, [.ref 0, .int 1, .int k], [], (zsF 0 [] 0 []), 0, 0) = _
  refine zg_nx (y := (1, [.ref 0, .int 1, .int k], [.ref 0], (zsF 0 [] 0 []), 0, 0)) rfl ?_
  refine zg_nx (y := (2, [.ref 0, .int 1, .int k], [.int 1, .ref 0], (zsF 0 [] 0 []), 0, 0)) rfl ?_
  refine zg_call (n := 13) (as := [.ref 0, .int 1]) (pc := 5) (lv := [.ref 0, .int 1, .int k]) (stk := []) (st := (zsF 0 [] 0 [])) (c := 0) (s := 0) (v := (some (.int 1))) (st' := (zsF 0 [] 0 [])) rfl (zq_35) ?_
  show zgo _ _ _ (5, [.ref 0, .int 1, .int k], [.int 1], (zsF 0 [] 0 []), 0, 0) = _
  refine zg_nx (y := (8, [.ref 0, .int 1, .int k], [], (zsF 0 [] 0 []), 0, 0)) rfl ?_
  refine zg_nx (y := (9, [.ref 0, .int 1, .int k], [.int k], (zsF 0 [] 0 []), 0, 0)) rfl ?_
  refine zg_brF (P := k < 0) (a := (zn 29 [.ref 0, .int 1, .int k] [] (zsF 0 [] 0 []) 0 0)) (pc := 12) (lv := [.ref 0, .int 1, .int k]) (stk := []) (st := (zsF 0 [] 0 [])) (c := 0) (s := 0) rfl h0 ?_
  refine zg_nx (y := (13, [.ref 0, .int 1, .int k], [.int k], (zsF 0 [] 0 []), 0, 0)) rfl ?_
  refine zg_nx (y := (14, [.ref 0, .int 1, .int k], [.ref 0, .int k], (zsF 0 [] 0 []), 0, 0)) rfl ?_
  refine zg_nx (y := (17, [.ref 0, .int 1, .int k], [.ref 1, .int k], (zsF 0 [] 0 []), 0, 0)) rfl ?_
  refine zg_nx (y := (18, [.ref 0, .int 1, .int k], [.int 1, .ref 1, .int k], (zsF 0 [] 0 []), 0, 0)) rfl ?_
  refine zg_nx (y := (19, [.ref 0, .int 1, .int k], [.ref 10, .int k], (zsF 0 [] 0 []), 0, 0)) rfl ?_
  refine zg_nx (y := (22, [.ref 0, .int 1, .int k], [.int 1, .int k], (zsF 0 [] 0 []), 0, 0)) rfl ?_
  refine zg_brT (P := 1 ≤ k) (b := (zn 25 [.ref 0, .int 1, .int k] [] (zsF 0 [] 0 []) 0 0)) (pc := 29) (lv := [.ref 0, .int 1, .int k]) (stk := []) (st := (zsF 0 [] 0 [])) (c := 0) (s := 0) rfl h1 ?_
  refine zg_nx (y := (30, [.ref 0, .int 1, .int k], [.int 0], (zsF 0 [] 0 []), 0, 0)) rfl ?_
  exact zg_ret rfl

/-- DesignReader.whole -/
theorem zq_41 {k : Int32} (h0 : ¬ (k < 0)) (h1 : 1 ≤ k) : zrun 20000 8 6 [.ref 0, .int 1, .int k] (zsF 0 [] 0 []) = some (some (.int (-1)), (zsF 0 [] 0 [])) := by
  refine zr_of (m := zm_D_whole) rfl (Nat.le_of_ble_eq_true rfl) ?_
  show zgo _ _ _ (0, [.ref 0, .int 1, .int k], [], (zsF 0 [] 0 []), 0, 0) = _
  refine zg_nx (y := (1, [.ref 0, .int 1, .int k], [.ref 0], (zsF 0 [] 0 []), 0, 0)) rfl ?_
  refine zg_nx (y := (2, [.ref 0, .int 1, .int k], [.int 1, .ref 0], (zsF 0 [] 0 []), 0, 0)) rfl ?_
  refine zg_nx (y := (3, [.ref 0, .int 1, .int k], [.int k, .int 1, .ref 0], (zsF 0 [] 0 []), 0, 0)) rfl ?_
  refine zg_call (n := 14) (as := [.ref 0, .int 1, .int k]) (pc := 6) (lv := [.ref 0, .int 1, .int k]) (stk := []) (st := (zsF 0 [] 0 [])) (c := 0) (s := 0) (v := (some (.int 0))) (st' := (zsF 0 [] 0 [])) rfl (zq_40 h0 h1) ?_
  show zgo _ _ _ (6, [.ref 0, .int 1, .int k], [.int 0], (zsF 0 [] 0 []), 0, 0) = _
  refine zg_nx (y := (23, [.ref 0, .int 1, .int k], [], (zsF 0 [] 0 []), 0, 0)) rfl ?_
  refine zg_nx (y := (24, [.ref 0, .int 1, .int k], [.int (-1)], (zsF 0 [] 0 []), 0, 0)) rfl ?_
  exact zg_ret rfl

/-- DesignReaderModel.has -/
theorem zq_42 {k : Int32} (h0 : ¬ (k < 0)) (h1 : 1 ≤ k) : zrun 20000 7 24 [.ref 35, .int 1, .int k] (zsF 0 [] 0 []) = some (some (.int 0), (zsF 0 [] 0 [])) := by
  refine zr_of (m := zm_R_has) rfl (Nat.le_of_ble_eq_true rfl) ?_
  show zgo _ _ _ (0, [.ref 35, .int 1, .int k], [], (zsF 0 [] 0 []), 0, 0) = _
  refine zg_nx (y := (1, [.ref 35, .int 1, .int k], [.int 1], (zsF 0 [] 0 []), 0, 0)) rfl ?_
  refine zg_nx (y := (4, [.ref 35, .int 1, .int k], [], (zsF 0 [] 0 []), 0, 0)) rfl ?_
  refine zg_nx (y := (5, [.ref 35, .int 1, .int k], [.int 1], (zsF 0 [] 0 []), 0, 0)) rfl ?_
  refine zg_nx (y := (6, [.ref 35, .int 1, .int k], [.int 2, .int 1], (zsF 0 [] 0 []), 0, 0)) rfl ?_
  refine zg_nx (y := (9, [.ref 35, .int 1, .int k], [], (zsF 0 [] 0 []), 0, 0)) rfl ?_
  refine zg_nx (y := (10, [.ref 35, .int 1, .int k], [.int k], (zsF 0 [] 0 []), 0, 0)) rfl ?_
  refine zg_brF (P := k < 0) (a := (zn 27 [.ref 35, .int 1, .int k] [] (zsF 0 [] 0 []) 0 0)) (pc := 13) (lv := [.ref 35, .int 1, .int k]) (stk := []) (st := (zsF 0 [] 0 [])) (c := 0) (s := 0) rfl h0 ?_
  refine zg_nx (y := (14, [.ref 35, .int 1, .int k], [.int k], (zsF 0 [] 0 []), 0, 0)) rfl ?_
  refine zg_nx (y := (15, [.ref 35, .int 1, .int k], [.ref 35, .int k], (zsF 0 [] 0 []), 0, 0)) rfl ?_
  refine zg_nx (y := (18, [.ref 35, .int 1, .int k], [.ref 54, .int k], (zsF 0 [] 0 []), 0, 0)) rfl ?_
  refine zg_nx (y := (19, [.ref 35, .int 1, .int k], [.int 1, .ref 54, .int k], (zsF 0 [] 0 []), 0, 0)) rfl ?_
  refine zg_nx (y := (20, [.ref 35, .int 1, .int k], [.int 1, .int k], (zsF 0 [] 0 []), 0, 0)) rfl ?_
  refine zg_brT (P := 1 ≤ k) (b := (zn 23 [.ref 35, .int 1, .int k] [] (zsF 0 [] 0 []) 0 0)) (pc := 27) (lv := [.ref 35, .int 1, .int k]) (stk := []) (st := (zsF 0 [] 0 [])) (c := 0) (s := 0) rfl h1 ?_
  refine zg_nx (y := (28, [.ref 35, .int 1, .int k], [.int 0], (zsF 0 [] 0 []), 0, 0)) rfl ?_
  exact zg_ret rfl

/-- DesignReaderModel.whole -/
theorem zq_43 {k : Int32} (h0 : ¬ (k < 0)) (h1 : 1 ≤ k) : zrun 20000 8 29 [.ref 35, .int 1, .int k] (zsF 0 [] 0 []) = some (some (.int (-1)), (zsF 0 [] 0 [])) := by
  refine zr_of (m := zm_R_whole) rfl (Nat.le_of_ble_eq_true rfl) ?_
  show zgo _ _ _ (0, [.ref 35, .int 1, .int k], [], (zsF 0 [] 0 []), 0, 0) = _
  refine zg_nx (y := (1, [.ref 35, .int 1, .int k], [.ref 35], (zsF 0 [] 0 []), 0, 0)) rfl ?_
  refine zg_nx (y := (2, [.ref 35, .int 1, .int k], [.int 1, .ref 35], (zsF 0 [] 0 []), 0, 0)) rfl ?_
  refine zg_nx (y := (3, [.ref 35, .int 1, .int k], [.int k, .int 1, .ref 35], (zsF 0 [] 0 []), 0, 0)) rfl ?_
  refine zg_call (n := 24) (as := [.ref 35, .int 1, .int k]) (pc := 6) (lv := [.ref 35, .int 1, .int k]) (stk := []) (st := (zsF 0 [] 0 [])) (c := 0) (s := 0) (v := (some (.int 0))) (st' := (zsF 0 [] 0 [])) rfl (zq_42 h0 h1) ?_
  show zgo _ _ _ (6, [.ref 35, .int 1, .int k], [.int 0], (zsF 0 [] 0 []), 0, 0) = _
  refine zg_nx (y := (24, [.ref 35, .int 1, .int k], [], (zsF 0 [] 0 []), 0, 0)) rfl ?_
  refine zg_nx (y := (25, [.ref 35, .int 1, .int k], [.int (-1)], (zsF 0 [] 0 []), 0, 0)) rfl ?_
  exact zg_ret rfl

/-- DesignReader.isTree -/
theorem zq_44 {t : Int32} (h0 : ¬ (t < 0)) (h1 : 2 ≤ t) : zrun 20000 6 13 [.ref 0, .int t] (zsF 0 [] 0 []) = some (some (.int 0), (zsF 0 [] 0 [])) := by
  refine zr_of (m := zm_D_isTree) rfl (Nat.le_of_ble_eq_true rfl) ?_
  show zgo _ _ _ (0, [.ref 0, .int t], [], (zsF 0 [] 0 []), 0, 0) = _
  refine zg_nx (y := (1, [.ref 0, .int t], [.int t], (zsF 0 [] 0 []), 0, 0)) rfl ?_
  refine zg_brF (P := t < 0) (a := (zn 13 [.ref 0, .int t] [] (zsF 0 [] 0 []) 0 0)) (pc := 4) (lv := [.ref 0, .int t]) (stk := []) (st := (zsF 0 [] 0 [])) (c := 0) (s := 0) rfl h0 ?_
  refine zg_nx (y := (5, [.ref 0, .int t], [.int t], (zsF 0 [] 0 []), 0, 0)) rfl ?_
  refine zg_nx (y := (6, [.ref 0, .int t], [.int 2, .int t], (zsF 0 [] 0 []), 0, 0)) rfl ?_
  refine zg_brT (P := 2 ≤ t) (b := (zn 9 [.ref 0, .int t] [] (zsF 0 [] 0 []) 0 0)) (pc := 13) (lv := [.ref 0, .int t]) (stk := []) (st := (zsF 0 [] 0 [])) (c := 0) (s := 0) rfl h1 ?_
  refine zg_nx (y := (14, [.ref 0, .int t], [.int 0], (zsF 0 [] 0 []), 0, 0)) rfl ?_
  exact zg_ret rfl

/-- DesignReader.isNode -/
theorem zq_45 {t k : Int32} (h0 : ¬ (t < 0)) (h1 : 2 ≤ t) : zrun 20000 7 14 [.ref 0, .int t, .int k] (zsF 0 [] 0 []) = some (some (.int 0), (zsF 0 [] 0 [])) := by
  refine zr_of (m := zm_D_isNode) rfl (Nat.le_of_ble_eq_true rfl) ?_
  show zgo _ _ _ (0, [.ref 0, .int t, .int k], [], (zsF 0 [] 0 []), 0, 0) = _
  refine zg_nx (y := (1, [.ref 0, .int t, .int k], [.ref 0], (zsF 0 [] 0 []), 0, 0)) rfl ?_
  refine zg_nx (y := (2, [.ref 0, .int t, .int k], [.int t, .ref 0], (zsF 0 [] 0 []), 0, 0)) rfl ?_
  refine zg_call (n := 13) (as := [.ref 0, .int t]) (pc := 5) (lv := [.ref 0, .int t, .int k]) (stk := []) (st := (zsF 0 [] 0 [])) (c := 0) (s := 0) (v := (some (.int 0))) (st' := (zsF 0 [] 0 [])) rfl (zq_44 h0 h1) ?_
  show zgo _ _ _ (5, [.ref 0, .int t, .int k], [.int 0], (zsF 0 [] 0 []), 0, 0) = _
  refine zg_nx (y := (29, [.ref 0, .int t, .int k], [], (zsF 0 [] 0 []), 0, 0)) rfl ?_
  refine zg_nx (y := (30, [.ref 0, .int t, .int k], [.int 0], (zsF 0 [] 0 []), 0, 0)) rfl ?_
  exact zg_ret rfl

/-- DesignReader.whole -/
theorem zq_46 {t k : Int32} (h0 : ¬ (t < 0)) (h1 : 2 ≤ t) : zrun 20000 8 6 [.ref 0, .int t, .int k] (zsF 0 [] 0 []) = some (some (.int (-1)), (zsF 0 [] 0 [])) := by
  refine zr_of (m := zm_D_whole) rfl (Nat.le_of_ble_eq_true rfl) ?_
  show zgo _ _ _ (0, [.ref 0, .int t, .int k], [], (zsF 0 [] 0 []), 0, 0) = _
  refine zg_nx (y := (1, [.ref 0, .int t, .int k], [.ref 0], (zsF 0 [] 0 []), 0, 0)) rfl ?_
  refine zg_nx (y := (2, [.ref 0, .int t, .int k], [.int t, .ref 0], (zsF 0 [] 0 []), 0, 0)) rfl ?_
  refine zg_nx (y := (3, [.ref 0, .int t, .int k], [.int k, .int t, .ref 0], (zsF 0 [] 0 []), 0, 0)) rfl ?_
  refine zg_call (n := 14) (as := [.ref 0, .int t, .int k]) (pc := 6) (lv := [.ref 0, .int t, .int k]) (stk := []) (st := (zsF 0 [] 0 [])) (c := 0) (s := 0) (v := (some (.int 0))) (st' := (zsF 0 [] 0 [])) rfl (zq_45 h0 h1) ?_
  show zgo _ _ _ (6, [.ref 0, .int t, .int k], [.int 0], (zsF 0 [] 0 []), 0, 0) = _
  refine zg_nx (y := (23, [.ref 0, .int t, .int k], [], (zsF 0 [] 0 []), 0, 0)) rfl ?_
  refine zg_nx (y := (24, [.ref 0, .int t, .int k], [.int (-1)], (zsF 0 [] 0 []), 0, 0)) rfl ?_
  exact zg_ret rfl

/-- DesignReaderModel.has -/
theorem zq_47 {t k : Int32} (h0 : ¬ (t < 0)) (h1 : 2 ≤ t) : zrun 20000 7 24 [.ref 35, .int t, .int k] (zsF 0 [] 0 []) = some (some (.int 0), (zsF 0 [] 0 [])) := by
  refine zr_of (m := zm_R_has) rfl (Nat.le_of_ble_eq_true rfl) ?_
  show zgo _ _ _ (0, [.ref 35, .int t, .int k], [], (zsF 0 [] 0 []), 0, 0) = _
  refine zg_nx (y := (1, [.ref 35, .int t, .int k], [.int t], (zsF 0 [] 0 []), 0, 0)) rfl ?_
  refine zg_brF (P := t < 0) (a := (zn 27 [.ref 35, .int t, .int k] [] (zsF 0 [] 0 []) 0 0)) (pc := 4) (lv := [.ref 35, .int t, .int k]) (stk := []) (st := (zsF 0 [] 0 [])) (c := 0) (s := 0) rfl h0 ?_
  refine zg_nx (y := (5, [.ref 35, .int t, .int k], [.int t], (zsF 0 [] 0 []), 0, 0)) rfl ?_
  refine zg_nx (y := (6, [.ref 35, .int t, .int k], [.int 2, .int t], (zsF 0 [] 0 []), 0, 0)) rfl ?_
  refine zg_brT (P := 2 ≤ t) (b := (zn 9 [.ref 35, .int t, .int k] [] (zsF 0 [] 0 []) 0 0)) (pc := 27) (lv := [.ref 35, .int t, .int k]) (stk := []) (st := (zsF 0 [] 0 [])) (c := 0) (s := 0) rfl h1 ?_
  refine zg_nx (y := (28, [.ref 35, .int t, .int k], [.int 0], (zsF 0 [] 0 []), 0, 0)) rfl ?_
  exact zg_ret rfl

/-- DesignReaderModel.whole -/
theorem zq_48 {t k : Int32} (h0 : ¬ (t < 0)) (h1 : 2 ≤ t) : zrun 20000 8 29 [.ref 35, .int t, .int k] (zsF 0 [] 0 []) = some (some (.int (-1)), (zsF 0 [] 0 [])) := by
  refine zr_of (m := zm_R_whole) rfl (Nat.le_of_ble_eq_true rfl) ?_
  show zgo _ _ _ (0, [.ref 35, .int t, .int k], [], (zsF 0 [] 0 []), 0, 0) = _
  refine zg_nx (y := (1, [.ref 35, .int t, .int k], [.ref 35], (zsF 0 [] 0 []), 0, 0)) rfl ?_
  refine zg_nx (y := (2, [.ref 35, .int t, .int k], [.int t, .ref 35], (zsF 0 [] 0 []), 0, 0)) rfl ?_
  refine zg_nx (y := (3, [.ref 35, .int t, .int k], [.int k, .int t, .ref 35], (zsF 0 [] 0 []), 0, 0)) rfl ?_
  refine zg_call (n := 24) (as := [.ref 35, .int t, .int k]) (pc := 6) (lv := [.ref 35, .int t, .int k]) (stk := []) (st := (zsF 0 [] 0 [])) (c := 0) (s := 0) (v := (some (.int 0))) (st' := (zsF 0 [] 0 [])) rfl (zq_47 h0 h1) ?_
  show zgo _ _ _ (6, [.ref 35, .int t, .int k], [.int 0], (zsF 0 [] 0 []), 0, 0) = _
  refine zg_nx (y := (24, [.ref 35, .int t, .int k], [], (zsF 0 [] 0 []), 0, 0)) rfl ?_
  refine zg_nx (y := (25, [.ref 35, .int t, .int k], [.int (-1)], (zsF 0 [] 0 []), 0, 0)) rfl ?_
  exact zg_ret rfl

/-- DesignReader.write -/
theorem zq_49 {t k : Int32} (h0 : t < 0) : zrun 20000 8 9 [.ref 0, .int t, .int k] (zsF 0 [] 0 []) = some (some (.int (-1)), (zsF 0 [] 0 [])) := by
  refine zr_of (m := zm_D_write) rfl (Nat.le_of_ble_eq_true rfl) ?_
  show zgo _ _ _ (0, [.ref 0, .int t, .int k], [], (zsF 0 [] 0 []), 0, 0) = _
  refine zg_nx (y := (1, [.ref 0, .int t, .int k], [.ref 0], (zsF 0 [] 0 []), 0, 0)) rfl ?_
  refine zg_nx (y := (2, [.ref 0, .int t, .int k], [.int t, .ref 0], (zsF 0 [] 0 []), 0, 0)) rfl ?_
  refine zg_nx (y := (3, [.ref 0, .int t, .int k], [.int k, .int t, .ref 0], (zsF 0 [] 0 []), 0, 0)) rfl ?_
  refine zg_call (n := 14) (as := [.ref 0, .int t, .int k]) (pc := 6) (lv := [.ref 0, .int t, .int k]) (stk := []) (st := (zsF 0 [] 0 [])) (c := 0) (s := 0) (v := (some (.int 0))) (st' := (zsF 0 [] 0 [])) rfl (zq_22 h0) ?_
  show zgo _ _ _ (6, [.ref 0, .int t, .int k], [.int 0], (zsF 0 [] 0 []), 0, 0) = _
  refine zg_nx (y := (26, [.ref 0, .int t, .int k], [], (zsF 0 [] 0 []), 0, 0)) rfl ?_
  refine zg_nx (y := (27, [.ref 0, .int t, .int k], [.int (-1)], (zsF 0 [] 0 []), 0, 0)) rfl ?_
  exact zg_ret rfl

/-- DesignReaderModel.write -/
theorem zq_50 {t k : Int32} (h0 : t < 0) : zrun 20000 8 36 [.ref 35, .int t, .int k] (zsF 0 [] 0 []) = some (some (.int (-1)), (zsF 0 [] 0 [])) := by
  refine zr_of (m := zm_R_write) rfl (Nat.le_of_ble_eq_true rfl) ?_
  show zgo _ _ _ (0, [.ref 35, .int t, .int k, zu], [], (zsF 0 [] 0 []), 0, 0) = _
  refine zg_nx (y := (1, [.ref 35, .int t, .int k, zu], [.ref 35], (zsF 0 [] 0 []), 0, 0)) rfl ?_
  refine zg_nx (y := (2, [.ref 35, .int t, .int k, zu], [.int t, .ref 35], (zsF 0 [] 0 []), 0, 0)) rfl ?_
  refine zg_nx (y := (3, [.ref 35, .int t, .int k, zu], [.int k, .int t, .ref 35], (zsF 0 [] 0 []), 0, 0)) rfl ?_
  refine zg_call (n := 24) (as := [.ref 35, .int t, .int k]) (pc := 6) (lv := [.ref 35, .int t, .int k, zu]) (stk := []) (st := (zsF 0 [] 0 [])) (c := 0) (s := 0) (v := (some (.int 0))) (st' := (zsF 0 [] 0 [])) rfl (zq_24 h0) ?_
  show zgo _ _ _ (6, [.ref 35, .int t, .int k, zu], [.int 0], (zsF 0 [] 0 []), 0, 0) = _
  refine zg_nx (y := (9, [.ref 35, .int t, .int k, zu], [], (zsF 0 [] 0 []), 0, 0)) rfl ?_
  refine zg_nx (y := (10, [.ref 35, .int t, .int k, zu], [.int (-1)], (zsF 0 [] 0 []), 0, 0)) rfl ?_
  exact zg_ret rfl

/-- DesignReader.write -/
theorem zq_51 {k : Int32} (h0 : k < 0) : zrun 20000 8 9 [.ref 0, .int 0, .int k] (zsF 0 [] 0 []) = some (some (.int (-1)), (zsF 0 [] 0 [])) := by
  refine zr_of (m := zm_D_write) rfl (Nat.le_of_ble_eq_true rfl) ?_
  show zgo _ _ _ (0, [.ref 0, .int 0, .int k], [], (zsF 0 [] 0 []), 0, 0) = _
  refine zg_nx (y := (1, [.ref 0, .int 0, .int k], [.ref 0], (zsF 0 [] 0 []), 0, 0)) rfl ?_
  refine zg_nx (y := (2, [.ref 0, .int 0, .int k], [.int 0, .ref 0], (zsF 0 [] 0 []), 0, 0)) rfl ?_
  refine zg_nx (y := (3, [.ref 0, .int 0, .int k], [.int k, .int 0, .ref 0], (zsF 0 [] 0 []), 0, 0)) rfl ?_
  refine zg_call (n := 14) (as := [.ref 0, .int 0, .int k]) (pc := 6) (lv := [.ref 0, .int 0, .int k]) (stk := []) (st := (zsF 0 [] 0 [])) (c := 0) (s := 0) (v := (some (.int 0))) (st' := (zsF 0 [] 0 [])) rfl (zq_27 h0) ?_
  show zgo _ _ _ (6, [.ref 0, .int 0, .int k], [.int 0], (zsF 0 [] 0 []), 0, 0) = _
  refine zg_nx (y := (26, [.ref 0, .int 0, .int k], [], (zsF 0 [] 0 []), 0, 0)) rfl ?_
  refine zg_nx (y := (27, [.ref 0, .int 0, .int k], [.int (-1)], (zsF 0 [] 0 []), 0, 0)) rfl ?_
  exact zg_ret rfl

/-- DesignReaderModel.write -/
theorem zq_52 {k : Int32} (h0 : k < 0) : zrun 20000 8 36 [.ref 35, .int 0, .int k] (zsF 0 [] 0 []) = some (some (.int (-1)), (zsF 0 [] 0 [])) := by
  refine zr_of (m := zm_R_write) rfl (Nat.le_of_ble_eq_true rfl) ?_
  show zgo _ _ _ (0, [.ref 35, .int 0, .int k, zu], [], (zsF 0 [] 0 []), 0, 0) = _
  refine zg_nx (y := (1, [.ref 35, .int 0, .int k, zu], [.ref 35], (zsF 0 [] 0 []), 0, 0)) rfl ?_
  refine zg_nx (y := (2, [.ref 35, .int 0, .int k, zu], [.int 0, .ref 35], (zsF 0 [] 0 []), 0, 0)) rfl ?_
  refine zg_nx (y := (3, [.ref 35, .int 0, .int k, zu], [.int k, .int 0, .ref 35], (zsF 0 [] 0 []), 0, 0)) rfl ?_
  refine zg_call (n := 24) (as := [.ref 35, .int 0, .int k]) (pc := 6) (lv := [.ref 35, .int 0, .int k, zu]) (stk := []) (st := (zsF 0 [] 0 [])) (c := 0) (s := 0) (v := (some (.int 0))) (st' := (zsF 0 [] 0 [])) rfl (zq_29 h0) ?_
  show zgo _ _ _ (6, [.ref 35, .int 0, .int k, zu], [.int 0], (zsF 0 [] 0 []), 0, 0) = _
  refine zg_nx (y := (9, [.ref 35, .int 0, .int k, zu], [], (zsF 0 [] 0 []), 0, 0)) rfl ?_
  refine zg_nx (y := (10, [.ref 35, .int 0, .int k, zu], [.int (-1)], (zsF 0 [] 0 []), 0, 0)) rfl ?_
  exact zg_ret rfl

/-- DesignReader.write -/
theorem zq_53 {k : Int32} (h0 : ¬ (k < 0)) (h1 : 1 ≤ k) : zrun 20000 8 9 [.ref 0, .int 0, .int k] (zsF 0 [] 0 []) = some (some (.int (-1)), (zsF 0 [] 0 [])) := by
  refine zr_of (m := zm_D_write) rfl (Nat.le_of_ble_eq_true rfl) ?_
  show zgo _ _ _ (0, [.ref 0, .int 0, .int k], [], (zsF 0 [] 0 []), 0, 0) = _
  refine zg_nx (y := (1, [.ref 0, .int 0, .int k], [.ref 0], (zsF 0 [] 0 []), 0, 0)) rfl ?_
  refine zg_nx (y := (2, [.ref 0, .int 0, .int k], [.int 0, .ref 0], (zsF 0 [] 0 []), 0, 0)) rfl ?_
  refine zg_nx (y := (3, [.ref 0, .int 0, .int k], [.int k, .int 0, .ref 0], (zsF 0 [] 0 []), 0, 0)) rfl ?_
  refine zg_call (n := 14) (as := [.ref 0, .int 0, .int k]) (pc := 6) (lv := [.ref 0, .int 0, .int k]) (stk := []) (st := (zsF 0 [] 0 [])) (c := 0) (s := 0) (v := (some (.int 0))) (st' := (zsF 0 [] 0 [])) rfl (zq_31 h0 h1) ?_
  show zgo _ _ _ (6, [.ref 0, .int 0, .int k], [.int 0], (zsF 0 [] 0 []), 0, 0) = _
  refine zg_nx (y := (26, [.ref 0, .int 0, .int k], [], (zsF 0 [] 0 []), 0, 0)) rfl ?_
  refine zg_nx (y := (27, [.ref 0, .int 0, .int k], [.int (-1)], (zsF 0 [] 0 []), 0, 0)) rfl ?_
  exact zg_ret rfl

/-- DesignReaderModel.write -/
theorem zq_54 {k : Int32} (h0 : ¬ (k < 0)) (h1 : 1 ≤ k) : zrun 20000 8 36 [.ref 35, .int 0, .int k] (zsF 0 [] 0 []) = some (some (.int (-1)), (zsF 0 [] 0 [])) := by
  refine zr_of (m := zm_R_write) rfl (Nat.le_of_ble_eq_true rfl) ?_
  show zgo _ _ _ (0, [.ref 35, .int 0, .int k, zu], [], (zsF 0 [] 0 []), 0, 0) = _
  refine zg_nx (y := (1, [.ref 35, .int 0, .int k, zu], [.ref 35], (zsF 0 [] 0 []), 0, 0)) rfl ?_
  refine zg_nx (y := (2, [.ref 35, .int 0, .int k, zu], [.int 0, .ref 35], (zsF 0 [] 0 []), 0, 0)) rfl ?_
  refine zg_nx (y := (3, [.ref 35, .int 0, .int k, zu], [.int k, .int 0, .ref 35], (zsF 0 [] 0 []), 0, 0)) rfl ?_
  refine zg_call (n := 24) (as := [.ref 35, .int 0, .int k]) (pc := 6) (lv := [.ref 35, .int 0, .int k, zu]) (stk := []) (st := (zsF 0 [] 0 [])) (c := 0) (s := 0) (v := (some (.int 0))) (st' := (zsF 0 [] 0 [])) rfl (zq_33 h0 h1) ?_
  show zgo _ _ _ (6, [.ref 35, .int 0, .int k, zu], [.int 0], (zsF 0 [] 0 []), 0, 0) = _
  refine zg_nx (y := (9, [.ref 35, .int 0, .int k, zu], [], (zsF 0 [] 0 []), 0, 0)) rfl ?_
  refine zg_nx (y := (10, [.ref 35, .int 0, .int k, zu], [.int (-1)], (zsF 0 [] 0 []), 0, 0)) rfl ?_
  exact zg_ret rfl

/-- DesignReader.write -/
theorem zq_55 {k : Int32} (h0 : k < 0) : zrun 20000 8 9 [.ref 0, .int 1, .int k] (zsF 0 [] 0 []) = some (some (.int (-1)), (zsF 0 [] 0 [])) := by
  refine zr_of (m := zm_D_write) rfl (Nat.le_of_ble_eq_true rfl) ?_
  show zgo _ _ _ (0, [.ref 0, .int 1, .int k], [], (zsF 0 [] 0 []), 0, 0) = _
  refine zg_nx (y := (1, [.ref 0, .int 1, .int k], [.ref 0], (zsF 0 [] 0 []), 0, 0)) rfl ?_
  refine zg_nx (y := (2, [.ref 0, .int 1, .int k], [.int 1, .ref 0], (zsF 0 [] 0 []), 0, 0)) rfl ?_
  refine zg_nx (y := (3, [.ref 0, .int 1, .int k], [.int k, .int 1, .ref 0], (zsF 0 [] 0 []), 0, 0)) rfl ?_
  refine zg_call (n := 14) (as := [.ref 0, .int 1, .int k]) (pc := 6) (lv := [.ref 0, .int 1, .int k]) (stk := []) (st := (zsF 0 [] 0 [])) (c := 0) (s := 0) (v := (some (.int 0))) (st' := (zsF 0 [] 0 [])) rfl (zq_36 h0) ?_
  show zgo _ _ _ (6, [.ref 0, .int 1, .int k], [.int 0], (zsF 0 [] 0 []), 0, 0) = _
  refine zg_nx (y := (26, [.ref 0, .int 1, .int k], [], (zsF 0 [] 0 []), 0, 0)) rfl ?_
  refine zg_nx (y := (27, [.ref 0, .int 1, .int k], [.int (-1)], (zsF 0 [] 0 []), 0, 0)) rfl ?_
  exact zg_ret rfl

/-- DesignReaderModel.write -/
theorem zq_56 {k : Int32} (h0 : k < 0) : zrun 20000 8 36 [.ref 35, .int 1, .int k] (zsF 0 [] 0 []) = some (some (.int (-1)), (zsF 0 [] 0 [])) := by
  refine zr_of (m := zm_R_write) rfl (Nat.le_of_ble_eq_true rfl) ?_
  show zgo _ _ _ (0, [.ref 35, .int 1, .int k, zu], [], (zsF 0 [] 0 []), 0, 0) = _
  refine zg_nx (y := (1, [.ref 35, .int 1, .int k, zu], [.ref 35], (zsF 0 [] 0 []), 0, 0)) rfl ?_
  refine zg_nx (y := (2, [.ref 35, .int 1, .int k, zu], [.int 1, .ref 35], (zsF 0 [] 0 []), 0, 0)) rfl ?_
  refine zg_nx (y := (3, [.ref 35, .int 1, .int k, zu], [.int k, .int 1, .ref 35], (zsF 0 [] 0 []), 0, 0)) rfl ?_
  refine zg_call (n := 24) (as := [.ref 35, .int 1, .int k]) (pc := 6) (lv := [.ref 35, .int 1, .int k, zu]) (stk := []) (st := (zsF 0 [] 0 [])) (c := 0) (s := 0) (v := (some (.int 0))) (st' := (zsF 0 [] 0 [])) rfl (zq_38 h0) ?_
  show zgo _ _ _ (6, [.ref 35, .int 1, .int k, zu], [.int 0], (zsF 0 [] 0 []), 0, 0) = _
  refine zg_nx (y := (9, [.ref 35, .int 1, .int k, zu], [], (zsF 0 [] 0 []), 0, 0)) rfl ?_
  refine zg_nx (y := (10, [.ref 35, .int 1, .int k, zu], [.int (-1)], (zsF 0 [] 0 []), 0, 0)) rfl ?_
  exact zg_ret rfl

/-- DesignReader.write -/
theorem zq_57 {k : Int32} (h0 : ¬ (k < 0)) (h1 : 1 ≤ k) : zrun 20000 8 9 [.ref 0, .int 1, .int k] (zsF 0 [] 0 []) = some (some (.int (-1)), (zsF 0 [] 0 [])) := by
  refine zr_of (m := zm_D_write) rfl (Nat.le_of_ble_eq_true rfl) ?_
  show zgo _ _ _ (0, [.ref 0, .int 1, .int k], [], (zsF 0 [] 0 []), 0, 0) = _
  refine zg_nx (y := (1, [.ref 0, .int 1, .int k], [.ref 0], (zsF 0 [] 0 []), 0, 0)) rfl ?_
  refine zg_nx (y := (2, [.ref 0, .int 1, .int k], [.int 1, .ref 0], (zsF 0 [] 0 []), 0, 0)) rfl ?_
  refine zg_nx (y := (3, [.ref 0, .int 1, .int k], [.int k, .int 1, .ref 0], (zsF 0 [] 0 []), 0, 0)) rfl ?_
  refine zg_call (n := 14) (as := [.ref 0, .int 1, .int k]) (pc := 6) (lv := [.ref 0, .int 1, .int k]) (stk := []) (st := (zsF 0 [] 0 [])) (c := 0) (s := 0) (v := (some (.int 0))) (st' := (zsF 0 [] 0 [])) rfl (zq_40 h0 h1) ?_
  show zgo _ _ _ (6, [.ref 0, .int 1, .int k], [.int 0], (zsF 0 [] 0 []), 0, 0) = _
  refine zg_nx (y := (26, [.ref 0, .int 1, .int k], [], (zsF 0 [] 0 []), 0, 0)) rfl ?_
  refine zg_nx (y := (27, [.ref 0, .int 1, .int k], [.int (-1)], (zsF 0 [] 0 []), 0, 0)) rfl ?_
  exact zg_ret rfl

/-- DesignReaderModel.write -/
theorem zq_58 {k : Int32} (h0 : ¬ (k < 0)) (h1 : 1 ≤ k) : zrun 20000 8 36 [.ref 35, .int 1, .int k] (zsF 0 [] 0 []) = some (some (.int (-1)), (zsF 0 [] 0 [])) := by
  refine zr_of (m := zm_R_write) rfl (Nat.le_of_ble_eq_true rfl) ?_
  show zgo _ _ _ (0, [.ref 35, .int 1, .int k, zu], [], (zsF 0 [] 0 []), 0, 0) = _
  refine zg_nx (y := (1, [.ref 35, .int 1, .int k, zu], [.ref 35], (zsF 0 [] 0 []), 0, 0)) rfl ?_
  refine zg_nx (y := (2, [.ref 35, .int 1, .int k, zu], [.int 1, .ref 35], (zsF 0 [] 0 []), 0, 0)) rfl ?_
  refine zg_nx (y := (3, [.ref 35, .int 1, .int k, zu], [.int k, .int 1, .ref 35], (zsF 0 [] 0 []), 0, 0)) rfl ?_
  refine zg_call (n := 24) (as := [.ref 35, .int 1, .int k]) (pc := 6) (lv := [.ref 35, .int 1, .int k, zu]) (stk := []) (st := (zsF 0 [] 0 [])) (c := 0) (s := 0) (v := (some (.int 0))) (st' := (zsF 0 [] 0 [])) rfl (zq_42 h0 h1) ?_
  show zgo _ _ _ (6, [.ref 35, .int 1, .int k, zu], [.int 0], (zsF 0 [] 0 []), 0, 0) = _
  refine zg_nx (y := (9, [.ref 35, .int 1, .int k, zu], [], (zsF 0 [] 0 []), 0, 0)) rfl ?_
  refine zg_nx (y := (10, [.ref 35, .int 1, .int k, zu], [.int (-1)], (zsF 0 [] 0 []), 0, 0)) rfl ?_
  exact zg_ret rfl

/-- DesignReader.write -/
theorem zq_59 {t k : Int32} (h0 : ¬ (t < 0)) (h1 : 2 ≤ t) : zrun 20000 8 9 [.ref 0, .int t, .int k] (zsF 0 [] 0 []) = some (some (.int (-1)), (zsF 0 [] 0 [])) := by
  refine zr_of (m := zm_D_write) rfl (Nat.le_of_ble_eq_true rfl) ?_
  show zgo _ _ _ (0, [.ref 0, .int t, .int k], [], (zsF 0 [] 0 []), 0, 0) = _
  refine zg_nx (y := (1, [.ref 0, .int t, .int k], [.ref 0], (zsF 0 [] 0 []), 0, 0)) rfl ?_
  refine zg_nx (y := (2, [.ref 0, .int t, .int k], [.int t, .ref 0], (zsF 0 [] 0 []), 0, 0)) rfl ?_
  refine zg_nx (y := (3, [.ref 0, .int t, .int k], [.int k, .int t, .ref 0], (zsF 0 [] 0 []), 0, 0)) rfl ?_
  refine zg_call (n := 14) (as := [.ref 0, .int t, .int k]) (pc := 6) (lv := [.ref 0, .int t, .int k]) (stk := []) (st := (zsF 0 [] 0 [])) (c := 0) (s := 0) (v := (some (.int 0))) (st' := (zsF 0 [] 0 [])) rfl (zq_45 h0 h1) ?_
  show zgo _ _ _ (6, [.ref 0, .int t, .int k], [.int 0], (zsF 0 [] 0 []), 0, 0) = _
  refine zg_nx (y := (26, [.ref 0, .int t, .int k], [], (zsF 0 [] 0 []), 0, 0)) rfl ?_
  refine zg_nx (y := (27, [.ref 0, .int t, .int k], [.int (-1)], (zsF 0 [] 0 []), 0, 0)) rfl ?_
  exact zg_ret rfl

/-- DesignReaderModel.write -/
theorem zq_60 {t k : Int32} (h0 : ¬ (t < 0)) (h1 : 2 ≤ t) : zrun 20000 8 36 [.ref 35, .int t, .int k] (zsF 0 [] 0 []) = some (some (.int (-1)), (zsF 0 [] 0 [])) := by
  refine zr_of (m := zm_R_write) rfl (Nat.le_of_ble_eq_true rfl) ?_
  show zgo _ _ _ (0, [.ref 35, .int t, .int k, zu], [], (zsF 0 [] 0 []), 0, 0) = _
  refine zg_nx (y := (1, [.ref 35, .int t, .int k, zu], [.ref 35], (zsF 0 [] 0 []), 0, 0)) rfl ?_
  refine zg_nx (y := (2, [.ref 35, .int t, .int k, zu], [.int t, .ref 35], (zsF 0 [] 0 []), 0, 0)) rfl ?_
  refine zg_nx (y := (3, [.ref 35, .int t, .int k, zu], [.int k, .int t, .ref 35], (zsF 0 [] 0 []), 0, 0)) rfl ?_
  refine zg_call (n := 24) (as := [.ref 35, .int t, .int k]) (pc := 6) (lv := [.ref 35, .int t, .int k, zu]) (stk := []) (st := (zsF 0 [] 0 [])) (c := 0) (s := 0) (v := (some (.int 0))) (st' := (zsF 0 [] 0 [])) rfl (zq_47 h0 h1) ?_
  show zgo _ _ _ (6, [.ref 35, .int t, .int k, zu], [.int 0], (zsF 0 [] 0 []), 0, 0) = _
  refine zg_nx (y := (9, [.ref 35, .int t, .int k, zu], [], (zsF 0 [] 0 []), 0, 0)) rfl ?_
  refine zg_nx (y := (10, [.ref 35, .int t, .int k, zu], [.int (-1)], (zsF 0 [] 0 []), 0, 0)) rfl ?_
  exact zg_ret rfl

/-- DesignReader.part -/
theorem zq_61 {t k i : Int32} (h0 : t < 0) : zrun 20000 8 5 [.ref 0, .int t, .int k, .int i] (zsF 0 [] 0 []) = some (some (.int (-1)), (zsF 0 [] 0 [])) := by
  refine zr_of (m := zm_D_part) rfl (Nat.le_of_ble_eq_true rfl) ?_
  show zgo _ _ _ (0, [.ref 0, .int t, .int k, .int i], [], (zsF 0 [] 0 []), 0, 0) = _
  refine zg_nx (y := (1, [.ref 0, .int t, .int k, .int i], [.ref 0], (zsF 0 [] 0 []), 0, 0)) rfl ?_
  refine zg_nx (y := (2, [.ref 0, .int t, .int k, .int i], [.int t, .ref 0], (zsF 0 [] 0 []), 0, 0)) rfl ?_
  refine zg_nx (y := (3, [.ref 0, .int t, .int k, .int i], [.int k, .int t, .ref 0], (zsF 0 [] 0 []), 0, 0)) rfl ?_
  refine zg_call (n := 14) (as := [.ref 0, .int t, .int k]) (pc := 6) (lv := [.ref 0, .int t, .int k, .int i]) (stk := []) (st := (zsF 0 [] 0 [])) (c := 0) (s := 0) (v := (some (.int 0))) (st' := (zsF 0 [] 0 [])) rfl (zq_22 h0) ?_
  show zgo _ _ _ (6, [.ref 0, .int t, .int k, .int i], [.int 0], (zsF 0 [] 0 []), 0, 0) = _
  refine zg_nx (y := (23, [.ref 0, .int t, .int k, .int i], [], (zsF 0 [] 0 []), 0, 0)) rfl ?_
  refine zg_nx (y := (24, [.ref 0, .int t, .int k, .int i], [.int (-1)], (zsF 0 [] 0 []), 0, 0)) rfl ?_
  exact zg_ret rfl

/-- DesignReaderModel.part -/
theorem zq_62 {t k i : Int32} (h0 : t < 0) : zrun 20000 8 27 [.ref 35, .int t, .int k, .int i] (zsF 0 [] 0 []) = some (some (.int (-1)), (zsF 0 [] 0 [])) := by
  refine zr_of (m := zm_R_part) rfl (Nat.le_of_ble_eq_true rfl) ?_
  show zgo _ _ _ (0, [.ref 35, .int t, .int k, .int i, zu, zu], [], (zsF 0 [] 0 []), 0, 0) = _
  refine zg_nx (y := (1, [.ref 35, .int t, .int k, .int i, zu, zu], [.ref 35], (zsF 0 [] 0 []), 0, 0)) rfl ?_
  refine zg_nx (y := (2, [.ref 35, .int t, .int k, .int i, zu, zu], [.int t, .ref 35], (zsF 0 [] 0 []), 0, 0)) rfl ?_
  refine zg_nx (y := (3, [.ref 35, .int t, .int k, .int i, zu, zu], [.int k, .int t, .ref 35], (zsF 0 [] 0 []), 0, 0)) rfl ?_
  refine zg_call (n := 24) (as := [.ref 35, .int t, .int k]) (pc := 6) (lv := [.ref 35, .int t, .int k, .int i, zu, zu]) (stk := []) (st := (zsF 0 [] 0 [])) (c := 0) (s := 0) (v := (some (.int 0))) (st' := (zsF 0 [] 0 [])) rfl (zq_24 h0) ?_
  show zgo _ _ _ (6, [.ref 35, .int t, .int k, .int i, zu, zu], [.int 0], (zsF 0 [] 0 []), 0, 0) = _
  refine zg_nx (y := (13, [.ref 35, .int t, .int k, .int i, zu, zu], [], (zsF 0 [] 0 []), 0, 0)) rfl ?_
  refine zg_nx (y := (14, [.ref 35, .int t, .int k, .int i, zu, zu], [.int (-1)], (zsF 0 [] 0 []), 0, 0)) rfl ?_
  exact zg_ret rfl

/-- DesignReader.isNode -/
theorem zq_63 : zrun 20000 7 14 [.ref 0, .int 0, .int 0] (zsF 0 [] 0 []) = some (some (.int 1), (zsF 0 [] 0 [])) := by
  refine zr_of (m := zm_D_isNode) rfl (Nat.le_of_ble_eq_true rfl) ?_
  show zgo _ _ _ (0, [.ref 0, .int 0, .int 0], [], (zsF 0 [] 0 []), 0, 0) = _
  refine zg_nx (y := (1, [.ref 0, .int 0, .int 0], [.ref 0], (zsF 0 [] 0 []), 0, 0)) rfl ?_
  refine zg_nx (y := (2, [.ref 0, .int 0, .int 0], [.int 0, .ref 0], (zsF 0 [] 0 []), 0, 0)) rfl ?_
  refine zg_call (n := 13) (as := [.ref 0, .int 0]) (pc := 5) (lv := [.ref 0, .int 0, .int 0]) (stk := []) (st := (zsF 0 [] 0 [])) (c := 0) (s := 0) (v := (some (.int 1))) (st' := (zsF 0 [] 0 [])) rfl (zq_26) ?_
  show zgo _ _ _ (5, [.ref 0, .int 0, .int 0], [.int 1], (zsF 0 [] 0 []), 0, 0) = _
  refine zg_nx (y := (8, [.ref 0, .int 0, .int 0], [], (zsF 0 [] 0 []), 0, 0)) rfl ?_
  refine zg_nx (y := (9, [.ref 0, .int 0, .int 0], [.int 0], (zsF 0 [] 0 []), 0, 0)) rfl ?_
  refine zg_nx (y := (12, [.ref 0, .int 0, .int 0], [], (zsF 0 [] 0 []), 0, 0)) rfl ?_
  refine zg_nx (y := (13, [.ref 0, .int 0, .int 0], [.int 0], (zsF 0 [] 0 []), 0, 0)) rfl ?_
  refine zg_nx (y := (14, [.ref 0, .int 0, .int 0], [.ref 0, .int 0], (zsF 0 [] 0 []), 0, 0)) rfl ?_
  refine zg_nx (y := (17, [.ref 0, .int 0, .int 0], [.ref 1, .int 0], (zsF 0 [] 0 []), 0, 0)) rfl ?_
  refine zg_nx (y := (18, [.ref 0, .int 0, .int 0], [.int 0, .ref 1, .int 0], (zsF 0 [] 0 []), 0, 0)) rfl ?_
  refine zg_nx (y := (19, [.ref 0, .int 0, .int 0], [.ref 2, .int 0], (zsF 0 [] 0 []), 0, 0)) rfl ?_
  refine zg_nx (y := (22, [.ref 0, .int 0, .int 0], [.int 1, .int 0], (zsF 0 [] 0 []), 0, 0)) rfl ?_
  refine zg_nx (y := (25, [.ref 0, .int 0, .int 0], [], (zsF 0 [] 0 []), 0, 0)) rfl ?_
  refine zg_nx (y := (26, [.ref 0, .int 0, .int 0], [.int 1], (zsF 0 [] 0 []), 0, 0)) rfl ?_
  refine zg_nx (y := (30, [.ref 0, .int 0, .int 0], [.int 1], (zsF 0 [] 0 []), 0, 0)) rfl ?_
  exact zg_ret rfl

/-- DesignReader$Tree.partOf -/
theorem zq_64 {i : Int32} (h0 : i < 0) : zrun 20000 7 55 [.ref 2, .int 0, .int i] (zsF 0 [] 0 []) = some (some (.int (-1)), (zsF 0 [] 0 [])) := by
  refine zr_of (m := zm_T_partOf) rfl (Nat.le_of_ble_eq_true rfl) ?_
  show zgo _ _ _ (0, [.ref 2, .int 0, .int i, zu, zu], [], (zsF 0 [] 0 []), 0, 0) = _
  refine zg_nx (y := (1, [.ref 2, .int 0, .int i, zu, zu], [.int i], (zsF 0 [] 0 []), 0, 0)) rfl ?_
  refine zg_brT (P := i < 0) (b := (zn 4 [.ref 2, .int 0, .int i, zu, zu] [] (zsF 0 [] 0 []) 0 0)) (pc := 14) (lv := [.ref 2, .int 0, .int i, zu, zu]) (stk := []) (st := (zsF 0 [] 0 [])) (c := 0) (s := 0) rfl h0 ?_
  refine zg_nx (y := (15, [.ref 2, .int 0, .int i, zu, zu], [.int (-1)], (zsF 0 [] 0 []), 0, 0)) rfl ?_
  exact zg_ret rfl

/-- DesignReader.part -/
theorem zq_65 {i : Int32} (h0 : i < 0) : zrun 20000 8 5 [.ref 0, .int 0, .int 0, .int i] (zsF 0 [] 0 []) = some (some (.int (-1)), (zsF 0 [] 0 [])) := by
  refine zr_of (m := zm_D_part) rfl (Nat.le_of_ble_eq_true rfl) ?_
  show zgo _ _ _ (0, [.ref 0, .int 0, .int 0, .int i], [], (zsF 0 [] 0 []), 0, 0) = _
  refine zg_nx (y := (1, [.ref 0, .int 0, .int 0, .int i], [.ref 0], (zsF 0 [] 0 []), 0, 0)) rfl ?_
  refine zg_nx (y := (2, [.ref 0, .int 0, .int 0, .int i], [.int 0, .ref 0], (zsF 0 [] 0 []), 0, 0)) rfl ?_
  refine zg_nx (y := (3, [.ref 0, .int 0, .int 0, .int i], [.int 0, .int 0, .ref 0], (zsF 0 [] 0 []), 0, 0)) rfl ?_
  refine zg_call (n := 14) (as := [.ref 0, .int 0, .int 0]) (pc := 6) (lv := [.ref 0, .int 0, .int 0, .int i]) (stk := []) (st := (zsF 0 [] 0 [])) (c := 0) (s := 0) (v := (some (.int 1))) (st' := (zsF 0 [] 0 [])) rfl (zq_63) ?_
  show zgo _ _ _ (6, [.ref 0, .int 0, .int 0, .int i], [.int 1], (zsF 0 [] 0 []), 0, 0) = _
  refine zg_nx (y := (9, [.ref 0, .int 0, .int 0, .int i], [], (zsF 0 [] 0 []), 0, 0)) rfl ?_
  refine zg_nx (y := (10, [.ref 0, .int 0, .int 0, .int i], [.ref 0], (zsF 0 [] 0 []), 0, 0)) rfl ?_
  refine zg_nx (y := (13, [.ref 0, .int 0, .int 0, .int i], [.ref 1], (zsF 0 [] 0 []), 0, 0)) rfl ?_
  refine zg_nx (y := (14, [.ref 0, .int 0, .int 0, .int i], [.int 0, .ref 1], (zsF 0 [] 0 []), 0, 0)) rfl ?_
  refine zg_nx (y := (15, [.ref 0, .int 0, .int 0, .int i], [.ref 2], (zsF 0 [] 0 []), 0, 0)) rfl ?_
  refine zg_nx (y := (16, [.ref 0, .int 0, .int 0, .int i], [.int 0, .ref 2], (zsF 0 [] 0 []), 0, 0)) rfl ?_
  refine zg_nx (y := (17, [.ref 0, .int 0, .int 0, .int i], [.int i, .int 0, .ref 2], (zsF 0 [] 0 []), 0, 0)) rfl ?_
  refine zg_call (n := 55) (as := [.ref 2, .int 0, .int i]) (pc := 20) (lv := [.ref 0, .int 0, .int 0, .int i]) (stk := []) (st := (zsF 0 [] 0 [])) (c := 0) (s := 0) (v := (some (.int (-1)))) (st' := (zsF 0 [] 0 [])) rfl (zq_64 h0) ?_
  show zgo _ _ _ (20, [.ref 0, .int 0, .int 0, .int i], [.int (-1)], (zsF 0 [] 0 []), 0, 0) = _
  refine zg_nx (y := (24, [.ref 0, .int 0, .int 0, .int i], [.int (-1)], (zsF 0 [] 0 []), 0, 0)) rfl ?_
  exact zg_ret rfl

/-- DesignReaderModel.has -/
theorem zq_66 : zrun 20000 7 24 [.ref 35, .int 0, .int 0] (zsF 0 [] 0 []) = some (some (.int 1), (zsF 0 [] 0 [])) := by
  refine zr_of (m := zm_R_has) rfl (Nat.le_of_ble_eq_true rfl) ?_
  show zgo _ _ _ (0, [.ref 35, .int 0, .int 0], [], (zsF 0 [] 0 []), 0, 0) = _
  refine zg_nx (y := (1, [.ref 35, .int 0, .int 0], [.int 0], (zsF 0 [] 0 []), 0, 0)) rfl ?_
  refine zg_nx (y := (4, [.ref 35, .int 0, .int 0], [], (zsF 0 [] 0 []), 0, 0)) rfl ?_
  refine zg_nx (y := (5, [.ref 35, .int 0, .int 0], [.int 0], (zsF 0 [] 0 []), 0, 0)) rfl ?_
  refine zg_nx (y := (6, [.ref 35, .int 0, .int 0], [.int 2, .int 0], (zsF 0 [] 0 []), 0, 0)) rfl ?_
  refine zg_nx (y := (9, [.ref 35, .int 0, .int 0], [], (zsF 0 [] 0 []), 0, 0)) rfl ?_
  refine zg_nx (y := (10, [.ref 35, .int 0, .int 0], [.int 0], (zsF 0 [] 0 []), 0, 0)) rfl ?_
  refine zg_nx (y := (13, [.ref 35, .int 0, .int 0], [], (zsF 0 [] 0 []), 0, 0)) rfl ?_
  refine zg_nx (y := (14, [.ref 35, .int 0, .int 0], [.int 0], (zsF 0 [] 0 []), 0, 0)) rfl ?_
  refine zg_nx (y := (15, [.ref 35, .int 0, .int 0], [.ref 35, .int 0], (zsF 0 [] 0 []), 0, 0)) rfl ?_
  refine zg_nx (y := (18, [.ref 35, .int 0, .int 0], [.ref 54, .int 0], (zsF 0 [] 0 []), 0, 0)) rfl ?_
  refine zg_nx (y := (19, [.ref 35, .int 0, .int 0], [.int 0, .ref 54, .int 0], (zsF 0 [] 0 []), 0, 0)) rfl ?_
  refine zg_nx (y := (20, [.ref 35, .int 0, .int 0], [.int 1, .int 0], (zsF 0 [] 0 []), 0, 0)) rfl ?_
  refine zg_nx (y := (23, [.ref 35, .int 0, .int 0], [], (zsF 0 [] 0 []), 0, 0)) rfl ?_
  refine zg_nx (y := (24, [.ref 35, .int 0, .int 0], [.int 1], (zsF 0 [] 0 []), 0, 0)) rfl ?_
  refine zg_nx (y := (28, [.ref 35, .int 0, .int 0], [.int 1], (zsF 0 [] 0 []), 0, 0)) rfl ?_
  exact zg_ret rfl

/-- DesignReaderModel.part -/
theorem zq_67 {i : Int32} (h0 : ¬ (0 ≤ i)) : zrun 20000 8 27 [.ref 35, .int 0, .int 0, .int i] (zsF 0 [] 0 []) = some (some (.int (-1)), (zsF 0 [] 0 [])) := by
  refine zr_of (m := zm_R_part) rfl (Nat.le_of_ble_eq_true rfl) ?_
  show zgo _ _ _ (0, [.ref 35, .int 0, .int 0, .int i, zu, zu], [], (zsF 0 [] 0 []), 0, 0) = _
  refine zg_nx (y := (1, [.ref 35, .int 0, .int 0, .int i, zu, zu], [.ref 35], (zsF 0 [] 0 []), 0, 0)) rfl ?_
  refine zg_nx (y := (2, [.ref 35, .int 0, .int 0, .int i, zu, zu], [.int 0, .ref 35], (zsF 0 [] 0 []), 0, 0)) rfl ?_
  refine zg_nx (y := (3, [.ref 35, .int 0, .int 0, .int i, zu, zu], [.int 0, .int 0, .ref 35], (zsF 0 [] 0 []), 0, 0)) rfl ?_
  refine zg_call (n := 24) (as := [.ref 35, .int 0, .int 0]) (pc := 6) (lv := [.ref 35, .int 0, .int 0, .int i, zu, zu]) (stk := []) (st := (zsF 0 [] 0 [])) (c := 0) (s := 0) (v := (some (.int 1))) (st' := (zsF 0 [] 0 [])) rfl (zq_66) ?_
  show zgo _ _ _ (6, [.ref 35, .int 0, .int 0, .int i, zu, zu], [.int 1], (zsF 0 [] 0 []), 0, 0) = _
  refine zg_nx (y := (9, [.ref 35, .int 0, .int 0, .int i, zu, zu], [], (zsF 0 [] 0 []), 0, 0)) rfl ?_
  refine zg_nx (y := (10, [.ref 35, .int 0, .int 0, .int i, zu, zu], [.int i], (zsF 0 [] 0 []), 0, 0)) rfl ?_
  refine zg_brF (P := 0 ≤ i) (a := (zn 15 [.ref 35, .int 0, .int 0, .int i, zu, zu] [] (zsF 0 [] 0 []) 0 0)) (pc := 13) (lv := [.ref 35, .int 0, .int 0, .int i, zu, zu]) (stk := []) (st := (zsF 0 [] 0 [])) (c := 0) (s := 0) rfl h0 ?_
  refine zg_nx (y := (14, [.ref 35, .int 0, .int 0, .int i, zu, zu], [.int (-1)], (zsF 0 [] 0 []), 0, 0)) rfl ?_
  exact zg_ret rfl

/-- DesignReader$Tree.partOf -/
theorem zq_68 {i : Int32} (h0 : ¬ (i < 0)) : zrun 20000 7 55 [.ref 2, .int 0, .int i] (zsF 0 [] 0 []) = some (some (.int (-1)), (zsF 0 [] 0 [])) := by
  refine zr_of (m := zm_T_partOf) rfl (Nat.le_of_ble_eq_true rfl) ?_
  show zgo _ _ _ (0, [.ref 2, .int 0, .int i, zu, zu], [], (zsF 0 [] 0 []), 0, 0) = _
  refine zg_nx (y := (1, [.ref 2, .int 0, .int i, zu, zu], [.int i], (zsF 0 [] 0 []), 0, 0)) rfl ?_
  refine zg_brF (P := i < 0) (a := (zn 14 [.ref 2, .int 0, .int i, zu, zu] [] (zsF 0 [] 0 []) 0 0)) (pc := 4) (lv := [.ref 2, .int 0, .int i, zu, zu]) (stk := []) (st := (zsF 0 [] 0 [])) (c := 0) (s := 0) rfl h0 ?_
  refine zg_nx (y := (5, [.ref 2, .int 0, .int i, zu, zu], [.int i], (zsF 0 [] 0 []), 0, 0)) rfl ?_
  refine zg_nx (y := (6, [.ref 2, .int 0, .int i, zu, zu], [.ref 2, .int i], (zsF 0 [] 0 []), 0, 0)) rfl ?_
  refine zg_nx (y := (9, [.ref 2, .int 0, .int i, zu, zu], [.ref 7, .int i], (zsF 0 [] 0 []), 0, 0)) rfl ?_
  refine zg_nx (y := (10, [.ref 2, .int 0, .int i, zu, zu], [.int 0, .ref 7, .int i], (zsF 0 [] 0 []), 0, 0)) rfl ?_
  refine zg_nx (y := (11, [.ref 2, .int 0, .int i, zu, zu], [.int 0, .int i], (zsF 0 [] 0 []), 0, 0)) rfl ?_
  refine zg_brF (P := i < 0) (a := (zn 16 [.ref 2, .int 0, .int i, zu, zu] [] (zsF 0 [] 0 []) 0 0)) (pc := 14) (lv := [.ref 2, .int 0, .int i, zu, zu]) (stk := []) (st := (zsF 0 [] 0 [])) (c := 0) (s := 0) rfl h0 ?_
  refine zg_nx (y := (15, [.ref 2, .int 0, .int i, zu, zu], [.int (-1)], (zsF 0 [] 0 []), 0, 0)) rfl ?_
  exact zg_ret rfl

/-- DesignReader.part -/
theorem zq_69 {i : Int32} (h0 : ¬ (i < 0)) : zrun 20000 8 5 [.ref 0, .int 0, .int 0, .int i] (zsF 0 [] 0 []) = some (some (.int (-1)), (zsF 0 [] 0 [])) := by
  refine zr_of (m := zm_D_part) rfl (Nat.le_of_ble_eq_true rfl) ?_
  show zgo _ _ _ (0, [.ref 0, .int 0, .int 0, .int i], [], (zsF 0 [] 0 []), 0, 0) = _
  refine zg_nx (y := (1, [.ref 0, .int 0, .int 0, .int i], [.ref 0], (zsF 0 [] 0 []), 0, 0)) rfl ?_
  refine zg_nx (y := (2, [.ref 0, .int 0, .int 0, .int i], [.int 0, .ref 0], (zsF 0 [] 0 []), 0, 0)) rfl ?_
  refine zg_nx (y := (3, [.ref 0, .int 0, .int 0, .int i], [.int 0, .int 0, .ref 0], (zsF 0 [] 0 []), 0, 0)) rfl ?_
  refine zg_call (n := 14) (as := [.ref 0, .int 0, .int 0]) (pc := 6) (lv := [.ref 0, .int 0, .int 0, .int i]) (stk := []) (st := (zsF 0 [] 0 [])) (c := 0) (s := 0) (v := (some (.int 1))) (st' := (zsF 0 [] 0 [])) rfl (zq_63) ?_
  show zgo _ _ _ (6, [.ref 0, .int 0, .int 0, .int i], [.int 1], (zsF 0 [] 0 []), 0, 0) = _
  refine zg_nx (y := (9, [.ref 0, .int 0, .int 0, .int i], [], (zsF 0 [] 0 []), 0, 0)) rfl ?_
  refine zg_nx (y := (10, [.ref 0, .int 0, .int 0, .int i], [.ref 0], (zsF 0 [] 0 []), 0, 0)) rfl ?_
  refine zg_nx (y := (13, [.ref 0, .int 0, .int 0, .int i], [.ref 1], (zsF 0 [] 0 []), 0, 0)) rfl ?_
  refine zg_nx (y := (14, [.ref 0, .int 0, .int 0, .int i], [.int 0, .ref 1], (zsF 0 [] 0 []), 0, 0)) rfl ?_
  refine zg_nx (y := (15, [.ref 0, .int 0, .int 0, .int i], [.ref 2], (zsF 0 [] 0 []), 0, 0)) rfl ?_
  refine zg_nx (y := (16, [.ref 0, .int 0, .int 0, .int i], [.int 0, .ref 2], (zsF 0 [] 0 []), 0, 0)) rfl ?_
  refine zg_nx (y := (17, [.ref 0, .int 0, .int 0, .int i], [.int i, .int 0, .ref 2], (zsF 0 [] 0 []), 0, 0)) rfl ?_
  refine zg_call (n := 55) (as := [.ref 2, .int 0, .int i]) (pc := 20) (lv := [.ref 0, .int 0, .int 0, .int i]) (stk := []) (st := (zsF 0 [] 0 [])) (c := 0) (s := 0) (v := (some (.int (-1)))) (st' := (zsF 0 [] 0 [])) rfl (zq_68 h0) ?_
  show zgo _ _ _ (20, [.ref 0, .int 0, .int 0, .int i], [.int (-1)], (zsF 0 [] 0 []), 0, 0) = _
  refine zg_nx (y := (24, [.ref 0, .int 0, .int 0, .int i], [.int (-1)], (zsF 0 [] 0 []), 0, 0)) rfl ?_
  exact zg_ret rfl

/-- DesignReaderModel.part -/
theorem zq_70 {i : Int32} (h0 : 0 ≤ i) : zrun 20000 8 27 [.ref 35, .int 0, .int 0, .int i] (zsF 0 [] 0 []) = some (some (.int (-1)), (zsF 0 [] 0 [])) := by
  refine zr_of (m := zm_R_part) rfl (Nat.le_of_ble_eq_true rfl) ?_
  show zgo _ _ _ (0, [.ref 35, .int 0, .int 0, .int i, zu, zu], [], (zsF 0 [] 0 []), 0, 0) = _
  refine zg_nx (y := (1, [.ref 35, .int 0, .int 0, .int i, zu, zu], [.ref 35], (zsF 0 [] 0 []), 0, 0)) rfl ?_
  refine zg_nx (y := (2, [.ref 35, .int 0, .int 0, .int i, zu, zu], [.int 0, .ref 35], (zsF 0 [] 0 []), 0, 0)) rfl ?_
  refine zg_nx (y := (3, [.ref 35, .int 0, .int 0, .int i, zu, zu], [.int 0, .int 0, .ref 35], (zsF 0 [] 0 []), 0, 0)) rfl ?_
  refine zg_call (n := 24) (as := [.ref 35, .int 0, .int 0]) (pc := 6) (lv := [.ref 35, .int 0, .int 0, .int i, zu, zu]) (stk := []) (st := (zsF 0 [] 0 [])) (c := 0) (s := 0) (v := (some (.int 1))) (st' := (zsF 0 [] 0 [])) rfl (zq_66) ?_
  show zgo _ _ _ (6, [.ref 35, .int 0, .int 0, .int i, zu, zu], [.int 1], (zsF 0 [] 0 []), 0, 0) = _
  refine zg_nx (y := (9, [.ref 35, .int 0, .int 0, .int i, zu, zu], [], (zsF 0 [] 0 []), 0, 0)) rfl ?_
  refine zg_nx (y := (10, [.ref 35, .int 0, .int 0, .int i, zu, zu], [.int i], (zsF 0 [] 0 []), 0, 0)) rfl ?_
  refine zg_brT (P := 0 ≤ i) (b := (zn 13 [.ref 35, .int 0, .int 0, .int i, zu, zu] [] (zsF 0 [] 0 []) 0 0)) (pc := 15) (lv := [.ref 35, .int 0, .int 0, .int i, zu, zu]) (stk := []) (st := (zsF 0 [] 0 [])) (c := 0) (s := 0) rfl h0 ?_
  refine zg_nx (y := (16, [.ref 35, .int 0, .int 0, .int i, zu, zu], [.int 0], (zsF 0 [] 0 []), 0, 0)) rfl ?_
  refine zg_nx (y := (18, [.ref 35, .int 0, .int 0, .int i, .int 0, zu], [], (zsF 0 [] 0 []), 0, 0)) rfl ?_
  refine zg_nx (y := (19, [.ref 35, .int 0, .int 0, .int i, .int 0, zu], [.int 0], (zsF 0 [] 0 []), 0, 0)) rfl ?_
  refine zg_nx (y := (20, [.ref 35, .int 0, .int 0, .int i, .int 0, zu], [.int 1, .int 0], (zsF 0 [] 0 []), 0, 0)) rfl ?_
  refine zg_nx (y := (21, [.ref 35, .int 0, .int 0, .int i, .int 0, zu], [.int 1], (zsF 0 [] 0 []), 0, 0)) rfl ?_
  refine zg_nx (y := (23, [.ref 35, .int 0, .int 0, .int i, .int 0, .int 1], [], (zsF 0 [] 0 []), 0, 0)) rfl ?_
  refine zg_nx (y := (25, [.ref 35, .int 0, .int 0, .int i, .int 0, .int 1], [.int 1], (zsF 0 [] 0 []), 0, 0)) rfl ?_
  refine zg_nx (y := (26, [.ref 35, .int 0, .int 0, .int i, .int 0, .int 1], [.int 0, .int 1], (zsF 0 [] 0 []), 0, 0)) rfl ?_
  refine zg_nx (y := (27, [.ref 35, .int 0, .int 0, .int i, .int 0, .int 1], [.ref 35, .int 0, .int 1], (zsF 0 [] 0 []), 0, 0)) rfl ?_
  refine zg_nx (y := (30, [.ref 35, .int 0, .int 0, .int i, .int 0, .int 1], [.ref 53, .int 0, .int 1], (zsF 0 [] 0 []), 0, 0)) rfl ?_
  refine zg_nx (y := (33, [.ref 35, .int 0, .int 0, .int i, .int 0, .int 1], [.int 13000, .ref 53, .int 0, .int 1], (zsF 0 [] 0 []), 0, 0)) rfl ?_
  refine zg_nx (y := (34, [.ref 35, .int 0, .int 0, .int i, .int 0, .int 1], [.int 0, .int 13000, .ref 53, .int 0, .int 1], (zsF 0 [] 0 []), 0, 0)) rfl ?_
  refine zg_nx (y := (35, [.ref 35, .int 0, .int 0, .int i, .int 0, .int 1], [.int 0, .ref 53, .int 0, .int 1], (zsF 0 [] 0 []), 0, 0)) rfl ?_
  refine zg_nx (y := (36, [.ref 35, .int 0, .int 0, .int i, .int 0, .int 1], [.int 0, .int 0, .ref 53, .int 0, .int 1], (zsF 0 [] 0 []), 0, 0)) rfl ?_
  refine zg_nx (y := (37, [.ref 35, .int 0, .int 0, .int i, .int 0, .int 1], [.int 0, .ref 53, .int 0, .int 1], (zsF 0 [] 0 []), 0, 0)) rfl ?_
  refine zg_nx (y := (38, [.ref 35, .int 0, .int 0, .int i, .int 0, .int 1], [.int 1, .int 0, .int 1], (zsF 0 [] 0 []), 0, 0)) rfl ?_
  refine zg_nx (y := (39, [.ref 35, .int 0, .int 0, .int i, .int 0, .int 1], [.int 1, .int 1], (zsF 0 [] 0 []), 0, 0)) rfl ?_
  refine zg_nx (y := (75, [.ref 35, .int 0, .int 0, .int i, .int 0, .int 1], [], (zsF 0 [] 0 []), 0, 0)) rfl ?_
  refine zg_nx (y := (76, [.ref 35, .int 0, .int 0, .int i, .int 0, .int 1], [.int (-1)], (zsF 0 [] 0 []), 0, 0)) rfl ?_
  exact zg_ret rfl

/-- DesignReader.part -/
theorem zq_71 {k i : Int32} (h0 : k < 0) : zrun 20000 8 5 [.ref 0, .int 0, .int k, .int i] (zsF 0 [] 0 []) = some (some (.int (-1)), (zsF 0 [] 0 [])) := by
  refine zr_of (m := zm_D_part) rfl (Nat.le_of_ble_eq_true rfl) ?_
  show zgo _ _ _ (0, [.ref 0, .int 0, .int k, .int i], [], (zsF 0 [] 0 []), 0, 0) = _
  refine zg_nx (y := (1, [.ref 0, .int 0, .int k, .int i], [.ref 0], (zsF 0 [] 0 []), 0, 0)) rfl ?_
  refine zg_nx (y := (2, [.ref 0, .int 0, .int k, .int i], [.int 0, .ref 0], (zsF 0 [] 0 []), 0, 0)) rfl ?_
  refine zg_nx (y := (3, [.ref 0, .int 0, .int k, .int i], [.int k, .int 0, .ref 0], (zsF 0 [] 0 []), 0, 0)) rfl ?_
  refine zg_call (n := 14) (as := [.ref 0, .int 0, .int k]) (pc := 6) (lv := [.ref 0, .int 0, .int k, .int i]) (stk := []) (st := (zsF 0 [] 0 [])) (c := 0) (s := 0) (v := (some (.int 0))) (st' := (zsF 0 [] 0 [])) rfl (zq_27 h0) ?_
  show zgo _ _ _ (6, [.ref 0, .int 0, .int k, .int i], [.int 0], (zsF 0 [] 0 []), 0, 0) = _
  refine zg_nx (y := (23, [.ref 0, .int 0, .int k, .int i], [], (zsF 0 [] 0 []), 0, 0)) rfl ?_
  refine zg_nx (y := (24, [.ref 0, .int 0, .int k, .int i], [.int (-1)], (zsF 0 [] 0 []), 0, 0)) rfl ?_
  exact zg_ret rfl

/-- DesignReaderModel.part -/
theorem zq_72 {k i : Int32} (h0 : k < 0) : zrun 20000 8 27 [.ref 35, .int 0, .int k, .int i] (zsF 0 [] 0 []) = some (some (.int (-1)), (zsF 0 [] 0 [])) := by
  refine zr_of (m := zm_R_part) rfl (Nat.le_of_ble_eq_true rfl) ?_
  show zgo _ _ _ (0, [.ref 35, .int 0, .int k, .int i, zu, zu], [], (zsF 0 [] 0 []), 0, 0) = _
  refine zg_nx (y := (1, [.ref 35, .int 0, .int k, .int i, zu, zu], [.ref 35], (zsF 0 [] 0 []), 0, 0)) rfl ?_
  refine zg_nx (y := (2, [.ref 35, .int 0, .int k, .int i, zu, zu], [.int 0, .ref 35], (zsF 0 [] 0 []), 0, 0)) rfl ?_
  refine zg_nx (y := (3, [.ref 35, .int 0, .int k, .int i, zu, zu], [.int k, .int 0, .ref 35], (zsF 0 [] 0 []), 0, 0)) rfl ?_
  refine zg_call (n := 24) (as := [.ref 35, .int 0, .int k]) (pc := 6) (lv := [.ref 35, .int 0, .int k, .int i, zu, zu]) (stk := []) (st := (zsF 0 [] 0 [])) (c := 0) (s := 0) (v := (some (.int 0))) (st' := (zsF 0 [] 0 [])) rfl (zq_29 h0) ?_
  show zgo _ _ _ (6, [.ref 35, .int 0, .int k, .int i, zu, zu], [.int 0], (zsF 0 [] 0 []), 0, 0) = _
  refine zg_nx (y := (13, [.ref 35, .int 0, .int k, .int i, zu, zu], [], (zsF 0 [] 0 []), 0, 0)) rfl ?_
  refine zg_nx (y := (14, [.ref 35, .int 0, .int k, .int i, zu, zu], [.int (-1)], (zsF 0 [] 0 []), 0, 0)) rfl ?_
  exact zg_ret rfl

/-- DesignReader.part -/
theorem zq_73 {k i : Int32} (h0 : ¬ (k < 0)) (h1 : 1 ≤ k) : zrun 20000 8 5 [.ref 0, .int 0, .int k, .int i] (zsF 0 [] 0 []) = some (some (.int (-1)), (zsF 0 [] 0 [])) := by
  refine zr_of (m := zm_D_part) rfl (Nat.le_of_ble_eq_true rfl) ?_
  show zgo _ _ _ (0, [.ref 0, .int 0, .int k, .int i], [], (zsF 0 [] 0 []), 0, 0) = _
  refine zg_nx (y := (1, [.ref 0, .int 0, .int k, .int i], [.ref 0], (zsF 0 [] 0 []), 0, 0)) rfl ?_
  refine zg_nx (y := (2, [.ref 0, .int 0, .int k, .int i], [.int 0, .ref 0], (zsF 0 [] 0 []), 0, 0)) rfl ?_
  refine zg_nx (y := (3, [.ref 0, .int 0, .int k, .int i], [.int k, .int 0, .ref 0], (zsF 0 [] 0 []), 0, 0)) rfl ?_
  refine zg_call (n := 14) (as := [.ref 0, .int 0, .int k]) (pc := 6) (lv := [.ref 0, .int 0, .int k, .int i]) (stk := []) (st := (zsF 0 [] 0 [])) (c := 0) (s := 0) (v := (some (.int 0))) (st' := (zsF 0 [] 0 [])) rfl (zq_31 h0 h1) ?_
  show zgo _ _ _ (6, [.ref 0, .int 0, .int k, .int i], [.int 0], (zsF 0 [] 0 []), 0, 0) = _
  refine zg_nx (y := (23, [.ref 0, .int 0, .int k, .int i], [], (zsF 0 [] 0 []), 0, 0)) rfl ?_
  refine zg_nx (y := (24, [.ref 0, .int 0, .int k, .int i], [.int (-1)], (zsF 0 [] 0 []), 0, 0)) rfl ?_
  exact zg_ret rfl

/-- DesignReaderModel.part -/
theorem zq_74 {k i : Int32} (h0 : ¬ (k < 0)) (h1 : 1 ≤ k) : zrun 20000 8 27 [.ref 35, .int 0, .int k, .int i] (zsF 0 [] 0 []) = some (some (.int (-1)), (zsF 0 [] 0 [])) := by
  refine zr_of (m := zm_R_part) rfl (Nat.le_of_ble_eq_true rfl) ?_
  show zgo _ _ _ (0, [.ref 35, .int 0, .int k, .int i, zu, zu], [], (zsF 0 [] 0 []), 0, 0) = _
  refine zg_nx (y := (1, [.ref 35, .int 0, .int k, .int i, zu, zu], [.ref 35], (zsF 0 [] 0 []), 0, 0)) rfl ?_
  refine zg_nx (y := (2, [.ref 35, .int 0, .int k, .int i, zu, zu], [.int 0, .ref 35], (zsF 0 [] 0 []), 0, 0)) rfl ?_
  refine zg_nx (y := (3, [.ref 35, .int 0, .int k, .int i, zu, zu], [.int k, .int 0, .ref 35], (zsF 0 [] 0 []), 0, 0)) rfl ?_
  refine zg_call (n := 24) (as := [.ref 35, .int 0, .int k]) (pc := 6) (lv := [.ref 35, .int 0, .int k, .int i, zu, zu]) (stk := []) (st := (zsF 0 [] 0 [])) (c := 0) (s := 0) (v := (some (.int 0))) (st' := (zsF 0 [] 0 [])) rfl (zq_33 h0 h1) ?_
  show zgo _ _ _ (6, [.ref 35, .int 0, .int k, .int i, zu, zu], [.int 0], (zsF 0 [] 0 []), 0, 0) = _
  refine zg_nx (y := (13, [.ref 35, .int 0, .int k, .int i, zu, zu], [], (zsF 0 [] 0 []), 0, 0)) rfl ?_
  refine zg_nx (y := (14, [.ref 35, .int 0, .int k, .int i, zu, zu], [.int (-1)], (zsF 0 [] 0 []), 0, 0)) rfl ?_
  exact zg_ret rfl

/-- DesignReader.isNode -/
theorem zq_75 : zrun 20000 7 14 [.ref 0, .int 1, .int 0] (zsF 0 [] 0 []) = some (some (.int 1), (zsF 0 [] 0 [])) := by
  refine zr_of (m := zm_D_isNode) rfl (Nat.le_of_ble_eq_true rfl) ?_
  show zgo _ _ _ (0, [.ref 0, .int 1, .int 0], [], (zsF 0 [] 0 []), 0, 0) = _
  refine zg_nx (y := (1, [.ref 0, .int 1, .int 0], [.ref 0], (zsF 0 [] 0 []), 0, 0)) rfl ?_
  refine zg_nx (y := (2, [.ref 0, .int 1, .int 0], [.int 1, .ref 0], (zsF 0 [] 0 []), 0, 0)) rfl ?_
  refine zg_call (n := 13) (as := [.ref 0, .int 1]) (pc := 5) (lv := [.ref 0, .int 1, .int 0]) (stk := []) (st := (zsF 0 [] 0 [])) (c := 0) (s := 0) (v := (some (.int 1))) (st' := (zsF 0 [] 0 [])) rfl (zq_35) ?_
  show zgo _ _ _ (5, [.ref 0, .int 1, .int 0], [.int 1], (zsF 0 [] 0 []), 0, 0) = _
  refine zg_nx (y := (8, [.ref 0, .int 1, .int 0], [], (zsF 0 [] 0 []), 0, 0)) rfl ?_
  refine zg_nx (y := (9, [.ref 0, .int 1, .int 0], [.int 0], (zsF 0 [] 0 []), 0, 0)) rfl ?_
  refine zg_nx (y := (12, [.ref 0, .int 1, .int 0], [], (zsF 0 [] 0 []), 0, 0)) rfl ?_
  refine zg_nx (y := (13, [.ref 0, .int 1, .int 0], [.int 0], (zsF 0 [] 0 []), 0, 0)) rfl ?_
  refine zg_nx (y := (14, [.ref 0, .int 1, .int 0], [.ref 0, .int 0], (zsF 0 [] 0 []), 0, 0)) rfl ?_
  refine zg_nx (y := (17, [.ref 0, .int 1, .int 0], [.ref 1, .int 0], (zsF 0 [] 0 []), 0, 0)) rfl ?_
  refine zg_nx (y := (18, [.ref 0, .int 1, .int 0], [.int 1, .ref 1, .int 0], (zsF 0 [] 0 []), 0, 0)) rfl ?_
  refine zg_nx (y := (19, [.ref 0, .int 1, .int 0], [.ref 10, .int 0], (zsF 0 [] 0 []), 0, 0)) rfl ?_
  refine zg_nx (y := (22, [.ref 0, .int 1, .int 0], [.int 1, .int 0], (zsF 0 [] 0 []), 0, 0)) rfl ?_
  refine zg_nx (y := (25, [.ref 0, .int 1, .int 0], [], (zsF 0 [] 0 []), 0, 0)) rfl ?_
  refine zg_nx (y := (26, [.ref 0, .int 1, .int 0], [.int 1], (zsF 0 [] 0 []), 0, 0)) rfl ?_
  refine zg_nx (y := (30, [.ref 0, .int 1, .int 0], [.int 1], (zsF 0 [] 0 []), 0, 0)) rfl ?_
  exact zg_ret rfl

/-- DesignReader$Tree.partOf -/
theorem zq_76 {i : Int32} (h0 : i < 0) : zrun 20000 7 55 [.ref 10, .int 0, .int i] (zsF 0 [] 0 []) = some (some (.int (-1)), (zsF 0 [] 0 [])) := by
  refine zr_of (m := zm_T_partOf) rfl (Nat.le_of_ble_eq_true rfl) ?_
  show zgo _ _ _ (0, [.ref 10, .int 0, .int i, zu, zu], [], (zsF 0 [] 0 []), 0, 0) = _
  refine zg_nx (y := (1, [.ref 10, .int 0, .int i, zu, zu], [.int i], (zsF 0 [] 0 []), 0, 0)) rfl ?_
  refine zg_brT (P := i < 0) (b := (zn 4 [.ref 10, .int 0, .int i, zu, zu] [] (zsF 0 [] 0 []) 0 0)) (pc := 14) (lv := [.ref 10, .int 0, .int i, zu, zu]) (stk := []) (st := (zsF 0 [] 0 [])) (c := 0) (s := 0) rfl h0 ?_
  refine zg_nx (y := (15, [.ref 10, .int 0, .int i, zu, zu], [.int (-1)], (zsF 0 [] 0 []), 0, 0)) rfl ?_
  exact zg_ret rfl

/-- DesignReader.part -/
theorem zq_77 {i : Int32} (h0 : i < 0) : zrun 20000 8 5 [.ref 0, .int 1, .int 0, .int i] (zsF 0 [] 0 []) = some (some (.int (-1)), (zsF 0 [] 0 [])) := by
  refine zr_of (m := zm_D_part) rfl (Nat.le_of_ble_eq_true rfl) ?_
  show zgo _ _ _ (0, [.ref 0, .int 1, .int 0, .int i], [], (zsF 0 [] 0 []), 0, 0) = _
  refine zg_nx (y := (1, [.ref 0, .int 1, .int 0, .int i], [.ref 0], (zsF 0 [] 0 []), 0, 0)) rfl ?_
  refine zg_nx (y := (2, [.ref 0, .int 1, .int 0, .int i], [.int 1, .ref 0], (zsF 0 [] 0 []), 0, 0)) rfl ?_
  refine zg_nx (y := (3, [.ref 0, .int 1, .int 0, .int i], [.int 0, .int 1, .ref 0], (zsF 0 [] 0 []), 0, 0)) rfl ?_
  refine zg_call (n := 14) (as := [.ref 0, .int 1, .int 0]) (pc := 6) (lv := [.ref 0, .int 1, .int 0, .int i]) (stk := []) (st := (zsF 0 [] 0 [])) (c := 0) (s := 0) (v := (some (.int 1))) (st' := (zsF 0 [] 0 [])) rfl (zq_75) ?_
  show zgo _ _ _ (6, [.ref 0, .int 1, .int 0, .int i], [.int 1], (zsF 0 [] 0 []), 0, 0) = _
  refine zg_nx (y := (9, [.ref 0, .int 1, .int 0, .int i], [], (zsF 0 [] 0 []), 0, 0)) rfl ?_
  refine zg_nx (y := (10, [.ref 0, .int 1, .int 0, .int i], [.ref 0], (zsF 0 [] 0 []), 0, 0)) rfl ?_
  refine zg_nx (y := (13, [.ref 0, .int 1, .int 0, .int i], [.ref 1], (zsF 0 [] 0 []), 0, 0)) rfl ?_
  refine zg_nx (y := (14, [.ref 0, .int 1, .int 0, .int i], [.int 1, .ref 1], (zsF 0 [] 0 []), 0, 0)) rfl ?_
  refine zg_nx (y := (15, [.ref 0, .int 1, .int 0, .int i], [.ref 10], (zsF 0 [] 0 []), 0, 0)) rfl ?_
  refine zg_nx (y := (16, [.ref 0, .int 1, .int 0, .int i], [.int 0, .ref 10], (zsF 0 [] 0 []), 0, 0)) rfl ?_
  refine zg_nx (y := (17, [.ref 0, .int 1, .int 0, .int i], [.int i, .int 0, .ref 10], (zsF 0 [] 0 []), 0, 0)) rfl ?_
  refine zg_call (n := 55) (as := [.ref 10, .int 0, .int i]) (pc := 20) (lv := [.ref 0, .int 1, .int 0, .int i]) (stk := []) (st := (zsF 0 [] 0 [])) (c := 0) (s := 0) (v := (some (.int (-1)))) (st' := (zsF 0 [] 0 [])) rfl (zq_76 h0) ?_
  show zgo _ _ _ (20, [.ref 0, .int 1, .int 0, .int i], [.int (-1)], (zsF 0 [] 0 []), 0, 0) = _
  refine zg_nx (y := (24, [.ref 0, .int 1, .int 0, .int i], [.int (-1)], (zsF 0 [] 0 []), 0, 0)) rfl ?_
  exact zg_ret rfl

/-- DesignReaderModel.has -/
theorem zq_78 : zrun 20000 7 24 [.ref 35, .int 1, .int 0] (zsF 0 [] 0 []) = some (some (.int 1), (zsF 0 [] 0 [])) := by
  refine zr_of (m := zm_R_has) rfl (Nat.le_of_ble_eq_true rfl) ?_
  show zgo _ _ _ (0, [.ref 35, .int 1, .int 0], [], (zsF 0 [] 0 []), 0, 0) = _
  refine zg_nx (y := (1, [.ref 35, .int 1, .int 0], [.int 1], (zsF 0 [] 0 []), 0, 0)) rfl ?_
  refine zg_nx (y := (4, [.ref 35, .int 1, .int 0], [], (zsF 0 [] 0 []), 0, 0)) rfl ?_
  refine zg_nx (y := (5, [.ref 35, .int 1, .int 0], [.int 1], (zsF 0 [] 0 []), 0, 0)) rfl ?_
  refine zg_nx (y := (6, [.ref 35, .int 1, .int 0], [.int 2, .int 1], (zsF 0 [] 0 []), 0, 0)) rfl ?_
  refine zg_nx (y := (9, [.ref 35, .int 1, .int 0], [], (zsF 0 [] 0 []), 0, 0)) rfl ?_
  refine zg_nx (y := (10, [.ref 35, .int 1, .int 0], [.int 0], (zsF 0 [] 0 []), 0, 0)) rfl ?_
  refine zg_nx (y := (13, [.ref 35, .int 1, .int 0], [], (zsF 0 [] 0 []), 0, 0)) rfl ?_
  refine zg_nx (y := (14, [.ref 35, .int 1, .int 0], [.int 0], (zsF 0 [] 0 []), 0, 0)) rfl ?_
  refine zg_nx (y := (15, [.ref 35, .int 1, .int 0], [.ref 35, .int 0], (zsF 0 [] 0 []), 0, 0)) rfl ?_
  refine zg_nx (y := (18, [.ref 35, .int 1, .int 0], [.ref 54, .int 0], (zsF 0 [] 0 []), 0, 0)) rfl ?_
  refine zg_nx (y := (19, [.ref 35, .int 1, .int 0], [.int 1, .ref 54, .int 0], (zsF 0 [] 0 []), 0, 0)) rfl ?_
  refine zg_nx (y := (20, [.ref 35, .int 1, .int 0], [.int 1, .int 0], (zsF 0 [] 0 []), 0, 0)) rfl ?_
  refine zg_nx (y := (23, [.ref 35, .int 1, .int 0], [], (zsF 0 [] 0 []), 0, 0)) rfl ?_
  refine zg_nx (y := (24, [.ref 35, .int 1, .int 0], [.int 1], (zsF 0 [] 0 []), 0, 0)) rfl ?_
  refine zg_nx (y := (28, [.ref 35, .int 1, .int 0], [.int 1], (zsF 0 [] 0 []), 0, 0)) rfl ?_
  exact zg_ret rfl

/-- DesignReaderModel.part -/
theorem zq_79 {i : Int32} (h0 : ¬ (0 ≤ i)) : zrun 20000 8 27 [.ref 35, .int 1, .int 0, .int i] (zsF 0 [] 0 []) = some (some (.int (-1)), (zsF 0 [] 0 [])) := by
  refine zr_of (m := zm_R_part) rfl (Nat.le_of_ble_eq_true rfl) ?_
  show zgo _ _ _ (0, [.ref 35, .int 1, .int 0, .int i, zu, zu], [], (zsF 0 [] 0 []), 0, 0) = _
  refine zg_nx (y := (1, [.ref 35, .int 1, .int 0, .int i, zu, zu], [.ref 35], (zsF 0 [] 0 []), 0, 0)) rfl ?_
  refine zg_nx (y := (2, [.ref 35, .int 1, .int 0, .int i, zu, zu], [.int 1, .ref 35], (zsF 0 [] 0 []), 0, 0)) rfl ?_
  refine zg_nx (y := (3, [.ref 35, .int 1, .int 0, .int i, zu, zu], [.int 0, .int 1, .ref 35], (zsF 0 [] 0 []), 0, 0)) rfl ?_
  refine zg_call (n := 24) (as := [.ref 35, .int 1, .int 0]) (pc := 6) (lv := [.ref 35, .int 1, .int 0, .int i, zu, zu]) (stk := []) (st := (zsF 0 [] 0 [])) (c := 0) (s := 0) (v := (some (.int 1))) (st' := (zsF 0 [] 0 [])) rfl (zq_78) ?_
  show zgo _ _ _ (6, [.ref 35, .int 1, .int 0, .int i, zu, zu], [.int 1], (zsF 0 [] 0 []), 0, 0) = _
  refine zg_nx (y := (9, [.ref 35, .int 1, .int 0, .int i, zu, zu], [], (zsF 0 [] 0 []), 0, 0)) rfl ?_
  refine zg_nx (y := (10, [.ref 35, .int 1, .int 0, .int i, zu, zu], [.int i], (zsF 0 [] 0 []), 0, 0)) rfl ?_
  refine zg_brF (P := 0 ≤ i) (a := (zn 15 [.ref 35, .int 1, .int 0, .int i, zu, zu] [] (zsF 0 [] 0 []) 0 0)) (pc := 13) (lv := [.ref 35, .int 1, .int 0, .int i, zu, zu]) (stk := []) (st := (zsF 0 [] 0 [])) (c := 0) (s := 0) rfl h0 ?_
  refine zg_nx (y := (14, [.ref 35, .int 1, .int 0, .int i, zu, zu], [.int (-1)], (zsF 0 [] 0 []), 0, 0)) rfl ?_
  exact zg_ret rfl

/-- DesignReader$Tree.partOf -/
theorem zq_80 {i : Int32} (h0 : ¬ (i < 0)) : zrun 20000 7 55 [.ref 10, .int 0, .int i] (zsF 0 [] 0 []) = some (some (.int (-1)), (zsF 0 [] 0 [])) := by
  refine zr_of (m := zm_T_partOf) rfl (Nat.le_of_ble_eq_true rfl) ?_
  show zgo _ _ _ (0, [.ref 10, .int 0, .int i, zu, zu], [], (zsF 0 [] 0 []), 0, 0) = _
  refine zg_nx (y := (1, [.ref 10, .int 0, .int i, zu, zu], [.int i], (zsF 0 [] 0 []), 0, 0)) rfl ?_
  refine zg_brF (P := i < 0) (a := (zn 14 [.ref 10, .int 0, .int i, zu, zu] [] (zsF 0 [] 0 []) 0 0)) (pc := 4) (lv := [.ref 10, .int 0, .int i, zu, zu]) (stk := []) (st := (zsF 0 [] 0 [])) (c := 0) (s := 0) rfl h0 ?_
  refine zg_nx (y := (5, [.ref 10, .int 0, .int i, zu, zu], [.int i], (zsF 0 [] 0 []), 0, 0)) rfl ?_
  refine zg_nx (y := (6, [.ref 10, .int 0, .int i, zu, zu], [.ref 10, .int i], (zsF 0 [] 0 []), 0, 0)) rfl ?_
  refine zg_nx (y := (9, [.ref 10, .int 0, .int i, zu, zu], [.ref 15, .int i], (zsF 0 [] 0 []), 0, 0)) rfl ?_
  refine zg_nx (y := (10, [.ref 10, .int 0, .int i, zu, zu], [.int 0, .ref 15, .int i], (zsF 0 [] 0 []), 0, 0)) rfl ?_
  refine zg_nx (y := (11, [.ref 10, .int 0, .int i, zu, zu], [.int 0, .int i], (zsF 0 [] 0 []), 0, 0)) rfl ?_
  refine zg_brF (P := i < 0) (a := (zn 16 [.ref 10, .int 0, .int i, zu, zu] [] (zsF 0 [] 0 []) 0 0)) (pc := 14) (lv := [.ref 10, .int 0, .int i, zu, zu]) (stk := []) (st := (zsF 0 [] 0 [])) (c := 0) (s := 0) rfl h0 ?_
  refine zg_nx (y := (15, [.ref 10, .int 0, .int i, zu, zu], [.int (-1)], (zsF 0 [] 0 []), 0, 0)) rfl ?_
  exact zg_ret rfl

/-- DesignReader.part -/
theorem zq_81 {i : Int32} (h0 : ¬ (i < 0)) : zrun 20000 8 5 [.ref 0, .int 1, .int 0, .int i] (zsF 0 [] 0 []) = some (some (.int (-1)), (zsF 0 [] 0 [])) := by
  refine zr_of (m := zm_D_part) rfl (Nat.le_of_ble_eq_true rfl) ?_
  show zgo _ _ _ (0, [.ref 0, .int 1, .int 0, .int i], [], (zsF 0 [] 0 []), 0, 0) = _
  refine zg_nx (y := (1, [.ref 0, .int 1, .int 0, .int i], [.ref 0], (zsF 0 [] 0 []), 0, 0)) rfl ?_
  refine zg_nx (y := (2, [.ref 0, .int 1, .int 0, .int i], [.int 1, .ref 0], (zsF 0 [] 0 []), 0, 0)) rfl ?_
  refine zg_nx (y := (3, [.ref 0, .int 1, .int 0, .int i], [.int 0, .int 1, .ref 0], (zsF 0 [] 0 []), 0, 0)) rfl ?_
  refine zg_call (n := 14) (as := [.ref 0, .int 1, .int 0]) (pc := 6) (lv := [.ref 0, .int 1, .int 0, .int i]) (stk := []) (st := (zsF 0 [] 0 [])) (c := 0) (s := 0) (v := (some (.int 1))) (st' := (zsF 0 [] 0 [])) rfl (zq_75) ?_
  show zgo _ _ _ (6, [.ref 0, .int 1, .int 0, .int i], [.int 1], (zsF 0 [] 0 []), 0, 0) = _
  refine zg_nx (y := (9, [.ref 0, .int 1, .int 0, .int i], [], (zsF 0 [] 0 []), 0, 0)) rfl ?_
  refine zg_nx (y := (10, [.ref 0, .int 1, .int 0, .int i], [.ref 0], (zsF 0 [] 0 []), 0, 0)) rfl ?_
  refine zg_nx (y := (13, [.ref 0, .int 1, .int 0, .int i], [.ref 1], (zsF 0 [] 0 []), 0, 0)) rfl ?_
  refine zg_nx (y := (14, [.ref 0, .int 1, .int 0, .int i], [.int 1, .ref 1], (zsF 0 [] 0 []), 0, 0)) rfl ?_
  refine zg_nx (y := (15, [.ref 0, .int 1, .int 0, .int i], [.ref 10], (zsF 0 [] 0 []), 0, 0)) rfl ?_
  refine zg_nx (y := (16, [.ref 0, .int 1, .int 0, .int i], [.int 0, .ref 10], (zsF 0 [] 0 []), 0, 0)) rfl ?_
  refine zg_nx (y := (17, [.ref 0, .int 1, .int 0, .int i], [.int i, .int 0, .ref 10], (zsF 0 [] 0 []), 0, 0)) rfl ?_
  refine zg_call (n := 55) (as := [.ref 10, .int 0, .int i]) (pc := 20) (lv := [.ref 0, .int 1, .int 0, .int i]) (stk := []) (st := (zsF 0 [] 0 [])) (c := 0) (s := 0) (v := (some (.int (-1)))) (st' := (zsF 0 [] 0 [])) rfl (zq_80 h0) ?_
  show zgo _ _ _ (20, [.ref 0, .int 1, .int 0, .int i], [.int (-1)], (zsF 0 [] 0 []), 0, 0) = _
  refine zg_nx (y := (24, [.ref 0, .int 1, .int 0, .int i], [.int (-1)], (zsF 0 [] 0 []), 0, 0)) rfl ?_
  exact zg_ret rfl

/-- DesignReaderModel.part -/
theorem zq_82 {i : Int32} (h0 : 0 ≤ i) : zrun 20000 8 27 [.ref 35, .int 1, .int 0, .int i] (zsF 0 [] 0 []) = some (some (.int (-1)), (zsF 0 [] 0 [])) := by
  refine zr_of (m := zm_R_part) rfl (Nat.le_of_ble_eq_true rfl) ?_
  show zgo _ _ _ (0, [.ref 35, .int 1, .int 0, .int i, zu, zu], [], (zsF 0 [] 0 []), 0, 0) = _
  refine zg_nx (y := (1, [.ref 35, .int 1, .int 0, .int i, zu, zu], [.ref 35], (zsF 0 [] 0 []), 0, 0)) rfl ?_
  refine zg_nx (y := (2, [.ref 35, .int 1, .int 0, .int i, zu, zu], [.int 1, .ref 35], (zsF 0 [] 0 []), 0, 0)) rfl ?_
  refine zg_nx (y := (3, [.ref 35, .int 1, .int 0, .int i, zu, zu], [.int 0, .int 1, .ref 35], (zsF 0 [] 0 []), 0, 0)) rfl ?_
  refine zg_call (n := 24) (as := [.ref 35, .int 1, .int 0]) (pc := 6) (lv := [.ref 35, .int 1, .int 0, .int i, zu, zu]) (stk := []) (st := (zsF 0 [] 0 [])) (c := 0) (s := 0) (v := (some (.int 1))) (st' := (zsF 0 [] 0 [])) rfl (zq_78) ?_
  show zgo _ _ _ (6, [.ref 35, .int 1, .int 0, .int i, zu, zu], [.int 1], (zsF 0 [] 0 []), 0, 0) = _
  refine zg_nx (y := (9, [.ref 35, .int 1, .int 0, .int i, zu, zu], [], (zsF 0 [] 0 []), 0, 0)) rfl ?_
  refine zg_nx (y := (10, [.ref 35, .int 1, .int 0, .int i, zu, zu], [.int i], (zsF 0 [] 0 []), 0, 0)) rfl ?_
  refine zg_brT (P := 0 ≤ i) (b := (zn 13 [.ref 35, .int 1, .int 0, .int i, zu, zu] [] (zsF 0 [] 0 []) 0 0)) (pc := 15) (lv := [.ref 35, .int 1, .int 0, .int i, zu, zu]) (stk := []) (st := (zsF 0 [] 0 [])) (c := 0) (s := 0) rfl h0 ?_
  refine zg_nx (y := (16, [.ref 35, .int 1, .int 0, .int i, zu, zu], [.int 0], (zsF 0 [] 0 []), 0, 0)) rfl ?_
  refine zg_nx (y := (18, [.ref 35, .int 1, .int 0, .int i, .int 0, zu], [], (zsF 0 [] 0 []), 0, 0)) rfl ?_
  refine zg_nx (y := (19, [.ref 35, .int 1, .int 0, .int i, .int 0, zu], [.int 0], (zsF 0 [] 0 []), 0, 0)) rfl ?_
  refine zg_nx (y := (20, [.ref 35, .int 1, .int 0, .int i, .int 0, zu], [.int 1, .int 0], (zsF 0 [] 0 []), 0, 0)) rfl ?_
  refine zg_nx (y := (21, [.ref 35, .int 1, .int 0, .int i, .int 0, zu], [.int 1], (zsF 0 [] 0 []), 0, 0)) rfl ?_
  refine zg_nx (y := (23, [.ref 35, .int 1, .int 0, .int i, .int 0, .int 1], [], (zsF 0 [] 0 []), 0, 0)) rfl ?_
  refine zg_nx (y := (25, [.ref 35, .int 1, .int 0, .int i, .int 0, .int 1], [.int 1], (zsF 0 [] 0 []), 0, 0)) rfl ?_
  refine zg_nx (y := (26, [.ref 35, .int 1, .int 0, .int i, .int 0, .int 1], [.int 0, .int 1], (zsF 0 [] 0 []), 0, 0)) rfl ?_
  refine zg_nx (y := (27, [.ref 35, .int 1, .int 0, .int i, .int 0, .int 1], [.ref 35, .int 0, .int 1], (zsF 0 [] 0 []), 0, 0)) rfl ?_
  refine zg_nx (y := (30, [.ref 35, .int 1, .int 0, .int i, .int 0, .int 1], [.ref 53, .int 0, .int 1], (zsF 0 [] 0 []), 0, 0)) rfl ?_
  refine zg_nx (y := (33, [.ref 35, .int 1, .int 0, .int i, .int 0, .int 1], [.int 13000, .ref 53, .int 0, .int 1], (zsF 0 [] 0 []), 0, 0)) rfl ?_
  refine zg_nx (y := (34, [.ref 35, .int 1, .int 0, .int i, .int 0, .int 1], [.int 1, .int 13000, .ref 53, .int 0, .int 1], (zsF 0 [] 0 []), 0, 0)) rfl ?_
  refine zg_nx (y := (35, [.ref 35, .int 1, .int 0, .int i, .int 0, .int 1], [.int 13000, .ref 53, .int 0, .int 1], (zsF 0 [] 0 []), 0, 0)) rfl ?_
  refine zg_nx (y := (36, [.ref 35, .int 1, .int 0, .int i, .int 0, .int 1], [.int 0, .int 13000, .ref 53, .int 0, .int 1], (zsF 0 [] 0 []), 0, 0)) rfl ?_
  refine zg_nx (y := (37, [.ref 35, .int 1, .int 0, .int i, .int 0, .int 1], [.int 13000, .ref 53, .int 0, .int 1], (zsF 0 [] 0 []), 0, 0)) rfl ?_
  refine zg_nx (y := (38, [.ref 35, .int 1, .int 0, .int i, .int 0, .int 1], [.int 1, .int 0, .int 1], (zsF 0 [] 0 []), 0, 0)) rfl ?_
  refine zg_nx (y := (39, [.ref 35, .int 1, .int 0, .int i, .int 0, .int 1], [.int 1, .int 1], (zsF 0 [] 0 []), 0, 0)) rfl ?_
  refine zg_nx (y := (75, [.ref 35, .int 1, .int 0, .int i, .int 0, .int 1], [], (zsF 0 [] 0 []), 0, 0)) rfl ?_
  refine zg_nx (y := (76, [.ref 35, .int 1, .int 0, .int i, .int 0, .int 1], [.int (-1)], (zsF 0 [] 0 []), 0, 0)) rfl ?_
  exact zg_ret rfl

/-- DesignReader.part -/
theorem zq_83 {k i : Int32} (h0 : k < 0) : zrun 20000 8 5 [.ref 0, .int 1, .int k, .int i] (zsF 0 [] 0 []) = some (some (.int (-1)), (zsF 0 [] 0 [])) := by
  refine zr_of (m := zm_D_part) rfl (Nat.le_of_ble_eq_true rfl) ?_
  show zgo _ _ _ (0, [.ref 0, .int 1, .int k, .int i], [], (zsF 0 [] 0 []), 0, 0) = _
  refine zg_nx (y := (1, [.ref 0, .int 1, .int k, .int i], [.ref 0], (zsF 0 [] 0 []), 0, 0)) rfl ?_
  refine zg_nx (y := (2, [.ref 0, .int 1, .int k, .int i], [.int 1, .ref 0], (zsF 0 [] 0 []), 0, 0)) rfl ?_
  refine zg_nx (y := (3, [.ref 0, .int 1, .int k, .int i], [.int k, .int 1, .ref 0], (zsF 0 [] 0 []), 0, 0)) rfl ?_
  refine zg_call (n := 14) (as := [.ref 0, .int 1, .int k]) (pc := 6) (lv := [.ref 0, .int 1, .int k, .int i]) (stk := []) (st := (zsF 0 [] 0 [])) (c := 0) (s := 0) (v := (some (.int 0))) (st' := (zsF 0 [] 0 [])) rfl (zq_36 h0) ?_
  show zgo _ _ _ (6, [.ref 0, .int 1, .int k, .int i], [.int 0], (zsF 0 [] 0 []), 0, 0) = _
  refine zg_nx (y := (23, [.ref 0, .int 1, .int k, .int i], [], (zsF 0 [] 0 []), 0, 0)) rfl ?_
  refine zg_nx (y := (24, [.ref 0, .int 1, .int k, .int i], [.int (-1)], (zsF 0 [] 0 []), 0, 0)) rfl ?_
  exact zg_ret rfl

/-- DesignReaderModel.part -/
theorem zq_84 {k i : Int32} (h0 : k < 0) : zrun 20000 8 27 [.ref 35, .int 1, .int k, .int i] (zsF 0 [] 0 []) = some (some (.int (-1)), (zsF 0 [] 0 [])) := by
  refine zr_of (m := zm_R_part) rfl (Nat.le_of_ble_eq_true rfl) ?_
  show zgo _ _ _ (0, [.ref 35, .int 1, .int k, .int i, zu, zu], [], (zsF 0 [] 0 []), 0, 0) = _
  refine zg_nx (y := (1, [.ref 35, .int 1, .int k, .int i, zu, zu], [.ref 35], (zsF 0 [] 0 []), 0, 0)) rfl ?_
  refine zg_nx (y := (2, [.ref 35, .int 1, .int k, .int i, zu, zu], [.int 1, .ref 35], (zsF 0 [] 0 []), 0, 0)) rfl ?_
  refine zg_nx (y := (3, [.ref 35, .int 1, .int k, .int i, zu, zu], [.int k, .int 1, .ref 35], (zsF 0 [] 0 []), 0, 0)) rfl ?_
  refine zg_call (n := 24) (as := [.ref 35, .int 1, .int k]) (pc := 6) (lv := [.ref 35, .int 1, .int k, .int i, zu, zu]) (stk := []) (st := (zsF 0 [] 0 [])) (c := 0) (s := 0) (v := (some (.int 0))) (st' := (zsF 0 [] 0 [])) rfl (zq_38 h0) ?_
  show zgo _ _ _ (6, [.ref 35, .int 1, .int k, .int i, zu, zu], [.int 0], (zsF 0 [] 0 []), 0, 0) = _
  refine zg_nx (y := (13, [.ref 35, .int 1, .int k, .int i, zu, zu], [], (zsF 0 [] 0 []), 0, 0)) rfl ?_
  refine zg_nx (y := (14, [.ref 35, .int 1, .int k, .int i, zu, zu], [.int (-1)], (zsF 0 [] 0 []), 0, 0)) rfl ?_
  exact zg_ret rfl

/-- DesignReader.part -/
theorem zq_85 {k i : Int32} (h0 : ¬ (k < 0)) (h1 : 1 ≤ k) : zrun 20000 8 5 [.ref 0, .int 1, .int k, .int i] (zsF 0 [] 0 []) = some (some (.int (-1)), (zsF 0 [] 0 [])) := by
  refine zr_of (m := zm_D_part) rfl (Nat.le_of_ble_eq_true rfl) ?_
  show zgo _ _ _ (0, [.ref 0, .int 1, .int k, .int i], [], (zsF 0 [] 0 []), 0, 0) = _
  refine zg_nx (y := (1, [.ref 0, .int 1, .int k, .int i], [.ref 0], (zsF 0 [] 0 []), 0, 0)) rfl ?_
  refine zg_nx (y := (2, [.ref 0, .int 1, .int k, .int i], [.int 1, .ref 0], (zsF 0 [] 0 []), 0, 0)) rfl ?_
  refine zg_nx (y := (3, [.ref 0, .int 1, .int k, .int i], [.int k, .int 1, .ref 0], (zsF 0 [] 0 []), 0, 0)) rfl ?_
  refine zg_call (n := 14) (as := [.ref 0, .int 1, .int k]) (pc := 6) (lv := [.ref 0, .int 1, .int k, .int i]) (stk := []) (st := (zsF 0 [] 0 [])) (c := 0) (s := 0) (v := (some (.int 0))) (st' := (zsF 0 [] 0 [])) rfl (zq_40 h0 h1) ?_
  show zgo _ _ _ (6, [.ref 0, .int 1, .int k, .int i], [.int 0], (zsF 0 [] 0 []), 0, 0) = _
  refine zg_nx (y := (23, [.ref 0, .int 1, .int k, .int i], [], (zsF 0 [] 0 []), 0, 0)) rfl ?_
  refine zg_nx (y := (24, [.ref 0, .int 1, .int k, .int i], [.int (-1)], (zsF 0 [] 0 []), 0, 0)) rfl ?_
  exact zg_ret rfl

/-- DesignReaderModel.part -/
theorem zq_86 {k i : Int32} (h0 : ¬ (k < 0)) (h1 : 1 ≤ k) : zrun 20000 8 27 [.ref 35, .int 1, .int k, .int i] (zsF 0 [] 0 []) = some (some (.int (-1)), (zsF 0 [] 0 [])) := by
  refine zr_of (m := zm_R_part) rfl (Nat.le_of_ble_eq_true rfl) ?_
  show zgo _ _ _ (0, [.ref 35, .int 1, .int k, .int i, zu, zu], [], (zsF 0 [] 0 []), 0, 0) = _
  refine zg_nx (y := (1, [.ref 35, .int 1, .int k, .int i, zu, zu], [.ref 35], (zsF 0 [] 0 []), 0, 0)) rfl ?_
  refine zg_nx (y := (2, [.ref 35, .int 1, .int k, .int i, zu, zu], [.int 1, .ref 35], (zsF 0 [] 0 []), 0, 0)) rfl ?_
  refine zg_nx (y := (3, [.ref 35, .int 1, .int k, .int i, zu, zu], [.int k, .int 1, .ref 35], (zsF 0 [] 0 []), 0, 0)) rfl ?_
  refine zg_call (n := 24) (as := [.ref 35, .int 1, .int k]) (pc := 6) (lv := [.ref 35, .int 1, .int k, .int i, zu, zu]) (stk := []) (st := (zsF 0 [] 0 [])) (c := 0) (s := 0) (v := (some (.int 0))) (st' := (zsF 0 [] 0 [])) rfl (zq_42 h0 h1) ?_
  show zgo _ _ _ (6, [.ref 35, .int 1, .int k, .int i, zu, zu], [.int 0], (zsF 0 [] 0 []), 0, 0) = _
  refine zg_nx (y := (13, [.ref 35, .int 1, .int k, .int i, zu, zu], [], (zsF 0 [] 0 []), 0, 0)) rfl ?_
  refine zg_nx (y := (14, [.ref 35, .int 1, .int k, .int i, zu, zu], [.int (-1)], (zsF 0 [] 0 []), 0, 0)) rfl ?_
  exact zg_ret rfl

/-- DesignReader.part -/
theorem zq_87 {t k i : Int32} (h0 : ¬ (t < 0)) (h1 : 2 ≤ t) : zrun 20000 8 5 [.ref 0, .int t, .int k, .int i] (zsF 0 [] 0 []) = some (some (.int (-1)), (zsF 0 [] 0 [])) := by
  refine zr_of (m := zm_D_part) rfl (Nat.le_of_ble_eq_true rfl) ?_
  show zgo _ _ _ (0, [.ref 0, .int t, .int k, .int i], [], (zsF 0 [] 0 []), 0, 0) = _
  refine zg_nx (y := (1, [.ref 0, .int t, .int k, .int i], [.ref 0], (zsF 0 [] 0 []), 0, 0)) rfl ?_
  refine zg_nx (y := (2, [.ref 0, .int t, .int k, .int i], [.int t, .ref 0], (zsF 0 [] 0 []), 0, 0)) rfl ?_
  refine zg_nx (y := (3, [.ref 0, .int t, .int k, .int i], [.int k, .int t, .ref 0], (zsF 0 [] 0 []), 0, 0)) rfl ?_
  refine zg_call (n := 14) (as := [.ref 0, .int t, .int k]) (pc := 6) (lv := [.ref 0, .int t, .int k, .int i]) (stk := []) (st := (zsF 0 [] 0 [])) (c := 0) (s := 0) (v := (some (.int 0))) (st' := (zsF 0 [] 0 [])) rfl (zq_45 h0 h1) ?_
  show zgo _ _ _ (6, [.ref 0, .int t, .int k, .int i], [.int 0], (zsF 0 [] 0 []), 0, 0) = _
  refine zg_nx (y := (23, [.ref 0, .int t, .int k, .int i], [], (zsF 0 [] 0 []), 0, 0)) rfl ?_
  refine zg_nx (y := (24, [.ref 0, .int t, .int k, .int i], [.int (-1)], (zsF 0 [] 0 []), 0, 0)) rfl ?_
  exact zg_ret rfl

/-- DesignReaderModel.part -/
theorem zq_88 {t k i : Int32} (h0 : ¬ (t < 0)) (h1 : 2 ≤ t) : zrun 20000 8 27 [.ref 35, .int t, .int k, .int i] (zsF 0 [] 0 []) = some (some (.int (-1)), (zsF 0 [] 0 [])) := by
  refine zr_of (m := zm_R_part) rfl (Nat.le_of_ble_eq_true rfl) ?_
  show zgo _ _ _ (0, [.ref 35, .int t, .int k, .int i, zu, zu], [], (zsF 0 [] 0 []), 0, 0) = _
  refine zg_nx (y := (1, [.ref 35, .int t, .int k, .int i, zu, zu], [.ref 35], (zsF 0 [] 0 []), 0, 0)) rfl ?_
  refine zg_nx (y := (2, [.ref 35, .int t, .int k, .int i, zu, zu], [.int t, .ref 35], (zsF 0 [] 0 []), 0, 0)) rfl ?_
  refine zg_nx (y := (3, [.ref 35, .int t, .int k, .int i, zu, zu], [.int k, .int t, .ref 35], (zsF 0 [] 0 []), 0, 0)) rfl ?_
  refine zg_call (n := 24) (as := [.ref 35, .int t, .int k]) (pc := 6) (lv := [.ref 35, .int t, .int k, .int i, zu, zu]) (stk := []) (st := (zsF 0 [] 0 [])) (c := 0) (s := 0) (v := (some (.int 0))) (st' := (zsF 0 [] 0 [])) rfl (zq_47 h0 h1) ?_
  show zgo _ _ _ (6, [.ref 35, .int t, .int k, .int i, zu, zu], [.int 0], (zsF 0 [] 0 []), 0, 0) = _
  refine zg_nx (y := (13, [.ref 35, .int t, .int k, .int i, zu, zu], [], (zsF 0 [] 0 []), 0, 0)) rfl ?_
  refine zg_nx (y := (14, [.ref 35, .int t, .int k, .int i, zu, zu], [.int (-1)], (zsF 0 [] 0 []), 0, 0)) rfl ?_
  exact zg_ret rfl

/-- DesignReader.node -/
theorem zq_89 {t k w : Int32} (h0 : t < 0) : zrun 20000 8 4 [.ref 0, .int t, .int k, .int w] (zsF 0 [] 0 []) = some (some (.int (-2)), (zsF 0 [] 0 [])) := by
  refine zr_of (m := zm_D_node) rfl (Nat.le_of_ble_eq_true rfl) ?_
  show zgo _ _ _ (0, [.ref 0, .int t, .int k, .int w, zu], [], (zsF 0 [] 0 []), 0, 0) = _
  refine zg_nx (y := (1, [.ref 0, .int t, .int k, .int w, zu], [.ref 0], (zsF 0 [] 0 []), 0, 0)) rfl ?_
  refine zg_nx (y := (2, [.ref 0, .int t, .int k, .int w, zu], [.int t, .ref 0], (zsF 0 [] 0 []), 0, 0)) rfl ?_
  refine zg_nx (y := (3, [.ref 0, .int t, .int k, .int w, zu], [.int k, .int t, .ref 0], (zsF 0 [] 0 []), 0, 0)) rfl ?_
  refine zg_call (n := 14) (as := [.ref 0, .int t, .int k]) (pc := 6) (lv := [.ref 0, .int t, .int k, .int w, zu]) (stk := []) (st := (zsF 0 [] 0 [])) (c := 0) (s := 0) (v := (some (.int 0))) (st' := (zsF 0 [] 0 [])) rfl (zq_22 h0) ?_
  show zgo _ _ _ (6, [.ref 0, .int t, .int k, .int w, zu], [.int 0], (zsF 0 [] 0 []), 0, 0) = _
  refine zg_nx (y := (9, [.ref 0, .int t, .int k, .int w, zu], [], (zsF 0 [] 0 []), 0, 0)) rfl ?_
  refine zg_nx (y := (11, [.ref 0, .int t, .int k, .int w, zu], [.int (-2)], (zsF 0 [] 0 []), 0, 0)) rfl ?_
  exact zg_ret rfl

/-- DesignReaderModel.node -/
theorem zq_90 {t k w : Int32} (h0 : t < 0) : zrun 20000 8 28 [.ref 35, .int t, .int k, .int w] (zsF 0 [] 0 []) = some (some (.int (-2)), (zsF 0 [] 0 [])) := by
  refine zr_of (m := zm_R_node) rfl (Nat.le_of_ble_eq_true rfl) ?_
  show zgo _ _ _ (0, [.ref 35, .int t, .int k, .int w, zu], [], (zsF 0 [] 0 []), 0, 0) = _
  refine zg_nx (y := (1, [.ref 35, .int t, .int k, .int w, zu], [.ref 35], (zsF 0 [] 0 []), 0, 0)) rfl ?_
  refine zg_nx (y := (2, [.ref 35, .int t, .int k, .int w, zu], [.int t, .ref 35], (zsF 0 [] 0 []), 0, 0)) rfl ?_
  refine zg_nx (y := (3, [.ref 35, .int t, .int k, .int w, zu], [.int k, .int t, .ref 35], (zsF 0 [] 0 []), 0, 0)) rfl ?_
  refine zg_call (n := 24) (as := [.ref 35, .int t, .int k]) (pc := 6) (lv := [.ref 35, .int t, .int k, .int w, zu]) (stk := []) (st := (zsF 0 [] 0 [])) (c := 0) (s := 0) (v := (some (.int 0))) (st' := (zsF 0 [] 0 [])) rfl (zq_24 h0) ?_
  show zgo _ _ _ (6, [.ref 35, .int t, .int k, .int w, zu], [.int 0], (zsF 0 [] 0 []), 0, 0) = _
  refine zg_nx (y := (9, [.ref 35, .int t, .int k, .int w, zu], [], (zsF 0 [] 0 []), 0, 0)) rfl ?_
  refine zg_nx (y := (11, [.ref 35, .int t, .int k, .int w, zu], [.int (-2)], (zsF 0 [] 0 []), 0, 0)) rfl ?_
  exact zg_ret rfl

/-- DesignReader.node -/
theorem zq_91 {w : Int32} (h0 : zswT w 96 [(0, 56), (1, 64), (2, 72), (3, 80), (4, 88)] = 96) : zrun 20000 8 4 [.ref 0, .int 0, .int 0, .int w] (zsF 0 [] 0 []) = some (some (.int (-2)), (zsF 0 [] 0 [])) := by
  refine zr_of (m := zm_D_node) rfl (Nat.le_of_ble_eq_true rfl) ?_
  show zgo _ _ _ (0, [.ref 0, .int 0, .int 0, .int w, zu], [], (zsF 0 [] 0 []), 0, 0) = _
  refine zg_nx (y := (1, [.ref 0, .int 0, .int 0, .int w, zu], [.ref 0], (zsF 0 [] 0 []), 0, 0)) rfl ?_
  refine zg_nx (y := (2, [.ref 0, .int 0, .int 0, .int w, zu], [.int 0, .ref 0], (zsF 0 [] 0 []), 0, 0)) rfl ?_
  refine zg_nx (y := (3, [.ref 0, .int 0, .int 0, .int w, zu], [.int 0, .int 0, .ref 0], (zsF 0 [] 0 []), 0, 0)) rfl ?_
  refine zg_call (n := 14) (as := [.ref 0, .int 0, .int 0]) (pc := 6) (lv := [.ref 0, .int 0, .int 0, .int w, zu]) (stk := []) (st := (zsF 0 [] 0 [])) (c := 0) (s := 0) (v := (some (.int 1))) (st' := (zsF 0 [] 0 [])) rfl (zq_63) ?_
  show zgo _ _ _ (6, [.ref 0, .int 0, .int 0, .int w, zu], [.int 1], (zsF 0 [] 0 []), 0, 0) = _
  refine zg_nx (y := (12, [.ref 0, .int 0, .int 0, .int w, zu], [], (zsF 0 [] 0 []), 0, 0)) rfl ?_
  refine zg_nx (y := (13, [.ref 0, .int 0, .int 0, .int w, zu], [.ref 0], (zsF 0 [] 0 []), 0, 0)) rfl ?_
  refine zg_nx (y := (16, [.ref 0, .int 0, .int 0, .int w, zu], [.ref 1], (zsF 0 [] 0 []), 0, 0)) rfl ?_
  refine zg_nx (y := (17, [.ref 0, .int 0, .int 0, .int w, zu], [.int 0, .ref 1], (zsF 0 [] 0 []), 0, 0)) rfl ?_
  refine zg_nx (y := (18, [.ref 0, .int 0, .int 0, .int w, zu], [.ref 2], (zsF 0 [] 0 []), 0, 0)) rfl ?_
  refine zg_nx (y := (20, [.ref 0, .int 0, .int 0, .int w, .ref 2], [], (zsF 0 [] 0 []), 0, 0)) rfl ?_
  refine zg_nx (y := (21, [.ref 0, .int 0, .int 0, .int w, .ref 2], [.int w], (zsF 0 [] 0 []), 0, 0)) rfl ?_
  refine zg_sw (T := zswT w 96 [(0, 56), (1, 64), (2, 72), (3, 80), (4, 88)]) (pc := 96) (lv := [.ref 0, .int 0, .int 0, .int w, .ref 2]) (stk := []) (st := (zsF 0 [] 0 [])) (c := 0) (s := 0) rfl h0 ?_
  refine zg_nx (y := (98, [.ref 0, .int 0, .int 0, .int w, .ref 2], [.int (-2)], (zsF 0 [] 0 []), 0, 0)) rfl ?_
  exact zg_ret rfl

/-- DesignReaderModel.node -/
theorem zq_92 {w : Int32} (h0 : ¬ w = 0) (h1 : ¬ w = 1) (h2 : ¬ w = 2) (h3 : ¬ w = 3) (h4 : ¬ w = 4) : zrun 20000 8 28 [.ref 35, .int 0, .int 0, .int w] (zsF 0 [] 0 []) = some (some (.int (-2)), (zsF 0 [] 0 [])) := by
  refine zr_of (m := zm_R_node) rfl (Nat.le_of_ble_eq_true rfl) ?_
  show zgo _ _ _ (0, [.ref 35, .int 0, .int 0, .int w, zu], [], (zsF 0 [] 0 []), 0, 0) = _
  refine zg_nx (y := (1, [.ref 35, .int 0, .int 0, .int w, zu], [.ref 35], (zsF 0 [] 0 []), 0, 0)) rfl ?_
  refine zg_nx (y := (2, [.ref 35, .int 0, .int 0, .int w, zu], [.int 0, .ref 35], (zsF 0 [] 0 []), 0, 0)) rfl ?_
  refine zg_nx (y := (3, [.ref 35, .int 0, .int 0, .int w, zu], [.int 0, .int 0, .ref 35], (zsF 0 [] 0 []), 0, 0)) rfl ?_
  refine zg_call (n := 24) (as := [.ref 35, .int 0, .int 0]) (pc := 6) (lv := [.ref 35, .int 0, .int 0, .int w, zu]) (stk := []) (st := (zsF 0 [] 0 [])) (c := 0) (s := 0) (v := (some (.int 1))) (st' := (zsF 0 [] 0 [])) rfl (zq_66) ?_
  show zgo _ _ _ (6, [.ref 35, .int 0, .int 0, .int w, zu], [.int 1], (zsF 0 [] 0 []), 0, 0) = _
  refine zg_nx (y := (12, [.ref 35, .int 0, .int 0, .int w, zu], [], (zsF 0 [] 0 []), 0, 0)) rfl ?_
  refine zg_nx (y := (15, [.ref 35, .int 0, .int 0, .int w, zu], [.int 13000], (zsF 0 [] 0 []), 0, 0)) rfl ?_
  refine zg_nx (y := (16, [.ref 35, .int 0, .int 0, .int w, zu], [.int 0, .int 13000], (zsF 0 [] 0 []), 0, 0)) rfl ?_
  refine zg_nx (y := (17, [.ref 35, .int 0, .int 0, .int w, zu], [.int 0], (zsF 0 [] 0 []), 0, 0)) rfl ?_
  refine zg_nx (y := (18, [.ref 35, .int 0, .int 0, .int w, zu], [.int 0, .int 0], (zsF 0 [] 0 []), 0, 0)) rfl ?_
  refine zg_nx (y := (19, [.ref 35, .int 0, .int 0, .int w, zu], [.int 0], (zsF 0 [] 0 []), 0, 0)) rfl ?_
  refine zg_nx (y := (21, [.ref 35, .int 0, .int 0, .int w, .int 0], [], (zsF 0 [] 0 []), 0, 0)) rfl ?_
  refine zg_nx (y := (22, [.ref 35, .int 0, .int 0, .int w, .int 0], [.int w], (zsF 0 [] 0 []), 0, 0)) rfl ?_
  refine zg_brT (P := ¬ w = 0) (b := (zn 25 [.ref 35, .int 0, .int 0, .int w, .int 0] [] (zsF 0 [] 0 []) 0 0)) (pc := 35) (lv := [.ref 35, .int 0, .int 0, .int w, .int 0]) (stk := []) (st := (zsF 0 [] 0 [])) (c := 0) (s := 0) rfl h0 ?_
  refine zg_nx (y := (36, [.ref 35, .int 0, .int 0, .int w, .int 0], [.int w], (zsF 0 [] 0 []), 0, 0)) rfl ?_
  refine zg_nx (y := (37, [.ref 35, .int 0, .int 0, .int w, .int 0], [.int 1, .int w], (zsF 0 [] 0 []), 0, 0)) rfl ?_
  refine zg_brT (P := ¬ w = 1) (b := (zn 40 [.ref 35, .int 0, .int 0, .int w, .int 0] [] (zsF 0 [] 0 []) 0 0)) (pc := 50) (lv := [.ref 35, .int 0, .int 0, .int w, .int 0]) (stk := []) (st := (zsF 0 [] 0 [])) (c := 0) (s := 0) rfl h1 ?_
  refine zg_nx (y := (51, [.ref 35, .int 0, .int 0, .int w, .int 0], [.int w], (zsF 0 [] 0 []), 0, 0)) rfl ?_
  refine zg_nx (y := (52, [.ref 35, .int 0, .int 0, .int w, .int 0], [.int 2, .int w], (zsF 0 [] 0 []), 0, 0)) rfl ?_
  refine zg_brT (P := ¬ w = 2) (b := (zn 55 [.ref 35, .int 0, .int 0, .int w, .int 0] [] (zsF 0 [] 0 []) 0 0)) (pc := 65) (lv := [.ref 35, .int 0, .int 0, .int w, .int 0]) (stk := []) (st := (zsF 0 [] 0 [])) (c := 0) (s := 0) rfl h2 ?_
  refine zg_nx (y := (66, [.ref 35, .int 0, .int 0, .int w, .int 0], [.int w], (zsF 0 [] 0 []), 0, 0)) rfl ?_
  refine zg_nx (y := (67, [.ref 35, .int 0, .int 0, .int w, .int 0], [.int 3, .int w], (zsF 0 [] 0 []), 0, 0)) rfl ?_
  refine zg_brT (P := ¬ w = 3) (b := (zn 70 [.ref 35, .int 0, .int 0, .int w, .int 0] [] (zsF 0 [] 0 []) 0 0)) (pc := 80) (lv := [.ref 35, .int 0, .int 0, .int w, .int 0]) (stk := []) (st := (zsF 0 [] 0 [])) (c := 0) (s := 0) rfl h3 ?_
  refine zg_nx (y := (81, [.ref 35, .int 0, .int 0, .int w, .int 0], [.int w], (zsF 0 [] 0 []), 0, 0)) rfl ?_
  refine zg_nx (y := (82, [.ref 35, .int 0, .int 0, .int w, .int 0], [.int 4, .int w], (zsF 0 [] 0 []), 0, 0)) rfl ?_
  refine zg_brT (P := ¬ w = 4) (b := (zn 85 [.ref 35, .int 0, .int 0, .int w, .int 0] [] (zsF 0 [] 0 []) 0 0)) (pc := 94) (lv := [.ref 35, .int 0, .int 0, .int w, .int 0]) (stk := []) (st := (zsF 0 [] 0 [])) (c := 0) (s := 0) rfl h4 ?_
  refine zg_nx (y := (96, [.ref 35, .int 0, .int 0, .int w, .int 0], [.int (-2)], (zsF 0 [] 0 []), 0, 0)) rfl ?_
  exact zg_ret rfl

/-- DesignReader.node -/
theorem zq_93 {k w : Int32} (h0 : k < 0) : zrun 20000 8 4 [.ref 0, .int 0, .int k, .int w] (zsF 0 [] 0 []) = some (some (.int (-2)), (zsF 0 [] 0 [])) := by
  refine zr_of (m := zm_D_node) rfl (Nat.le_of_ble_eq_true rfl) ?_
  show zgo _ _ _ (0, [.ref 0, .int 0, .int k, .int w, zu], [], (zsF 0 [] 0 []), 0, 0) = _
  refine zg_nx (y := (1, [.ref 0, .int 0, .int k, .int w, zu], [.ref 0], (zsF 0 [] 0 []), 0, 0)) rfl ?_
  refine zg_nx (y := (2, [.ref 0, .int 0, .int k, .int w, zu], [.int 0, .ref 0], (zsF 0 [] 0 []), 0, 0)) rfl ?_
  refine zg_nx (y := (3, [.ref 0, .int 0, .int k, .int w, zu], [.int k, .int 0, .ref 0], (zsF 0 [] 0 []), 0, 0)) rfl ?_
  refine zg_call (n := 14) (as := [.ref 0, .int 0, .int k]) (pc := 6) (lv := [.ref 0, .int 0, .int k, .int w, zu]) (stk := []) (st := (zsF 0 [] 0 [])) (c := 0) (s := 0) (v := (some (.int 0))) (st' := (zsF 0 [] 0 [])) rfl (zq_27 h0) ?_
  show zgo _ _ _ (6, [.ref 0, .int 0, .int k, .int w, zu], [.int 0], (zsF 0 [] 0 []), 0, 0) = _
  refine zg_nx (y := (9, [.ref 0, .int 0, .int k, .int w, zu], [], (zsF 0 [] 0 []), 0, 0)) rfl ?_
  refine zg_nx (y := (11, [.ref 0, .int 0, .int k, .int w, zu], [.int (-2)], (zsF 0 [] 0 []), 0, 0)) rfl ?_
  exact zg_ret rfl

/-- DesignReaderModel.node -/
theorem zq_94 {k w : Int32} (h0 : k < 0) : zrun 20000 8 28 [.ref 35, .int 0, .int k, .int w] (zsF 0 [] 0 []) = some (some (.int (-2)), (zsF 0 [] 0 [])) := by
  refine zr_of (m := zm_R_node) rfl (Nat.le_of_ble_eq_true rfl) ?_
  show zgo _ _ _ (0, [.ref 35, .int 0, .int k, .int w, zu], [], (zsF 0 [] 0 []), 0, 0) = _
  refine zg_nx (y := (1, [.ref 35, .int 0, .int k, .int w, zu], [.ref 35], (zsF 0 [] 0 []), 0, 0)) rfl ?_
  refine zg_nx (y := (2, [.ref 35, .int 0, .int k, .int w, zu], [.int 0, .ref 35], (zsF 0 [] 0 []), 0, 0)) rfl ?_
  refine zg_nx (y := (3, [.ref 35, .int 0, .int k, .int w, zu], [.int k, .int 0, .ref 35], (zsF 0 [] 0 []), 0, 0)) rfl ?_
  refine zg_call (n := 24) (as := [.ref 35, .int 0, .int k]) (pc := 6) (lv := [.ref 35, .int 0, .int k, .int w, zu]) (stk := []) (st := (zsF 0 [] 0 [])) (c := 0) (s := 0) (v := (some (.int 0))) (st' := (zsF 0 [] 0 [])) rfl (zq_29 h0) ?_
  show zgo _ _ _ (6, [.ref 35, .int 0, .int k, .int w, zu], [.int 0], (zsF 0 [] 0 []), 0, 0) = _
  refine zg_nx (y := (9, [.ref 35, .int 0, .int k, .int w, zu], [], (zsF 0 [] 0 []), 0, 0)) rfl ?_
  refine zg_nx (y := (11, [.ref 35, .int 0, .int k, .int w, zu], [.int (-2)], (zsF 0 [] 0 []), 0, 0)) rfl ?_
  exact zg_ret rfl

/-- DesignReader.node -/
theorem zq_95 {k w : Int32} (h0 : ¬ (k < 0)) (h1 : 1 ≤ k) : zrun 20000 8 4 [.ref 0, .int 0, .int k, .int w] (zsF 0 [] 0 []) = some (some (.int (-2)), (zsF 0 [] 0 [])) := by
  refine zr_of (m := zm_D_node) rfl (Nat.le_of_ble_eq_true rfl) ?_
  show zgo _ _ _ (0, [.ref 0, .int 0, .int k, .int w, zu], [], (zsF 0 [] 0 []), 0, 0) = _
  refine zg_nx (y := (1, [.ref 0, .int 0, .int k, .int w, zu], [.ref 0], (zsF 0 [] 0 []), 0, 0)) rfl ?_
  refine zg_nx (y := (2, [.ref 0, .int 0, .int k, .int w, zu], [.int 0, .ref 0], (zsF 0 [] 0 []), 0, 0)) rfl ?_
  refine zg_nx (y := (3, [.ref 0, .int 0, .int k, .int w, zu], [.int k, .int 0, .ref 0], (zsF 0 [] 0 []), 0, 0)) rfl ?_
  refine zg_call (n := 14) (as := [.ref 0, .int 0, .int k]) (pc := 6) (lv := [.ref 0, .int 0, .int k, .int w, zu]) (stk := []) (st := (zsF 0 [] 0 [])) (c := 0) (s := 0) (v := (some (.int 0))) (st' := (zsF 0 [] 0 [])) rfl (zq_31 h0 h1) ?_
  show zgo _ _ _ (6, [.ref 0, .int 0, .int k, .int w, zu], [.int 0], (zsF 0 [] 0 []), 0, 0) = _
  refine zg_nx (y := (9, [.ref 0, .int 0, .int k, .int w, zu], [], (zsF 0 [] 0 []), 0, 0)) rfl ?_
  refine zg_nx (y := (11, [.ref 0, .int 0, .int k, .int w, zu], [.int (-2)], (zsF 0 [] 0 []), 0, 0)) rfl ?_
  exact zg_ret rfl

/-- DesignReaderModel.node -/
theorem zq_96 {k w : Int32} (h0 : ¬ (k < 0)) (h1 : 1 ≤ k) : zrun 20000 8 28 [.ref 35, .int 0, .int k, .int w] (zsF 0 [] 0 []) = some (some (.int (-2)), (zsF 0 [] 0 [])) := by
  refine zr_of (m := zm_R_node) rfl (Nat.le_of_ble_eq_true rfl) ?_
  show zgo _ _ _ (0, [.ref 35, .int 0, .int k, .int w, zu], [], (zsF 0 [] 0 []), 0, 0) = _
  refine zg_nx (y := (1, [.ref 35, .int 0, .int k, .int w, zu], [.ref 35], (zsF 0 [] 0 []), 0, 0)) rfl ?_
  refine zg_nx (y := (2, [.ref 35, .int 0, .int k, .int w, zu], [.int 0, .ref 35], (zsF 0 [] 0 []), 0, 0)) rfl ?_
  refine zg_nx (y := (3, [.ref 35, .int 0, .int k, .int w, zu], [.int k, .int 0, .ref 35], (zsF 0 [] 0 []), 0, 0)) rfl ?_
  refine zg_call (n := 24) (as := [.ref 35, .int 0, .int k]) (pc := 6) (lv := [.ref 35, .int 0, .int k, .int w, zu]) (stk := []) (st := (zsF 0 [] 0 [])) (c := 0) (s := 0) (v := (some (.int 0))) (st' := (zsF 0 [] 0 [])) rfl (zq_33 h0 h1) ?_
  show zgo _ _ _ (6, [.ref 35, .int 0, .int k, .int w, zu], [.int 0], (zsF 0 [] 0 []), 0, 0) = _
  refine zg_nx (y := (9, [.ref 35, .int 0, .int k, .int w, zu], [], (zsF 0 [] 0 []), 0, 0)) rfl ?_
  refine zg_nx (y := (11, [.ref 35, .int 0, .int k, .int w, zu], [.int (-2)], (zsF 0 [] 0 []), 0, 0)) rfl ?_
  exact zg_ret rfl

/-- DesignReader.node -/
theorem zq_97 {w : Int32} (h0 : zswT w 96 [(0, 56), (1, 64), (2, 72), (3, 80), (4, 88)] = 96) : zrun 20000 8 4 [.ref 0, .int 1, .int 0, .int w] (zsF 0 [] 0 []) = some (some (.int (-2)), (zsF 0 [] 0 [])) := by
  refine zr_of (m := zm_D_node) rfl (Nat.le_of_ble_eq_true rfl) ?_
  show zgo _ _ _ (0, [.ref 0, .int 1, .int 0, .int w, zu], [], (zsF 0 [] 0 []), 0, 0) = _
  refine zg_nx (y := (1, [.ref 0, .int 1, .int 0, .int w, zu], [.ref 0], (zsF 0 [] 0 []), 0, 0)) rfl ?_
  refine zg_nx (y := (2, [.ref 0, .int 1, .int 0, .int w, zu], [.int 1, .ref 0], (zsF 0 [] 0 []), 0, 0)) rfl ?_
  refine zg_nx (y := (3, [.ref 0, .int 1, .int 0, .int w, zu], [.int 0, .int 1, .ref 0], (zsF 0 [] 0 []), 0, 0)) rfl ?_
  refine zg_call (n := 14) (as := [.ref 0, .int 1, .int 0]) (pc := 6) (lv := [.ref 0, .int 1, .int 0, .int w, zu]) (stk := []) (st := (zsF 0 [] 0 [])) (c := 0) (s := 0) (v := (some (.int 1))) (st' := (zsF 0 [] 0 [])) rfl (zq_75) ?_
  show zgo _ _ _ (6, [.ref 0, .int 1, .int 0, .int w, zu], [.int 1], (zsF 0 [] 0 []), 0, 0) = _
  refine zg_nx (y := (12, [.ref 0, .int 1, .int 0, .int w, zu], [], (zsF 0 [] 0 []), 0, 0)) rfl ?_
  refine zg_nx (y := (13, [.ref 0, .int 1, .int 0, .int w, zu], [.ref 0], (zsF 0 [] 0 []), 0, 0)) rfl ?_
  refine zg_nx (y := (16, [.ref 0, .int 1, .int 0, .int w, zu], [.ref 1], (zsF 0 [] 0 []), 0, 0)) rfl ?_
  refine zg_nx (y := (17, [.ref 0, .int 1, .int 0, .int w, zu], [.int 1, .ref 1], (zsF 0 [] 0 []), 0, 0)) rfl ?_
  refine zg_nx (y := (18, [.ref 0, .int 1, .int 0, .int w, zu], [.ref 10], (zsF 0 [] 0 []), 0, 0)) rfl ?_
  refine zg_nx (y := (20, [.ref 0, .int 1, .int 0, .int w, .ref 10], [], (zsF 0 [] 0 []), 0, 0)) rfl ?_
  refine zg_nx (y := (21, [.ref 0, .int 1, .int 0, .int w, .ref 10], [.int w], (zsF 0 [] 0 []), 0, 0)) rfl ?_
  refine zg_sw (T := zswT w 96 [(0, 56), (1, 64), (2, 72), (3, 80), (4, 88)]) (pc := 96) (lv := [.ref 0, .int 1, .int 0, .int w, .ref 10]) (stk := []) (st := (zsF 0 [] 0 [])) (c := 0) (s := 0) rfl h0 ?_
  refine zg_nx (y := (98, [.ref 0, .int 1, .int 0, .int w, .ref 10], [.int (-2)], (zsF 0 [] 0 []), 0, 0)) rfl ?_
  exact zg_ret rfl

/-- DesignReaderModel.node -/
theorem zq_98 {w : Int32} (h0 : ¬ w = 0) (h1 : ¬ w = 1) (h2 : ¬ w = 2) (h3 : ¬ w = 3) (h4 : ¬ w = 4) : zrun 20000 8 28 [.ref 35, .int 1, .int 0, .int w] (zsF 0 [] 0 []) = some (some (.int (-2)), (zsF 0 [] 0 [])) := by
  refine zr_of (m := zm_R_node) rfl (Nat.le_of_ble_eq_true rfl) ?_
  show zgo _ _ _ (0, [.ref 35, .int 1, .int 0, .int w, zu], [], (zsF 0 [] 0 []), 0, 0) = _
  refine zg_nx (y := (1, [.ref 35, .int 1, .int 0, .int w, zu], [.ref 35], (zsF 0 [] 0 []), 0, 0)) rfl ?_
  refine zg_nx (y := (2, [.ref 35, .int 1, .int 0, .int w, zu], [.int 1, .ref 35], (zsF 0 [] 0 []), 0, 0)) rfl ?_
  refine zg_nx (y := (3, [.ref 35, .int 1, .int 0, .int w, zu], [.int 0, .int 1, .ref 35], (zsF 0 [] 0 []), 0, 0)) rfl ?_
  refine zg_call (n := 24) (as := [.ref 35, .int 1, .int 0]) (pc := 6) (lv := [.ref 35, .int 1, .int 0, .int w, zu]) (stk := []) (st := (zsF 0 [] 0 [])) (c := 0) (s := 0) (v := (some (.int 1))) (st' := (zsF 0 [] 0 [])) rfl (zq_78) ?_
  show zgo _ _ _ (6, [.ref 35, .int 1, .int 0, .int w, zu], [.int 1], (zsF 0 [] 0 []), 0, 0) = _
  refine zg_nx (y := (12, [.ref 35, .int 1, .int 0, .int w, zu], [], (zsF 0 [] 0 []), 0, 0)) rfl ?_
  refine zg_nx (y := (15, [.ref 35, .int 1, .int 0, .int w, zu], [.int 13000], (zsF 0 [] 0 []), 0, 0)) rfl ?_
  refine zg_nx (y := (16, [.ref 35, .int 1, .int 0, .int w, zu], [.int 1, .int 13000], (zsF 0 [] 0 []), 0, 0)) rfl ?_
  refine zg_nx (y := (17, [.ref 35, .int 1, .int 0, .int w, zu], [.int 13000], (zsF 0 [] 0 []), 0, 0)) rfl ?_
  refine zg_nx (y := (18, [.ref 35, .int 1, .int 0, .int w, zu], [.int 0, .int 13000], (zsF 0 [] 0 []), 0, 0)) rfl ?_
  refine zg_nx (y := (19, [.ref 35, .int 1, .int 0, .int w, zu], [.int 13000], (zsF 0 [] 0 []), 0, 0)) rfl ?_
  refine zg_nx (y := (21, [.ref 35, .int 1, .int 0, .int w, .int 13000], [], (zsF 0 [] 0 []), 0, 0)) rfl ?_
  refine zg_nx (y := (22, [.ref 35, .int 1, .int 0, .int w, .int 13000], [.int w], (zsF 0 [] 0 []), 0, 0)) rfl ?_
  refine zg_brT (P := ¬ w = 0) (b := (zn 25 [.ref 35, .int 1, .int 0, .int w, .int 13000] [] (zsF 0 [] 0 []) 0 0)) (pc := 35) (lv := [.ref 35, .int 1, .int 0, .int w, .int 13000]) (stk := []) (st := (zsF 0 [] 0 [])) (c := 0) (s := 0) rfl h0 ?_
  refine zg_nx (y := (36, [.ref 35, .int 1, .int 0, .int w, .int 13000], [.int w], (zsF 0 [] 0 []), 0, 0)) rfl ?_
  refine zg_nx (y := (37, [.ref 35, .int 1, .int 0, .int w, .int 13000], [.int 1, .int w], (zsF 0 [] 0 []), 0, 0)) rfl ?_
  refine zg_brT (P := ¬ w = 1) (b := (zn 40 [.ref 35, .int 1, .int 0, .int w, .int 13000] [] (zsF 0 [] 0 []) 0 0)) (pc := 50) (lv := [.ref 35, .int 1, .int 0, .int w, .int 13000]) (stk := []) (st := (zsF 0 [] 0 [])) (c := 0) (s := 0) rfl h1 ?_
  refine zg_nx (y := (51, [.ref 35, .int 1, .int 0, .int w, .int 13000], [.int w], (zsF 0 [] 0 []), 0, 0)) rfl ?_
  refine zg_nx (y := (52, [.ref 35, .int 1, .int 0, .int w, .int 13000], [.int 2, .int w], (zsF 0 [] 0 []), 0, 0)) rfl ?_
  refine zg_brT (P := ¬ w = 2) (b := (zn 55 [.ref 35, .int 1, .int 0, .int w, .int 13000] [] (zsF 0 [] 0 []) 0 0)) (pc := 65) (lv := [.ref 35, .int 1, .int 0, .int w, .int 13000]) (stk := []) (st := (zsF 0 [] 0 [])) (c := 0) (s := 0) rfl h2 ?_
  refine zg_nx (y := (66, [.ref 35, .int 1, .int 0, .int w, .int 13000], [.int w], (zsF 0 [] 0 []), 0, 0)) rfl ?_
  refine zg_nx (y := (67, [.ref 35, .int 1, .int 0, .int w, .int 13000], [.int 3, .int w], (zsF 0 [] 0 []), 0, 0)) rfl ?_
  refine zg_brT (P := ¬ w = 3) (b := (zn 70 [.ref 35, .int 1, .int 0, .int w, .int 13000] [] (zsF 0 [] 0 []) 0 0)) (pc := 80) (lv := [.ref 35, .int 1, .int 0, .int w, .int 13000]) (stk := []) (st := (zsF 0 [] 0 [])) (c := 0) (s := 0) rfl h3 ?_
  refine zg_nx (y := (81, [.ref 35, .int 1, .int 0, .int w, .int 13000], [.int w], (zsF 0 [] 0 []), 0, 0)) rfl ?_
  refine zg_nx (y := (82, [.ref 35, .int 1, .int 0, .int w, .int 13000], [.int 4, .int w], (zsF 0 [] 0 []), 0, 0)) rfl ?_
  refine zg_brT (P := ¬ w = 4) (b := (zn 85 [.ref 35, .int 1, .int 0, .int w, .int 13000] [] (zsF 0 [] 0 []) 0 0)) (pc := 94) (lv := [.ref 35, .int 1, .int 0, .int w, .int 13000]) (stk := []) (st := (zsF 0 [] 0 [])) (c := 0) (s := 0) rfl h4 ?_
  refine zg_nx (y := (96, [.ref 35, .int 1, .int 0, .int w, .int 13000], [.int (-2)], (zsF 0 [] 0 []), 0, 0)) rfl ?_
  exact zg_ret rfl

/-- DesignReader.node -/
theorem zq_99 {k w : Int32} (h0 : k < 0) : zrun 20000 8 4 [.ref 0, .int 1, .int k, .int w] (zsF 0 [] 0 []) = some (some (.int (-2)), (zsF 0 [] 0 [])) := by
  refine zr_of (m := zm_D_node) rfl (Nat.le_of_ble_eq_true rfl) ?_
  show zgo _ _ _ (0, [.ref 0, .int 1, .int k, .int w, zu], [], (zsF 0 [] 0 []), 0, 0) = _
  refine zg_nx (y := (1, [.ref 0, .int 1, .int k, .int w, zu], [.ref 0], (zsF 0 [] 0 []), 0, 0)) rfl ?_
  refine zg_nx (y := (2, [.ref 0, .int 1, .int k, .int w, zu], [.int 1, .ref 0], (zsF 0 [] 0 []), 0, 0)) rfl ?_
  refine zg_nx (y := (3, [.ref 0, .int 1, .int k, .int w, zu], [.int k, .int 1, .ref 0], (zsF 0 [] 0 []), 0, 0)) rfl ?_
  refine zg_call (n := 14) (as := [.ref 0, .int 1, .int k]) (pc := 6) (lv := [.ref 0, .int 1, .int k, .int w, zu]) (stk := []) (st := (zsF 0 [] 0 [])) (c := 0) (s := 0) (v := (some (.int 0))) (st' := (zsF 0 [] 0 [])) rfl (zq_36 h0) ?_
  show zgo _ _ _ (6, [.ref 0, .int 1, .int k, .int w, zu], [.int 0], (zsF 0 [] 0 []), 0, 0) = _
  refine zg_nx (y := (9, [.ref 0, .int 1, .int k, .int w, zu], [], (zsF 0 [] 0 []), 0, 0)) rfl ?_
  refine zg_nx (y := (11, [.ref 0, .int 1, .int k, .int w, zu], [.int (-2)], (zsF 0 [] 0 []), 0, 0)) rfl ?_
  exact zg_ret rfl

/-- DesignReaderModel.node -/
theorem zq_100 {k w : Int32} (h0 : k < 0) : zrun 20000 8 28 [.ref 35, .int 1, .int k, .int w] (zsF 0 [] 0 []) = some (some (.int (-2)), (zsF 0 [] 0 [])) := by
  refine zr_of (m := zm_R_node) rfl (Nat.le_of_ble_eq_true rfl) ?_
  show zgo _ _ _ (0, [.ref 35, .int 1, .int k, .int w, zu], [], (zsF 0 [] 0 []), 0, 0) = _
  refine zg_nx (y := (1, [.ref 35, .int 1, .int k, .int w, zu], [.ref 35], (zsF 0 [] 0 []), 0, 0)) rfl ?_
  refine zg_nx (y := (2, [.ref 35, .int 1, .int k, .int w, zu], [.int 1, .ref 35], (zsF 0 [] 0 []), 0, 0)) rfl ?_
  refine zg_nx (y := (3, [.ref 35, .int 1, .int k, .int w, zu], [.int k, .int 1, .ref 35], (zsF 0 [] 0 []), 0, 0)) rfl ?_
  refine zg_call (n := 24) (as := [.ref 35, .int 1, .int k]) (pc := 6) (lv := [.ref 35, .int 1, .int k, .int w, zu]) (stk := []) (st := (zsF 0 [] 0 [])) (c := 0) (s := 0) (v := (some (.int 0))) (st' := (zsF 0 [] 0 [])) rfl (zq_38 h0) ?_
  show zgo _ _ _ (6, [.ref 35, .int 1, .int k, .int w, zu], [.int 0], (zsF 0 [] 0 []), 0, 0) = _
  refine zg_nx (y := (9, [.ref 35, .int 1, .int k, .int w, zu], [], (zsF 0 [] 0 []), 0, 0)) rfl ?_
  refine zg_nx (y := (11, [.ref 35, .int 1, .int k, .int w, zu], [.int (-2)], (zsF 0 [] 0 []), 0, 0)) rfl ?_
  exact zg_ret rfl

/-- DesignReader.node -/
theorem zq_101 {k w : Int32} (h0 : ¬ (k < 0)) (h1 : 1 ≤ k) : zrun 20000 8 4 [.ref 0, .int 1, .int k, .int w] (zsF 0 [] 0 []) = some (some (.int (-2)), (zsF 0 [] 0 [])) := by
  refine zr_of (m := zm_D_node) rfl (Nat.le_of_ble_eq_true rfl) ?_
  show zgo _ _ _ (0, [.ref 0, .int 1, .int k, .int w, zu], [], (zsF 0 [] 0 []), 0, 0) = _
  refine zg_nx (y := (1, [.ref 0, .int 1, .int k, .int w, zu], [.ref 0], (zsF 0 [] 0 []), 0, 0)) rfl ?_
  refine zg_nx (y := (2, [.ref 0, .int 1, .int k, .int w, zu], [.int 1, .ref 0], (zsF 0 [] 0 []), 0, 0)) rfl ?_
  refine zg_nx (y := (3, [.ref 0, .int 1, .int k, .int w, zu], [.int k, .int 1, .ref 0], (zsF 0 [] 0 []), 0, 0)) rfl ?_
  refine zg_call (n := 14) (as := [.ref 0, .int 1, .int k]) (pc := 6) (lv := [.ref 0, .int 1, .int k, .int w, zu]) (stk := []) (st := (zsF 0 [] 0 [])) (c := 0) (s := 0) (v := (some (.int 0))) (st' := (zsF 0 [] 0 [])) rfl (zq_40 h0 h1) ?_
  show zgo _ _ _ (6, [.ref 0, .int 1, .int k, .int w, zu], [.int 0], (zsF 0 [] 0 []), 0, 0) = _
  refine zg_nx (y := (9, [.ref 0, .int 1, .int k, .int w, zu], [], (zsF 0 [] 0 []), 0, 0)) rfl ?_
  refine zg_nx (y := (11, [.ref 0, .int 1, .int k, .int w, zu], [.int (-2)], (zsF 0 [] 0 []), 0, 0)) rfl ?_
  exact zg_ret rfl

/-- DesignReaderModel.node -/
theorem zq_102 {k w : Int32} (h0 : ¬ (k < 0)) (h1 : 1 ≤ k) : zrun 20000 8 28 [.ref 35, .int 1, .int k, .int w] (zsF 0 [] 0 []) = some (some (.int (-2)), (zsF 0 [] 0 [])) := by
  refine zr_of (m := zm_R_node) rfl (Nat.le_of_ble_eq_true rfl) ?_
  show zgo _ _ _ (0, [.ref 35, .int 1, .int k, .int w, zu], [], (zsF 0 [] 0 []), 0, 0) = _
  refine zg_nx (y := (1, [.ref 35, .int 1, .int k, .int w, zu], [.ref 35], (zsF 0 [] 0 []), 0, 0)) rfl ?_
  refine zg_nx (y := (2, [.ref 35, .int 1, .int k, .int w, zu], [.int 1, .ref 35], (zsF 0 [] 0 []), 0, 0)) rfl ?_
  refine zg_nx (y := (3, [.ref 35, .int 1, .int k, .int w, zu], [.int k, .int 1, .ref 35], (zsF 0 [] 0 []), 0, 0)) rfl ?_
  refine zg_call (n := 24) (as := [.ref 35, .int 1, .int k]) (pc := 6) (lv := [.ref 35, .int 1, .int k, .int w, zu]) (stk := []) (st := (zsF 0 [] 0 [])) (c := 0) (s := 0) (v := (some (.int 0))) (st' := (zsF 0 [] 0 [])) rfl (zq_42 h0 h1) ?_
  show zgo _ _ _ (6, [.ref 35, .int 1, .int k, .int w, zu], [.int 0], (zsF 0 [] 0 []), 0, 0) = _
  refine zg_nx (y := (9, [.ref 35, .int 1, .int k, .int w, zu], [], (zsF 0 [] 0 []), 0, 0)) rfl ?_
  refine zg_nx (y := (11, [.ref 35, .int 1, .int k, .int w, zu], [.int (-2)], (zsF 0 [] 0 []), 0, 0)) rfl ?_
  exact zg_ret rfl

/-- DesignReader.node -/
theorem zq_103 {t k w : Int32} (h0 : ¬ (t < 0)) (h1 : 2 ≤ t) : zrun 20000 8 4 [.ref 0, .int t, .int k, .int w] (zsF 0 [] 0 []) = some (some (.int (-2)), (zsF 0 [] 0 [])) := by
  refine zr_of (m := zm_D_node) rfl (Nat.le_of_ble_eq_true rfl) ?_
  show zgo _ _ _ (0, [.ref 0, .int t, .int k, .int w, zu], [], (zsF 0 [] 0 []), 0, 0) = _
  refine zg_nx (y := (1, [.ref 0, .int t, .int k, .int w, zu], [.ref 0], (zsF 0 [] 0 []), 0, 0)) rfl ?_
  refine zg_nx (y := (2, [.ref 0, .int t, .int k, .int w, zu], [.int t, .ref 0], (zsF 0 [] 0 []), 0, 0)) rfl ?_
  refine zg_nx (y := (3, [.ref 0, .int t, .int k, .int w, zu], [.int k, .int t, .ref 0], (zsF 0 [] 0 []), 0, 0)) rfl ?_
  refine zg_call (n := 14) (as := [.ref 0, .int t, .int k]) (pc := 6) (lv := [.ref 0, .int t, .int k, .int w, zu]) (stk := []) (st := (zsF 0 [] 0 [])) (c := 0) (s := 0) (v := (some (.int 0))) (st' := (zsF 0 [] 0 [])) rfl (zq_45 h0 h1) ?_
  show zgo _ _ _ (6, [.ref 0, .int t, .int k, .int w, zu], [.int 0], (zsF 0 [] 0 []), 0, 0) = _
  refine zg_nx (y := (9, [.ref 0, .int t, .int k, .int w, zu], [], (zsF 0 [] 0 []), 0, 0)) rfl ?_
  refine zg_nx (y := (11, [.ref 0, .int t, .int k, .int w, zu], [.int (-2)], (zsF 0 [] 0 []), 0, 0)) rfl ?_
  exact zg_ret rfl

/-- DesignReaderModel.node -/
theorem zq_104 {t k w : Int32} (h0 : ¬ (t < 0)) (h1 : 2 ≤ t) : zrun 20000 8 28 [.ref 35, .int t, .int k, .int w] (zsF 0 [] 0 []) = some (some (.int (-2)), (zsF 0 [] 0 [])) := by
  refine zr_of (m := zm_R_node) rfl (Nat.le_of_ble_eq_true rfl) ?_
  show zgo _ _ _ (0, [.ref 35, .int t, .int k, .int w, zu], [], (zsF 0 [] 0 []), 0, 0) = _
  refine zg_nx (y := (1, [.ref 35, .int t, .int k, .int w, zu], [.ref 35], (zsF 0 [] 0 []), 0, 0)) rfl ?_
  refine zg_nx (y := (2, [.ref 35, .int t, .int k, .int w, zu], [.int t, .ref 35], (zsF 0 [] 0 []), 0, 0)) rfl ?_
  refine zg_nx (y := (3, [.ref 35, .int t, .int k, .int w, zu], [.int k, .int t, .ref 35], (zsF 0 [] 0 []), 0, 0)) rfl ?_
  refine zg_call (n := 24) (as := [.ref 35, .int t, .int k]) (pc := 6) (lv := [.ref 35, .int t, .int k, .int w, zu]) (stk := []) (st := (zsF 0 [] 0 [])) (c := 0) (s := 0) (v := (some (.int 0))) (st' := (zsF 0 [] 0 [])) rfl (zq_47 h0 h1) ?_
  show zgo _ _ _ (6, [.ref 35, .int t, .int k, .int w, zu], [.int 0], (zsF 0 [] 0 []), 0, 0) = _
  refine zg_nx (y := (9, [.ref 35, .int t, .int k, .int w, zu], [], (zsF 0 [] 0 []), 0, 0)) rfl ?_
  refine zg_nx (y := (11, [.ref 35, .int t, .int k, .int w, zu], [.int (-2)], (zsF 0 [] 0 []), 0, 0)) rfl ?_
  exact zg_ret rfl

/-- DesignReader$NameTable.byteOf -/
theorem zq_105 {n i : Int32} (h0 : n < 0) : zrun 20000 7 40 [.ref 18, .int n, .int i] (zsF 0 [] 0 []) = some (some (.int (-1)), (zsF 0 [] 0 [])) := by
  refine zr_of (m := zm_N_byteOf) rfl (Nat.le_of_ble_eq_true rfl) ?_
  show zgo _ _ _ (0, [.ref 18, .int n, .int i], [], (zsF 0 [] 0 []), 0, 0) = _
  refine zg_nx (y := (1, [.ref 18, .int n, .int i], [.int n], (zsF 0 [] 0 []), 0, 0)) rfl ?_
  refine zg_brT (P := n < 0) (b := (zn 4 [.ref 18, .int n, .int i] [] (zsF 0 [] 0 []) 0 0)) (pc := 35) (lv := [.ref 18, .int n, .int i]) (stk := []) (st := (zsF 0 [] 0 [])) (c := 0) (s := 0) rfl h0 ?_
  refine zg_nx (y := (36, [.ref 18, .int n, .int i], [.int (-1)], (zsF 0 [] 0 []), 0, 0)) rfl ?_
  exact zg_ret rfl

/-- DesignReader.spelt -/
theorem zq_106 {n i : Int32} (h0 : n < 0) : zrun 20000 8 8 [.ref 0, .int n, .int i] (zsF 0 [] 0 []) = some (some (.int (-1)), (zsF 0 [] 0 [])) := by
  refine zr_of (m := zm_D_spelt) rfl (Nat.le_of_ble_eq_true rfl) ?_
  show zgo _ _ _ (0, [.ref 0, .int n, .int i], [], (zsF 0 [] 0 []), 0, 0) = _
  refine zg_nx (y := (1, [.ref 0, .int n, .int i], [.ref 0], (zsF 0 [] 0 []), 0, 0)) rfl ?_
  refine zg_nx (y := (4, [.ref 0, .int n, .int i], [.ref 18], (zsF 0 [] 0 []), 0, 0)) rfl ?_
  refine zg_nx (y := (5, [.ref 0, .int n, .int i], [.int n, .ref 18], (zsF 0 [] 0 []), 0, 0)) rfl ?_
  refine zg_nx (y := (6, [.ref 0, .int n, .int i], [.int i, .int n, .ref 18], (zsF 0 [] 0 []), 0, 0)) rfl ?_
  refine zg_call (n := 40) (as := [.ref 18, .int n, .int i]) (pc := 9) (lv := [.ref 0, .int n, .int i]) (stk := []) (st := (zsF 0 [] 0 [])) (c := 0) (s := 0) (v := (some (.int (-1)))) (st' := (zsF 0 [] 0 [])) rfl (zq_105 h0) ?_
  show zgo _ _ _ (9, [.ref 0, .int n, .int i], [.int (-1)], (zsF 0 [] 0 []), 0, 0) = _
  exact zg_ret rfl

/-- DesignReaderModel.spelt -/
theorem zq_107 {n i : Int32} (h0 : n < 0) : zrun 20000 8 31 [.ref 35, .int n, .int i] (zsF 0 [] 0 []) = some (some (.int (-1)), (zsF 0 [] 0 [])) := by
  refine zr_of (m := zm_R_spelt) rfl (Nat.le_of_ble_eq_true rfl) ?_
  show zgo _ _ _ (0, [.ref 35, .int n, .int i], [], (zsF 0 [] 0 []), 0, 0) = _
  refine zg_nx (y := (1, [.ref 35, .int n, .int i], [.int n], (zsF 0 [] 0 []), 0, 0)) rfl ?_
  refine zg_brT (P := n < 0) (b := (zn 4 [.ref 35, .int n, .int i] [] (zsF 0 [] 0 []) 0 0)) (pc := 35) (lv := [.ref 35, .int n, .int i]) (stk := []) (st := (zsF 0 [] 0 [])) (c := 0) (s := 0) rfl h0 ?_
  refine zg_nx (y := (36, [.ref 35, .int n, .int i], [.int (-1)], (zsF 0 [] 0 []), 0, 0)) rfl ?_
  refine zg_nx (y := (52, [.ref 35, .int n, .int i], [.int (-1)], (zsF 0 [] 0 []), 0, 0)) rfl ?_
  exact zg_ret rfl

/-- DesignReader$NameTable.byteOf -/
theorem zq_108 {n i : Int32} (h0 : ¬ (n < 0)) (h1 : 0 ≤ n) : zrun 20000 7 40 [.ref 18, .int n, .int i] (zsF 0 [] 0 []) = some (some (.int (-1)), (zsF 0 [] 0 [])) := by
  refine zr_of (m := zm_N_byteOf) rfl (Nat.le_of_ble_eq_true rfl) ?_
  show zgo _ _ _ (0, [.ref 18, .int n, .int i], [], (zsF 0 [] 0 []), 0, 0) = _
  refine zg_nx (y := (1, [.ref 18, .int n, .int i], [.int n], (zsF 0 [] 0 []), 0, 0)) rfl ?_
  refine zg_brF (P := n < 0) (a := (zn 35 [.ref 18, .int n, .int i] [] (zsF 0 [] 0 []) 0 0)) (pc := 4) (lv := [.ref 18, .int n, .int i]) (stk := []) (st := (zsF 0 [] 0 [])) (c := 0) (s := 0) rfl h0 ?_
  refine zg_nx (y := (5, [.ref 18, .int n, .int i], [.int n], (zsF 0 [] 0 []), 0, 0)) rfl ?_
  refine zg_nx (y := (6, [.ref 18, .int n, .int i], [.ref 18, .int n], (zsF 0 [] 0 []), 0, 0)) rfl ?_
  refine zg_nx (y := (9, [.ref 18, .int n, .int i], [.int 0, .int n], (zsF 0 [] 0 []), 0, 0)) rfl ?_
  refine zg_brT (P := 0 ≤ n) (b := (zn 12 [.ref 18, .int n, .int i] [] (zsF 0 [] 0 []) 0 0)) (pc := 35) (lv := [.ref 18, .int n, .int i]) (stk := []) (st := (zsF 0 [] 0 [])) (c := 0) (s := 0) rfl h1 ?_
  refine zg_nx (y := (36, [.ref 18, .int n, .int i], [.int (-1)], (zsF 0 [] 0 []), 0, 0)) rfl ?_
  exact zg_ret rfl

/-- DesignReader.spelt -/
theorem zq_109 {n i : Int32} (h0 : ¬ (n < 0)) (h1 : 0 ≤ n) : zrun 20000 8 8 [.ref 0, .int n, .int i] (zsF 0 [] 0 []) = some (some (.int (-1)), (zsF 0 [] 0 [])) := by
  refine zr_of (m := zm_D_spelt) rfl (Nat.le_of_ble_eq_true rfl) ?_
  show zgo _ _ _ (0, [.ref 0, .int n, .int i], [], (zsF 0 [] 0 []), 0, 0) = _
  refine zg_nx (y := (1, [.ref 0, .int n, .int i], [.ref 0], (zsF 0 [] 0 []), 0, 0)) rfl ?_
  refine zg_nx (y := (4, [.ref 0, .int n, .int i], [.ref 18], (zsF 0 [] 0 []), 0, 0)) rfl ?_
  refine zg_nx (y := (5, [.ref 0, .int n, .int i], [.int n, .ref 18], (zsF 0 [] 0 []), 0, 0)) rfl ?_
  refine zg_nx (y := (6, [.ref 0, .int n, .int i], [.int i, .int n, .ref 18], (zsF 0 [] 0 []), 0, 0)) rfl ?_
  refine zg_call (n := 40) (as := [.ref 18, .int n, .int i]) (pc := 9) (lv := [.ref 0, .int n, .int i]) (stk := []) (st := (zsF 0 [] 0 [])) (c := 0) (s := 0) (v := (some (.int (-1)))) (st' := (zsF 0 [] 0 [])) rfl (zq_108 h0 h1) ?_
  show zgo _ _ _ (9, [.ref 0, .int n, .int i], [.int (-1)], (zsF 0 [] 0 []), 0, 0) = _
  exact zg_ret rfl

/-- DesignReaderModel.spelt -/
theorem zq_110 {n i : Int32} (h0 : ¬ (n < 0)) (h1 : 0 ≤ n) : zrun 20000 8 31 [.ref 35, .int n, .int i] (zsF 0 [] 0 []) = some (some (.int (-1)), (zsF 0 [] 0 [])) := by
  refine zr_of (m := zm_R_spelt) rfl (Nat.le_of_ble_eq_true rfl) ?_
  show zgo _ _ _ (0, [.ref 35, .int n, .int i], [], (zsF 0 [] 0 []), 0, 0) = _
  refine zg_nx (y := (1, [.ref 35, .int n, .int i], [.int n], (zsF 0 [] 0 []), 0, 0)) rfl ?_
  refine zg_brF (P := n < 0) (a := (zn 35 [.ref 35, .int n, .int i] [] (zsF 0 [] 0 []) 0 0)) (pc := 4) (lv := [.ref 35, .int n, .int i]) (stk := []) (st := (zsF 0 [] 0 [])) (c := 0) (s := 0) rfl h0 ?_
  refine zg_nx (y := (5, [.ref 35, .int n, .int i], [.int n], (zsF 0 [] 0 []), 0, 0)) rfl ?_
  refine zg_nx (y := (6, [.ref 35, .int n, .int i], [.ref 35, .int n], (zsF 0 [] 0 []), 0, 0)) rfl ?_
  refine zg_nx (y := (9, [.ref 35, .int n, .int i], [.int 0, .int n], (zsF 0 [] 0 []), 0, 0)) rfl ?_
  refine zg_brT (P := 0 ≤ n) (b := (zn 12 [.ref 35, .int n, .int i] [] (zsF 0 [] 0 []) 0 0)) (pc := 35) (lv := [.ref 35, .int n, .int i]) (stk := []) (st := (zsF 0 [] 0 [])) (c := 0) (s := 0) rfl h1 ?_
  refine zg_nx (y := (36, [.ref 35, .int n, .int i], [.int (-1)], (zsF 0 [] 0 []), 0, 0)) rfl ?_
  refine zg_nx (y := (52, [.ref 35, .int n, .int i], [.int (-1)], (zsF 0 [] 0 []), 0, 0)) rfl ?_
  exact zg_ret rfl

/-- DesignReader.written -/
theorem zq_111 {i : Int32} (h0 : i < 0) : zrun 20000 8 10 [.ref 0, .int i] (zsF 0 [] 0 []) = some (some (.int (-1)), (zsF 0 [] 0 [])) := by
  refine zr_of (m := zm_D_written) rfl (Nat.le_of_ble_eq_true rfl) ?_
  show zgo _ _ _ (0, [.ref 0, .int i], [], (zsF 0 [] 0 []), 0, 0) = _
  refine zg_nx (y := (1, [.ref 0, .int i], [.int i], (zsF 0 [] 0 []), 0, 0)) rfl ?_
  refine zg_brT (P := i < 0) (b := (zn 4 [.ref 0, .int i] [] (zsF 0 [] 0 []) 0 0)) (pc := 27) (lv := [.ref 0, .int i]) (stk := []) (st := (zsF 0 [] 0 [])) (c := 0) (s := 0) rfl h0 ?_
  refine zg_nx (y := (28, [.ref 0, .int i], [.int (-1)], (zsF 0 [] 0 []), 0, 0)) rfl ?_
  exact zg_ret rfl

/-- DesignReaderModel.written -/
theorem zq_112 {i : Int32} (h0 : i < 0) : zrun 20000 8 37 [.ref 35, .int i] (zsF 0 [] 0 []) = some (some (.int (-1)), (zsF 0 [] 0 [])) := by
  refine zr_of (m := zm_R_written) rfl (Nat.le_of_ble_eq_true rfl) ?_
  show zgo _ _ _ (0, [.ref 35, .int i], [], (zsF 0 [] 0 []), 0, 0) = _
  refine zg_nx (y := (1, [.ref 35, .int i], [.int i], (zsF 0 [] 0 []), 0, 0)) rfl ?_
  refine zg_brT (P := i < 0) (b := (zn 4 [.ref 35, .int i] [] (zsF 0 [] 0 []) 0 0)) (pc := 12) (lv := [.ref 35, .int i]) (stk := []) (st := (zsF 0 [] 0 [])) (c := 0) (s := 0) rfl h0 ?_
  refine zg_nx (y := (13, [.ref 35, .int i], [.int (-1)], (zsF 0 [] 0 []), 0, 0)) rfl ?_
  refine zg_nx (y := (22, [.ref 35, .int i], [.int (-1)], (zsF 0 [] 0 []), 0, 0)) rfl ?_
  exact zg_ret rfl

/-- DesignReader.written -/
theorem zq_113 {i : Int32} (h0 : ¬ (i < 0)) (h1 : 0 ≤ i) : zrun 20000 8 10 [.ref 0, .int i] (zsF 0 [] 0 []) = some (some (.int (-1)), (zsF 0 [] 0 [])) := by
  refine zr_of (m := zm_D_written) rfl (Nat.le_of_ble_eq_true rfl) ?_
  show zgo _ _ _ (0, [.ref 0, .int i], [], (zsF 0 [] 0 []), 0, 0) = _
  refine zg_nx (y := (1, [.ref 0, .int i], [.int i], (zsF 0 [] 0 []), 0, 0)) rfl ?_
  refine zg_brF (P := i < 0) (a := (zn 27 [.ref 0, .int i] [] (zsF 0 [] 0 []) 0 0)) (pc := 4) (lv := [.ref 0, .int i]) (stk := []) (st := (zsF 0 [] 0 [])) (c := 0) (s := 0) rfl h0 ?_
  refine zg_nx (y := (5, [.ref 0, .int i], [.int i], (zsF 0 [] 0 []), 0, 0)) rfl ?_
  refine zg_nx (y := (6, [.ref 0, .int i], [.ref 0, .int i], (zsF 0 [] 0 []), 0, 0)) rfl ?_
  refine zg_nx (y := (9, [.ref 0, .int i], [.ref 32, .int i], (zsF 0 [] 0 []), 0, 0)) rfl ?_
  refine zg_nx (y := (12, [.ref 0, .int i], [.int 0, .int i], (zsF 0 [] 0 []), 0, 0)) rfl ?_
  refine zg_brT (P := 0 ≤ i) (b := (zn 15 [.ref 0, .int i] [] (zsF 0 [] 0 []) 0 0)) (pc := 27) (lv := [.ref 0, .int i]) (stk := []) (st := (zsF 0 [] 0 [])) (c := 0) (s := 0) rfl h1 ?_
  refine zg_nx (y := (28, [.ref 0, .int i], [.int (-1)], (zsF 0 [] 0 []), 0, 0)) rfl ?_
  exact zg_ret rfl

/-- DesignReaderModel.written -/
theorem zq_114 {i : Int32} (h0 : ¬ (i < 0)) : zrun 20000 8 37 [.ref 35, .int i] (zsF 0 [] 0 []) = some (some (.int (-1)), (zsF 0 [] 0 [])) := by
  refine zr_of (m := zm_R_written) rfl (Nat.le_of_ble_eq_true rfl) ?_
  show zgo _ _ _ (0, [.ref 35, .int i], [], (zsF 0 [] 0 []), 0, 0) = _
  refine zg_nx (y := (1, [.ref 35, .int i], [.int i], (zsF 0 [] 0 []), 0, 0)) rfl ?_
  refine zg_brF (P := i < 0) (a := (zn 12 [.ref 35, .int i] [] (zsF 0 [] 0 []) 0 0)) (pc := 4) (lv := [.ref 35, .int i]) (stk := []) (st := (zsF 0 [] 0 [])) (c := 0) (s := 0) rfl h0 ?_
  refine zg_nx (y := (5, [.ref 35, .int i], [.int i], (zsF 0 [] 0 []), 0, 0)) rfl ?_
  refine zg_nx (y := (6, [.ref 35, .int i], [.ref 35, .int i], (zsF 0 [] 0 []), 0, 0)) rfl ?_
  refine zg_nx (y := (9, [.ref 35, .int i], [.int 0, .int i], (zsF 0 [] 0 []), 0, 0)) rfl ?_
  refine zg_brF (P := i < 0) (a := (zn 16 [.ref 35, .int i] [] (zsF 0 [] 0 []) 0 0)) (pc := 12) (lv := [.ref 35, .int i]) (stk := []) (st := (zsF 0 [] 0 [])) (c := 0) (s := 0) rfl h0 ?_
  refine zg_nx (y := (13, [.ref 35, .int i], [.int (-1)], (zsF 0 [] 0 []), 0, 0)) rfl ?_
  refine zg_nx (y := (22, [.ref 35, .int i], [.int (-1)], (zsF 0 [] 0 []), 0, 0)) rfl ?_
  exact zg_ret rfl
end
section
/-! FEED: printed by wip/gen3.py, gen4.py -/
/-- DesignReader.appendFour -/
theorem za_0 {x : Int32} {v : List (Nat × Int32)} : zrun 20000 7 15 [.ref 0, .int x] (zsF 0 v 0 []) = some (none, (zsF 4 ((3, (vp_nar .byte ((x >>> (0 &&& 31)).toInt8.toInt32))) :: (2, (vp_nar .byte ((x >>> (8 &&& 31)).toInt8.toInt32))) :: (1, (vp_nar .byte ((x >>> (16 &&& 31)).toInt8.toInt32))) :: (0, (vp_nar .byte ((x >>> (24 &&& 31)).toInt8.toInt32))) :: v) 0 [])) := by
  refine zr_of (m := zm_D_appendFour) rfl (Nat.le_of_ble_eq_true rfl) ?_
  show zgo _ _ _ (0, [.ref 0, .int x, zu], [], (zsF 0 v 0 []), 0, 0) = _
  refine zg_nx (y := (2, [.ref 0, .int x, zu], [.int 24], (zsF 0 v 0 []), 0, 0)) rfl ?_
  refine zg_nx (y := (3, [.ref 0, .int x, .int 24], [], (zsF 0 v 0 []), 0, 0)) rfl ?_
  refine zg_nx (y := (4, [.ref 0, .int x, .int 24], [.int 24], (zsF 0 v 0 []), 0, 0)) rfl ?_
  refine zg_nx (y := (7, [.ref 0, .int x, .int 24], [], (zsF 0 v 0 []), 0, 0)) rfl ?_
  refine zg_nx (y := (8, [.ref 0, .int x, .int 24], [.ref 0], (zsF 0 v 0 []), 0, 0)) rfl ?_
  refine zg_nx (y := (11, [.ref 0, .int x, .int 24], [.int 0], (zsF 0 v 0 []), 0, 0)) rfl ?_
  refine zg_nx (y := (14, [.ref 0, .int x, .int 24], [.int 8000, .int 0], (zsF 0 v 0 []), 0, 0)) rfl ?_
  refine zg_nx (y := (17, [.ref 0, .int x, .int 24], [], (zsF 0 v 0 []), 0, 0)) rfl ?_
  refine zg_nx (y := (18, [.ref 0, .int x, .int 24], [.ref 0], (zsF 0 v 0 []), 0, 0)) rfl ?_
  refine zg_nx (y := (21, [.ref 0, .int x, .int 24], [.ref 23], (zsF 0 v 0 []), 0, 0)) rfl ?_
  refine zg_nx (y := (22, [.ref 0, .int x, .int 24], [.ref 0, .ref 23], (zsF 0 v 0 []), 0, 0)) rfl ?_
  refine zg_nx (y := (25, [.ref 0, .int x, .int 24], [.int 0, .ref 23], (zsF 0 v 0 []), 0, 0)) rfl ?_
  refine zg_nx (y := (26, [.ref 0, .int x, .int 24], [.int x, .int 0, .ref 23], (zsF 0 v 0 []), 0, 0)) rfl ?_
  refine zg_nx (y := (27, [.ref 0, .int x, .int 24], [.int 24, .int x, .int 0, .ref 23], (zsF 0 v 0 []), 0, 0)) rfl ?_
  refine zg_nx (y := (28, [.ref 0, .int x, .int 24], [.int (x >>> (24 &&& 31)), .int 0, .ref 23], (zsF 0 v 0 []), 0, 0)) rfl ?_
  refine zg_nx (y := (29, [.ref 0, .int x, .int 24], [.int ((x >>> (24 &&& 31)).toInt8.toInt32), .int 0, .ref 23], (zsF 0 v 0 []), 0, 0)) rfl ?_
  refine zg_nx (y := (30, [.ref 0, .int x, .int 24], [], (zsF 0 ((0, (vp_nar .byte ((x >>> (24 &&& 31)).toInt8.toInt32))) :: v) 0 []), 0, 0)) rfl ?_
  refine zg_nx (y := (31, [.ref 0, .int x, .int 24], [.ref 0], (zsF 0 ((0, (vp_nar .byte ((x >>> (24 &&& 31)).toInt8.toInt32))) :: v) 0 []), 0, 0)) rfl ?_
  refine zg_nx (y := (32, [.ref 0, .int x, .int 24], [.ref 0, .ref 0], (zsF 0 ((0, (vp_nar .byte ((x >>> (24 &&& 31)).toInt8.toInt32))) :: v) 0 []), 0, 0)) rfl ?_
  refine zg_nx (y := (35, [.ref 0, .int x, .int 24], [.int 0, .ref 0], (zsF 0 ((0, (vp_nar .byte ((x >>> (24 &&& 31)).toInt8.toInt32))) :: v) 0 []), 0, 0)) rfl ?_
  refine zg_nx (y := (36, [.ref 0, .int x, .int 24], [.int 1, .int 0, .ref 0], (zsF 0 ((0, (vp_nar .byte ((x >>> (24 &&& 31)).toInt8.toInt32))) :: v) 0 []), 0, 0)) rfl ?_
  refine zg_nx (y := (37, [.ref 0, .int x, .int 24], [.int 1, .ref 0], (zsF 0 ((0, (vp_nar .byte ((x >>> (24 &&& 31)).toInt8.toInt32))) :: v) 0 []), 0, 0)) rfl ?_
  refine zg_nx (y := (40, [.ref 0, .int x, .int 24], [], (zsF 1 ((0, (vp_nar .byte ((x >>> (24 &&& 31)).toInt8.toInt32))) :: v) 0 []), 0, 0)) rfl ?_
  refine zg_nx (y := (43, [.ref 0, .int x, .int 16], [], (zsF 1 ((0, (vp_nar .byte ((x >>> (24 &&& 31)).toInt8.toInt32))) :: v) 0 []), 0, 0)) rfl ?_
  refine zg_nx (y := (3, [.ref 0, .int x, .int 16], [], (zsF 1 ((0, (vp_nar .byte ((x >>> (24 &&& 31)).toInt8.toInt32))) :: v) 0 []), 0, 0)) rfl ?_
  refine zg_nx (y := (4, [.ref 0, .int x, .int 16], [.int 16], (zsF 1 ((0, (vp_nar .byte ((x >>> (24 &&& 31)).toInt8.toInt32))) :: v) 0 []), 0, 0)) rfl ?_
  refine zg_nx (y := (7, [.ref 0, .int x, .int 16], [], (zsF 1 ((0, (vp_nar .byte ((x >>> (24 &&& 31)).toInt8.toInt32))) :: v) 0 []), 0, 0)) rfl ?_
  refine zg_nx (y := (8, [.ref 0, .int x, .int 16], [.ref 0], (zsF 1 ((0, (vp_nar .byte ((x >>> (24 &&& 31)).toInt8.toInt32))) :: v) 0 []), 0, 0)) rfl ?_
  refine zg_nx (y := (11, [.ref 0, .int x, .int 16], [.int 1], (zsF 1 ((0, (vp_nar .byte ((x >>> (24 &&& 31)).toInt8.toInt32))) :: v) 0 []), 0, 0)) rfl ?_
  refine zg_nx (y := (14, [.ref 0, .int x, .int 16], [.int 8000, .int 1], (zsF 1 ((0, (vp_nar .byte ((x >>> (24 &&& 31)).toInt8.toInt32))) :: v) 0 []), 0, 0)) rfl ?_
  refine zg_nx (y := (17, [.ref 0, .int x, .int 16], [], (zsF 1 ((0, (vp_nar .byte ((x >>> (24 &&& 31)).toInt8.toInt32))) :: v) 0 []), 0, 0)) rfl ?_
  refine zg_nx (y := (18, [.ref 0, .int x, .int 16], [.ref 0], (zsF 1 ((0, (vp_nar .byte ((x >>> (24 &&& 31)).toInt8.toInt32))) :: v) 0 []), 0, 0)) rfl ?_
  refine zg_nx (y := (21, [.ref 0, .int x, .int 16], [.ref 23], (zsF 1 ((0, (vp_nar .byte ((x >>> (24 &&& 31)).toInt8.toInt32))) :: v) 0 []), 0, 0)) rfl ?_
  refine zg_nx (y := (22, [.ref 0, .int x, .int 16], [.ref 0, .ref 23], (zsF 1 ((0, (vp_nar .byte ((x >>> (24 &&& 31)).toInt8.toInt32))) :: v) 0 []), 0, 0)) rfl ?_
  refine zg_nx (y := (25, [.ref 0, .int x, .int 16], [.int 1, .ref 23], (zsF 1 ((0, (vp_nar .byte ((x >>> (24 &&& 31)).toInt8.toInt32))) :: v) 0 []), 0, 0)) rfl ?_
  refine zg_nx (y := (26, [.ref 0, .int x, .int 16], [.int x, .int 1, .ref 23], (zsF 1 ((0, (vp_nar .byte ((x >>> (24 &&& 31)).toInt8.toInt32))) :: v) 0 []), 0, 0)) rfl ?_
  refine zg_nx (y := (27, [.ref 0, .int x, .int 16], [.int 16, .int x, .int 1, .ref 23], (zsF 1 ((0, (vp_nar .byte ((x >>> (24 &&& 31)).toInt8.toInt32))) :: v) 0 []), 0, 0)) rfl ?_
  refine zg_nx (y := (28, [.ref 0, .int x, .int 16], [.int (x >>> (16 &&& 31)), .int 1, .ref 23], (zsF 1 ((0, (vp_nar .byte ((x >>> (24 &&& 31)).toInt8.toInt32))) :: v) 0 []), 0, 0)) rfl ?_
  refine zg_nx (y := (29, [.ref 0, .int x, .int 16], [.int ((x >>> (16 &&& 31)).toInt8.toInt32), .int 1, .ref 23], (zsF 1 ((0, (vp_nar .byte ((x >>> (24 &&& 31)).toInt8.toInt32))) :: v) 0 []), 0, 0)) rfl ?_
  refine zg_nx (y := (30, [.ref 0, .int x, .int 16], [], (zsF 1 ((1, (vp_nar .byte ((x >>> (16 &&& 31)).toInt8.toInt32))) :: (0, (vp_nar .byte ((x >>> (24 &&& 31)).toInt8.toInt32))) :: v) 0 []), 0, 0)) rfl ?_
  refine zg_nx (y := (31, [.ref 0, .int x, .int 16], [.ref 0], (zsF 1 ((1, (vp_nar .byte ((x >>> (16 &&& 31)).toInt8.toInt32))) :: (0, (vp_nar .byte ((x >>> (24 &&& 31)).toInt8.toInt32))) :: v) 0 []), 0, 0)) rfl ?_
  refine zg_nx (y := (32, [.ref 0, .int x, .int 16], [.ref 0, .ref 0], (zsF 1 ((1, (vp_nar .byte ((x >>> (16 &&& 31)).toInt8.toInt32))) :: (0, (vp_nar .byte ((x >>> (24 &&& 31)).toInt8.toInt32))) :: v) 0 []), 0, 0)) rfl ?_
  refine zg_nx (y := (35, [.ref 0, .int x, .int 16], [.int 1, .ref 0], (zsF 1 ((1, (vp_nar .byte ((x >>> (16 &&& 31)).toInt8.toInt32))) :: (0, (vp_nar .byte ((x >>> (24 &&& 31)).toInt8.toInt32))) :: v) 0 []), 0, 0)) rfl ?_
  refine zg_nx (y := (36, [.ref 0, .int x, .int 16], [.int 1, .int 1, .ref 0], (zsF 1 ((1, (vp_nar .byte ((x >>> (16 &&& 31)).toInt8.toInt32))) :: (0, (vp_nar .byte ((x >>> (24 &&& 31)).toInt8.toInt32))) :: v) 0 []), 0, 0)) rfl ?_
  refine zg_nx (y := (37, [.ref 0, .int x, .int 16], [.int 2, .ref 0], (zsF 1 ((1, (vp_nar .byte ((x >>> (16 &&& 31)).toInt8.toInt32))) :: (0, (vp_nar .byte ((x >>> (24 &&& 31)).toInt8.toInt32))) :: v) 0 []), 0, 0)) rfl ?_
  refine zg_nx (y := (40, [.ref 0, .int x, .int 16], [], (zsF 2 ((1, (vp_nar .byte ((x >>> (16 &&& 31)).toInt8.toInt32))) :: (0, (vp_nar .byte ((x >>> (24 &&& 31)).toInt8.toInt32))) :: v) 0 []), 0, 0)) rfl ?_
  refine zg_nx (y := (43, [.ref 0, .int x, .int 8], [], (zsF 2 ((1, (vp_nar .byte ((x >>> (16 &&& 31)).toInt8.toInt32))) :: (0, (vp_nar .byte ((x >>> (24 &&& 31)).toInt8.toInt32))) :: v) 0 []), 0, 0)) rfl ?_
  refine zg_nx (y := (3, [.ref 0, .int x, .int 8], [], (zsF 2 ((1, (vp_nar .byte ((x >>> (16 &&& 31)).toInt8.toInt32))) :: (0, (vp_nar .byte ((x >>> (24 &&& 31)).toInt8.toInt32))) :: v) 0 []), 0, 0)) rfl ?_
  refine zg_nx (y := (4, [.ref 0, .int x, .int 8], [.int 8], (zsF 2 ((1, (vp_nar .byte ((x >>> (16 &&& 31)).toInt8.toInt32))) :: (0, (vp_nar .byte ((x >>> (24 &&& 31)).toInt8.toInt32))) :: v) 0 []), 0, 0)) rfl ?_
  refine zg_nx (y := (7, [.ref 0, .int x, .int 8], [], (zsF 2 ((1, (vp_nar .byte ((x >>> (16 &&& 31)).toInt8.toInt32))) :: (0, (vp_nar .byte ((x >>> (24 &&& 31)).toInt8.toInt32))) :: v) 0 []), 0, 0)) rfl ?_
  refine zg_nx (y := (8, [.ref 0, .int x, .int 8], [.ref 0], (zsF 2 ((1, (vp_nar .byte ((x >>> (16 &&& 31)).toInt8.toInt32))) :: (0, (vp_nar .byte ((x >>> (24 &&& 31)).toInt8.toInt32))) :: v) 0 []), 0, 0)) rfl ?_
  refine zg_nx (y := (11, [.ref 0, .int x, .int 8], [.int 2], (zsF 2 ((1, (vp_nar .byte ((x >>> (16 &&& 31)).toInt8.toInt32))) :: (0, (vp_nar .byte ((x >>> (24 &&& 31)).toInt8.toInt32))) :: v) 0 []), 0, 0)) rfl ?_
  refine zg_nx (y := (14, [.ref 0, .int x, .int 8], [.int 8000, .int 2], (zsF 2 ((1, (vp_nar .byte ((x >>> (16 &&& 31)).toInt8.toInt32))) :: (0, (vp_nar .byte ((x >>> (24 &&& 31)).toInt8.toInt32))) :: v) 0 []), 0, 0)) rfl ?_
  refine zg_nx (y := (17, [.ref 0, .int x, .int 8], [], (zsF 2 ((1, (vp_nar .byte ((x >>> (16 &&& 31)).toInt8.toInt32))) :: (0, (vp_nar .byte ((x >>> (24 &&& 31)).toInt8.toInt32))) :: v) 0 []), 0, 0)) rfl ?_
  refine zg_nx (y := (18, [.ref 0, .int x, .int 8], [.ref 0], (zsF 2 ((1, (vp_nar .byte ((x >>> (16 &&& 31)).toInt8.toInt32))) :: (0, (vp_nar .byte ((x >>> (24 &&& 31)).toInt8.toInt32))) :: v) 0 []), 0, 0)) rfl ?_
  refine zg_nx (y := (21, [.ref 0, .int x, .int 8], [.ref 23], (zsF 2 ((1, (vp_nar .byte ((x >>> (16 &&& 31)).toInt8.toInt32))) :: (0, (vp_nar .byte ((x >>> (24 &&& 31)).toInt8.toInt32))) :: v) 0 []), 0, 0)) rfl ?_
  refine zg_nx (y := (22, [.ref 0, .int x, .int 8], [.ref 0, .ref 23], (zsF 2 ((1, (vp_nar .byte ((x >>> (16 &&& 31)).toInt8.toInt32))) :: (0, (vp_nar .byte ((x >>> (24 &&& 31)).toInt8.toInt32))) :: v) 0 []), 0, 0)) rfl ?_
  refine zg_nx (y := (25, [.ref 0, .int x, .int 8], [.int 2, .ref 23], (zsF 2 ((1, (vp_nar .byte ((x >>> (16 &&& 31)).toInt8.toInt32))) :: (0, (vp_nar .byte ((x >>> (24 &&& 31)).toInt8.toInt32))) :: v) 0 []), 0, 0)) rfl ?_
  refine zg_nx (y := (26, [.ref 0, .int x, .int 8], [.int x, .int 2, .ref 23], (zsF 2 ((1, (vp_nar .byte ((x >>> (16 &&& 31)).toInt8.toInt32))) :: (0, (vp_nar .byte ((x >>> (24 &&& 31)).toInt8.toInt32))) :: v) 0 []), 0, 0)) rfl ?_
  refine zg_nx (y := (27, [.ref 0, .int x, .int 8], [.int 8, .int x, .int 2, .ref 23], (zsF 2 ((1, (vp_nar .byte ((x >>> (16 &&& 31)).toInt8.toInt32))) :: (0, (vp_nar .byte ((x >>> (24 &&& 31)).toInt8.toInt32))) :: v) 0 []), 0, 0)) rfl ?_
  refine zg_nx (y := (28, [.ref 0, .int x, .int 8], [.int (x >>> (8 &&& 31)), .int 2, .ref 23], (zsF 2 ((1, (vp_nar .byte ((x >>> (16 &&& 31)).toInt8.toInt32))) :: (0, (vp_nar .byte ((x >>> (24 &&& 31)).toInt8.toInt32))) :: v) 0 []), 0, 0)) rfl ?_
  refine zg_nx (y := (29, [.ref 0, .int x, .int 8], [.int ((x >>> (8 &&& 31)).toInt8.toInt32), .int 2, .ref 23], (zsF 2 ((1, (vp_nar .byte ((x >>> (16 &&& 31)).toInt8.toInt32))) :: (0, (vp_nar .byte ((x >>> (24 &&& 31)).toInt8.toInt32))) :: v) 0 []), 0, 0)) rfl ?_
  refine zg_nx (y := (30, [.ref 0, .int x, .int 8], [], (zsF 2 ((2, (vp_nar .byte ((x >>> (8 &&& 31)).toInt8.toInt32))) :: (1, (vp_nar .byte ((x >>> (16 &&& 31)).toInt8.toInt32))) :: (0, (vp_nar .byte ((x >>> (24 &&& 31)).toInt8.toInt32))) :: v) 0 []), 0, 0)) rfl ?_
  refine zg_nx (y := (31, [.ref 0, .int x, .int 8], [.ref 0], (zsF 2 ((2, (vp_nar .byte ((x >>> (8 &&& 31)).toInt8.toInt32))) :: (1, (vp_nar .byte ((x >>> (16 &&& 31)).toInt8.toInt32))) :: (0, (vp_nar .byte ((x >>> (24 &&& 31)).toInt8.toInt32))) :: v) 0 []), 0, 0)) rfl ?_
  refine zg_nx (y := (32, [.ref 0, .int x, .int 8], [.ref 0, .ref 0], (zsF 2 ((2, (vp_nar .byte ((x >>> (8 &&& 31)).toInt8.toInt32))) :: (1, (vp_nar .byte ((x >>> (16 &&& 31)).toInt8.toInt32))) :: (0, (vp_nar .byte ((x >>> (24 &&& 31)).toInt8.toInt32))) :: v) 0 []), 0, 0)) rfl ?_
  refine zg_nx (y := (35, [.ref 0, .int x, .int 8], [.int 2, .ref 0], (zsF 2 ((2, (vp_nar .byte ((x >>> (8 &&& 31)).toInt8.toInt32))) :: (1, (vp_nar .byte ((x >>> (16 &&& 31)).toInt8.toInt32))) :: (0, (vp_nar .byte ((x >>> (24 &&& 31)).toInt8.toInt32))) :: v) 0 []), 0, 0)) rfl ?_
  refine zg_nx (y := (36, [.ref 0, .int x, .int 8], [.int 1, .int 2, .ref 0], (zsF 2 ((2, (vp_nar .byte ((x >>> (8 &&& 31)).toInt8.toInt32))) :: (1, (vp_nar .byte ((x >>> (16 &&& 31)).toInt8.toInt32))) :: (0, (vp_nar .byte ((x >>> (24 &&& 31)).toInt8.toInt32))) :: v) 0 []), 0, 0)) rfl ?_
  refine zg_nx (y := (37, [.ref 0, .int x, .int 8], [.int 3, .ref 0], (zsF 2 ((2, (vp_nar .byte ((x >>> (8 &&& 31)).toInt8.toInt32))) :: (1, (vp_nar .byte ((x >>> (16 &&& 31)).toInt8.toInt32))) :: (0, (vp_nar .byte ((x >>> (24 &&& 31)).toInt8.toInt32))) :: v) 0 []), 0, 0)) rfl ?_
  refine zg_nx (y := (40, [.ref 0, .int x, .int 8], [], (zsF 3 ((2, (vp_nar .byte ((x >>> (8 &&& 31)).toInt8.toInt32))) :: (1, (vp_nar .byte ((x >>> (16 &&& 31)).toInt8.toInt32))) :: (0, (vp_nar .byte ((x >>> (24 &&& 31)).toInt8.toInt32))) :: v) 0 []), 0, 0)) rfl ?_
  refine zg_nx (y := (43, [.ref 0, .int x, .int 0], [], (zsF 3 ((2, (vp_nar .byte ((x >>> (8 &&& 31)).toInt8.toInt32))) :: (1, (vp_nar .byte ((x >>> (16 &&& 31)).toInt8.toInt32))) :: (0, (vp_nar .byte ((x >>> (24 &&& 31)).toInt8.toInt32))) :: v) 0 []), 0, 0)) rfl ?_
  refine zg_nx (y := (3, [.ref 0, .int x, .int 0], [], (zsF 3 ((2, (vp_nar .byte ((x >>> (8 &&& 31)).toInt8.toInt32))) :: (1, (vp_nar .byte ((x >>> (16 &&& 31)).toInt8.toInt32))) :: (0, (vp_nar .byte ((x >>> (24 &&& 31)).toInt8.toInt32))) :: v) 0 []), 0, 0)) rfl ?_
  refine zg_nx (y := (4, [.ref 0, .int x, .int 0], [.int 0], (zsF 3 ((2, (vp_nar .byte ((x >>> (8 &&& 31)).toInt8.toInt32))) :: (1, (vp_nar .byte ((x >>> (16 &&& 31)).toInt8.toInt32))) :: (0, (vp_nar .byte ((x >>> (24 &&& 31)).toInt8.toInt32))) :: v) 0 []), 0, 0)) rfl ?_
  refine zg_nx (y := (7, [.ref 0, .int x, .int 0], [], (zsF 3 ((2, (vp_nar .byte ((x >>> (8 &&& 31)).toInt8.toInt32))) :: (1, (vp_nar .byte ((x >>> (16 &&& 31)).toInt8.toInt32))) :: (0, (vp_nar .byte ((x >>> (24 &&& 31)).toInt8.toInt32))) :: v) 0 []), 0, 0)) rfl ?_
  refine zg_nx (y := (8, [.ref 0, .int x, .int 0], [.ref 0], (zsF 3 ((2, (vp_nar .byte ((x >>> (8 &&& 31)).toInt8.toInt32))) :: (1, (vp_nar .byte ((x >>> (16 &&& 31)).toInt8.toInt32))) :: (0, (vp_nar .byte ((x >>> (24 &&& 31)).toInt8.toInt32))) :: v) 0 []), 0, 0)) rfl ?_
  refine zg_nx (y := (11, [.ref 0, .int x, .int 0], [.int 3], (zsF 3 ((2, (vp_nar .byte ((x >>> (8 &&& 31)).toInt8.toInt32))) :: (1, (vp_nar .byte ((x >>> (16 &&& 31)).toInt8.toInt32))) :: (0, (vp_nar .byte ((x >>> (24 &&& 31)).toInt8.toInt32))) :: v) 0 []), 0, 0)) rfl ?_
  refine zg_nx (y := (14, [.ref 0, .int x, .int 0], [.int 8000, .int 3], (zsF 3 ((2, (vp_nar .byte ((x >>> (8 &&& 31)).toInt8.toInt32))) :: (1, (vp_nar .byte ((x >>> (16 &&& 31)).toInt8.toInt32))) :: (0, (vp_nar .byte ((x >>> (24 &&& 31)).toInt8.toInt32))) :: v) 0 []), 0, 0)) rfl ?_
  refine zg_nx (y := (17, [.ref 0, .int x, .int 0], [], (zsF 3 ((2, (vp_nar .byte ((x >>> (8 &&& 31)).toInt8.toInt32))) :: (1, (vp_nar .byte ((x >>> (16 &&& 31)).toInt8.toInt32))) :: (0, (vp_nar .byte ((x >>> (24 &&& 31)).toInt8.toInt32))) :: v) 0 []), 0, 0)) rfl ?_
  refine zg_nx (y := (18, [.ref 0, .int x, .int 0], [.ref 0], (zsF 3 ((2, (vp_nar .byte ((x >>> (8 &&& 31)).toInt8.toInt32))) :: (1, (vp_nar .byte ((x >>> (16 &&& 31)).toInt8.toInt32))) :: (0, (vp_nar .byte ((x >>> (24 &&& 31)).toInt8.toInt32))) :: v) 0 []), 0, 0)) rfl ?_
  refine zg_nx (y := (21, [.ref 0, .int x, .int 0], [.ref 23], (zsF 3 ((2, (vp_nar .byte ((x >>> (8 &&& 31)).toInt8.toInt32))) :: (1, (vp_nar .byte ((x >>> (16 &&& 31)).toInt8.toInt32))) :: (0, (vp_nar .byte ((x >>> (24 &&& 31)).toInt8.toInt32))) :: v) 0 []), 0, 0)) rfl ?_
  refine zg_nx (y := (22, [.ref 0, .int x, .int 0], [.ref 0, .ref 23], (zsF 3 ((2, (vp_nar .byte ((x >>> (8 &&& 31)).toInt8.toInt32))) :: (1, (vp_nar .byte ((x >>> (16 &&& 31)).toInt8.toInt32))) :: (0, (vp_nar .byte ((x >>> (24 &&& 31)).toInt8.toInt32))) :: v) 0 []), 0, 0)) rfl ?_
  refine zg_nx (y := (25, [.ref 0, .int x, .int 0], [.int 3, .ref 23], (zsF 3 ((2, (vp_nar .byte ((x >>> (8 &&& 31)).toInt8.toInt32))) :: (1, (vp_nar .byte ((x >>> (16 &&& 31)).toInt8.toInt32))) :: (0, (vp_nar .byte ((x >>> (24 &&& 31)).toInt8.toInt32))) :: v) 0 []), 0, 0)) rfl ?_
  refine zg_nx (y := (26, [.ref 0, .int x, .int 0], [.int x, .int 3, .ref 23], (zsF 3 ((2, (vp_nar .byte ((x >>> (8 &&& 31)).toInt8.toInt32))) :: (1, (vp_nar .byte ((x >>> (16 &&& 31)).toInt8.toInt32))) :: (0, (vp_nar .byte ((x >>> (24 &&& 31)).toInt8.toInt32))) :: v) 0 []), 0, 0)) rfl ?_
  refine zg_nx (y := (27, [.ref 0, .int x, .int 0], [.int 0, .int x, .int 3, .ref 23], (zsF 3 ((2, (vp_nar .byte ((x >>> (8 &&& 31)).toInt8.toInt32))) :: (1, (vp_nar .byte ((x >>> (16 &&& 31)).toInt8.toInt32))) :: (0, (vp_nar .byte ((x >>> (24 &&& 31)).toInt8.toInt32))) :: v) 0 []), 0, 0)) rfl ?_
  refine zg_nx (y := (28, [.ref 0, .int x, .int 0], [.int (x >>> (0 &&& 31)), .int 3, .ref 23], (zsF 3 ((2, (vp_nar .byte ((x >>> (8 &&& 31)).toInt8.toInt32))) :: (1, (vp_nar .byte ((x >>> (16 &&& 31)).toInt8.toInt32))) :: (0, (vp_nar .byte ((x >>> (24 &&& 31)).toInt8.toInt32))) :: v) 0 []), 0, 0)) rfl ?_
  refine zg_nx (y := (29, [.ref 0, .int x, .int 0], [.int ((x >>> (0 &&& 31)).toInt8.toInt32), .int 3, .ref 23], (zsF 3 ((2, (vp_nar .byte ((x >>> (8 &&& 31)).toInt8.toInt32))) :: (1, (vp_nar .byte ((x >>> (16 &&& 31)).toInt8.toInt32))) :: (0, (vp_nar .byte ((x >>> (24 &&& 31)).toInt8.toInt32))) :: v) 0 []), 0, 0)) rfl ?_
  refine zg_nx (y := (30, [.ref 0, .int x, .int 0], [], (zsF 3 ((3, (vp_nar .byte ((x >>> (0 &&& 31)).toInt8.toInt32))) :: (2, (vp_nar .byte ((x >>> (8 &&& 31)).toInt8.toInt32))) :: (1, (vp_nar .byte ((x >>> (16 &&& 31)).toInt8.toInt32))) :: (0, (vp_nar .byte ((x >>> (24 &&& 31)).toInt8.toInt32))) :: v) 0 []), 0, 0)) rfl ?_
  refine zg_nx (y := (31, [.ref 0, .int x, .int 0], [.ref 0], (zsF 3 ((3, (vp_nar .byte ((x >>> (0 &&& 31)).toInt8.toInt32))) :: (2, (vp_nar .byte ((x >>> (8 &&& 31)).toInt8.toInt32))) :: (1, (vp_nar .byte ((x >>> (16 &&& 31)).toInt8.toInt32))) :: (0, (vp_nar .byte ((x >>> (24 &&& 31)).toInt8.toInt32))) :: v) 0 []), 0, 0)) rfl ?_
  refine zg_nx (y := (32, [.ref 0, .int x, .int 0], [.ref 0, .ref 0], (zsF 3 ((3, (vp_nar .byte ((x >>> (0 &&& 31)).toInt8.toInt32))) :: (2, (vp_nar .byte ((x >>> (8 &&& 31)).toInt8.toInt32))) :: (1, (vp_nar .byte ((x >>> (16 &&& 31)).toInt8.toInt32))) :: (0, (vp_nar .byte ((x >>> (24 &&& 31)).toInt8.toInt32))) :: v) 0 []), 0, 0)) rfl ?_
  refine zg_nx (y := (35, [.ref 0, .int x, .int 0], [.int 3, .ref 0], (zsF 3 ((3, (vp_nar .byte ((x >>> (0 &&& 31)).toInt8.toInt32))) :: (2, (vp_nar .byte ((x >>> (8 &&& 31)).toInt8.toInt32))) :: (1, (vp_nar .byte ((x >>> (16 &&& 31)).toInt8.toInt32))) :: (0, (vp_nar .byte ((x >>> (24 &&& 31)).toInt8.toInt32))) :: v) 0 []), 0, 0)) rfl ?_
  refine zg_nx (y := (36, [.ref 0, .int x, .int 0], [.int 1, .int 3, .ref 0], (zsF 3 ((3, (vp_nar .byte ((x >>> (0 &&& 31)).toInt8.toInt32))) :: (2, (vp_nar .byte ((x >>> (8 &&& 31)).toInt8.toInt32))) :: (1, (vp_nar .byte ((x >>> (16 &&& 31)).toInt8.toInt32))) :: (0, (vp_nar .byte ((x >>> (24 &&& 31)).toInt8.toInt32))) :: v) 0 []), 0, 0)) rfl ?_
  refine zg_nx (y := (37, [.ref 0, .int x, .int 0], [.int 4, .ref 0], (zsF 3 ((3, (vp_nar .byte ((x >>> (0 &&& 31)).toInt8.toInt32))) :: (2, (vp_nar .byte ((x >>> (8 &&& 31)).toInt8.toInt32))) :: (1, (vp_nar .byte ((x >>> (16 &&& 31)).toInt8.toInt32))) :: (0, (vp_nar .byte ((x >>> (24 &&& 31)).toInt8.toInt32))) :: v) 0 []), 0, 0)) rfl ?_
  refine zg_nx (y := (40, [.ref 0, .int x, .int 0], [], (zsF 4 ((3, (vp_nar .byte ((x >>> (0 &&& 31)).toInt8.toInt32))) :: (2, (vp_nar .byte ((x >>> (8 &&& 31)).toInt8.toInt32))) :: (1, (vp_nar .byte ((x >>> (16 &&& 31)).toInt8.toInt32))) :: (0, (vp_nar .byte ((x >>> (24 &&& 31)).toInt8.toInt32))) :: v) 0 []), 0, 0)) rfl ?_
  refine zg_nx (y := (43, [.ref 0, .int x, .int (-8)], [], (zsF 4 ((3, (vp_nar .byte ((x >>> (0 &&& 31)).toInt8.toInt32))) :: (2, (vp_nar .byte ((x >>> (8 &&& 31)).toInt8.toInt32))) :: (1, (vp_nar .byte ((x >>> (16 &&& 31)).toInt8.toInt32))) :: (0, (vp_nar .byte ((x >>> (24 &&& 31)).toInt8.toInt32))) :: v) 0 []), 0, 0)) rfl ?_
  refine zg_nx (y := (3, [.ref 0, .int x, .int (-8)], [], (zsF 4 ((3, (vp_nar .byte ((x >>> (0 &&& 31)).toInt8.toInt32))) :: (2, (vp_nar .byte ((x >>> (8 &&& 31)).toInt8.toInt32))) :: (1, (vp_nar .byte ((x >>> (16 &&& 31)).toInt8.toInt32))) :: (0, (vp_nar .byte ((x >>> (24 &&& 31)).toInt8.toInt32))) :: v) 0 []), 0, 0)) rfl ?_
  refine zg_nx (y := (4, [.ref 0, .int x, .int (-8)], [.int (-8)], (zsF 4 ((3, (vp_nar .byte ((x >>> (0 &&& 31)).toInt8.toInt32))) :: (2, (vp_nar .byte ((x >>> (8 &&& 31)).toInt8.toInt32))) :: (1, (vp_nar .byte ((x >>> (16 &&& 31)).toInt8.toInt32))) :: (0, (vp_nar .byte ((x >>> (24 &&& 31)).toInt8.toInt32))) :: v) 0 []), 0, 0)) rfl ?_
  refine zg_nx (y := (46, [.ref 0, .int x, .int (-8)], [], (zsF 4 ((3, (vp_nar .byte ((x >>> (0 &&& 31)).toInt8.toInt32))) :: (2, (vp_nar .byte ((x >>> (8 &&& 31)).toInt8.toInt32))) :: (1, (vp_nar .byte ((x >>> (16 &&& 31)).toInt8.toInt32))) :: (0, (vp_nar .byte ((x >>> (24 &&& 31)).toInt8.toInt32))) :: v) 0 []), 0, 0)) rfl ?_
  exact zg_ret rfl

/-- DesignReader.appendFour -/
theorem za_4 {x : Int32} {v : List (Nat × Int32)} : zrun 20000 7 15 [.ref 0, .int x] (zsF 4 v 0 []) = some (none, (zsF 8 ((7, (vp_nar .byte ((x >>> (0 &&& 31)).toInt8.toInt32))) :: (6, (vp_nar .byte ((x >>> (8 &&& 31)).toInt8.toInt32))) :: (5, (vp_nar .byte ((x >>> (16 &&& 31)).toInt8.toInt32))) :: (4, (vp_nar .byte ((x >>> (24 &&& 31)).toInt8.toInt32))) :: v) 0 [])) := by
  refine zr_of (m := zm_D_appendFour) rfl (Nat.le_of_ble_eq_true rfl) ?_
  show zgo _ _ _ (0, [.ref 0, .int x, zu], [], (zsF 4 v 0 []), 0, 0) = _
  refine zg_nx (y := (2, [.ref 0, .int x, zu], [.int 24], (zsF 4 v 0 []), 0, 0)) rfl ?_
  refine zg_nx (y := (3, [.ref 0, .int x, .int 24], [], (zsF 4 v 0 []), 0, 0)) rfl ?_
  refine zg_nx (y := (4, [.ref 0, .int x, .int 24], [.int 24], (zsF 4 v 0 []), 0, 0)) rfl ?_
  refine zg_nx (y := (7, [.ref 0, .int x, .int 24], [], (zsF 4 v 0 []), 0, 0)) rfl ?_
  refine zg_nx (y := (8, [.ref 0, .int x, .int 24], [.ref 0], (zsF 4 v 0 []), 0, 0)) rfl ?_
  refine zg_nx (y := (11, [.ref 0, .int x, .int 24], [.int 4], (zsF 4 v 0 []), 0, 0)) rfl ?_
  refine zg_nx (y := (14, [.ref 0, .int x, .int 24], [.int 8000, .int 4], (zsF 4 v 0 []), 0, 0)) rfl ?_
  refine zg_nx (y := (17, [.ref 0, .int x, .int 24], [], (zsF 4 v 0 []), 0, 0)) rfl ?_
  refine zg_nx (y := (18, [.ref 0, .int x, .int 24], [.ref 0], (zsF 4 v 0 []), 0, 0)) rfl ?_
  refine zg_nx (y := (21, [.ref 0, .int x, .int 24], [.ref 23], (zsF 4 v 0 []), 0, 0)) rfl ?_
  refine zg_nx (y := (22, [.ref 0, .int x, .int 24], [.ref 0, .ref 23], (zsF 4 v 0 []), 0, 0)) rfl ?_
  refine zg_nx (y := (25, [.ref 0, .int x, .int 24], [.int 4, .ref 23], (zsF 4 v 0 []), 0, 0)) rfl ?_
  refine zg_nx (y := (26, [.ref 0, .int x, .int 24], [.int x, .int 4, .ref 23], (zsF 4 v 0 []), 0, 0)) rfl ?_
  refine zg_nx (y := (27, [.ref 0, .int x, .int 24], [.int 24, .int x, .int 4, .ref 23], (zsF 4 v 0 []), 0, 0)) rfl ?_
  refine zg_nx (y := (28, [.ref 0, .int x, .int 24], [.int (x >>> (24 &&& 31)), .int 4, .ref 23], (zsF 4 v 0 []), 0, 0)) rfl ?_
  refine zg_nx (y := (29, [.ref 0, .int x, .int 24], [.int ((x >>> (24 &&& 31)).toInt8.toInt32), .int 4, .ref 23], (zsF 4 v 0 []), 0, 0)) rfl ?_
  refine zg_nx (y := (30, [.ref 0, .int x, .int 24], [], (zsF 4 ((4, (vp_nar .byte ((x >>> (24 &&& 31)).toInt8.toInt32))) :: v) 0 []), 0, 0)) rfl ?_
  refine zg_nx (y := (31, [.ref 0, .int x, .int 24], [.ref 0], (zsF 4 ((4, (vp_nar .byte ((x >>> (24 &&& 31)).toInt8.toInt32))) :: v) 0 []), 0, 0)) rfl ?_
  refine zg_nx (y := (32, [.ref 0, .int x, .int 24], [.ref 0, .ref 0], (zsF 4 ((4, (vp_nar .byte ((x >>> (24 &&& 31)).toInt8.toInt32))) :: v) 0 []), 0, 0)) rfl ?_
  refine zg_nx (y := (35, [.ref 0, .int x, .int 24], [.int 4, .ref 0], (zsF 4 ((4, (vp_nar .byte ((x >>> (24 &&& 31)).toInt8.toInt32))) :: v) 0 []), 0, 0)) rfl ?_
  refine zg_nx (y := (36, [.ref 0, .int x, .int 24], [.int 1, .int 4, .ref 0], (zsF 4 ((4, (vp_nar .byte ((x >>> (24 &&& 31)).toInt8.toInt32))) :: v) 0 []), 0, 0)) rfl ?_
  refine zg_nx (y := (37, [.ref 0, .int x, .int 24], [.int 5, .ref 0], (zsF 4 ((4, (vp_nar .byte ((x >>> (24 &&& 31)).toInt8.toInt32))) :: v) 0 []), 0, 0)) rfl ?_
  refine zg_nx (y := (40, [.ref 0, .int x, .int 24], [], (zsF 5 ((4, (vp_nar .byte ((x >>> (24 &&& 31)).toInt8.toInt32))) :: v) 0 []), 0, 0)) rfl ?_
  refine zg_nx (y := (43, [.ref 0, .int x, .int 16], [], (zsF 5 ((4, (vp_nar .byte ((x >>> (24 &&& 31)).toInt8.toInt32))) :: v) 0 []), 0, 0)) rfl ?_
  refine zg_nx (y := (3, [.ref 0, .int x, .int 16], [], (zsF 5 ((4, (vp_nar .byte ((x >>> (24 &&& 31)).toInt8.toInt32))) :: v) 0 []), 0, 0)) rfl ?_
  refine zg_nx (y := (4, [.ref 0, .int x, .int 16], [.int 16], (zsF 5 ((4, (vp_nar .byte ((x >>> (24 &&& 31)).toInt8.toInt32))) :: v) 0 []), 0, 0)) rfl ?_
  refine zg_nx (y := (7, [.ref 0, .int x, .int 16], [], (zsF 5 ((4, (vp_nar .byte ((x >>> (24 &&& 31)).toInt8.toInt32))) :: v) 0 []), 0, 0)) rfl ?_
  refine zg_nx (y := (8, [.ref 0, .int x, .int 16], [.ref 0], (zsF 5 ((4, (vp_nar .byte ((x >>> (24 &&& 31)).toInt8.toInt32))) :: v) 0 []), 0, 0)) rfl ?_
  refine zg_nx (y := (11, [.ref 0, .int x, .int 16], [.int 5], (zsF 5 ((4, (vp_nar .byte ((x >>> (24 &&& 31)).toInt8.toInt32))) :: v) 0 []), 0, 0)) rfl ?_
  refine zg_nx (y := (14, [.ref 0, .int x, .int 16], [.int 8000, .int 5], (zsF 5 ((4, (vp_nar .byte ((x >>> (24 &&& 31)).toInt8.toInt32))) :: v) 0 []), 0, 0)) rfl ?_
  refine zg_nx (y := (17, [.ref 0, .int x, .int 16], [], (zsF 5 ((4, (vp_nar .byte ((x >>> (24 &&& 31)).toInt8.toInt32))) :: v) 0 []), 0, 0)) rfl ?_
  refine zg_nx (y := (18, [.ref 0, .int x, .int 16], [.ref 0], (zsF 5 ((4, (vp_nar .byte ((x >>> (24 &&& 31)).toInt8.toInt32))) :: v) 0 []), 0, 0)) rfl ?_
  refine zg_nx (y := (21, [.ref 0, .int x, .int 16], [.ref 23], (zsF 5 ((4, (vp_nar .byte ((x >>> (24 &&& 31)).toInt8.toInt32))) :: v) 0 []), 0, 0)) rfl ?_
  refine zg_nx (y := (22, [.ref 0, .int x, .int 16], [.ref 0, .ref 23], (zsF 5 ((4, (vp_nar .byte ((x >>> (24 &&& 31)).toInt8.toInt32))) :: v) 0 []), 0, 0)) rfl ?_
  refine zg_nx (y := (25, [.ref 0, .int x, .int 16], [.int 5, .ref 23], (zsF 5 ((4, (vp_nar .byte ((x >>> (24 &&& 31)).toInt8.toInt32))) :: v) 0 []), 0, 0)) rfl ?_
  refine zg_nx (y := (26, [.ref 0, .int x, .int 16], [.int x, .int 5, .ref 23], (zsF 5 ((4, (vp_nar .byte ((x >>> (24 &&& 31)).toInt8.toInt32))) :: v) 0 []), 0, 0)) rfl ?_
  refine zg_nx (y := (27, [.ref 0, .int x, .int 16], [.int 16, .int x, .int 5, .ref 23], (zsF 5 ((4, (vp_nar .byte ((x >>> (24 &&& 31)).toInt8.toInt32))) :: v) 0 []), 0, 0)) rfl ?_
  refine zg_nx (y := (28, [.ref 0, .int x, .int 16], [.int (x >>> (16 &&& 31)), .int 5, .ref 23], (zsF 5 ((4, (vp_nar .byte ((x >>> (24 &&& 31)).toInt8.toInt32))) :: v) 0 []), 0, 0)) rfl ?_
  refine zg_nx (y := (29, [.ref 0, .int x, .int 16], [.int ((x >>> (16 &&& 31)).toInt8.toInt32), .int 5, .ref 23], (zsF 5 ((4, (vp_nar .byte ((x >>> (24 &&& 31)).toInt8.toInt32))) :: v) 0 []), 0, 0)) rfl ?_
  refine zg_nx (y := (30, [.ref 0, .int x, .int 16], [], (zsF 5 ((5, (vp_nar .byte ((x >>> (16 &&& 31)).toInt8.toInt32))) :: (4, (vp_nar .byte ((x >>> (24 &&& 31)).toInt8.toInt32))) :: v) 0 []), 0, 0)) rfl ?_
  refine zg_nx (y := (31, [.ref 0, .int x, .int 16], [.ref 0], (zsF 5 ((5, (vp_nar .byte ((x >>> (16 &&& 31)).toInt8.toInt32))) :: (4, (vp_nar .byte ((x >>> (24 &&& 31)).toInt8.toInt32))) :: v) 0 []), 0, 0)) rfl ?_
  refine zg_nx (y := (32, [.ref 0, .int x, .int 16], [.ref 0, .ref 0], (zsF 5 ((5, (vp_nar .byte ((x >>> (16 &&& 31)).toInt8.toInt32))) :: (4, (vp_nar .byte ((x >>> (24 &&& 31)).toInt8.toInt32))) :: v) 0 []), 0, 0)) rfl ?_
  refine zg_nx (y := (35, [.ref 0, .int x, .int 16], [.int 5, .ref 0], (zsF 5 ((5, (vp_nar .byte ((x >>> (16 &&& 31)).toInt8.toInt32))) :: (4, (vp_nar .byte ((x >>> (24 &&& 31)).toInt8.toInt32))) :: v) 0 []), 0, 0)) rfl ?_
  refine zg_nx (y := (36, [.ref 0, .int x, .int 16], [.int 1, .int 5, .ref 0], (zsF 5 ((5, (vp_nar .byte ((x >>> (16 &&& 31)).toInt8.toInt32))) :: (4, (vp_nar .byte ((x >>> (24 &&& 31)).toInt8.toInt32))) :: v) 0 []), 0, 0)) rfl ?_
  refine zg_nx (y := (37, [.ref 0, .int x, .int 16], [.int 6, .ref 0], (zsF 5 ((5, (vp_nar .byte ((x >>> (16 &&& 31)).toInt8.toInt32))) :: (4, (vp_nar .byte ((x >>> (24 &&& 31)).toInt8.toInt32))) :: v) 0 []), 0, 0)) rfl ?_
  refine zg_nx (y := (40, [.ref 0, .int x, .int 16], [], (zsF 6 ((5, (vp_nar .byte ((x >>> (16 &&& 31)).toInt8.toInt32))) :: (4, (vp_nar .byte ((x >>> (24 &&& 31)).toInt8.toInt32))) :: v) 0 []), 0, 0)) rfl ?_
  refine zg_nx (y := (43, [.ref 0, .int x, .int 8], [], (zsF 6 ((5, (vp_nar .byte ((x >>> (16 &&& 31)).toInt8.toInt32))) :: (4, (vp_nar .byte ((x >>> (24 &&& 31)).toInt8.toInt32))) :: v) 0 []), 0, 0)) rfl ?_
  refine zg_nx (y := (3, [.ref 0, .int x, .int 8], [], (zsF 6 ((5, (vp_nar .byte ((x >>> (16 &&& 31)).toInt8.toInt32))) :: (4, (vp_nar .byte ((x >>> (24 &&& 31)).toInt8.toInt32))) :: v) 0 []), 0, 0)) rfl ?_
  refine zg_nx (y := (4, [.ref 0, .int x, .int 8], [.int 8], (zsF 6 ((5, (vp_nar .byte ((x >>> (16 &&& 31)).toInt8.toInt32))) :: (4, (vp_nar .byte ((x >>> (24 &&& 31)).toInt8.toInt32))) :: v) 0 []), 0, 0)) rfl ?_
  refine zg_nx (y := (7, [.ref 0, .int x, .int 8], [], (zsF 6 ((5, (vp_nar .byte ((x >>> (16 &&& 31)).toInt8.toInt32))) :: (4, (vp_nar .byte ((x >>> (24 &&& 31)).toInt8.toInt32))) :: v) 0 []), 0, 0)) rfl ?_
  refine zg_nx (y := (8, [.ref 0, .int x, .int 8], [.ref 0], (zsF 6 ((5, (vp_nar .byte ((x >>> (16 &&& 31)).toInt8.toInt32))) :: (4, (vp_nar .byte ((x >>> (24 &&& 31)).toInt8.toInt32))) :: v) 0 []), 0, 0)) rfl ?_
  refine zg_nx (y := (11, [.ref 0, .int x, .int 8], [.int 6], (zsF 6 ((5, (vp_nar .byte ((x >>> (16 &&& 31)).toInt8.toInt32))) :: (4, (vp_nar .byte ((x >>> (24 &&& 31)).toInt8.toInt32))) :: v) 0 []), 0, 0)) rfl ?_
  refine zg_nx (y := (14, [.ref 0, .int x, .int 8], [.int 8000, .int 6], (zsF 6 ((5, (vp_nar .byte ((x >>> (16 &&& 31)).toInt8.toInt32))) :: (4, (vp_nar .byte ((x >>> (24 &&& 31)).toInt8.toInt32))) :: v) 0 []), 0, 0)) rfl ?_
  refine zg_nx (y := (17, [.ref 0, .int x, .int 8], [], (zsF 6 ((5, (vp_nar .byte ((x >>> (16 &&& 31)).toInt8.toInt32))) :: (4, (vp_nar .byte ((x >>> (24 &&& 31)).toInt8.toInt32))) :: v) 0 []), 0, 0)) rfl ?_
  refine zg_nx (y := (18, [.ref 0, .int x, .int 8], [.ref 0], (zsF 6 ((5, (vp_nar .byte ((x >>> (16 &&& 31)).toInt8.toInt32))) :: (4, (vp_nar .byte ((x >>> (24 &&& 31)).toInt8.toInt32))) :: v) 0 []), 0, 0)) rfl ?_
  refine zg_nx (y := (21, [.ref 0, .int x, .int 8], [.ref 23], (zsF 6 ((5, (vp_nar .byte ((x >>> (16 &&& 31)).toInt8.toInt32))) :: (4, (vp_nar .byte ((x >>> (24 &&& 31)).toInt8.toInt32))) :: v) 0 []), 0, 0)) rfl ?_
  refine zg_nx (y := (22, [.ref 0, .int x, .int 8], [.ref 0, .ref 23], (zsF 6 ((5, (vp_nar .byte ((x >>> (16 &&& 31)).toInt8.toInt32))) :: (4, (vp_nar .byte ((x >>> (24 &&& 31)).toInt8.toInt32))) :: v) 0 []), 0, 0)) rfl ?_
  refine zg_nx (y := (25, [.ref 0, .int x, .int 8], [.int 6, .ref 23], (zsF 6 ((5, (vp_nar .byte ((x >>> (16 &&& 31)).toInt8.toInt32))) :: (4, (vp_nar .byte ((x >>> (24 &&& 31)).toInt8.toInt32))) :: v) 0 []), 0, 0)) rfl ?_
  refine zg_nx (y := (26, [.ref 0, .int x, .int 8], [.int x, .int 6, .ref 23], (zsF 6 ((5, (vp_nar .byte ((x >>> (16 &&& 31)).toInt8.toInt32))) :: (4, (vp_nar .byte ((x >>> (24 &&& 31)).toInt8.toInt32))) :: v) 0 []), 0, 0)) rfl ?_
  refine zg_nx (y := (27, [.ref 0, .int x, .int 8], [.int 8, .int x, .int 6, .ref 23], (zsF 6 ((5, (vp_nar .byte ((x >>> (16 &&& 31)).toInt8.toInt32))) :: (4, (vp_nar .byte ((x >>> (24 &&& 31)).toInt8.toInt32))) :: v) 0 []), 0, 0)) rfl ?_
  refine zg_nx (y := (28, [.ref 0, .int x, .int 8], [.int (x >>> (8 &&& 31)), .int 6, .ref 23], (zsF 6 ((5, (vp_nar .byte ((x >>> (16 &&& 31)).toInt8.toInt32))) :: (4, (vp_nar .byte ((x >>> (24 &&& 31)).toInt8.toInt32))) :: v) 0 []), 0, 0)) rfl ?_
  refine zg_nx (y := (29, [.ref 0, .int x, .int 8], [.int ((x >>> (8 &&& 31)).toInt8.toInt32), .int 6, .ref 23], (zsF 6 ((5, (vp_nar .byte ((x >>> (16 &&& 31)).toInt8.toInt32))) :: (4, (vp_nar .byte ((x >>> (24 &&& 31)).toInt8.toInt32))) :: v) 0 []), 0, 0)) rfl ?_
  refine zg_nx (y := (30, [.ref 0, .int x, .int 8], [], (zsF 6 ((6, (vp_nar .byte ((x >>> (8 &&& 31)).toInt8.toInt32))) :: (5, (vp_nar .byte ((x >>> (16 &&& 31)).toInt8.toInt32))) :: (4, (vp_nar .byte ((x >>> (24 &&& 31)).toInt8.toInt32))) :: v) 0 []), 0, 0)) rfl ?_
  refine zg_nx (y := (31, [.ref 0, .int x, .int 8], [.ref 0], (zsF 6 ((6, (vp_nar .byte ((x >>> (8 &&& 31)).toInt8.toInt32))) :: (5, (vp_nar .byte ((x >>> (16 &&& 31)).toInt8.toInt32))) :: (4, (vp_nar .byte ((x >>> (24 &&& 31)).toInt8.toInt32))) :: v) 0 []), 0, 0)) rfl ?_
  refine zg_nx (y := (32, [.ref 0, .int x, .int 8], [.ref 0, .ref 0], (zsF 6 ((6, (vp_nar .byte ((x >>> (8 &&& 31)).toInt8.toInt32))) :: (5, (vp_nar .byte ((x >>> (16 &&& 31)).toInt8.toInt32))) :: (4, (vp_nar .byte ((x >>> (24 &&& 31)).toInt8.toInt32))) :: v) 0 []), 0, 0)) rfl ?_
  refine zg_nx (y := (35, [.ref 0, .int x, .int 8], [.int 6, .ref 0], (zsF 6 ((6, (vp_nar .byte ((x >>> (8 &&& 31)).toInt8.toInt32))) :: (5, (vp_nar .byte ((x >>> (16 &&& 31)).toInt8.toInt32))) :: (4, (vp_nar .byte ((x >>> (24 &&& 31)).toInt8.toInt32))) :: v) 0 []), 0, 0)) rfl ?_
  refine zg_nx (y := (36, [.ref 0, .int x, .int 8], [.int 1, .int 6, .ref 0], (zsF 6 ((6, (vp_nar .byte ((x >>> (8 &&& 31)).toInt8.toInt32))) :: (5, (vp_nar .byte ((x >>> (16 &&& 31)).toInt8.toInt32))) :: (4, (vp_nar .byte ((x >>> (24 &&& 31)).toInt8.toInt32))) :: v) 0 []), 0, 0)) rfl ?_
  refine zg_nx (y := (37, [.ref 0, .int x, .int 8], [.int 7, .ref 0], (zsF 6 ((6, (vp_nar .byte ((x >>> (8 &&& 31)).toInt8.toInt32))) :: (5, (vp_nar .byte ((x >>> (16 &&& 31)).toInt8.toInt32))) :: (4, (vp_nar .byte ((x >>> (24 &&& 31)).toInt8.toInt32))) :: v) 0 []), 0, 0)) rfl ?_
  refine zg_nx (y := (40, [.ref 0, .int x, .int 8], [], (zsF 7 ((6, (vp_nar .byte ((x >>> (8 &&& 31)).toInt8.toInt32))) :: (5, (vp_nar .byte ((x >>> (16 &&& 31)).toInt8.toInt32))) :: (4, (vp_nar .byte ((x >>> (24 &&& 31)).toInt8.toInt32))) :: v) 0 []), 0, 0)) rfl ?_
  refine zg_nx (y := (43, [.ref 0, .int x, .int 0], [], (zsF 7 ((6, (vp_nar .byte ((x >>> (8 &&& 31)).toInt8.toInt32))) :: (5, (vp_nar .byte ((x >>> (16 &&& 31)).toInt8.toInt32))) :: (4, (vp_nar .byte ((x >>> (24 &&& 31)).toInt8.toInt32))) :: v) 0 []), 0, 0)) rfl ?_
  refine zg_nx (y := (3, [.ref 0, .int x, .int 0], [], (zsF 7 ((6, (vp_nar .byte ((x >>> (8 &&& 31)).toInt8.toInt32))) :: (5, (vp_nar .byte ((x >>> (16 &&& 31)).toInt8.toInt32))) :: (4, (vp_nar .byte ((x >>> (24 &&& 31)).toInt8.toInt32))) :: v) 0 []), 0, 0)) rfl ?_
  refine zg_nx (y := (4, [.ref 0, .int x, .int 0], [.int 0], (zsF 7 ((6, (vp_nar .byte ((x >>> (8 &&& 31)).toInt8.toInt32))) :: (5, (vp_nar .byte ((x >>> (16 &&& 31)).toInt8.toInt32))) :: (4, (vp_nar .byte ((x >>> (24 &&& 31)).toInt8.toInt32))) :: v) 0 []), 0, 0)) rfl ?_
  refine zg_nx (y := (7, [.ref 0, .int x, .int 0], [], (zsF 7 ((6, (vp_nar .byte ((x >>> (8 &&& 31)).toInt8.toInt32))) :: (5, (vp_nar .byte ((x >>> (16 &&& 31)).toInt8.toInt32))) :: (4, (vp_nar .byte ((x >>> (24 &&& 31)).toInt8.toInt32))) :: v) 0 []), 0, 0)) rfl ?_
  refine zg_nx (y := (8, [.ref 0, .int x, .int 0], [.ref 0], (zsF 7 ((6, (vp_nar .byte ((x >>> (8 &&& 31)).toInt8.toInt32))) :: (5, (vp_nar .byte ((x >>> (16 &&& 31)).toInt8.toInt32))) :: (4, (vp_nar .byte ((x >>> (24 &&& 31)).toInt8.toInt32))) :: v) 0 []), 0, 0)) rfl ?_
  refine zg_nx (y := (11, [.ref 0, .int x, .int 0], [.int 7], (zsF 7 ((6, (vp_nar .byte ((x >>> (8 &&& 31)).toInt8.toInt32))) :: (5, (vp_nar .byte ((x >>> (16 &&& 31)).toInt8.toInt32))) :: (4, (vp_nar .byte ((x >>> (24 &&& 31)).toInt8.toInt32))) :: v) 0 []), 0, 0)) rfl ?_
  refine zg_nx (y := (14, [.ref 0, .int x, .int 0], [.int 8000, .int 7], (zsF 7 ((6, (vp_nar .byte ((x >>> (8 &&& 31)).toInt8.toInt32))) :: (5, (vp_nar .byte ((x >>> (16 &&& 31)).toInt8.toInt32))) :: (4, (vp_nar .byte ((x >>> (24 &&& 31)).toInt8.toInt32))) :: v) 0 []), 0, 0)) rfl ?_
  refine zg_nx (y := (17, [.ref 0, .int x, .int 0], [], (zsF 7 ((6, (vp_nar .byte ((x >>> (8 &&& 31)).toInt8.toInt32))) :: (5, (vp_nar .byte ((x >>> (16 &&& 31)).toInt8.toInt32))) :: (4, (vp_nar .byte ((x >>> (24 &&& 31)).toInt8.toInt32))) :: v) 0 []), 0, 0)) rfl ?_
  refine zg_nx (y := (18, [.ref 0, .int x, .int 0], [.ref 0], (zsF 7 ((6, (vp_nar .byte ((x >>> (8 &&& 31)).toInt8.toInt32))) :: (5, (vp_nar .byte ((x >>> (16 &&& 31)).toInt8.toInt32))) :: (4, (vp_nar .byte ((x >>> (24 &&& 31)).toInt8.toInt32))) :: v) 0 []), 0, 0)) rfl ?_
  refine zg_nx (y := (21, [.ref 0, .int x, .int 0], [.ref 23], (zsF 7 ((6, (vp_nar .byte ((x >>> (8 &&& 31)).toInt8.toInt32))) :: (5, (vp_nar .byte ((x >>> (16 &&& 31)).toInt8.toInt32))) :: (4, (vp_nar .byte ((x >>> (24 &&& 31)).toInt8.toInt32))) :: v) 0 []), 0, 0)) rfl ?_
  refine zg_nx (y := (22, [.ref 0, .int x, .int 0], [.ref 0, .ref 23], (zsF 7 ((6, (vp_nar .byte ((x >>> (8 &&& 31)).toInt8.toInt32))) :: (5, (vp_nar .byte ((x >>> (16 &&& 31)).toInt8.toInt32))) :: (4, (vp_nar .byte ((x >>> (24 &&& 31)).toInt8.toInt32))) :: v) 0 []), 0, 0)) rfl ?_
  refine zg_nx (y := (25, [.ref 0, .int x, .int 0], [.int 7, .ref 23], (zsF 7 ((6, (vp_nar .byte ((x >>> (8 &&& 31)).toInt8.toInt32))) :: (5, (vp_nar .byte ((x >>> (16 &&& 31)).toInt8.toInt32))) :: (4, (vp_nar .byte ((x >>> (24 &&& 31)).toInt8.toInt32))) :: v) 0 []), 0, 0)) rfl ?_
  refine zg_nx (y := (26, [.ref 0, .int x, .int 0], [.int x, .int 7, .ref 23], (zsF 7 ((6, (vp_nar .byte ((x >>> (8 &&& 31)).toInt8.toInt32))) :: (5, (vp_nar .byte ((x >>> (16 &&& 31)).toInt8.toInt32))) :: (4, (vp_nar .byte ((x >>> (24 &&& 31)).toInt8.toInt32))) :: v) 0 []), 0, 0)) rfl ?_
  refine zg_nx (y := (27, [.ref 0, .int x, .int 0], [.int 0, .int x, .int 7, .ref 23], (zsF 7 ((6, (vp_nar .byte ((x >>> (8 &&& 31)).toInt8.toInt32))) :: (5, (vp_nar .byte ((x >>> (16 &&& 31)).toInt8.toInt32))) :: (4, (vp_nar .byte ((x >>> (24 &&& 31)).toInt8.toInt32))) :: v) 0 []), 0, 0)) rfl ?_
  refine zg_nx (y := (28, [.ref 0, .int x, .int 0], [.int (x >>> (0 &&& 31)), .int 7, .ref 23], (zsF 7 ((6, (vp_nar .byte ((x >>> (8 &&& 31)).toInt8.toInt32))) :: (5, (vp_nar .byte ((x >>> (16 &&& 31)).toInt8.toInt32))) :: (4, (vp_nar .byte ((x >>> (24 &&& 31)).toInt8.toInt32))) :: v) 0 []), 0, 0)) rfl ?_
  refine zg_nx (y := (29, [.ref 0, .int x, .int 0], [.int ((x >>> (0 &&& 31)).toInt8.toInt32), .int 7, .ref 23], (zsF 7 ((6, (vp_nar .byte ((x >>> (8 &&& 31)).toInt8.toInt32))) :: (5, (vp_nar .byte ((x >>> (16 &&& 31)).toInt8.toInt32))) :: (4, (vp_nar .byte ((x >>> (24 &&& 31)).toInt8.toInt32))) :: v) 0 []), 0, 0)) rfl ?_
  refine zg_nx (y := (30, [.ref 0, .int x, .int 0], [], (zsF 7 ((7, (vp_nar .byte ((x >>> (0 &&& 31)).toInt8.toInt32))) :: (6, (vp_nar .byte ((x >>> (8 &&& 31)).toInt8.toInt32))) :: (5, (vp_nar .byte ((x >>> (16 &&& 31)).toInt8.toInt32))) :: (4, (vp_nar .byte ((x >>> (24 &&& 31)).toInt8.toInt32))) :: v) 0 []), 0, 0)) rfl ?_
  refine zg_nx (y := (31, [.ref 0, .int x, .int 0], [.ref 0], (zsF 7 ((7, (vp_nar .byte ((x >>> (0 &&& 31)).toInt8.toInt32))) :: (6, (vp_nar .byte ((x >>> (8 &&& 31)).toInt8.toInt32))) :: (5, (vp_nar .byte ((x >>> (16 &&& 31)).toInt8.toInt32))) :: (4, (vp_nar .byte ((x >>> (24 &&& 31)).toInt8.toInt32))) :: v) 0 []), 0, 0)) rfl ?_
  refine zg_nx (y := (32, [.ref 0, .int x, .int 0], [.ref 0, .ref 0], (zsF 7 ((7, (vp_nar .byte ((x >>> (0 &&& 31)).toInt8.toInt32))) :: (6, (vp_nar .byte ((x >>> (8 &&& 31)).toInt8.toInt32))) :: (5, (vp_nar .byte ((x >>> (16 &&& 31)).toInt8.toInt32))) :: (4, (vp_nar .byte ((x >>> (24 &&& 31)).toInt8.toInt32))) :: v) 0 []), 0, 0)) rfl ?_
  refine zg_nx (y := (35, [.ref 0, .int x, .int 0], [.int 7, .ref 0], (zsF 7 ((7, (vp_nar .byte ((x >>> (0 &&& 31)).toInt8.toInt32))) :: (6, (vp_nar .byte ((x >>> (8 &&& 31)).toInt8.toInt32))) :: (5, (vp_nar .byte ((x >>> (16 &&& 31)).toInt8.toInt32))) :: (4, (vp_nar .byte ((x >>> (24 &&& 31)).toInt8.toInt32))) :: v) 0 []), 0, 0)) rfl ?_
  refine zg_nx (y := (36, [.ref 0, .int x, .int 0], [.int 1, .int 7, .ref 0], (zsF 7 ((7, (vp_nar .byte ((x >>> (0 &&& 31)).toInt8.toInt32))) :: (6, (vp_nar .byte ((x >>> (8 &&& 31)).toInt8.toInt32))) :: (5, (vp_nar .byte ((x >>> (16 &&& 31)).toInt8.toInt32))) :: (4, (vp_nar .byte ((x >>> (24 &&& 31)).toInt8.toInt32))) :: v) 0 []), 0, 0)) rfl ?_
  refine zg_nx (y := (37, [.ref 0, .int x, .int 0], [.int 8, .ref 0], (zsF 7 ((7, (vp_nar .byte ((x >>> (0 &&& 31)).toInt8.toInt32))) :: (6, (vp_nar .byte ((x >>> (8 &&& 31)).toInt8.toInt32))) :: (5, (vp_nar .byte ((x >>> (16 &&& 31)).toInt8.toInt32))) :: (4, (vp_nar .byte ((x >>> (24 &&& 31)).toInt8.toInt32))) :: v) 0 []), 0, 0)) rfl ?_
  refine zg_nx (y := (40, [.ref 0, .int x, .int 0], [], (zsF 8 ((7, (vp_nar .byte ((x >>> (0 &&& 31)).toInt8.toInt32))) :: (6, (vp_nar .byte ((x >>> (8 &&& 31)).toInt8.toInt32))) :: (5, (vp_nar .byte ((x >>> (16 &&& 31)).toInt8.toInt32))) :: (4, (vp_nar .byte ((x >>> (24 &&& 31)).toInt8.toInt32))) :: v) 0 []), 0, 0)) rfl ?_
  refine zg_nx (y := (43, [.ref 0, .int x, .int (-8)], [], (zsF 8 ((7, (vp_nar .byte ((x >>> (0 &&& 31)).toInt8.toInt32))) :: (6, (vp_nar .byte ((x >>> (8 &&& 31)).toInt8.toInt32))) :: (5, (vp_nar .byte ((x >>> (16 &&& 31)).toInt8.toInt32))) :: (4, (vp_nar .byte ((x >>> (24 &&& 31)).toInt8.toInt32))) :: v) 0 []), 0, 0)) rfl ?_
  refine zg_nx (y := (3, [.ref 0, .int x, .int (-8)], [], (zsF 8 ((7, (vp_nar .byte ((x >>> (0 &&& 31)).toInt8.toInt32))) :: (6, (vp_nar .byte ((x >>> (8 &&& 31)).toInt8.toInt32))) :: (5, (vp_nar .byte ((x >>> (16 &&& 31)).toInt8.toInt32))) :: (4, (vp_nar .byte ((x >>> (24 &&& 31)).toInt8.toInt32))) :: v) 0 []), 0, 0)) rfl ?_
  refine zg_nx (y := (4, [.ref 0, .int x, .int (-8)], [.int (-8)], (zsF 8 ((7, (vp_nar .byte ((x >>> (0 &&& 31)).toInt8.toInt32))) :: (6, (vp_nar .byte ((x >>> (8 &&& 31)).toInt8.toInt32))) :: (5, (vp_nar .byte ((x >>> (16 &&& 31)).toInt8.toInt32))) :: (4, (vp_nar .byte ((x >>> (24 &&& 31)).toInt8.toInt32))) :: v) 0 []), 0, 0)) rfl ?_
  refine zg_nx (y := (46, [.ref 0, .int x, .int (-8)], [], (zsF 8 ((7, (vp_nar .byte ((x >>> (0 &&& 31)).toInt8.toInt32))) :: (6, (vp_nar .byte ((x >>> (8 &&& 31)).toInt8.toInt32))) :: (5, (vp_nar .byte ((x >>> (16 &&& 31)).toInt8.toInt32))) :: (4, (vp_nar .byte ((x >>> (24 &&& 31)).toInt8.toInt32))) :: v) 0 []), 0, 0)) rfl ?_
  exact zg_ret rfl

/-- DesignReader.appendFour -/
theorem za_8 {x : Int32} {v : List (Nat × Int32)} : zrun 20000 7 15 [.ref 0, .int x] (zsF 8 v 0 []) = some (none, (zsF 12 ((11, (vp_nar .byte ((x >>> (0 &&& 31)).toInt8.toInt32))) :: (10, (vp_nar .byte ((x >>> (8 &&& 31)).toInt8.toInt32))) :: (9, (vp_nar .byte ((x >>> (16 &&& 31)).toInt8.toInt32))) :: (8, (vp_nar .byte ((x >>> (24 &&& 31)).toInt8.toInt32))) :: v) 0 [])) := by
  refine zr_of (m := zm_D_appendFour) rfl (Nat.le_of_ble_eq_true rfl) ?_
  show zgo _ _ _ (0, [.ref 0, .int x, zu], [], (zsF 8 v 0 []), 0, 0) = _
  refine zg_nx (y := (2, [.ref 0, .int x, zu], [.int 24], (zsF 8 v 0 []), 0, 0)) rfl ?_
  refine zg_nx (y := (3, [.ref 0, .int x, .int 24], [], (zsF 8 v 0 []), 0, 0)) rfl ?_
  refine zg_nx (y := (4, [.ref 0, .int x, .int 24], [.int 24], (zsF 8 v 0 []), 0, 0)) rfl ?_
  refine zg_nx (y := (7, [.ref 0, .int x, .int 24], [], (zsF 8 v 0 []), 0, 0)) rfl ?_
  refine zg_nx (y := (8, [.ref 0, .int x, .int 24], [.ref 0], (zsF 8 v 0 []), 0, 0)) rfl ?_
  refine zg_nx (y := (11, [.ref 0, .int x, .int 24], [.int 8], (zsF 8 v 0 []), 0, 0)) rfl ?_
  refine zg_nx (y := (14, [.ref 0, .int x, .int 24], [.int 8000, .int 8], (zsF 8 v 0 []), 0, 0)) rfl ?_
  refine zg_nx (y := (17, [.ref 0, .int x, .int 24], [], (zsF 8 v 0 []), 0, 0)) rfl ?_
  refine zg_nx (y := (18, [.ref 0, .int x, .int 24], [.ref 0], (zsF 8 v 0 []), 0, 0)) rfl ?_
  refine zg_nx (y := (21, [.ref 0, .int x, .int 24], [.ref 23], (zsF 8 v 0 []), 0, 0)) rfl ?_
  refine zg_nx (y := (22, [.ref 0, .int x, .int 24], [.ref 0, .ref 23], (zsF 8 v 0 []), 0, 0)) rfl ?_
  refine zg_nx (y := (25, [.ref 0, .int x, .int 24], [.int 8, .ref 23], (zsF 8 v 0 []), 0, 0)) rfl ?_
  refine zg_nx (y := (26, [.ref 0, .int x, .int 24], [.int x, .int 8, .ref 23], (zsF 8 v 0 []), 0, 0)) rfl ?_
  refine zg_nx (y := (27, [.ref 0, .int x, .int 24], [.int 24, .int x, .int 8, .ref 23], (zsF 8 v 0 []), 0, 0)) rfl ?_
  refine zg_nx (y := (28, [.ref 0, .int x, .int 24], [.int (x >>> (24 &&& 31)), .int 8, .ref 23], (zsF 8 v 0 []), 0, 0)) rfl ?_
  refine zg_nx (y := (29, [.ref 0, .int x, .int 24], [.int ((x >>> (24 &&& 31)).toInt8.toInt32), .int 8, .ref 23], (zsF 8 v 0 []), 0, 0)) rfl ?_
  refine zg_nx (y := (30, [.ref 0, .int x, .int 24], [], (zsF 8 ((8, (vp_nar .byte ((x >>> (24 &&& 31)).toInt8.toInt32))) :: v) 0 []), 0, 0)) rfl ?_
  refine zg_nx (y := (31, [.ref 0, .int x, .int 24], [.ref 0], (zsF 8 ((8, (vp_nar .byte ((x >>> (24 &&& 31)).toInt8.toInt32))) :: v) 0 []), 0, 0)) rfl ?_
  refine zg_nx (y := (32, [.ref 0, .int x, .int 24], [.ref 0, .ref 0], (zsF 8 ((8, (vp_nar .byte ((x >>> (24 &&& 31)).toInt8.toInt32))) :: v) 0 []), 0, 0)) rfl ?_
  refine zg_nx (y := (35, [.ref 0, .int x, .int 24], [.int 8, .ref 0], (zsF 8 ((8, (vp_nar .byte ((x >>> (24 &&& 31)).toInt8.toInt32))) :: v) 0 []), 0, 0)) rfl ?_
  refine zg_nx (y := (36, [.ref 0, .int x, .int 24], [.int 1, .int 8, .ref 0], (zsF 8 ((8, (vp_nar .byte ((x >>> (24 &&& 31)).toInt8.toInt32))) :: v) 0 []), 0, 0)) rfl ?_
  refine zg_nx (y := (37, [.ref 0, .int x, .int 24], [.int 9, .ref 0], (zsF 8 ((8, (vp_nar .byte ((x >>> (24 &&& 31)).toInt8.toInt32))) :: v) 0 []), 0, 0)) rfl ?_
  refine zg_nx (y := (40, [.ref 0, .int x, .int 24], [], (zsF 9 ((8, (vp_nar .byte ((x >>> (24 &&& 31)).toInt8.toInt32))) :: v) 0 []), 0, 0)) rfl ?_
  refine zg_nx (y := (43, [.ref 0, .int x, .int 16], [], (zsF 9 ((8, (vp_nar .byte ((x >>> (24 &&& 31)).toInt8.toInt32))) :: v) 0 []), 0, 0)) rfl ?_
  refine zg_nx (y := (3, [.ref 0, .int x, .int 16], [], (zsF 9 ((8, (vp_nar .byte ((x >>> (24 &&& 31)).toInt8.toInt32))) :: v) 0 []), 0, 0)) rfl ?_
  refine zg_nx (y := (4, [.ref 0, .int x, .int 16], [.int 16], (zsF 9 ((8, (vp_nar .byte ((x >>> (24 &&& 31)).toInt8.toInt32))) :: v) 0 []), 0, 0)) rfl ?_
  refine zg_nx (y := (7, [.ref 0, .int x, .int 16], [], (zsF 9 ((8, (vp_nar .byte ((x >>> (24 &&& 31)).toInt8.toInt32))) :: v) 0 []), 0, 0)) rfl ?_
  refine zg_nx (y := (8, [.ref 0, .int x, .int 16], [.ref 0], (zsF 9 ((8, (vp_nar .byte ((x >>> (24 &&& 31)).toInt8.toInt32))) :: v) 0 []), 0, 0)) rfl ?_
  refine zg_nx (y := (11, [.ref 0, .int x, .int 16], [.int 9], (zsF 9 ((8, (vp_nar .byte ((x >>> (24 &&& 31)).toInt8.toInt32))) :: v) 0 []), 0, 0)) rfl ?_
  refine zg_nx (y := (14, [.ref 0, .int x, .int 16], [.int 8000, .int 9], (zsF 9 ((8, (vp_nar .byte ((x >>> (24 &&& 31)).toInt8.toInt32))) :: v) 0 []), 0, 0)) rfl ?_
  refine zg_nx (y := (17, [.ref 0, .int x, .int 16], [], (zsF 9 ((8, (vp_nar .byte ((x >>> (24 &&& 31)).toInt8.toInt32))) :: v) 0 []), 0, 0)) rfl ?_
  refine zg_nx (y := (18, [.ref 0, .int x, .int 16], [.ref 0], (zsF 9 ((8, (vp_nar .byte ((x >>> (24 &&& 31)).toInt8.toInt32))) :: v) 0 []), 0, 0)) rfl ?_
  refine zg_nx (y := (21, [.ref 0, .int x, .int 16], [.ref 23], (zsF 9 ((8, (vp_nar .byte ((x >>> (24 &&& 31)).toInt8.toInt32))) :: v) 0 []), 0, 0)) rfl ?_
  refine zg_nx (y := (22, [.ref 0, .int x, .int 16], [.ref 0, .ref 23], (zsF 9 ((8, (vp_nar .byte ((x >>> (24 &&& 31)).toInt8.toInt32))) :: v) 0 []), 0, 0)) rfl ?_
  refine zg_nx (y := (25, [.ref 0, .int x, .int 16], [.int 9, .ref 23], (zsF 9 ((8, (vp_nar .byte ((x >>> (24 &&& 31)).toInt8.toInt32))) :: v) 0 []), 0, 0)) rfl ?_
  refine zg_nx (y := (26, [.ref 0, .int x, .int 16], [.int x, .int 9, .ref 23], (zsF 9 ((8, (vp_nar .byte ((x >>> (24 &&& 31)).toInt8.toInt32))) :: v) 0 []), 0, 0)) rfl ?_
  refine zg_nx (y := (27, [.ref 0, .int x, .int 16], [.int 16, .int x, .int 9, .ref 23], (zsF 9 ((8, (vp_nar .byte ((x >>> (24 &&& 31)).toInt8.toInt32))) :: v) 0 []), 0, 0)) rfl ?_
  refine zg_nx (y := (28, [.ref 0, .int x, .int 16], [.int (x >>> (16 &&& 31)), .int 9, .ref 23], (zsF 9 ((8, (vp_nar .byte ((x >>> (24 &&& 31)).toInt8.toInt32))) :: v) 0 []), 0, 0)) rfl ?_
  refine zg_nx (y := (29, [.ref 0, .int x, .int 16], [.int ((x >>> (16 &&& 31)).toInt8.toInt32), .int 9, .ref 23], (zsF 9 ((8, (vp_nar .byte ((x >>> (24 &&& 31)).toInt8.toInt32))) :: v) 0 []), 0, 0)) rfl ?_
  refine zg_nx (y := (30, [.ref 0, .int x, .int 16], [], (zsF 9 ((9, (vp_nar .byte ((x >>> (16 &&& 31)).toInt8.toInt32))) :: (8, (vp_nar .byte ((x >>> (24 &&& 31)).toInt8.toInt32))) :: v) 0 []), 0, 0)) rfl ?_
  refine zg_nx (y := (31, [.ref 0, .int x, .int 16], [.ref 0], (zsF 9 ((9, (vp_nar .byte ((x >>> (16 &&& 31)).toInt8.toInt32))) :: (8, (vp_nar .byte ((x >>> (24 &&& 31)).toInt8.toInt32))) :: v) 0 []), 0, 0)) rfl ?_
  refine zg_nx (y := (32, [.ref 0, .int x, .int 16], [.ref 0, .ref 0], (zsF 9 ((9, (vp_nar .byte ((x >>> (16 &&& 31)).toInt8.toInt32))) :: (8, (vp_nar .byte ((x >>> (24 &&& 31)).toInt8.toInt32))) :: v) 0 []), 0, 0)) rfl ?_
  refine zg_nx (y := (35, [.ref 0, .int x, .int 16], [.int 9, .ref 0], (zsF 9 ((9, (vp_nar .byte ((x >>> (16 &&& 31)).toInt8.toInt32))) :: (8, (vp_nar .byte ((x >>> (24 &&& 31)).toInt8.toInt32))) :: v) 0 []), 0, 0)) rfl ?_
  refine zg_nx (y := (36, [.ref 0, .int x, .int 16], [.int 1, .int 9, .ref 0], (zsF 9 ((9, (vp_nar .byte ((x >>> (16 &&& 31)).toInt8.toInt32))) :: (8, (vp_nar .byte ((x >>> (24 &&& 31)).toInt8.toInt32))) :: v) 0 []), 0, 0)) rfl ?_
  refine zg_nx (y := (37, [.ref 0, .int x, .int 16], [.int 10, .ref 0], (zsF 9 ((9, (vp_nar .byte ((x >>> (16 &&& 31)).toInt8.toInt32))) :: (8, (vp_nar .byte ((x >>> (24 &&& 31)).toInt8.toInt32))) :: v) 0 []), 0, 0)) rfl ?_
  refine zg_nx (y := (40, [.ref 0, .int x, .int 16], [], (zsF 10 ((9, (vp_nar .byte ((x >>> (16 &&& 31)).toInt8.toInt32))) :: (8, (vp_nar .byte ((x >>> (24 &&& 31)).toInt8.toInt32))) :: v) 0 []), 0, 0)) rfl ?_
  refine zg_nx (y := (43, [.ref 0, .int x, .int 8], [], (zsF 10 ((9, (vp_nar .byte ((x >>> (16 &&& 31)).toInt8.toInt32))) :: (8, (vp_nar .byte ((x >>> (24 &&& 31)).toInt8.toInt32))) :: v) 0 []), 0, 0)) rfl ?_
  refine zg_nx (y := (3, [.ref 0, .int x, .int 8], [], (zsF 10 ((9, (vp_nar .byte ((x >>> (16 &&& 31)).toInt8.toInt32))) :: (8, (vp_nar .byte ((x >>> (24 &&& 31)).toInt8.toInt32))) :: v) 0 []), 0, 0)) rfl ?_
  refine zg_nx (y := (4, [.ref 0, .int x, .int 8], [.int 8], (zsF 10 ((9, (vp_nar .byte ((x >>> (16 &&& 31)).toInt8.toInt32))) :: (8, (vp_nar .byte ((x >>> (24 &&& 31)).toInt8.toInt32))) :: v) 0 []), 0, 0)) rfl ?_
  refine zg_nx (y := (7, [.ref 0, .int x, .int 8], [], (zsF 10 ((9, (vp_nar .byte ((x >>> (16 &&& 31)).toInt8.toInt32))) :: (8, (vp_nar .byte ((x >>> (24 &&& 31)).toInt8.toInt32))) :: v) 0 []), 0, 0)) rfl ?_
  refine zg_nx (y := (8, [.ref 0, .int x, .int 8], [.ref 0], (zsF 10 ((9, (vp_nar .byte ((x >>> (16 &&& 31)).toInt8.toInt32))) :: (8, (vp_nar .byte ((x >>> (24 &&& 31)).toInt8.toInt32))) :: v) 0 []), 0, 0)) rfl ?_
  refine zg_nx (y := (11, [.ref 0, .int x, .int 8], [.int 10], (zsF 10 ((9, (vp_nar .byte ((x >>> (16 &&& 31)).toInt8.toInt32))) :: (8, (vp_nar .byte ((x >>> (24 &&& 31)).toInt8.toInt32))) :: v) 0 []), 0, 0)) rfl ?_
  refine zg_nx (y := (14, [.ref 0, .int x, .int 8], [.int 8000, .int 10], (zsF 10 ((9, (vp_nar .byte ((x >>> (16 &&& 31)).toInt8.toInt32))) :: (8, (vp_nar .byte ((x >>> (24 &&& 31)).toInt8.toInt32))) :: v) 0 []), 0, 0)) rfl ?_
  refine zg_nx (y := (17, [.ref 0, .int x, .int 8], [], (zsF 10 ((9, (vp_nar .byte ((x >>> (16 &&& 31)).toInt8.toInt32))) :: (8, (vp_nar .byte ((x >>> (24 &&& 31)).toInt8.toInt32))) :: v) 0 []), 0, 0)) rfl ?_
  refine zg_nx (y := (18, [.ref 0, .int x, .int 8], [.ref 0], (zsF 10 ((9, (vp_nar .byte ((x >>> (16 &&& 31)).toInt8.toInt32))) :: (8, (vp_nar .byte ((x >>> (24 &&& 31)).toInt8.toInt32))) :: v) 0 []), 0, 0)) rfl ?_
  refine zg_nx (y := (21, [.ref 0, .int x, .int 8], [.ref 23], (zsF 10 ((9, (vp_nar .byte ((x >>> (16 &&& 31)).toInt8.toInt32))) :: (8, (vp_nar .byte ((x >>> (24 &&& 31)).toInt8.toInt32))) :: v) 0 []), 0, 0)) rfl ?_
  refine zg_nx (y := (22, [.ref 0, .int x, .int 8], [.ref 0, .ref 23], (zsF 10 ((9, (vp_nar .byte ((x >>> (16 &&& 31)).toInt8.toInt32))) :: (8, (vp_nar .byte ((x >>> (24 &&& 31)).toInt8.toInt32))) :: v) 0 []), 0, 0)) rfl ?_
  refine zg_nx (y := (25, [.ref 0, .int x, .int 8], [.int 10, .ref 23], (zsF 10 ((9, (vp_nar .byte ((x >>> (16 &&& 31)).toInt8.toInt32))) :: (8, (vp_nar .byte ((x >>> (24 &&& 31)).toInt8.toInt32))) :: v) 0 []), 0, 0)) rfl ?_
  refine zg_nx (y := (26, [.ref 0, .int x, .int 8], [.int x, .int 10, .ref 23], (zsF 10 ((9, (vp_nar .byte ((x >>> (16 &&& 31)).toInt8.toInt32))) :: (8, (vp_nar .byte ((x >>> (24 &&& 31)).toInt8.toInt32))) :: v) 0 []), 0, 0)) rfl ?_
  refine zg_nx (y := (27, [.ref 0, .int x, .int 8], [.int 8, .int x, .int 10, .ref 23], (zsF 10 ((9, (vp_nar .byte ((x >>> (16 &&& 31)).toInt8.toInt32))) :: (8, (vp_nar .byte ((x >>> (24 &&& 31)).toInt8.toInt32))) :: v) 0 []), 0, 0)) rfl ?_
  refine zg_nx (y := (28, [.ref 0, .int x, .int 8], [.int (x >>> (8 &&& 31)), .int 10, .ref 23], (zsF 10 ((9, (vp_nar .byte ((x >>> (16 &&& 31)).toInt8.toInt32))) :: (8, (vp_nar .byte ((x >>> (24 &&& 31)).toInt8.toInt32))) :: v) 0 []), 0, 0)) rfl ?_
  refine zg_nx (y := (29, [.ref 0, .int x, .int 8], [.int ((x >>> (8 &&& 31)).toInt8.toInt32), .int 10, .ref 23], (zsF 10 ((9, (vp_nar .byte ((x >>> (16 &&& 31)).toInt8.toInt32))) :: (8, (vp_nar .byte ((x >>> (24 &&& 31)).toInt8.toInt32))) :: v) 0 []), 0, 0)) rfl ?_
  refine zg_nx (y := (30, [.ref 0, .int x, .int 8], [], (zsF 10 ((10, (vp_nar .byte ((x >>> (8 &&& 31)).toInt8.toInt32))) :: (9, (vp_nar .byte ((x >>> (16 &&& 31)).toInt8.toInt32))) :: (8, (vp_nar .byte ((x >>> (24 &&& 31)).toInt8.toInt32))) :: v) 0 []), 0, 0)) rfl ?_
  refine zg_nx (y := (31, [.ref 0, .int x, .int 8], [.ref 0], (zsF 10 ((10, (vp_nar .byte ((x >>> (8 &&& 31)).toInt8.toInt32))) :: (9, (vp_nar .byte ((x >>> (16 &&& 31)).toInt8.toInt32))) :: (8, (vp_nar .byte ((x >>> (24 &&& 31)).toInt8.toInt32))) :: v) 0 []), 0, 0)) rfl ?_
  refine zg_nx (y := (32, [.ref 0, .int x, .int 8], [.ref 0, .ref 0], (zsF 10 ((10, (vp_nar .byte ((x >>> (8 &&& 31)).toInt8.toInt32))) :: (9, (vp_nar .byte ((x >>> (16 &&& 31)).toInt8.toInt32))) :: (8, (vp_nar .byte ((x >>> (24 &&& 31)).toInt8.toInt32))) :: v) 0 []), 0, 0)) rfl ?_
  refine zg_nx (y := (35, [.ref 0, .int x, .int 8], [.int 10, .ref 0], (zsF 10 ((10, (vp_nar .byte ((x >>> (8 &&& 31)).toInt8.toInt32))) :: (9, (vp_nar .byte ((x >>> (16 &&& 31)).toInt8.toInt32))) :: (8, (vp_nar .byte ((x >>> (24 &&& 31)).toInt8.toInt32))) :: v) 0 []), 0, 0)) rfl ?_
  refine zg_nx (y := (36, [.ref 0, .int x, .int 8], [.int 1, .int 10, .ref 0], (zsF 10 ((10, (vp_nar .byte ((x >>> (8 &&& 31)).toInt8.toInt32))) :: (9, (vp_nar .byte ((x >>> (16 &&& 31)).toInt8.toInt32))) :: (8, (vp_nar .byte ((x >>> (24 &&& 31)).toInt8.toInt32))) :: v) 0 []), 0, 0)) rfl ?_
  refine zg_nx (y := (37, [.ref 0, .int x, .int 8], [.int 11, .ref 0], (zsF 10 ((10, (vp_nar .byte ((x >>> (8 &&& 31)).toInt8.toInt32))) :: (9, (vp_nar .byte ((x >>> (16 &&& 31)).toInt8.toInt32))) :: (8, (vp_nar .byte ((x >>> (24 &&& 31)).toInt8.toInt32))) :: v) 0 []), 0, 0)) rfl ?_
  refine zg_nx (y := (40, [.ref 0, .int x, .int 8], [], (zsF 11 ((10, (vp_nar .byte ((x >>> (8 &&& 31)).toInt8.toInt32))) :: (9, (vp_nar .byte ((x >>> (16 &&& 31)).toInt8.toInt32))) :: (8, (vp_nar .byte ((x >>> (24 &&& 31)).toInt8.toInt32))) :: v) 0 []), 0, 0)) rfl ?_
  refine zg_nx (y := (43, [.ref 0, .int x, .int 0], [], (zsF 11 ((10, (vp_nar .byte ((x >>> (8 &&& 31)).toInt8.toInt32))) :: (9, (vp_nar .byte ((x >>> (16 &&& 31)).toInt8.toInt32))) :: (8, (vp_nar .byte ((x >>> (24 &&& 31)).toInt8.toInt32))) :: v) 0 []), 0, 0)) rfl ?_
  refine zg_nx (y := (3, [.ref 0, .int x, .int 0], [], (zsF 11 ((10, (vp_nar .byte ((x >>> (8 &&& 31)).toInt8.toInt32))) :: (9, (vp_nar .byte ((x >>> (16 &&& 31)).toInt8.toInt32))) :: (8, (vp_nar .byte ((x >>> (24 &&& 31)).toInt8.toInt32))) :: v) 0 []), 0, 0)) rfl ?_
  refine zg_nx (y := (4, [.ref 0, .int x, .int 0], [.int 0], (zsF 11 ((10, (vp_nar .byte ((x >>> (8 &&& 31)).toInt8.toInt32))) :: (9, (vp_nar .byte ((x >>> (16 &&& 31)).toInt8.toInt32))) :: (8, (vp_nar .byte ((x >>> (24 &&& 31)).toInt8.toInt32))) :: v) 0 []), 0, 0)) rfl ?_
  refine zg_nx (y := (7, [.ref 0, .int x, .int 0], [], (zsF 11 ((10, (vp_nar .byte ((x >>> (8 &&& 31)).toInt8.toInt32))) :: (9, (vp_nar .byte ((x >>> (16 &&& 31)).toInt8.toInt32))) :: (8, (vp_nar .byte ((x >>> (24 &&& 31)).toInt8.toInt32))) :: v) 0 []), 0, 0)) rfl ?_
  refine zg_nx (y := (8, [.ref 0, .int x, .int 0], [.ref 0], (zsF 11 ((10, (vp_nar .byte ((x >>> (8 &&& 31)).toInt8.toInt32))) :: (9, (vp_nar .byte ((x >>> (16 &&& 31)).toInt8.toInt32))) :: (8, (vp_nar .byte ((x >>> (24 &&& 31)).toInt8.toInt32))) :: v) 0 []), 0, 0)) rfl ?_
  refine zg_nx (y := (11, [.ref 0, .int x, .int 0], [.int 11], (zsF 11 ((10, (vp_nar .byte ((x >>> (8 &&& 31)).toInt8.toInt32))) :: (9, (vp_nar .byte ((x >>> (16 &&& 31)).toInt8.toInt32))) :: (8, (vp_nar .byte ((x >>> (24 &&& 31)).toInt8.toInt32))) :: v) 0 []), 0, 0)) rfl ?_
  refine zg_nx (y := (14, [.ref 0, .int x, .int 0], [.int 8000, .int 11], (zsF 11 ((10, (vp_nar .byte ((x >>> (8 &&& 31)).toInt8.toInt32))) :: (9, (vp_nar .byte ((x >>> (16 &&& 31)).toInt8.toInt32))) :: (8, (vp_nar .byte ((x >>> (24 &&& 31)).toInt8.toInt32))) :: v) 0 []), 0, 0)) rfl ?_
  refine zg_nx (y := (17, [.ref 0, .int x, .int 0], [], (zsF 11 ((10, (vp_nar .byte ((x >>> (8 &&& 31)).toInt8.toInt32))) :: (9, (vp_nar .byte ((x >>> (16 &&& 31)).toInt8.toInt32))) :: (8, (vp_nar .byte ((x >>> (24 &&& 31)).toInt8.toInt32))) :: v) 0 []), 0, 0)) rfl ?_
  refine zg_nx (y := (18, [.ref 0, .int x, .int 0], [.ref 0], (zsF 11 ((10, (vp_nar .byte ((x >>> (8 &&& 31)).toInt8.toInt32))) :: (9, (vp_nar .byte ((x >>> (16 &&& 31)).toInt8.toInt32))) :: (8, (vp_nar .byte ((x >>> (24 &&& 31)).toInt8.toInt32))) :: v) 0 []), 0, 0)) rfl ?_
  refine zg_nx (y := (21, [.ref 0, .int x, .int 0], [.ref 23], (zsF 11 ((10, (vp_nar .byte ((x >>> (8 &&& 31)).toInt8.toInt32))) :: (9, (vp_nar .byte ((x >>> (16 &&& 31)).toInt8.toInt32))) :: (8, (vp_nar .byte ((x >>> (24 &&& 31)).toInt8.toInt32))) :: v) 0 []), 0, 0)) rfl ?_
  refine zg_nx (y := (22, [.ref 0, .int x, .int 0], [.ref 0, .ref 23], (zsF 11 ((10, (vp_nar .byte ((x >>> (8 &&& 31)).toInt8.toInt32))) :: (9, (vp_nar .byte ((x >>> (16 &&& 31)).toInt8.toInt32))) :: (8, (vp_nar .byte ((x >>> (24 &&& 31)).toInt8.toInt32))) :: v) 0 []), 0, 0)) rfl ?_
  refine zg_nx (y := (25, [.ref 0, .int x, .int 0], [.int 11, .ref 23], (zsF 11 ((10, (vp_nar .byte ((x >>> (8 &&& 31)).toInt8.toInt32))) :: (9, (vp_nar .byte ((x >>> (16 &&& 31)).toInt8.toInt32))) :: (8, (vp_nar .byte ((x >>> (24 &&& 31)).toInt8.toInt32))) :: v) 0 []), 0, 0)) rfl ?_
  refine zg_nx (y := (26, [.ref 0, .int x, .int 0], [.int x, .int 11, .ref 23], (zsF 11 ((10, (vp_nar .byte ((x >>> (8 &&& 31)).toInt8.toInt32))) :: (9, (vp_nar .byte ((x >>> (16 &&& 31)).toInt8.toInt32))) :: (8, (vp_nar .byte ((x >>> (24 &&& 31)).toInt8.toInt32))) :: v) 0 []), 0, 0)) rfl ?_
  refine zg_nx (y := (27, [.ref 0, .int x, .int 0], [.int 0, .int x, .int 11, .ref 23], (zsF 11 ((10, (vp_nar .byte ((x >>> (8 &&& 31)).toInt8.toInt32))) :: (9, (vp_nar .byte ((x >>> (16 &&& 31)).toInt8.toInt32))) :: (8, (vp_nar .byte ((x >>> (24 &&& 31)).toInt8.toInt32))) :: v) 0 []), 0, 0)) rfl ?_
  refine zg_nx (y := (28, [.ref 0, .int x, .int 0], [.int (x >>> (0 &&& 31)), .int 11, .ref 23], (zsF 11 ((10, (vp_nar .byte ((x >>> (8 &&& 31)).toInt8.toInt32))) :: (9, (vp_nar .byte ((x >>> (16 &&& 31)).toInt8.toInt32))) :: (8, (vp_nar .byte ((x >>> (24 &&& 31)).toInt8.toInt32))) :: v) 0 []), 0, 0)) rfl ?_
  refine zg_nx (y := (29, [.ref 0, .int x, .int 0], [.int ((x >>> (0 &&& 31)).toInt8.toInt32), .int 11, .ref 23], (zsF 11 ((10, (vp_nar .byte ((x >>> (8 &&& 31)).toInt8.toInt32))) :: (9, (vp_nar .byte ((x >>> (16 &&& 31)).toInt8.toInt32))) :: (8, (vp_nar .byte ((x >>> (24 &&& 31)).toInt8.toInt32))) :: v) 0 []), 0, 0)) rfl ?_
  refine zg_nx (y := (30, [.ref 0, .int x, .int 0], [], (zsF 11 ((11, (vp_nar .byte ((x >>> (0 &&& 31)).toInt8.toInt32))) :: (10, (vp_nar .byte ((x >>> (8 &&& 31)).toInt8.toInt32))) :: (9, (vp_nar .byte ((x >>> (16 &&& 31)).toInt8.toInt32))) :: (8, (vp_nar .byte ((x >>> (24 &&& 31)).toInt8.toInt32))) :: v) 0 []), 0, 0)) rfl ?_
  refine zg_nx (y := (31, [.ref 0, .int x, .int 0], [.ref 0], (zsF 11 ((11, (vp_nar .byte ((x >>> (0 &&& 31)).toInt8.toInt32))) :: (10, (vp_nar .byte ((x >>> (8 &&& 31)).toInt8.toInt32))) :: (9, (vp_nar .byte ((x >>> (16 &&& 31)).toInt8.toInt32))) :: (8, (vp_nar .byte ((x >>> (24 &&& 31)).toInt8.toInt32))) :: v) 0 []), 0, 0)) rfl ?_
  refine zg_nx (y := (32, [.ref 0, .int x, .int 0], [.ref 0, .ref 0], (zsF 11 ((11, (vp_nar .byte ((x >>> (0 &&& 31)).toInt8.toInt32))) :: (10, (vp_nar .byte ((x >>> (8 &&& 31)).toInt8.toInt32))) :: (9, (vp_nar .byte ((x >>> (16 &&& 31)).toInt8.toInt32))) :: (8, (vp_nar .byte ((x >>> (24 &&& 31)).toInt8.toInt32))) :: v) 0 []), 0, 0)) rfl ?_
  refine zg_nx (y := (35, [.ref 0, .int x, .int 0], [.int 11, .ref 0], (zsF 11 ((11, (vp_nar .byte ((x >>> (0 &&& 31)).toInt8.toInt32))) :: (10, (vp_nar .byte ((x >>> (8 &&& 31)).toInt8.toInt32))) :: (9, (vp_nar .byte ((x >>> (16 &&& 31)).toInt8.toInt32))) :: (8, (vp_nar .byte ((x >>> (24 &&& 31)).toInt8.toInt32))) :: v) 0 []), 0, 0)) rfl ?_
  refine zg_nx (y := (36, [.ref 0, .int x, .int 0], [.int 1, .int 11, .ref 0], (zsF 11 ((11, (vp_nar .byte ((x >>> (0 &&& 31)).toInt8.toInt32))) :: (10, (vp_nar .byte ((x >>> (8 &&& 31)).toInt8.toInt32))) :: (9, (vp_nar .byte ((x >>> (16 &&& 31)).toInt8.toInt32))) :: (8, (vp_nar .byte ((x >>> (24 &&& 31)).toInt8.toInt32))) :: v) 0 []), 0, 0)) rfl ?_
  refine zg_nx (y := (37, [.ref 0, .int x, .int 0], [.int 12, .ref 0], (zsF 11 ((11, (vp_nar .byte ((x >>> (0 &&& 31)).toInt8.toInt32))) :: (10, (vp_nar .byte ((x >>> (8 &&& 31)).toInt8.toInt32))) :: (9, (vp_nar .byte ((x >>> (16 &&& 31)).toInt8.toInt32))) :: (8, (vp_nar .byte ((x >>> (24 &&& 31)).toInt8.toInt32))) :: v) 0 []), 0, 0)) rfl ?_
  refine zg_nx (y := (40, [.ref 0, .int x, .int 0], [], (zsF 12 ((11, (vp_nar .byte ((x >>> (0 &&& 31)).toInt8.toInt32))) :: (10, (vp_nar .byte ((x >>> (8 &&& 31)).toInt8.toInt32))) :: (9, (vp_nar .byte ((x >>> (16 &&& 31)).toInt8.toInt32))) :: (8, (vp_nar .byte ((x >>> (24 &&& 31)).toInt8.toInt32))) :: v) 0 []), 0, 0)) rfl ?_
  refine zg_nx (y := (43, [.ref 0, .int x, .int (-8)], [], (zsF 12 ((11, (vp_nar .byte ((x >>> (0 &&& 31)).toInt8.toInt32))) :: (10, (vp_nar .byte ((x >>> (8 &&& 31)).toInt8.toInt32))) :: (9, (vp_nar .byte ((x >>> (16 &&& 31)).toInt8.toInt32))) :: (8, (vp_nar .byte ((x >>> (24 &&& 31)).toInt8.toInt32))) :: v) 0 []), 0, 0)) rfl ?_
  refine zg_nx (y := (3, [.ref 0, .int x, .int (-8)], [], (zsF 12 ((11, (vp_nar .byte ((x >>> (0 &&& 31)).toInt8.toInt32))) :: (10, (vp_nar .byte ((x >>> (8 &&& 31)).toInt8.toInt32))) :: (9, (vp_nar .byte ((x >>> (16 &&& 31)).toInt8.toInt32))) :: (8, (vp_nar .byte ((x >>> (24 &&& 31)).toInt8.toInt32))) :: v) 0 []), 0, 0)) rfl ?_
  refine zg_nx (y := (4, [.ref 0, .int x, .int (-8)], [.int (-8)], (zsF 12 ((11, (vp_nar .byte ((x >>> (0 &&& 31)).toInt8.toInt32))) :: (10, (vp_nar .byte ((x >>> (8 &&& 31)).toInt8.toInt32))) :: (9, (vp_nar .byte ((x >>> (16 &&& 31)).toInt8.toInt32))) :: (8, (vp_nar .byte ((x >>> (24 &&& 31)).toInt8.toInt32))) :: v) 0 []), 0, 0)) rfl ?_
  refine zg_nx (y := (46, [.ref 0, .int x, .int (-8)], [], (zsF 12 ((11, (vp_nar .byte ((x >>> (0 &&& 31)).toInt8.toInt32))) :: (10, (vp_nar .byte ((x >>> (8 &&& 31)).toInt8.toInt32))) :: (9, (vp_nar .byte ((x >>> (16 &&& 31)).toInt8.toInt32))) :: (8, (vp_nar .byte ((x >>> (24 &&& 31)).toInt8.toInt32))) :: v) 0 []), 0, 0)) rfl ?_
  exact zg_ret rfl

/-- DesignReader.appendFour -/
theorem za_12 {x : Int32} {v : List (Nat × Int32)} : zrun 20000 7 15 [.ref 0, .int x] (zsF 12 v 0 []) = some (none, (zsF 16 ((15, (vp_nar .byte ((x >>> (0 &&& 31)).toInt8.toInt32))) :: (14, (vp_nar .byte ((x >>> (8 &&& 31)).toInt8.toInt32))) :: (13, (vp_nar .byte ((x >>> (16 &&& 31)).toInt8.toInt32))) :: (12, (vp_nar .byte ((x >>> (24 &&& 31)).toInt8.toInt32))) :: v) 0 [])) := by
  refine zr_of (m := zm_D_appendFour) rfl (Nat.le_of_ble_eq_true rfl) ?_
  show zgo _ _ _ (0, [.ref 0, .int x, zu], [], (zsF 12 v 0 []), 0, 0) = _
  refine zg_nx (y := (2, [.ref 0, .int x, zu], [.int 24], (zsF 12 v 0 []), 0, 0)) rfl ?_
  refine zg_nx (y := (3, [.ref 0, .int x, .int 24], [], (zsF 12 v 0 []), 0, 0)) rfl ?_
  refine zg_nx (y := (4, [.ref 0, .int x, .int 24], [.int 24], (zsF 12 v 0 []), 0, 0)) rfl ?_
  refine zg_nx (y := (7, [.ref 0, .int x, .int 24], [], (zsF 12 v 0 []), 0, 0)) rfl ?_
  refine zg_nx (y := (8, [.ref 0, .int x, .int 24], [.ref 0], (zsF 12 v 0 []), 0, 0)) rfl ?_
  refine zg_nx (y := (11, [.ref 0, .int x, .int 24], [.int 12], (zsF 12 v 0 []), 0, 0)) rfl ?_
  refine zg_nx (y := (14, [.ref 0, .int x, .int 24], [.int 8000, .int 12], (zsF 12 v 0 []), 0, 0)) rfl ?_
  refine zg_nx (y := (17, [.ref 0, .int x, .int 24], [], (zsF 12 v 0 []), 0, 0)) rfl ?_
  refine zg_nx (y := (18, [.ref 0, .int x, .int 24], [.ref 0], (zsF 12 v 0 []), 0, 0)) rfl ?_
  refine zg_nx (y := (21, [.ref 0, .int x, .int 24], [.ref 23], (zsF 12 v 0 []), 0, 0)) rfl ?_
  refine zg_nx (y := (22, [.ref 0, .int x, .int 24], [.ref 0, .ref 23], (zsF 12 v 0 []), 0, 0)) rfl ?_
  refine zg_nx (y := (25, [.ref 0, .int x, .int 24], [.int 12, .ref 23], (zsF 12 v 0 []), 0, 0)) rfl ?_
  refine zg_nx (y := (26, [.ref 0, .int x, .int 24], [.int x, .int 12, .ref 23], (zsF 12 v 0 []), 0, 0)) rfl ?_
  refine zg_nx (y := (27, [.ref 0, .int x, .int 24], [.int 24, .int x, .int 12, .ref 23], (zsF 12 v 0 []), 0, 0)) rfl ?_
  refine zg_nx (y := (28, [.ref 0, .int x, .int 24], [.int (x >>> (24 &&& 31)), .int 12, .ref 23], (zsF 12 v 0 []), 0, 0)) rfl ?_
  refine zg_nx (y := (29, [.ref 0, .int x, .int 24], [.int ((x >>> (24 &&& 31)).toInt8.toInt32), .int 12, .ref 23], (zsF 12 v 0 []), 0, 0)) rfl ?_
  refine zg_nx (y := (30, [.ref 0, .int x, .int 24], [], (zsF 12 ((12, (vp_nar .byte ((x >>> (24 &&& 31)).toInt8.toInt32))) :: v) 0 []), 0, 0)) rfl ?_
  refine zg_nx (y := (31, [.ref 0, .int x, .int 24], [.ref 0], (zsF 12 ((12, (vp_nar .byte ((x >>> (24 &&& 31)).toInt8.toInt32))) :: v) 0 []), 0, 0)) rfl ?_
  refine zg_nx (y := (32, [.ref 0, .int x, .int 24], [.ref 0, .ref 0], (zsF 12 ((12, (vp_nar .byte ((x >>> (24 &&& 31)).toInt8.toInt32))) :: v) 0 []), 0, 0)) rfl ?_
  refine zg_nx (y := (35, [.ref 0, .int x, .int 24], [.int 12, .ref 0], (zsF 12 ((12, (vp_nar .byte ((x >>> (24 &&& 31)).toInt8.toInt32))) :: v) 0 []), 0, 0)) rfl ?_
  refine zg_nx (y := (36, [.ref 0, .int x, .int 24], [.int 1, .int 12, .ref 0], (zsF 12 ((12, (vp_nar .byte ((x >>> (24 &&& 31)).toInt8.toInt32))) :: v) 0 []), 0, 0)) rfl ?_
  refine zg_nx (y := (37, [.ref 0, .int x, .int 24], [.int 13, .ref 0], (zsF 12 ((12, (vp_nar .byte ((x >>> (24 &&& 31)).toInt8.toInt32))) :: v) 0 []), 0, 0)) rfl ?_
  refine zg_nx (y := (40, [.ref 0, .int x, .int 24], [], (zsF 13 ((12, (vp_nar .byte ((x >>> (24 &&& 31)).toInt8.toInt32))) :: v) 0 []), 0, 0)) rfl ?_
  refine zg_nx (y := (43, [.ref 0, .int x, .int 16], [], (zsF 13 ((12, (vp_nar .byte ((x >>> (24 &&& 31)).toInt8.toInt32))) :: v) 0 []), 0, 0)) rfl ?_
  refine zg_nx (y := (3, [.ref 0, .int x, .int 16], [], (zsF 13 ((12, (vp_nar .byte ((x >>> (24 &&& 31)).toInt8.toInt32))) :: v) 0 []), 0, 0)) rfl ?_
  refine zg_nx (y := (4, [.ref 0, .int x, .int 16], [.int 16], (zsF 13 ((12, (vp_nar .byte ((x >>> (24 &&& 31)).toInt8.toInt32))) :: v) 0 []), 0, 0)) rfl ?_
  refine zg_nx (y := (7, [.ref 0, .int x, .int 16], [], (zsF 13 ((12, (vp_nar .byte ((x >>> (24 &&& 31)).toInt8.toInt32))) :: v) 0 []), 0, 0)) rfl ?_
  refine zg_nx (y := (8, [.ref 0, .int x, .int 16], [.ref 0], (zsF 13 ((12, (vp_nar .byte ((x >>> (24 &&& 31)).toInt8.toInt32))) :: v) 0 []), 0, 0)) rfl ?_
  refine zg_nx (y := (11, [.ref 0, .int x, .int 16], [.int 13], (zsF 13 ((12, (vp_nar .byte ((x >>> (24 &&& 31)).toInt8.toInt32))) :: v) 0 []), 0, 0)) rfl ?_
  refine zg_nx (y := (14, [.ref 0, .int x, .int 16], [.int 8000, .int 13], (zsF 13 ((12, (vp_nar .byte ((x >>> (24 &&& 31)).toInt8.toInt32))) :: v) 0 []), 0, 0)) rfl ?_
  refine zg_nx (y := (17, [.ref 0, .int x, .int 16], [], (zsF 13 ((12, (vp_nar .byte ((x >>> (24 &&& 31)).toInt8.toInt32))) :: v) 0 []), 0, 0)) rfl ?_
  refine zg_nx (y := (18, [.ref 0, .int x, .int 16], [.ref 0], (zsF 13 ((12, (vp_nar .byte ((x >>> (24 &&& 31)).toInt8.toInt32))) :: v) 0 []), 0, 0)) rfl ?_
  refine zg_nx (y := (21, [.ref 0, .int x, .int 16], [.ref 23], (zsF 13 ((12, (vp_nar .byte ((x >>> (24 &&& 31)).toInt8.toInt32))) :: v) 0 []), 0, 0)) rfl ?_
  refine zg_nx (y := (22, [.ref 0, .int x, .int 16], [.ref 0, .ref 23], (zsF 13 ((12, (vp_nar .byte ((x >>> (24 &&& 31)).toInt8.toInt32))) :: v) 0 []), 0, 0)) rfl ?_
  refine zg_nx (y := (25, [.ref 0, .int x, .int 16], [.int 13, .ref 23], (zsF 13 ((12, (vp_nar .byte ((x >>> (24 &&& 31)).toInt8.toInt32))) :: v) 0 []), 0, 0)) rfl ?_
  refine zg_nx (y := (26, [.ref 0, .int x, .int 16], [.int x, .int 13, .ref 23], (zsF 13 ((12, (vp_nar .byte ((x >>> (24 &&& 31)).toInt8.toInt32))) :: v) 0 []), 0, 0)) rfl ?_
  refine zg_nx (y := (27, [.ref 0, .int x, .int 16], [.int 16, .int x, .int 13, .ref 23], (zsF 13 ((12, (vp_nar .byte ((x >>> (24 &&& 31)).toInt8.toInt32))) :: v) 0 []), 0, 0)) rfl ?_
  refine zg_nx (y := (28, [.ref 0, .int x, .int 16], [.int (x >>> (16 &&& 31)), .int 13, .ref 23], (zsF 13 ((12, (vp_nar .byte ((x >>> (24 &&& 31)).toInt8.toInt32))) :: v) 0 []), 0, 0)) rfl ?_
  refine zg_nx (y := (29, [.ref 0, .int x, .int 16], [.int ((x >>> (16 &&& 31)).toInt8.toInt32), .int 13, .ref 23], (zsF 13 ((12, (vp_nar .byte ((x >>> (24 &&& 31)).toInt8.toInt32))) :: v) 0 []), 0, 0)) rfl ?_
  refine zg_nx (y := (30, [.ref 0, .int x, .int 16], [], (zsF 13 ((13, (vp_nar .byte ((x >>> (16 &&& 31)).toInt8.toInt32))) :: (12, (vp_nar .byte ((x >>> (24 &&& 31)).toInt8.toInt32))) :: v) 0 []), 0, 0)) rfl ?_
  refine zg_nx (y := (31, [.ref 0, .int x, .int 16], [.ref 0], (zsF 13 ((13, (vp_nar .byte ((x >>> (16 &&& 31)).toInt8.toInt32))) :: (12, (vp_nar .byte ((x >>> (24 &&& 31)).toInt8.toInt32))) :: v) 0 []), 0, 0)) rfl ?_
  refine zg_nx (y := (32, [.ref 0, .int x, .int 16], [.ref 0, .ref 0], (zsF 13 ((13, (vp_nar .byte ((x >>> (16 &&& 31)).toInt8.toInt32))) :: (12, (vp_nar .byte ((x >>> (24 &&& 31)).toInt8.toInt32))) :: v) 0 []), 0, 0)) rfl ?_
  refine zg_nx (y := (35, [.ref 0, .int x, .int 16], [.int 13, .ref 0], (zsF 13 ((13, (vp_nar .byte ((x >>> (16 &&& 31)).toInt8.toInt32))) :: (12, (vp_nar .byte ((x >>> (24 &&& 31)).toInt8.toInt32))) :: v) 0 []), 0, 0)) rfl ?_
  refine zg_nx (y := (36, [.ref 0, .int x, .int 16], [.int 1, .int 13, .ref 0], (zsF 13 ((13, (vp_nar .byte ((x >>> (16 &&& 31)).toInt8.toInt32))) :: (12, (vp_nar .byte ((x >>> (24 &&& 31)).toInt8.toInt32))) :: v) 0 []), 0, 0)) rfl ?_
  refine zg_nx (y := (37, [.ref 0, .int x, .int 16], [.int 14, .ref 0], (zsF 13 ((13, (vp_nar .byte ((x >>> (16 &&& 31)).toInt8.toInt32))) :: (12, (vp_nar .byte ((x >>> (24 &&& 31)).toInt8.toInt32))) :: v) 0 []), 0, 0)) rfl ?_
  refine zg_nx (y := (40, [.ref 0, .int x, .int 16], [], (zsF 14 ((13, (vp_nar .byte ((x >>> (16 &&& 31)).toInt8.toInt32))) :: (12, (vp_nar .byte ((x >>> (24 &&& 31)).toInt8.toInt32))) :: v) 0 []), 0, 0)) rfl ?_
  refine zg_nx (y := (43, [.ref 0, .int x, .int 8], [], (zsF 14 ((13, (vp_nar .byte ((x >>> (16 &&& 31)).toInt8.toInt32))) :: (12, (vp_nar .byte ((x >>> (24 &&& 31)).toInt8.toInt32))) :: v) 0 []), 0, 0)) rfl ?_
  refine zg_nx (y := (3, [.ref 0, .int x, .int 8], [], (zsF 14 ((13, (vp_nar .byte ((x >>> (16 &&& 31)).toInt8.toInt32))) :: (12, (vp_nar .byte ((x >>> (24 &&& 31)).toInt8.toInt32))) :: v) 0 []), 0, 0)) rfl ?_
  refine zg_nx (y := (4, [.ref 0, .int x, .int 8], [.int 8], (zsF 14 ((13, (vp_nar .byte ((x >>> (16 &&& 31)).toInt8.toInt32))) :: (12, (vp_nar .byte ((x >>> (24 &&& 31)).toInt8.toInt32))) :: v) 0 []), 0, 0)) rfl ?_
  refine zg_nx (y := (7, [.ref 0, .int x, .int 8], [], (zsF 14 ((13, (vp_nar .byte ((x >>> (16 &&& 31)).toInt8.toInt32))) :: (12, (vp_nar .byte ((x >>> (24 &&& 31)).toInt8.toInt32))) :: v) 0 []), 0, 0)) rfl ?_
  refine zg_nx (y := (8, [.ref 0, .int x, .int 8], [.ref 0], (zsF 14 ((13, (vp_nar .byte ((x >>> (16 &&& 31)).toInt8.toInt32))) :: (12, (vp_nar .byte ((x >>> (24 &&& 31)).toInt8.toInt32))) :: v) 0 []), 0, 0)) rfl ?_
  refine zg_nx (y := (11, [.ref 0, .int x, .int 8], [.int 14], (zsF 14 ((13, (vp_nar .byte ((x >>> (16 &&& 31)).toInt8.toInt32))) :: (12, (vp_nar .byte ((x >>> (24 &&& 31)).toInt8.toInt32))) :: v) 0 []), 0, 0)) rfl ?_
  refine zg_nx (y := (14, [.ref 0, .int x, .int 8], [.int 8000, .int 14], (zsF 14 ((13, (vp_nar .byte ((x >>> (16 &&& 31)).toInt8.toInt32))) :: (12, (vp_nar .byte ((x >>> (24 &&& 31)).toInt8.toInt32))) :: v) 0 []), 0, 0)) rfl ?_
  refine zg_nx (y := (17, [.ref 0, .int x, .int 8], [], (zsF 14 ((13, (vp_nar .byte ((x >>> (16 &&& 31)).toInt8.toInt32))) :: (12, (vp_nar .byte ((x >>> (24 &&& 31)).toInt8.toInt32))) :: v) 0 []), 0, 0)) rfl ?_
  refine zg_nx (y := (18, [.ref 0, .int x, .int 8], [.ref 0], (zsF 14 ((13, (vp_nar .byte ((x >>> (16 &&& 31)).toInt8.toInt32))) :: (12, (vp_nar .byte ((x >>> (24 &&& 31)).toInt8.toInt32))) :: v) 0 []), 0, 0)) rfl ?_
  refine zg_nx (y := (21, [.ref 0, .int x, .int 8], [.ref 23], (zsF 14 ((13, (vp_nar .byte ((x >>> (16 &&& 31)).toInt8.toInt32))) :: (12, (vp_nar .byte ((x >>> (24 &&& 31)).toInt8.toInt32))) :: v) 0 []), 0, 0)) rfl ?_
  refine zg_nx (y := (22, [.ref 0, .int x, .int 8], [.ref 0, .ref 23], (zsF 14 ((13, (vp_nar .byte ((x >>> (16 &&& 31)).toInt8.toInt32))) :: (12, (vp_nar .byte ((x >>> (24 &&& 31)).toInt8.toInt32))) :: v) 0 []), 0, 0)) rfl ?_
  refine zg_nx (y := (25, [.ref 0, .int x, .int 8], [.int 14, .ref 23], (zsF 14 ((13, (vp_nar .byte ((x >>> (16 &&& 31)).toInt8.toInt32))) :: (12, (vp_nar .byte ((x >>> (24 &&& 31)).toInt8.toInt32))) :: v) 0 []), 0, 0)) rfl ?_
  refine zg_nx (y := (26, [.ref 0, .int x, .int 8], [.int x, .int 14, .ref 23], (zsF 14 ((13, (vp_nar .byte ((x >>> (16 &&& 31)).toInt8.toInt32))) :: (12, (vp_nar .byte ((x >>> (24 &&& 31)).toInt8.toInt32))) :: v) 0 []), 0, 0)) rfl ?_
  refine zg_nx (y := (27, [.ref 0, .int x, .int 8], [.int 8, .int x, .int 14, .ref 23], (zsF 14 ((13, (vp_nar .byte ((x >>> (16 &&& 31)).toInt8.toInt32))) :: (12, (vp_nar .byte ((x >>> (24 &&& 31)).toInt8.toInt32))) :: v) 0 []), 0, 0)) rfl ?_
  refine zg_nx (y := (28, [.ref 0, .int x, .int 8], [.int (x >>> (8 &&& 31)), .int 14, .ref 23], (zsF 14 ((13, (vp_nar .byte ((x >>> (16 &&& 31)).toInt8.toInt32))) :: (12, (vp_nar .byte ((x >>> (24 &&& 31)).toInt8.toInt32))) :: v) 0 []), 0, 0)) rfl ?_
  refine zg_nx (y := (29, [.ref 0, .int x, .int 8], [.int ((x >>> (8 &&& 31)).toInt8.toInt32), .int 14, .ref 23], (zsF 14 ((13, (vp_nar .byte ((x >>> (16 &&& 31)).toInt8.toInt32))) :: (12, (vp_nar .byte ((x >>> (24 &&& 31)).toInt8.toInt32))) :: v) 0 []), 0, 0)) rfl ?_
  refine zg_nx (y := (30, [.ref 0, .int x, .int 8], [], (zsF 14 ((14, (vp_nar .byte ((x >>> (8 &&& 31)).toInt8.toInt32))) :: (13, (vp_nar .byte ((x >>> (16 &&& 31)).toInt8.toInt32))) :: (12, (vp_nar .byte ((x >>> (24 &&& 31)).toInt8.toInt32))) :: v) 0 []), 0, 0)) rfl ?_
  refine zg_nx (y := (31, [.ref 0, .int x, .int 8], [.ref 0], (zsF 14 ((14, (vp_nar .byte ((x >>> (8 &&& 31)).toInt8.toInt32))) :: (13, (vp_nar .byte ((x >>> (16 &&& 31)).toInt8.toInt32))) :: (12, (vp_nar .byte ((x >>> (24 &&& 31)).toInt8.toInt32))) :: v) 0 []), 0, 0)) rfl ?_
  refine zg_nx (y := (32, [.ref 0, .int x, .int 8], [.ref 0, .ref 0], (zsF 14 ((14, (vp_nar .byte ((x >>> (8 &&& 31)).toInt8.toInt32))) :: (13, (vp_nar .byte ((x >>> (16 &&& 31)).toInt8.toInt32))) :: (12, (vp_nar .byte ((x >>> (24 &&& 31)).toInt8.toInt32))) :: v) 0 []), 0, 0)) rfl ?_
  refine zg_nx (y := (35, [.ref 0, .int x, .int 8], [.int 14, .ref 0], (zsF 14 ((14, (vp_nar .byte ((x >>> (8 &&& 31)).toInt8.toInt32))) :: (13, (vp_nar .byte ((x >>> (16 &&& 31)).toInt8.toInt32))) :: (12, (vp_nar .byte ((x >>> (24 &&& 31)).toInt8.toInt32))) :: v) 0 []), 0, 0)) rfl ?_
  refine zg_nx (y := (36, [.ref 0, .int x, .int 8], [.int 1, .int 14, .ref 0], (zsF 14 ((14, (vp_nar .byte ((x >>> (8 &&& 31)).toInt8.toInt32))) :: (13, (vp_nar .byte ((x >>> (16 &&& 31)).toInt8.toInt32))) :: (12, (vp_nar .byte ((x >>> (24 &&& 31)).toInt8.toInt32))) :: v) 0 []), 0, 0)) rfl ?_
  refine zg_nx (y := (37, [.ref 0, .int x, .int 8], [.int 15, .ref 0], (zsF 14 ((14, (vp_nar .byte ((x >>> (8 &&& 31)).toInt8.toInt32))) :: (13, (vp_nar .byte ((x >>> (16 &&& 31)).toInt8.toInt32))) :: (12, (vp_nar .byte ((x >>> (24 &&& 31)).toInt8.toInt32))) :: v) 0 []), 0, 0)) rfl ?_
  refine zg_nx (y := (40, [.ref 0, .int x, .int 8], [], (zsF 15 ((14, (vp_nar .byte ((x >>> (8 &&& 31)).toInt8.toInt32))) :: (13, (vp_nar .byte ((x >>> (16 &&& 31)).toInt8.toInt32))) :: (12, (vp_nar .byte ((x >>> (24 &&& 31)).toInt8.toInt32))) :: v) 0 []), 0, 0)) rfl ?_
  refine zg_nx (y := (43, [.ref 0, .int x, .int 0], [], (zsF 15 ((14, (vp_nar .byte ((x >>> (8 &&& 31)).toInt8.toInt32))) :: (13, (vp_nar .byte ((x >>> (16 &&& 31)).toInt8.toInt32))) :: (12, (vp_nar .byte ((x >>> (24 &&& 31)).toInt8.toInt32))) :: v) 0 []), 0, 0)) rfl ?_
  refine zg_nx (y := (3, [.ref 0, .int x, .int 0], [], (zsF 15 ((14, (vp_nar .byte ((x >>> (8 &&& 31)).toInt8.toInt32))) :: (13, (vp_nar .byte ((x >>> (16 &&& 31)).toInt8.toInt32))) :: (12, (vp_nar .byte ((x >>> (24 &&& 31)).toInt8.toInt32))) :: v) 0 []), 0, 0)) rfl ?_
  refine zg_nx (y := (4, [.ref 0, .int x, .int 0], [.int 0], (zsF 15 ((14, (vp_nar .byte ((x >>> (8 &&& 31)).toInt8.toInt32))) :: (13, (vp_nar .byte ((x >>> (16 &&& 31)).toInt8.toInt32))) :: (12, (vp_nar .byte ((x >>> (24 &&& 31)).toInt8.toInt32))) :: v) 0 []), 0, 0)) rfl ?_
  refine zg_nx (y := (7, [.ref 0, .int x, .int 0], [], (zsF 15 ((14, (vp_nar .byte ((x >>> (8 &&& 31)).toInt8.toInt32))) :: (13, (vp_nar .byte ((x >>> (16 &&& 31)).toInt8.toInt32))) :: (12, (vp_nar .byte ((x >>> (24 &&& 31)).toInt8.toInt32))) :: v) 0 []), 0, 0)) rfl ?_
  refine zg_nx (y := (8, [.ref 0, .int x, .int 0], [.ref 0], (zsF 15 ((14, (vp_nar .byte ((x >>> (8 &&& 31)).toInt8.toInt32))) :: (13, (vp_nar .byte ((x >>> (16 &&& 31)).toInt8.toInt32))) :: (12, (vp_nar .byte ((x >>> (24 &&& 31)).toInt8.toInt32))) :: v) 0 []), 0, 0)) rfl ?_
  refine zg_nx (y := (11, [.ref 0, .int x, .int 0], [.int 15], (zsF 15 ((14, (vp_nar .byte ((x >>> (8 &&& 31)).toInt8.toInt32))) :: (13, (vp_nar .byte ((x >>> (16 &&& 31)).toInt8.toInt32))) :: (12, (vp_nar .byte ((x >>> (24 &&& 31)).toInt8.toInt32))) :: v) 0 []), 0, 0)) rfl ?_
  refine zg_nx (y := (14, [.ref 0, .int x, .int 0], [.int 8000, .int 15], (zsF 15 ((14, (vp_nar .byte ((x >>> (8 &&& 31)).toInt8.toInt32))) :: (13, (vp_nar .byte ((x >>> (16 &&& 31)).toInt8.toInt32))) :: (12, (vp_nar .byte ((x >>> (24 &&& 31)).toInt8.toInt32))) :: v) 0 []), 0, 0)) rfl ?_
  refine zg_nx (y := (17, [.ref 0, .int x, .int 0], [], (zsF 15 ((14, (vp_nar .byte ((x >>> (8 &&& 31)).toInt8.toInt32))) :: (13, (vp_nar .byte ((x >>> (16 &&& 31)).toInt8.toInt32))) :: (12, (vp_nar .byte ((x >>> (24 &&& 31)).toInt8.toInt32))) :: v) 0 []), 0, 0)) rfl ?_
  refine zg_nx (y := (18, [.ref 0, .int x, .int 0], [.ref 0], (zsF 15 ((14, (vp_nar .byte ((x >>> (8 &&& 31)).toInt8.toInt32))) :: (13, (vp_nar .byte ((x >>> (16 &&& 31)).toInt8.toInt32))) :: (12, (vp_nar .byte ((x >>> (24 &&& 31)).toInt8.toInt32))) :: v) 0 []), 0, 0)) rfl ?_
  refine zg_nx (y := (21, [.ref 0, .int x, .int 0], [.ref 23], (zsF 15 ((14, (vp_nar .byte ((x >>> (8 &&& 31)).toInt8.toInt32))) :: (13, (vp_nar .byte ((x >>> (16 &&& 31)).toInt8.toInt32))) :: (12, (vp_nar .byte ((x >>> (24 &&& 31)).toInt8.toInt32))) :: v) 0 []), 0, 0)) rfl ?_
  refine zg_nx (y := (22, [.ref 0, .int x, .int 0], [.ref 0, .ref 23], (zsF 15 ((14, (vp_nar .byte ((x >>> (8 &&& 31)).toInt8.toInt32))) :: (13, (vp_nar .byte ((x >>> (16 &&& 31)).toInt8.toInt32))) :: (12, (vp_nar .byte ((x >>> (24 &&& 31)).toInt8.toInt32))) :: v) 0 []), 0, 0)) rfl ?_
  refine zg_nx (y := (25, [.ref 0, .int x, .int 0], [.int 15, .ref 23], (zsF 15 ((14, (vp_nar .byte ((x >>> (8 &&& 31)).toInt8.toInt32))) :: (13, (vp_nar .byte ((x >>> (16 &&& 31)).toInt8.toInt32))) :: (12, (vp_nar .byte ((x >>> (24 &&& 31)).toInt8.toInt32))) :: v) 0 []), 0, 0)) rfl ?_
  refine zg_nx (y := (26, [.ref 0, .int x, .int 0], [.int x, .int 15, .ref 23], (zsF 15 ((14, (vp_nar .byte ((x >>> (8 &&& 31)).toInt8.toInt32))) :: (13, (vp_nar .byte ((x >>> (16 &&& 31)).toInt8.toInt32))) :: (12, (vp_nar .byte ((x >>> (24 &&& 31)).toInt8.toInt32))) :: v) 0 []), 0, 0)) rfl ?_
  refine zg_nx (y := (27, [.ref 0, .int x, .int 0], [.int 0, .int x, .int 15, .ref 23], (zsF 15 ((14, (vp_nar .byte ((x >>> (8 &&& 31)).toInt8.toInt32))) :: (13, (vp_nar .byte ((x >>> (16 &&& 31)).toInt8.toInt32))) :: (12, (vp_nar .byte ((x >>> (24 &&& 31)).toInt8.toInt32))) :: v) 0 []), 0, 0)) rfl ?_
  refine zg_nx (y := (28, [.ref 0, .int x, .int 0], [.int (x >>> (0 &&& 31)), .int 15, .ref 23], (zsF 15 ((14, (vp_nar .byte ((x >>> (8 &&& 31)).toInt8.toInt32))) :: (13, (vp_nar .byte ((x >>> (16 &&& 31)).toInt8.toInt32))) :: (12, (vp_nar .byte ((x >>> (24 &&& 31)).toInt8.toInt32))) :: v) 0 []), 0, 0)) rfl ?_
  refine zg_nx (y := (29, [.ref 0, .int x, .int 0], [.int ((x >>> (0 &&& 31)).toInt8.toInt32), .int 15, .ref 23], (zsF 15 ((14, (vp_nar .byte ((x >>> (8 &&& 31)).toInt8.toInt32))) :: (13, (vp_nar .byte ((x >>> (16 &&& 31)).toInt8.toInt32))) :: (12, (vp_nar .byte ((x >>> (24 &&& 31)).toInt8.toInt32))) :: v) 0 []), 0, 0)) rfl ?_
  refine zg_nx (y := (30, [.ref 0, .int x, .int 0], [], (zsF 15 ((15, (vp_nar .byte ((x >>> (0 &&& 31)).toInt8.toInt32))) :: (14, (vp_nar .byte ((x >>> (8 &&& 31)).toInt8.toInt32))) :: (13, (vp_nar .byte ((x >>> (16 &&& 31)).toInt8.toInt32))) :: (12, (vp_nar .byte ((x >>> (24 &&& 31)).toInt8.toInt32))) :: v) 0 []), 0, 0)) rfl ?_
  refine zg_nx (y := (31, [.ref 0, .int x, .int 0], [.ref 0], (zsF 15 ((15, (vp_nar .byte ((x >>> (0 &&& 31)).toInt8.toInt32))) :: (14, (vp_nar .byte ((x >>> (8 &&& 31)).toInt8.toInt32))) :: (13, (vp_nar .byte ((x >>> (16 &&& 31)).toInt8.toInt32))) :: (12, (vp_nar .byte ((x >>> (24 &&& 31)).toInt8.toInt32))) :: v) 0 []), 0, 0)) rfl ?_
  refine zg_nx (y := (32, [.ref 0, .int x, .int 0], [.ref 0, .ref 0], (zsF 15 ((15, (vp_nar .byte ((x >>> (0 &&& 31)).toInt8.toInt32))) :: (14, (vp_nar .byte ((x >>> (8 &&& 31)).toInt8.toInt32))) :: (13, (vp_nar .byte ((x >>> (16 &&& 31)).toInt8.toInt32))) :: (12, (vp_nar .byte ((x >>> (24 &&& 31)).toInt8.toInt32))) :: v) 0 []), 0, 0)) rfl ?_
  refine zg_nx (y := (35, [.ref 0, .int x, .int 0], [.int 15, .ref 0], (zsF 15 ((15, (vp_nar .byte ((x >>> (0 &&& 31)).toInt8.toInt32))) :: (14, (vp_nar .byte ((x >>> (8 &&& 31)).toInt8.toInt32))) :: (13, (vp_nar .byte ((x >>> (16 &&& 31)).toInt8.toInt32))) :: (12, (vp_nar .byte ((x >>> (24 &&& 31)).toInt8.toInt32))) :: v) 0 []), 0, 0)) rfl ?_
  refine zg_nx (y := (36, [.ref 0, .int x, .int 0], [.int 1, .int 15, .ref 0], (zsF 15 ((15, (vp_nar .byte ((x >>> (0 &&& 31)).toInt8.toInt32))) :: (14, (vp_nar .byte ((x >>> (8 &&& 31)).toInt8.toInt32))) :: (13, (vp_nar .byte ((x >>> (16 &&& 31)).toInt8.toInt32))) :: (12, (vp_nar .byte ((x >>> (24 &&& 31)).toInt8.toInt32))) :: v) 0 []), 0, 0)) rfl ?_
  refine zg_nx (y := (37, [.ref 0, .int x, .int 0], [.int 16, .ref 0], (zsF 15 ((15, (vp_nar .byte ((x >>> (0 &&& 31)).toInt8.toInt32))) :: (14, (vp_nar .byte ((x >>> (8 &&& 31)).toInt8.toInt32))) :: (13, (vp_nar .byte ((x >>> (16 &&& 31)).toInt8.toInt32))) :: (12, (vp_nar .byte ((x >>> (24 &&& 31)).toInt8.toInt32))) :: v) 0 []), 0, 0)) rfl ?_
  refine zg_nx (y := (40, [.ref 0, .int x, .int 0], [], (zsF 16 ((15, (vp_nar .byte ((x >>> (0 &&& 31)).toInt8.toInt32))) :: (14, (vp_nar .byte ((x >>> (8 &&& 31)).toInt8.toInt32))) :: (13, (vp_nar .byte ((x >>> (16 &&& 31)).toInt8.toInt32))) :: (12, (vp_nar .byte ((x >>> (24 &&& 31)).toInt8.toInt32))) :: v) 0 []), 0, 0)) rfl ?_
  refine zg_nx (y := (43, [.ref 0, .int x, .int (-8)], [], (zsF 16 ((15, (vp_nar .byte ((x >>> (0 &&& 31)).toInt8.toInt32))) :: (14, (vp_nar .byte ((x >>> (8 &&& 31)).toInt8.toInt32))) :: (13, (vp_nar .byte ((x >>> (16 &&& 31)).toInt8.toInt32))) :: (12, (vp_nar .byte ((x >>> (24 &&& 31)).toInt8.toInt32))) :: v) 0 []), 0, 0)) rfl ?_
  refine zg_nx (y := (3, [.ref 0, .int x, .int (-8)], [], (zsF 16 ((15, (vp_nar .byte ((x >>> (0 &&& 31)).toInt8.toInt32))) :: (14, (vp_nar .byte ((x >>> (8 &&& 31)).toInt8.toInt32))) :: (13, (vp_nar .byte ((x >>> (16 &&& 31)).toInt8.toInt32))) :: (12, (vp_nar .byte ((x >>> (24 &&& 31)).toInt8.toInt32))) :: v) 0 []), 0, 0)) rfl ?_
  refine zg_nx (y := (4, [.ref 0, .int x, .int (-8)], [.int (-8)], (zsF 16 ((15, (vp_nar .byte ((x >>> (0 &&& 31)).toInt8.toInt32))) :: (14, (vp_nar .byte ((x >>> (8 &&& 31)).toInt8.toInt32))) :: (13, (vp_nar .byte ((x >>> (16 &&& 31)).toInt8.toInt32))) :: (12, (vp_nar .byte ((x >>> (24 &&& 31)).toInt8.toInt32))) :: v) 0 []), 0, 0)) rfl ?_
  refine zg_nx (y := (46, [.ref 0, .int x, .int (-8)], [], (zsF 16 ((15, (vp_nar .byte ((x >>> (0 &&& 31)).toInt8.toInt32))) :: (14, (vp_nar .byte ((x >>> (8 &&& 31)).toInt8.toInt32))) :: (13, (vp_nar .byte ((x >>> (16 &&& 31)).toInt8.toInt32))) :: (12, (vp_nar .byte ((x >>> (24 &&& 31)).toInt8.toInt32))) :: v) 0 []), 0, 0)) rfl ?_
  exact zg_ret rfl

/-- DesignReader.appendFour -/
theorem za_16 {x : Int32} {v : List (Nat × Int32)} : zrun 20000 7 15 [.ref 0, .int x] (zsF 16 v 0 []) = some (none, (zsF 20 ((19, (vp_nar .byte ((x >>> (0 &&& 31)).toInt8.toInt32))) :: (18, (vp_nar .byte ((x >>> (8 &&& 31)).toInt8.toInt32))) :: (17, (vp_nar .byte ((x >>> (16 &&& 31)).toInt8.toInt32))) :: (16, (vp_nar .byte ((x >>> (24 &&& 31)).toInt8.toInt32))) :: v) 0 [])) := by
  refine zr_of (m := zm_D_appendFour) rfl (Nat.le_of_ble_eq_true rfl) ?_
  show zgo _ _ _ (0, [.ref 0, .int x, zu], [], (zsF 16 v 0 []), 0, 0) = _
  refine zg_nx (y := (2, [.ref 0, .int x, zu], [.int 24], (zsF 16 v 0 []), 0, 0)) rfl ?_
  refine zg_nx (y := (3, [.ref 0, .int x, .int 24], [], (zsF 16 v 0 []), 0, 0)) rfl ?_
  refine zg_nx (y := (4, [.ref 0, .int x, .int 24], [.int 24], (zsF 16 v 0 []), 0, 0)) rfl ?_
  refine zg_nx (y := (7, [.ref 0, .int x, .int 24], [], (zsF 16 v 0 []), 0, 0)) rfl ?_
  refine zg_nx (y := (8, [.ref 0, .int x, .int 24], [.ref 0], (zsF 16 v 0 []), 0, 0)) rfl ?_
  refine zg_nx (y := (11, [.ref 0, .int x, .int 24], [.int 16], (zsF 16 v 0 []), 0, 0)) rfl ?_
  refine zg_nx (y := (14, [.ref 0, .int x, .int 24], [.int 8000, .int 16], (zsF 16 v 0 []), 0, 0)) rfl ?_
  refine zg_nx (y := (17, [.ref 0, .int x, .int 24], [], (zsF 16 v 0 []), 0, 0)) rfl ?_
  refine zg_nx (y := (18, [.ref 0, .int x, .int 24], [.ref 0], (zsF 16 v 0 []), 0, 0)) rfl ?_
  refine zg_nx (y := (21, [.ref 0, .int x, .int 24], [.ref 23], (zsF 16 v 0 []), 0, 0)) rfl ?_
  refine zg_nx (y := (22, [.ref 0, .int x, .int 24], [.ref 0, .ref 23], (zsF 16 v 0 []), 0, 0)) rfl ?_
  refine zg_nx (y := (25, [.ref 0, .int x, .int 24], [.int 16, .ref 23], (zsF 16 v 0 []), 0, 0)) rfl ?_
  refine zg_nx (y := (26, [.ref 0, .int x, .int 24], [.int x, .int 16, .ref 23], (zsF 16 v 0 []), 0, 0)) rfl ?_
  refine zg_nx (y := (27, [.ref 0, .int x, .int 24], [.int 24, .int x, .int 16, .ref 23], (zsF 16 v 0 []), 0, 0)) rfl ?_
  refine zg_nx (y := (28, [.ref 0, .int x, .int 24], [.int (x >>> (24 &&& 31)), .int 16, .ref 23], (zsF 16 v 0 []), 0, 0)) rfl ?_
  refine zg_nx (y := (29, [.ref 0, .int x, .int 24], [.int ((x >>> (24 &&& 31)).toInt8.toInt32), .int 16, .ref 23], (zsF 16 v 0 []), 0, 0)) rfl ?_
  refine zg_nx (y := (30, [.ref 0, .int x, .int 24], [], (zsF 16 ((16, (vp_nar .byte ((x >>> (24 &&& 31)).toInt8.toInt32))) :: v) 0 []), 0, 0)) rfl ?_
  refine zg_nx (y := (31, [.ref 0, .int x, .int 24], [.ref 0], (zsF 16 ((16, (vp_nar .byte ((x >>> (24 &&& 31)).toInt8.toInt32))) :: v) 0 []), 0, 0)) rfl ?_
  refine zg_nx (y := (32, [.ref 0, .int x, .int 24], [.ref 0, .ref 0], (zsF 16 ((16, (vp_nar .byte ((x >>> (24 &&& 31)).toInt8.toInt32))) :: v) 0 []), 0, 0)) rfl ?_
  refine zg_nx (y := (35, [.ref 0, .int x, .int 24], [.int 16, .ref 0], (zsF 16 ((16, (vp_nar .byte ((x >>> (24 &&& 31)).toInt8.toInt32))) :: v) 0 []), 0, 0)) rfl ?_
  refine zg_nx (y := (36, [.ref 0, .int x, .int 24], [.int 1, .int 16, .ref 0], (zsF 16 ((16, (vp_nar .byte ((x >>> (24 &&& 31)).toInt8.toInt32))) :: v) 0 []), 0, 0)) rfl ?_
  refine zg_nx (y := (37, [.ref 0, .int x, .int 24], [.int 17, .ref 0], (zsF 16 ((16, (vp_nar .byte ((x >>> (24 &&& 31)).toInt8.toInt32))) :: v) 0 []), 0, 0)) rfl ?_
  refine zg_nx (y := (40, [.ref 0, .int x, .int 24], [], (zsF 17 ((16, (vp_nar .byte ((x >>> (24 &&& 31)).toInt8.toInt32))) :: v) 0 []), 0, 0)) rfl ?_
  refine zg_nx (y := (43, [.ref 0, .int x, .int 16], [], (zsF 17 ((16, (vp_nar .byte ((x >>> (24 &&& 31)).toInt8.toInt32))) :: v) 0 []), 0, 0)) rfl ?_
  refine zg_nx (y := (3, [.ref 0, .int x, .int 16], [], (zsF 17 ((16, (vp_nar .byte ((x >>> (24 &&& 31)).toInt8.toInt32))) :: v) 0 []), 0, 0)) rfl ?_
  refine zg_nx (y := (4, [.ref 0, .int x, .int 16], [.int 16], (zsF 17 ((16, (vp_nar .byte ((x >>> (24 &&& 31)).toInt8.toInt32))) :: v) 0 []), 0, 0)) rfl ?_
  refine zg_nx (y := (7, [.ref 0, .int x, .int 16], [], (zsF 17 ((16, (vp_nar .byte ((x >>> (24 &&& 31)).toInt8.toInt32))) :: v) 0 []), 0, 0)) rfl ?_
  refine zg_nx (y := (8, [.ref 0, .int x, .int 16], [.ref 0], (zsF 17 ((16, (vp_nar .byte ((x >>> (24 &&& 31)).toInt8.toInt32))) :: v) 0 []), 0, 0)) rfl ?_
  refine zg_nx (y := (11, [.ref 0, .int x, .int 16], [.int 17], (zsF 17 ((16, (vp_nar .byte ((x >>> (24 &&& 31)).toInt8.toInt32))) :: v) 0 []), 0, 0)) rfl ?_
  refine zg_nx (y := (14, [.ref 0, .int x, .int 16], [.int 8000, .int 17], (zsF 17 ((16, (vp_nar .byte ((x >>> (24 &&& 31)).toInt8.toInt32))) :: v) 0 []), 0, 0)) rfl ?_
  refine zg_nx (y := (17, [.ref 0, .int x, .int 16], [], (zsF 17 ((16, (vp_nar .byte ((x >>> (24 &&& 31)).toInt8.toInt32))) :: v) 0 []), 0, 0)) rfl ?_
  refine zg_nx (y := (18, [.ref 0, .int x, .int 16], [.ref 0], (zsF 17 ((16, (vp_nar .byte ((x >>> (24 &&& 31)).toInt8.toInt32))) :: v) 0 []), 0, 0)) rfl ?_
  refine zg_nx (y := (21, [.ref 0, .int x, .int 16], [.ref 23], (zsF 17 ((16, (vp_nar .byte ((x >>> (24 &&& 31)).toInt8.toInt32))) :: v) 0 []), 0, 0)) rfl ?_
  refine zg_nx (y := (22, [.ref 0, .int x, .int 16], [.ref 0, .ref 23], (zsF 17 ((16, (vp_nar .byte ((x >>> (24 &&& 31)).toInt8.toInt32))) :: v) 0 []), 0, 0)) rfl ?_
  refine zg_nx (y := (25, [.ref 0, .int x, .int 16], [.int 17, .ref 23], (zsF 17 ((16, (vp_nar .byte ((x >>> (24 &&& 31)).toInt8.toInt32))) :: v) 0 []), 0, 0)) rfl ?_
  refine zg_nx (y := (26, [.ref 0, .int x, .int 16], [.int x, .int 17, .ref 23], (zsF 17 ((16, (vp_nar .byte ((x >>> (24 &&& 31)).toInt8.toInt32))) :: v) 0 []), 0, 0)) rfl ?_
  refine zg_nx (y := (27, [.ref 0, .int x, .int 16], [.int 16, .int x, .int 17, .ref 23], (zsF 17 ((16, (vp_nar .byte ((x >>> (24 &&& 31)).toInt8.toInt32))) :: v) 0 []), 0, 0)) rfl ?_
  refine zg_nx (y := (28, [.ref 0, .int x, .int 16], [.int (x >>> (16 &&& 31)), .int 17, .ref 23], (zsF 17 ((16, (vp_nar .byte ((x >>> (24 &&& 31)).toInt8.toInt32))) :: v) 0 []), 0, 0)) rfl ?_
  refine zg_nx (y := (29, [.ref 0, .int x, .int 16], [.int ((x >>> (16 &&& 31)).toInt8.toInt32), .int 17, .ref 23], (zsF 17 ((16, (vp_nar .byte ((x >>> (24 &&& 31)).toInt8.toInt32))) :: v) 0 []), 0, 0)) rfl ?_
  refine zg_nx (y := (30, [.ref 0, .int x, .int 16], [], (zsF 17 ((17, (vp_nar .byte ((x >>> (16 &&& 31)).toInt8.toInt32))) :: (16, (vp_nar .byte ((x >>> (24 &&& 31)).toInt8.toInt32))) :: v) 0 []), 0, 0)) rfl ?_
  refine zg_nx (y := (31, [.ref 0, .int x, .int 16], [.ref 0], (zsF 17 ((17, (vp_nar .byte ((x >>> (16 &&& 31)).toInt8.toInt32))) :: (16, (vp_nar .byte ((x >>> (24 &&& 31)).toInt8.toInt32))) :: v) 0 []), 0, 0)) rfl ?_
  refine zg_nx (y := (32, [.ref 0, .int x, .int 16], [.ref 0, .ref 0], (zsF 17 ((17, (vp_nar .byte ((x >>> (16 &&& 31)).toInt8.toInt32))) :: (16, (vp_nar .byte ((x >>> (24 &&& 31)).toInt8.toInt32))) :: v) 0 []), 0, 0)) rfl ?_
  refine zg_nx (y := (35, [.ref 0, .int x, .int 16], [.int 17, .ref 0], (zsF 17 ((17, (vp_nar .byte ((x >>> (16 &&& 31)).toInt8.toInt32))) :: (16, (vp_nar .byte ((x >>> (24 &&& 31)).toInt8.toInt32))) :: v) 0 []), 0, 0)) rfl ?_
  refine zg_nx (y := (36, [.ref 0, .int x, .int 16], [.int 1, .int 17, .ref 0], (zsF 17 ((17, (vp_nar .byte ((x >>> (16 &&& 31)).toInt8.toInt32))) :: (16, (vp_nar .byte ((x >>> (24 &&& 31)).toInt8.toInt32))) :: v) 0 []), 0, 0)) rfl ?_
  refine zg_nx (y := (37, [.ref 0, .int x, .int 16], [.int 18, .ref 0], (zsF 17 ((17, (vp_nar .byte ((x >>> (16 &&& 31)).toInt8.toInt32))) :: (16, (vp_nar .byte ((x >>> (24 &&& 31)).toInt8.toInt32))) :: v) 0 []), 0, 0)) rfl ?_
  refine zg_nx (y := (40, [.ref 0, .int x, .int 16], [], (zsF 18 ((17, (vp_nar .byte ((x >>> (16 &&& 31)).toInt8.toInt32))) :: (16, (vp_nar .byte ((x >>> (24 &&& 31)).toInt8.toInt32))) :: v) 0 []), 0, 0)) rfl ?_
  refine zg_nx (y := (43, [.ref 0, .int x, .int 8], [], (zsF 18 ((17, (vp_nar .byte ((x >>> (16 &&& 31)).toInt8.toInt32))) :: (16, (vp_nar .byte ((x >>> (24 &&& 31)).toInt8.toInt32))) :: v) 0 []), 0, 0)) rfl ?_
  refine zg_nx (y := (3, [.ref 0, .int x, .int 8], [], (zsF 18 ((17, (vp_nar .byte ((x >>> (16 &&& 31)).toInt8.toInt32))) :: (16, (vp_nar .byte ((x >>> (24 &&& 31)).toInt8.toInt32))) :: v) 0 []), 0, 0)) rfl ?_
  refine zg_nx (y := (4, [.ref 0, .int x, .int 8], [.int 8], (zsF 18 ((17, (vp_nar .byte ((x >>> (16 &&& 31)).toInt8.toInt32))) :: (16, (vp_nar .byte ((x >>> (24 &&& 31)).toInt8.toInt32))) :: v) 0 []), 0, 0)) rfl ?_
  refine zg_nx (y := (7, [.ref 0, .int x, .int 8], [], (zsF 18 ((17, (vp_nar .byte ((x >>> (16 &&& 31)).toInt8.toInt32))) :: (16, (vp_nar .byte ((x >>> (24 &&& 31)).toInt8.toInt32))) :: v) 0 []), 0, 0)) rfl ?_
  refine zg_nx (y := (8, [.ref 0, .int x, .int 8], [.ref 0], (zsF 18 ((17, (vp_nar .byte ((x >>> (16 &&& 31)).toInt8.toInt32))) :: (16, (vp_nar .byte ((x >>> (24 &&& 31)).toInt8.toInt32))) :: v) 0 []), 0, 0)) rfl ?_
  refine zg_nx (y := (11, [.ref 0, .int x, .int 8], [.int 18], (zsF 18 ((17, (vp_nar .byte ((x >>> (16 &&& 31)).toInt8.toInt32))) :: (16, (vp_nar .byte ((x >>> (24 &&& 31)).toInt8.toInt32))) :: v) 0 []), 0, 0)) rfl ?_
  refine zg_nx (y := (14, [.ref 0, .int x, .int 8], [.int 8000, .int 18], (zsF 18 ((17, (vp_nar .byte ((x >>> (16 &&& 31)).toInt8.toInt32))) :: (16, (vp_nar .byte ((x >>> (24 &&& 31)).toInt8.toInt32))) :: v) 0 []), 0, 0)) rfl ?_
  refine zg_nx (y := (17, [.ref 0, .int x, .int 8], [], (zsF 18 ((17, (vp_nar .byte ((x >>> (16 &&& 31)).toInt8.toInt32))) :: (16, (vp_nar .byte ((x >>> (24 &&& 31)).toInt8.toInt32))) :: v) 0 []), 0, 0)) rfl ?_
  refine zg_nx (y := (18, [.ref 0, .int x, .int 8], [.ref 0], (zsF 18 ((17, (vp_nar .byte ((x >>> (16 &&& 31)).toInt8.toInt32))) :: (16, (vp_nar .byte ((x >>> (24 &&& 31)).toInt8.toInt32))) :: v) 0 []), 0, 0)) rfl ?_
  refine zg_nx (y := (21, [.ref 0, .int x, .int 8], [.ref 23], (zsF 18 ((17, (vp_nar .byte ((x >>> (16 &&& 31)).toInt8.toInt32))) :: (16, (vp_nar .byte ((x >>> (24 &&& 31)).toInt8.toInt32))) :: v) 0 []), 0, 0)) rfl ?_
  refine zg_nx (y := (22, [.ref 0, .int x, .int 8], [.ref 0, .ref 23], (zsF 18 ((17, (vp_nar .byte ((x >>> (16 &&& 31)).toInt8.toInt32))) :: (16, (vp_nar .byte ((x >>> (24 &&& 31)).toInt8.toInt32))) :: v) 0 []), 0, 0)) rfl ?_
  refine zg_nx (y := (25, [.ref 0, .int x, .int 8], [.int 18, .ref 23], (zsF 18 ((17, (vp_nar .byte ((x >>> (16 &&& 31)).toInt8.toInt32))) :: (16, (vp_nar .byte ((x >>> (24 &&& 31)).toInt8.toInt32))) :: v) 0 []), 0, 0)) rfl ?_
  refine zg_nx (y := (26, [.ref 0, .int x, .int 8], [.int x, .int 18, .ref 23], (zsF 18 ((17, (vp_nar .byte ((x >>> (16 &&& 31)).toInt8.toInt32))) :: (16, (vp_nar .byte ((x >>> (24 &&& 31)).toInt8.toInt32))) :: v) 0 []), 0, 0)) rfl ?_
  refine zg_nx (y := (27, [.ref 0, .int x, .int 8], [.int 8, .int x, .int 18, .ref 23], (zsF 18 ((17, (vp_nar .byte ((x >>> (16 &&& 31)).toInt8.toInt32))) :: (16, (vp_nar .byte ((x >>> (24 &&& 31)).toInt8.toInt32))) :: v) 0 []), 0, 0)) rfl ?_
  refine zg_nx (y := (28, [.ref 0, .int x, .int 8], [.int (x >>> (8 &&& 31)), .int 18, .ref 23], (zsF 18 ((17, (vp_nar .byte ((x >>> (16 &&& 31)).toInt8.toInt32))) :: (16, (vp_nar .byte ((x >>> (24 &&& 31)).toInt8.toInt32))) :: v) 0 []), 0, 0)) rfl ?_
  refine zg_nx (y := (29, [.ref 0, .int x, .int 8], [.int ((x >>> (8 &&& 31)).toInt8.toInt32), .int 18, .ref 23], (zsF 18 ((17, (vp_nar .byte ((x >>> (16 &&& 31)).toInt8.toInt32))) :: (16, (vp_nar .byte ((x >>> (24 &&& 31)).toInt8.toInt32))) :: v) 0 []), 0, 0)) rfl ?_
  refine zg_nx (y := (30, [.ref 0, .int x, .int 8], [], (zsF 18 ((18, (vp_nar .byte ((x >>> (8 &&& 31)).toInt8.toInt32))) :: (17, (vp_nar .byte ((x >>> (16 &&& 31)).toInt8.toInt32))) :: (16, (vp_nar .byte ((x >>> (24 &&& 31)).toInt8.toInt32))) :: v) 0 []), 0, 0)) rfl ?_
  refine zg_nx (y := (31, [.ref 0, .int x, .int 8], [.ref 0], (zsF 18 ((18, (vp_nar .byte ((x >>> (8 &&& 31)).toInt8.toInt32))) :: (17, (vp_nar .byte ((x >>> (16 &&& 31)).toInt8.toInt32))) :: (16, (vp_nar .byte ((x >>> (24 &&& 31)).toInt8.toInt32))) :: v) 0 []), 0, 0)) rfl ?_
  refine zg_nx (y := (32, [.ref 0, .int x, .int 8], [.ref 0, .ref 0], (zsF 18 ((18, (vp_nar .byte ((x >>> (8 &&& 31)).toInt8.toInt32))) :: (17, (vp_nar .byte ((x >>> (16 &&& 31)).toInt8.toInt32))) :: (16, (vp_nar .byte ((x >>> (24 &&& 31)).toInt8.toInt32))) :: v) 0 []), 0, 0)) rfl ?_
  refine zg_nx (y := (35, [.ref 0, .int x, .int 8], [.int 18, .ref 0], (zsF 18 ((18, (vp_nar .byte ((x >>> (8 &&& 31)).toInt8.toInt32))) :: (17, (vp_nar .byte ((x >>> (16 &&& 31)).toInt8.toInt32))) :: (16, (vp_nar .byte ((x >>> (24 &&& 31)).toInt8.toInt32))) :: v) 0 []), 0, 0)) rfl ?_
  refine zg_nx (y := (36, [.ref 0, .int x, .int 8], [.int 1, .int 18, .ref 0], (zsF 18 ((18, (vp_nar .byte ((x >>> (8 &&& 31)).toInt8.toInt32))) :: (17, (vp_nar .byte ((x >>> (16 &&& 31)).toInt8.toInt32))) :: (16, (vp_nar .byte ((x >>> (24 &&& 31)).toInt8.toInt32))) :: v) 0 []), 0, 0)) rfl ?_
  refine zg_nx (y := (37, [.ref 0, .int x, .int 8], [.int 19, .ref 0], (zsF 18 ((18, (vp_nar .byte ((x >>> (8 &&& 31)).toInt8.toInt32))) :: (17, (vp_nar .byte ((x >>> (16 &&& 31)).toInt8.toInt32))) :: (16, (vp_nar .byte ((x >>> (24 &&& 31)).toInt8.toInt32))) :: v) 0 []), 0, 0)) rfl ?_
  refine zg_nx (y := (40, [.ref 0, .int x, .int 8], [], (zsF 19 ((18, (vp_nar .byte ((x >>> (8 &&& 31)).toInt8.toInt32))) :: (17, (vp_nar .byte ((x >>> (16 &&& 31)).toInt8.toInt32))) :: (16, (vp_nar .byte ((x >>> (24 &&& 31)).toInt8.toInt32))) :: v) 0 []), 0, 0)) rfl ?_
  refine zg_nx (y := (43, [.ref 0, .int x, .int 0], [], (zsF 19 ((18, (vp_nar .byte ((x >>> (8 &&& 31)).toInt8.toInt32))) :: (17, (vp_nar .byte ((x >>> (16 &&& 31)).toInt8.toInt32))) :: (16, (vp_nar .byte ((x >>> (24 &&& 31)).toInt8.toInt32))) :: v) 0 []), 0, 0)) rfl ?_
  refine zg_nx (y := (3, [.ref 0, .int x, .int 0], [], (zsF 19 ((18, (vp_nar .byte ((x >>> (8 &&& 31)).toInt8.toInt32))) :: (17, (vp_nar .byte ((x >>> (16 &&& 31)).toInt8.toInt32))) :: (16, (vp_nar .byte ((x >>> (24 &&& 31)).toInt8.toInt32))) :: v) 0 []), 0, 0)) rfl ?_
  refine zg_nx (y := (4, [.ref 0, .int x, .int 0], [.int 0], (zsF 19 ((18, (vp_nar .byte ((x >>> (8 &&& 31)).toInt8.toInt32))) :: (17, (vp_nar .byte ((x >>> (16 &&& 31)).toInt8.toInt32))) :: (16, (vp_nar .byte ((x >>> (24 &&& 31)).toInt8.toInt32))) :: v) 0 []), 0, 0)) rfl ?_
  refine zg_nx (y := (7, [.ref 0, .int x, .int 0], [], (zsF 19 ((18, (vp_nar .byte ((x >>> (8 &&& 31)).toInt8.toInt32))) :: (17, (vp_nar .byte ((x >>> (16 &&& 31)).toInt8.toInt32))) :: (16, (vp_nar .byte ((x >>> (24 &&& 31)).toInt8.toInt32))) :: v) 0 []), 0, 0)) rfl ?_
  refine zg_nx (y := (8, [.ref 0, .int x, .int 0], [.ref 0], (zsF 19 ((18, (vp_nar .byte ((x >>> (8 &&& 31)).toInt8.toInt32))) :: (17, (vp_nar .byte ((x >>> (16 &&& 31)).toInt8.toInt32))) :: (16, (vp_nar .byte ((x >>> (24 &&& 31)).toInt8.toInt32))) :: v) 0 []), 0, 0)) rfl ?_
  refine zg_nx (y := (11, [.ref 0, .int x, .int 0], [.int 19], (zsF 19 ((18, (vp_nar .byte ((x >>> (8 &&& 31)).toInt8.toInt32))) :: (17, (vp_nar .byte ((x >>> (16 &&& 31)).toInt8.toInt32))) :: (16, (vp_nar .byte ((x >>> (24 &&& 31)).toInt8.toInt32))) :: v) 0 []), 0, 0)) rfl ?_
  refine zg_nx (y := (14, [.ref 0, .int x, .int 0], [.int 8000, .int 19], (zsF 19 ((18, (vp_nar .byte ((x >>> (8 &&& 31)).toInt8.toInt32))) :: (17, (vp_nar .byte ((x >>> (16 &&& 31)).toInt8.toInt32))) :: (16, (vp_nar .byte ((x >>> (24 &&& 31)).toInt8.toInt32))) :: v) 0 []), 0, 0)) rfl ?_
  refine zg_nx (y := (17, [.ref 0, .int x, .int 0], [], (zsF 19 ((18, (vp_nar .byte ((x >>> (8 &&& 31)).toInt8.toInt32))) :: (17, (vp_nar .byte ((x >>> (16 &&& 31)).toInt8.toInt32))) :: (16, (vp_nar .byte ((x >>> (24 &&& 31)).toInt8.toInt32))) :: v) 0 []), 0, 0)) rfl ?_
  refine zg_nx (y := (18, [.ref 0, .int x, .int 0], [.ref 0], (zsF 19 ((18, (vp_nar .byte ((x >>> (8 &&& 31)).toInt8.toInt32))) :: (17, (vp_nar .byte ((x >>> (16 &&& 31)).toInt8.toInt32))) :: (16, (vp_nar .byte ((x >>> (24 &&& 31)).toInt8.toInt32))) :: v) 0 []), 0, 0)) rfl ?_
  refine zg_nx (y := (21, [.ref 0, .int x, .int 0], [.ref 23], (zsF 19 ((18, (vp_nar .byte ((x >>> (8 &&& 31)).toInt8.toInt32))) :: (17, (vp_nar .byte ((x >>> (16 &&& 31)).toInt8.toInt32))) :: (16, (vp_nar .byte ((x >>> (24 &&& 31)).toInt8.toInt32))) :: v) 0 []), 0, 0)) rfl ?_
  refine zg_nx (y := (22, [.ref 0, .int x, .int 0], [.ref 0, .ref 23], (zsF 19 ((18, (vp_nar .byte ((x >>> (8 &&& 31)).toInt8.toInt32))) :: (17, (vp_nar .byte ((x >>> (16 &&& 31)).toInt8.toInt32))) :: (16, (vp_nar .byte ((x >>> (24 &&& 31)).toInt8.toInt32))) :: v) 0 []), 0, 0)) rfl ?_
  refine zg_nx (y := (25, [.ref 0, .int x, .int 0], [.int 19, .ref 23], (zsF 19 ((18, (vp_nar .byte ((x >>> (8 &&& 31)).toInt8.toInt32))) :: (17, (vp_nar .byte ((x >>> (16 &&& 31)).toInt8.toInt32))) :: (16, (vp_nar .byte ((x >>> (24 &&& 31)).toInt8.toInt32))) :: v) 0 []), 0, 0)) rfl ?_
  refine zg_nx (y := (26, [.ref 0, .int x, .int 0], [.int x, .int 19, .ref 23], (zsF 19 ((18, (vp_nar .byte ((x >>> (8 &&& 31)).toInt8.toInt32))) :: (17, (vp_nar .byte ((x >>> (16 &&& 31)).toInt8.toInt32))) :: (16, (vp_nar .byte ((x >>> (24 &&& 31)).toInt8.toInt32))) :: v) 0 []), 0, 0)) rfl ?_
  refine zg_nx (y := (27, [.ref 0, .int x, .int 0], [.int 0, .int x, .int 19, .ref 23], (zsF 19 ((18, (vp_nar .byte ((x >>> (8 &&& 31)).toInt8.toInt32))) :: (17, (vp_nar .byte ((x >>> (16 &&& 31)).toInt8.toInt32))) :: (16, (vp_nar .byte ((x >>> (24 &&& 31)).toInt8.toInt32))) :: v) 0 []), 0, 0)) rfl ?_
  refine zg_nx (y := (28, [.ref 0, .int x, .int 0], [.int (x >>> (0 &&& 31)), .int 19, .ref 23], (zsF 19 ((18, (vp_nar .byte ((x >>> (8 &&& 31)).toInt8.toInt32))) :: (17, (vp_nar .byte ((x >>> (16 &&& 31)).toInt8.toInt32))) :: (16, (vp_nar .byte ((x >>> (24 &&& 31)).toInt8.toInt32))) :: v) 0 []), 0, 0)) rfl ?_
  refine zg_nx (y := (29, [.ref 0, .int x, .int 0], [.int ((x >>> (0 &&& 31)).toInt8.toInt32), .int 19, .ref 23], (zsF 19 ((18, (vp_nar .byte ((x >>> (8 &&& 31)).toInt8.toInt32))) :: (17, (vp_nar .byte ((x >>> (16 &&& 31)).toInt8.toInt32))) :: (16, (vp_nar .byte ((x >>> (24 &&& 31)).toInt8.toInt32))) :: v) 0 []), 0, 0)) rfl ?_
  refine zg_nx (y := (30, [.ref 0, .int x, .int 0], [], (zsF 19 ((19, (vp_nar .byte ((x >>> (0 &&& 31)).toInt8.toInt32))) :: (18, (vp_nar .byte ((x >>> (8 &&& 31)).toInt8.toInt32))) :: (17, (vp_nar .byte ((x >>> (16 &&& 31)).toInt8.toInt32))) :: (16, (vp_nar .byte ((x >>> (24 &&& 31)).toInt8.toInt32))) :: v) 0 []), 0, 0)) rfl ?_
  refine zg_nx (y := (31, [.ref 0, .int x, .int 0], [.ref 0], (zsF 19 ((19, (vp_nar .byte ((x >>> (0 &&& 31)).toInt8.toInt32))) :: (18, (vp_nar .byte ((x >>> (8 &&& 31)).toInt8.toInt32))) :: (17, (vp_nar .byte ((x >>> (16 &&& 31)).toInt8.toInt32))) :: (16, (vp_nar .byte ((x >>> (24 &&& 31)).toInt8.toInt32))) :: v) 0 []), 0, 0)) rfl ?_
  refine zg_nx (y := (32, [.ref 0, .int x, .int 0], [.ref 0, .ref 0], (zsF 19 ((19, (vp_nar .byte ((x >>> (0 &&& 31)).toInt8.toInt32))) :: (18, (vp_nar .byte ((x >>> (8 &&& 31)).toInt8.toInt32))) :: (17, (vp_nar .byte ((x >>> (16 &&& 31)).toInt8.toInt32))) :: (16, (vp_nar .byte ((x >>> (24 &&& 31)).toInt8.toInt32))) :: v) 0 []), 0, 0)) rfl ?_
  refine zg_nx (y := (35, [.ref 0, .int x, .int 0], [.int 19, .ref 0], (zsF 19 ((19, (vp_nar .byte ((x >>> (0 &&& 31)).toInt8.toInt32))) :: (18, (vp_nar .byte ((x >>> (8 &&& 31)).toInt8.toInt32))) :: (17, (vp_nar .byte ((x >>> (16 &&& 31)).toInt8.toInt32))) :: (16, (vp_nar .byte ((x >>> (24 &&& 31)).toInt8.toInt32))) :: v) 0 []), 0, 0)) rfl ?_
  refine zg_nx (y := (36, [.ref 0, .int x, .int 0], [.int 1, .int 19, .ref 0], (zsF 19 ((19, (vp_nar .byte ((x >>> (0 &&& 31)).toInt8.toInt32))) :: (18, (vp_nar .byte ((x >>> (8 &&& 31)).toInt8.toInt32))) :: (17, (vp_nar .byte ((x >>> (16 &&& 31)).toInt8.toInt32))) :: (16, (vp_nar .byte ((x >>> (24 &&& 31)).toInt8.toInt32))) :: v) 0 []), 0, 0)) rfl ?_
  refine zg_nx (y := (37, [.ref 0, .int x, .int 0], [.int 20, .ref 0], (zsF 19 ((19, (vp_nar .byte ((x >>> (0 &&& 31)).toInt8.toInt32))) :: (18, (vp_nar .byte ((x >>> (8 &&& 31)).toInt8.toInt32))) :: (17, (vp_nar .byte ((x >>> (16 &&& 31)).toInt8.toInt32))) :: (16, (vp_nar .byte ((x >>> (24 &&& 31)).toInt8.toInt32))) :: v) 0 []), 0, 0)) rfl ?_
  refine zg_nx (y := (40, [.ref 0, .int x, .int 0], [], (zsF 20 ((19, (vp_nar .byte ((x >>> (0 &&& 31)).toInt8.toInt32))) :: (18, (vp_nar .byte ((x >>> (8 &&& 31)).toInt8.toInt32))) :: (17, (vp_nar .byte ((x >>> (16 &&& 31)).toInt8.toInt32))) :: (16, (vp_nar .byte ((x >>> (24 &&& 31)).toInt8.toInt32))) :: v) 0 []), 0, 0)) rfl ?_
  refine zg_nx (y := (43, [.ref 0, .int x, .int (-8)], [], (zsF 20 ((19, (vp_nar .byte ((x >>> (0 &&& 31)).toInt8.toInt32))) :: (18, (vp_nar .byte ((x >>> (8 &&& 31)).toInt8.toInt32))) :: (17, (vp_nar .byte ((x >>> (16 &&& 31)).toInt8.toInt32))) :: (16, (vp_nar .byte ((x >>> (24 &&& 31)).toInt8.toInt32))) :: v) 0 []), 0, 0)) rfl ?_
  refine zg_nx (y := (3, [.ref 0, .int x, .int (-8)], [], (zsF 20 ((19, (vp_nar .byte ((x >>> (0 &&& 31)).toInt8.toInt32))) :: (18, (vp_nar .byte ((x >>> (8 &&& 31)).toInt8.toInt32))) :: (17, (vp_nar .byte ((x >>> (16 &&& 31)).toInt8.toInt32))) :: (16, (vp_nar .byte ((x >>> (24 &&& 31)).toInt8.toInt32))) :: v) 0 []), 0, 0)) rfl ?_
  refine zg_nx (y := (4, [.ref 0, .int x, .int (-8)], [.int (-8)], (zsF 20 ((19, (vp_nar .byte ((x >>> (0 &&& 31)).toInt8.toInt32))) :: (18, (vp_nar .byte ((x >>> (8 &&& 31)).toInt8.toInt32))) :: (17, (vp_nar .byte ((x >>> (16 &&& 31)).toInt8.toInt32))) :: (16, (vp_nar .byte ((x >>> (24 &&& 31)).toInt8.toInt32))) :: v) 0 []), 0, 0)) rfl ?_
  refine zg_nx (y := (46, [.ref 0, .int x, .int (-8)], [], (zsF 20 ((19, (vp_nar .byte ((x >>> (0 &&& 31)).toInt8.toInt32))) :: (18, (vp_nar .byte ((x >>> (8 &&& 31)).toInt8.toInt32))) :: (17, (vp_nar .byte ((x >>> (16 &&& 31)).toInt8.toInt32))) :: (16, (vp_nar .byte ((x >>> (24 &&& 31)).toInt8.toInt32))) :: v) 0 []), 0, 0)) rfl ?_
  exact zg_ret rfl

/-- DesignReader.feed -/
theorem zf_class {a b c d e : Int32} : zrun 20000 8 1 [.ref 0, .int a, .int b, .int c, .int d, .int e] (zsF 0 [] 0 []) = some (some (.int 20), (zsF 20 [(19, (vp_nar .byte ((e >>> (0 &&& 31)).toInt8.toInt32))), (18, (vp_nar .byte ((e >>> (8 &&& 31)).toInt8.toInt32))), (17, (vp_nar .byte ((e >>> (16 &&& 31)).toInt8.toInt32))), (16, (vp_nar .byte ((e >>> (24 &&& 31)).toInt8.toInt32))), (15, (vp_nar .byte ((d >>> (0 &&& 31)).toInt8.toInt32))), (14, (vp_nar .byte ((d >>> (8 &&& 31)).toInt8.toInt32))), (13, (vp_nar .byte ((d >>> (16 &&& 31)).toInt8.toInt32))), (12, (vp_nar .byte ((d >>> (24 &&& 31)).toInt8.toInt32))), (11, (vp_nar .byte ((c >>> (0 &&& 31)).toInt8.toInt32))), (10, (vp_nar .byte ((c >>> (8 &&& 31)).toInt8.toInt32))), (9, (vp_nar .byte ((c >>> (16 &&& 31)).toInt8.toInt32))), (8, (vp_nar .byte ((c >>> (24 &&& 31)).toInt8.toInt32))), (7, (vp_nar .byte ((b >>> (0 &&& 31)).toInt8.toInt32))), (6, (vp_nar .byte ((b >>> (8 &&& 31)).toInt8.toInt32))), (5, (vp_nar .byte ((b >>> (16 &&& 31)).toInt8.toInt32))), (4, (vp_nar .byte ((b >>> (24 &&& 31)).toInt8.toInt32))), (3, (vp_nar .byte ((a >>> (0 &&& 31)).toInt8.toInt32))), (2, (vp_nar .byte ((a >>> (8 &&& 31)).toInt8.toInt32))), (1, (vp_nar .byte ((a >>> (16 &&& 31)).toInt8.toInt32))), (0, (vp_nar .byte ((a >>> (24 &&& 31)).toInt8.toInt32)))] 0 [])) := by
  refine zr_of (m := zm_D_feed) rfl (Nat.le_of_ble_eq_true rfl) ?_
  show zgo _ _ _ (0, [.ref 0, .int a, .int b, .int c, .int d, .int e], [], (zsF 0 [] 0 []), 0, 0) = _
  refine zg_nx (y := (1, [.ref 0, .int a, .int b, .int c, .int d, .int e], [.ref 0], (zsF 0 [] 0 []), 0, 0)) rfl ?_
  refine zg_nx (y := (4, [.ref 0, .int a, .int b, .int c, .int d, .int e], [.int 0], (zsF 0 [] 0 []), 0, 0)) rfl ?_
  refine zg_nx (y := (7, [.ref 0, .int a, .int b, .int c, .int d, .int e], [.int 7980, .int 0], (zsF 0 [] 0 []), 0, 0)) rfl ?_
  refine zg_nx (y := (12, [.ref 0, .int a, .int b, .int c, .int d, .int e], [], (zsF 0 [] 0 []), 0, 0)) rfl ?_
  refine zg_nx (y := (13, [.ref 0, .int a, .int b, .int c, .int d, .int e], [.ref 0], (zsF 0 [] 0 []), 0, 0)) rfl ?_
  refine zg_nx (y := (14, [.ref 0, .int a, .int b, .int c, .int d, .int e], [.int a, .ref 0], (zsF 0 [] 0 []), 0, 0)) rfl ?_
  refine zg_call (n := 15) (as := [.ref 0, .int a]) (pc := 17) (lv := [.ref 0, .int a, .int b, .int c, .int d, .int e]) (stk := []) (st := (zsF 0 [] 0 [])) (c := 0) (s := 0) (v := none) (st' := (zsF 4 [(3, (vp_nar .byte ((a >>> (0 &&& 31)).toInt8.toInt32))), (2, (vp_nar .byte ((a >>> (8 &&& 31)).toInt8.toInt32))), (1, (vp_nar .byte ((a >>> (16 &&& 31)).toInt8.toInt32))), (0, (vp_nar .byte ((a >>> (24 &&& 31)).toInt8.toInt32)))] 0 [])) rfl (za_0) ?_
  show zgo _ _ _ (17, [.ref 0, .int a, .int b, .int c, .int d, .int e], [], (zsF 4 [(3, (vp_nar .byte ((a >>> (0 &&& 31)).toInt8.toInt32))), (2, (vp_nar .byte ((a >>> (8 &&& 31)).toInt8.toInt32))), (1, (vp_nar .byte ((a >>> (16 &&& 31)).toInt8.toInt32))), (0, (vp_nar .byte ((a >>> (24 &&& 31)).toInt8.toInt32)))] 0 []), 0, 0) = _
  refine zg_nx (y := (18, [.ref 0, .int a, .int b, .int c, .int d, .int e], [.ref 0], (zsF 4 [(3, (vp_nar .byte ((a >>> (0 &&& 31)).toInt8.toInt32))), (2, (vp_nar .byte ((a >>> (8 &&& 31)).toInt8.toInt32))), (1, (vp_nar .byte ((a >>> (16 &&& 31)).toInt8.toInt32))), (0, (vp_nar .byte ((a >>> (24 &&& 31)).toInt8.toInt32)))] 0 []), 0, 0)) rfl ?_
  refine zg_nx (y := (19, [.ref 0, .int a, .int b, .int c, .int d, .int e], [.int b, .ref 0], (zsF 4 [(3, (vp_nar .byte ((a >>> (0 &&& 31)).toInt8.toInt32))), (2, (vp_nar .byte ((a >>> (8 &&& 31)).toInt8.toInt32))), (1, (vp_nar .byte ((a >>> (16 &&& 31)).toInt8.toInt32))), (0, (vp_nar .byte ((a >>> (24 &&& 31)).toInt8.toInt32)))] 0 []), 0, 0)) rfl ?_
  refine zg_call (n := 15) (as := [.ref 0, .int b]) (pc := 22) (lv := [.ref 0, .int a, .int b, .int c, .int d, .int e]) (stk := []) (st := (zsF 4 [(3, (vp_nar .byte ((a >>> (0 &&& 31)).toInt8.toInt32))), (2, (vp_nar .byte ((a >>> (8 &&& 31)).toInt8.toInt32))), (1, (vp_nar .byte ((a >>> (16 &&& 31)).toInt8.toInt32))), (0, (vp_nar .byte ((a >>> (24 &&& 31)).toInt8.toInt32)))] 0 [])) (c := 0) (s := 0) (v := none) (st' := (zsF 8 [(7, (vp_nar .byte ((b >>> (0 &&& 31)).toInt8.toInt32))), (6, (vp_nar .byte ((b >>> (8 &&& 31)).toInt8.toInt32))), (5, (vp_nar .byte ((b >>> (16 &&& 31)).toInt8.toInt32))), (4, (vp_nar .byte ((b >>> (24 &&& 31)).toInt8.toInt32))), (3, (vp_nar .byte ((a >>> (0 &&& 31)).toInt8.toInt32))), (2, (vp_nar .byte ((a >>> (8 &&& 31)).toInt8.toInt32))), (1, (vp_nar .byte ((a >>> (16 &&& 31)).toInt8.toInt32))), (0, (vp_nar .byte ((a >>> (24 &&& 31)).toInt8.toInt32)))] 0 [])) rfl (za_4) ?_
  show zgo _ _ _ (22, [.ref 0, .int a, .int b, .int c, .int d, .int e], [], (zsF 8 [(7, (vp_nar .byte ((b >>> (0 &&& 31)).toInt8.toInt32))), (6, (vp_nar .byte ((b >>> (8 &&& 31)).toInt8.toInt32))), (5, (vp_nar .byte ((b >>> (16 &&& 31)).toInt8.toInt32))), (4, (vp_nar .byte ((b >>> (24 &&& 31)).toInt8.toInt32))), (3, (vp_nar .byte ((a >>> (0 &&& 31)).toInt8.toInt32))), (2, (vp_nar .byte ((a >>> (8 &&& 31)).toInt8.toInt32))), (1, (vp_nar .byte ((a >>> (16 &&& 31)).toInt8.toInt32))), (0, (vp_nar .byte ((a >>> (24 &&& 31)).toInt8.toInt32)))] 0 []), 0, 0) = _
  refine zg_nx (y := (23, [.ref 0, .int a, .int b, .int c, .int d, .int e], [.ref 0], (zsF 8 [(7, (vp_nar .byte ((b >>> (0 &&& 31)).toInt8.toInt32))), (6, (vp_nar .byte ((b >>> (8 &&& 31)).toInt8.toInt32))), (5, (vp_nar .byte ((b >>> (16 &&& 31)).toInt8.toInt32))), (4, (vp_nar .byte ((b >>> (24 &&& 31)).toInt8.toInt32))), (3, (vp_nar .byte ((a >>> (0 &&& 31)).toInt8.toInt32))), (2, (vp_nar .byte ((a >>> (8 &&& 31)).toInt8.toInt32))), (1, (vp_nar .byte ((a >>> (16 &&& 31)).toInt8.toInt32))), (0, (vp_nar .byte ((a >>> (24 &&& 31)).toInt8.toInt32)))] 0 []), 0, 0)) rfl ?_
  refine zg_nx (y := (24, [.ref 0, .int a, .int b, .int c, .int d, .int e], [.int c, .ref 0], (zsF 8 [(7, (vp_nar .byte ((b >>> (0 &&& 31)).toInt8.toInt32))), (6, (vp_nar .byte ((b >>> (8 &&& 31)).toInt8.toInt32))), (5, (vp_nar .byte ((b >>> (16 &&& 31)).toInt8.toInt32))), (4, (vp_nar .byte ((b >>> (24 &&& 31)).toInt8.toInt32))), (3, (vp_nar .byte ((a >>> (0 &&& 31)).toInt8.toInt32))), (2, (vp_nar .byte ((a >>> (8 &&& 31)).toInt8.toInt32))), (1, (vp_nar .byte ((a >>> (16 &&& 31)).toInt8.toInt32))), (0, (vp_nar .byte ((a >>> (24 &&& 31)).toInt8.toInt32)))] 0 []), 0, 0)) rfl ?_
  refine zg_call (n := 15) (as := [.ref 0, .int c]) (pc := 27) (lv := [.ref 0, .int a, .int b, .int c, .int d, .int e]) (stk := []) (st := (zsF 8 [(7, (vp_nar .byte ((b >>> (0 &&& 31)).toInt8.toInt32))), (6, (vp_nar .byte ((b >>> (8 &&& 31)).toInt8.toInt32))), (5, (vp_nar .byte ((b >>> (16 &&& 31)).toInt8.toInt32))), (4, (vp_nar .byte ((b >>> (24 &&& 31)).toInt8.toInt32))), (3, (vp_nar .byte ((a >>> (0 &&& 31)).toInt8.toInt32))), (2, (vp_nar .byte ((a >>> (8 &&& 31)).toInt8.toInt32))), (1, (vp_nar .byte ((a >>> (16 &&& 31)).toInt8.toInt32))), (0, (vp_nar .byte ((a >>> (24 &&& 31)).toInt8.toInt32)))] 0 [])) (c := 0) (s := 0) (v := none) (st' := (zsF 12 [(11, (vp_nar .byte ((c >>> (0 &&& 31)).toInt8.toInt32))), (10, (vp_nar .byte ((c >>> (8 &&& 31)).toInt8.toInt32))), (9, (vp_nar .byte ((c >>> (16 &&& 31)).toInt8.toInt32))), (8, (vp_nar .byte ((c >>> (24 &&& 31)).toInt8.toInt32))), (7, (vp_nar .byte ((b >>> (0 &&& 31)).toInt8.toInt32))), (6, (vp_nar .byte ((b >>> (8 &&& 31)).toInt8.toInt32))), (5, (vp_nar .byte ((b >>> (16 &&& 31)).toInt8.toInt32))), (4, (vp_nar .byte ((b >>> (24 &&& 31)).toInt8.toInt32))), (3, (vp_nar .byte ((a >>> (0 &&& 31)).toInt8.toInt32))), (2, (vp_nar .byte ((a >>> (8 &&& 31)).toInt8.toInt32))), (1, (vp_nar .byte ((a >>> (16 &&& 31)).toInt8.toInt32))), (0, (vp_nar .byte ((a >>> (24 &&& 31)).toInt8.toInt32)))] 0 [])) rfl (za_8) ?_
  show zgo _ _ _ (27, [.ref 0, .int a, .int b, .int c, .int d, .int e], [], (zsF 12 [(11, (vp_nar .byte ((c >>> (0 &&& 31)).toInt8.toInt32))), (10, (vp_nar .byte ((c >>> (8 &&& 31)).toInt8.toInt32))), (9, (vp_nar .byte ((c >>> (16 &&& 31)).toInt8.toInt32))), (8, (vp_nar .byte ((c >>> (24 &&& 31)).toInt8.toInt32))), (7, (vp_nar .byte ((b >>> (0 &&& 31)).toInt8.toInt32))), (6, (vp_nar .byte ((b >>> (8 &&& 31)).toInt8.toInt32))), (5, (vp_nar .byte ((b >>> (16 &&& 31)).toInt8.toInt32))), (4, (vp_nar .byte ((b >>> (24 &&& 31)).toInt8.toInt32))), (3, (vp_nar .byte ((a >>> (0 &&& 31)).toInt8.toInt32))), (2, (vp_nar .byte ((a >>> (8 &&& 31)).toInt8.toInt32))), (1, (vp_nar .byte ((a >>> (16 &&& 31)).toInt8.toInt32))), (0, (vp_nar .byte ((a >>> (24 &&& 31)).toInt8.toInt32)))] 0 []), 0, 0) = _
  refine zg_nx (y := (28, [.ref 0, .int a, .int b, .int c, .int d, .int e], [.ref 0], (zsF 12 [(11, (vp_nar .byte ((c >>> (0 &&& 31)).toInt8.toInt32))), (10, (vp_nar .byte ((c >>> (8 &&& 31)).toInt8.toInt32))), (9, (vp_nar .byte ((c >>> (16 &&& 31)).toInt8.toInt32))), (8, (vp_nar .byte ((c >>> (24 &&& 31)).toInt8.toInt32))), (7, (vp_nar .byte ((b >>> (0 &&& 31)).toInt8.toInt32))), (6, (vp_nar .byte ((b >>> (8 &&& 31)).toInt8.toInt32))), (5, (vp_nar .byte ((b >>> (16 &&& 31)).toInt8.toInt32))), (4, (vp_nar .byte ((b >>> (24 &&& 31)).toInt8.toInt32))), (3, (vp_nar .byte ((a >>> (0 &&& 31)).toInt8.toInt32))), (2, (vp_nar .byte ((a >>> (8 &&& 31)).toInt8.toInt32))), (1, (vp_nar .byte ((a >>> (16 &&& 31)).toInt8.toInt32))), (0, (vp_nar .byte ((a >>> (24 &&& 31)).toInt8.toInt32)))] 0 []), 0, 0)) rfl ?_
  refine zg_nx (y := (30, [.ref 0, .int a, .int b, .int c, .int d, .int e], [.int d, .ref 0], (zsF 12 [(11, (vp_nar .byte ((c >>> (0 &&& 31)).toInt8.toInt32))), (10, (vp_nar .byte ((c >>> (8 &&& 31)).toInt8.toInt32))), (9, (vp_nar .byte ((c >>> (16 &&& 31)).toInt8.toInt32))), (8, (vp_nar .byte ((c >>> (24 &&& 31)).toInt8.toInt32))), (7, (vp_nar .byte ((b >>> (0 &&& 31)).toInt8.toInt32))), (6, (vp_nar .byte ((b >>> (8 &&& 31)).toInt8.toInt32))), (5, (vp_nar .byte ((b >>> (16 &&& 31)).toInt8.toInt32))), (4, (vp_nar .byte ((b >>> (24 &&& 31)).toInt8.toInt32))), (3, (vp_nar .byte ((a >>> (0 &&& 31)).toInt8.toInt32))), (2, (vp_nar .byte ((a >>> (8 &&& 31)).toInt8.toInt32))), (1, (vp_nar .byte ((a >>> (16 &&& 31)).toInt8.toInt32))), (0, (vp_nar .byte ((a >>> (24 &&& 31)).toInt8.toInt32)))] 0 []), 0, 0)) rfl ?_
  refine zg_call (n := 15) (as := [.ref 0, .int d]) (pc := 33) (lv := [.ref 0, .int a, .int b, .int c, .int d, .int e]) (stk := []) (st := (zsF 12 [(11, (vp_nar .byte ((c >>> (0 &&& 31)).toInt8.toInt32))), (10, (vp_nar .byte ((c >>> (8 &&& 31)).toInt8.toInt32))), (9, (vp_nar .byte ((c >>> (16 &&& 31)).toInt8.toInt32))), (8, (vp_nar .byte ((c >>> (24 &&& 31)).toInt8.toInt32))), (7, (vp_nar .byte ((b >>> (0 &&& 31)).toInt8.toInt32))), (6, (vp_nar .byte ((b >>> (8 &&& 31)).toInt8.toInt32))), (5, (vp_nar .byte ((b >>> (16 &&& 31)).toInt8.toInt32))), (4, (vp_nar .byte ((b >>> (24 &&& 31)).toInt8.toInt32))), (3, (vp_nar .byte ((a >>> (0 &&& 31)).toInt8.toInt32))), (2, (vp_nar .byte ((a >>> (8 &&& 31)).toInt8.toInt32))), (1, (vp_nar .byte ((a >>> (16 &&& 31)).toInt8.toInt32))), (0, (vp_nar .byte ((a >>> (24 &&& 31)).toInt8.toInt32)))] 0 [])) (c := 0) (s := 0) (v := none) (st' := (zsF 16 [(15, (vp_nar .byte ((d >>> (0 &&& 31)).toInt8.toInt32))), (14, (vp_nar .byte ((d >>> (8 &&& 31)).toInt8.toInt32))), (13, (vp_nar .byte ((d >>> (16 &&& 31)).toInt8.toInt32))), (12, (vp_nar .byte ((d >>> (24 &&& 31)).toInt8.toInt32))), (11, (vp_nar .byte ((c >>> (0 &&& 31)).toInt8.toInt32))), (10, (vp_nar .byte ((c >>> (8 &&& 31)).toInt8.toInt32))), (9, (vp_nar .byte ((c >>> (16 &&& 31)).toInt8.toInt32))), (8, (vp_nar .byte ((c >>> (24 &&& 31)).toInt8.toInt32))), (7, (vp_nar .byte ((b >>> (0 &&& 31)).toInt8.toInt32))), (6, (vp_nar .byte ((b >>> (8 &&& 31)).toInt8.toInt32))), (5, (vp_nar .byte ((b >>> (16 &&& 31)).toInt8.toInt32))), (4, (vp_nar .byte ((b >>> (24 &&& 31)).toInt8.toInt32))), (3, (vp_nar .byte ((a >>> (0 &&& 31)).toInt8.toInt32))), (2, (vp_nar .byte ((a >>> (8 &&& 31)).toInt8.toInt32))), (1, (vp_nar .byte ((a >>> (16 &&& 31)).toInt8.toInt32))), (0, (vp_nar .byte ((a >>> (24 &&& 31)).toInt8.toInt32)))] 0 [])) rfl (za_12) ?_
  show zgo _ _ _ (33, [.ref 0, .int a, .int b, .int c, .int d, .int e], [], (zsF 16 [(15, (vp_nar .byte ((d >>> (0 &&& 31)).toInt8.toInt32))), (14, (vp_nar .byte ((d >>> (8 &&& 31)).toInt8.toInt32))), (13, (vp_nar .byte ((d >>> (16 &&& 31)).toInt8.toInt32))), (12, (vp_nar .byte ((d >>> (24 &&& 31)).toInt8.toInt32))), (11, (vp_nar .byte ((c >>> (0 &&& 31)).toInt8.toInt32))), (10, (vp_nar .byte ((c >>> (8 &&& 31)).toInt8.toInt32))), (9, (vp_nar .byte ((c >>> (16 &&& 31)).toInt8.toInt32))), (8, (vp_nar .byte ((c >>> (24 &&& 31)).toInt8.toInt32))), (7, (vp_nar .byte ((b >>> (0 &&& 31)).toInt8.toInt32))), (6, (vp_nar .byte ((b >>> (8 &&& 31)).toInt8.toInt32))), (5, (vp_nar .byte ((b >>> (16 &&& 31)).toInt8.toInt32))), (4, (vp_nar .byte ((b >>> (24 &&& 31)).toInt8.toInt32))), (3, (vp_nar .byte ((a >>> (0 &&& 31)).toInt8.toInt32))), (2, (vp_nar .byte ((a >>> (8 &&& 31)).toInt8.toInt32))), (1, (vp_nar .byte ((a >>> (16 &&& 31)).toInt8.toInt32))), (0, (vp_nar .byte ((a >>> (24 &&& 31)).toInt8.toInt32)))] 0 []), 0, 0) = _
  refine zg_nx (y := (34, [.ref 0, .int a, .int b, .int c, .int d, .int e], [.ref 0], (zsF 16 [(15, (vp_nar .byte ((d >>> (0 &&& 31)).toInt8.toInt32))), (14, (vp_nar .byte ((d >>> (8 &&& 31)).toInt8.toInt32))), (13, (vp_nar .byte ((d >>> (16 &&& 31)).toInt8.toInt32))), (12, (vp_nar .byte ((d >>> (24 &&& 31)).toInt8.toInt32))), (11, (vp_nar .byte ((c >>> (0 &&& 31)).toInt8.toInt32))), (10, (vp_nar .byte ((c >>> (8 &&& 31)).toInt8.toInt32))), (9, (vp_nar .byte ((c >>> (16 &&& 31)).toInt8.toInt32))), (8, (vp_nar .byte ((c >>> (24 &&& 31)).toInt8.toInt32))), (7, (vp_nar .byte ((b >>> (0 &&& 31)).toInt8.toInt32))), (6, (vp_nar .byte ((b >>> (8 &&& 31)).toInt8.toInt32))), (5, (vp_nar .byte ((b >>> (16 &&& 31)).toInt8.toInt32))), (4, (vp_nar .byte ((b >>> (24 &&& 31)).toInt8.toInt32))), (3, (vp_nar .byte ((a >>> (0 &&& 31)).toInt8.toInt32))), (2, (vp_nar .byte ((a >>> (8 &&& 31)).toInt8.toInt32))), (1, (vp_nar .byte ((a >>> (16 &&& 31)).toInt8.toInt32))), (0, (vp_nar .byte ((a >>> (24 &&& 31)).toInt8.toInt32)))] 0 []), 0, 0)) rfl ?_
  refine zg_nx (y := (36, [.ref 0, .int a, .int b, .int c, .int d, .int e], [.int e, .ref 0], (zsF 16 [(15, (vp_nar .byte ((d >>> (0 &&& 31)).toInt8.toInt32))), (14, (vp_nar .byte ((d >>> (8 &&& 31)).toInt8.toInt32))), (13, (vp_nar .byte ((d >>> (16 &&& 31)).toInt8.toInt32))), (12, (vp_nar .byte ((d >>> (24 &&& 31)).toInt8.toInt32))), (11, (vp_nar .byte ((c >>> (0 &&& 31)).toInt8.toInt32))), (10, (vp_nar .byte ((c >>> (8 &&& 31)).toInt8.toInt32))), (9, (vp_nar .byte ((c >>> (16 &&& 31)).toInt8.toInt32))), (8, (vp_nar .byte ((c >>> (24 &&& 31)).toInt8.toInt32))), (7, (vp_nar .byte ((b >>> (0 &&& 31)).toInt8.toInt32))), (6, (vp_nar .byte ((b >>> (8 &&& 31)).toInt8.toInt32))), (5, (vp_nar .byte ((b >>> (16 &&& 31)).toInt8.toInt32))), (4, (vp_nar .byte ((b >>> (24 &&& 31)).toInt8.toInt32))), (3, (vp_nar .byte ((a >>> (0 &&& 31)).toInt8.toInt32))), (2, (vp_nar .byte ((a >>> (8 &&& 31)).toInt8.toInt32))), (1, (vp_nar .byte ((a >>> (16 &&& 31)).toInt8.toInt32))), (0, (vp_nar .byte ((a >>> (24 &&& 31)).toInt8.toInt32)))] 0 []), 0, 0)) rfl ?_
  refine zg_call (n := 15) (as := [.ref 0, .int e]) (pc := 39) (lv := [.ref 0, .int a, .int b, .int c, .int d, .int e]) (stk := []) (st := (zsF 16 [(15, (vp_nar .byte ((d >>> (0 &&& 31)).toInt8.toInt32))), (14, (vp_nar .byte ((d >>> (8 &&& 31)).toInt8.toInt32))), (13, (vp_nar .byte ((d >>> (16 &&& 31)).toInt8.toInt32))), (12, (vp_nar .byte ((d >>> (24 &&& 31)).toInt8.toInt32))), (11, (vp_nar .byte ((c >>> (0 &&& 31)).toInt8.toInt32))), (10, (vp_nar .byte ((c >>> (8 &&& 31)).toInt8.toInt32))), (9, (vp_nar .byte ((c >>> (16 &&& 31)).toInt8.toInt32))), (8, (vp_nar .byte ((c >>> (24 &&& 31)).toInt8.toInt32))), (7, (vp_nar .byte ((b >>> (0 &&& 31)).toInt8.toInt32))), (6, (vp_nar .byte ((b >>> (8 &&& 31)).toInt8.toInt32))), (5, (vp_nar .byte ((b >>> (16 &&& 31)).toInt8.toInt32))), (4, (vp_nar .byte ((b >>> (24 &&& 31)).toInt8.toInt32))), (3, (vp_nar .byte ((a >>> (0 &&& 31)).toInt8.toInt32))), (2, (vp_nar .byte ((a >>> (8 &&& 31)).toInt8.toInt32))), (1, (vp_nar .byte ((a >>> (16 &&& 31)).toInt8.toInt32))), (0, (vp_nar .byte ((a >>> (24 &&& 31)).toInt8.toInt32)))] 0 [])) (c := 0) (s := 0) (v := none) (st' := (zsF 20 [(19, (vp_nar .byte ((e >>> (0 &&& 31)).toInt8.toInt32))), (18, (vp_nar .byte ((e >>> (8 &&& 31)).toInt8.toInt32))), (17, (vp_nar .byte ((e >>> (16 &&& 31)).toInt8.toInt32))), (16, (vp_nar .byte ((e >>> (24 &&& 31)).toInt8.toInt32))), (15, (vp_nar .byte ((d >>> (0 &&& 31)).toInt8.toInt32))), (14, (vp_nar .byte ((d >>> (8 &&& 31)).toInt8.toInt32))), (13, (vp_nar .byte ((d >>> (16 &&& 31)).toInt8.toInt32))), (12, (vp_nar .byte ((d >>> (24 &&& 31)).toInt8.toInt32))), (11, (vp_nar .byte ((c >>> (0 &&& 31)).toInt8.toInt32))), (10, (vp_nar .byte ((c >>> (8 &&& 31)).toInt8.toInt32))), (9, (vp_nar .byte ((c >>> (16 &&& 31)).toInt8.toInt32))), (8, (vp_nar .byte ((c >>> (24 &&& 31)).toInt8.toInt32))), (7, (vp_nar .byte ((b >>> (0 &&& 31)).toInt8.toInt32))), (6, (vp_nar .byte ((b >>> (8 &&& 31)).toInt8.toInt32))), (5, (vp_nar .byte ((b >>> (16 &&& 31)).toInt8.toInt32))), (4, (vp_nar .byte ((b >>> (24 &&& 31)).toInt8.toInt32))), (3, (vp_nar .byte ((a >>> (0 &&& 31)).toInt8.toInt32))), (2, (vp_nar .byte ((a >>> (8 &&& 31)).toInt8.toInt32))), (1, (vp_nar .byte ((a >>> (16 &&& 31)).toInt8.toInt32))), (0, (vp_nar .byte ((a >>> (24 &&& 31)).toInt8.toInt32)))] 0 [])) rfl (za_16) ?_
  show zgo _ _ _ (39, [.ref 0, .int a, .int b, .int c, .int d, .int e], [], (zsF 20 [(19, (vp_nar .byte ((e >>> (0 &&& 31)).toInt8.toInt32))), (18, (vp_nar .byte ((e >>> (8 &&& 31)).toInt8.toInt32))), (17, (vp_nar .byte ((e >>> (16 &&& 31)).toInt8.toInt32))), (16, (vp_nar .byte ((e >>> (24 &&& 31)).toInt8.toInt32))), (15, (vp_nar .byte ((d >>> (0 &&& 31)).toInt8.toInt32))), (14, (vp_nar .byte ((d >>> (8 &&& 31)).toInt8.toInt32))), (13, (vp_nar .byte ((d >>> (16 &&& 31)).toInt8.toInt32))), (12, (vp_nar .byte ((d >>> (24 &&& 31)).toInt8.toInt32))), (11, (vp_nar .byte ((c >>> (0 &&& 31)).toInt8.toInt32))), (10, (vp_nar .byte ((c >>> (8 &&& 31)).toInt8.toInt32))), (9, (vp_nar .byte ((c >>> (16 &&& 31)).toInt8.toInt32))), (8, (vp_nar .byte ((c >>> (24 &&& 31)).toInt8.toInt32))), (7, (vp_nar .byte ((b >>> (0 &&& 31)).toInt8.toInt32))), (6, (vp_nar .byte ((b >>> (8 &&& 31)).toInt8.toInt32))), (5, (vp_nar .byte ((b >>> (16 &&& 31)).toInt8.toInt32))), (4, (vp_nar .byte ((b >>> (24 &&& 31)).toInt8.toInt32))), (3, (vp_nar .byte ((a >>> (0 &&& 31)).toInt8.toInt32))), (2, (vp_nar .byte ((a >>> (8 &&& 31)).toInt8.toInt32))), (1, (vp_nar .byte ((a >>> (16 &&& 31)).toInt8.toInt32))), (0, (vp_nar .byte ((a >>> (24 &&& 31)).toInt8.toInt32)))] 0 []), 0, 0) = _
  refine zg_nx (y := (40, [.ref 0, .int a, .int b, .int c, .int d, .int e], [.ref 0], (zsF 20 [(19, (vp_nar .byte ((e >>> (0 &&& 31)).toInt8.toInt32))), (18, (vp_nar .byte ((e >>> (8 &&& 31)).toInt8.toInt32))), (17, (vp_nar .byte ((e >>> (16 &&& 31)).toInt8.toInt32))), (16, (vp_nar .byte ((e >>> (24 &&& 31)).toInt8.toInt32))), (15, (vp_nar .byte ((d >>> (0 &&& 31)).toInt8.toInt32))), (14, (vp_nar .byte ((d >>> (8 &&& 31)).toInt8.toInt32))), (13, (vp_nar .byte ((d >>> (16 &&& 31)).toInt8.toInt32))), (12, (vp_nar .byte ((d >>> (24 &&& 31)).toInt8.toInt32))), (11, (vp_nar .byte ((c >>> (0 &&& 31)).toInt8.toInt32))), (10, (vp_nar .byte ((c >>> (8 &&& 31)).toInt8.toInt32))), (9, (vp_nar .byte ((c >>> (16 &&& 31)).toInt8.toInt32))), (8, (vp_nar .byte ((c >>> (24 &&& 31)).toInt8.toInt32))), (7, (vp_nar .byte ((b >>> (0 &&& 31)).toInt8.toInt32))), (6, (vp_nar .byte ((b >>> (8 &&& 31)).toInt8.toInt32))), (5, (vp_nar .byte ((b >>> (16 &&& 31)).toInt8.toInt32))), (4, (vp_nar .byte ((b >>> (24 &&& 31)).toInt8.toInt32))), (3, (vp_nar .byte ((a >>> (0 &&& 31)).toInt8.toInt32))), (2, (vp_nar .byte ((a >>> (8 &&& 31)).toInt8.toInt32))), (1, (vp_nar .byte ((a >>> (16 &&& 31)).toInt8.toInt32))), (0, (vp_nar .byte ((a >>> (24 &&& 31)).toInt8.toInt32)))] 0 []), 0, 0)) rfl ?_
  refine zg_nx (y := (43, [.ref 0, .int a, .int b, .int c, .int d, .int e], [.int 20], (zsF 20 [(19, (vp_nar .byte ((e >>> (0 &&& 31)).toInt8.toInt32))), (18, (vp_nar .byte ((e >>> (8 &&& 31)).toInt8.toInt32))), (17, (vp_nar .byte ((e >>> (16 &&& 31)).toInt8.toInt32))), (16, (vp_nar .byte ((e >>> (24 &&& 31)).toInt8.toInt32))), (15, (vp_nar .byte ((d >>> (0 &&& 31)).toInt8.toInt32))), (14, (vp_nar .byte ((d >>> (8 &&& 31)).toInt8.toInt32))), (13, (vp_nar .byte ((d >>> (16 &&& 31)).toInt8.toInt32))), (12, (vp_nar .byte ((d >>> (24 &&& 31)).toInt8.toInt32))), (11, (vp_nar .byte ((c >>> (0 &&& 31)).toInt8.toInt32))), (10, (vp_nar .byte ((c >>> (8 &&& 31)).toInt8.toInt32))), (9, (vp_nar .byte ((c >>> (16 &&& 31)).toInt8.toInt32))), (8, (vp_nar .byte ((c >>> (24 &&& 31)).toInt8.toInt32))), (7, (vp_nar .byte ((b >>> (0 &&& 31)).toInt8.toInt32))), (6, (vp_nar .byte ((b >>> (8 &&& 31)).toInt8.toInt32))), (5, (vp_nar .byte ((b >>> (16 &&& 31)).toInt8.toInt32))), (4, (vp_nar .byte ((b >>> (24 &&& 31)).toInt8.toInt32))), (3, (vp_nar .byte ((a >>> (0 &&& 31)).toInt8.toInt32))), (2, (vp_nar .byte ((a >>> (8 &&& 31)).toInt8.toInt32))), (1, (vp_nar .byte ((a >>> (16 &&& 31)).toInt8.toInt32))), (0, (vp_nar .byte ((a >>> (24 &&& 31)).toInt8.toInt32)))] 0 []), 0, 0)) rfl ?_
  exact zg_ret rfl

theorem zfr_0 {call : Nat → List Value → zS → Option (Option Value × zS)} {f : Nat} {o : Option (Option Value × zS)} {a b c d e : Int32} {v u : List (Nat × Int32)} (hk : zgo call zm_R_feed f (18, [.ref 35, .int a, .int b, .int c, .int d, .int e, .int 0, zu], [], (zsF 20 v 0 []), 0, 0) = o) : zgo call zm_R_feed (f + 8) (0, [.ref 35, .int a, .int b, .int c, .int d, .int e, zu, zu], [], (zsF 20 v 0 []), 0, 0) = o := by
  refine zg_nx (y := (1, [.ref 35, .int a, .int b, .int c, .int d, .int e, zu, zu], [.ref 35], (zsF 20 v 0 []), 0, 0)) rfl ?_
  refine zg_nx (y := (4, [.ref 35, .int a, .int b, .int c, .int d, .int e, zu, zu], [.int 0], (zsF 20 v 0 []), 0, 0)) rfl ?_
  refine zg_nx (y := (6, [.ref 35, .int a, .int b, .int c, .int d, .int e, zu, zu], [.int 20, .int 0], (zsF 20 v 0 []), 0, 0)) rfl ?_
  refine zg_nx (y := (7, [.ref 35, .int a, .int b, .int c, .int d, .int e, zu, zu], [.int 20], (zsF 20 v 0 []), 0, 0)) rfl ?_
  refine zg_nx (y := (10, [.ref 35, .int a, .int b, .int c, .int d, .int e, zu, zu], [.int 8000, .int 20], (zsF 20 v 0 []), 0, 0)) rfl ?_
  refine zg_nx (y := (15, [.ref 35, .int a, .int b, .int c, .int d, .int e, zu, zu], [], (zsF 20 v 0 []), 0, 0)) rfl ?_
  refine zg_nx (y := (16, [.ref 35, .int a, .int b, .int c, .int d, .int e, zu, zu], [.int 0], (zsF 20 v 0 []), 0, 0)) rfl ?_
  refine zg_nx (y := (18, [.ref 35, .int a, .int b, .int c, .int d, .int e, .int 0, zu], [], (zsF 20 v 0 []), 0, 0)) rfl ?_
  exact hk

theorem zfr_1 {call : Nat → List Value → zS → Option (Option Value × zS)} {f : Nat} {o : Option (Option Value × zS)} {a b c d e : Int32} {v u : List (Nat × Int32)} (hk : zgo call zm_R_feed f (18, [.ref 35, .int a, .int b, .int c, .int d, .int e, .int 1, .int a], [], (zsF 20 v 1 ((0, ((a >>> (24 &&& 31)) &&& 255)) :: u)), 0, 0) = o) : zgo call zm_R_feed (f + 33) (18, [.ref 35, .int a, .int b, .int c, .int d, .int e, .int 0, zu], [], (zsF 20 v 0 u), 0, 0) = o := by
  refine zg_nx (y := (20, [.ref 35, .int a, .int b, .int c, .int d, .int e, .int 0, zu], [.int 0], (zsF 20 v 0 u), 0, 0)) rfl ?_
  refine zg_nx (y := (22, [.ref 35, .int a, .int b, .int c, .int d, .int e, .int 0, zu], [.int 20, .int 0], (zsF 20 v 0 u), 0, 0)) rfl ?_
  refine zg_nx (y := (25, [.ref 35, .int a, .int b, .int c, .int d, .int e, .int 0, zu], [], (zsF 20 v 0 u), 0, 0)) rfl ?_
  refine zg_nx (y := (27, [.ref 35, .int a, .int b, .int c, .int d, .int e, .int 0, zu], [.int 0], (zsF 20 v 0 u), 0, 0)) rfl ?_
  refine zg_nx (y := (28, [.ref 35, .int a, .int b, .int c, .int d, .int e, .int 0, zu], [.int 4, .int 0], (zsF 20 v 0 u), 0, 0)) rfl ?_
  refine zg_nx (y := (31, [.ref 35, .int a, .int b, .int c, .int d, .int e, .int 0, zu], [], (zsF 20 v 0 u), 0, 0)) rfl ?_
  refine zg_nx (y := (32, [.ref 35, .int a, .int b, .int c, .int d, .int e, .int 0, zu], [.int a], (zsF 20 v 0 u), 0, 0)) rfl ?_
  refine zg_nx (y := (71, [.ref 35, .int a, .int b, .int c, .int d, .int e, .int 0, zu], [.int a], (zsF 20 v 0 u), 0, 0)) rfl ?_
  refine zg_nx (y := (73, [.ref 35, .int a, .int b, .int c, .int d, .int e, .int 0, .int a], [], (zsF 20 v 0 u), 0, 0)) rfl ?_
  refine zg_nx (y := (74, [.ref 35, .int a, .int b, .int c, .int d, .int e, .int 0, .int a], [.ref 35], (zsF 20 v 0 u), 0, 0)) rfl ?_
  refine zg_nx (y := (77, [.ref 35, .int a, .int b, .int c, .int d, .int e, .int 0, .int a], [.ref 36], (zsF 20 v 0 u), 0, 0)) rfl ?_
  refine zg_nx (y := (78, [.ref 35, .int a, .int b, .int c, .int d, .int e, .int 0, .int a], [.ref 35, .ref 36], (zsF 20 v 0 u), 0, 0)) rfl ?_
  refine zg_nx (y := (81, [.ref 35, .int a, .int b, .int c, .int d, .int e, .int 0, .int a], [.int 0, .ref 36], (zsF 20 v 0 u), 0, 0)) rfl ?_
  refine zg_nx (y := (83, [.ref 35, .int a, .int b, .int c, .int d, .int e, .int 0, .int a], [.int a, .int 0, .ref 36], (zsF 20 v 0 u), 0, 0)) rfl ?_
  refine zg_nx (y := (85, [.ref 35, .int a, .int b, .int c, .int d, .int e, .int 0, .int a], [.int 24, .int a, .int 0, .ref 36], (zsF 20 v 0 u), 0, 0)) rfl ?_
  refine zg_nx (y := (87, [.ref 35, .int a, .int b, .int c, .int d, .int e, .int 0, .int a], [.int 8, .int 24, .int a, .int 0, .ref 36], (zsF 20 v 0 u), 0, 0)) rfl ?_
  refine zg_nx (y := (89, [.ref 35, .int a, .int b, .int c, .int d, .int e, .int 0, .int a], [.int 0, .int 8, .int 24, .int a, .int 0, .ref 36], (zsF 20 v 0 u), 0, 0)) rfl ?_
  refine zg_nx (y := (90, [.ref 35, .int a, .int b, .int c, .int d, .int e, .int 0, .int a], [.int 4, .int 0, .int 8, .int 24, .int a, .int 0, .ref 36], (zsF 20 v 0 u), 0, 0)) rfl ?_
  refine zg_nx (y := (91, [.ref 35, .int a, .int b, .int c, .int d, .int e, .int 0, .int a], [.int 0, .int 8, .int 24, .int a, .int 0, .ref 36], (zsF 20 v 0 u), 0, 0)) rfl ?_
  refine zg_nx (y := (92, [.ref 35, .int a, .int b, .int c, .int d, .int e, .int 0, .int a], [.int 0, .int 24, .int a, .int 0, .ref 36], (zsF 20 v 0 u), 0, 0)) rfl ?_
  refine zg_nx (y := (93, [.ref 35, .int a, .int b, .int c, .int d, .int e, .int 0, .int a], [.int 24, .int a, .int 0, .ref 36], (zsF 20 v 0 u), 0, 0)) rfl ?_
  refine zg_nx (y := (94, [.ref 35, .int a, .int b, .int c, .int d, .int e, .int 0, .int a], [.int (a >>> (24 &&& 31)), .int 0, .ref 36], (zsF 20 v 0 u), 0, 0)) rfl ?_
  refine zg_nx (y := (97, [.ref 35, .int a, .int b, .int c, .int d, .int e, .int 0, .int a], [.int 255, .int (a >>> (24 &&& 31)), .int 0, .ref 36], (zsF 20 v 0 u), 0, 0)) rfl ?_
  refine zg_nx (y := (98, [.ref 35, .int a, .int b, .int c, .int d, .int e, .int 0, .int a], [.int ((a >>> (24 &&& 31)) &&& 255), .int 0, .ref 36], (zsF 20 v 0 u), 0, 0)) rfl ?_
  refine zg_nx (y := (99, [.ref 35, .int a, .int b, .int c, .int d, .int e, .int 0, .int a], [], (zsF 20 v 0 ((0, ((a >>> (24 &&& 31)) &&& 255)) :: u)), 0, 0)) rfl ?_
  refine zg_nx (y := (100, [.ref 35, .int a, .int b, .int c, .int d, .int e, .int 0, .int a], [.ref 35], (zsF 20 v 0 ((0, ((a >>> (24 &&& 31)) &&& 255)) :: u)), 0, 0)) rfl ?_
  refine zg_nx (y := (101, [.ref 35, .int a, .int b, .int c, .int d, .int e, .int 0, .int a], [.ref 35, .ref 35], (zsF 20 v 0 ((0, ((a >>> (24 &&& 31)) &&& 255)) :: u)), 0, 0)) rfl ?_
  refine zg_nx (y := (104, [.ref 35, .int a, .int b, .int c, .int d, .int e, .int 0, .int a], [.int 0, .ref 35], (zsF 20 v 0 ((0, ((a >>> (24 &&& 31)) &&& 255)) :: u)), 0, 0)) rfl ?_
  refine zg_nx (y := (105, [.ref 35, .int a, .int b, .int c, .int d, .int e, .int 0, .int a], [.int 1, .int 0, .ref 35], (zsF 20 v 0 ((0, ((a >>> (24 &&& 31)) &&& 255)) :: u)), 0, 0)) rfl ?_
  refine zg_nx (y := (106, [.ref 35, .int a, .int b, .int c, .int d, .int e, .int 0, .int a], [.int 1, .ref 35], (zsF 20 v 0 ((0, ((a >>> (24 &&& 31)) &&& 255)) :: u)), 0, 0)) rfl ?_
  refine zg_nx (y := (109, [.ref 35, .int a, .int b, .int c, .int d, .int e, .int 0, .int a], [], (zsF 20 v 1 ((0, ((a >>> (24 &&& 31)) &&& 255)) :: u)), 0, 0)) rfl ?_
  refine zg_nx (y := (112, [.ref 35, .int a, .int b, .int c, .int d, .int e, .int 1, .int a], [], (zsF 20 v 1 ((0, ((a >>> (24 &&& 31)) &&& 255)) :: u)), 0, 0)) rfl ?_
  refine zg_nx (y := (18, [.ref 35, .int a, .int b, .int c, .int d, .int e, .int 1, .int a], [], (zsF 20 v 1 ((0, ((a >>> (24 &&& 31)) &&& 255)) :: u)), 0, 0)) rfl ?_
  exact hk

theorem zfr_2 {call : Nat → List Value → zS → Option (Option Value × zS)} {f : Nat} {o : Option (Option Value × zS)} {a b c d e : Int32} {v u : List (Nat × Int32)} (hk : zgo call zm_R_feed f (18, [.ref 35, .int a, .int b, .int c, .int d, .int e, .int 2, .int a], [], (zsF 20 v 2 ((1, ((a >>> (16 &&& 31)) &&& 255)) :: u)), 0, 0) = o) : zgo call zm_R_feed (f + 33) (18, [.ref 35, .int a, .int b, .int c, .int d, .int e, .int 1, .int a], [], (zsF 20 v 1 u), 0, 0) = o := by
  refine zg_nx (y := (20, [.ref 35, .int a, .int b, .int c, .int d, .int e, .int 1, .int a], [.int 1], (zsF 20 v 1 u), 0, 0)) rfl ?_
  refine zg_nx (y := (22, [.ref 35, .int a, .int b, .int c, .int d, .int e, .int 1, .int a], [.int 20, .int 1], (zsF 20 v 1 u), 0, 0)) rfl ?_
  refine zg_nx (y := (25, [.ref 35, .int a, .int b, .int c, .int d, .int e, .int 1, .int a], [], (zsF 20 v 1 u), 0, 0)) rfl ?_
  refine zg_nx (y := (27, [.ref 35, .int a, .int b, .int c, .int d, .int e, .int 1, .int a], [.int 1], (zsF 20 v 1 u), 0, 0)) rfl ?_
  refine zg_nx (y := (28, [.ref 35, .int a, .int b, .int c, .int d, .int e, .int 1, .int a], [.int 4, .int 1], (zsF 20 v 1 u), 0, 0)) rfl ?_
  refine zg_nx (y := (31, [.ref 35, .int a, .int b, .int c, .int d, .int e, .int 1, .int a], [], (zsF 20 v 1 u), 0, 0)) rfl ?_
  refine zg_nx (y := (32, [.ref 35, .int a, .int b, .int c, .int d, .int e, .int 1, .int a], [.int a], (zsF 20 v 1 u), 0, 0)) rfl ?_
  refine zg_nx (y := (71, [.ref 35, .int a, .int b, .int c, .int d, .int e, .int 1, .int a], [.int a], (zsF 20 v 1 u), 0, 0)) rfl ?_
  refine zg_nx (y := (73, [.ref 35, .int a, .int b, .int c, .int d, .int e, .int 1, .int a], [], (zsF 20 v 1 u), 0, 0)) rfl ?_
  refine zg_nx (y := (74, [.ref 35, .int a, .int b, .int c, .int d, .int e, .int 1, .int a], [.ref 35], (zsF 20 v 1 u), 0, 0)) rfl ?_
  refine zg_nx (y := (77, [.ref 35, .int a, .int b, .int c, .int d, .int e, .int 1, .int a], [.ref 36], (zsF 20 v 1 u), 0, 0)) rfl ?_
  refine zg_nx (y := (78, [.ref 35, .int a, .int b, .int c, .int d, .int e, .int 1, .int a], [.ref 35, .ref 36], (zsF 20 v 1 u), 0, 0)) rfl ?_
  refine zg_nx (y := (81, [.ref 35, .int a, .int b, .int c, .int d, .int e, .int 1, .int a], [.int 1, .ref 36], (zsF 20 v 1 u), 0, 0)) rfl ?_
  refine zg_nx (y := (83, [.ref 35, .int a, .int b, .int c, .int d, .int e, .int 1, .int a], [.int a, .int 1, .ref 36], (zsF 20 v 1 u), 0, 0)) rfl ?_
  refine zg_nx (y := (85, [.ref 35, .int a, .int b, .int c, .int d, .int e, .int 1, .int a], [.int 24, .int a, .int 1, .ref 36], (zsF 20 v 1 u), 0, 0)) rfl ?_
  refine zg_nx (y := (87, [.ref 35, .int a, .int b, .int c, .int d, .int e, .int 1, .int a], [.int 8, .int 24, .int a, .int 1, .ref 36], (zsF 20 v 1 u), 0, 0)) rfl ?_
  refine zg_nx (y := (89, [.ref 35, .int a, .int b, .int c, .int d, .int e, .int 1, .int a], [.int 1, .int 8, .int 24, .int a, .int 1, .ref 36], (zsF 20 v 1 u), 0, 0)) rfl ?_
  refine zg_nx (y := (90, [.ref 35, .int a, .int b, .int c, .int d, .int e, .int 1, .int a], [.int 4, .int 1, .int 8, .int 24, .int a, .int 1, .ref 36], (zsF 20 v 1 u), 0, 0)) rfl ?_
  refine zg_nx (y := (91, [.ref 35, .int a, .int b, .int c, .int d, .int e, .int 1, .int a], [.int 1, .int 8, .int 24, .int a, .int 1, .ref 36], (zsF 20 v 1 u), 0, 0)) rfl ?_
  refine zg_nx (y := (92, [.ref 35, .int a, .int b, .int c, .int d, .int e, .int 1, .int a], [.int 8, .int 24, .int a, .int 1, .ref 36], (zsF 20 v 1 u), 0, 0)) rfl ?_
  refine zg_nx (y := (93, [.ref 35, .int a, .int b, .int c, .int d, .int e, .int 1, .int a], [.int 16, .int a, .int 1, .ref 36], (zsF 20 v 1 u), 0, 0)) rfl ?_
  refine zg_nx (y := (94, [.ref 35, .int a, .int b, .int c, .int d, .int e, .int 1, .int a], [.int (a >>> (16 &&& 31)), .int 1, .ref 36], (zsF 20 v 1 u), 0, 0)) rfl ?_
  refine zg_nx (y := (97, [.ref 35, .int a, .int b, .int c, .int d, .int e, .int 1, .int a], [.int 255, .int (a >>> (16 &&& 31)), .int 1, .ref 36], (zsF 20 v 1 u), 0, 0)) rfl ?_
  refine zg_nx (y := (98, [.ref 35, .int a, .int b, .int c, .int d, .int e, .int 1, .int a], [.int ((a >>> (16 &&& 31)) &&& 255), .int 1, .ref 36], (zsF 20 v 1 u), 0, 0)) rfl ?_
  refine zg_nx (y := (99, [.ref 35, .int a, .int b, .int c, .int d, .int e, .int 1, .int a], [], (zsF 20 v 1 ((1, ((a >>> (16 &&& 31)) &&& 255)) :: u)), 0, 0)) rfl ?_
  refine zg_nx (y := (100, [.ref 35, .int a, .int b, .int c, .int d, .int e, .int 1, .int a], [.ref 35], (zsF 20 v 1 ((1, ((a >>> (16 &&& 31)) &&& 255)) :: u)), 0, 0)) rfl ?_
  refine zg_nx (y := (101, [.ref 35, .int a, .int b, .int c, .int d, .int e, .int 1, .int a], [.ref 35, .ref 35], (zsF 20 v 1 ((1, ((a >>> (16 &&& 31)) &&& 255)) :: u)), 0, 0)) rfl ?_
  refine zg_nx (y := (104, [.ref 35, .int a, .int b, .int c, .int d, .int e, .int 1, .int a], [.int 1, .ref 35], (zsF 20 v 1 ((1, ((a >>> (16 &&& 31)) &&& 255)) :: u)), 0, 0)) rfl ?_
  refine zg_nx (y := (105, [.ref 35, .int a, .int b, .int c, .int d, .int e, .int 1, .int a], [.int 1, .int 1, .ref 35], (zsF 20 v 1 ((1, ((a >>> (16 &&& 31)) &&& 255)) :: u)), 0, 0)) rfl ?_
  refine zg_nx (y := (106, [.ref 35, .int a, .int b, .int c, .int d, .int e, .int 1, .int a], [.int 2, .ref 35], (zsF 20 v 1 ((1, ((a >>> (16 &&& 31)) &&& 255)) :: u)), 0, 0)) rfl ?_
  refine zg_nx (y := (109, [.ref 35, .int a, .int b, .int c, .int d, .int e, .int 1, .int a], [], (zsF 20 v 2 ((1, ((a >>> (16 &&& 31)) &&& 255)) :: u)), 0, 0)) rfl ?_
  refine zg_nx (y := (112, [.ref 35, .int a, .int b, .int c, .int d, .int e, .int 2, .int a], [], (zsF 20 v 2 ((1, ((a >>> (16 &&& 31)) &&& 255)) :: u)), 0, 0)) rfl ?_
  refine zg_nx (y := (18, [.ref 35, .int a, .int b, .int c, .int d, .int e, .int 2, .int a], [], (zsF 20 v 2 ((1, ((a >>> (16 &&& 31)) &&& 255)) :: u)), 0, 0)) rfl ?_
  exact hk

theorem zfr_3 {call : Nat → List Value → zS → Option (Option Value × zS)} {f : Nat} {o : Option (Option Value × zS)} {a b c d e : Int32} {v u : List (Nat × Int32)} (hk : zgo call zm_R_feed f (18, [.ref 35, .int a, .int b, .int c, .int d, .int e, .int 3, .int a], [], (zsF 20 v 3 ((2, ((a >>> (8 &&& 31)) &&& 255)) :: u)), 0, 0) = o) : zgo call zm_R_feed (f + 33) (18, [.ref 35, .int a, .int b, .int c, .int d, .int e, .int 2, .int a], [], (zsF 20 v 2 u), 0, 0) = o := by
  refine zg_nx (y := (20, [.ref 35, .int a, .int b, .int c, .int d, .int e, .int 2, .int a], [.int 2], (zsF 20 v 2 u), 0, 0)) rfl ?_
  refine zg_nx (y := (22, [.ref 35, .int a, .int b, .int c, .int d, .int e, .int 2, .int a], [.int 20, .int 2], (zsF 20 v 2 u), 0, 0)) rfl ?_
  refine zg_nx (y := (25, [.ref 35, .int a, .int b, .int c, .int d, .int e, .int 2, .int a], [], (zsF 20 v 2 u), 0, 0)) rfl ?_
  refine zg_nx (y := (27, [.ref 35, .int a, .int b, .int c, .int d, .int e, .int 2, .int a], [.int 2], (zsF 20 v 2 u), 0, 0)) rfl ?_
  refine zg_nx (y := (28, [.ref 35, .int a, .int b, .int c, .int d, .int e, .int 2, .int a], [.int 4, .int 2], (zsF 20 v 2 u), 0, 0)) rfl ?_
  refine zg_nx (y := (31, [.ref 35, .int a, .int b, .int c, .int d, .int e, .int 2, .int a], [], (zsF 20 v 2 u), 0, 0)) rfl ?_
  refine zg_nx (y := (32, [.ref 35, .int a, .int b, .int c, .int d, .int e, .int 2, .int a], [.int a], (zsF 20 v 2 u), 0, 0)) rfl ?_
  refine zg_nx (y := (71, [.ref 35, .int a, .int b, .int c, .int d, .int e, .int 2, .int a], [.int a], (zsF 20 v 2 u), 0, 0)) rfl ?_
  refine zg_nx (y := (73, [.ref 35, .int a, .int b, .int c, .int d, .int e, .int 2, .int a], [], (zsF 20 v 2 u), 0, 0)) rfl ?_
  refine zg_nx (y := (74, [.ref 35, .int a, .int b, .int c, .int d, .int e, .int 2, .int a], [.ref 35], (zsF 20 v 2 u), 0, 0)) rfl ?_
  refine zg_nx (y := (77, [.ref 35, .int a, .int b, .int c, .int d, .int e, .int 2, .int a], [.ref 36], (zsF 20 v 2 u), 0, 0)) rfl ?_
  refine zg_nx (y := (78, [.ref 35, .int a, .int b, .int c, .int d, .int e, .int 2, .int a], [.ref 35, .ref 36], (zsF 20 v 2 u), 0, 0)) rfl ?_
  refine zg_nx (y := (81, [.ref 35, .int a, .int b, .int c, .int d, .int e, .int 2, .int a], [.int 2, .ref 36], (zsF 20 v 2 u), 0, 0)) rfl ?_
  refine zg_nx (y := (83, [.ref 35, .int a, .int b, .int c, .int d, .int e, .int 2, .int a], [.int a, .int 2, .ref 36], (zsF 20 v 2 u), 0, 0)) rfl ?_
  refine zg_nx (y := (85, [.ref 35, .int a, .int b, .int c, .int d, .int e, .int 2, .int a], [.int 24, .int a, .int 2, .ref 36], (zsF 20 v 2 u), 0, 0)) rfl ?_
  refine zg_nx (y := (87, [.ref 35, .int a, .int b, .int c, .int d, .int e, .int 2, .int a], [.int 8, .int 24, .int a, .int 2, .ref 36], (zsF 20 v 2 u), 0, 0)) rfl ?_
  refine zg_nx (y := (89, [.ref 35, .int a, .int b, .int c, .int d, .int e, .int 2, .int a], [.int 2, .int 8, .int 24, .int a, .int 2, .ref 36], (zsF 20 v 2 u), 0, 0)) rfl ?_
  refine zg_nx (y := (90, [.ref 35, .int a, .int b, .int c, .int d, .int e, .int 2, .int a], [.int 4, .int 2, .int 8, .int 24, .int a, .int 2, .ref 36], (zsF 20 v 2 u), 0, 0)) rfl ?_
  refine zg_nx (y := (91, [.ref 35, .int a, .int b, .int c, .int d, .int e, .int 2, .int a], [.int 2, .int 8, .int 24, .int a, .int 2, .ref 36], (zsF 20 v 2 u), 0, 0)) rfl ?_
  refine zg_nx (y := (92, [.ref 35, .int a, .int b, .int c, .int d, .int e, .int 2, .int a], [.int 16, .int 24, .int a, .int 2, .ref 36], (zsF 20 v 2 u), 0, 0)) rfl ?_
  refine zg_nx (y := (93, [.ref 35, .int a, .int b, .int c, .int d, .int e, .int 2, .int a], [.int 8, .int a, .int 2, .ref 36], (zsF 20 v 2 u), 0, 0)) rfl ?_
  refine zg_nx (y := (94, [.ref 35, .int a, .int b, .int c, .int d, .int e, .int 2, .int a], [.int (a >>> (8 &&& 31)), .int 2, .ref 36], (zsF 20 v 2 u), 0, 0)) rfl ?_
  refine zg_nx (y := (97, [.ref 35, .int a, .int b, .int c, .int d, .int e, .int 2, .int a], [.int 255, .int (a >>> (8 &&& 31)), .int 2, .ref 36], (zsF 20 v 2 u), 0, 0)) rfl ?_
  refine zg_nx (y := (98, [.ref 35, .int a, .int b, .int c, .int d, .int e, .int 2, .int a], [.int ((a >>> (8 &&& 31)) &&& 255), .int 2, .ref 36], (zsF 20 v 2 u), 0, 0)) rfl ?_
  refine zg_nx (y := (99, [.ref 35, .int a, .int b, .int c, .int d, .int e, .int 2, .int a], [], (zsF 20 v 2 ((2, ((a >>> (8 &&& 31)) &&& 255)) :: u)), 0, 0)) rfl ?_
  refine zg_nx (y := (100, [.ref 35, .int a, .int b, .int c, .int d, .int e, .int 2, .int a], [.ref 35], (zsF 20 v 2 ((2, ((a >>> (8 &&& 31)) &&& 255)) :: u)), 0, 0)) rfl ?_
  refine zg_nx (y := (101, [.ref 35, .int a, .int b, .int c, .int d, .int e, .int 2, .int a], [.ref 35, .ref 35], (zsF 20 v 2 ((2, ((a >>> (8 &&& 31)) &&& 255)) :: u)), 0, 0)) rfl ?_
  refine zg_nx (y := (104, [.ref 35, .int a, .int b, .int c, .int d, .int e, .int 2, .int a], [.int 2, .ref 35], (zsF 20 v 2 ((2, ((a >>> (8 &&& 31)) &&& 255)) :: u)), 0, 0)) rfl ?_
  refine zg_nx (y := (105, [.ref 35, .int a, .int b, .int c, .int d, .int e, .int 2, .int a], [.int 1, .int 2, .ref 35], (zsF 20 v 2 ((2, ((a >>> (8 &&& 31)) &&& 255)) :: u)), 0, 0)) rfl ?_
  refine zg_nx (y := (106, [.ref 35, .int a, .int b, .int c, .int d, .int e, .int 2, .int a], [.int 3, .ref 35], (zsF 20 v 2 ((2, ((a >>> (8 &&& 31)) &&& 255)) :: u)), 0, 0)) rfl ?_
  refine zg_nx (y := (109, [.ref 35, .int a, .int b, .int c, .int d, .int e, .int 2, .int a], [], (zsF 20 v 3 ((2, ((a >>> (8 &&& 31)) &&& 255)) :: u)), 0, 0)) rfl ?_
  refine zg_nx (y := (112, [.ref 35, .int a, .int b, .int c, .int d, .int e, .int 3, .int a], [], (zsF 20 v 3 ((2, ((a >>> (8 &&& 31)) &&& 255)) :: u)), 0, 0)) rfl ?_
  refine zg_nx (y := (18, [.ref 35, .int a, .int b, .int c, .int d, .int e, .int 3, .int a], [], (zsF 20 v 3 ((2, ((a >>> (8 &&& 31)) &&& 255)) :: u)), 0, 0)) rfl ?_
  exact hk

theorem zfr_4 {call : Nat → List Value → zS → Option (Option Value × zS)} {f : Nat} {o : Option (Option Value × zS)} {a b c d e : Int32} {v u : List (Nat × Int32)} (hk : zgo call zm_R_feed f (18, [.ref 35, .int a, .int b, .int c, .int d, .int e, .int 4, .int a], [], (zsF 20 v 4 ((3, ((a >>> (0 &&& 31)) &&& 255)) :: u)), 0, 0) = o) : zgo call zm_R_feed (f + 33) (18, [.ref 35, .int a, .int b, .int c, .int d, .int e, .int 3, .int a], [], (zsF 20 v 3 u), 0, 0) = o := by
  refine zg_nx (y := (20, [.ref 35, .int a, .int b, .int c, .int d, .int e, .int 3, .int a], [.int 3], (zsF 20 v 3 u), 0, 0)) rfl ?_
  refine zg_nx (y := (22, [.ref 35, .int a, .int b, .int c, .int d, .int e, .int 3, .int a], [.int 20, .int 3], (zsF 20 v 3 u), 0, 0)) rfl ?_
  refine zg_nx (y := (25, [.ref 35, .int a, .int b, .int c, .int d, .int e, .int 3, .int a], [], (zsF 20 v 3 u), 0, 0)) rfl ?_
  refine zg_nx (y := (27, [.ref 35, .int a, .int b, .int c, .int d, .int e, .int 3, .int a], [.int 3], (zsF 20 v 3 u), 0, 0)) rfl ?_
  refine zg_nx (y := (28, [.ref 35, .int a, .int b, .int c, .int d, .int e, .int 3, .int a], [.int 4, .int 3], (zsF 20 v 3 u), 0, 0)) rfl ?_
  refine zg_nx (y := (31, [.ref 35, .int a, .int b, .int c, .int d, .int e, .int 3, .int a], [], (zsF 20 v 3 u), 0, 0)) rfl ?_
  refine zg_nx (y := (32, [.ref 35, .int a, .int b, .int c, .int d, .int e, .int 3, .int a], [.int a], (zsF 20 v 3 u), 0, 0)) rfl ?_
  refine zg_nx (y := (71, [.ref 35, .int a, .int b, .int c, .int d, .int e, .int 3, .int a], [.int a], (zsF 20 v 3 u), 0, 0)) rfl ?_
  refine zg_nx (y := (73, [.ref 35, .int a, .int b, .int c, .int d, .int e, .int 3, .int a], [], (zsF 20 v 3 u), 0, 0)) rfl ?_
  refine zg_nx (y := (74, [.ref 35, .int a, .int b, .int c, .int d, .int e, .int 3, .int a], [.ref 35], (zsF 20 v 3 u), 0, 0)) rfl ?_
  refine zg_nx (y := (77, [.ref 35, .int a, .int b, .int c, .int d, .int e, .int 3, .int a], [.ref 36], (zsF 20 v 3 u), 0, 0)) rfl ?_
  refine zg_nx (y := (78, [.ref 35, .int a, .int b, .int c, .int d, .int e, .int 3, .int a], [.ref 35, .ref 36], (zsF 20 v 3 u), 0, 0)) rfl ?_
  refine zg_nx (y := (81, [.ref 35, .int a, .int b, .int c, .int d, .int e, .int 3, .int a], [.int 3, .ref 36], (zsF 20 v 3 u), 0, 0)) rfl ?_
  refine zg_nx (y := (83, [.ref 35, .int a, .int b, .int c, .int d, .int e, .int 3, .int a], [.int a, .int 3, .ref 36], (zsF 20 v 3 u), 0, 0)) rfl ?_
  refine zg_nx (y := (85, [.ref 35, .int a, .int b, .int c, .int d, .int e, .int 3, .int a], [.int 24, .int a, .int 3, .ref 36], (zsF 20 v 3 u), 0, 0)) rfl ?_
  refine zg_nx (y := (87, [.ref 35, .int a, .int b, .int c, .int d, .int e, .int 3, .int a], [.int 8, .int 24, .int a, .int 3, .ref 36], (zsF 20 v 3 u), 0, 0)) rfl ?_
  refine zg_nx (y := (89, [.ref 35, .int a, .int b, .int c, .int d, .int e, .int 3, .int a], [.int 3, .int 8, .int 24, .int a, .int 3, .ref 36], (zsF 20 v 3 u), 0, 0)) rfl ?_
  refine zg_nx (y := (90, [.ref 35, .int a, .int b, .int c, .int d, .int e, .int 3, .int a], [.int 4, .int 3, .int 8, .int 24, .int a, .int 3, .ref 36], (zsF 20 v 3 u), 0, 0)) rfl ?_
  refine zg_nx (y := (91, [.ref 35, .int a, .int b, .int c, .int d, .int e, .int 3, .int a], [.int 3, .int 8, .int 24, .int a, .int 3, .ref 36], (zsF 20 v 3 u), 0, 0)) rfl ?_
  refine zg_nx (y := (92, [.ref 35, .int a, .int b, .int c, .int d, .int e, .int 3, .int a], [.int 24, .int 24, .int a, .int 3, .ref 36], (zsF 20 v 3 u), 0, 0)) rfl ?_
  refine zg_nx (y := (93, [.ref 35, .int a, .int b, .int c, .int d, .int e, .int 3, .int a], [.int 0, .int a, .int 3, .ref 36], (zsF 20 v 3 u), 0, 0)) rfl ?_
  refine zg_nx (y := (94, [.ref 35, .int a, .int b, .int c, .int d, .int e, .int 3, .int a], [.int (a >>> (0 &&& 31)), .int 3, .ref 36], (zsF 20 v 3 u), 0, 0)) rfl ?_
  refine zg_nx (y := (97, [.ref 35, .int a, .int b, .int c, .int d, .int e, .int 3, .int a], [.int 255, .int (a >>> (0 &&& 31)), .int 3, .ref 36], (zsF 20 v 3 u), 0, 0)) rfl ?_
  refine zg_nx (y := (98, [.ref 35, .int a, .int b, .int c, .int d, .int e, .int 3, .int a], [.int ((a >>> (0 &&& 31)) &&& 255), .int 3, .ref 36], (zsF 20 v 3 u), 0, 0)) rfl ?_
  refine zg_nx (y := (99, [.ref 35, .int a, .int b, .int c, .int d, .int e, .int 3, .int a], [], (zsF 20 v 3 ((3, ((a >>> (0 &&& 31)) &&& 255)) :: u)), 0, 0)) rfl ?_
  refine zg_nx (y := (100, [.ref 35, .int a, .int b, .int c, .int d, .int e, .int 3, .int a], [.ref 35], (zsF 20 v 3 ((3, ((a >>> (0 &&& 31)) &&& 255)) :: u)), 0, 0)) rfl ?_
  refine zg_nx (y := (101, [.ref 35, .int a, .int b, .int c, .int d, .int e, .int 3, .int a], [.ref 35, .ref 35], (zsF 20 v 3 ((3, ((a >>> (0 &&& 31)) &&& 255)) :: u)), 0, 0)) rfl ?_
  refine zg_nx (y := (104, [.ref 35, .int a, .int b, .int c, .int d, .int e, .int 3, .int a], [.int 3, .ref 35], (zsF 20 v 3 ((3, ((a >>> (0 &&& 31)) &&& 255)) :: u)), 0, 0)) rfl ?_
  refine zg_nx (y := (105, [.ref 35, .int a, .int b, .int c, .int d, .int e, .int 3, .int a], [.int 1, .int 3, .ref 35], (zsF 20 v 3 ((3, ((a >>> (0 &&& 31)) &&& 255)) :: u)), 0, 0)) rfl ?_
  refine zg_nx (y := (106, [.ref 35, .int a, .int b, .int c, .int d, .int e, .int 3, .int a], [.int 4, .ref 35], (zsF 20 v 3 ((3, ((a >>> (0 &&& 31)) &&& 255)) :: u)), 0, 0)) rfl ?_
  refine zg_nx (y := (109, [.ref 35, .int a, .int b, .int c, .int d, .int e, .int 3, .int a], [], (zsF 20 v 4 ((3, ((a >>> (0 &&& 31)) &&& 255)) :: u)), 0, 0)) rfl ?_
  refine zg_nx (y := (112, [.ref 35, .int a, .int b, .int c, .int d, .int e, .int 4, .int a], [], (zsF 20 v 4 ((3, ((a >>> (0 &&& 31)) &&& 255)) :: u)), 0, 0)) rfl ?_
  refine zg_nx (y := (18, [.ref 35, .int a, .int b, .int c, .int d, .int e, .int 4, .int a], [], (zsF 20 v 4 ((3, ((a >>> (0 &&& 31)) &&& 255)) :: u)), 0, 0)) rfl ?_
  exact hk

theorem zfr_5 {call : Nat → List Value → zS → Option (Option Value × zS)} {f : Nat} {o : Option (Option Value × zS)} {a b c d e : Int32} {v u : List (Nat × Int32)} (hk : zgo call zm_R_feed f (18, [.ref 35, .int a, .int b, .int c, .int d, .int e, .int 5, .int b], [], (zsF 20 v 5 ((4, ((b >>> (24 &&& 31)) &&& 255)) :: u)), 0, 0) = o) : zgo call zm_R_feed (f + 36) (18, [.ref 35, .int a, .int b, .int c, .int d, .int e, .int 4, .int a], [], (zsF 20 v 4 u), 0, 0) = o := by
  refine zg_nx (y := (20, [.ref 35, .int a, .int b, .int c, .int d, .int e, .int 4, .int a], [.int 4], (zsF 20 v 4 u), 0, 0)) rfl ?_
  refine zg_nx (y := (22, [.ref 35, .int a, .int b, .int c, .int d, .int e, .int 4, .int a], [.int 20, .int 4], (zsF 20 v 4 u), 0, 0)) rfl ?_
  refine zg_nx (y := (25, [.ref 35, .int a, .int b, .int c, .int d, .int e, .int 4, .int a], [], (zsF 20 v 4 u), 0, 0)) rfl ?_
  refine zg_nx (y := (27, [.ref 35, .int a, .int b, .int c, .int d, .int e, .int 4, .int a], [.int 4], (zsF 20 v 4 u), 0, 0)) rfl ?_
  refine zg_nx (y := (28, [.ref 35, .int a, .int b, .int c, .int d, .int e, .int 4, .int a], [.int 4, .int 4], (zsF 20 v 4 u), 0, 0)) rfl ?_
  refine zg_nx (y := (35, [.ref 35, .int a, .int b, .int c, .int d, .int e, .int 4, .int a], [], (zsF 20 v 4 u), 0, 0)) rfl ?_
  refine zg_nx (y := (37, [.ref 35, .int a, .int b, .int c, .int d, .int e, .int 4, .int a], [.int 4], (zsF 20 v 4 u), 0, 0)) rfl ?_
  refine zg_nx (y := (39, [.ref 35, .int a, .int b, .int c, .int d, .int e, .int 4, .int a], [.int 8, .int 4], (zsF 20 v 4 u), 0, 0)) rfl ?_
  refine zg_nx (y := (42, [.ref 35, .int a, .int b, .int c, .int d, .int e, .int 4, .int a], [], (zsF 20 v 4 u), 0, 0)) rfl ?_
  refine zg_nx (y := (43, [.ref 35, .int a, .int b, .int c, .int d, .int e, .int 4, .int a], [.int b], (zsF 20 v 4 u), 0, 0)) rfl ?_
  refine zg_nx (y := (71, [.ref 35, .int a, .int b, .int c, .int d, .int e, .int 4, .int a], [.int b], (zsF 20 v 4 u), 0, 0)) rfl ?_
  refine zg_nx (y := (73, [.ref 35, .int a, .int b, .int c, .int d, .int e, .int 4, .int b], [], (zsF 20 v 4 u), 0, 0)) rfl ?_
  refine zg_nx (y := (74, [.ref 35, .int a, .int b, .int c, .int d, .int e, .int 4, .int b], [.ref 35], (zsF 20 v 4 u), 0, 0)) rfl ?_
  refine zg_nx (y := (77, [.ref 35, .int a, .int b, .int c, .int d, .int e, .int 4, .int b], [.ref 36], (zsF 20 v 4 u), 0, 0)) rfl ?_
  refine zg_nx (y := (78, [.ref 35, .int a, .int b, .int c, .int d, .int e, .int 4, .int b], [.ref 35, .ref 36], (zsF 20 v 4 u), 0, 0)) rfl ?_
  refine zg_nx (y := (81, [.ref 35, .int a, .int b, .int c, .int d, .int e, .int 4, .int b], [.int 4, .ref 36], (zsF 20 v 4 u), 0, 0)) rfl ?_
  refine zg_nx (y := (83, [.ref 35, .int a, .int b, .int c, .int d, .int e, .int 4, .int b], [.int b, .int 4, .ref 36], (zsF 20 v 4 u), 0, 0)) rfl ?_
  refine zg_nx (y := (85, [.ref 35, .int a, .int b, .int c, .int d, .int e, .int 4, .int b], [.int 24, .int b, .int 4, .ref 36], (zsF 20 v 4 u), 0, 0)) rfl ?_
  refine zg_nx (y := (87, [.ref 35, .int a, .int b, .int c, .int d, .int e, .int 4, .int b], [.int 8, .int 24, .int b, .int 4, .ref 36], (zsF 20 v 4 u), 0, 0)) rfl ?_
  refine zg_nx (y := (89, [.ref 35, .int a, .int b, .int c, .int d, .int e, .int 4, .int b], [.int 4, .int 8, .int 24, .int b, .int 4, .ref 36], (zsF 20 v 4 u), 0, 0)) rfl ?_
  refine zg_nx (y := (90, [.ref 35, .int a, .int b, .int c, .int d, .int e, .int 4, .int b], [.int 4, .int 4, .int 8, .int 24, .int b, .int 4, .ref 36], (zsF 20 v 4 u), 0, 0)) rfl ?_
  refine zg_nx (y := (91, [.ref 35, .int a, .int b, .int c, .int d, .int e, .int 4, .int b], [.int 0, .int 8, .int 24, .int b, .int 4, .ref 36], (zsF 20 v 4 u), 0, 0)) rfl ?_
  refine zg_nx (y := (92, [.ref 35, .int a, .int b, .int c, .int d, .int e, .int 4, .int b], [.int 0, .int 24, .int b, .int 4, .ref 36], (zsF 20 v 4 u), 0, 0)) rfl ?_
  refine zg_nx (y := (93, [.ref 35, .int a, .int b, .int c, .int d, .int e, .int 4, .int b], [.int 24, .int b, .int 4, .ref 36], (zsF 20 v 4 u), 0, 0)) rfl ?_
  refine zg_nx (y := (94, [.ref 35, .int a, .int b, .int c, .int d, .int e, .int 4, .int b], [.int (b >>> (24 &&& 31)), .int 4, .ref 36], (zsF 20 v 4 u), 0, 0)) rfl ?_
  refine zg_nx (y := (97, [.ref 35, .int a, .int b, .int c, .int d, .int e, .int 4, .int b], [.int 255, .int (b >>> (24 &&& 31)), .int 4, .ref 36], (zsF 20 v 4 u), 0, 0)) rfl ?_
  refine zg_nx (y := (98, [.ref 35, .int a, .int b, .int c, .int d, .int e, .int 4, .int b], [.int ((b >>> (24 &&& 31)) &&& 255), .int 4, .ref 36], (zsF 20 v 4 u), 0, 0)) rfl ?_
  refine zg_nx (y := (99, [.ref 35, .int a, .int b, .int c, .int d, .int e, .int 4, .int b], [], (zsF 20 v 4 ((4, ((b >>> (24 &&& 31)) &&& 255)) :: u)), 0, 0)) rfl ?_
  refine zg_nx (y := (100, [.ref 35, .int a, .int b, .int c, .int d, .int e, .int 4, .int b], [.ref 35], (zsF 20 v 4 ((4, ((b >>> (24 &&& 31)) &&& 255)) :: u)), 0, 0)) rfl ?_
  refine zg_nx (y := (101, [.ref 35, .int a, .int b, .int c, .int d, .int e, .int 4, .int b], [.ref 35, .ref 35], (zsF 20 v 4 ((4, ((b >>> (24 &&& 31)) &&& 255)) :: u)), 0, 0)) rfl ?_
  refine zg_nx (y := (104, [.ref 35, .int a, .int b, .int c, .int d, .int e, .int 4, .int b], [.int 4, .ref 35], (zsF 20 v 4 ((4, ((b >>> (24 &&& 31)) &&& 255)) :: u)), 0, 0)) rfl ?_
  refine zg_nx (y := (105, [.ref 35, .int a, .int b, .int c, .int d, .int e, .int 4, .int b], [.int 1, .int 4, .ref 35], (zsF 20 v 4 ((4, ((b >>> (24 &&& 31)) &&& 255)) :: u)), 0, 0)) rfl ?_
  refine zg_nx (y := (106, [.ref 35, .int a, .int b, .int c, .int d, .int e, .int 4, .int b], [.int 5, .ref 35], (zsF 20 v 4 ((4, ((b >>> (24 &&& 31)) &&& 255)) :: u)), 0, 0)) rfl ?_
  refine zg_nx (y := (109, [.ref 35, .int a, .int b, .int c, .int d, .int e, .int 4, .int b], [], (zsF 20 v 5 ((4, ((b >>> (24 &&& 31)) &&& 255)) :: u)), 0, 0)) rfl ?_
  refine zg_nx (y := (112, [.ref 35, .int a, .int b, .int c, .int d, .int e, .int 5, .int b], [], (zsF 20 v 5 ((4, ((b >>> (24 &&& 31)) &&& 255)) :: u)), 0, 0)) rfl ?_
  refine zg_nx (y := (18, [.ref 35, .int a, .int b, .int c, .int d, .int e, .int 5, .int b], [], (zsF 20 v 5 ((4, ((b >>> (24 &&& 31)) &&& 255)) :: u)), 0, 0)) rfl ?_
  exact hk

theorem zfr_6 {call : Nat → List Value → zS → Option (Option Value × zS)} {f : Nat} {o : Option (Option Value × zS)} {a b c d e : Int32} {v u : List (Nat × Int32)} (hk : zgo call zm_R_feed f (18, [.ref 35, .int a, .int b, .int c, .int d, .int e, .int 6, .int b], [], (zsF 20 v 6 ((5, ((b >>> (16 &&& 31)) &&& 255)) :: u)), 0, 0) = o) : zgo call zm_R_feed (f + 36) (18, [.ref 35, .int a, .int b, .int c, .int d, .int e, .int 5, .int b], [], (zsF 20 v 5 u), 0, 0) = o := by
  refine zg_nx (y := (20, [.ref 35, .int a, .int b, .int c, .int d, .int e, .int 5, .int b], [.int 5], (zsF 20 v 5 u), 0, 0)) rfl ?_
  refine zg_nx (y := (22, [.ref 35, .int a, .int b, .int c, .int d, .int e, .int 5, .int b], [.int 20, .int 5], (zsF 20 v 5 u), 0, 0)) rfl ?_
  refine zg_nx (y := (25, [.ref 35, .int a, .int b, .int c, .int d, .int e, .int 5, .int b], [], (zsF 20 v 5 u), 0, 0)) rfl ?_
  refine zg_nx (y := (27, [.ref 35, .int a, .int b, .int c, .int d, .int e, .int 5, .int b], [.int 5], (zsF 20 v 5 u), 0, 0)) rfl ?_
  refine zg_nx (y := (28, [.ref 35, .int a, .int b, .int c, .int d, .int e, .int 5, .int b], [.int 4, .int 5], (zsF 20 v 5 u), 0, 0)) rfl ?_
  refine zg_nx (y := (35, [.ref 35, .int a, .int b, .int c, .int d, .int e, .int 5, .int b], [], (zsF 20 v 5 u), 0, 0)) rfl ?_
  refine zg_nx (y := (37, [.ref 35, .int a, .int b, .int c, .int d, .int e, .int 5, .int b], [.int 5], (zsF 20 v 5 u), 0, 0)) rfl ?_
  refine zg_nx (y := (39, [.ref 35, .int a, .int b, .int c, .int d, .int e, .int 5, .int b], [.int 8, .int 5], (zsF 20 v 5 u), 0, 0)) rfl ?_
  refine zg_nx (y := (42, [.ref 35, .int a, .int b, .int c, .int d, .int e, .int 5, .int b], [], (zsF 20 v 5 u), 0, 0)) rfl ?_
  refine zg_nx (y := (43, [.ref 35, .int a, .int b, .int c, .int d, .int e, .int 5, .int b], [.int b], (zsF 20 v 5 u), 0, 0)) rfl ?_
  refine zg_nx (y := (71, [.ref 35, .int a, .int b, .int c, .int d, .int e, .int 5, .int b], [.int b], (zsF 20 v 5 u), 0, 0)) rfl ?_
  refine zg_nx (y := (73, [.ref 35, .int a, .int b, .int c, .int d, .int e, .int 5, .int b], [], (zsF 20 v 5 u), 0, 0)) rfl ?_
  refine zg_nx (y := (74, [.ref 35, .int a, .int b, .int c, .int d, .int e, .int 5, .int b], [.ref 35], (zsF 20 v 5 u), 0, 0)) rfl ?_
  refine zg_nx (y := (77, [.ref 35, .int a, .int b, .int c, .int d, .int e, .int 5, .int b], [.ref 36], (zsF 20 v 5 u), 0, 0)) rfl ?_
  refine zg_nx (y := (78, [.ref 35, .int a, .int b, .int c, .int d, .int e, .int 5, .int b], [.ref 35, .ref 36], (zsF 20 v 5 u), 0, 0)) rfl ?_
  refine zg_nx (y := (81, [.ref 35, .int a, .int b, .int c, .int d, .int e, .int 5, .int b], [.int 5, .ref 36], (zsF 20 v 5 u), 0, 0)) rfl ?_
  refine zg_nx (y := (83, [.ref 35, .int a, .int b, .int c, .int d, .int e, .int 5, .int b], [.int b, .int 5, .ref 36], (zsF 20 v 5 u), 0, 0)) rfl ?_
  refine zg_nx (y := (85, [.ref 35, .int a, .int b, .int c, .int d, .int e, .int 5, .int b], [.int 24, .int b, .int 5, .ref 36], (zsF 20 v 5 u), 0, 0)) rfl ?_
  refine zg_nx (y := (87, [.ref 35, .int a, .int b, .int c, .int d, .int e, .int 5, .int b], [.int 8, .int 24, .int b, .int 5, .ref 36], (zsF 20 v 5 u), 0, 0)) rfl ?_
  refine zg_nx (y := (89, [.ref 35, .int a, .int b, .int c, .int d, .int e, .int 5, .int b], [.int 5, .int 8, .int 24, .int b, .int 5, .ref 36], (zsF 20 v 5 u), 0, 0)) rfl ?_
  refine zg_nx (y := (90, [.ref 35, .int a, .int b, .int c, .int d, .int e, .int 5, .int b], [.int 4, .int 5, .int 8, .int 24, .int b, .int 5, .ref 36], (zsF 20 v 5 u), 0, 0)) rfl ?_
  refine zg_nx (y := (91, [.ref 35, .int a, .int b, .int c, .int d, .int e, .int 5, .int b], [.int 1, .int 8, .int 24, .int b, .int 5, .ref 36], (zsF 20 v 5 u), 0, 0)) rfl ?_
  refine zg_nx (y := (92, [.ref 35, .int a, .int b, .int c, .int d, .int e, .int 5, .int b], [.int 8, .int 24, .int b, .int 5, .ref 36], (zsF 20 v 5 u), 0, 0)) rfl ?_
  refine zg_nx (y := (93, [.ref 35, .int a, .int b, .int c, .int d, .int e, .int 5, .int b], [.int 16, .int b, .int 5, .ref 36], (zsF 20 v 5 u), 0, 0)) rfl ?_
  refine zg_nx (y := (94, [.ref 35, .int a, .int b, .int c, .int d, .int e, .int 5, .int b], [.int (b >>> (16 &&& 31)), .int 5, .ref 36], (zsF 20 v 5 u), 0, 0)) rfl ?_
  refine zg_nx (y := (97, [.ref 35, .int a, .int b, .int c, .int d, .int e, .int 5, .int b], [.int 255, .int (b >>> (16 &&& 31)), .int 5, .ref 36], (zsF 20 v 5 u), 0, 0)) rfl ?_
  refine zg_nx (y := (98, [.ref 35, .int a, .int b, .int c, .int d, .int e, .int 5, .int b], [.int ((b >>> (16 &&& 31)) &&& 255), .int 5, .ref 36], (zsF 20 v 5 u), 0, 0)) rfl ?_
  refine zg_nx (y := (99, [.ref 35, .int a, .int b, .int c, .int d, .int e, .int 5, .int b], [], (zsF 20 v 5 ((5, ((b >>> (16 &&& 31)) &&& 255)) :: u)), 0, 0)) rfl ?_
  refine zg_nx (y := (100, [.ref 35, .int a, .int b, .int c, .int d, .int e, .int 5, .int b], [.ref 35], (zsF 20 v 5 ((5, ((b >>> (16 &&& 31)) &&& 255)) :: u)), 0, 0)) rfl ?_
  refine zg_nx (y := (101, [.ref 35, .int a, .int b, .int c, .int d, .int e, .int 5, .int b], [.ref 35, .ref 35], (zsF 20 v 5 ((5, ((b >>> (16 &&& 31)) &&& 255)) :: u)), 0, 0)) rfl ?_
  refine zg_nx (y := (104, [.ref 35, .int a, .int b, .int c, .int d, .int e, .int 5, .int b], [.int 5, .ref 35], (zsF 20 v 5 ((5, ((b >>> (16 &&& 31)) &&& 255)) :: u)), 0, 0)) rfl ?_
  refine zg_nx (y := (105, [.ref 35, .int a, .int b, .int c, .int d, .int e, .int 5, .int b], [.int 1, .int 5, .ref 35], (zsF 20 v 5 ((5, ((b >>> (16 &&& 31)) &&& 255)) :: u)), 0, 0)) rfl ?_
  refine zg_nx (y := (106, [.ref 35, .int a, .int b, .int c, .int d, .int e, .int 5, .int b], [.int 6, .ref 35], (zsF 20 v 5 ((5, ((b >>> (16 &&& 31)) &&& 255)) :: u)), 0, 0)) rfl ?_
  refine zg_nx (y := (109, [.ref 35, .int a, .int b, .int c, .int d, .int e, .int 5, .int b], [], (zsF 20 v 6 ((5, ((b >>> (16 &&& 31)) &&& 255)) :: u)), 0, 0)) rfl ?_
  refine zg_nx (y := (112, [.ref 35, .int a, .int b, .int c, .int d, .int e, .int 6, .int b], [], (zsF 20 v 6 ((5, ((b >>> (16 &&& 31)) &&& 255)) :: u)), 0, 0)) rfl ?_
  refine zg_nx (y := (18, [.ref 35, .int a, .int b, .int c, .int d, .int e, .int 6, .int b], [], (zsF 20 v 6 ((5, ((b >>> (16 &&& 31)) &&& 255)) :: u)), 0, 0)) rfl ?_
  exact hk

theorem zfr_7 {call : Nat → List Value → zS → Option (Option Value × zS)} {f : Nat} {o : Option (Option Value × zS)} {a b c d e : Int32} {v u : List (Nat × Int32)} (hk : zgo call zm_R_feed f (18, [.ref 35, .int a, .int b, .int c, .int d, .int e, .int 7, .int b], [], (zsF 20 v 7 ((6, ((b >>> (8 &&& 31)) &&& 255)) :: u)), 0, 0) = o) : zgo call zm_R_feed (f + 36) (18, [.ref 35, .int a, .int b, .int c, .int d, .int e, .int 6, .int b], [], (zsF 20 v 6 u), 0, 0) = o := by
  refine zg_nx (y := (20, [.ref 35, .int a, .int b, .int c, .int d, .int e, .int 6, .int b], [.int 6], (zsF 20 v 6 u), 0, 0)) rfl ?_
  refine zg_nx (y := (22, [.ref 35, .int a, .int b, .int c, .int d, .int e, .int 6, .int b], [.int 20, .int 6], (zsF 20 v 6 u), 0, 0)) rfl ?_
  refine zg_nx (y := (25, [.ref 35, .int a, .int b, .int c, .int d, .int e, .int 6, .int b], [], (zsF 20 v 6 u), 0, 0)) rfl ?_
  refine zg_nx (y := (27, [.ref 35, .int a, .int b, .int c, .int d, .int e, .int 6, .int b], [.int 6], (zsF 20 v 6 u), 0, 0)) rfl ?_
  refine zg_nx (y := (28, [.ref 35, .int a, .int b, .int c, .int d, .int e, .int 6, .int b], [.int 4, .int 6], (zsF 20 v 6 u), 0, 0)) rfl ?_
  refine zg_nx (y := (35, [.ref 35, .int a, .int b, .int c, .int d, .int e, .int 6, .int b], [], (zsF 20 v 6 u), 0, 0)) rfl ?_
  refine zg_nx (y := (37, [.ref 35, .int a, .int b, .int c, .int d, .int e, .int 6, .int b], [.int 6], (zsF 20 v 6 u), 0, 0)) rfl ?_
  refine zg_nx (y := (39, [.ref 35, .int a, .int b, .int c, .int d, .int e, .int 6, .int b], [.int 8, .int 6], (zsF 20 v 6 u), 0, 0)) rfl ?_
  refine zg_nx (y := (42, [.ref 35, .int a, .int b, .int c, .int d, .int e, .int 6, .int b], [], (zsF 20 v 6 u), 0, 0)) rfl ?_
  refine zg_nx (y := (43, [.ref 35, .int a, .int b, .int c, .int d, .int e, .int 6, .int b], [.int b], (zsF 20 v 6 u), 0, 0)) rfl ?_
  refine zg_nx (y := (71, [.ref 35, .int a, .int b, .int c, .int d, .int e, .int 6, .int b], [.int b], (zsF 20 v 6 u), 0, 0)) rfl ?_
  refine zg_nx (y := (73, [.ref 35, .int a, .int b, .int c, .int d, .int e, .int 6, .int b], [], (zsF 20 v 6 u), 0, 0)) rfl ?_
  refine zg_nx (y := (74, [.ref 35, .int a, .int b, .int c, .int d, .int e, .int 6, .int b], [.ref 35], (zsF 20 v 6 u), 0, 0)) rfl ?_
  refine zg_nx (y := (77, [.ref 35, .int a, .int b, .int c, .int d, .int e, .int 6, .int b], [.ref 36], (zsF 20 v 6 u), 0, 0)) rfl ?_
  refine zg_nx (y := (78, [.ref 35, .int a, .int b, .int c, .int d, .int e, .int 6, .int b], [.ref 35, .ref 36], (zsF 20 v 6 u), 0, 0)) rfl ?_
  refine zg_nx (y := (81, [.ref 35, .int a, .int b, .int c, .int d, .int e, .int 6, .int b], [.int 6, .ref 36], (zsF 20 v 6 u), 0, 0)) rfl ?_
  refine zg_nx (y := (83, [.ref 35, .int a, .int b, .int c, .int d, .int e, .int 6, .int b], [.int b, .int 6, .ref 36], (zsF 20 v 6 u), 0, 0)) rfl ?_
  refine zg_nx (y := (85, [.ref 35, .int a, .int b, .int c, .int d, .int e, .int 6, .int b], [.int 24, .int b, .int 6, .ref 36], (zsF 20 v 6 u), 0, 0)) rfl ?_
  refine zg_nx (y := (87, [.ref 35, .int a, .int b, .int c, .int d, .int e, .int 6, .int b], [.int 8, .int 24, .int b, .int 6, .ref 36], (zsF 20 v 6 u), 0, 0)) rfl ?_
  refine zg_nx (y := (89, [.ref 35, .int a, .int b, .int c, .int d, .int e, .int 6, .int b], [.int 6, .int 8, .int 24, .int b, .int 6, .ref 36], (zsF 20 v 6 u), 0, 0)) rfl ?_
  refine zg_nx (y := (90, [.ref 35, .int a, .int b, .int c, .int d, .int e, .int 6, .int b], [.int 4, .int 6, .int 8, .int 24, .int b, .int 6, .ref 36], (zsF 20 v 6 u), 0, 0)) rfl ?_
  refine zg_nx (y := (91, [.ref 35, .int a, .int b, .int c, .int d, .int e, .int 6, .int b], [.int 2, .int 8, .int 24, .int b, .int 6, .ref 36], (zsF 20 v 6 u), 0, 0)) rfl ?_
  refine zg_nx (y := (92, [.ref 35, .int a, .int b, .int c, .int d, .int e, .int 6, .int b], [.int 16, .int 24, .int b, .int 6, .ref 36], (zsF 20 v 6 u), 0, 0)) rfl ?_
  refine zg_nx (y := (93, [.ref 35, .int a, .int b, .int c, .int d, .int e, .int 6, .int b], [.int 8, .int b, .int 6, .ref 36], (zsF 20 v 6 u), 0, 0)) rfl ?_
  refine zg_nx (y := (94, [.ref 35, .int a, .int b, .int c, .int d, .int e, .int 6, .int b], [.int (b >>> (8 &&& 31)), .int 6, .ref 36], (zsF 20 v 6 u), 0, 0)) rfl ?_
  refine zg_nx (y := (97, [.ref 35, .int a, .int b, .int c, .int d, .int e, .int 6, .int b], [.int 255, .int (b >>> (8 &&& 31)), .int 6, .ref 36], (zsF 20 v 6 u), 0, 0)) rfl ?_
  refine zg_nx (y := (98, [.ref 35, .int a, .int b, .int c, .int d, .int e, .int 6, .int b], [.int ((b >>> (8 &&& 31)) &&& 255), .int 6, .ref 36], (zsF 20 v 6 u), 0, 0)) rfl ?_
  refine zg_nx (y := (99, [.ref 35, .int a, .int b, .int c, .int d, .int e, .int 6, .int b], [], (zsF 20 v 6 ((6, ((b >>> (8 &&& 31)) &&& 255)) :: u)), 0, 0)) rfl ?_
  refine zg_nx (y := (100, [.ref 35, .int a, .int b, .int c, .int d, .int e, .int 6, .int b], [.ref 35], (zsF 20 v 6 ((6, ((b >>> (8 &&& 31)) &&& 255)) :: u)), 0, 0)) rfl ?_
  refine zg_nx (y := (101, [.ref 35, .int a, .int b, .int c, .int d, .int e, .int 6, .int b], [.ref 35, .ref 35], (zsF 20 v 6 ((6, ((b >>> (8 &&& 31)) &&& 255)) :: u)), 0, 0)) rfl ?_
  refine zg_nx (y := (104, [.ref 35, .int a, .int b, .int c, .int d, .int e, .int 6, .int b], [.int 6, .ref 35], (zsF 20 v 6 ((6, ((b >>> (8 &&& 31)) &&& 255)) :: u)), 0, 0)) rfl ?_
  refine zg_nx (y := (105, [.ref 35, .int a, .int b, .int c, .int d, .int e, .int 6, .int b], [.int 1, .int 6, .ref 35], (zsF 20 v 6 ((6, ((b >>> (8 &&& 31)) &&& 255)) :: u)), 0, 0)) rfl ?_
  refine zg_nx (y := (106, [.ref 35, .int a, .int b, .int c, .int d, .int e, .int 6, .int b], [.int 7, .ref 35], (zsF 20 v 6 ((6, ((b >>> (8 &&& 31)) &&& 255)) :: u)), 0, 0)) rfl ?_
  refine zg_nx (y := (109, [.ref 35, .int a, .int b, .int c, .int d, .int e, .int 6, .int b], [], (zsF 20 v 7 ((6, ((b >>> (8 &&& 31)) &&& 255)) :: u)), 0, 0)) rfl ?_
  refine zg_nx (y := (112, [.ref 35, .int a, .int b, .int c, .int d, .int e, .int 7, .int b], [], (zsF 20 v 7 ((6, ((b >>> (8 &&& 31)) &&& 255)) :: u)), 0, 0)) rfl ?_
  refine zg_nx (y := (18, [.ref 35, .int a, .int b, .int c, .int d, .int e, .int 7, .int b], [], (zsF 20 v 7 ((6, ((b >>> (8 &&& 31)) &&& 255)) :: u)), 0, 0)) rfl ?_
  exact hk

theorem zfr_8 {call : Nat → List Value → zS → Option (Option Value × zS)} {f : Nat} {o : Option (Option Value × zS)} {a b c d e : Int32} {v u : List (Nat × Int32)} (hk : zgo call zm_R_feed f (18, [.ref 35, .int a, .int b, .int c, .int d, .int e, .int 8, .int b], [], (zsF 20 v 8 ((7, ((b >>> (0 &&& 31)) &&& 255)) :: u)), 0, 0) = o) : zgo call zm_R_feed (f + 36) (18, [.ref 35, .int a, .int b, .int c, .int d, .int e, .int 7, .int b], [], (zsF 20 v 7 u), 0, 0) = o := by
  refine zg_nx (y := (20, [.ref 35, .int a, .int b, .int c, .int d, .int e, .int 7, .int b], [.int 7], (zsF 20 v 7 u), 0, 0)) rfl ?_
  refine zg_nx (y := (22, [.ref 35, .int a, .int b, .int c, .int d, .int e, .int 7, .int b], [.int 20, .int 7], (zsF 20 v 7 u), 0, 0)) rfl ?_
  refine zg_nx (y := (25, [.ref 35, .int a, .int b, .int c, .int d, .int e, .int 7, .int b], [], (zsF 20 v 7 u), 0, 0)) rfl ?_
  refine zg_nx (y := (27, [.ref 35, .int a, .int b, .int c, .int d, .int e, .int 7, .int b], [.int 7], (zsF 20 v 7 u), 0, 0)) rfl ?_
  refine zg_nx (y := (28, [.ref 35, .int a, .int b, .int c, .int d, .int e, .int 7, .int b], [.int 4, .int 7], (zsF 20 v 7 u), 0, 0)) rfl ?_
  refine zg_nx (y := (35, [.ref 35, .int a, .int b, .int c, .int d, .int e, .int 7, .int b], [], (zsF 20 v 7 u), 0, 0)) rfl ?_
  refine zg_nx (y := (37, [.ref 35, .int a, .int b, .int c, .int d, .int e, .int 7, .int b], [.int 7], (zsF 20 v 7 u), 0, 0)) rfl ?_
  refine zg_nx (y := (39, [.ref 35, .int a, .int b, .int c, .int d, .int e, .int 7, .int b], [.int 8, .int 7], (zsF 20 v 7 u), 0, 0)) rfl ?_
  refine zg_nx (y := (42, [.ref 35, .int a, .int b, .int c, .int d, .int e, .int 7, .int b], [], (zsF 20 v 7 u), 0, 0)) rfl ?_
  refine zg_nx (y := (43, [.ref 35, .int a, .int b, .int c, .int d, .int e, .int 7, .int b], [.int b], (zsF 20 v 7 u), 0, 0)) rfl ?_
  refine zg_nx (y := (71, [.ref 35, .int a, .int b, .int c, .int d, .int e, .int 7, .int b], [.int b], (zsF 20 v 7 u), 0, 0)) rfl ?_
  refine zg_nx (y := (73, [.ref 35, .int a, .int b, .int c, .int d, .int e, .int 7, .int b], [], (zsF 20 v 7 u), 0, 0)) rfl ?_
  refine zg_nx (y := (74, [.ref 35, .int a, .int b, .int c, .int d, .int e, .int 7, .int b], [.ref 35], (zsF 20 v 7 u), 0, 0)) rfl ?_
  refine zg_nx (y := (77, [.ref 35, .int a, .int b, .int c, .int d, .int e, .int 7, .int b], [.ref 36], (zsF 20 v 7 u), 0, 0)) rfl ?_
  refine zg_nx (y := (78, [.ref 35, .int a, .int b, .int c, .int d, .int e, .int 7, .int b], [.ref 35, .ref 36], (zsF 20 v 7 u), 0, 0)) rfl ?_
  refine zg_nx (y := (81, [.ref 35, .int a, .int b, .int c, .int d, .int e, .int 7, .int b], [.int 7, .ref 36], (zsF 20 v 7 u), 0, 0)) rfl ?_
  refine zg_nx (y := (83, [.ref 35, .int a, .int b, .int c, .int d, .int e, .int 7, .int b], [.int b, .int 7, .ref 36], (zsF 20 v 7 u), 0, 0)) rfl ?_
  refine zg_nx (y := (85, [.ref 35, .int a, .int b, .int c, .int d, .int e, .int 7, .int b], [.int 24, .int b, .int 7, .ref 36], (zsF 20 v 7 u), 0, 0)) rfl ?_
  refine zg_nx (y := (87, [.ref 35, .int a, .int b, .int c, .int d, .int e, .int 7, .int b], [.int 8, .int 24, .int b, .int 7, .ref 36], (zsF 20 v 7 u), 0, 0)) rfl ?_
  refine zg_nx (y := (89, [.ref 35, .int a, .int b, .int c, .int d, .int e, .int 7, .int b], [.int 7, .int 8, .int 24, .int b, .int 7, .ref 36], (zsF 20 v 7 u), 0, 0)) rfl ?_
  refine zg_nx (y := (90, [.ref 35, .int a, .int b, .int c, .int d, .int e, .int 7, .int b], [.int 4, .int 7, .int 8, .int 24, .int b, .int 7, .ref 36], (zsF 20 v 7 u), 0, 0)) rfl ?_
  refine zg_nx (y := (91, [.ref 35, .int a, .int b, .int c, .int d, .int e, .int 7, .int b], [.int 3, .int 8, .int 24, .int b, .int 7, .ref 36], (zsF 20 v 7 u), 0, 0)) rfl ?_
  refine zg_nx (y := (92, [.ref 35, .int a, .int b, .int c, .int d, .int e, .int 7, .int b], [.int 24, .int 24, .int b, .int 7, .ref 36], (zsF 20 v 7 u), 0, 0)) rfl ?_
  refine zg_nx (y := (93, [.ref 35, .int a, .int b, .int c, .int d, .int e, .int 7, .int b], [.int 0, .int b, .int 7, .ref 36], (zsF 20 v 7 u), 0, 0)) rfl ?_
  refine zg_nx (y := (94, [.ref 35, .int a, .int b, .int c, .int d, .int e, .int 7, .int b], [.int (b >>> (0 &&& 31)), .int 7, .ref 36], (zsF 20 v 7 u), 0, 0)) rfl ?_
  refine zg_nx (y := (97, [.ref 35, .int a, .int b, .int c, .int d, .int e, .int 7, .int b], [.int 255, .int (b >>> (0 &&& 31)), .int 7, .ref 36], (zsF 20 v 7 u), 0, 0)) rfl ?_
  refine zg_nx (y := (98, [.ref 35, .int a, .int b, .int c, .int d, .int e, .int 7, .int b], [.int ((b >>> (0 &&& 31)) &&& 255), .int 7, .ref 36], (zsF 20 v 7 u), 0, 0)) rfl ?_
  refine zg_nx (y := (99, [.ref 35, .int a, .int b, .int c, .int d, .int e, .int 7, .int b], [], (zsF 20 v 7 ((7, ((b >>> (0 &&& 31)) &&& 255)) :: u)), 0, 0)) rfl ?_
  refine zg_nx (y := (100, [.ref 35, .int a, .int b, .int c, .int d, .int e, .int 7, .int b], [.ref 35], (zsF 20 v 7 ((7, ((b >>> (0 &&& 31)) &&& 255)) :: u)), 0, 0)) rfl ?_
  refine zg_nx (y := (101, [.ref 35, .int a, .int b, .int c, .int d, .int e, .int 7, .int b], [.ref 35, .ref 35], (zsF 20 v 7 ((7, ((b >>> (0 &&& 31)) &&& 255)) :: u)), 0, 0)) rfl ?_
  refine zg_nx (y := (104, [.ref 35, .int a, .int b, .int c, .int d, .int e, .int 7, .int b], [.int 7, .ref 35], (zsF 20 v 7 ((7, ((b >>> (0 &&& 31)) &&& 255)) :: u)), 0, 0)) rfl ?_
  refine zg_nx (y := (105, [.ref 35, .int a, .int b, .int c, .int d, .int e, .int 7, .int b], [.int 1, .int 7, .ref 35], (zsF 20 v 7 ((7, ((b >>> (0 &&& 31)) &&& 255)) :: u)), 0, 0)) rfl ?_
  refine zg_nx (y := (106, [.ref 35, .int a, .int b, .int c, .int d, .int e, .int 7, .int b], [.int 8, .ref 35], (zsF 20 v 7 ((7, ((b >>> (0 &&& 31)) &&& 255)) :: u)), 0, 0)) rfl ?_
  refine zg_nx (y := (109, [.ref 35, .int a, .int b, .int c, .int d, .int e, .int 7, .int b], [], (zsF 20 v 8 ((7, ((b >>> (0 &&& 31)) &&& 255)) :: u)), 0, 0)) rfl ?_
  refine zg_nx (y := (112, [.ref 35, .int a, .int b, .int c, .int d, .int e, .int 8, .int b], [], (zsF 20 v 8 ((7, ((b >>> (0 &&& 31)) &&& 255)) :: u)), 0, 0)) rfl ?_
  refine zg_nx (y := (18, [.ref 35, .int a, .int b, .int c, .int d, .int e, .int 8, .int b], [], (zsF 20 v 8 ((7, ((b >>> (0 &&& 31)) &&& 255)) :: u)), 0, 0)) rfl ?_
  exact hk

theorem zfr_9 {call : Nat → List Value → zS → Option (Option Value × zS)} {f : Nat} {o : Option (Option Value × zS)} {a b c d e : Int32} {v u : List (Nat × Int32)} (hk : zgo call zm_R_feed f (18, [.ref 35, .int a, .int b, .int c, .int d, .int e, .int 9, .int c], [], (zsF 20 v 9 ((8, ((c >>> (24 &&& 31)) &&& 255)) :: u)), 0, 0) = o) : zgo call zm_R_feed (f + 39) (18, [.ref 35, .int a, .int b, .int c, .int d, .int e, .int 8, .int b], [], (zsF 20 v 8 u), 0, 0) = o := by
  refine zg_nx (y := (20, [.ref 35, .int a, .int b, .int c, .int d, .int e, .int 8, .int b], [.int 8], (zsF 20 v 8 u), 0, 0)) rfl ?_
  refine zg_nx (y := (22, [.ref 35, .int a, .int b, .int c, .int d, .int e, .int 8, .int b], [.int 20, .int 8], (zsF 20 v 8 u), 0, 0)) rfl ?_
  refine zg_nx (y := (25, [.ref 35, .int a, .int b, .int c, .int d, .int e, .int 8, .int b], [], (zsF 20 v 8 u), 0, 0)) rfl ?_
  refine zg_nx (y := (27, [.ref 35, .int a, .int b, .int c, .int d, .int e, .int 8, .int b], [.int 8], (zsF 20 v 8 u), 0, 0)) rfl ?_
  refine zg_nx (y := (28, [.ref 35, .int a, .int b, .int c, .int d, .int e, .int 8, .int b], [.int 4, .int 8], (zsF 20 v 8 u), 0, 0)) rfl ?_
  refine zg_nx (y := (35, [.ref 35, .int a, .int b, .int c, .int d, .int e, .int 8, .int b], [], (zsF 20 v 8 u), 0, 0)) rfl ?_
  refine zg_nx (y := (37, [.ref 35, .int a, .int b, .int c, .int d, .int e, .int 8, .int b], [.int 8], (zsF 20 v 8 u), 0, 0)) rfl ?_
  refine zg_nx (y := (39, [.ref 35, .int a, .int b, .int c, .int d, .int e, .int 8, .int b], [.int 8, .int 8], (zsF 20 v 8 u), 0, 0)) rfl ?_
  refine zg_nx (y := (46, [.ref 35, .int a, .int b, .int c, .int d, .int e, .int 8, .int b], [], (zsF 20 v 8 u), 0, 0)) rfl ?_
  refine zg_nx (y := (48, [.ref 35, .int a, .int b, .int c, .int d, .int e, .int 8, .int b], [.int 8], (zsF 20 v 8 u), 0, 0)) rfl ?_
  refine zg_nx (y := (50, [.ref 35, .int a, .int b, .int c, .int d, .int e, .int 8, .int b], [.int 12, .int 8], (zsF 20 v 8 u), 0, 0)) rfl ?_
  refine zg_nx (y := (53, [.ref 35, .int a, .int b, .int c, .int d, .int e, .int 8, .int b], [], (zsF 20 v 8 u), 0, 0)) rfl ?_
  refine zg_nx (y := (54, [.ref 35, .int a, .int b, .int c, .int d, .int e, .int 8, .int b], [.int c], (zsF 20 v 8 u), 0, 0)) rfl ?_
  refine zg_nx (y := (71, [.ref 35, .int a, .int b, .int c, .int d, .int e, .int 8, .int b], [.int c], (zsF 20 v 8 u), 0, 0)) rfl ?_
  refine zg_nx (y := (73, [.ref 35, .int a, .int b, .int c, .int d, .int e, .int 8, .int c], [], (zsF 20 v 8 u), 0, 0)) rfl ?_
  refine zg_nx (y := (74, [.ref 35, .int a, .int b, .int c, .int d, .int e, .int 8, .int c], [.ref 35], (zsF 20 v 8 u), 0, 0)) rfl ?_
  refine zg_nx (y := (77, [.ref 35, .int a, .int b, .int c, .int d, .int e, .int 8, .int c], [.ref 36], (zsF 20 v 8 u), 0, 0)) rfl ?_
  refine zg_nx (y := (78, [.ref 35, .int a, .int b, .int c, .int d, .int e, .int 8, .int c], [.ref 35, .ref 36], (zsF 20 v 8 u), 0, 0)) rfl ?_
  refine zg_nx (y := (81, [.ref 35, .int a, .int b, .int c, .int d, .int e, .int 8, .int c], [.int 8, .ref 36], (zsF 20 v 8 u), 0, 0)) rfl ?_
  refine zg_nx (y := (83, [.ref 35, .int a, .int b, .int c, .int d, .int e, .int 8, .int c], [.int c, .int 8, .ref 36], (zsF 20 v 8 u), 0, 0)) rfl ?_
  refine zg_nx (y := (85, [.ref 35, .int a, .int b, .int c, .int d, .int e, .int 8, .int c], [.int 24, .int c, .int 8, .ref 36], (zsF 20 v 8 u), 0, 0)) rfl ?_
  refine zg_nx (y := (87, [.ref 35, .int a, .int b, .int c, .int d, .int e, .int 8, .int c], [.int 8, .int 24, .int c, .int 8, .ref 36], (zsF 20 v 8 u), 0, 0)) rfl ?_
  refine zg_nx (y := (89, [.ref 35, .int a, .int b, .int c, .int d, .int e, .int 8, .int c], [.int 8, .int 8, .int 24, .int c, .int 8, .ref 36], (zsF 20 v 8 u), 0, 0)) rfl ?_
  refine zg_nx (y := (90, [.ref 35, .int a, .int b, .int c, .int d, .int e, .int 8, .int c], [.int 4, .int 8, .int 8, .int 24, .int c, .int 8, .ref 36], (zsF 20 v 8 u), 0, 0)) rfl ?_
  refine zg_nx (y := (91, [.ref 35, .int a, .int b, .int c, .int d, .int e, .int 8, .int c], [.int 0, .int 8, .int 24, .int c, .int 8, .ref 36], (zsF 20 v 8 u), 0, 0)) rfl ?_
  refine zg_nx (y := (92, [.ref 35, .int a, .int b, .int c, .int d, .int e, .int 8, .int c], [.int 0, .int 24, .int c, .int 8, .ref 36], (zsF 20 v 8 u), 0, 0)) rfl ?_
  refine zg_nx (y := (93, [.ref 35, .int a, .int b, .int c, .int d, .int e, .int 8, .int c], [.int 24, .int c, .int 8, .ref 36], (zsF 20 v 8 u), 0, 0)) rfl ?_
  refine zg_nx (y := (94, [.ref 35, .int a, .int b, .int c, .int d, .int e, .int 8, .int c], [.int (c >>> (24 &&& 31)), .int 8, .ref 36], (zsF 20 v 8 u), 0, 0)) rfl ?_
  refine zg_nx (y := (97, [.ref 35, .int a, .int b, .int c, .int d, .int e, .int 8, .int c], [.int 255, .int (c >>> (24 &&& 31)), .int 8, .ref 36], (zsF 20 v 8 u), 0, 0)) rfl ?_
  refine zg_nx (y := (98, [.ref 35, .int a, .int b, .int c, .int d, .int e, .int 8, .int c], [.int ((c >>> (24 &&& 31)) &&& 255), .int 8, .ref 36], (zsF 20 v 8 u), 0, 0)) rfl ?_
  refine zg_nx (y := (99, [.ref 35, .int a, .int b, .int c, .int d, .int e, .int 8, .int c], [], (zsF 20 v 8 ((8, ((c >>> (24 &&& 31)) &&& 255)) :: u)), 0, 0)) rfl ?_
  refine zg_nx (y := (100, [.ref 35, .int a, .int b, .int c, .int d, .int e, .int 8, .int c], [.ref 35], (zsF 20 v 8 ((8, ((c >>> (24 &&& 31)) &&& 255)) :: u)), 0, 0)) rfl ?_
  refine zg_nx (y := (101, [.ref 35, .int a, .int b, .int c, .int d, .int e, .int 8, .int c], [.ref 35, .ref 35], (zsF 20 v 8 ((8, ((c >>> (24 &&& 31)) &&& 255)) :: u)), 0, 0)) rfl ?_
  refine zg_nx (y := (104, [.ref 35, .int a, .int b, .int c, .int d, .int e, .int 8, .int c], [.int 8, .ref 35], (zsF 20 v 8 ((8, ((c >>> (24 &&& 31)) &&& 255)) :: u)), 0, 0)) rfl ?_
  refine zg_nx (y := (105, [.ref 35, .int a, .int b, .int c, .int d, .int e, .int 8, .int c], [.int 1, .int 8, .ref 35], (zsF 20 v 8 ((8, ((c >>> (24 &&& 31)) &&& 255)) :: u)), 0, 0)) rfl ?_
  refine zg_nx (y := (106, [.ref 35, .int a, .int b, .int c, .int d, .int e, .int 8, .int c], [.int 9, .ref 35], (zsF 20 v 8 ((8, ((c >>> (24 &&& 31)) &&& 255)) :: u)), 0, 0)) rfl ?_
  refine zg_nx (y := (109, [.ref 35, .int a, .int b, .int c, .int d, .int e, .int 8, .int c], [], (zsF 20 v 9 ((8, ((c >>> (24 &&& 31)) &&& 255)) :: u)), 0, 0)) rfl ?_
  refine zg_nx (y := (112, [.ref 35, .int a, .int b, .int c, .int d, .int e, .int 9, .int c], [], (zsF 20 v 9 ((8, ((c >>> (24 &&& 31)) &&& 255)) :: u)), 0, 0)) rfl ?_
  refine zg_nx (y := (18, [.ref 35, .int a, .int b, .int c, .int d, .int e, .int 9, .int c], [], (zsF 20 v 9 ((8, ((c >>> (24 &&& 31)) &&& 255)) :: u)), 0, 0)) rfl ?_
  exact hk

theorem zfr_10 {call : Nat → List Value → zS → Option (Option Value × zS)} {f : Nat} {o : Option (Option Value × zS)} {a b c d e : Int32} {v u : List (Nat × Int32)} (hk : zgo call zm_R_feed f (18, [.ref 35, .int a, .int b, .int c, .int d, .int e, .int 10, .int c], [], (zsF 20 v 10 ((9, ((c >>> (16 &&& 31)) &&& 255)) :: u)), 0, 0) = o) : zgo call zm_R_feed (f + 39) (18, [.ref 35, .int a, .int b, .int c, .int d, .int e, .int 9, .int c], [], (zsF 20 v 9 u), 0, 0) = o := by
  refine zg_nx (y := (20, [.ref 35, .int a, .int b, .int c, .int d, .int e, .int 9, .int c], [.int 9], (zsF 20 v 9 u), 0, 0)) rfl ?_
  refine zg_nx (y := (22, [.ref 35, .int a, .int b, .int c, .int d, .int e, .int 9, .int c], [.int 20, .int 9], (zsF 20 v 9 u), 0, 0)) rfl ?_
  refine zg_nx (y := (25, [.ref 35, .int a, .int b, .int c, .int d, .int e, .int 9, .int c], [], (zsF 20 v 9 u), 0, 0)) rfl ?_
  refine zg_nx (y := (27, [.ref 35, .int a, .int b, .int c, .int d, .int e, .int 9, .int c], [.int 9], (zsF 20 v 9 u), 0, 0)) rfl ?_
  refine zg_nx (y := (28, [.ref 35, .int a, .int b, .int c, .int d, .int e, .int 9, .int c], [.int 4, .int 9], (zsF 20 v 9 u), 0, 0)) rfl ?_
  refine zg_nx (y := (35, [.ref 35, .int a, .int b, .int c, .int d, .int e, .int 9, .int c], [], (zsF 20 v 9 u), 0, 0)) rfl ?_
  refine zg_nx (y := (37, [.ref 35, .int a, .int b, .int c, .int d, .int e, .int 9, .int c], [.int 9], (zsF 20 v 9 u), 0, 0)) rfl ?_
  refine zg_nx (y := (39, [.ref 35, .int a, .int b, .int c, .int d, .int e, .int 9, .int c], [.int 8, .int 9], (zsF 20 v 9 u), 0, 0)) rfl ?_
  refine zg_nx (y := (46, [.ref 35, .int a, .int b, .int c, .int d, .int e, .int 9, .int c], [], (zsF 20 v 9 u), 0, 0)) rfl ?_
  refine zg_nx (y := (48, [.ref 35, .int a, .int b, .int c, .int d, .int e, .int 9, .int c], [.int 9], (zsF 20 v 9 u), 0, 0)) rfl ?_
  refine zg_nx (y := (50, [.ref 35, .int a, .int b, .int c, .int d, .int e, .int 9, .int c], [.int 12, .int 9], (zsF 20 v 9 u), 0, 0)) rfl ?_
  refine zg_nx (y := (53, [.ref 35, .int a, .int b, .int c, .int d, .int e, .int 9, .int c], [], (zsF 20 v 9 u), 0, 0)) rfl ?_
  refine zg_nx (y := (54, [.ref 35, .int a, .int b, .int c, .int d, .int e, .int 9, .int c], [.int c], (zsF 20 v 9 u), 0, 0)) rfl ?_
  refine zg_nx (y := (71, [.ref 35, .int a, .int b, .int c, .int d, .int e, .int 9, .int c], [.int c], (zsF 20 v 9 u), 0, 0)) rfl ?_
  refine zg_nx (y := (73, [.ref 35, .int a, .int b, .int c, .int d, .int e, .int 9, .int c], [], (zsF 20 v 9 u), 0, 0)) rfl ?_
  refine zg_nx (y := (74, [.ref 35, .int a, .int b, .int c, .int d, .int e, .int 9, .int c], [.ref 35], (zsF 20 v 9 u), 0, 0)) rfl ?_
  refine zg_nx (y := (77, [.ref 35, .int a, .int b, .int c, .int d, .int e, .int 9, .int c], [.ref 36], (zsF 20 v 9 u), 0, 0)) rfl ?_
  refine zg_nx (y := (78, [.ref 35, .int a, .int b, .int c, .int d, .int e, .int 9, .int c], [.ref 35, .ref 36], (zsF 20 v 9 u), 0, 0)) rfl ?_
  refine zg_nx (y := (81, [.ref 35, .int a, .int b, .int c, .int d, .int e, .int 9, .int c], [.int 9, .ref 36], (zsF 20 v 9 u), 0, 0)) rfl ?_
  refine zg_nx (y := (83, [.ref 35, .int a, .int b, .int c, .int d, .int e, .int 9, .int c], [.int c, .int 9, .ref 36], (zsF 20 v 9 u), 0, 0)) rfl ?_
  refine zg_nx (y := (85, [.ref 35, .int a, .int b, .int c, .int d, .int e, .int 9, .int c], [.int 24, .int c, .int 9, .ref 36], (zsF 20 v 9 u), 0, 0)) rfl ?_
  refine zg_nx (y := (87, [.ref 35, .int a, .int b, .int c, .int d, .int e, .int 9, .int c], [.int 8, .int 24, .int c, .int 9, .ref 36], (zsF 20 v 9 u), 0, 0)) rfl ?_
  refine zg_nx (y := (89, [.ref 35, .int a, .int b, .int c, .int d, .int e, .int 9, .int c], [.int 9, .int 8, .int 24, .int c, .int 9, .ref 36], (zsF 20 v 9 u), 0, 0)) rfl ?_
  refine zg_nx (y := (90, [.ref 35, .int a, .int b, .int c, .int d, .int e, .int 9, .int c], [.int 4, .int 9, .int 8, .int 24, .int c, .int 9, .ref 36], (zsF 20 v 9 u), 0, 0)) rfl ?_
  refine zg_nx (y := (91, [.ref 35, .int a, .int b, .int c, .int d, .int e, .int 9, .int c], [.int 1, .int 8, .int 24, .int c, .int 9, .ref 36], (zsF 20 v 9 u), 0, 0)) rfl ?_
  refine zg_nx (y := (92, [.ref 35, .int a, .int b, .int c, .int d, .int e, .int 9, .int c], [.int 8, .int 24, .int c, .int 9, .ref 36], (zsF 20 v 9 u), 0, 0)) rfl ?_
  refine zg_nx (y := (93, [.ref 35, .int a, .int b, .int c, .int d, .int e, .int 9, .int c], [.int 16, .int c, .int 9, .ref 36], (zsF 20 v 9 u), 0, 0)) rfl ?_
  refine zg_nx (y := (94, [.ref 35, .int a, .int b, .int c, .int d, .int e, .int 9, .int c], [.int (c >>> (16 &&& 31)), .int 9, .ref 36], (zsF 20 v 9 u), 0, 0)) rfl ?_
  refine zg_nx (y := (97, [.ref 35, .int a, .int b, .int c, .int d, .int e, .int 9, .int c], [.int 255, .int (c >>> (16 &&& 31)), .int 9, .ref 36], (zsF 20 v 9 u), 0, 0)) rfl ?_
  refine zg_nx (y := (98, [.ref 35, .int a, .int b, .int c, .int d, .int e, .int 9, .int c], [.int ((c >>> (16 &&& 31)) &&& 255), .int 9, .ref 36], (zsF 20 v 9 u), 0, 0)) rfl ?_
  refine zg_nx (y := (99, [.ref 35, .int a, .int b, .int c, .int d, .int e, .int 9, .int c], [], (zsF 20 v 9 ((9, ((c >>> (16 &&& 31)) &&& 255)) :: u)), 0, 0)) rfl ?_
  refine zg_nx (y := (100, [.ref 35, .int a, .int b, .int c, .int d, .int e, .int 9, .int c], [.ref 35], (zsF 20 v 9 ((9, ((c >>> (16 &&& 31)) &&& 255)) :: u)), 0, 0)) rfl ?_
  refine zg_nx (y := (101, [.ref 35, .int a, .int b, .int c, .int d, .int e, .int 9, .int c], [.ref 35, .ref 35], (zsF 20 v 9 ((9, ((c >>> (16 &&& 31)) &&& 255)) :: u)), 0, 0)) rfl ?_
  refine zg_nx (y := (104, [.ref 35, .int a, .int b, .int c, .int d, .int e, .int 9, .int c], [.int 9, .ref 35], (zsF 20 v 9 ((9, ((c >>> (16 &&& 31)) &&& 255)) :: u)), 0, 0)) rfl ?_
  refine zg_nx (y := (105, [.ref 35, .int a, .int b, .int c, .int d, .int e, .int 9, .int c], [.int 1, .int 9, .ref 35], (zsF 20 v 9 ((9, ((c >>> (16 &&& 31)) &&& 255)) :: u)), 0, 0)) rfl ?_
  refine zg_nx (y := (106, [.ref 35, .int a, .int b, .int c, .int d, .int e, .int 9, .int c], [.int 10, .ref 35], (zsF 20 v 9 ((9, ((c >>> (16 &&& 31)) &&& 255)) :: u)), 0, 0)) rfl ?_
  refine zg_nx (y := (109, [.ref 35, .int a, .int b, .int c, .int d, .int e, .int 9, .int c], [], (zsF 20 v 10 ((9, ((c >>> (16 &&& 31)) &&& 255)) :: u)), 0, 0)) rfl ?_
  refine zg_nx (y := (112, [.ref 35, .int a, .int b, .int c, .int d, .int e, .int 10, .int c], [], (zsF 20 v 10 ((9, ((c >>> (16 &&& 31)) &&& 255)) :: u)), 0, 0)) rfl ?_
  refine zg_nx (y := (18, [.ref 35, .int a, .int b, .int c, .int d, .int e, .int 10, .int c], [], (zsF 20 v 10 ((9, ((c >>> (16 &&& 31)) &&& 255)) :: u)), 0, 0)) rfl ?_
  exact hk

theorem zfr_11 {call : Nat → List Value → zS → Option (Option Value × zS)} {f : Nat} {o : Option (Option Value × zS)} {a b c d e : Int32} {v u : List (Nat × Int32)} (hk : zgo call zm_R_feed f (18, [.ref 35, .int a, .int b, .int c, .int d, .int e, .int 11, .int c], [], (zsF 20 v 11 ((10, ((c >>> (8 &&& 31)) &&& 255)) :: u)), 0, 0) = o) : zgo call zm_R_feed (f + 39) (18, [.ref 35, .int a, .int b, .int c, .int d, .int e, .int 10, .int c], [], (zsF 20 v 10 u), 0, 0) = o := by
  refine zg_nx (y := (20, [.ref 35, .int a, .int b, .int c, .int d, .int e, .int 10, .int c], [.int 10], (zsF 20 v 10 u), 0, 0)) rfl ?_
  refine zg_nx (y := (22, [.ref 35, .int a, .int b, .int c, .int d, .int e, .int 10, .int c], [.int 20, .int 10], (zsF 20 v 10 u), 0, 0)) rfl ?_
  refine zg_nx (y := (25, [.ref 35, .int a, .int b, .int c, .int d, .int e, .int 10, .int c], [], (zsF 20 v 10 u), 0, 0)) rfl ?_
  refine zg_nx (y := (27, [.ref 35, .int a, .int b, .int c, .int d, .int e, .int 10, .int c], [.int 10], (zsF 20 v 10 u), 0, 0)) rfl ?_
  refine zg_nx (y := (28, [.ref 35, .int a, .int b, .int c, .int d, .int e, .int 10, .int c], [.int 4, .int 10], (zsF 20 v 10 u), 0, 0)) rfl ?_
  refine zg_nx (y := (35, [.ref 35, .int a, .int b, .int c, .int d, .int e, .int 10, .int c], [], (zsF 20 v 10 u), 0, 0)) rfl ?_
  refine zg_nx (y := (37, [.ref 35, .int a, .int b, .int c, .int d, .int e, .int 10, .int c], [.int 10], (zsF 20 v 10 u), 0, 0)) rfl ?_
  refine zg_nx (y := (39, [.ref 35, .int a, .int b, .int c, .int d, .int e, .int 10, .int c], [.int 8, .int 10], (zsF 20 v 10 u), 0, 0)) rfl ?_
  refine zg_nx (y := (46, [.ref 35, .int a, .int b, .int c, .int d, .int e, .int 10, .int c], [], (zsF 20 v 10 u), 0, 0)) rfl ?_
  refine zg_nx (y := (48, [.ref 35, .int a, .int b, .int c, .int d, .int e, .int 10, .int c], [.int 10], (zsF 20 v 10 u), 0, 0)) rfl ?_
  refine zg_nx (y := (50, [.ref 35, .int a, .int b, .int c, .int d, .int e, .int 10, .int c], [.int 12, .int 10], (zsF 20 v 10 u), 0, 0)) rfl ?_
  refine zg_nx (y := (53, [.ref 35, .int a, .int b, .int c, .int d, .int e, .int 10, .int c], [], (zsF 20 v 10 u), 0, 0)) rfl ?_
  refine zg_nx (y := (54, [.ref 35, .int a, .int b, .int c, .int d, .int e, .int 10, .int c], [.int c], (zsF 20 v 10 u), 0, 0)) rfl ?_
  refine zg_nx (y := (71, [.ref 35, .int a, .int b, .int c, .int d, .int e, .int 10, .int c], [.int c], (zsF 20 v 10 u), 0, 0)) rfl ?_
  refine zg_nx (y := (73, [.ref 35, .int a, .int b, .int c, .int d, .int e, .int 10, .int c], [], (zsF 20 v 10 u), 0, 0)) rfl ?_
  refine zg_nx (y := (74, [.ref 35, .int a, .int b, .int c, .int d, .int e, .int 10, .int c], [.ref 35], (zsF 20 v 10 u), 0, 0)) rfl ?_
  refine zg_nx (y := (77, [.ref 35, .int a, .int b, .int c, .int d, .int e, .int 10, .int c], [.ref 36], (zsF 20 v 10 u), 0, 0)) rfl ?_
  refine zg_nx (y := (78, [.ref 35, .int a, .int b, .int c, .int d, .int e, .int 10, .int c], [.ref 35, .ref 36], (zsF 20 v 10 u), 0, 0)) rfl ?_
  refine zg_nx (y := (81, [.ref 35, .int a, .int b, .int c, .int d, .int e, .int 10, .int c], [.int 10, .ref 36], (zsF 20 v 10 u), 0, 0)) rfl ?_
  refine zg_nx (y := (83, [.ref 35, .int a, .int b, .int c, .int d, .int e, .int 10, .int c], [.int c, .int 10, .ref 36], (zsF 20 v 10 u), 0, 0)) rfl ?_
  refine zg_nx (y := (85, [.ref 35, .int a, .int b, .int c, .int d, .int e, .int 10, .int c], [.int 24, .int c, .int 10, .ref 36], (zsF 20 v 10 u), 0, 0)) rfl ?_
  refine zg_nx (y := (87, [.ref 35, .int a, .int b, .int c, .int d, .int e, .int 10, .int c], [.int 8, .int 24, .int c, .int 10, .ref 36], (zsF 20 v 10 u), 0, 0)) rfl ?_
  refine zg_nx (y := (89, [.ref 35, .int a, .int b, .int c, .int d, .int e, .int 10, .int c], [.int 10, .int 8, .int 24, .int c, .int 10, .ref 36], (zsF 20 v 10 u), 0, 0)) rfl ?_
  refine zg_nx (y := (90, [.ref 35, .int a, .int b, .int c, .int d, .int e, .int 10, .int c], [.int 4, .int 10, .int 8, .int 24, .int c, .int 10, .ref 36], (zsF 20 v 10 u), 0, 0)) rfl ?_
  refine zg_nx (y := (91, [.ref 35, .int a, .int b, .int c, .int d, .int e, .int 10, .int c], [.int 2, .int 8, .int 24, .int c, .int 10, .ref 36], (zsF 20 v 10 u), 0, 0)) rfl ?_
  refine zg_nx (y := (92, [.ref 35, .int a, .int b, .int c, .int d, .int e, .int 10, .int c], [.int 16, .int 24, .int c, .int 10, .ref 36], (zsF 20 v 10 u), 0, 0)) rfl ?_
  refine zg_nx (y := (93, [.ref 35, .int a, .int b, .int c, .int d, .int e, .int 10, .int c], [.int 8, .int c, .int 10, .ref 36], (zsF 20 v 10 u), 0, 0)) rfl ?_
  refine zg_nx (y := (94, [.ref 35, .int a, .int b, .int c, .int d, .int e, .int 10, .int c], [.int (c >>> (8 &&& 31)), .int 10, .ref 36], (zsF 20 v 10 u), 0, 0)) rfl ?_
  refine zg_nx (y := (97, [.ref 35, .int a, .int b, .int c, .int d, .int e, .int 10, .int c], [.int 255, .int (c >>> (8 &&& 31)), .int 10, .ref 36], (zsF 20 v 10 u), 0, 0)) rfl ?_
  refine zg_nx (y := (98, [.ref 35, .int a, .int b, .int c, .int d, .int e, .int 10, .int c], [.int ((c >>> (8 &&& 31)) &&& 255), .int 10, .ref 36], (zsF 20 v 10 u), 0, 0)) rfl ?_
  refine zg_nx (y := (99, [.ref 35, .int a, .int b, .int c, .int d, .int e, .int 10, .int c], [], (zsF 20 v 10 ((10, ((c >>> (8 &&& 31)) &&& 255)) :: u)), 0, 0)) rfl ?_
  refine zg_nx (y := (100, [.ref 35, .int a, .int b, .int c, .int d, .int e, .int 10, .int c], [.ref 35], (zsF 20 v 10 ((10, ((c >>> (8 &&& 31)) &&& 255)) :: u)), 0, 0)) rfl ?_
  refine zg_nx (y := (101, [.ref 35, .int a, .int b, .int c, .int d, .int e, .int 10, .int c], [.ref 35, .ref 35], (zsF 20 v 10 ((10, ((c >>> (8 &&& 31)) &&& 255)) :: u)), 0, 0)) rfl ?_
  refine zg_nx (y := (104, [.ref 35, .int a, .int b, .int c, .int d, .int e, .int 10, .int c], [.int 10, .ref 35], (zsF 20 v 10 ((10, ((c >>> (8 &&& 31)) &&& 255)) :: u)), 0, 0)) rfl ?_
  refine zg_nx (y := (105, [.ref 35, .int a, .int b, .int c, .int d, .int e, .int 10, .int c], [.int 1, .int 10, .ref 35], (zsF 20 v 10 ((10, ((c >>> (8 &&& 31)) &&& 255)) :: u)), 0, 0)) rfl ?_
  refine zg_nx (y := (106, [.ref 35, .int a, .int b, .int c, .int d, .int e, .int 10, .int c], [.int 11, .ref 35], (zsF 20 v 10 ((10, ((c >>> (8 &&& 31)) &&& 255)) :: u)), 0, 0)) rfl ?_
  refine zg_nx (y := (109, [.ref 35, .int a, .int b, .int c, .int d, .int e, .int 10, .int c], [], (zsF 20 v 11 ((10, ((c >>> (8 &&& 31)) &&& 255)) :: u)), 0, 0)) rfl ?_
  refine zg_nx (y := (112, [.ref 35, .int a, .int b, .int c, .int d, .int e, .int 11, .int c], [], (zsF 20 v 11 ((10, ((c >>> (8 &&& 31)) &&& 255)) :: u)), 0, 0)) rfl ?_
  refine zg_nx (y := (18, [.ref 35, .int a, .int b, .int c, .int d, .int e, .int 11, .int c], [], (zsF 20 v 11 ((10, ((c >>> (8 &&& 31)) &&& 255)) :: u)), 0, 0)) rfl ?_
  exact hk

theorem zfr_12 {call : Nat → List Value → zS → Option (Option Value × zS)} {f : Nat} {o : Option (Option Value × zS)} {a b c d e : Int32} {v u : List (Nat × Int32)} (hk : zgo call zm_R_feed f (18, [.ref 35, .int a, .int b, .int c, .int d, .int e, .int 12, .int c], [], (zsF 20 v 12 ((11, ((c >>> (0 &&& 31)) &&& 255)) :: u)), 0, 0) = o) : zgo call zm_R_feed (f + 39) (18, [.ref 35, .int a, .int b, .int c, .int d, .int e, .int 11, .int c], [], (zsF 20 v 11 u), 0, 0) = o := by
  refine zg_nx (y := (20, [.ref 35, .int a, .int b, .int c, .int d, .int e, .int 11, .int c], [.int 11], (zsF 20 v 11 u), 0, 0)) rfl ?_
  refine zg_nx (y := (22, [.ref 35, .int a, .int b, .int c, .int d, .int e, .int 11, .int c], [.int 20, .int 11], (zsF 20 v 11 u), 0, 0)) rfl ?_
  refine zg_nx (y := (25, [.ref 35, .int a, .int b, .int c, .int d, .int e, .int 11, .int c], [], (zsF 20 v 11 u), 0, 0)) rfl ?_
  refine zg_nx (y := (27, [.ref 35, .int a, .int b, .int c, .int d, .int e, .int 11, .int c], [.int 11], (zsF 20 v 11 u), 0, 0)) rfl ?_
  refine zg_nx (y := (28, [.ref 35, .int a, .int b, .int c, .int d, .int e, .int 11, .int c], [.int 4, .int 11], (zsF 20 v 11 u), 0, 0)) rfl ?_
  refine zg_nx (y := (35, [.ref 35, .int a, .int b, .int c, .int d, .int e, .int 11, .int c], [], (zsF 20 v 11 u), 0, 0)) rfl ?_
  refine zg_nx (y := (37, [.ref 35, .int a, .int b, .int c, .int d, .int e, .int 11, .int c], [.int 11], (zsF 20 v 11 u), 0, 0)) rfl ?_
  refine zg_nx (y := (39, [.ref 35, .int a, .int b, .int c, .int d, .int e, .int 11, .int c], [.int 8, .int 11], (zsF 20 v 11 u), 0, 0)) rfl ?_
  refine zg_nx (y := (46, [.ref 35, .int a, .int b, .int c, .int d, .int e, .int 11, .int c], [], (zsF 20 v 11 u), 0, 0)) rfl ?_
  refine zg_nx (y := (48, [.ref 35, .int a, .int b, .int c, .int d, .int e, .int 11, .int c], [.int 11], (zsF 20 v 11 u), 0, 0)) rfl ?_
  refine zg_nx (y := (50, [.ref 35, .int a, .int b, .int c, .int d, .int e, .int 11, .int c], [.int 12, .int 11], (zsF 20 v 11 u), 0, 0)) rfl ?_
  refine zg_nx (y := (53, [.ref 35, .int a, .int b, .int c, .int d, .int e, .int 11, .int c], [], (zsF 20 v 11 u), 0, 0)) rfl ?_
  refine zg_nx (y := (54, [.ref 35, .int a, .int b, .int c, .int d, .int e, .int 11, .int c], [.int c], (zsF 20 v 11 u), 0, 0)) rfl ?_
  refine zg_nx (y := (71, [.ref 35, .int a, .int b, .int c, .int d, .int e, .int 11, .int c], [.int c], (zsF 20 v 11 u), 0, 0)) rfl ?_
  refine zg_nx (y := (73, [.ref 35, .int a, .int b, .int c, .int d, .int e, .int 11, .int c], [], (zsF 20 v 11 u), 0, 0)) rfl ?_
  refine zg_nx (y := (74, [.ref 35, .int a, .int b, .int c, .int d, .int e, .int 11, .int c], [.ref 35], (zsF 20 v 11 u), 0, 0)) rfl ?_
  refine zg_nx (y := (77, [.ref 35, .int a, .int b, .int c, .int d, .int e, .int 11, .int c], [.ref 36], (zsF 20 v 11 u), 0, 0)) rfl ?_
  refine zg_nx (y := (78, [.ref 35, .int a, .int b, .int c, .int d, .int e, .int 11, .int c], [.ref 35, .ref 36], (zsF 20 v 11 u), 0, 0)) rfl ?_
  refine zg_nx (y := (81, [.ref 35, .int a, .int b, .int c, .int d, .int e, .int 11, .int c], [.int 11, .ref 36], (zsF 20 v 11 u), 0, 0)) rfl ?_
  refine zg_nx (y := (83, [.ref 35, .int a, .int b, .int c, .int d, .int e, .int 11, .int c], [.int c, .int 11, .ref 36], (zsF 20 v 11 u), 0, 0)) rfl ?_
  refine zg_nx (y := (85, [.ref 35, .int a, .int b, .int c, .int d, .int e, .int 11, .int c], [.int 24, .int c, .int 11, .ref 36], (zsF 20 v 11 u), 0, 0)) rfl ?_
  refine zg_nx (y := (87, [.ref 35, .int a, .int b, .int c, .int d, .int e, .int 11, .int c], [.int 8, .int 24, .int c, .int 11, .ref 36], (zsF 20 v 11 u), 0, 0)) rfl ?_
  refine zg_nx (y := (89, [.ref 35, .int a, .int b, .int c, .int d, .int e, .int 11, .int c], [.int 11, .int 8, .int 24, .int c, .int 11, .ref 36], (zsF 20 v 11 u), 0, 0)) rfl ?_
  refine zg_nx (y := (90, [.ref 35, .int a, .int b, .int c, .int d, .int e, .int 11, .int c], [.int 4, .int 11, .int 8, .int 24, .int c, .int 11, .ref 36], (zsF 20 v 11 u), 0, 0)) rfl ?_
  refine zg_nx (y := (91, [.ref 35, .int a, .int b, .int c, .int d, .int e, .int 11, .int c], [.int 3, .int 8, .int 24, .int c, .int 11, .ref 36], (zsF 20 v 11 u), 0, 0)) rfl ?_
  refine zg_nx (y := (92, [.ref 35, .int a, .int b, .int c, .int d, .int e, .int 11, .int c], [.int 24, .int 24, .int c, .int 11, .ref 36], (zsF 20 v 11 u), 0, 0)) rfl ?_
  refine zg_nx (y := (93, [.ref 35, .int a, .int b, .int c, .int d, .int e, .int 11, .int c], [.int 0, .int c, .int 11, .ref 36], (zsF 20 v 11 u), 0, 0)) rfl ?_
  refine zg_nx (y := (94, [.ref 35, .int a, .int b, .int c, .int d, .int e, .int 11, .int c], [.int (c >>> (0 &&& 31)), .int 11, .ref 36], (zsF 20 v 11 u), 0, 0)) rfl ?_
  refine zg_nx (y := (97, [.ref 35, .int a, .int b, .int c, .int d, .int e, .int 11, .int c], [.int 255, .int (c >>> (0 &&& 31)), .int 11, .ref 36], (zsF 20 v 11 u), 0, 0)) rfl ?_
  refine zg_nx (y := (98, [.ref 35, .int a, .int b, .int c, .int d, .int e, .int 11, .int c], [.int ((c >>> (0 &&& 31)) &&& 255), .int 11, .ref 36], (zsF 20 v 11 u), 0, 0)) rfl ?_
  refine zg_nx (y := (99, [.ref 35, .int a, .int b, .int c, .int d, .int e, .int 11, .int c], [], (zsF 20 v 11 ((11, ((c >>> (0 &&& 31)) &&& 255)) :: u)), 0, 0)) rfl ?_
  refine zg_nx (y := (100, [.ref 35, .int a, .int b, .int c, .int d, .int e, .int 11, .int c], [.ref 35], (zsF 20 v 11 ((11, ((c >>> (0 &&& 31)) &&& 255)) :: u)), 0, 0)) rfl ?_
  refine zg_nx (y := (101, [.ref 35, .int a, .int b, .int c, .int d, .int e, .int 11, .int c], [.ref 35, .ref 35], (zsF 20 v 11 ((11, ((c >>> (0 &&& 31)) &&& 255)) :: u)), 0, 0)) rfl ?_
  refine zg_nx (y := (104, [.ref 35, .int a, .int b, .int c, .int d, .int e, .int 11, .int c], [.int 11, .ref 35], (zsF 20 v 11 ((11, ((c >>> (0 &&& 31)) &&& 255)) :: u)), 0, 0)) rfl ?_
  refine zg_nx (y := (105, [.ref 35, .int a, .int b, .int c, .int d, .int e, .int 11, .int c], [.int 1, .int 11, .ref 35], (zsF 20 v 11 ((11, ((c >>> (0 &&& 31)) &&& 255)) :: u)), 0, 0)) rfl ?_
  refine zg_nx (y := (106, [.ref 35, .int a, .int b, .int c, .int d, .int e, .int 11, .int c], [.int 12, .ref 35], (zsF 20 v 11 ((11, ((c >>> (0 &&& 31)) &&& 255)) :: u)), 0, 0)) rfl ?_
  refine zg_nx (y := (109, [.ref 35, .int a, .int b, .int c, .int d, .int e, .int 11, .int c], [], (zsF 20 v 12 ((11, ((c >>> (0 &&& 31)) &&& 255)) :: u)), 0, 0)) rfl ?_
  refine zg_nx (y := (112, [.ref 35, .int a, .int b, .int c, .int d, .int e, .int 12, .int c], [], (zsF 20 v 12 ((11, ((c >>> (0 &&& 31)) &&& 255)) :: u)), 0, 0)) rfl ?_
  refine zg_nx (y := (18, [.ref 35, .int a, .int b, .int c, .int d, .int e, .int 12, .int c], [], (zsF 20 v 12 ((11, ((c >>> (0 &&& 31)) &&& 255)) :: u)), 0, 0)) rfl ?_
  exact hk

theorem zfr_13 {call : Nat → List Value → zS → Option (Option Value × zS)} {f : Nat} {o : Option (Option Value × zS)} {a b c d e : Int32} {v u : List (Nat × Int32)} (hk : zgo call zm_R_feed f (18, [.ref 35, .int a, .int b, .int c, .int d, .int e, .int 13, .int d], [], (zsF 20 v 13 ((12, ((d >>> (24 &&& 31)) &&& 255)) :: u)), 0, 0) = o) : zgo call zm_R_feed (f + 42) (18, [.ref 35, .int a, .int b, .int c, .int d, .int e, .int 12, .int c], [], (zsF 20 v 12 u), 0, 0) = o := by
  refine zg_nx (y := (20, [.ref 35, .int a, .int b, .int c, .int d, .int e, .int 12, .int c], [.int 12], (zsF 20 v 12 u), 0, 0)) rfl ?_
  refine zg_nx (y := (22, [.ref 35, .int a, .int b, .int c, .int d, .int e, .int 12, .int c], [.int 20, .int 12], (zsF 20 v 12 u), 0, 0)) rfl ?_
  refine zg_nx (y := (25, [.ref 35, .int a, .int b, .int c, .int d, .int e, .int 12, .int c], [], (zsF 20 v 12 u), 0, 0)) rfl ?_
  refine zg_nx (y := (27, [.ref 35, .int a, .int b, .int c, .int d, .int e, .int 12, .int c], [.int 12], (zsF 20 v 12 u), 0, 0)) rfl ?_
  refine zg_nx (y := (28, [.ref 35, .int a, .int b, .int c, .int d, .int e, .int 12, .int c], [.int 4, .int 12], (zsF 20 v 12 u), 0, 0)) rfl ?_
  refine zg_nx (y := (35, [.ref 35, .int a, .int b, .int c, .int d, .int e, .int 12, .int c], [], (zsF 20 v 12 u), 0, 0)) rfl ?_
  refine zg_nx (y := (37, [.ref 35, .int a, .int b, .int c, .int d, .int e, .int 12, .int c], [.int 12], (zsF 20 v 12 u), 0, 0)) rfl ?_
  refine zg_nx (y := (39, [.ref 35, .int a, .int b, .int c, .int d, .int e, .int 12, .int c], [.int 8, .int 12], (zsF 20 v 12 u), 0, 0)) rfl ?_
  refine zg_nx (y := (46, [.ref 35, .int a, .int b, .int c, .int d, .int e, .int 12, .int c], [], (zsF 20 v 12 u), 0, 0)) rfl ?_
  refine zg_nx (y := (48, [.ref 35, .int a, .int b, .int c, .int d, .int e, .int 12, .int c], [.int 12], (zsF 20 v 12 u), 0, 0)) rfl ?_
  refine zg_nx (y := (50, [.ref 35, .int a, .int b, .int c, .int d, .int e, .int 12, .int c], [.int 12, .int 12], (zsF 20 v 12 u), 0, 0)) rfl ?_
  refine zg_nx (y := (57, [.ref 35, .int a, .int b, .int c, .int d, .int e, .int 12, .int c], [], (zsF 20 v 12 u), 0, 0)) rfl ?_
  refine zg_nx (y := (59, [.ref 35, .int a, .int b, .int c, .int d, .int e, .int 12, .int c], [.int 12], (zsF 20 v 12 u), 0, 0)) rfl ?_
  refine zg_nx (y := (61, [.ref 35, .int a, .int b, .int c, .int d, .int e, .int 12, .int c], [.int 16, .int 12], (zsF 20 v 12 u), 0, 0)) rfl ?_
  refine zg_nx (y := (64, [.ref 35, .int a, .int b, .int c, .int d, .int e, .int 12, .int c], [], (zsF 20 v 12 u), 0, 0)) rfl ?_
  refine zg_nx (y := (66, [.ref 35, .int a, .int b, .int c, .int d, .int e, .int 12, .int c], [.int d], (zsF 20 v 12 u), 0, 0)) rfl ?_
  refine zg_nx (y := (71, [.ref 35, .int a, .int b, .int c, .int d, .int e, .int 12, .int c], [.int d], (zsF 20 v 12 u), 0, 0)) rfl ?_
  refine zg_nx (y := (73, [.ref 35, .int a, .int b, .int c, .int d, .int e, .int 12, .int d], [], (zsF 20 v 12 u), 0, 0)) rfl ?_
  refine zg_nx (y := (74, [.ref 35, .int a, .int b, .int c, .int d, .int e, .int 12, .int d], [.ref 35], (zsF 20 v 12 u), 0, 0)) rfl ?_
  refine zg_nx (y := (77, [.ref 35, .int a, .int b, .int c, .int d, .int e, .int 12, .int d], [.ref 36], (zsF 20 v 12 u), 0, 0)) rfl ?_
  refine zg_nx (y := (78, [.ref 35, .int a, .int b, .int c, .int d, .int e, .int 12, .int d], [.ref 35, .ref 36], (zsF 20 v 12 u), 0, 0)) rfl ?_
  refine zg_nx (y := (81, [.ref 35, .int a, .int b, .int c, .int d, .int e, .int 12, .int d], [.int 12, .ref 36], (zsF 20 v 12 u), 0, 0)) rfl ?_
  refine zg_nx (y := (83, [.ref 35, .int a, .int b, .int c, .int d, .int e, .int 12, .int d], [.int d, .int 12, .ref 36], (zsF 20 v 12 u), 0, 0)) rfl ?_
  refine zg_nx (y := (85, [.ref 35, .int a, .int b, .int c, .int d, .int e, .int 12, .int d], [.int 24, .int d, .int 12, .ref 36], (zsF 20 v 12 u), 0, 0)) rfl ?_
  refine zg_nx (y := (87, [.ref 35, .int a, .int b, .int c, .int d, .int e, .int 12, .int d], [.int 8, .int 24, .int d, .int 12, .ref 36], (zsF 20 v 12 u), 0, 0)) rfl ?_
  refine zg_nx (y := (89, [.ref 35, .int a, .int b, .int c, .int d, .int e, .int 12, .int d], [.int 12, .int 8, .int 24, .int d, .int 12, .ref 36], (zsF 20 v 12 u), 0, 0)) rfl ?_
  refine zg_nx (y := (90, [.ref 35, .int a, .int b, .int c, .int d, .int e, .int 12, .int d], [.int 4, .int 12, .int 8, .int 24, .int d, .int 12, .ref 36], (zsF 20 v 12 u), 0, 0)) rfl ?_
  refine zg_nx (y := (91, [.ref 35, .int a, .int b, .int c, .int d, .int e, .int 12, .int d], [.int 0, .int 8, .int 24, .int d, .int 12, .ref 36], (zsF 20 v 12 u), 0, 0)) rfl ?_
  refine zg_nx (y := (92, [.ref 35, .int a, .int b, .int c, .int d, .int e, .int 12, .int d], [.int 0, .int 24, .int d, .int 12, .ref 36], (zsF 20 v 12 u), 0, 0)) rfl ?_
  refine zg_nx (y := (93, [.ref 35, .int a, .int b, .int c, .int d, .int e, .int 12, .int d], [.int 24, .int d, .int 12, .ref 36], (zsF 20 v 12 u), 0, 0)) rfl ?_
  refine zg_nx (y := (94, [.ref 35, .int a, .int b, .int c, .int d, .int e, .int 12, .int d], [.int (d >>> (24 &&& 31)), .int 12, .ref 36], (zsF 20 v 12 u), 0, 0)) rfl ?_
  refine zg_nx (y := (97, [.ref 35, .int a, .int b, .int c, .int d, .int e, .int 12, .int d], [.int 255, .int (d >>> (24 &&& 31)), .int 12, .ref 36], (zsF 20 v 12 u), 0, 0)) rfl ?_
  refine zg_nx (y := (98, [.ref 35, .int a, .int b, .int c, .int d, .int e, .int 12, .int d], [.int ((d >>> (24 &&& 31)) &&& 255), .int 12, .ref 36], (zsF 20 v 12 u), 0, 0)) rfl ?_
  refine zg_nx (y := (99, [.ref 35, .int a, .int b, .int c, .int d, .int e, .int 12, .int d], [], (zsF 20 v 12 ((12, ((d >>> (24 &&& 31)) &&& 255)) :: u)), 0, 0)) rfl ?_
  refine zg_nx (y := (100, [.ref 35, .int a, .int b, .int c, .int d, .int e, .int 12, .int d], [.ref 35], (zsF 20 v 12 ((12, ((d >>> (24 &&& 31)) &&& 255)) :: u)), 0, 0)) rfl ?_
  refine zg_nx (y := (101, [.ref 35, .int a, .int b, .int c, .int d, .int e, .int 12, .int d], [.ref 35, .ref 35], (zsF 20 v 12 ((12, ((d >>> (24 &&& 31)) &&& 255)) :: u)), 0, 0)) rfl ?_
  refine zg_nx (y := (104, [.ref 35, .int a, .int b, .int c, .int d, .int e, .int 12, .int d], [.int 12, .ref 35], (zsF 20 v 12 ((12, ((d >>> (24 &&& 31)) &&& 255)) :: u)), 0, 0)) rfl ?_
  refine zg_nx (y := (105, [.ref 35, .int a, .int b, .int c, .int d, .int e, .int 12, .int d], [.int 1, .int 12, .ref 35], (zsF 20 v 12 ((12, ((d >>> (24 &&& 31)) &&& 255)) :: u)), 0, 0)) rfl ?_
  refine zg_nx (y := (106, [.ref 35, .int a, .int b, .int c, .int d, .int e, .int 12, .int d], [.int 13, .ref 35], (zsF 20 v 12 ((12, ((d >>> (24 &&& 31)) &&& 255)) :: u)), 0, 0)) rfl ?_
  refine zg_nx (y := (109, [.ref 35, .int a, .int b, .int c, .int d, .int e, .int 12, .int d], [], (zsF 20 v 13 ((12, ((d >>> (24 &&& 31)) &&& 255)) :: u)), 0, 0)) rfl ?_
  refine zg_nx (y := (112, [.ref 35, .int a, .int b, .int c, .int d, .int e, .int 13, .int d], [], (zsF 20 v 13 ((12, ((d >>> (24 &&& 31)) &&& 255)) :: u)), 0, 0)) rfl ?_
  refine zg_nx (y := (18, [.ref 35, .int a, .int b, .int c, .int d, .int e, .int 13, .int d], [], (zsF 20 v 13 ((12, ((d >>> (24 &&& 31)) &&& 255)) :: u)), 0, 0)) rfl ?_
  exact hk

theorem zfr_14 {call : Nat → List Value → zS → Option (Option Value × zS)} {f : Nat} {o : Option (Option Value × zS)} {a b c d e : Int32} {v u : List (Nat × Int32)} (hk : zgo call zm_R_feed f (18, [.ref 35, .int a, .int b, .int c, .int d, .int e, .int 14, .int d], [], (zsF 20 v 14 ((13, ((d >>> (16 &&& 31)) &&& 255)) :: u)), 0, 0) = o) : zgo call zm_R_feed (f + 42) (18, [.ref 35, .int a, .int b, .int c, .int d, .int e, .int 13, .int d], [], (zsF 20 v 13 u), 0, 0) = o := by
  refine zg_nx (y := (20, [.ref 35, .int a, .int b, .int c, .int d, .int e, .int 13, .int d], [.int 13], (zsF 20 v 13 u), 0, 0)) rfl ?_
  refine zg_nx (y := (22, [.ref 35, .int a, .int b, .int c, .int d, .int e, .int 13, .int d], [.int 20, .int 13], (zsF 20 v 13 u), 0, 0)) rfl ?_
  refine zg_nx (y := (25, [.ref 35, .int a, .int b, .int c, .int d, .int e, .int 13, .int d], [], (zsF 20 v 13 u), 0, 0)) rfl ?_
  refine zg_nx (y := (27, [.ref 35, .int a, .int b, .int c, .int d, .int e, .int 13, .int d], [.int 13], (zsF 20 v 13 u), 0, 0)) rfl ?_
  refine zg_nx (y := (28, [.ref 35, .int a, .int b, .int c, .int d, .int e, .int 13, .int d], [.int 4, .int 13], (zsF 20 v 13 u), 0, 0)) rfl ?_
  refine zg_nx (y := (35, [.ref 35, .int a, .int b, .int c, .int d, .int e, .int 13, .int d], [], (zsF 20 v 13 u), 0, 0)) rfl ?_
  refine zg_nx (y := (37, [.ref 35, .int a, .int b, .int c, .int d, .int e, .int 13, .int d], [.int 13], (zsF 20 v 13 u), 0, 0)) rfl ?_
  refine zg_nx (y := (39, [.ref 35, .int a, .int b, .int c, .int d, .int e, .int 13, .int d], [.int 8, .int 13], (zsF 20 v 13 u), 0, 0)) rfl ?_
  refine zg_nx (y := (46, [.ref 35, .int a, .int b, .int c, .int d, .int e, .int 13, .int d], [], (zsF 20 v 13 u), 0, 0)) rfl ?_
  refine zg_nx (y := (48, [.ref 35, .int a, .int b, .int c, .int d, .int e, .int 13, .int d], [.int 13], (zsF 20 v 13 u), 0, 0)) rfl ?_
  refine zg_nx (y := (50, [.ref 35, .int a, .int b, .int c, .int d, .int e, .int 13, .int d], [.int 12, .int 13], (zsF 20 v 13 u), 0, 0)) rfl ?_
  refine zg_nx (y := (57, [.ref 35, .int a, .int b, .int c, .int d, .int e, .int 13, .int d], [], (zsF 20 v 13 u), 0, 0)) rfl ?_
  refine zg_nx (y := (59, [.ref 35, .int a, .int b, .int c, .int d, .int e, .int 13, .int d], [.int 13], (zsF 20 v 13 u), 0, 0)) rfl ?_
  refine zg_nx (y := (61, [.ref 35, .int a, .int b, .int c, .int d, .int e, .int 13, .int d], [.int 16, .int 13], (zsF 20 v 13 u), 0, 0)) rfl ?_
  refine zg_nx (y := (64, [.ref 35, .int a, .int b, .int c, .int d, .int e, .int 13, .int d], [], (zsF 20 v 13 u), 0, 0)) rfl ?_
  refine zg_nx (y := (66, [.ref 35, .int a, .int b, .int c, .int d, .int e, .int 13, .int d], [.int d], (zsF 20 v 13 u), 0, 0)) rfl ?_
  refine zg_nx (y := (71, [.ref 35, .int a, .int b, .int c, .int d, .int e, .int 13, .int d], [.int d], (zsF 20 v 13 u), 0, 0)) rfl ?_
  refine zg_nx (y := (73, [.ref 35, .int a, .int b, .int c, .int d, .int e, .int 13, .int d], [], (zsF 20 v 13 u), 0, 0)) rfl ?_
  refine zg_nx (y := (74, [.ref 35, .int a, .int b, .int c, .int d, .int e, .int 13, .int d], [.ref 35], (zsF 20 v 13 u), 0, 0)) rfl ?_
  refine zg_nx (y := (77, [.ref 35, .int a, .int b, .int c, .int d, .int e, .int 13, .int d], [.ref 36], (zsF 20 v 13 u), 0, 0)) rfl ?_
  refine zg_nx (y := (78, [.ref 35, .int a, .int b, .int c, .int d, .int e, .int 13, .int d], [.ref 35, .ref 36], (zsF 20 v 13 u), 0, 0)) rfl ?_
  refine zg_nx (y := (81, [.ref 35, .int a, .int b, .int c, .int d, .int e, .int 13, .int d], [.int 13, .ref 36], (zsF 20 v 13 u), 0, 0)) rfl ?_
  refine zg_nx (y := (83, [.ref 35, .int a, .int b, .int c, .int d, .int e, .int 13, .int d], [.int d, .int 13, .ref 36], (zsF 20 v 13 u), 0, 0)) rfl ?_
  refine zg_nx (y := (85, [.ref 35, .int a, .int b, .int c, .int d, .int e, .int 13, .int d], [.int 24, .int d, .int 13, .ref 36], (zsF 20 v 13 u), 0, 0)) rfl ?_
  refine zg_nx (y := (87, [.ref 35, .int a, .int b, .int c, .int d, .int e, .int 13, .int d], [.int 8, .int 24, .int d, .int 13, .ref 36], (zsF 20 v 13 u), 0, 0)) rfl ?_
  refine zg_nx (y := (89, [.ref 35, .int a, .int b, .int c, .int d, .int e, .int 13, .int d], [.int 13, .int 8, .int 24, .int d, .int 13, .ref 36], (zsF 20 v 13 u), 0, 0)) rfl ?_
  refine zg_nx (y := (90, [.ref 35, .int a, .int b, .int c, .int d, .int e, .int 13, .int d], [.int 4, .int 13, .int 8, .int 24, .int d, .int 13, .ref 36], (zsF 20 v 13 u), 0, 0)) rfl ?_
  refine zg_nx (y := (91, [.ref 35, .int a, .int b, .int c, .int d, .int e, .int 13, .int d], [.int 1, .int 8, .int 24, .int d, .int 13, .ref 36], (zsF 20 v 13 u), 0, 0)) rfl ?_
  refine zg_nx (y := (92, [.ref 35, .int a, .int b, .int c, .int d, .int e, .int 13, .int d], [.int 8, .int 24, .int d, .int 13, .ref 36], (zsF 20 v 13 u), 0, 0)) rfl ?_
  refine zg_nx (y := (93, [.ref 35, .int a, .int b, .int c, .int d, .int e, .int 13, .int d], [.int 16, .int d, .int 13, .ref 36], (zsF 20 v 13 u), 0, 0)) rfl ?_
  refine zg_nx (y := (94, [.ref 35, .int a, .int b, .int c, .int d, .int e, .int 13, .int d], [.int (d >>> (16 &&& 31)), .int 13, .ref 36], (zsF 20 v 13 u), 0, 0)) rfl ?_
  refine zg_nx (y := (97, [.ref 35, .int a, .int b, .int c, .int d, .int e, .int 13, .int d], [.int 255, .int (d >>> (16 &&& 31)), .int 13, .ref 36], (zsF 20 v 13 u), 0, 0)) rfl ?_
  refine zg_nx (y := (98, [.ref 35, .int a, .int b, .int c, .int d, .int e, .int 13, .int d], [.int ((d >>> (16 &&& 31)) &&& 255), .int 13, .ref 36], (zsF 20 v 13 u), 0, 0)) rfl ?_
  refine zg_nx (y := (99, [.ref 35, .int a, .int b, .int c, .int d, .int e, .int 13, .int d], [], (zsF 20 v 13 ((13, ((d >>> (16 &&& 31)) &&& 255)) :: u)), 0, 0)) rfl ?_
  refine zg_nx (y := (100, [.ref 35, .int a, .int b, .int c, .int d, .int e, .int 13, .int d], [.ref 35], (zsF 20 v 13 ((13, ((d >>> (16 &&& 31)) &&& 255)) :: u)), 0, 0)) rfl ?_
  refine zg_nx (y := (101, [.ref 35, .int a, .int b, .int c, .int d, .int e, .int 13, .int d], [.ref 35, .ref 35], (zsF 20 v 13 ((13, ((d >>> (16 &&& 31)) &&& 255)) :: u)), 0, 0)) rfl ?_
  refine zg_nx (y := (104, [.ref 35, .int a, .int b, .int c, .int d, .int e, .int 13, .int d], [.int 13, .ref 35], (zsF 20 v 13 ((13, ((d >>> (16 &&& 31)) &&& 255)) :: u)), 0, 0)) rfl ?_
  refine zg_nx (y := (105, [.ref 35, .int a, .int b, .int c, .int d, .int e, .int 13, .int d], [.int 1, .int 13, .ref 35], (zsF 20 v 13 ((13, ((d >>> (16 &&& 31)) &&& 255)) :: u)), 0, 0)) rfl ?_
  refine zg_nx (y := (106, [.ref 35, .int a, .int b, .int c, .int d, .int e, .int 13, .int d], [.int 14, .ref 35], (zsF 20 v 13 ((13, ((d >>> (16 &&& 31)) &&& 255)) :: u)), 0, 0)) rfl ?_
  refine zg_nx (y := (109, [.ref 35, .int a, .int b, .int c, .int d, .int e, .int 13, .int d], [], (zsF 20 v 14 ((13, ((d >>> (16 &&& 31)) &&& 255)) :: u)), 0, 0)) rfl ?_
  refine zg_nx (y := (112, [.ref 35, .int a, .int b, .int c, .int d, .int e, .int 14, .int d], [], (zsF 20 v 14 ((13, ((d >>> (16 &&& 31)) &&& 255)) :: u)), 0, 0)) rfl ?_
  refine zg_nx (y := (18, [.ref 35, .int a, .int b, .int c, .int d, .int e, .int 14, .int d], [], (zsF 20 v 14 ((13, ((d >>> (16 &&& 31)) &&& 255)) :: u)), 0, 0)) rfl ?_
  exact hk

theorem zfr_15 {call : Nat → List Value → zS → Option (Option Value × zS)} {f : Nat} {o : Option (Option Value × zS)} {a b c d e : Int32} {v u : List (Nat × Int32)} (hk : zgo call zm_R_feed f (18, [.ref 35, .int a, .int b, .int c, .int d, .int e, .int 15, .int d], [], (zsF 20 v 15 ((14, ((d >>> (8 &&& 31)) &&& 255)) :: u)), 0, 0) = o) : zgo call zm_R_feed (f + 42) (18, [.ref 35, .int a, .int b, .int c, .int d, .int e, .int 14, .int d], [], (zsF 20 v 14 u), 0, 0) = o := by
  refine zg_nx (y := (20, [.ref 35, .int a, .int b, .int c, .int d, .int e, .int 14, .int d], [.int 14], (zsF 20 v 14 u), 0, 0)) rfl ?_
  refine zg_nx (y := (22, [.ref 35, .int a, .int b, .int c, .int d, .int e, .int 14, .int d], [.int 20, .int 14], (zsF 20 v 14 u), 0, 0)) rfl ?_
  refine zg_nx (y := (25, [.ref 35, .int a, .int b, .int c, .int d, .int e, .int 14, .int d], [], (zsF 20 v 14 u), 0, 0)) rfl ?_
  refine zg_nx (y := (27, [.ref 35, .int a, .int b, .int c, .int d, .int e, .int 14, .int d], [.int 14], (zsF 20 v 14 u), 0, 0)) rfl ?_
  refine zg_nx (y := (28, [.ref 35, .int a, .int b, .int c, .int d, .int e, .int 14, .int d], [.int 4, .int 14], (zsF 20 v 14 u), 0, 0)) rfl ?_
  refine zg_nx (y := (35, [.ref 35, .int a, .int b, .int c, .int d, .int e, .int 14, .int d], [], (zsF 20 v 14 u), 0, 0)) rfl ?_
  refine zg_nx (y := (37, [.ref 35, .int a, .int b, .int c, .int d, .int e, .int 14, .int d], [.int 14], (zsF 20 v 14 u), 0, 0)) rfl ?_
  refine zg_nx (y := (39, [.ref 35, .int a, .int b, .int c, .int d, .int e, .int 14, .int d], [.int 8, .int 14], (zsF 20 v 14 u), 0, 0)) rfl ?_
  refine zg_nx (y := (46, [.ref 35, .int a, .int b, .int c, .int d, .int e, .int 14, .int d], [], (zsF 20 v 14 u), 0, 0)) rfl ?_
  refine zg_nx (y := (48, [.ref 35, .int a, .int b, .int c, .int d, .int e, .int 14, .int d], [.int 14], (zsF 20 v 14 u), 0, 0)) rfl ?_
  refine zg_nx (y := (50, [.ref 35, .int a, .int b, .int c, .int d, .int e, .int 14, .int d], [.int 12, .int 14], (zsF 20 v 14 u), 0, 0)) rfl ?_
  refine zg_nx (y := (57, [.ref 35, .int a, .int b, .int c, .int d, .int e, .int 14, .int d], [], (zsF 20 v 14 u), 0, 0)) rfl ?_
  refine zg_nx (y := (59, [.ref 35, .int a, .int b, .int c, .int d, .int e, .int 14, .int d], [.int 14], (zsF 20 v 14 u), 0, 0)) rfl ?_
  refine zg_nx (y := (61, [.ref 35, .int a, .int b, .int c, .int d, .int e, .int 14, .int d], [.int 16, .int 14], (zsF 20 v 14 u), 0, 0)) rfl ?_
  refine zg_nx (y := (64, [.ref 35, .int a, .int b, .int c, .int d, .int e, .int 14, .int d], [], (zsF 20 v 14 u), 0, 0)) rfl ?_
  refine zg_nx (y := (66, [.ref 35, .int a, .int b, .int c, .int d, .int e, .int 14, .int d], [.int d], (zsF 20 v 14 u), 0, 0)) rfl ?_
  refine zg_nx (y := (71, [.ref 35, .int a, .int b, .int c, .int d, .int e, .int 14, .int d], [.int d], (zsF 20 v 14 u), 0, 0)) rfl ?_
  refine zg_nx (y := (73, [.ref 35, .int a, .int b, .int c, .int d, .int e, .int 14, .int d], [], (zsF 20 v 14 u), 0, 0)) rfl ?_
  refine zg_nx (y := (74, [.ref 35, .int a, .int b, .int c, .int d, .int e, .int 14, .int d], [.ref 35], (zsF 20 v 14 u), 0, 0)) rfl ?_
  refine zg_nx (y := (77, [.ref 35, .int a, .int b, .int c, .int d, .int e, .int 14, .int d], [.ref 36], (zsF 20 v 14 u), 0, 0)) rfl ?_
  refine zg_nx (y := (78, [.ref 35, .int a, .int b, .int c, .int d, .int e, .int 14, .int d], [.ref 35, .ref 36], (zsF 20 v 14 u), 0, 0)) rfl ?_
  refine zg_nx (y := (81, [.ref 35, .int a, .int b, .int c, .int d, .int e, .int 14, .int d], [.int 14, .ref 36], (zsF 20 v 14 u), 0, 0)) rfl ?_
  refine zg_nx (y := (83, [.ref 35, .int a, .int b, .int c, .int d, .int e, .int 14, .int d], [.int d, .int 14, .ref 36], (zsF 20 v 14 u), 0, 0)) rfl ?_
  refine zg_nx (y := (85, [.ref 35, .int a, .int b, .int c, .int d, .int e, .int 14, .int d], [.int 24, .int d, .int 14, .ref 36], (zsF 20 v 14 u), 0, 0)) rfl ?_
  refine zg_nx (y := (87, [.ref 35, .int a, .int b, .int c, .int d, .int e, .int 14, .int d], [.int 8, .int 24, .int d, .int 14, .ref 36], (zsF 20 v 14 u), 0, 0)) rfl ?_
  refine zg_nx (y := (89, [.ref 35, .int a, .int b, .int c, .int d, .int e, .int 14, .int d], [.int 14, .int 8, .int 24, .int d, .int 14, .ref 36], (zsF 20 v 14 u), 0, 0)) rfl ?_
  refine zg_nx (y := (90, [.ref 35, .int a, .int b, .int c, .int d, .int e, .int 14, .int d], [.int 4, .int 14, .int 8, .int 24, .int d, .int 14, .ref 36], (zsF 20 v 14 u), 0, 0)) rfl ?_
  refine zg_nx (y := (91, [.ref 35, .int a, .int b, .int c, .int d, .int e, .int 14, .int d], [.int 2, .int 8, .int 24, .int d, .int 14, .ref 36], (zsF 20 v 14 u), 0, 0)) rfl ?_
  refine zg_nx (y := (92, [.ref 35, .int a, .int b, .int c, .int d, .int e, .int 14, .int d], [.int 16, .int 24, .int d, .int 14, .ref 36], (zsF 20 v 14 u), 0, 0)) rfl ?_
  refine zg_nx (y := (93, [.ref 35, .int a, .int b, .int c, .int d, .int e, .int 14, .int d], [.int 8, .int d, .int 14, .ref 36], (zsF 20 v 14 u), 0, 0)) rfl ?_
  refine zg_nx (y := (94, [.ref 35, .int a, .int b, .int c, .int d, .int e, .int 14, .int d], [.int (d >>> (8 &&& 31)), .int 14, .ref 36], (zsF 20 v 14 u), 0, 0)) rfl ?_
  refine zg_nx (y := (97, [.ref 35, .int a, .int b, .int c, .int d, .int e, .int 14, .int d], [.int 255, .int (d >>> (8 &&& 31)), .int 14, .ref 36], (zsF 20 v 14 u), 0, 0)) rfl ?_
  refine zg_nx (y := (98, [.ref 35, .int a, .int b, .int c, .int d, .int e, .int 14, .int d], [.int ((d >>> (8 &&& 31)) &&& 255), .int 14, .ref 36], (zsF 20 v 14 u), 0, 0)) rfl ?_
  refine zg_nx (y := (99, [.ref 35, .int a, .int b, .int c, .int d, .int e, .int 14, .int d], [], (zsF 20 v 14 ((14, ((d >>> (8 &&& 31)) &&& 255)) :: u)), 0, 0)) rfl ?_
  refine zg_nx (y := (100, [.ref 35, .int a, .int b, .int c, .int d, .int e, .int 14, .int d], [.ref 35], (zsF 20 v 14 ((14, ((d >>> (8 &&& 31)) &&& 255)) :: u)), 0, 0)) rfl ?_
  refine zg_nx (y := (101, [.ref 35, .int a, .int b, .int c, .int d, .int e, .int 14, .int d], [.ref 35, .ref 35], (zsF 20 v 14 ((14, ((d >>> (8 &&& 31)) &&& 255)) :: u)), 0, 0)) rfl ?_
  refine zg_nx (y := (104, [.ref 35, .int a, .int b, .int c, .int d, .int e, .int 14, .int d], [.int 14, .ref 35], (zsF 20 v 14 ((14, ((d >>> (8 &&& 31)) &&& 255)) :: u)), 0, 0)) rfl ?_
  refine zg_nx (y := (105, [.ref 35, .int a, .int b, .int c, .int d, .int e, .int 14, .int d], [.int 1, .int 14, .ref 35], (zsF 20 v 14 ((14, ((d >>> (8 &&& 31)) &&& 255)) :: u)), 0, 0)) rfl ?_
  refine zg_nx (y := (106, [.ref 35, .int a, .int b, .int c, .int d, .int e, .int 14, .int d], [.int 15, .ref 35], (zsF 20 v 14 ((14, ((d >>> (8 &&& 31)) &&& 255)) :: u)), 0, 0)) rfl ?_
  refine zg_nx (y := (109, [.ref 35, .int a, .int b, .int c, .int d, .int e, .int 14, .int d], [], (zsF 20 v 15 ((14, ((d >>> (8 &&& 31)) &&& 255)) :: u)), 0, 0)) rfl ?_
  refine zg_nx (y := (112, [.ref 35, .int a, .int b, .int c, .int d, .int e, .int 15, .int d], [], (zsF 20 v 15 ((14, ((d >>> (8 &&& 31)) &&& 255)) :: u)), 0, 0)) rfl ?_
  refine zg_nx (y := (18, [.ref 35, .int a, .int b, .int c, .int d, .int e, .int 15, .int d], [], (zsF 20 v 15 ((14, ((d >>> (8 &&& 31)) &&& 255)) :: u)), 0, 0)) rfl ?_
  exact hk

theorem zfr_16 {call : Nat → List Value → zS → Option (Option Value × zS)} {f : Nat} {o : Option (Option Value × zS)} {a b c d e : Int32} {v u : List (Nat × Int32)} (hk : zgo call zm_R_feed f (18, [.ref 35, .int a, .int b, .int c, .int d, .int e, .int 16, .int d], [], (zsF 20 v 16 ((15, ((d >>> (0 &&& 31)) &&& 255)) :: u)), 0, 0) = o) : zgo call zm_R_feed (f + 42) (18, [.ref 35, .int a, .int b, .int c, .int d, .int e, .int 15, .int d], [], (zsF 20 v 15 u), 0, 0) = o := by
  refine zg_nx (y := (20, [.ref 35, .int a, .int b, .int c, .int d, .int e, .int 15, .int d], [.int 15], (zsF 20 v 15 u), 0, 0)) rfl ?_
  refine zg_nx (y := (22, [.ref 35, .int a, .int b, .int c, .int d, .int e, .int 15, .int d], [.int 20, .int 15], (zsF 20 v 15 u), 0, 0)) rfl ?_
  refine zg_nx (y := (25, [.ref 35, .int a, .int b, .int c, .int d, .int e, .int 15, .int d], [], (zsF 20 v 15 u), 0, 0)) rfl ?_
  refine zg_nx (y := (27, [.ref 35, .int a, .int b, .int c, .int d, .int e, .int 15, .int d], [.int 15], (zsF 20 v 15 u), 0, 0)) rfl ?_
  refine zg_nx (y := (28, [.ref 35, .int a, .int b, .int c, .int d, .int e, .int 15, .int d], [.int 4, .int 15], (zsF 20 v 15 u), 0, 0)) rfl ?_
  refine zg_nx (y := (35, [.ref 35, .int a, .int b, .int c, .int d, .int e, .int 15, .int d], [], (zsF 20 v 15 u), 0, 0)) rfl ?_
  refine zg_nx (y := (37, [.ref 35, .int a, .int b, .int c, .int d, .int e, .int 15, .int d], [.int 15], (zsF 20 v 15 u), 0, 0)) rfl ?_
  refine zg_nx (y := (39, [.ref 35, .int a, .int b, .int c, .int d, .int e, .int 15, .int d], [.int 8, .int 15], (zsF 20 v 15 u), 0, 0)) rfl ?_
  refine zg_nx (y := (46, [.ref 35, .int a, .int b, .int c, .int d, .int e, .int 15, .int d], [], (zsF 20 v 15 u), 0, 0)) rfl ?_
  refine zg_nx (y := (48, [.ref 35, .int a, .int b, .int c, .int d, .int e, .int 15, .int d], [.int 15], (zsF 20 v 15 u), 0, 0)) rfl ?_
  refine zg_nx (y := (50, [.ref 35, .int a, .int b, .int c, .int d, .int e, .int 15, .int d], [.int 12, .int 15], (zsF 20 v 15 u), 0, 0)) rfl ?_
  refine zg_nx (y := (57, [.ref 35, .int a, .int b, .int c, .int d, .int e, .int 15, .int d], [], (zsF 20 v 15 u), 0, 0)) rfl ?_
  refine zg_nx (y := (59, [.ref 35, .int a, .int b, .int c, .int d, .int e, .int 15, .int d], [.int 15], (zsF 20 v 15 u), 0, 0)) rfl ?_
  refine zg_nx (y := (61, [.ref 35, .int a, .int b, .int c, .int d, .int e, .int 15, .int d], [.int 16, .int 15], (zsF 20 v 15 u), 0, 0)) rfl ?_
  refine zg_nx (y := (64, [.ref 35, .int a, .int b, .int c, .int d, .int e, .int 15, .int d], [], (zsF 20 v 15 u), 0, 0)) rfl ?_
  refine zg_nx (y := (66, [.ref 35, .int a, .int b, .int c, .int d, .int e, .int 15, .int d], [.int d], (zsF 20 v 15 u), 0, 0)) rfl ?_
  refine zg_nx (y := (71, [.ref 35, .int a, .int b, .int c, .int d, .int e, .int 15, .int d], [.int d], (zsF 20 v 15 u), 0, 0)) rfl ?_
  refine zg_nx (y := (73, [.ref 35, .int a, .int b, .int c, .int d, .int e, .int 15, .int d], [], (zsF 20 v 15 u), 0, 0)) rfl ?_
  refine zg_nx (y := (74, [.ref 35, .int a, .int b, .int c, .int d, .int e, .int 15, .int d], [.ref 35], (zsF 20 v 15 u), 0, 0)) rfl ?_
  refine zg_nx (y := (77, [.ref 35, .int a, .int b, .int c, .int d, .int e, .int 15, .int d], [.ref 36], (zsF 20 v 15 u), 0, 0)) rfl ?_
  refine zg_nx (y := (78, [.ref 35, .int a, .int b, .int c, .int d, .int e, .int 15, .int d], [.ref 35, .ref 36], (zsF 20 v 15 u), 0, 0)) rfl ?_
  refine zg_nx (y := (81, [.ref 35, .int a, .int b, .int c, .int d, .int e, .int 15, .int d], [.int 15, .ref 36], (zsF 20 v 15 u), 0, 0)) rfl ?_
  refine zg_nx (y := (83, [.ref 35, .int a, .int b, .int c, .int d, .int e, .int 15, .int d], [.int d, .int 15, .ref 36], (zsF 20 v 15 u), 0, 0)) rfl ?_
  refine zg_nx (y := (85, [.ref 35, .int a, .int b, .int c, .int d, .int e, .int 15, .int d], [.int 24, .int d, .int 15, .ref 36], (zsF 20 v 15 u), 0, 0)) rfl ?_
  refine zg_nx (y := (87, [.ref 35, .int a, .int b, .int c, .int d, .int e, .int 15, .int d], [.int 8, .int 24, .int d, .int 15, .ref 36], (zsF 20 v 15 u), 0, 0)) rfl ?_
  refine zg_nx (y := (89, [.ref 35, .int a, .int b, .int c, .int d, .int e, .int 15, .int d], [.int 15, .int 8, .int 24, .int d, .int 15, .ref 36], (zsF 20 v 15 u), 0, 0)) rfl ?_
  refine zg_nx (y := (90, [.ref 35, .int a, .int b, .int c, .int d, .int e, .int 15, .int d], [.int 4, .int 15, .int 8, .int 24, .int d, .int 15, .ref 36], (zsF 20 v 15 u), 0, 0)) rfl ?_
  refine zg_nx (y := (91, [.ref 35, .int a, .int b, .int c, .int d, .int e, .int 15, .int d], [.int 3, .int 8, .int 24, .int d, .int 15, .ref 36], (zsF 20 v 15 u), 0, 0)) rfl ?_
  refine zg_nx (y := (92, [.ref 35, .int a, .int b, .int c, .int d, .int e, .int 15, .int d], [.int 24, .int 24, .int d, .int 15, .ref 36], (zsF 20 v 15 u), 0, 0)) rfl ?_
  refine zg_nx (y := (93, [.ref 35, .int a, .int b, .int c, .int d, .int e, .int 15, .int d], [.int 0, .int d, .int 15, .ref 36], (zsF 20 v 15 u), 0, 0)) rfl ?_
  refine zg_nx (y := (94, [.ref 35, .int a, .int b, .int c, .int d, .int e, .int 15, .int d], [.int (d >>> (0 &&& 31)), .int 15, .ref 36], (zsF 20 v 15 u), 0, 0)) rfl ?_
  refine zg_nx (y := (97, [.ref 35, .int a, .int b, .int c, .int d, .int e, .int 15, .int d], [.int 255, .int (d >>> (0 &&& 31)), .int 15, .ref 36], (zsF 20 v 15 u), 0, 0)) rfl ?_
  refine zg_nx (y := (98, [.ref 35, .int a, .int b, .int c, .int d, .int e, .int 15, .int d], [.int ((d >>> (0 &&& 31)) &&& 255), .int 15, .ref 36], (zsF 20 v 15 u), 0, 0)) rfl ?_
  refine zg_nx (y := (99, [.ref 35, .int a, .int b, .int c, .int d, .int e, .int 15, .int d], [], (zsF 20 v 15 ((15, ((d >>> (0 &&& 31)) &&& 255)) :: u)), 0, 0)) rfl ?_
  refine zg_nx (y := (100, [.ref 35, .int a, .int b, .int c, .int d, .int e, .int 15, .int d], [.ref 35], (zsF 20 v 15 ((15, ((d >>> (0 &&& 31)) &&& 255)) :: u)), 0, 0)) rfl ?_
  refine zg_nx (y := (101, [.ref 35, .int a, .int b, .int c, .int d, .int e, .int 15, .int d], [.ref 35, .ref 35], (zsF 20 v 15 ((15, ((d >>> (0 &&& 31)) &&& 255)) :: u)), 0, 0)) rfl ?_
  refine zg_nx (y := (104, [.ref 35, .int a, .int b, .int c, .int d, .int e, .int 15, .int d], [.int 15, .ref 35], (zsF 20 v 15 ((15, ((d >>> (0 &&& 31)) &&& 255)) :: u)), 0, 0)) rfl ?_
  refine zg_nx (y := (105, [.ref 35, .int a, .int b, .int c, .int d, .int e, .int 15, .int d], [.int 1, .int 15, .ref 35], (zsF 20 v 15 ((15, ((d >>> (0 &&& 31)) &&& 255)) :: u)), 0, 0)) rfl ?_
  refine zg_nx (y := (106, [.ref 35, .int a, .int b, .int c, .int d, .int e, .int 15, .int d], [.int 16, .ref 35], (zsF 20 v 15 ((15, ((d >>> (0 &&& 31)) &&& 255)) :: u)), 0, 0)) rfl ?_
  refine zg_nx (y := (109, [.ref 35, .int a, .int b, .int c, .int d, .int e, .int 15, .int d], [], (zsF 20 v 16 ((15, ((d >>> (0 &&& 31)) &&& 255)) :: u)), 0, 0)) rfl ?_
  refine zg_nx (y := (112, [.ref 35, .int a, .int b, .int c, .int d, .int e, .int 16, .int d], [], (zsF 20 v 16 ((15, ((d >>> (0 &&& 31)) &&& 255)) :: u)), 0, 0)) rfl ?_
  refine zg_nx (y := (18, [.ref 35, .int a, .int b, .int c, .int d, .int e, .int 16, .int d], [], (zsF 20 v 16 ((15, ((d >>> (0 &&& 31)) &&& 255)) :: u)), 0, 0)) rfl ?_
  exact hk

theorem zfr_17 {call : Nat → List Value → zS → Option (Option Value × zS)} {f : Nat} {o : Option (Option Value × zS)} {a b c d e : Int32} {v u : List (Nat × Int32)} (hk : zgo call zm_R_feed f (18, [.ref 35, .int a, .int b, .int c, .int d, .int e, .int 17, .int e], [], (zsF 20 v 17 ((16, ((e >>> (24 &&& 31)) &&& 255)) :: u)), 0, 0) = o) : zgo call zm_R_feed (f + 41) (18, [.ref 35, .int a, .int b, .int c, .int d, .int e, .int 16, .int d], [], (zsF 20 v 16 u), 0, 0) = o := by
  refine zg_nx (y := (20, [.ref 35, .int a, .int b, .int c, .int d, .int e, .int 16, .int d], [.int 16], (zsF 20 v 16 u), 0, 0)) rfl ?_
  refine zg_nx (y := (22, [.ref 35, .int a, .int b, .int c, .int d, .int e, .int 16, .int d], [.int 20, .int 16], (zsF 20 v 16 u), 0, 0)) rfl ?_
  refine zg_nx (y := (25, [.ref 35, .int a, .int b, .int c, .int d, .int e, .int 16, .int d], [], (zsF 20 v 16 u), 0, 0)) rfl ?_
  refine zg_nx (y := (27, [.ref 35, .int a, .int b, .int c, .int d, .int e, .int 16, .int d], [.int 16], (zsF 20 v 16 u), 0, 0)) rfl ?_
  refine zg_nx (y := (28, [.ref 35, .int a, .int b, .int c, .int d, .int e, .int 16, .int d], [.int 4, .int 16], (zsF 20 v 16 u), 0, 0)) rfl ?_
  refine zg_nx (y := (35, [.ref 35, .int a, .int b, .int c, .int d, .int e, .int 16, .int d], [], (zsF 20 v 16 u), 0, 0)) rfl ?_
  refine zg_nx (y := (37, [.ref 35, .int a, .int b, .int c, .int d, .int e, .int 16, .int d], [.int 16], (zsF 20 v 16 u), 0, 0)) rfl ?_
  refine zg_nx (y := (39, [.ref 35, .int a, .int b, .int c, .int d, .int e, .int 16, .int d], [.int 8, .int 16], (zsF 20 v 16 u), 0, 0)) rfl ?_
  refine zg_nx (y := (46, [.ref 35, .int a, .int b, .int c, .int d, .int e, .int 16, .int d], [], (zsF 20 v 16 u), 0, 0)) rfl ?_
  refine zg_nx (y := (48, [.ref 35, .int a, .int b, .int c, .int d, .int e, .int 16, .int d], [.int 16], (zsF 20 v 16 u), 0, 0)) rfl ?_
  refine zg_nx (y := (50, [.ref 35, .int a, .int b, .int c, .int d, .int e, .int 16, .int d], [.int 12, .int 16], (zsF 20 v 16 u), 0, 0)) rfl ?_
  refine zg_nx (y := (57, [.ref 35, .int a, .int b, .int c, .int d, .int e, .int 16, .int d], [], (zsF 20 v 16 u), 0, 0)) rfl ?_
  refine zg_nx (y := (59, [.ref 35, .int a, .int b, .int c, .int d, .int e, .int 16, .int d], [.int 16], (zsF 20 v 16 u), 0, 0)) rfl ?_
  refine zg_nx (y := (61, [.ref 35, .int a, .int b, .int c, .int d, .int e, .int 16, .int d], [.int 16, .int 16], (zsF 20 v 16 u), 0, 0)) rfl ?_
  refine zg_nx (y := (69, [.ref 35, .int a, .int b, .int c, .int d, .int e, .int 16, .int d], [], (zsF 20 v 16 u), 0, 0)) rfl ?_
  refine zg_nx (y := (71, [.ref 35, .int a, .int b, .int c, .int d, .int e, .int 16, .int d], [.int e], (zsF 20 v 16 u), 0, 0)) rfl ?_
  refine zg_nx (y := (73, [.ref 35, .int a, .int b, .int c, .int d, .int e, .int 16, .int e], [], (zsF 20 v 16 u), 0, 0)) rfl ?_
  refine zg_nx (y := (74, [.ref 35, .int a, .int b, .int c, .int d, .int e, .int 16, .int e], [.ref 35], (zsF 20 v 16 u), 0, 0)) rfl ?_
  refine zg_nx (y := (77, [.ref 35, .int a, .int b, .int c, .int d, .int e, .int 16, .int e], [.ref 36], (zsF 20 v 16 u), 0, 0)) rfl ?_
  refine zg_nx (y := (78, [.ref 35, .int a, .int b, .int c, .int d, .int e, .int 16, .int e], [.ref 35, .ref 36], (zsF 20 v 16 u), 0, 0)) rfl ?_
  refine zg_nx (y := (81, [.ref 35, .int a, .int b, .int c, .int d, .int e, .int 16, .int e], [.int 16, .ref 36], (zsF 20 v 16 u), 0, 0)) rfl ?_
  refine zg_nx (y := (83, [.ref 35, .int a, .int b, .int c, .int d, .int e, .int 16, .int e], [.int e, .int 16, .ref 36], (zsF 20 v 16 u), 0, 0)) rfl ?_
  refine zg_nx (y := (85, [.ref 35, .int a, .int b, .int c, .int d, .int e, .int 16, .int e], [.int 24, .int e, .int 16, .ref 36], (zsF 20 v 16 u), 0, 0)) rfl ?_
  refine zg_nx (y := (87, [.ref 35, .int a, .int b, .int c, .int d, .int e, .int 16, .int e], [.int 8, .int 24, .int e, .int 16, .ref 36], (zsF 20 v 16 u), 0, 0)) rfl ?_
  refine zg_nx (y := (89, [.ref 35, .int a, .int b, .int c, .int d, .int e, .int 16, .int e], [.int 16, .int 8, .int 24, .int e, .int 16, .ref 36], (zsF 20 v 16 u), 0, 0)) rfl ?_
  refine zg_nx (y := (90, [.ref 35, .int a, .int b, .int c, .int d, .int e, .int 16, .int e], [.int 4, .int 16, .int 8, .int 24, .int e, .int 16, .ref 36], (zsF 20 v 16 u), 0, 0)) rfl ?_
  refine zg_nx (y := (91, [.ref 35, .int a, .int b, .int c, .int d, .int e, .int 16, .int e], [.int 0, .int 8, .int 24, .int e, .int 16, .ref 36], (zsF 20 v 16 u), 0, 0)) rfl ?_
  refine zg_nx (y := (92, [.ref 35, .int a, .int b, .int c, .int d, .int e, .int 16, .int e], [.int 0, .int 24, .int e, .int 16, .ref 36], (zsF 20 v 16 u), 0, 0)) rfl ?_
  refine zg_nx (y := (93, [.ref 35, .int a, .int b, .int c, .int d, .int e, .int 16, .int e], [.int 24, .int e, .int 16, .ref 36], (zsF 20 v 16 u), 0, 0)) rfl ?_
  refine zg_nx (y := (94, [.ref 35, .int a, .int b, .int c, .int d, .int e, .int 16, .int e], [.int (e >>> (24 &&& 31)), .int 16, .ref 36], (zsF 20 v 16 u), 0, 0)) rfl ?_
  refine zg_nx (y := (97, [.ref 35, .int a, .int b, .int c, .int d, .int e, .int 16, .int e], [.int 255, .int (e >>> (24 &&& 31)), .int 16, .ref 36], (zsF 20 v 16 u), 0, 0)) rfl ?_
  refine zg_nx (y := (98, [.ref 35, .int a, .int b, .int c, .int d, .int e, .int 16, .int e], [.int ((e >>> (24 &&& 31)) &&& 255), .int 16, .ref 36], (zsF 20 v 16 u), 0, 0)) rfl ?_
  refine zg_nx (y := (99, [.ref 35, .int a, .int b, .int c, .int d, .int e, .int 16, .int e], [], (zsF 20 v 16 ((16, ((e >>> (24 &&& 31)) &&& 255)) :: u)), 0, 0)) rfl ?_
  refine zg_nx (y := (100, [.ref 35, .int a, .int b, .int c, .int d, .int e, .int 16, .int e], [.ref 35], (zsF 20 v 16 ((16, ((e >>> (24 &&& 31)) &&& 255)) :: u)), 0, 0)) rfl ?_
  refine zg_nx (y := (101, [.ref 35, .int a, .int b, .int c, .int d, .int e, .int 16, .int e], [.ref 35, .ref 35], (zsF 20 v 16 ((16, ((e >>> (24 &&& 31)) &&& 255)) :: u)), 0, 0)) rfl ?_
  refine zg_nx (y := (104, [.ref 35, .int a, .int b, .int c, .int d, .int e, .int 16, .int e], [.int 16, .ref 35], (zsF 20 v 16 ((16, ((e >>> (24 &&& 31)) &&& 255)) :: u)), 0, 0)) rfl ?_
  refine zg_nx (y := (105, [.ref 35, .int a, .int b, .int c, .int d, .int e, .int 16, .int e], [.int 1, .int 16, .ref 35], (zsF 20 v 16 ((16, ((e >>> (24 &&& 31)) &&& 255)) :: u)), 0, 0)) rfl ?_
  refine zg_nx (y := (106, [.ref 35, .int a, .int b, .int c, .int d, .int e, .int 16, .int e], [.int 17, .ref 35], (zsF 20 v 16 ((16, ((e >>> (24 &&& 31)) &&& 255)) :: u)), 0, 0)) rfl ?_
  refine zg_nx (y := (109, [.ref 35, .int a, .int b, .int c, .int d, .int e, .int 16, .int e], [], (zsF 20 v 17 ((16, ((e >>> (24 &&& 31)) &&& 255)) :: u)), 0, 0)) rfl ?_
  refine zg_nx (y := (112, [.ref 35, .int a, .int b, .int c, .int d, .int e, .int 17, .int e], [], (zsF 20 v 17 ((16, ((e >>> (24 &&& 31)) &&& 255)) :: u)), 0, 0)) rfl ?_
  refine zg_nx (y := (18, [.ref 35, .int a, .int b, .int c, .int d, .int e, .int 17, .int e], [], (zsF 20 v 17 ((16, ((e >>> (24 &&& 31)) &&& 255)) :: u)), 0, 0)) rfl ?_
  exact hk

theorem zfr_18 {call : Nat → List Value → zS → Option (Option Value × zS)} {f : Nat} {o : Option (Option Value × zS)} {a b c d e : Int32} {v u : List (Nat × Int32)} (hk : zgo call zm_R_feed f (18, [.ref 35, .int a, .int b, .int c, .int d, .int e, .int 18, .int e], [], (zsF 20 v 18 ((17, ((e >>> (16 &&& 31)) &&& 255)) :: u)), 0, 0) = o) : zgo call zm_R_feed (f + 41) (18, [.ref 35, .int a, .int b, .int c, .int d, .int e, .int 17, .int e], [], (zsF 20 v 17 u), 0, 0) = o := by
  refine zg_nx (y := (20, [.ref 35, .int a, .int b, .int c, .int d, .int e, .int 17, .int e], [.int 17], (zsF 20 v 17 u), 0, 0)) rfl ?_
  refine zg_nx (y := (22, [.ref 35, .int a, .int b, .int c, .int d, .int e, .int 17, .int e], [.int 20, .int 17], (zsF 20 v 17 u), 0, 0)) rfl ?_
  refine zg_nx (y := (25, [.ref 35, .int a, .int b, .int c, .int d, .int e, .int 17, .int e], [], (zsF 20 v 17 u), 0, 0)) rfl ?_
  refine zg_nx (y := (27, [.ref 35, .int a, .int b, .int c, .int d, .int e, .int 17, .int e], [.int 17], (zsF 20 v 17 u), 0, 0)) rfl ?_
  refine zg_nx (y := (28, [.ref 35, .int a, .int b, .int c, .int d, .int e, .int 17, .int e], [.int 4, .int 17], (zsF 20 v 17 u), 0, 0)) rfl ?_
  refine zg_nx (y := (35, [.ref 35, .int a, .int b, .int c, .int d, .int e, .int 17, .int e], [], (zsF 20 v 17 u), 0, 0)) rfl ?_
  refine zg_nx (y := (37, [.ref 35, .int a, .int b, .int c, .int d, .int e, .int 17, .int e], [.int 17], (zsF 20 v 17 u), 0, 0)) rfl ?_
  refine zg_nx (y := (39, [.ref 35, .int a, .int b, .int c, .int d, .int e, .int 17, .int e], [.int 8, .int 17], (zsF 20 v 17 u), 0, 0)) rfl ?_
  refine zg_nx (y := (46, [.ref 35, .int a, .int b, .int c, .int d, .int e, .int 17, .int e], [], (zsF 20 v 17 u), 0, 0)) rfl ?_
  refine zg_nx (y := (48, [.ref 35, .int a, .int b, .int c, .int d, .int e, .int 17, .int e], [.int 17], (zsF 20 v 17 u), 0, 0)) rfl ?_
  refine zg_nx (y := (50, [.ref 35, .int a, .int b, .int c, .int d, .int e, .int 17, .int e], [.int 12, .int 17], (zsF 20 v 17 u), 0, 0)) rfl ?_
  refine zg_nx (y := (57, [.ref 35, .int a, .int b, .int c, .int d, .int e, .int 17, .int e], [], (zsF 20 v 17 u), 0, 0)) rfl ?_
  refine zg_nx (y := (59, [.ref 35, .int a, .int b, .int c, .int d, .int e, .int 17, .int e], [.int 17], (zsF 20 v 17 u), 0, 0)) rfl ?_
  refine zg_nx (y := (61, [.ref 35, .int a, .int b, .int c, .int d, .int e, .int 17, .int e], [.int 16, .int 17], (zsF 20 v 17 u), 0, 0)) rfl ?_
  refine zg_nx (y := (69, [.ref 35, .int a, .int b, .int c, .int d, .int e, .int 17, .int e], [], (zsF 20 v 17 u), 0, 0)) rfl ?_
  refine zg_nx (y := (71, [.ref 35, .int a, .int b, .int c, .int d, .int e, .int 17, .int e], [.int e], (zsF 20 v 17 u), 0, 0)) rfl ?_
  refine zg_nx (y := (73, [.ref 35, .int a, .int b, .int c, .int d, .int e, .int 17, .int e], [], (zsF 20 v 17 u), 0, 0)) rfl ?_
  refine zg_nx (y := (74, [.ref 35, .int a, .int b, .int c, .int d, .int e, .int 17, .int e], [.ref 35], (zsF 20 v 17 u), 0, 0)) rfl ?_
  refine zg_nx (y := (77, [.ref 35, .int a, .int b, .int c, .int d, .int e, .int 17, .int e], [.ref 36], (zsF 20 v 17 u), 0, 0)) rfl ?_
  refine zg_nx (y := (78, [.ref 35, .int a, .int b, .int c, .int d, .int e, .int 17, .int e], [.ref 35, .ref 36], (zsF 20 v 17 u), 0, 0)) rfl ?_
  refine zg_nx (y := (81, [.ref 35, .int a, .int b, .int c, .int d, .int e, .int 17, .int e], [.int 17, .ref 36], (zsF 20 v 17 u), 0, 0)) rfl ?_
  refine zg_nx (y := (83, [.ref 35, .int a, .int b, .int c, .int d, .int e, .int 17, .int e], [.int e, .int 17, .ref 36], (zsF 20 v 17 u), 0, 0)) rfl ?_
  refine zg_nx (y := (85, [.ref 35, .int a, .int b, .int c, .int d, .int e, .int 17, .int e], [.int 24, .int e, .int 17, .ref 36], (zsF 20 v 17 u), 0, 0)) rfl ?_
  refine zg_nx (y := (87, [.ref 35, .int a, .int b, .int c, .int d, .int e, .int 17, .int e], [.int 8, .int 24, .int e, .int 17, .ref 36], (zsF 20 v 17 u), 0, 0)) rfl ?_
  refine zg_nx (y := (89, [.ref 35, .int a, .int b, .int c, .int d, .int e, .int 17, .int e], [.int 17, .int 8, .int 24, .int e, .int 17, .ref 36], (zsF 20 v 17 u), 0, 0)) rfl ?_
  refine zg_nx (y := (90, [.ref 35, .int a, .int b, .int c, .int d, .int e, .int 17, .int e], [.int 4, .int 17, .int 8, .int 24, .int e, .int 17, .ref 36], (zsF 20 v 17 u), 0, 0)) rfl ?_
  refine zg_nx (y := (91, [.ref 35, .int a, .int b, .int c, .int d, .int e, .int 17, .int e], [.int 1, .int 8, .int 24, .int e, .int 17, .ref 36], (zsF 20 v 17 u), 0, 0)) rfl ?_
  refine zg_nx (y := (92, [.ref 35, .int a, .int b, .int c, .int d, .int e, .int 17, .int e], [.int 8, .int 24, .int e, .int 17, .ref 36], (zsF 20 v 17 u), 0, 0)) rfl ?_
  refine zg_nx (y := (93, [.ref 35, .int a, .int b, .int c, .int d, .int e, .int 17, .int e], [.int 16, .int e, .int 17, .ref 36], (zsF 20 v 17 u), 0, 0)) rfl ?_
  refine zg_nx (y := (94, [.ref 35, .int a, .int b, .int c, .int d, .int e, .int 17, .int e], [.int (e >>> (16 &&& 31)), .int 17, .ref 36], (zsF 20 v 17 u), 0, 0)) rfl ?_
  refine zg_nx (y := (97, [.ref 35, .int a, .int b, .int c, .int d, .int e, .int 17, .int e], [.int 255, .int (e >>> (16 &&& 31)), .int 17, .ref 36], (zsF 20 v 17 u), 0, 0)) rfl ?_
  refine zg_nx (y := (98, [.ref 35, .int a, .int b, .int c, .int d, .int e, .int 17, .int e], [.int ((e >>> (16 &&& 31)) &&& 255), .int 17, .ref 36], (zsF 20 v 17 u), 0, 0)) rfl ?_
  refine zg_nx (y := (99, [.ref 35, .int a, .int b, .int c, .int d, .int e, .int 17, .int e], [], (zsF 20 v 17 ((17, ((e >>> (16 &&& 31)) &&& 255)) :: u)), 0, 0)) rfl ?_
  refine zg_nx (y := (100, [.ref 35, .int a, .int b, .int c, .int d, .int e, .int 17, .int e], [.ref 35], (zsF 20 v 17 ((17, ((e >>> (16 &&& 31)) &&& 255)) :: u)), 0, 0)) rfl ?_
  refine zg_nx (y := (101, [.ref 35, .int a, .int b, .int c, .int d, .int e, .int 17, .int e], [.ref 35, .ref 35], (zsF 20 v 17 ((17, ((e >>> (16 &&& 31)) &&& 255)) :: u)), 0, 0)) rfl ?_
  refine zg_nx (y := (104, [.ref 35, .int a, .int b, .int c, .int d, .int e, .int 17, .int e], [.int 17, .ref 35], (zsF 20 v 17 ((17, ((e >>> (16 &&& 31)) &&& 255)) :: u)), 0, 0)) rfl ?_
  refine zg_nx (y := (105, [.ref 35, .int a, .int b, .int c, .int d, .int e, .int 17, .int e], [.int 1, .int 17, .ref 35], (zsF 20 v 17 ((17, ((e >>> (16 &&& 31)) &&& 255)) :: u)), 0, 0)) rfl ?_
  refine zg_nx (y := (106, [.ref 35, .int a, .int b, .int c, .int d, .int e, .int 17, .int e], [.int 18, .ref 35], (zsF 20 v 17 ((17, ((e >>> (16 &&& 31)) &&& 255)) :: u)), 0, 0)) rfl ?_
  refine zg_nx (y := (109, [.ref 35, .int a, .int b, .int c, .int d, .int e, .int 17, .int e], [], (zsF 20 v 18 ((17, ((e >>> (16 &&& 31)) &&& 255)) :: u)), 0, 0)) rfl ?_
  refine zg_nx (y := (112, [.ref 35, .int a, .int b, .int c, .int d, .int e, .int 18, .int e], [], (zsF 20 v 18 ((17, ((e >>> (16 &&& 31)) &&& 255)) :: u)), 0, 0)) rfl ?_
  refine zg_nx (y := (18, [.ref 35, .int a, .int b, .int c, .int d, .int e, .int 18, .int e], [], (zsF 20 v 18 ((17, ((e >>> (16 &&& 31)) &&& 255)) :: u)), 0, 0)) rfl ?_
  exact hk

theorem zfr_19 {call : Nat → List Value → zS → Option (Option Value × zS)} {f : Nat} {o : Option (Option Value × zS)} {a b c d e : Int32} {v u : List (Nat × Int32)} (hk : zgo call zm_R_feed f (18, [.ref 35, .int a, .int b, .int c, .int d, .int e, .int 19, .int e], [], (zsF 20 v 19 ((18, ((e >>> (8 &&& 31)) &&& 255)) :: u)), 0, 0) = o) : zgo call zm_R_feed (f + 41) (18, [.ref 35, .int a, .int b, .int c, .int d, .int e, .int 18, .int e], [], (zsF 20 v 18 u), 0, 0) = o := by
  refine zg_nx (y := (20, [.ref 35, .int a, .int b, .int c, .int d, .int e, .int 18, .int e], [.int 18], (zsF 20 v 18 u), 0, 0)) rfl ?_
  refine zg_nx (y := (22, [.ref 35, .int a, .int b, .int c, .int d, .int e, .int 18, .int e], [.int 20, .int 18], (zsF 20 v 18 u), 0, 0)) rfl ?_
  refine zg_nx (y := (25, [.ref 35, .int a, .int b, .int c, .int d, .int e, .int 18, .int e], [], (zsF 20 v 18 u), 0, 0)) rfl ?_
  refine zg_nx (y := (27, [.ref 35, .int a, .int b, .int c, .int d, .int e, .int 18, .int e], [.int 18], (zsF 20 v 18 u), 0, 0)) rfl ?_
  refine zg_nx (y := (28, [.ref 35, .int a, .int b, .int c, .int d, .int e, .int 18, .int e], [.int 4, .int 18], (zsF 20 v 18 u), 0, 0)) rfl ?_
  refine zg_nx (y := (35, [.ref 35, .int a, .int b, .int c, .int d, .int e, .int 18, .int e], [], (zsF 20 v 18 u), 0, 0)) rfl ?_
  refine zg_nx (y := (37, [.ref 35, .int a, .int b, .int c, .int d, .int e, .int 18, .int e], [.int 18], (zsF 20 v 18 u), 0, 0)) rfl ?_
  refine zg_nx (y := (39, [.ref 35, .int a, .int b, .int c, .int d, .int e, .int 18, .int e], [.int 8, .int 18], (zsF 20 v 18 u), 0, 0)) rfl ?_
  refine zg_nx (y := (46, [.ref 35, .int a, .int b, .int c, .int d, .int e, .int 18, .int e], [], (zsF 20 v 18 u), 0, 0)) rfl ?_
  refine zg_nx (y := (48, [.ref 35, .int a, .int b, .int c, .int d, .int e, .int 18, .int e], [.int 18], (zsF 20 v 18 u), 0, 0)) rfl ?_
  refine zg_nx (y := (50, [.ref 35, .int a, .int b, .int c, .int d, .int e, .int 18, .int e], [.int 12, .int 18], (zsF 20 v 18 u), 0, 0)) rfl ?_
  refine zg_nx (y := (57, [.ref 35, .int a, .int b, .int c, .int d, .int e, .int 18, .int e], [], (zsF 20 v 18 u), 0, 0)) rfl ?_
  refine zg_nx (y := (59, [.ref 35, .int a, .int b, .int c, .int d, .int e, .int 18, .int e], [.int 18], (zsF 20 v 18 u), 0, 0)) rfl ?_
  refine zg_nx (y := (61, [.ref 35, .int a, .int b, .int c, .int d, .int e, .int 18, .int e], [.int 16, .int 18], (zsF 20 v 18 u), 0, 0)) rfl ?_
  refine zg_nx (y := (69, [.ref 35, .int a, .int b, .int c, .int d, .int e, .int 18, .int e], [], (zsF 20 v 18 u), 0, 0)) rfl ?_
  refine zg_nx (y := (71, [.ref 35, .int a, .int b, .int c, .int d, .int e, .int 18, .int e], [.int e], (zsF 20 v 18 u), 0, 0)) rfl ?_
  refine zg_nx (y := (73, [.ref 35, .int a, .int b, .int c, .int d, .int e, .int 18, .int e], [], (zsF 20 v 18 u), 0, 0)) rfl ?_
  refine zg_nx (y := (74, [.ref 35, .int a, .int b, .int c, .int d, .int e, .int 18, .int e], [.ref 35], (zsF 20 v 18 u), 0, 0)) rfl ?_
  refine zg_nx (y := (77, [.ref 35, .int a, .int b, .int c, .int d, .int e, .int 18, .int e], [.ref 36], (zsF 20 v 18 u), 0, 0)) rfl ?_
  refine zg_nx (y := (78, [.ref 35, .int a, .int b, .int c, .int d, .int e, .int 18, .int e], [.ref 35, .ref 36], (zsF 20 v 18 u), 0, 0)) rfl ?_
  refine zg_nx (y := (81, [.ref 35, .int a, .int b, .int c, .int d, .int e, .int 18, .int e], [.int 18, .ref 36], (zsF 20 v 18 u), 0, 0)) rfl ?_
  refine zg_nx (y := (83, [.ref 35, .int a, .int b, .int c, .int d, .int e, .int 18, .int e], [.int e, .int 18, .ref 36], (zsF 20 v 18 u), 0, 0)) rfl ?_
  refine zg_nx (y := (85, [.ref 35, .int a, .int b, .int c, .int d, .int e, .int 18, .int e], [.int 24, .int e, .int 18, .ref 36], (zsF 20 v 18 u), 0, 0)) rfl ?_
  refine zg_nx (y := (87, [.ref 35, .int a, .int b, .int c, .int d, .int e, .int 18, .int e], [.int 8, .int 24, .int e, .int 18, .ref 36], (zsF 20 v 18 u), 0, 0)) rfl ?_
  refine zg_nx (y := (89, [.ref 35, .int a, .int b, .int c, .int d, .int e, .int 18, .int e], [.int 18, .int 8, .int 24, .int e, .int 18, .ref 36], (zsF 20 v 18 u), 0, 0)) rfl ?_
  refine zg_nx (y := (90, [.ref 35, .int a, .int b, .int c, .int d, .int e, .int 18, .int e], [.int 4, .int 18, .int 8, .int 24, .int e, .int 18, .ref 36], (zsF 20 v 18 u), 0, 0)) rfl ?_
  refine zg_nx (y := (91, [.ref 35, .int a, .int b, .int c, .int d, .int e, .int 18, .int e], [.int 2, .int 8, .int 24, .int e, .int 18, .ref 36], (zsF 20 v 18 u), 0, 0)) rfl ?_
  refine zg_nx (y := (92, [.ref 35, .int a, .int b, .int c, .int d, .int e, .int 18, .int e], [.int 16, .int 24, .int e, .int 18, .ref 36], (zsF 20 v 18 u), 0, 0)) rfl ?_
  refine zg_nx (y := (93, [.ref 35, .int a, .int b, .int c, .int d, .int e, .int 18, .int e], [.int 8, .int e, .int 18, .ref 36], (zsF 20 v 18 u), 0, 0)) rfl ?_
  refine zg_nx (y := (94, [.ref 35, .int a, .int b, .int c, .int d, .int e, .int 18, .int e], [.int (e >>> (8 &&& 31)), .int 18, .ref 36], (zsF 20 v 18 u), 0, 0)) rfl ?_
  refine zg_nx (y := (97, [.ref 35, .int a, .int b, .int c, .int d, .int e, .int 18, .int e], [.int 255, .int (e >>> (8 &&& 31)), .int 18, .ref 36], (zsF 20 v 18 u), 0, 0)) rfl ?_
  refine zg_nx (y := (98, [.ref 35, .int a, .int b, .int c, .int d, .int e, .int 18, .int e], [.int ((e >>> (8 &&& 31)) &&& 255), .int 18, .ref 36], (zsF 20 v 18 u), 0, 0)) rfl ?_
  refine zg_nx (y := (99, [.ref 35, .int a, .int b, .int c, .int d, .int e, .int 18, .int e], [], (zsF 20 v 18 ((18, ((e >>> (8 &&& 31)) &&& 255)) :: u)), 0, 0)) rfl ?_
  refine zg_nx (y := (100, [.ref 35, .int a, .int b, .int c, .int d, .int e, .int 18, .int e], [.ref 35], (zsF 20 v 18 ((18, ((e >>> (8 &&& 31)) &&& 255)) :: u)), 0, 0)) rfl ?_
  refine zg_nx (y := (101, [.ref 35, .int a, .int b, .int c, .int d, .int e, .int 18, .int e], [.ref 35, .ref 35], (zsF 20 v 18 ((18, ((e >>> (8 &&& 31)) &&& 255)) :: u)), 0, 0)) rfl ?_
  refine zg_nx (y := (104, [.ref 35, .int a, .int b, .int c, .int d, .int e, .int 18, .int e], [.int 18, .ref 35], (zsF 20 v 18 ((18, ((e >>> (8 &&& 31)) &&& 255)) :: u)), 0, 0)) rfl ?_
  refine zg_nx (y := (105, [.ref 35, .int a, .int b, .int c, .int d, .int e, .int 18, .int e], [.int 1, .int 18, .ref 35], (zsF 20 v 18 ((18, ((e >>> (8 &&& 31)) &&& 255)) :: u)), 0, 0)) rfl ?_
  refine zg_nx (y := (106, [.ref 35, .int a, .int b, .int c, .int d, .int e, .int 18, .int e], [.int 19, .ref 35], (zsF 20 v 18 ((18, ((e >>> (8 &&& 31)) &&& 255)) :: u)), 0, 0)) rfl ?_
  refine zg_nx (y := (109, [.ref 35, .int a, .int b, .int c, .int d, .int e, .int 18, .int e], [], (zsF 20 v 19 ((18, ((e >>> (8 &&& 31)) &&& 255)) :: u)), 0, 0)) rfl ?_
  refine zg_nx (y := (112, [.ref 35, .int a, .int b, .int c, .int d, .int e, .int 19, .int e], [], (zsF 20 v 19 ((18, ((e >>> (8 &&& 31)) &&& 255)) :: u)), 0, 0)) rfl ?_
  refine zg_nx (y := (18, [.ref 35, .int a, .int b, .int c, .int d, .int e, .int 19, .int e], [], (zsF 20 v 19 ((18, ((e >>> (8 &&& 31)) &&& 255)) :: u)), 0, 0)) rfl ?_
  exact hk

theorem zfr_20 {call : Nat → List Value → zS → Option (Option Value × zS)} {f : Nat} {o : Option (Option Value × zS)} {a b c d e : Int32} {v u : List (Nat × Int32)} (hk : zgo call zm_R_feed f (18, [.ref 35, .int a, .int b, .int c, .int d, .int e, .int 20, .int e], [], (zsF 20 v 20 ((19, ((e >>> (0 &&& 31)) &&& 255)) :: u)), 0, 0) = o) : zgo call zm_R_feed (f + 41) (18, [.ref 35, .int a, .int b, .int c, .int d, .int e, .int 19, .int e], [], (zsF 20 v 19 u), 0, 0) = o := by
  refine zg_nx (y := (20, [.ref 35, .int a, .int b, .int c, .int d, .int e, .int 19, .int e], [.int 19], (zsF 20 v 19 u), 0, 0)) rfl ?_
  refine zg_nx (y := (22, [.ref 35, .int a, .int b, .int c, .int d, .int e, .int 19, .int e], [.int 20, .int 19], (zsF 20 v 19 u), 0, 0)) rfl ?_
  refine zg_nx (y := (25, [.ref 35, .int a, .int b, .int c, .int d, .int e, .int 19, .int e], [], (zsF 20 v 19 u), 0, 0)) rfl ?_
  refine zg_nx (y := (27, [.ref 35, .int a, .int b, .int c, .int d, .int e, .int 19, .int e], [.int 19], (zsF 20 v 19 u), 0, 0)) rfl ?_
  refine zg_nx (y := (28, [.ref 35, .int a, .int b, .int c, .int d, .int e, .int 19, .int e], [.int 4, .int 19], (zsF 20 v 19 u), 0, 0)) rfl ?_
  refine zg_nx (y := (35, [.ref 35, .int a, .int b, .int c, .int d, .int e, .int 19, .int e], [], (zsF 20 v 19 u), 0, 0)) rfl ?_
  refine zg_nx (y := (37, [.ref 35, .int a, .int b, .int c, .int d, .int e, .int 19, .int e], [.int 19], (zsF 20 v 19 u), 0, 0)) rfl ?_
  refine zg_nx (y := (39, [.ref 35, .int a, .int b, .int c, .int d, .int e, .int 19, .int e], [.int 8, .int 19], (zsF 20 v 19 u), 0, 0)) rfl ?_
  refine zg_nx (y := (46, [.ref 35, .int a, .int b, .int c, .int d, .int e, .int 19, .int e], [], (zsF 20 v 19 u), 0, 0)) rfl ?_
  refine zg_nx (y := (48, [.ref 35, .int a, .int b, .int c, .int d, .int e, .int 19, .int e], [.int 19], (zsF 20 v 19 u), 0, 0)) rfl ?_
  refine zg_nx (y := (50, [.ref 35, .int a, .int b, .int c, .int d, .int e, .int 19, .int e], [.int 12, .int 19], (zsF 20 v 19 u), 0, 0)) rfl ?_
  refine zg_nx (y := (57, [.ref 35, .int a, .int b, .int c, .int d, .int e, .int 19, .int e], [], (zsF 20 v 19 u), 0, 0)) rfl ?_
  refine zg_nx (y := (59, [.ref 35, .int a, .int b, .int c, .int d, .int e, .int 19, .int e], [.int 19], (zsF 20 v 19 u), 0, 0)) rfl ?_
  refine zg_nx (y := (61, [.ref 35, .int a, .int b, .int c, .int d, .int e, .int 19, .int e], [.int 16, .int 19], (zsF 20 v 19 u), 0, 0)) rfl ?_
  refine zg_nx (y := (69, [.ref 35, .int a, .int b, .int c, .int d, .int e, .int 19, .int e], [], (zsF 20 v 19 u), 0, 0)) rfl ?_
  refine zg_nx (y := (71, [.ref 35, .int a, .int b, .int c, .int d, .int e, .int 19, .int e], [.int e], (zsF 20 v 19 u), 0, 0)) rfl ?_
  refine zg_nx (y := (73, [.ref 35, .int a, .int b, .int c, .int d, .int e, .int 19, .int e], [], (zsF 20 v 19 u), 0, 0)) rfl ?_
  refine zg_nx (y := (74, [.ref 35, .int a, .int b, .int c, .int d, .int e, .int 19, .int e], [.ref 35], (zsF 20 v 19 u), 0, 0)) rfl ?_
  refine zg_nx (y := (77, [.ref 35, .int a, .int b, .int c, .int d, .int e, .int 19, .int e], [.ref 36], (zsF 20 v 19 u), 0, 0)) rfl ?_
  refine zg_nx (y := (78, [.ref 35, .int a, .int b, .int c, .int d, .int e, .int 19, .int e], [.ref 35, .ref 36], (zsF 20 v 19 u), 0, 0)) rfl ?_
  refine zg_nx (y := (81, [.ref 35, .int a, .int b, .int c, .int d, .int e, .int 19, .int e], [.int 19, .ref 36], (zsF 20 v 19 u), 0, 0)) rfl ?_
  refine zg_nx (y := (83, [.ref 35, .int a, .int b, .int c, .int d, .int e, .int 19, .int e], [.int e, .int 19, .ref 36], (zsF 20 v 19 u), 0, 0)) rfl ?_
  refine zg_nx (y := (85, [.ref 35, .int a, .int b, .int c, .int d, .int e, .int 19, .int e], [.int 24, .int e, .int 19, .ref 36], (zsF 20 v 19 u), 0, 0)) rfl ?_
  refine zg_nx (y := (87, [.ref 35, .int a, .int b, .int c, .int d, .int e, .int 19, .int e], [.int 8, .int 24, .int e, .int 19, .ref 36], (zsF 20 v 19 u), 0, 0)) rfl ?_
  refine zg_nx (y := (89, [.ref 35, .int a, .int b, .int c, .int d, .int e, .int 19, .int e], [.int 19, .int 8, .int 24, .int e, .int 19, .ref 36], (zsF 20 v 19 u), 0, 0)) rfl ?_
  refine zg_nx (y := (90, [.ref 35, .int a, .int b, .int c, .int d, .int e, .int 19, .int e], [.int 4, .int 19, .int 8, .int 24, .int e, .int 19, .ref 36], (zsF 20 v 19 u), 0, 0)) rfl ?_
  refine zg_nx (y := (91, [.ref 35, .int a, .int b, .int c, .int d, .int e, .int 19, .int e], [.int 3, .int 8, .int 24, .int e, .int 19, .ref 36], (zsF 20 v 19 u), 0, 0)) rfl ?_
  refine zg_nx (y := (92, [.ref 35, .int a, .int b, .int c, .int d, .int e, .int 19, .int e], [.int 24, .int 24, .int e, .int 19, .ref 36], (zsF 20 v 19 u), 0, 0)) rfl ?_
  refine zg_nx (y := (93, [.ref 35, .int a, .int b, .int c, .int d, .int e, .int 19, .int e], [.int 0, .int e, .int 19, .ref 36], (zsF 20 v 19 u), 0, 0)) rfl ?_
  refine zg_nx (y := (94, [.ref 35, .int a, .int b, .int c, .int d, .int e, .int 19, .int e], [.int (e >>> (0 &&& 31)), .int 19, .ref 36], (zsF 20 v 19 u), 0, 0)) rfl ?_
  refine zg_nx (y := (97, [.ref 35, .int a, .int b, .int c, .int d, .int e, .int 19, .int e], [.int 255, .int (e >>> (0 &&& 31)), .int 19, .ref 36], (zsF 20 v 19 u), 0, 0)) rfl ?_
  refine zg_nx (y := (98, [.ref 35, .int a, .int b, .int c, .int d, .int e, .int 19, .int e], [.int ((e >>> (0 &&& 31)) &&& 255), .int 19, .ref 36], (zsF 20 v 19 u), 0, 0)) rfl ?_
  refine zg_nx (y := (99, [.ref 35, .int a, .int b, .int c, .int d, .int e, .int 19, .int e], [], (zsF 20 v 19 ((19, ((e >>> (0 &&& 31)) &&& 255)) :: u)), 0, 0)) rfl ?_
  refine zg_nx (y := (100, [.ref 35, .int a, .int b, .int c, .int d, .int e, .int 19, .int e], [.ref 35], (zsF 20 v 19 ((19, ((e >>> (0 &&& 31)) &&& 255)) :: u)), 0, 0)) rfl ?_
  refine zg_nx (y := (101, [.ref 35, .int a, .int b, .int c, .int d, .int e, .int 19, .int e], [.ref 35, .ref 35], (zsF 20 v 19 ((19, ((e >>> (0 &&& 31)) &&& 255)) :: u)), 0, 0)) rfl ?_
  refine zg_nx (y := (104, [.ref 35, .int a, .int b, .int c, .int d, .int e, .int 19, .int e], [.int 19, .ref 35], (zsF 20 v 19 ((19, ((e >>> (0 &&& 31)) &&& 255)) :: u)), 0, 0)) rfl ?_
  refine zg_nx (y := (105, [.ref 35, .int a, .int b, .int c, .int d, .int e, .int 19, .int e], [.int 1, .int 19, .ref 35], (zsF 20 v 19 ((19, ((e >>> (0 &&& 31)) &&& 255)) :: u)), 0, 0)) rfl ?_
  refine zg_nx (y := (106, [.ref 35, .int a, .int b, .int c, .int d, .int e, .int 19, .int e], [.int 20, .ref 35], (zsF 20 v 19 ((19, ((e >>> (0 &&& 31)) &&& 255)) :: u)), 0, 0)) rfl ?_
  refine zg_nx (y := (109, [.ref 35, .int a, .int b, .int c, .int d, .int e, .int 19, .int e], [], (zsF 20 v 20 ((19, ((e >>> (0 &&& 31)) &&& 255)) :: u)), 0, 0)) rfl ?_
  refine zg_nx (y := (112, [.ref 35, .int a, .int b, .int c, .int d, .int e, .int 20, .int e], [], (zsF 20 v 20 ((19, ((e >>> (0 &&& 31)) &&& 255)) :: u)), 0, 0)) rfl ?_
  refine zg_nx (y := (18, [.ref 35, .int a, .int b, .int c, .int d, .int e, .int 20, .int e], [], (zsF 20 v 20 ((19, ((e >>> (0 &&& 31)) &&& 255)) :: u)), 0, 0)) rfl ?_
  exact hk

theorem zfr_end {call : Nat → List Value → zS → Option (Option Value × zS)} {f : Nat} {a b c d e : Int32} {v u : List (Nat × Int32)} : zgo call zm_R_feed (f + 6) (18, [.ref 35, .int a, .int b, .int c, .int d, .int e, .int 20, .int e], [], (zsF 20 v 20 u), 0, 0) = some (some (.int 20), zsF 20 v 20 u) := by
  refine zg_nx (y := (20, [.ref 35, .int a, .int b, .int c, .int d, .int e, .int 20, .int e], [.int 20], (zsF 20 v 20 u), 0, 0)) rfl ?_
  refine zg_nx (y := (22, [.ref 35, .int a, .int b, .int c, .int d, .int e, .int 20, .int e], [.int 20, .int 20], (zsF 20 v 20 u), 0, 0)) rfl ?_
  refine zg_nx (y := (115, [.ref 35, .int a, .int b, .int c, .int d, .int e, .int 20, .int e], [], (zsF 20 v 20 u), 0, 0)) rfl ?_
  refine zg_nx (y := (116, [.ref 35, .int a, .int b, .int c, .int d, .int e, .int 20, .int e], [.ref 35], (zsF 20 v 20 u), 0, 0)) rfl ?_
  refine zg_nx (y := (119, [.ref 35, .int a, .int b, .int c, .int d, .int e, .int 20, .int e], [.int 20], (zsF 20 v 20 u), 0, 0)) rfl ?_
  exact zg_ret rfl

theorem zf_ref {a b c d e : Int32} {v : List (Nat × Int32)} : zrun 20000 8 19 [.ref 35, .int a, .int b, .int c, .int d, .int e] (zsF 20 v 0 []) = some (some (.int 20), (zsF 20 v 20 [(19, ((e >>> (0 &&& 31)) &&& 255)), (18, ((e >>> (8 &&& 31)) &&& 255)), (17, ((e >>> (16 &&& 31)) &&& 255)), (16, ((e >>> (24 &&& 31)) &&& 255)), (15, ((d >>> (0 &&& 31)) &&& 255)), (14, ((d >>> (8 &&& 31)) &&& 255)), (13, ((d >>> (16 &&& 31)) &&& 255)), (12, ((d >>> (24 &&& 31)) &&& 255)), (11, ((c >>> (0 &&& 31)) &&& 255)), (10, ((c >>> (8 &&& 31)) &&& 255)), (9, ((c >>> (16 &&& 31)) &&& 255)), (8, ((c >>> (24 &&& 31)) &&& 255)), (7, ((b >>> (0 &&& 31)) &&& 255)), (6, ((b >>> (8 &&& 31)) &&& 255)), (5, ((b >>> (16 &&& 31)) &&& 255)), (4, ((b >>> (24 &&& 31)) &&& 255)), (3, ((a >>> (0 &&& 31)) &&& 255)), (2, ((a >>> (8 &&& 31)) &&& 255)), (1, ((a >>> (16 &&& 31)) &&& 255)), (0, ((a >>> (24 &&& 31)) &&& 255))])) := by
  refine zr_of (m := zm_R_feed) rfl (Nat.le_of_ble_eq_true rfl) ?_
  show zgo _ _ _ (0, [.ref 35, .int a, .int b, .int c, .int d, .int e, zu, zu], [], (zsF 20 v 0 []), 0, 0) = _
  refine zfr_0 (u := []) ?_
  refine zfr_1 ?_
  refine zfr_2 ?_
  refine zfr_3 ?_
  refine zfr_4 ?_
  refine zfr_5 ?_
  refine zfr_6 ?_
  refine zfr_7 ?_
  refine zfr_8 ?_
  refine zfr_9 ?_
  refine zfr_10 ?_
  refine zfr_11 ?_
  refine zfr_12 ?_
  refine zfr_13 ?_
  refine zfr_14 ?_
  refine zfr_15 ?_
  refine zfr_16 ?_
  refine zfr_17 ?_
  refine zfr_18 ?_
  refine zfr_19 ?_
  refine zfr_20 ?_
  exact zfr_end
end
section
/-! PAIRS: one call on fresh objects, of the class and of the reference: the same answer -/
/-- what one call of the class and the same one of the reference must do: answer alike -/
def z35 (st : zS) : Bool := match st[(35 : Nat)]? with
  | some (.inl (ci, _)) => decide (ci = 6)
  | _ => false
def zP (nx : Nat) (ax : List Value) (nm : Nat) (am : List Value) : Prop := ∃ (v : Int32) (st' st'' : zS), zrun 20000 8 nx ax (zsF 0 [] 0 []) = some (some (.int v), st') ∧ z35 st' = true ∧ zrun 20000 8 nm am st' = some (some (.int v), st'')
def zPb (nx : Nat) (ax : List Value) (nm : Nat) (am : List Value) : Bool := match zrun 20000 8 nx ax (zsF 0 [] 0 []) with
  | some (some (.int v), st') => z35 st' && (match zrun 20000 8 nm am st' with
    | some (some (.int w), _) => decide (w = v)
    | _ => false)
  | _ => false
theorem zP_of {nx : Nat} {ax : List Value} {nm : Nat} {am : List Value} (h : zPb nx ax nm am = true) : zP nx ax nm am := by
  unfold zPb at h
  split at h
  · rename_i v st' h1
    have h2 := Bool.and_eq_true_iff.mp h
    obtain ⟨h3, h4⟩ := h2
    split at h4
    · rename_i w st'' h5
      have := of_decide_eq_true h4
      subst this
      exact ⟨w, st', st'', h1, h3, h5⟩
    · cases h4
  · cases h
theorem zP_mk {nx : Nat} {ax : List Value} {nm : Nat} {am : List Value} {v : Int32} {st' st'' : zS} (h1 : zrun 20000 8 nx ax (zsF 0 [] 0 []) = some (some (.int v), st')) (h2 : z35 st' = true) (h3 : zrun 20000 8 nm am st' = some (some (.int v), st'')) : zP nx ax nm am := ⟨v, st', st'', h1, h2, h3⟩
set_option maxRecDepth 100000 in
theorem zP_nodes (t : Int32) : zP 3 [.ref 0, .int t] 25 [.ref 35, .int t] := by
  rcases zi_tree t with ht | ht | ht | ht
  · exact zP_mk (zq_2 (by simp only [zi_lt, zi_le, zi_eq, zi_0, zi_1, zi_2, zi_m1] at *; omega)) rfl (zq_3 (by simp only [zi_lt, zi_le, zi_eq, zi_0, zi_1, zi_2, zi_m1] at *; omega))
  · subst ht
    exact zP_of (by decide +kernel)
  · subst ht
    exact zP_of (by decide +kernel)
  · exact zP_mk (zq_5 (by simp only [zi_lt, zi_le, zi_eq, zi_0, zi_1, zi_2, zi_m1] at *; omega) (by simp only [zi_lt, zi_le, zi_eq, zi_0, zi_1, zi_2, zi_m1] at *; omega)) rfl (zq_6 (by simp only [zi_lt, zi_le, zi_eq, zi_0, zi_1, zi_2, zi_m1] at *; omega) (by simp only [zi_lt, zi_le, zi_eq, zi_0, zi_1, zi_2, zi_m1] at *; omega))

set_option maxRecDepth 100000 in
theorem zP_read (t n : Int32) : zP 2 [.ref 0, .int t, .int n] 23 [.ref 35, .int t, .int n] := by
  rcases zi_tree t with ht | ht | ht | ht
  · exact zP_mk (zq_7 (by simp only [zi_lt, zi_le, zi_eq, zi_0, zi_1, zi_2, zi_m1] at *; omega)) rfl (zq_8 (by simp only [zi_lt, zi_le, zi_eq, zi_0, zi_1, zi_2, zi_m1] at *; omega))
  · subst ht
    rcases zi_len n with hn | hn | hn | hn
    · exact zP_mk (zq_10 (by simp only [zi_lt, zi_le, zi_eq, zi_0, zi_1, zi_2, zi_m1] at *; omega)) rfl (zq_11 (by simp only [zi_lt, zi_le, zi_eq, zi_0, zi_1, zi_2, zi_m1] at *; omega))
    · subst hn
      exact zP_of (by decide +kernel)
    · subst hn
      exact zP_of (by decide +kernel)
    · exact zP_mk (zq_12 (by simp only [zi_lt, zi_le, zi_eq, zi_0, zi_1, zi_2, zi_m1] at *; omega) (by simp only [zi_lt, zi_le, zi_eq, zi_0, zi_1, zi_2, zi_m1] at *; omega)) rfl (zq_13 (by simp only [zi_lt, zi_le, zi_eq, zi_0, zi_1, zi_2, zi_m1] at *; omega) (by simp only [zi_lt, zi_le, zi_eq, zi_0, zi_1, zi_2, zi_m1] at *; omega))
  · subst ht
    rcases zi_len n with hn | hn | hn | hn
    · exact zP_mk (zq_15 (by simp only [zi_lt, zi_le, zi_eq, zi_0, zi_1, zi_2, zi_m1] at *; omega)) rfl (zq_16 (by simp only [zi_lt, zi_le, zi_eq, zi_0, zi_1, zi_2, zi_m1] at *; omega))
    · subst hn
      exact zP_of (by decide +kernel)
    · subst hn
      exact zP_of (by decide +kernel)
    · exact zP_mk (zq_17 (by simp only [zi_lt, zi_le, zi_eq, zi_0, zi_1, zi_2, zi_m1] at *; omega) (by simp only [zi_lt, zi_le, zi_eq, zi_0, zi_1, zi_2, zi_m1] at *; omega)) rfl (zq_18 (by simp only [zi_lt, zi_le, zi_eq, zi_0, zi_1, zi_2, zi_m1] at *; omega) (by simp only [zi_lt, zi_le, zi_eq, zi_0, zi_1, zi_2, zi_m1] at *; omega))
  · exact zP_mk (zq_19 (by simp only [zi_lt, zi_le, zi_eq, zi_0, zi_1, zi_2, zi_m1] at *; omega) (by simp only [zi_lt, zi_le, zi_eq, zi_0, zi_1, zi_2, zi_m1] at *; omega)) rfl (zq_20 (by simp only [zi_lt, zi_le, zi_eq, zi_0, zi_1, zi_2, zi_m1] at *; omega) (by simp only [zi_lt, zi_le, zi_eq, zi_0, zi_1, zi_2, zi_m1] at *; omega))

set_option maxRecDepth 100000 in
theorem zP_whole (t k : Int32) : zP 6 [.ref 0, .int t, .int k] 29 [.ref 35, .int t, .int k] := by
  rcases zi_tree t with ht | ht | ht | ht
  · exact zP_mk (zq_23 (by simp only [zi_lt, zi_le, zi_eq, zi_0, zi_1, zi_2, zi_m1] at *; omega)) rfl (zq_25 (by simp only [zi_lt, zi_le, zi_eq, zi_0, zi_1, zi_2, zi_m1] at *; omega))
  · subst ht
    rcases zi_node k with hk | hk | hk
    · exact zP_mk (zq_28 (by simp only [zi_lt, zi_le, zi_eq, zi_0, zi_1, zi_2, zi_m1] at *; omega)) rfl (zq_30 (by simp only [zi_lt, zi_le, zi_eq, zi_0, zi_1, zi_2, zi_m1] at *; omega))
    · subst hk
      exact zP_of (by decide +kernel)
    · exact zP_mk (zq_32 (by simp only [zi_lt, zi_le, zi_eq, zi_0, zi_1, zi_2, zi_m1] at *; omega) (by simp only [zi_lt, zi_le, zi_eq, zi_0, zi_1, zi_2, zi_m1] at *; omega)) rfl (zq_34 (by simp only [zi_lt, zi_le, zi_eq, zi_0, zi_1, zi_2, zi_m1] at *; omega) (by simp only [zi_lt, zi_le, zi_eq, zi_0, zi_1, zi_2, zi_m1] at *; omega))
  · subst ht
    rcases zi_node k with hk | hk | hk
    · exact zP_mk (zq_37 (by simp only [zi_lt, zi_le, zi_eq, zi_0, zi_1, zi_2, zi_m1] at *; omega)) rfl (zq_39 (by simp only [zi_lt, zi_le, zi_eq, zi_0, zi_1, zi_2, zi_m1] at *; omega))
    · subst hk
      exact zP_of (by decide +kernel)
    · exact zP_mk (zq_41 (by simp only [zi_lt, zi_le, zi_eq, zi_0, zi_1, zi_2, zi_m1] at *; omega) (by simp only [zi_lt, zi_le, zi_eq, zi_0, zi_1, zi_2, zi_m1] at *; omega)) rfl (zq_43 (by simp only [zi_lt, zi_le, zi_eq, zi_0, zi_1, zi_2, zi_m1] at *; omega) (by simp only [zi_lt, zi_le, zi_eq, zi_0, zi_1, zi_2, zi_m1] at *; omega))
  · exact zP_mk (zq_46 (by simp only [zi_lt, zi_le, zi_eq, zi_0, zi_1, zi_2, zi_m1] at *; omega) (by simp only [zi_lt, zi_le, zi_eq, zi_0, zi_1, zi_2, zi_m1] at *; omega)) rfl (zq_48 (by simp only [zi_lt, zi_le, zi_eq, zi_0, zi_1, zi_2, zi_m1] at *; omega) (by simp only [zi_lt, zi_le, zi_eq, zi_0, zi_1, zi_2, zi_m1] at *; omega))

set_option maxRecDepth 100000 in
theorem zP_write (t k : Int32) : zP 9 [.ref 0, .int t, .int k] 36 [.ref 35, .int t, .int k] := by
  rcases zi_tree t with ht | ht | ht | ht
  · exact zP_mk (zq_49 (by simp only [zi_lt, zi_le, zi_eq, zi_0, zi_1, zi_2, zi_m1] at *; omega)) rfl (zq_50 (by simp only [zi_lt, zi_le, zi_eq, zi_0, zi_1, zi_2, zi_m1] at *; omega))
  · subst ht
    rcases zi_node k with hk | hk | hk
    · exact zP_mk (zq_51 (by simp only [zi_lt, zi_le, zi_eq, zi_0, zi_1, zi_2, zi_m1] at *; omega)) rfl (zq_52 (by simp only [zi_lt, zi_le, zi_eq, zi_0, zi_1, zi_2, zi_m1] at *; omega))
    · subst hk
      exact zP_of (by decide +kernel)
    · exact zP_mk (zq_53 (by simp only [zi_lt, zi_le, zi_eq, zi_0, zi_1, zi_2, zi_m1] at *; omega) (by simp only [zi_lt, zi_le, zi_eq, zi_0, zi_1, zi_2, zi_m1] at *; omega)) rfl (zq_54 (by simp only [zi_lt, zi_le, zi_eq, zi_0, zi_1, zi_2, zi_m1] at *; omega) (by simp only [zi_lt, zi_le, zi_eq, zi_0, zi_1, zi_2, zi_m1] at *; omega))
  · subst ht
    rcases zi_node k with hk | hk | hk
    · exact zP_mk (zq_55 (by simp only [zi_lt, zi_le, zi_eq, zi_0, zi_1, zi_2, zi_m1] at *; omega)) rfl (zq_56 (by simp only [zi_lt, zi_le, zi_eq, zi_0, zi_1, zi_2, zi_m1] at *; omega))
    · subst hk
      exact zP_of (by decide +kernel)
    · exact zP_mk (zq_57 (by simp only [zi_lt, zi_le, zi_eq, zi_0, zi_1, zi_2, zi_m1] at *; omega) (by simp only [zi_lt, zi_le, zi_eq, zi_0, zi_1, zi_2, zi_m1] at *; omega)) rfl (zq_58 (by simp only [zi_lt, zi_le, zi_eq, zi_0, zi_1, zi_2, zi_m1] at *; omega) (by simp only [zi_lt, zi_le, zi_eq, zi_0, zi_1, zi_2, zi_m1] at *; omega))
  · exact zP_mk (zq_59 (by simp only [zi_lt, zi_le, zi_eq, zi_0, zi_1, zi_2, zi_m1] at *; omega) (by simp only [zi_lt, zi_le, zi_eq, zi_0, zi_1, zi_2, zi_m1] at *; omega)) rfl (zq_60 (by simp only [zi_lt, zi_le, zi_eq, zi_0, zi_1, zi_2, zi_m1] at *; omega) (by simp only [zi_lt, zi_le, zi_eq, zi_0, zi_1, zi_2, zi_m1] at *; omega))

set_option maxRecDepth 100000 in
theorem zP_part (t k i : Int32) : zP 5 [.ref 0, .int t, .int k, .int i] 27 [.ref 35, .int t, .int k, .int i] := by
  rcases zi_tree t with ht | ht | ht | ht
  · exact zP_mk (zq_61 (by simp only [zi_lt, zi_le, zi_eq, zi_0, zi_1, zi_2, zi_m1] at *; omega)) rfl (zq_62 (by simp only [zi_lt, zi_le, zi_eq, zi_0, zi_1, zi_2, zi_m1] at *; omega))
  · subst ht
    rcases zi_node k with hk | hk | hk
    · exact zP_mk (zq_71 (by simp only [zi_lt, zi_le, zi_eq, zi_0, zi_1, zi_2, zi_m1] at *; omega)) rfl (zq_72 (by simp only [zi_lt, zi_le, zi_eq, zi_0, zi_1, zi_2, zi_m1] at *; omega))
    · subst hk
      rcases zi_neg i with hi | hi
      · exact zP_mk (zq_65 (by simp only [zi_lt, zi_le, zi_eq, zi_0, zi_1, zi_2, zi_m1] at *; omega)) rfl (zq_67 (by simp only [zi_lt, zi_le, zi_eq, zi_0, zi_1, zi_2, zi_m1] at *; omega))
      · exact zP_mk (zq_69 (by simp only [zi_lt, zi_le, zi_eq, zi_0, zi_1, zi_2, zi_m1] at *; omega)) rfl (zq_70 (by simp only [zi_lt, zi_le, zi_eq, zi_0, zi_1, zi_2, zi_m1] at *; omega))
    · exact zP_mk (zq_73 (by simp only [zi_lt, zi_le, zi_eq, zi_0, zi_1, zi_2, zi_m1] at *; omega) (by simp only [zi_lt, zi_le, zi_eq, zi_0, zi_1, zi_2, zi_m1] at *; omega)) rfl (zq_74 (by simp only [zi_lt, zi_le, zi_eq, zi_0, zi_1, zi_2, zi_m1] at *; omega) (by simp only [zi_lt, zi_le, zi_eq, zi_0, zi_1, zi_2, zi_m1] at *; omega))
  · subst ht
    rcases zi_node k with hk | hk | hk
    · exact zP_mk (zq_83 (by simp only [zi_lt, zi_le, zi_eq, zi_0, zi_1, zi_2, zi_m1] at *; omega)) rfl (zq_84 (by simp only [zi_lt, zi_le, zi_eq, zi_0, zi_1, zi_2, zi_m1] at *; omega))
    · subst hk
      rcases zi_neg i with hi | hi
      · exact zP_mk (zq_77 (by simp only [zi_lt, zi_le, zi_eq, zi_0, zi_1, zi_2, zi_m1] at *; omega)) rfl (zq_79 (by simp only [zi_lt, zi_le, zi_eq, zi_0, zi_1, zi_2, zi_m1] at *; omega))
      · exact zP_mk (zq_81 (by simp only [zi_lt, zi_le, zi_eq, zi_0, zi_1, zi_2, zi_m1] at *; omega)) rfl (zq_82 (by simp only [zi_lt, zi_le, zi_eq, zi_0, zi_1, zi_2, zi_m1] at *; omega))
    · exact zP_mk (zq_85 (by simp only [zi_lt, zi_le, zi_eq, zi_0, zi_1, zi_2, zi_m1] at *; omega) (by simp only [zi_lt, zi_le, zi_eq, zi_0, zi_1, zi_2, zi_m1] at *; omega)) rfl (zq_86 (by simp only [zi_lt, zi_le, zi_eq, zi_0, zi_1, zi_2, zi_m1] at *; omega) (by simp only [zi_lt, zi_le, zi_eq, zi_0, zi_1, zi_2, zi_m1] at *; omega))
  · exact zP_mk (zq_87 (by simp only [zi_lt, zi_le, zi_eq, zi_0, zi_1, zi_2, zi_m1] at *; omega) (by simp only [zi_lt, zi_le, zi_eq, zi_0, zi_1, zi_2, zi_m1] at *; omega)) rfl (zq_88 (by simp only [zi_lt, zi_le, zi_eq, zi_0, zi_1, zi_2, zi_m1] at *; omega) (by simp only [zi_lt, zi_le, zi_eq, zi_0, zi_1, zi_2, zi_m1] at *; omega))

set_option maxRecDepth 100000 in
theorem zP_node (t k w : Int32) : zP 4 [.ref 0, .int t, .int k, .int w] 28 [.ref 35, .int t, .int k, .int w] := by
  rcases zi_tree t with ht | ht | ht | ht
  · exact zP_mk (zq_89 (by simp only [zi_lt, zi_le, zi_eq, zi_0, zi_1, zi_2, zi_m1] at *; omega)) rfl (zq_90 (by simp only [zi_lt, zi_le, zi_eq, zi_0, zi_1, zi_2, zi_m1] at *; omega))
  · subst ht
    rcases zi_node k with hk | hk | hk
    · exact zP_mk (zq_93 (by simp only [zi_lt, zi_le, zi_eq, zi_0, zi_1, zi_2, zi_m1] at *; omega)) rfl (zq_94 (by simp only [zi_lt, zi_le, zi_eq, zi_0, zi_1, zi_2, zi_m1] at *; omega))
    · subst hk
      by_cases h0 : w = 0
      · subst h0
        exact zP_of (by decide +kernel)
      by_cases h1 : w = 1
      · subst h1
        exact zP_of (by decide +kernel)
      by_cases h2 : w = 2
      · subst h2
        exact zP_of (by decide +kernel)
      by_cases h3 : w = 3
      · subst h3
        exact zP_of (by decide +kernel)
      by_cases h4 : w = 4
      · subst h4
        exact zP_of (by decide +kernel)
      exact zP_mk (zq_91 (by simp only [zswT]; rw [if_neg h0, if_neg h1, if_neg h2, if_neg h3, if_neg h4])) rfl (zq_92 (by simp only [zi_lt, zi_le, zi_eq, zi_0, zi_1, zi_2, zi_m1] at *; omega) (by simp only [zi_lt, zi_le, zi_eq, zi_0, zi_1, zi_2, zi_m1] at *; omega) (by simp only [zi_lt, zi_le, zi_eq, zi_0, zi_1, zi_2, zi_m1] at *; omega) (by simp only [zi_lt, zi_le, zi_eq, zi_0, zi_1, zi_2, zi_m1] at *; omega) (by simp only [zi_lt, zi_le, zi_eq, zi_0, zi_1, zi_2, zi_m1] at *; omega))
    · exact zP_mk (zq_95 (by simp only [zi_lt, zi_le, zi_eq, zi_0, zi_1, zi_2, zi_m1] at *; omega) (by simp only [zi_lt, zi_le, zi_eq, zi_0, zi_1, zi_2, zi_m1] at *; omega)) rfl (zq_96 (by simp only [zi_lt, zi_le, zi_eq, zi_0, zi_1, zi_2, zi_m1] at *; omega) (by simp only [zi_lt, zi_le, zi_eq, zi_0, zi_1, zi_2, zi_m1] at *; omega))
  · subst ht
    rcases zi_node k with hk | hk | hk
    · exact zP_mk (zq_99 (by simp only [zi_lt, zi_le, zi_eq, zi_0, zi_1, zi_2, zi_m1] at *; omega)) rfl (zq_100 (by simp only [zi_lt, zi_le, zi_eq, zi_0, zi_1, zi_2, zi_m1] at *; omega))
    · subst hk
      by_cases h0 : w = 0
      · subst h0
        exact zP_of (by decide +kernel)
      by_cases h1 : w = 1
      · subst h1
        exact zP_of (by decide +kernel)
      by_cases h2 : w = 2
      · subst h2
        exact zP_of (by decide +kernel)
      by_cases h3 : w = 3
      · subst h3
        exact zP_of (by decide +kernel)
      by_cases h4 : w = 4
      · subst h4
        exact zP_of (by decide +kernel)
      exact zP_mk (zq_97 (by simp only [zswT]; rw [if_neg h0, if_neg h1, if_neg h2, if_neg h3, if_neg h4])) rfl (zq_98 (by simp only [zi_lt, zi_le, zi_eq, zi_0, zi_1, zi_2, zi_m1] at *; omega) (by simp only [zi_lt, zi_le, zi_eq, zi_0, zi_1, zi_2, zi_m1] at *; omega) (by simp only [zi_lt, zi_le, zi_eq, zi_0, zi_1, zi_2, zi_m1] at *; omega) (by simp only [zi_lt, zi_le, zi_eq, zi_0, zi_1, zi_2, zi_m1] at *; omega) (by simp only [zi_lt, zi_le, zi_eq, zi_0, zi_1, zi_2, zi_m1] at *; omega))
    · exact zP_mk (zq_101 (by simp only [zi_lt, zi_le, zi_eq, zi_0, zi_1, zi_2, zi_m1] at *; omega) (by simp only [zi_lt, zi_le, zi_eq, zi_0, zi_1, zi_2, zi_m1] at *; omega)) rfl (zq_102 (by simp only [zi_lt, zi_le, zi_eq, zi_0, zi_1, zi_2, zi_m1] at *; omega) (by simp only [zi_lt, zi_le, zi_eq, zi_0, zi_1, zi_2, zi_m1] at *; omega))
  · exact zP_mk (zq_103 (by simp only [zi_lt, zi_le, zi_eq, zi_0, zi_1, zi_2, zi_m1] at *; omega) (by simp only [zi_lt, zi_le, zi_eq, zi_0, zi_1, zi_2, zi_m1] at *; omega)) rfl (zq_104 (by simp only [zi_lt, zi_le, zi_eq, zi_0, zi_1, zi_2, zi_m1] at *; omega) (by simp only [zi_lt, zi_le, zi_eq, zi_0, zi_1, zi_2, zi_m1] at *; omega))

theorem zP_spelt (n i : Int32) : zP 8 [.ref 0, .int n, .int i] 31 [.ref 35, .int n, .int i] := by
  rcases zi_neg n with hn | hn
  · exact zP_mk (zq_106 (by simp only [zi_lt, zi_le, zi_eq, zi_0, zi_1, zi_2, zi_m1] at *; omega)) rfl (zq_107 (by simp only [zi_lt, zi_le, zi_eq, zi_0, zi_1, zi_2, zi_m1] at *; omega))
  · exact zP_mk (zq_109 (by simp only [zi_lt, zi_le, zi_eq, zi_0, zi_1, zi_2, zi_m1] at *; omega) (by simp only [zi_lt, zi_le, zi_eq, zi_0, zi_1, zi_2, zi_m1] at *; omega)) rfl (zq_110 (by simp only [zi_lt, zi_le, zi_eq, zi_0, zi_1, zi_2, zi_m1] at *; omega) (by simp only [zi_lt, zi_le, zi_eq, zi_0, zi_1, zi_2, zi_m1] at *; omega))

theorem zP_written (i : Int32) : zP 10 [.ref 0, .int i] 37 [.ref 35, .int i] := by
  rcases zi_neg i with hi | hi
  · exact zP_mk (zq_111 (by simp only [zi_lt, zi_le, zi_eq, zi_0, zi_1, zi_2, zi_m1] at *; omega)) rfl (zq_112 (by simp only [zi_lt, zi_le, zi_eq, zi_0, zi_1, zi_2, zi_m1] at *; omega))
  · exact zP_mk (zq_113 (by simp only [zi_lt, zi_le, zi_eq, zi_0, zi_1, zi_2, zi_m1] at *; omega) (by simp only [zi_lt, zi_le, zi_eq, zi_0, zi_1, zi_2, zi_m1] at *; omega)) rfl (zq_114 (by simp only [zi_lt, zi_le, zi_eq, zi_0, zi_1, zi_2, zi_m1] at *; omega))

set_option maxRecDepth 100000 in
theorem zP_names : zP 7 [.ref 0] 30 [.ref 35] := by
  exact zP_of (by decide +kernel)

set_option maxRecDepth 100000 in
theorem zP_again : zP 11 [.ref 0] 38 [.ref 35] := by
  exact zP_of (by decide +kernel)

set_option maxRecDepth 100000 in
theorem zP_same : zP 12 [.ref 0] 32 [.ref 35] := by
  exact zP_of (by decide +kernel)

theorem zP_feed (a b c d e : Int32) : zP 1 [.ref 0, .int a, .int b, .int c, .int d, .int e] 19 [.ref 35, .int a, .int b, .int c, .int d, .int e] := zP_mk zf_class rfl zf_ref
end
section
-- ===== end of PART A; then your names; then what follows =====
/-! THE CLAIM OUT OF ONE WALK OF THE LAW'S BODY. Your part is whole_start (and what it stands on); all else here is the same for every law, but numbers. -/
def R_law : String := "DesignReaderLaw"
def lw_P (b : Addr) (xs : List Int32) (args : Array Value) (s : State) : Prop := args = #[.ref b] ∧ s.IntsAt b xs ∧ xs.length ≤ 6 ∧ (Jvm.Cond.and given_1 narrow_1).before args s = true
def lw_Q (_ : Array Value) (s : State) (o : Outcome) (t : State) : Prop := o = .returned (some (.int 1)) ∧ Framed s o t [] 600000 7302250
def lw_Z (below : List Frame) (a : Array Value) (s : State) : State → Prop := fun t => ∃ o, t.status = .running ∧ Ended t below o ∧ lw_Q a s o t
/-- the law's own end, with 1 on the stack, nothing written that was there before, its room as the claim has it -/
theorem lw_ret {p : Program} {l : Launch} {e : Env} {s : State} {m : MethodId} {below : List Frame} {meth : Method} {c : Code} {b : Nat} (hx : p.tables.exec = Jvm.exec) (hb : c.code = code) (hr : meth.sig.returnType = ret) (hlocks : meth.locks = false) {pc : Nat} {H : Heap} {ls : Array Slot} (hdg : decode code pc = .ok (.ireturn, 1)) : W p l e room_1 s m #[Value.ref b] below meth c H [] 600000 7302250 (lw_Z below #[Value.ref b] s) (F0 m pc ls [.int 1]) := by
  intro T hT X
  obtain ⟨fs, hret, hrun, hended, hW, hframe⟩ := X.leave (v := some (.int 1)) (hlocks := hlocks) (fun h => by rw [hr] at h; cases h)
  have hmeth' : T.vm.method? m = some meth := X.method'
  refine ⟨T.setFrames fs, ?_, .returned (some (.int 1)), hrun, hended, rfl, ⟨_, rfl⟩, hW, hframe⟩
  jvm_step X.here [X.here.top, hx, hb, hdg, hmeth', hr, ret, narrow_b1]
  (try refine ⟨rfl, ?_⟩); (try refine ⟨rfl, ?_⟩)
  first | (intro acts; rw [hret _ acts rfl rfl rfl]) | rw [hret _ _ rfl rfl rfl]
  exact Steps.refl _
/-- what holds at the law's entry: the machine, the code, the tables' words (any of lw_tbl by 'hts w (by decide +kernel)'), the script of L ints xs at the cell b, what the Statement gives of the start (any of its parts by flat_of_before) -/
def lw_At (p : Program) (s : State) (m : MethodId) (meth : Method) (c : Code) (b L : Nat) (xs : Nat → Int32) : Prop :=
  p.tables.exec = Jvm.exec ∧ c.code = code ∧ meth.sig.returnType = ret ∧ c.maxLocals = 4 ∧ s.vm.findClass R_law = some m.cls ∧ (∀ w ∈ lw_tbl, w.before #[Value.ref b] s = true) ∧ va_X b L xs s s.heap ∧ b < s.heap.size ∧ meth.locks = false ∧ (Jvm.Cond.and given_1 narrow_1).before #[Value.ref b] s = true
end
section
/-! THE LAW as a method of the abstract machine; its tables are those of the class file -/
def zm_L : zMth := (⟨"DesignReaderLaw", "law", "([I)Z"⟩, code, 4, some .boolean, "DesignReaderLaw", 600000, 7302250, [], [
  (0, .new 7, 3, 5, 0, 116, []),
  (3, .dup, 1, 0, 0, 0, []),
  (4, .invokespecial 9, 3, 0, 1, 118, []),
  (7, .astore_n 1, 1, 0, 0, 0, []),
  (8, .new 10, 3, 6, 0, 733, []),
  (11, .dup, 1, 0, 0, 0, []),
  (12, .invokespecial 12, 3, 16, 1, 735, []),
  (15, .astore_n 2, 1, 0, 0, 0, []),
  (16, .iconst 0, 1, 0, 0, 0, []),
  (17, .istore_n 3, 1, 0, 0, 0, []),
  (18, .iload_n 3, 1, 0, 0, 0, []),
  (19, .aload_n 0, 1, 0, 0, 0, []),
  (20, .arraylength, 1, 0, 0, 0, []),
  (21, .bipush (6), 2, 0, 0, 0, []),
  (23, .isub, 1, 0, 0, 0, []),
  (24, .if_icmp .gt (444), 3, 468, 0, 0, []),
  (27, .aload_n 0, 1, 0, 0, 0, []),
  (28, .iload_n 3, 1, 0, 0, 0, []),
  (29, .iaload, 1, 0, 0, 0, []),
  (30, .bipush (15), 2, 0, 0, 0, []),
  (32, .iand, 1, 0, 0, 0, []),
  (33, .tableswitch (429) 0 11 #[63, 126, 159, 182, 225, 268, 301, 314, 347, 380, 403, 416], 63, 462, 0, 0, [(0, 96), (1, 159), (2, 192), (3, 215), (4, 258), (5, 301), (6, 334), (7, 347), (8, 380), (9, 413), (10, 436), (11, 449)]),
  (96, .aload_n 1, 1, 0, 0, 0, []),
  (97, .aload_n 0, 1, 0, 0, 0, []),
  (98, .iload_n 3, 1, 0, 0, 0, []),
  (99, .iconst 1, 1, 0, 0, 0, []),
  (100, .iadd, 1, 0, 0, 0, []),
  (101, .iaload, 1, 0, 0, 0, []),
  (102, .aload_n 0, 1, 0, 0, 0, []),
  (103, .iload_n 3, 1, 0, 0, 0, []),
  (104, .iconst 2, 1, 0, 0, 0, []),
  (105, .iadd, 1, 0, 0, 0, []),
  (106, .iaload, 1, 0, 0, 0, []),
  (107, .aload_n 0, 1, 0, 0, 0, []),
  (108, .iload_n 3, 1, 0, 0, 0, []),
  (109, .iconst 3, 1, 0, 0, 0, []),
  (110, .iadd, 1, 0, 0, 0, []),
  (111, .iaload, 1, 0, 0, 0, []),
  (112, .aload_n 0, 1, 0, 0, 0, []),
  (113, .iload_n 3, 1, 0, 0, 0, []),
  (114, .iconst 4, 1, 0, 0, 0, []),
  (115, .iadd, 1, 0, 0, 0, []),
  (116, .iaload, 1, 0, 0, 0, []),
  (117, .aload_n 0, 1, 0, 0, 0, []),
  (118, .iload_n 3, 1, 0, 0, 0, []),
  (119, .iconst 5, 1, 0, 0, 0, []),
  (120, .iadd, 1, 0, 0, 0, []),
  (121, .iaload, 1, 0, 0, 0, []),
  (122, .invokevirtual 13, 3, 1, 6, 324, []),
  (125, .aload_n 2, 1, 0, 0, 0, []),
  (126, .aload_n 0, 1, 0, 0, 0, []),
  (127, .iload_n 3, 1, 0, 0, 0, []),
  (128, .iconst 1, 1, 0, 0, 0, []),
  (129, .iadd, 1, 0, 0, 0, []),
  (130, .iaload, 1, 0, 0, 0, []),
  (131, .aload_n 0, 1, 0, 0, 0, []),
  (132, .iload_n 3, 1, 0, 0, 0, []),
  (133, .iconst 2, 1, 0, 0, 0, []),
  (134, .iadd, 1, 0, 0, 0, []),
  (135, .iaload, 1, 0, 0, 0, []),
  (136, .aload_n 0, 1, 0, 0, 0, []),
  (137, .iload_n 3, 1, 0, 0, 0, []),
  (138, .iconst 3, 1, 0, 0, 0, []),
  (139, .iadd, 1, 0, 0, 0, []),
  (140, .iaload, 1, 0, 0, 0, []),
  (141, .aload_n 0, 1, 0, 0, 0, []),
  (142, .iload_n 3, 1, 0, 0, 0, []),
  (143, .iconst 4, 1, 0, 0, 0, []),
  (144, .iadd, 1, 0, 0, 0, []),
  (145, .iaload, 1, 0, 0, 0, []),
  (146, .aload_n 0, 1, 0, 0, 0, []),
  (147, .iload_n 3, 1, 0, 0, 0, []),
  (148, .iconst 5, 1, 0, 0, 0, []),
  (149, .iadd, 1, 0, 0, 0, []),
  (150, .iaload, 1, 0, 0, 0, []),
  (151, .invokevirtual 17, 3, 19, 6, 843, []),
  (154, .if_icmp .eq (308), 3, 462, 0, 0, []),
  (157, .iconst 0, 1, 0, 0, 0, []),
  (158, .ireturn, 1, 1, 0, 0, []),
  (159, .aload_n 1, 1, 0, 0, 0, []),
  (160, .aload_n 0, 1, 0, 0, 0, []),
  (161, .iload_n 3, 1, 0, 0, 0, []),
  (162, .iconst 1, 1, 0, 0, 0, []),
  (163, .iadd, 1, 0, 0, 0, []),
  (164, .iaload, 1, 0, 0, 0, []),
  (165, .aload_n 0, 1, 0, 0, 0, []),
  (166, .iload_n 3, 1, 0, 0, 0, []),
  (167, .iconst 2, 1, 0, 0, 0, []),
  (168, .iadd, 1, 0, 0, 0, []),
  (169, .iaload, 1, 0, 0, 0, []),
  (170, .invokevirtual 18, 3, 2, 3, 331, []),
  (173, .aload_n 2, 1, 0, 0, 0, []),
  (174, .aload_n 0, 1, 0, 0, 0, []),
  (175, .iload_n 3, 1, 0, 0, 0, []),
  (176, .iconst 1, 1, 0, 0, 0, []),
  (177, .iadd, 1, 0, 0, 0, []),
  (178, .iaload, 1, 0, 0, 0, []),
  (179, .aload_n 0, 1, 0, 0, 0, []),
  (180, .iload_n 3, 1, 0, 0, 0, []),
  (181, .iconst 2, 1, 0, 0, 0, []),
  (182, .iadd, 1, 0, 0, 0, []),
  (183, .iaload, 1, 0, 0, 0, []),
  (184, .invokevirtual 22, 3, 23, 3, 847, []),
  (187, .if_icmp .eq (275), 3, 462, 0, 0, []),
  (190, .iconst 0, 1, 0, 0, 0, []),
  (191, .ireturn, 1, 1, 0, 0, []),
  (192, .aload_n 1, 1, 0, 0, 0, []),
  (193, .aload_n 0, 1, 0, 0, 0, []),
  (194, .iload_n 3, 1, 0, 0, 0, []),
  (195, .iconst 1, 1, 0, 0, 0, []),
  (196, .iadd, 1, 0, 0, 0, []),
  (197, .iaload, 1, 0, 0, 0, []),
  (198, .invokevirtual 23, 3, 3, 2, 600, []),
  (201, .aload_n 2, 1, 0, 0, 0, []),
  (202, .aload_n 0, 1, 0, 0, 0, []),
  (203, .iload_n 3, 1, 0, 0, 0, []),
  (204, .iconst 1, 1, 0, 0, 0, []),
  (205, .iadd, 1, 0, 0, 0, []),
  (206, .iaload, 1, 0, 0, 0, []),
  (207, .invokevirtual 27, 3, 25, 2, 971, []),
  (210, .if_icmp .eq (252), 3, 462, 0, 0, []),
  (213, .iconst 0, 1, 0, 0, 0, []),
  (214, .ireturn, 1, 1, 0, 0, []),
  (215, .aload_n 1, 1, 0, 0, 0, []),
  (216, .aload_n 0, 1, 0, 0, 0, []),
  (217, .iload_n 3, 1, 0, 0, 0, []),
  (218, .iconst 1, 1, 0, 0, 0, []),
  (219, .iadd, 1, 0, 0, 0, []),
  (220, .iaload, 1, 0, 0, 0, []),
  (221, .aload_n 0, 1, 0, 0, 0, []),
  (222, .iload_n 3, 1, 0, 0, 0, []),
  (223, .iconst 2, 1, 0, 0, 0, []),
  (224, .iadd, 1, 0, 0, 0, []),
  (225, .iaload, 1, 0, 0, 0, []),
  (226, .aload_n 0, 1, 0, 0, 0, []),
  (227, .iload_n 3, 1, 0, 0, 0, []),
  (228, .iconst 3, 1, 0, 0, 0, []),
  (229, .iadd, 1, 0, 0, 0, []),
  (230, .iaload, 1, 0, 0, 0, []),
  (231, .invokevirtual 28, 3, 4, 4, 604, []),
  (234, .aload_n 2, 1, 0, 0, 0, []),
  (235, .aload_n 0, 1, 0, 0, 0, []),
  (236, .iload_n 3, 1, 0, 0, 0, []),
  (237, .iconst 1, 1, 0, 0, 0, []),
  (238, .iadd, 1, 0, 0, 0, []),
  (239, .iaload, 1, 0, 0, 0, []),
  (240, .aload_n 0, 1, 0, 0, 0, []),
  (241, .iload_n 3, 1, 0, 0, 0, []),
  (242, .iconst 2, 1, 0, 0, 0, []),
  (243, .iadd, 1, 0, 0, 0, []),
  (244, .iaload, 1, 0, 0, 0, []),
  (245, .aload_n 0, 1, 0, 0, 0, []),
  (246, .iload_n 3, 1, 0, 0, 0, []),
  (247, .iconst 3, 1, 0, 0, 0, []),
  (248, .iadd, 1, 0, 0, 0, []),
  (249, .iaload, 1, 0, 0, 0, []),
  (250, .invokevirtual 32, 3, 28, 4, 982, []),
  (253, .if_icmp .eq (209), 3, 462, 0, 0, []),
  (256, .iconst 0, 1, 0, 0, 0, []),
  (257, .ireturn, 1, 1, 0, 0, []),
  (258, .aload_n 1, 1, 0, 0, 0, []),
  (259, .aload_n 0, 1, 0, 0, 0, []),
  (260, .iload_n 3, 1, 0, 0, 0, []),
  (261, .iconst 1, 1, 0, 0, 0, []),
  (262, .iadd, 1, 0, 0, 0, []),
  (263, .iaload, 1, 0, 0, 0, []),
  (264, .aload_n 0, 1, 0, 0, 0, []),
  (265, .iload_n 3, 1, 0, 0, 0, []),
  (266, .iconst 2, 1, 0, 0, 0, []),
  (267, .iadd, 1, 0, 0, 0, []),
  (268, .iaload, 1, 0, 0, 0, []),
  (269, .aload_n 0, 1, 0, 0, 0, []),
  (270, .iload_n 3, 1, 0, 0, 0, []),
  (271, .iconst 3, 1, 0, 0, 0, []),
  (272, .iadd, 1, 0, 0, 0, []),
  (273, .iaload, 1, 0, 0, 0, []),
  (274, .invokevirtual 33, 3, 5, 4, 611, []),
  (277, .aload_n 2, 1, 0, 0, 0, []),
  (278, .aload_n 0, 1, 0, 0, 0, []),
  (279, .iload_n 3, 1, 0, 0, 0, []),
  (280, .iconst 1, 1, 0, 0, 0, []),
  (281, .iadd, 1, 0, 0, 0, []),
  (282, .iaload, 1, 0, 0, 0, []),
  (283, .aload_n 0, 1, 0, 0, 0, []),
  (284, .iload_n 3, 1, 0, 0, 0, []),
  (285, .iconst 2, 1, 0, 0, 0, []),
  (286, .iadd, 1, 0, 0, 0, []),
  (287, .iaload, 1, 0, 0, 0, []),
  (288, .aload_n 0, 1, 0, 0, 0, []),
  (289, .iload_n 3, 1, 0, 0, 0, []),
  (290, .iconst 3, 1, 0, 0, 0, []),
  (291, .iadd, 1, 0, 0, 0, []),
  (292, .iaload, 1, 0, 0, 0, []),
  (293, .invokevirtual 36, 3, 27, 4, 975, []),
  (296, .if_icmp .eq (166), 3, 462, 0, 0, []),
  (299, .iconst 0, 1, 0, 0, 0, []),
  (300, .ireturn, 1, 1, 0, 0, []),
  (301, .aload_n 1, 1, 0, 0, 0, []),
  (302, .aload_n 0, 1, 0, 0, 0, []),
  (303, .iload_n 3, 1, 0, 0, 0, []),
  (304, .iconst 1, 1, 0, 0, 0, []),
  (305, .iadd, 1, 0, 0, 0, []),
  (306, .iaload, 1, 0, 0, 0, []),
  (307, .aload_n 0, 1, 0, 0, 0, []),
  (308, .iload_n 3, 1, 0, 0, 0, []),
  (309, .iconst 2, 1, 0, 0, 0, []),
  (310, .iadd, 1, 0, 0, 0, []),
  (311, .iaload, 1, 0, 0, 0, []),
  (312, .invokevirtual 37, 3, 6, 3, 619, []),
  (315, .aload_n 2, 1, 0, 0, 0, []),
  (316, .aload_n 0, 1, 0, 0, 0, []),
  (317, .iload_n 3, 1, 0, 0, 0, []),
  (318, .iconst 1, 1, 0, 0, 0, []),
  (319, .iadd, 1, 0, 0, 0, []),
  (320, .iaload, 1, 0, 0, 0, []),
  (321, .aload_n 0, 1, 0, 0, 0, []),
  (322, .iload_n 3, 1, 0, 0, 0, []),
  (323, .iconst 2, 1, 0, 0, 0, []),
  (324, .iadd, 1, 0, 0, 0, []),
  (325, .iaload, 1, 0, 0, 0, []),
  (326, .invokevirtual 40, 3, 29, 3, 989, []),
  (329, .if_icmp .eq (133), 3, 462, 0, 0, []),
  (332, .iconst 0, 1, 0, 0, 0, []),
  (333, .ireturn, 1, 1, 0, 0, []),
  (334, .aload_n 1, 1, 0, 0, 0, []),
  (335, .invokevirtual 41, 3, 7, 1, 623, []),
  (338, .aload_n 2, 1, 0, 0, 0, []),
  (339, .invokevirtual 45, 3, 30, 1, 993, []),
  (342, .if_icmp .eq (120), 3, 462, 0, 0, []),
  (345, .iconst 0, 1, 0, 0, 0, []),
  (346, .ireturn, 1, 1, 0, 0, []),
  (347, .aload_n 1, 1, 0, 0, 0, []),
  (348, .aload_n 0, 1, 0, 0, 0, []),
  (349, .iload_n 3, 1, 0, 0, 0, []),
  (350, .iconst 1, 1, 0, 0, 0, []),
  (351, .iadd, 1, 0, 0, 0, []),
  (352, .iaload, 1, 0, 0, 0, []),
  (353, .aload_n 0, 1, 0, 0, 0, []),
  (354, .iload_n 3, 1, 0, 0, 0, []),
  (355, .iconst 2, 1, 0, 0, 0, []),
  (356, .iadd, 1, 0, 0, 0, []),
  (357, .iaload, 1, 0, 0, 0, []),
  (358, .invokevirtual 46, 3, 8, 3, 627, []),
  (361, .aload_n 2, 1, 0, 0, 0, []),
  (362, .aload_n 0, 1, 0, 0, 0, []),
  (363, .iload_n 3, 1, 0, 0, 0, []),
  (364, .iconst 1, 1, 0, 0, 0, []),
  (365, .iadd, 1, 0, 0, 0, []),
  (366, .iaload, 1, 0, 0, 0, []),
  (367, .aload_n 0, 1, 0, 0, 0, []),
  (368, .iload_n 3, 1, 0, 0, 0, []),
  (369, .iconst 2, 1, 0, 0, 0, []),
  (370, .iadd, 1, 0, 0, 0, []),
  (371, .iaload, 1, 0, 0, 0, []),
  (372, .invokevirtual 49, 3, 31, 3, 997, []),
  (375, .if_icmp .eq (87), 3, 462, 0, 0, []),
  (378, .iconst 0, 1, 0, 0, 0, []),
  (379, .ireturn, 1, 1, 0, 0, []),
  (380, .aload_n 1, 1, 0, 0, 0, []),
  (381, .aload_n 0, 1, 0, 0, 0, []),
  (382, .iload_n 3, 1, 0, 0, 0, []),
  (383, .iconst 1, 1, 0, 0, 0, []),
  (384, .iadd, 1, 0, 0, 0, []),
  (385, .iaload, 1, 0, 0, 0, []),
  (386, .aload_n 0, 1, 0, 0, 0, []),
  (387, .iload_n 3, 1, 0, 0, 0, []),
  (388, .iconst 2, 1, 0, 0, 0, []),
  (389, .iadd, 1, 0, 0, 0, []),
  (390, .iaload, 1, 0, 0, 0, []),
  (391, .invokevirtual 50, 3, 9, 3, 635, []),
  (394, .aload_n 2, 1, 0, 0, 0, []),
  (395, .aload_n 0, 1, 0, 0, 0, []),
  (396, .iload_n 3, 1, 0, 0, 0, []),
  (397, .iconst 1, 1, 0, 0, 0, []),
  (398, .iadd, 1, 0, 0, 0, []),
  (399, .iaload, 1, 0, 0, 0, []),
  (400, .aload_n 0, 1, 0, 0, 0, []),
  (401, .iload_n 3, 1, 0, 0, 0, []),
  (402, .iconst 2, 1, 0, 0, 0, []),
  (403, .iadd, 1, 0, 0, 0, []),
  (404, .iaload, 1, 0, 0, 0, []),
  (405, .invokevirtual 53, 3, 36, 3, 1005, []),
  (408, .if_icmp .eq (54), 3, 462, 0, 0, []),
  (411, .iconst 0, 1, 0, 0, 0, []),
  (412, .ireturn, 1, 1, 0, 0, []),
  (413, .aload_n 1, 1, 0, 0, 0, []),
  (414, .aload_n 0, 1, 0, 0, 0, []),
  (415, .iload_n 3, 1, 0, 0, 0, []),
  (416, .iconst 1, 1, 0, 0, 0, []),
  (417, .iadd, 1, 0, 0, 0, []),
  (418, .iaload, 1, 0, 0, 0, []),
  (419, .invokevirtual 54, 3, 10, 2, 716, []),
  (422, .aload_n 2, 1, 0, 0, 0, []),
  (423, .aload_n 0, 1, 0, 0, 0, []),
  (424, .iload_n 3, 1, 0, 0, 0, []),
  (425, .iconst 1, 1, 0, 0, 0, []),
  (426, .iadd, 1, 0, 0, 0, []),
  (427, .iaload, 1, 0, 0, 0, []),
  (428, .invokevirtual 57, 3, 37, 2, 1070, []),
  (431, .if_icmp .eq (31), 3, 462, 0, 0, []),
  (434, .iconst 0, 1, 0, 0, 0, []),
  (435, .ireturn, 1, 1, 0, 0, []),
  (436, .aload_n 1, 1, 0, 0, 0, []),
  (437, .invokevirtual 58, 3, 11, 1, 720, []),
  (440, .aload_n 2, 1, 0, 0, 0, []),
  (441, .invokevirtual 61, 3, 38, 1, 1074, []),
  (444, .if_icmp .eq (18), 3, 462, 0, 0, []),
  (447, .iconst 0, 1, 0, 0, 0, []),
  (448, .ireturn, 1, 1, 0, 0, []),
  (449, .aload_n 1, 1, 0, 0, 0, []),
  (450, .invokevirtual 62, 3, 12, 1, 725, []),
  (453, .aload_n 2, 1, 0, 0, 0, []),
  (454, .invokevirtual 66, 3, 32, 1, 1001, []),
  (457, .if_icmp .eq (5), 3, 462, 0, 0, []),
  (460, .iconst 0, 1, 0, 0, 0, []),
  (461, .ireturn, 1, 1, 0, 0, []),
  (462, .iinc 3 (6), 3, 0, 0, 0, []),
  (465, .goto (-447), 3, 18, 0, 0, []),
  (468, .iconst 1, 1, 0, 0, 0, []),
  (469, .ireturn, 1, 1, 0, 0, [])])

def zLi_0 : List (Nat × zI) := [
  (0, .new 7, 3, 5, 0, 116, []),
  (3, .dup, 1, 0, 0, 0, []),
  (4, .invokespecial 9, 3, 0, 1, 118, []),
  (7, .astore_n 1, 1, 0, 0, 0, []),
  (8, .new 10, 3, 6, 0, 733, []),
  (11, .dup, 1, 0, 0, 0, []),
  (12, .invokespecial 12, 3, 16, 1, 735, []),
  (15, .astore_n 2, 1, 0, 0, 0, []),
  (16, .iconst 0, 1, 0, 0, 0, []),
  (17, .istore_n 3, 1, 0, 0, 0, []),
  (18, .iload_n 3, 1, 0, 0, 0, []),
  (19, .aload_n 0, 1, 0, 0, 0, []),
  (20, .arraylength, 1, 0, 0, 0, []),
  (21, .bipush (6), 2, 0, 0, 0, []),
  (23, .isub, 1, 0, 0, 0, []),
  (24, .if_icmp .gt (444), 3, 468, 0, 0, []),
  (27, .aload_n 0, 1, 0, 0, 0, []),
  (28, .iload_n 3, 1, 0, 0, 0, []),
  (29, .iaload, 1, 0, 0, 0, []),
  (30, .bipush (15), 2, 0, 0, 0, []),
  (32, .iand, 1, 0, 0, 0, []),
  (33, .tableswitch (429) 0 11 #[63, 126, 159, 182, 225, 268, 301, 314, 347, 380, 403, 416], 63, 462, 0, 0, [(0, 96), (1, 159), (2, 192), (3, 215), (4, 258), (5, 301), (6, 334), (7, 347), (8, 380), (9, 413), (10, 436), (11, 449)]),
  (96, .aload_n 1, 1, 0, 0, 0, []),
  (97, .aload_n 0, 1, 0, 0, 0, []),
  (98, .iload_n 3, 1, 0, 0, 0, []),
  (99, .iconst 1, 1, 0, 0, 0, []),
  (100, .iadd, 1, 0, 0, 0, []),
  (101, .iaload, 1, 0, 0, 0, []),
  (102, .aload_n 0, 1, 0, 0, 0, []),
  (103, .iload_n 3, 1, 0, 0, 0, []),
  (104, .iconst 2, 1, 0, 0, 0, []),
  (105, .iadd, 1, 0, 0, 0, []),
  (106, .iaload, 1, 0, 0, 0, []),
  (107, .aload_n 0, 1, 0, 0, 0, []),
  (108, .iload_n 3, 1, 0, 0, 0, []),
  (109, .iconst 3, 1, 0, 0, 0, []),
  (110, .iadd, 1, 0, 0, 0, []),
  (111, .iaload, 1, 0, 0, 0, []),
  (112, .aload_n 0, 1, 0, 0, 0, []),
  (113, .iload_n 3, 1, 0, 0, 0, [])]
def zLi_1 : List (Nat × zI) := [
  (114, .iconst 4, 1, 0, 0, 0, []),
  (115, .iadd, 1, 0, 0, 0, []),
  (116, .iaload, 1, 0, 0, 0, []),
  (117, .aload_n 0, 1, 0, 0, 0, []),
  (118, .iload_n 3, 1, 0, 0, 0, []),
  (119, .iconst 5, 1, 0, 0, 0, []),
  (120, .iadd, 1, 0, 0, 0, []),
  (121, .iaload, 1, 0, 0, 0, []),
  (122, .invokevirtual 13, 3, 1, 6, 324, []),
  (125, .aload_n 2, 1, 0, 0, 0, []),
  (126, .aload_n 0, 1, 0, 0, 0, []),
  (127, .iload_n 3, 1, 0, 0, 0, []),
  (128, .iconst 1, 1, 0, 0, 0, []),
  (129, .iadd, 1, 0, 0, 0, []),
  (130, .iaload, 1, 0, 0, 0, []),
  (131, .aload_n 0, 1, 0, 0, 0, []),
  (132, .iload_n 3, 1, 0, 0, 0, []),
  (133, .iconst 2, 1, 0, 0, 0, []),
  (134, .iadd, 1, 0, 0, 0, []),
  (135, .iaload, 1, 0, 0, 0, []),
  (136, .aload_n 0, 1, 0, 0, 0, []),
  (137, .iload_n 3, 1, 0, 0, 0, []),
  (138, .iconst 3, 1, 0, 0, 0, []),
  (139, .iadd, 1, 0, 0, 0, []),
  (140, .iaload, 1, 0, 0, 0, []),
  (141, .aload_n 0, 1, 0, 0, 0, []),
  (142, .iload_n 3, 1, 0, 0, 0, []),
  (143, .iconst 4, 1, 0, 0, 0, []),
  (144, .iadd, 1, 0, 0, 0, []),
  (145, .iaload, 1, 0, 0, 0, []),
  (146, .aload_n 0, 1, 0, 0, 0, []),
  (147, .iload_n 3, 1, 0, 0, 0, []),
  (148, .iconst 5, 1, 0, 0, 0, []),
  (149, .iadd, 1, 0, 0, 0, []),
  (150, .iaload, 1, 0, 0, 0, []),
  (151, .invokevirtual 17, 3, 19, 6, 843, []),
  (154, .if_icmp .eq (308), 3, 462, 0, 0, []),
  (157, .iconst 0, 1, 0, 0, 0, []),
  (158, .ireturn, 1, 1, 0, 0, []),
  (159, .aload_n 1, 1, 0, 0, 0, [])]
def zLi_2 : List (Nat × zI) := [
  (160, .aload_n 0, 1, 0, 0, 0, []),
  (161, .iload_n 3, 1, 0, 0, 0, []),
  (162, .iconst 1, 1, 0, 0, 0, []),
  (163, .iadd, 1, 0, 0, 0, []),
  (164, .iaload, 1, 0, 0, 0, []),
  (165, .aload_n 0, 1, 0, 0, 0, []),
  (166, .iload_n 3, 1, 0, 0, 0, []),
  (167, .iconst 2, 1, 0, 0, 0, []),
  (168, .iadd, 1, 0, 0, 0, []),
  (169, .iaload, 1, 0, 0, 0, []),
  (170, .invokevirtual 18, 3, 2, 3, 331, []),
  (173, .aload_n 2, 1, 0, 0, 0, []),
  (174, .aload_n 0, 1, 0, 0, 0, []),
  (175, .iload_n 3, 1, 0, 0, 0, []),
  (176, .iconst 1, 1, 0, 0, 0, []),
  (177, .iadd, 1, 0, 0, 0, []),
  (178, .iaload, 1, 0, 0, 0, []),
  (179, .aload_n 0, 1, 0, 0, 0, []),
  (180, .iload_n 3, 1, 0, 0, 0, []),
  (181, .iconst 2, 1, 0, 0, 0, []),
  (182, .iadd, 1, 0, 0, 0, []),
  (183, .iaload, 1, 0, 0, 0, []),
  (184, .invokevirtual 22, 3, 23, 3, 847, []),
  (187, .if_icmp .eq (275), 3, 462, 0, 0, []),
  (190, .iconst 0, 1, 0, 0, 0, []),
  (191, .ireturn, 1, 1, 0, 0, []),
  (192, .aload_n 1, 1, 0, 0, 0, []),
  (193, .aload_n 0, 1, 0, 0, 0, []),
  (194, .iload_n 3, 1, 0, 0, 0, []),
  (195, .iconst 1, 1, 0, 0, 0, []),
  (196, .iadd, 1, 0, 0, 0, []),
  (197, .iaload, 1, 0, 0, 0, []),
  (198, .invokevirtual 23, 3, 3, 2, 600, []),
  (201, .aload_n 2, 1, 0, 0, 0, []),
  (202, .aload_n 0, 1, 0, 0, 0, []),
  (203, .iload_n 3, 1, 0, 0, 0, []),
  (204, .iconst 1, 1, 0, 0, 0, []),
  (205, .iadd, 1, 0, 0, 0, []),
  (206, .iaload, 1, 0, 0, 0, []),
  (207, .invokevirtual 27, 3, 25, 2, 971, [])]
def zLi_3 : List (Nat × zI) := [
  (210, .if_icmp .eq (252), 3, 462, 0, 0, []),
  (213, .iconst 0, 1, 0, 0, 0, []),
  (214, .ireturn, 1, 1, 0, 0, []),
  (215, .aload_n 1, 1, 0, 0, 0, []),
  (216, .aload_n 0, 1, 0, 0, 0, []),
  (217, .iload_n 3, 1, 0, 0, 0, []),
  (218, .iconst 1, 1, 0, 0, 0, []),
  (219, .iadd, 1, 0, 0, 0, []),
  (220, .iaload, 1, 0, 0, 0, []),
  (221, .aload_n 0, 1, 0, 0, 0, []),
  (222, .iload_n 3, 1, 0, 0, 0, []),
  (223, .iconst 2, 1, 0, 0, 0, []),
  (224, .iadd, 1, 0, 0, 0, []),
  (225, .iaload, 1, 0, 0, 0, []),
  (226, .aload_n 0, 1, 0, 0, 0, []),
  (227, .iload_n 3, 1, 0, 0, 0, []),
  (228, .iconst 3, 1, 0, 0, 0, []),
  (229, .iadd, 1, 0, 0, 0, []),
  (230, .iaload, 1, 0, 0, 0, []),
  (231, .invokevirtual 28, 3, 4, 4, 604, []),
  (234, .aload_n 2, 1, 0, 0, 0, []),
  (235, .aload_n 0, 1, 0, 0, 0, []),
  (236, .iload_n 3, 1, 0, 0, 0, []),
  (237, .iconst 1, 1, 0, 0, 0, []),
  (238, .iadd, 1, 0, 0, 0, []),
  (239, .iaload, 1, 0, 0, 0, []),
  (240, .aload_n 0, 1, 0, 0, 0, []),
  (241, .iload_n 3, 1, 0, 0, 0, []),
  (242, .iconst 2, 1, 0, 0, 0, []),
  (243, .iadd, 1, 0, 0, 0, []),
  (244, .iaload, 1, 0, 0, 0, []),
  (245, .aload_n 0, 1, 0, 0, 0, []),
  (246, .iload_n 3, 1, 0, 0, 0, []),
  (247, .iconst 3, 1, 0, 0, 0, []),
  (248, .iadd, 1, 0, 0, 0, []),
  (249, .iaload, 1, 0, 0, 0, []),
  (250, .invokevirtual 32, 3, 28, 4, 982, []),
  (253, .if_icmp .eq (209), 3, 462, 0, 0, []),
  (256, .iconst 0, 1, 0, 0, 0, []),
  (257, .ireturn, 1, 1, 0, 0, [])]
def zLi_4 : List (Nat × zI) := [
  (258, .aload_n 1, 1, 0, 0, 0, []),
  (259, .aload_n 0, 1, 0, 0, 0, []),
  (260, .iload_n 3, 1, 0, 0, 0, []),
  (261, .iconst 1, 1, 0, 0, 0, []),
  (262, .iadd, 1, 0, 0, 0, []),
  (263, .iaload, 1, 0, 0, 0, []),
  (264, .aload_n 0, 1, 0, 0, 0, []),
  (265, .iload_n 3, 1, 0, 0, 0, []),
  (266, .iconst 2, 1, 0, 0, 0, []),
  (267, .iadd, 1, 0, 0, 0, []),
  (268, .iaload, 1, 0, 0, 0, []),
  (269, .aload_n 0, 1, 0, 0, 0, []),
  (270, .iload_n 3, 1, 0, 0, 0, []),
  (271, .iconst 3, 1, 0, 0, 0, []),
  (272, .iadd, 1, 0, 0, 0, []),
  (273, .iaload, 1, 0, 0, 0, []),
  (274, .invokevirtual 33, 3, 5, 4, 611, []),
  (277, .aload_n 2, 1, 0, 0, 0, []),
  (278, .aload_n 0, 1, 0, 0, 0, []),
  (279, .iload_n 3, 1, 0, 0, 0, []),
  (280, .iconst 1, 1, 0, 0, 0, []),
  (281, .iadd, 1, 0, 0, 0, []),
  (282, .iaload, 1, 0, 0, 0, []),
  (283, .aload_n 0, 1, 0, 0, 0, []),
  (284, .iload_n 3, 1, 0, 0, 0, []),
  (285, .iconst 2, 1, 0, 0, 0, []),
  (286, .iadd, 1, 0, 0, 0, []),
  (287, .iaload, 1, 0, 0, 0, []),
  (288, .aload_n 0, 1, 0, 0, 0, []),
  (289, .iload_n 3, 1, 0, 0, 0, []),
  (290, .iconst 3, 1, 0, 0, 0, []),
  (291, .iadd, 1, 0, 0, 0, []),
  (292, .iaload, 1, 0, 0, 0, []),
  (293, .invokevirtual 36, 3, 27, 4, 975, []),
  (296, .if_icmp .eq (166), 3, 462, 0, 0, []),
  (299, .iconst 0, 1, 0, 0, 0, []),
  (300, .ireturn, 1, 1, 0, 0, []),
  (301, .aload_n 1, 1, 0, 0, 0, []),
  (302, .aload_n 0, 1, 0, 0, 0, []),
  (303, .iload_n 3, 1, 0, 0, 0, [])]
def zLi_5 : List (Nat × zI) := [
  (304, .iconst 1, 1, 0, 0, 0, []),
  (305, .iadd, 1, 0, 0, 0, []),
  (306, .iaload, 1, 0, 0, 0, []),
  (307, .aload_n 0, 1, 0, 0, 0, []),
  (308, .iload_n 3, 1, 0, 0, 0, []),
  (309, .iconst 2, 1, 0, 0, 0, []),
  (310, .iadd, 1, 0, 0, 0, []),
  (311, .iaload, 1, 0, 0, 0, []),
  (312, .invokevirtual 37, 3, 6, 3, 619, []),
  (315, .aload_n 2, 1, 0, 0, 0, []),
  (316, .aload_n 0, 1, 0, 0, 0, []),
  (317, .iload_n 3, 1, 0, 0, 0, []),
  (318, .iconst 1, 1, 0, 0, 0, []),
  (319, .iadd, 1, 0, 0, 0, []),
  (320, .iaload, 1, 0, 0, 0, []),
  (321, .aload_n 0, 1, 0, 0, 0, []),
  (322, .iload_n 3, 1, 0, 0, 0, []),
  (323, .iconst 2, 1, 0, 0, 0, []),
  (324, .iadd, 1, 0, 0, 0, []),
  (325, .iaload, 1, 0, 0, 0, []),
  (326, .invokevirtual 40, 3, 29, 3, 989, []),
  (329, .if_icmp .eq (133), 3, 462, 0, 0, []),
  (332, .iconst 0, 1, 0, 0, 0, []),
  (333, .ireturn, 1, 1, 0, 0, []),
  (334, .aload_n 1, 1, 0, 0, 0, []),
  (335, .invokevirtual 41, 3, 7, 1, 623, []),
  (338, .aload_n 2, 1, 0, 0, 0, []),
  (339, .invokevirtual 45, 3, 30, 1, 993, []),
  (342, .if_icmp .eq (120), 3, 462, 0, 0, []),
  (345, .iconst 0, 1, 0, 0, 0, []),
  (346, .ireturn, 1, 1, 0, 0, []),
  (347, .aload_n 1, 1, 0, 0, 0, []),
  (348, .aload_n 0, 1, 0, 0, 0, []),
  (349, .iload_n 3, 1, 0, 0, 0, []),
  (350, .iconst 1, 1, 0, 0, 0, []),
  (351, .iadd, 1, 0, 0, 0, []),
  (352, .iaload, 1, 0, 0, 0, []),
  (353, .aload_n 0, 1, 0, 0, 0, []),
  (354, .iload_n 3, 1, 0, 0, 0, []),
  (355, .iconst 2, 1, 0, 0, 0, [])]
def zLi_6 : List (Nat × zI) := [
  (356, .iadd, 1, 0, 0, 0, []),
  (357, .iaload, 1, 0, 0, 0, []),
  (358, .invokevirtual 46, 3, 8, 3, 627, []),
  (361, .aload_n 2, 1, 0, 0, 0, []),
  (362, .aload_n 0, 1, 0, 0, 0, []),
  (363, .iload_n 3, 1, 0, 0, 0, []),
  (364, .iconst 1, 1, 0, 0, 0, []),
  (365, .iadd, 1, 0, 0, 0, []),
  (366, .iaload, 1, 0, 0, 0, []),
  (367, .aload_n 0, 1, 0, 0, 0, []),
  (368, .iload_n 3, 1, 0, 0, 0, []),
  (369, .iconst 2, 1, 0, 0, 0, []),
  (370, .iadd, 1, 0, 0, 0, []),
  (371, .iaload, 1, 0, 0, 0, []),
  (372, .invokevirtual 49, 3, 31, 3, 997, []),
  (375, .if_icmp .eq (87), 3, 462, 0, 0, []),
  (378, .iconst 0, 1, 0, 0, 0, []),
  (379, .ireturn, 1, 1, 0, 0, []),
  (380, .aload_n 1, 1, 0, 0, 0, []),
  (381, .aload_n 0, 1, 0, 0, 0, []),
  (382, .iload_n 3, 1, 0, 0, 0, []),
  (383, .iconst 1, 1, 0, 0, 0, []),
  (384, .iadd, 1, 0, 0, 0, []),
  (385, .iaload, 1, 0, 0, 0, []),
  (386, .aload_n 0, 1, 0, 0, 0, []),
  (387, .iload_n 3, 1, 0, 0, 0, []),
  (388, .iconst 2, 1, 0, 0, 0, []),
  (389, .iadd, 1, 0, 0, 0, []),
  (390, .iaload, 1, 0, 0, 0, []),
  (391, .invokevirtual 50, 3, 9, 3, 635, []),
  (394, .aload_n 2, 1, 0, 0, 0, []),
  (395, .aload_n 0, 1, 0, 0, 0, []),
  (396, .iload_n 3, 1, 0, 0, 0, []),
  (397, .iconst 1, 1, 0, 0, 0, []),
  (398, .iadd, 1, 0, 0, 0, []),
  (399, .iaload, 1, 0, 0, 0, []),
  (400, .aload_n 0, 1, 0, 0, 0, []),
  (401, .iload_n 3, 1, 0, 0, 0, []),
  (402, .iconst 2, 1, 0, 0, 0, []),
  (403, .iadd, 1, 0, 0, 0, [])]
def zLi_7 : List (Nat × zI) := [
  (404, .iaload, 1, 0, 0, 0, []),
  (405, .invokevirtual 53, 3, 36, 3, 1005, []),
  (408, .if_icmp .eq (54), 3, 462, 0, 0, []),
  (411, .iconst 0, 1, 0, 0, 0, []),
  (412, .ireturn, 1, 1, 0, 0, []),
  (413, .aload_n 1, 1, 0, 0, 0, []),
  (414, .aload_n 0, 1, 0, 0, 0, []),
  (415, .iload_n 3, 1, 0, 0, 0, []),
  (416, .iconst 1, 1, 0, 0, 0, []),
  (417, .iadd, 1, 0, 0, 0, []),
  (418, .iaload, 1, 0, 0, 0, []),
  (419, .invokevirtual 54, 3, 10, 2, 716, []),
  (422, .aload_n 2, 1, 0, 0, 0, []),
  (423, .aload_n 0, 1, 0, 0, 0, []),
  (424, .iload_n 3, 1, 0, 0, 0, []),
  (425, .iconst 1, 1, 0, 0, 0, []),
  (426, .iadd, 1, 0, 0, 0, []),
  (427, .iaload, 1, 0, 0, 0, []),
  (428, .invokevirtual 57, 3, 37, 2, 1070, []),
  (431, .if_icmp .eq (31), 3, 462, 0, 0, []),
  (434, .iconst 0, 1, 0, 0, 0, []),
  (435, .ireturn, 1, 1, 0, 0, []),
  (436, .aload_n 1, 1, 0, 0, 0, []),
  (437, .invokevirtual 58, 3, 11, 1, 720, []),
  (440, .aload_n 2, 1, 0, 0, 0, []),
  (441, .invokevirtual 61, 3, 38, 1, 1074, []),
  (444, .if_icmp .eq (18), 3, 462, 0, 0, []),
  (447, .iconst 0, 1, 0, 0, 0, []),
  (448, .ireturn, 1, 1, 0, 0, []),
  (449, .aload_n 1, 1, 0, 0, 0, []),
  (450, .invokevirtual 62, 3, 12, 1, 725, []),
  (453, .aload_n 2, 1, 0, 0, 0, []),
  (454, .invokevirtual 66, 3, 32, 1, 1001, []),
  (457, .if_icmp .eq (5), 3, 462, 0, 0, []),
  (460, .iconst 0, 1, 0, 0, 0, []),
  (461, .ireturn, 1, 1, 0, 0, []),
  (462, .iinc 3 (6), 3, 0, 0, 0, []),
  (465, .goto (-447), 3, 18, 0, 0, []),
  (468, .iconst 1, 1, 0, 0, 0, []),
  (469, .ireturn, 1, 1, 0, 0, [])]
set_option maxRecDepth 100000 in
theorem zLi_all : zmI zm_L = zLi_0 ++ (zLi_1 ++ (zLi_2 ++ (zLi_3 ++ (zLi_4 ++ (zLi_5 ++ (zLi_6 ++ (zLi_7))))))) := rfl
end
section
/-! some rows of the law are those of its class file -/
set_option maxRecDepth 100000 in
theorem zLi_ok0 : zLi_0.all (fun q => zokI zm_L q.1 q.2) = true := by decide +kernel
set_option maxRecDepth 100000 in
theorem zLi_ok1 : zLi_1.all (fun q => zokI zm_L q.1 q.2) = true := by decide +kernel
set_option maxRecDepth 100000 in
theorem zLi_ok2 : zLi_2.all (fun q => zokI zm_L q.1 q.2) = true := by decide +kernel
set_option maxRecDepth 100000 in
theorem zLi_ok3 : zLi_3.all (fun q => zokI zm_L q.1 q.2) = true := by decide +kernel
end
section
/-! some rows of the law are those of its class file -/
set_option maxRecDepth 100000 in
theorem zLi_ok4 : zLi_4.all (fun q => zokI zm_L q.1 q.2) = true := by decide +kernel
set_option maxRecDepth 100000 in
theorem zLi_ok5 : zLi_5.all (fun q => zokI zm_L q.1 q.2) = true := by decide +kernel
set_option maxRecDepth 100000 in
theorem zLi_ok6 : zLi_6.all (fun q => zokI zm_L q.1 q.2) = true := by decide +kernel
set_option maxRecDepth 100000 in
theorem zLi_ok7 : zLi_7.all (fun q => zokI zm_L q.1 q.2) = true := by decide +kernel
theorem zL_ok : zokT zm_L = true := by
  unfold zokT
  rw [zLi_all]
  simp only [List.all_append, zLi_ok0, zLi_ok1, zLi_ok2, zLi_ok3, zLi_ok4, zLi_ok5, zLi_ok6, zLi_ok7, Bool.and_self]
end
section
/-! THE LAW: its walk -/
theorem zL_dec {pc n a b c : Nat} {sw : List (Int32 × Nat)} (h : zfind pc (zmI zm_L) = some (.iaload, n, a, b, c, sw)) : decode zm_L.2.1 pc = .ok (.iaload, 1) := by
  have h1 := zok_of zL_ok h
  unfold zokI at h1
  dsimp only at h1
  exact of_decide_eq_true (Bool.and_eq_true_iff.mp h1).1
theorem zL_decR : decode code 469 = .ok (.ireturn, 1) := by decide +kernel
theorem zL_decA : decode code 20 = .ok (.arraylength, 1) := by decide +kernel
theorem z35_0 : z35 (zsF 0 [] 0 []) = true := rfl
theorem z35_at {st : zS} (h : z35 st = true) : ∃ fs : List Value, st[(35 : Nat)]? = some (.inl (6, fs)) := by
  unfold z35 at h
  split at h
  · rename_i ci fs hs
    have := of_decide_eq_true h
    subst this
    exact ⟨fs, hs⟩
  · cases h
theorem z35_len {st : zS} (h : z35 st = true) : 35 < st.length := by
  obtain ⟨fs, hs⟩ := z35_at h
  exact (List.getElem?_eq_some_iff.mp hs).1
theorem zrcv_0 {m' : zMth} {ar : List Value} (hc : m'.1.cls = "DesignReader") : zrcv 0 m' (.ref 0 :: ar) (zsF 0 [] 0 []) = true := by
  show decide ("DesignReader" = m'.1.cls) = true
  rw [hc]
  exact decide_eq_true rfl
theorem zrcv_35 {m' : zMth} {ar : List Value} {st : zS} (h : z35 st = true) (hc : m'.1.cls = "DesignReaderModel") : zrcv 0 m' (.ref 35 :: ar) st = true := by
  obtain ⟨fs, hs⟩ := z35_at h
  show (match st[(35 : Nat)]? with
    | some (.inl (ci, _)) => (match zcl[ci]? with
      | some (C, _, _) => decide (C = m'.1.cls)
      | none => false)
    | _ => false) = true
  rw [hs]
  show decide ("DesignReaderModel" = m'.1.cls) = true
  rw [hc]
  exact decide_eq_true rfl
theorem zlv_ok {n : Nat} (h : 35 < n) : ([Value.ref 700, .ref 0, .ref 35, .int 0] : List Value).all (zsc n) = true := by
  have h0 : decide (0 < n) = true := decide_eq_true (by omega)
  have h1 : decide (35 < n) = true := decide_eq_true h
  show ((decide (700 < n) || decide (500 ≤ 700)) && ((decide (0 < n) || decide (500 ≤ 0)) && ((decide (35 < n) || decide (500 ≤ 35)) && (true && true)))) = true
  rw [h0, h1]
  simp
section ZLAW
variable {p : Program} {l : Launch} {e : Env} {s : State} {m : MethodId} {below : List Frame} {meth : Method} {cd : Code} {D : va_G} {cA : Nat → ClassId} {ad0 : Nat → Nat} {b L : Nat} {xs : Nat → Int32}
def zLK (p : Program) (l : Launch) (e : Env) (s : State) (m : MethodId) (below : List Frame) (meth : Method) (cd : Code) (D : va_G) (cA : Nat → ClassId) (ad0 : Nat → Nat) (b : Nat) (x : zX) : Prop := zKp p l e room_1 s m #[Value.ref b] below meth cd (lw_Z below #[Value.ref b] s) D cA (fun q => s.heap.size ≤ q) zm_L ad0 0 x
def zLG (p : Program) (s : State) (m : MethodId) (meth : Method) (cd : Code) (D : va_G) (cA : Nat → ClassId) (ad0 : Nat → Nat) (b L : Nat) (xs : Nat → Int32) : Prop := zFx p room_1 s m #[Value.ref b] meth cd D cA (fun q => s.heap.size ≤ q) zm_L ad0 s.heap.size ∧ va_X b L xs s s.heap ∧ b < s.heap.size ∧ ad0 700 = b
theorem zL_n (G : zLG p s m meth cd D cA ad0 b L xs) {x y : zX} (h : zstep zm_L x = some (.inl y)) (hk : zLK p l e s m below meth cd D cA ad0 b y) : zLK p l e s m below meth cd D cA ad0 b x :=
  zs_next (d := 8) G.1 (Nat.le_of_ble_eq_true rfl) h hk
theorem zL_s (G : zLG p s m meth cd D cA ad0 b L xs) {pc j : Nat} {lv r : List Value} {st : zS} {c k : Nat} {i : Int32} {y : zX} (hd : decode zm_L.2.1 pc = .ok (.iaload, 1)) (hi : i.toNatClampNeg = j) (hin : vp_in i L) (hy : (pc + 1, lv, .int (xs j) :: r, st, c, k) = y) (hk : zLK p l e s m below meth cd D cA ad0 b y) : zLK p l e s m below meth cd D cA ad0 b (pc, lv, .int i :: .ref 700 :: r, st, c, k) := by
  subst hy
  subst hi
  exact zk_sld G.1 G.2.1 G.2.2.1 (Nat.not_le.mpr G.2.2.1) G.2.2.2 hd hin hk
set_option maxRecDepth 100000 in
theorem zL_len (G : zLG p s m meth cd D cA ad0 b L xs) {lv r : List Value} {st : zS} {c k : Nat} {y : zX} (hy : (21, lv, .int (Int32.ofNat L) :: r, st, c, k) = y) (hk : zLK p l e s m below meth cd D cA ad0 b y) : zLK p l e s m below meth cd D cA ad0 b (20, lv, .ref 700 :: r, st, c, k) := by
  subst hy
  exact zk_slenS G.1 G.2.1 G.2.2.1 (Nat.not_le.mpr G.2.2.1) G.2.2.2 zL_decA hk
theorem zL_call (G : zLG p s m meth cd D cA ad0 b L xs) (hok : ∀ M ∈ zMs, zokM M = true) {pc n k : Nat} {stk as rest : List Value} {m' : zMth} {st st' : zS} {v : Int32} {y : zX}
    (e1 : ∀ st : zS, zstep zm_L (pc, [.ref 700, .ref 0, .ref 35, .int 0], stk, st, 58, 599532) = zcall 0 (zmC zm_L) (zmS zm_L) n k pc [.ref 700, .ref 0, .ref 35, .int 0] stk st 58 599532)
    (hm : zMs[n]? = some m') (hrc : zrcv 0 m' as st = true) (h35 : z35 st = true) (has : (stk.take k).reverse = as) (hre : stk.drop k = rest) (hkl : k ≤ stk.length) (hal : (zargs as).length ≤ zmL m') (hsum : (rest.map fun v => v.category).sum ≤ 8) (hall : rest.all (zsc st.length) = true) (hmc : zmC m' = 0) (hms : zmS m' = 0)
    (hrun : zrun 20000 8 n as st = some (some (.int v), st')) (hy : (pc + 3, [.ref 700, .ref 0, .ref 35, .int 0], .int v :: rest, st', 58, 599532) = y) (hk : zLK p l e s m below meth cd D cA ad0 b y) : zLK p l e s m below meth cd D cA ad0 b (pc, [.ref 700, .ref 0, .ref 35, .int 0], stk, st, 58, 599532) := by
  have hst : zstep zm_L (pc, [.ref 700, .ref 0, .ref 35, .int 0], stk, st, 58, 599532) = some (.inr (.inl (n, as, pc + 3, [.ref 700, .ref 0, .ref 35, .int 0], rest, st, 58, 599532))) := by
    rw [e1 st]
    unfold zcall
    rw [hm]
    dsimp only
    rw [has, hre, hmc, hms]
    exact if_pos ⟨⟨hkl, hrc, hal⟩, ⟨hsum, zlv_ok (z35_len h35), hall⟩, Nat.le_of_ble_eq_true rfl, Nat.le_of_ble_eq_true rfl⟩
  obtain ⟨-, e2⟩ := zs_call (l := l) (e := e) (below := below) (Q := lw_Z below #[Value.ref b] s) (n0 := 0) (d := 8) G.1 (Nat.le_of_ble_eq_true rfl) (Nat.le_of_ble_eq_true rfl) hst
  subst hy
  exact e2 (some (.int v)) st' (zsound hok 20000 8 n as st (some (.int v)) st' hrun) hk
theorem zL_eq (G : zLG p s m meth cd D cA ad0 b L xs) {pc : Nat} {v : Int32} {st : zS} {z : zO} (h : zstep zm_L (pc, [.ref 700, .ref 0, .ref 35, .int 0], [.int v, .int v], st, 58, 599532) = if v = v then zn 462 [.ref 700, .ref 0, .ref 35, .int 0] [] st 58 599532 else z) (hk : zLK p l e s m below meth cd D cA ad0 b (462, [.ref 700, .ref 0, .ref 35, .int 0], [], st, 58, 599532)) : zLK p l e s m below meth cd D cA ad0 b (pc, [.ref 700, .ref 0, .ref 35, .int 0], [.int v, .int v], st, 58, 599532) :=
  zL_n G (h.trans (if_pos rfl)) hk
set_option maxRecDepth 100000 in
/-- the end -/
theorem zL_end (G : zLG p s m meth cd D cA ad0 b L xs) {lv : List Value} {st : zS} {c k : Nat} : zLK p l e s m below meth cd D cA ad0 b (469, lv, [.int 1], st, c, k) := by
  intro ad ls H locs I
  refine va_forget (fun q hq => I.2.1.2.2.2.2 q hq) ?_
  exact W.widen (k := 600000) (n := 7302250) I.2.2.1.1 I.2.2.1.2 (lw_ret G.1.1.1 G.1.1.2.1 G.1.2.2.1.1 G.1.2.2.1.2.1 zL_decR)
set_option maxRecDepth 100000 in
/-- behind a round: no second one -/
theorem zL_out (G : zLG p s m meth cd D cA ad0 b 6 xs) (st : zS) : zLK p l e s m below meth cd D cA ad0 b (462, [.ref 700, .ref 0, .ref 35, .int 0], [], st, 58, 599532) := by
  refine zL_n G (y := (465, [.ref 700, .ref 0, .ref 35, .int 6], [], st, 58, 599532)) rfl ?_
  refine zL_n G (y := (18, [.ref 700, .ref 0, .ref 35, .int 6], [], st, 58, 599532)) rfl ?_
  refine zL_n G (y := (19, [.ref 700, .ref 0, .ref 35, .int 6], [.int 6], st, 58, 599532)) rfl ?_
  refine zL_n G (y := (20, [.ref 700, .ref 0, .ref 35, .int 6], [.ref 700, .int 6], st, 58, 599532)) rfl ?_
  refine zL_len G (y := (21, [.ref 700, .ref 0, .ref 35, .int 6], [.int 6, .int 6], st, 58, 599532)) rfl ?_
  refine zL_n G (y := (23, [.ref 700, .ref 0, .ref 35, .int 6], [.int 6, .int 6, .int 6], st, 58, 599532)) rfl ?_
  refine zL_n G (y := (24, [.ref 700, .ref 0, .ref 35, .int 6], [.int 0, .int 6], st, 58, 599532)) rfl ?_
  refine zL_n G (y := (468, [.ref 700, .ref 0, .ref 35, .int 6], [], st, 58, 599532)) rfl ?_
  refine zL_n G (y := (469, [.ref 700, .ref 0, .ref 35, .int 6], [.int 1], st, 58, 599532)) rfl ?_
  exact zL_end G
/-- a script of fewer than six numbers: no round -/
theorem zL_few : ∀ L : Nat, L < 6 → Int32.ofNat L - 6 < 0 := by decide
set_option maxRecDepth 100000 in
theorem zL_none (G : zLG p s m meth cd D cA ad0 b L xs) (hL : L < 6) {st : zS} : zLK p l e s m below meth cd D cA ad0 b (18, [.ref 700, .ref 0, .ref 35, .int 0], [], st, 58, 599532) := by
  refine zL_n G (y := (19, [.ref 700, .ref 0, .ref 35, .int 0], [.int 0], st, 58, 599532)) rfl ?_
  refine zL_n G (y := (20, [.ref 700, .ref 0, .ref 35, .int 0], [.ref 700, .int 0], st, 58, 599532)) rfl ?_
  refine zL_len G (y := (21, [.ref 700, .ref 0, .ref 35, .int 0], [.int (Int32.ofNat L), .int 0], st, 58, 599532)) rfl ?_
  refine zL_n G (y := (23, [.ref 700, .ref 0, .ref 35, .int 0], [.int 6, .int (Int32.ofNat L), .int 0], st, 58, 599532)) rfl ?_
  refine zL_n G (y := (24, [.ref 700, .ref 0, .ref 35, .int 0], [.int (Int32.ofNat L - 6), .int 0], st, 58, 599532)) rfl ?_
  have h24 : zstep zm_L (24, [.ref 700, .ref 0, .ref 35, .int 0], [.int (Int32.ofNat L - 6), .int 0], st, 58, 599532) = if Int32.ofNat L - 6 < 0 then zn 468 [.ref 700, .ref 0, .ref 35, .int 0] [] st 58 599532 else zn 27 [.ref 700, .ref 0, .ref 35, .int 0] [] st 58 599532 := rfl
  refine zL_n G (h24.trans (if_pos (zL_few L hL))) ?_
  refine zL_n G (y := (469, [.ref 700, .ref 0, .ref 35, .int 0], [.int 1], st, 58, 599532)) rfl ?_
  exact zL_end G
theorem zst2_eq : zst2 = zsF 0 [] 0 [] := zeqS_eq (by decide +kernel)
set_option maxRecDepth 100000 in
/-- the entry: both objects are made -/
theorem zL_entry (G : zLG p s m meth cd D cA ad0 b L xs) (hok : ∀ M ∈ zMs, zokM M = true) (hk : zLK p l e s m below meth cd D cA ad0 b (18, [.ref 700, .ref 0, .ref 35, .int 0], [], zsF 0 [] 0 [], 58, 599532)) : zLK p l e s m below meth cd D cA ad0 b (0, [.ref 700, zu, zu, zu], [], [], 0, 0) := by
  refine zL_n G (y := (3, [.ref 700, zu, zu, zu], [.ref 0], zst0, 1, 7)) rfl ?_
  refine zL_n G (y := (4, [.ref 700, zu, zu, zu], [.ref 0, .ref 0], zst0, 1, 7)) rfl ?_
  have c1 : zstep zm_L (4, [.ref 700, zu, zu, zu], [.ref 0, .ref 0], zst0, 1, 7) = some (.inr (.inl (0, [.ref 0], 7, [.ref 700, zu, zu, zu], [.ref 0], zst0, 35, 239152))) := rfl
  obtain ⟨-, e2⟩ := zs_call (l := l) (e := e) (below := below) (Q := lw_Z below #[Value.ref b] s) (n0 := 0) (d := 8) G.1 (Nat.le_of_ble_eq_true rfl) (Nat.le_of_ble_eq_true rfl) c1
  refine e2 none zst1 (zsound hok 20000 8 0 [.ref 0] zst0 none zst1 zrun_1) ?_
  show zLK p l e s m below meth cd D cA ad0 b (7, [.ref 700, zu, zu, zu], [.ref 0], zst1, 35, 239152)
  refine zL_n G (y := (8, [.ref 700, .ref 0, zu, zu], [], zst1, 35, 239152)) rfl ?_
  refine zL_n G (y := (11, [.ref 700, .ref 0, zu, zu], [.ref 35], zst1 ++ [zmod], 36, 239184)) rfl ?_
  refine zL_n G (y := (12, [.ref 700, .ref 0, zu, zu], [.ref 35, .ref 35], zst1 ++ [zmod], 36, 239184)) rfl ?_
  have c2 : zstep zm_L (12, [.ref 700, .ref 0, zu, zu], [.ref 35, .ref 35], zst1 ++ [zmod], 36, 239184) = some (.inr (.inl (16, [.ref 35], 15, [.ref 700, .ref 0, zu, zu], [.ref 35], zst1 ++ [zmod], 58, 599532))) := rfl
  obtain ⟨-, e3⟩ := zs_call (l := l) (e := e) (below := below) (Q := lw_Z below #[Value.ref b] s) (n0 := 0) (d := 8) G.1 (Nat.le_of_ble_eq_true rfl) (Nat.le_of_ble_eq_true rfl) c2
  refine e3 none zst2 (zsound hok 20000 8 16 [.ref 35] (zst1 ++ [zmod]) none zst2 zrun_2) ?_
  show zLK p l e s m below meth cd D cA ad0 b (15, [.ref 700, .ref 0, zu, zu], [.ref 35], zst2, 58, 599532)
  rw [zst2_eq]
  refine zL_n G (y := (16, [.ref 700, .ref 0, .ref 35, zu], [], zsF 0 [] 0 [], 58, 599532)) rfl ?_
  refine zL_n G (y := (17, [.ref 700, .ref 0, .ref 35, zu], [.int 0], zsF 0 [] 0 [], 58, 599532)) rfl ?_
  exact zL_n G (y := (18, [.ref 700, .ref 0, .ref 35, .int 0], [], zsF 0 [] 0 [], 58, 599532)) rfl hk
end ZLAW
end
section
/-! THE LAW: its twelve cases -/
section ZLAW
variable {p : Program} {l : Launch} {e : Env} {s : State} {m : MethodId} {below : List Frame} {meth : Method} {cd : Code} {D : va_G} {cA : Nat → ClassId} {ad0 : Nat → Nat} {b : Nat} {xs : Nat → Int32}
set_option maxRecDepth 100000 in
theorem zL_feed (G : zLG p s m meth cd D cA ad0 b 6 xs) (hok : ∀ M ∈ zMs, zokM M = true) : zLK p l e s m below meth cd D cA ad0 b (96, [.ref 700, .ref 0, .ref 35, .int 0], [], (zsF 0 [] 0 []), 58, 599532) := by
  obtain ⟨v, st1, st2, h1, h2, h3⟩ := zP_feed (xs 1) (xs 2) (xs 3) (xs 4) (xs 5)
  refine zL_n G (y := (97, [.ref 700, .ref 0, .ref 35, .int 0], [.ref 0], (zsF 0 [] 0 []), 58, 599532)) rfl ?_
  refine zL_n G (y := (98, [.ref 700, .ref 0, .ref 35, .int 0], [.ref 700, .ref 0], (zsF 0 [] 0 []), 58, 599532)) rfl ?_
  refine zL_n G (y := (99, [.ref 700, .ref 0, .ref 35, .int 0], [.int 0, .ref 700, .ref 0], (zsF 0 [] 0 []), 58, 599532)) rfl ?_
  refine zL_n G (y := (100, [.ref 700, .ref 0, .ref 35, .int 0], [.int 1, .int 0, .ref 700, .ref 0], (zsF 0 [] 0 []), 58, 599532)) rfl ?_
  refine zL_n G (y := (101, [.ref 700, .ref 0, .ref 35, .int 0], [.int 1, .ref 700, .ref 0], (zsF 0 [] 0 []), 58, 599532)) rfl ?_
  refine zL_s G (j := 1) (y := (102, [.ref 700, .ref 0, .ref 35, .int 0], [.int (xs 1), .ref 0], (zsF 0 [] 0 []), 58, 599532)) (zL_dec rfl) rfl (zin_of rfl) rfl ?_
  refine zL_n G (y := (103, [.ref 700, .ref 0, .ref 35, .int 0], [.ref 700, .int (xs 1), .ref 0], (zsF 0 [] 0 []), 58, 599532)) rfl ?_
  refine zL_n G (y := (104, [.ref 700, .ref 0, .ref 35, .int 0], [.int 0, .ref 700, .int (xs 1), .ref 0], (zsF 0 [] 0 []), 58, 599532)) rfl ?_
  refine zL_n G (y := (105, [.ref 700, .ref 0, .ref 35, .int 0], [.int 2, .int 0, .ref 700, .int (xs 1), .ref 0], (zsF 0 [] 0 []), 58, 599532)) rfl ?_
  refine zL_n G (y := (106, [.ref 700, .ref 0, .ref 35, .int 0], [.int 2, .ref 700, .int (xs 1), .ref 0], (zsF 0 [] 0 []), 58, 599532)) rfl ?_
  refine zL_s G (j := 2) (y := (107, [.ref 700, .ref 0, .ref 35, .int 0], [.int (xs 2), .int (xs 1), .ref 0], (zsF 0 [] 0 []), 58, 599532)) (zL_dec rfl) rfl (zin_of rfl) rfl ?_
  refine zL_n G (y := (108, [.ref 700, .ref 0, .ref 35, .int 0], [.ref 700, .int (xs 2), .int (xs 1), .ref 0], (zsF 0 [] 0 []), 58, 599532)) rfl ?_
  refine zL_n G (y := (109, [.ref 700, .ref 0, .ref 35, .int 0], [.int 0, .ref 700, .int (xs 2), .int (xs 1), .ref 0], (zsF 0 [] 0 []), 58, 599532)) rfl ?_
  refine zL_n G (y := (110, [.ref 700, .ref 0, .ref 35, .int 0], [.int 3, .int 0, .ref 700, .int (xs 2), .int (xs 1), .ref 0], (zsF 0 [] 0 []), 58, 599532)) rfl ?_
  refine zL_n G (y := (111, [.ref 700, .ref 0, .ref 35, .int 0], [.int 3, .ref 700, .int (xs 2), .int (xs 1), .ref 0], (zsF 0 [] 0 []), 58, 599532)) rfl ?_
  refine zL_s G (j := 3) (y := (112, [.ref 700, .ref 0, .ref 35, .int 0], [.int (xs 3), .int (xs 2), .int (xs 1), .ref 0], (zsF 0 [] 0 []), 58, 599532)) (zL_dec rfl) rfl (zin_of rfl) rfl ?_
  refine zL_n G (y := (113, [.ref 700, .ref 0, .ref 35, .int 0], [.ref 700, .int (xs 3), .int (xs 2), .int (xs 1), .ref 0], (zsF 0 [] 0 []), 58, 599532)) rfl ?_
  refine zL_n G (y := (114, [.ref 700, .ref 0, .ref 35, .int 0], [.int 0, .ref 700, .int (xs 3), .int (xs 2), .int (xs 1), .ref 0], (zsF 0 [] 0 []), 58, 599532)) rfl ?_
  refine zL_n G (y := (115, [.ref 700, .ref 0, .ref 35, .int 0], [.int 4, .int 0, .ref 700, .int (xs 3), .int (xs 2), .int (xs 1), .ref 0], (zsF 0 [] 0 []), 58, 599532)) rfl ?_
  refine zL_n G (y := (116, [.ref 700, .ref 0, .ref 35, .int 0], [.int 4, .ref 700, .int (xs 3), .int (xs 2), .int (xs 1), .ref 0], (zsF 0 [] 0 []), 58, 599532)) rfl ?_
  refine zL_s G (j := 4) (y := (117, [.ref 700, .ref 0, .ref 35, .int 0], [.int (xs 4), .int (xs 3), .int (xs 2), .int (xs 1), .ref 0], (zsF 0 [] 0 []), 58, 599532)) (zL_dec rfl) rfl (zin_of rfl) rfl ?_
  refine zL_n G (y := (118, [.ref 700, .ref 0, .ref 35, .int 0], [.ref 700, .int (xs 4), .int (xs 3), .int (xs 2), .int (xs 1), .ref 0], (zsF 0 [] 0 []), 58, 599532)) rfl ?_
  refine zL_n G (y := (119, [.ref 700, .ref 0, .ref 35, .int 0], [.int 0, .ref 700, .int (xs 4), .int (xs 3), .int (xs 2), .int (xs 1), .ref 0], (zsF 0 [] 0 []), 58, 599532)) rfl ?_
  refine zL_n G (y := (120, [.ref 700, .ref 0, .ref 35, .int 0], [.int 5, .int 0, .ref 700, .int (xs 4), .int (xs 3), .int (xs 2), .int (xs 1), .ref 0], (zsF 0 [] 0 []), 58, 599532)) rfl ?_
  refine zL_n G (y := (121, [.ref 700, .ref 0, .ref 35, .int 0], [.int 5, .ref 700, .int (xs 4), .int (xs 3), .int (xs 2), .int (xs 1), .ref 0], (zsF 0 [] 0 []), 58, 599532)) rfl ?_
  refine zL_s G (j := 5) (y := (122, [.ref 700, .ref 0, .ref 35, .int 0], [.int (xs 5), .int (xs 4), .int (xs 3), .int (xs 2), .int (xs 1), .ref 0], (zsF 0 [] 0 []), 58, 599532)) (zL_dec rfl) rfl (zin_of rfl) rfl ?_
  refine zL_call G hok (pc := 122) (stk := [.int (xs 5), .int (xs 4), .int (xs 3), .int (xs 2), .int (xs 1), .ref 0]) (n := 1) (k := 6) (as := [.ref 0, .int (xs 1), .int (xs 2), .int (xs 3), .int (xs 4), .int (xs 5)]) (rest := []) (m' := zm_D_feed) (fun _ => rfl) rfl (zrcv_0 rfl) z35_0 rfl rfl (Nat.le_of_ble_eq_true rfl) (Nat.le_of_ble_eq_true rfl) (Nat.le_of_ble_eq_true rfl) rfl rfl rfl h1 (y := (125, [.ref 700, .ref 0, .ref 35, .int 0], [.int v], st1, 58, 599532)) rfl ?_
  refine zL_n G (y := (126, [.ref 700, .ref 0, .ref 35, .int 0], [.ref 35, .int v], st1, 58, 599532)) rfl ?_
  refine zL_n G (y := (127, [.ref 700, .ref 0, .ref 35, .int 0], [.ref 700, .ref 35, .int v], st1, 58, 599532)) rfl ?_
  refine zL_n G (y := (128, [.ref 700, .ref 0, .ref 35, .int 0], [.int 0, .ref 700, .ref 35, .int v], st1, 58, 599532)) rfl ?_
  refine zL_n G (y := (129, [.ref 700, .ref 0, .ref 35, .int 0], [.int 1, .int 0, .ref 700, .ref 35, .int v], st1, 58, 599532)) rfl ?_
  refine zL_n G (y := (130, [.ref 700, .ref 0, .ref 35, .int 0], [.int 1, .ref 700, .ref 35, .int v], st1, 58, 599532)) rfl ?_
  refine zL_s G (j := 1) (y := (131, [.ref 700, .ref 0, .ref 35, .int 0], [.int (xs 1), .ref 35, .int v], st1, 58, 599532)) (zL_dec rfl) rfl (zin_of rfl) rfl ?_
  refine zL_n G (y := (132, [.ref 700, .ref 0, .ref 35, .int 0], [.ref 700, .int (xs 1), .ref 35, .int v], st1, 58, 599532)) rfl ?_
  refine zL_n G (y := (133, [.ref 700, .ref 0, .ref 35, .int 0], [.int 0, .ref 700, .int (xs 1), .ref 35, .int v], st1, 58, 599532)) rfl ?_
  refine zL_n G (y := (134, [.ref 700, .ref 0, .ref 35, .int 0], [.int 2, .int 0, .ref 700, .int (xs 1), .ref 35, .int v], st1, 58, 599532)) rfl ?_
  refine zL_n G (y := (135, [.ref 700, .ref 0, .ref 35, .int 0], [.int 2, .ref 700, .int (xs 1), .ref 35, .int v], st1, 58, 599532)) rfl ?_
  refine zL_s G (j := 2) (y := (136, [.ref 700, .ref 0, .ref 35, .int 0], [.int (xs 2), .int (xs 1), .ref 35, .int v], st1, 58, 599532)) (zL_dec rfl) rfl (zin_of rfl) rfl ?_
  refine zL_n G (y := (137, [.ref 700, .ref 0, .ref 35, .int 0], [.ref 700, .int (xs 2), .int (xs 1), .ref 35, .int v], st1, 58, 599532)) rfl ?_
  refine zL_n G (y := (138, [.ref 700, .ref 0, .ref 35, .int 0], [.int 0, .ref 700, .int (xs 2), .int (xs 1), .ref 35, .int v], st1, 58, 599532)) rfl ?_
  refine zL_n G (y := (139, [.ref 700, .ref 0, .ref 35, .int 0], [.int 3, .int 0, .ref 700, .int (xs 2), .int (xs 1), .ref 35, .int v], st1, 58, 599532)) rfl ?_
  refine zL_n G (y := (140, [.ref 700, .ref 0, .ref 35, .int 0], [.int 3, .ref 700, .int (xs 2), .int (xs 1), .ref 35, .int v], st1, 58, 599532)) rfl ?_
  refine zL_s G (j := 3) (y := (141, [.ref 700, .ref 0, .ref 35, .int 0], [.int (xs 3), .int (xs 2), .int (xs 1), .ref 35, .int v], st1, 58, 599532)) (zL_dec rfl) rfl (zin_of rfl) rfl ?_
  refine zL_n G (y := (142, [.ref 700, .ref 0, .ref 35, .int 0], [.ref 700, .int (xs 3), .int (xs 2), .int (xs 1), .ref 35, .int v], st1, 58, 599532)) rfl ?_
  refine zL_n G (y := (143, [.ref 700, .ref 0, .ref 35, .int 0], [.int 0, .ref 700, .int (xs 3), .int (xs 2), .int (xs 1), .ref 35, .int v], st1, 58, 599532)) rfl ?_
  refine zL_n G (y := (144, [.ref 700, .ref 0, .ref 35, .int 0], [.int 4, .int 0, .ref 700, .int (xs 3), .int (xs 2), .int (xs 1), .ref 35, .int v], st1, 58, 599532)) rfl ?_
  refine zL_n G (y := (145, [.ref 700, .ref 0, .ref 35, .int 0], [.int 4, .ref 700, .int (xs 3), .int (xs 2), .int (xs 1), .ref 35, .int v], st1, 58, 599532)) rfl ?_
  refine zL_s G (j := 4) (y := (146, [.ref 700, .ref 0, .ref 35, .int 0], [.int (xs 4), .int (xs 3), .int (xs 2), .int (xs 1), .ref 35, .int v], st1, 58, 599532)) (zL_dec rfl) rfl (zin_of rfl) rfl ?_
  refine zL_n G (y := (147, [.ref 700, .ref 0, .ref 35, .int 0], [.ref 700, .int (xs 4), .int (xs 3), .int (xs 2), .int (xs 1), .ref 35, .int v], st1, 58, 599532)) rfl ?_
  refine zL_n G (y := (148, [.ref 700, .ref 0, .ref 35, .int 0], [.int 0, .ref 700, .int (xs 4), .int (xs 3), .int (xs 2), .int (xs 1), .ref 35, .int v], st1, 58, 599532)) rfl ?_
  refine zL_n G (y := (149, [.ref 700, .ref 0, .ref 35, .int 0], [.int 5, .int 0, .ref 700, .int (xs 4), .int (xs 3), .int (xs 2), .int (xs 1), .ref 35, .int v], st1, 58, 599532)) rfl ?_
  refine zL_n G (y := (150, [.ref 700, .ref 0, .ref 35, .int 0], [.int 5, .ref 700, .int (xs 4), .int (xs 3), .int (xs 2), .int (xs 1), .ref 35, .int v], st1, 58, 599532)) rfl ?_
  refine zL_s G (j := 5) (y := (151, [.ref 700, .ref 0, .ref 35, .int 0], [.int (xs 5), .int (xs 4), .int (xs 3), .int (xs 2), .int (xs 1), .ref 35, .int v], st1, 58, 599532)) (zL_dec rfl) rfl (zin_of rfl) rfl ?_
  refine zL_call G hok (pc := 151) (stk := [.int (xs 5), .int (xs 4), .int (xs 3), .int (xs 2), .int (xs 1), .ref 35, .int v]) (n := 19) (k := 6) (as := [.ref 35, .int (xs 1), .int (xs 2), .int (xs 3), .int (xs 4), .int (xs 5)]) (rest := [.int v]) (m' := zm_R_feed) (fun _ => rfl) rfl (zrcv_35 h2 rfl) h2 rfl rfl (Nat.le_of_ble_eq_true rfl) (Nat.le_of_ble_eq_true rfl) (Nat.le_of_ble_eq_true rfl) rfl rfl rfl h3 (y := (154, [.ref 700, .ref 0, .ref 35, .int 0], [.int v, .int v], st2, 58, 599532)) rfl ?_
  refine zL_eq G (pc := 154) (z := zn 157 [.ref 700, .ref 0, .ref 35, .int 0] [] st2 58 599532) rfl ?_
  exact zL_out G st2

set_option maxRecDepth 100000 in
theorem zL_read (G : zLG p s m meth cd D cA ad0 b 6 xs) (hok : ∀ M ∈ zMs, zokM M = true) : zLK p l e s m below meth cd D cA ad0 b (159, [.ref 700, .ref 0, .ref 35, .int 0], [], (zsF 0 [] 0 []), 58, 599532) := by
  obtain ⟨v, st1, st2, h1, h2, h3⟩ := zP_read (xs 1) (xs 2)
  refine zL_n G (y := (160, [.ref 700, .ref 0, .ref 35, .int 0], [.ref 0], (zsF 0 [] 0 []), 58, 599532)) rfl ?_
  refine zL_n G (y := (161, [.ref 700, .ref 0, .ref 35, .int 0], [.ref 700, .ref 0], (zsF 0 [] 0 []), 58, 599532)) rfl ?_
  refine zL_n G (y := (162, [.ref 700, .ref 0, .ref 35, .int 0], [.int 0, .ref 700, .ref 0], (zsF 0 [] 0 []), 58, 599532)) rfl ?_
  refine zL_n G (y := (163, [.ref 700, .ref 0, .ref 35, .int 0], [.int 1, .int 0, .ref 700, .ref 0], (zsF 0 [] 0 []), 58, 599532)) rfl ?_
  refine zL_n G (y := (164, [.ref 700, .ref 0, .ref 35, .int 0], [.int 1, .ref 700, .ref 0], (zsF 0 [] 0 []), 58, 599532)) rfl ?_
  refine zL_s G (j := 1) (y := (165, [.ref 700, .ref 0, .ref 35, .int 0], [.int (xs 1), .ref 0], (zsF 0 [] 0 []), 58, 599532)) (zL_dec rfl) rfl (zin_of rfl) rfl ?_
  refine zL_n G (y := (166, [.ref 700, .ref 0, .ref 35, .int 0], [.ref 700, .int (xs 1), .ref 0], (zsF 0 [] 0 []), 58, 599532)) rfl ?_
  refine zL_n G (y := (167, [.ref 700, .ref 0, .ref 35, .int 0], [.int 0, .ref 700, .int (xs 1), .ref 0], (zsF 0 [] 0 []), 58, 599532)) rfl ?_
  refine zL_n G (y := (168, [.ref 700, .ref 0, .ref 35, .int 0], [.int 2, .int 0, .ref 700, .int (xs 1), .ref 0], (zsF 0 [] 0 []), 58, 599532)) rfl ?_
  refine zL_n G (y := (169, [.ref 700, .ref 0, .ref 35, .int 0], [.int 2, .ref 700, .int (xs 1), .ref 0], (zsF 0 [] 0 []), 58, 599532)) rfl ?_
  refine zL_s G (j := 2) (y := (170, [.ref 700, .ref 0, .ref 35, .int 0], [.int (xs 2), .int (xs 1), .ref 0], (zsF 0 [] 0 []), 58, 599532)) (zL_dec rfl) rfl (zin_of rfl) rfl ?_
  refine zL_call G hok (pc := 170) (stk := [.int (xs 2), .int (xs 1), .ref 0]) (n := 2) (k := 3) (as := [.ref 0, .int (xs 1), .int (xs 2)]) (rest := []) (m' := zm_D_read) (fun _ => rfl) rfl (zrcv_0 rfl) z35_0 rfl rfl (Nat.le_of_ble_eq_true rfl) (Nat.le_of_ble_eq_true rfl) (Nat.le_of_ble_eq_true rfl) rfl rfl rfl h1 (y := (173, [.ref 700, .ref 0, .ref 35, .int 0], [.int v], st1, 58, 599532)) rfl ?_
  refine zL_n G (y := (174, [.ref 700, .ref 0, .ref 35, .int 0], [.ref 35, .int v], st1, 58, 599532)) rfl ?_
  refine zL_n G (y := (175, [.ref 700, .ref 0, .ref 35, .int 0], [.ref 700, .ref 35, .int v], st1, 58, 599532)) rfl ?_
  refine zL_n G (y := (176, [.ref 700, .ref 0, .ref 35, .int 0], [.int 0, .ref 700, .ref 35, .int v], st1, 58, 599532)) rfl ?_
  refine zL_n G (y := (177, [.ref 700, .ref 0, .ref 35, .int 0], [.int 1, .int 0, .ref 700, .ref 35, .int v], st1, 58, 599532)) rfl ?_
  refine zL_n G (y := (178, [.ref 700, .ref 0, .ref 35, .int 0], [.int 1, .ref 700, .ref 35, .int v], st1, 58, 599532)) rfl ?_
  refine zL_s G (j := 1) (y := (179, [.ref 700, .ref 0, .ref 35, .int 0], [.int (xs 1), .ref 35, .int v], st1, 58, 599532)) (zL_dec rfl) rfl (zin_of rfl) rfl ?_
  refine zL_n G (y := (180, [.ref 700, .ref 0, .ref 35, .int 0], [.ref 700, .int (xs 1), .ref 35, .int v], st1, 58, 599532)) rfl ?_
  refine zL_n G (y := (181, [.ref 700, .ref 0, .ref 35, .int 0], [.int 0, .ref 700, .int (xs 1), .ref 35, .int v], st1, 58, 599532)) rfl ?_
  refine zL_n G (y := (182, [.ref 700, .ref 0, .ref 35, .int 0], [.int 2, .int 0, .ref 700, .int (xs 1), .ref 35, .int v], st1, 58, 599532)) rfl ?_
  refine zL_n G (y := (183, [.ref 700, .ref 0, .ref 35, .int 0], [.int 2, .ref 700, .int (xs 1), .ref 35, .int v], st1, 58, 599532)) rfl ?_
  refine zL_s G (j := 2) (y := (184, [.ref 700, .ref 0, .ref 35, .int 0], [.int (xs 2), .int (xs 1), .ref 35, .int v], st1, 58, 599532)) (zL_dec rfl) rfl (zin_of rfl) rfl ?_
  refine zL_call G hok (pc := 184) (stk := [.int (xs 2), .int (xs 1), .ref 35, .int v]) (n := 23) (k := 3) (as := [.ref 35, .int (xs 1), .int (xs 2)]) (rest := [.int v]) (m' := zm_R_read) (fun _ => rfl) rfl (zrcv_35 h2 rfl) h2 rfl rfl (Nat.le_of_ble_eq_true rfl) (Nat.le_of_ble_eq_true rfl) (Nat.le_of_ble_eq_true rfl) rfl rfl rfl h3 (y := (187, [.ref 700, .ref 0, .ref 35, .int 0], [.int v, .int v], st2, 58, 599532)) rfl ?_
  refine zL_eq G (pc := 187) (z := zn 190 [.ref 700, .ref 0, .ref 35, .int 0] [] st2 58 599532) rfl ?_
  exact zL_out G st2

set_option maxRecDepth 100000 in
theorem zL_nodes (G : zLG p s m meth cd D cA ad0 b 6 xs) (hok : ∀ M ∈ zMs, zokM M = true) : zLK p l e s m below meth cd D cA ad0 b (192, [.ref 700, .ref 0, .ref 35, .int 0], [], (zsF 0 [] 0 []), 58, 599532) := by
  obtain ⟨v, st1, st2, h1, h2, h3⟩ := zP_nodes (xs 1)
  refine zL_n G (y := (193, [.ref 700, .ref 0, .ref 35, .int 0], [.ref 0], (zsF 0 [] 0 []), 58, 599532)) rfl ?_
  refine zL_n G (y := (194, [.ref 700, .ref 0, .ref 35, .int 0], [.ref 700, .ref 0], (zsF 0 [] 0 []), 58, 599532)) rfl ?_
  refine zL_n G (y := (195, [.ref 700, .ref 0, .ref 35, .int 0], [.int 0, .ref 700, .ref 0], (zsF 0 [] 0 []), 58, 599532)) rfl ?_
  refine zL_n G (y := (196, [.ref 700, .ref 0, .ref 35, .int 0], [.int 1, .int 0, .ref 700, .ref 0], (zsF 0 [] 0 []), 58, 599532)) rfl ?_
  refine zL_n G (y := (197, [.ref 700, .ref 0, .ref 35, .int 0], [.int 1, .ref 700, .ref 0], (zsF 0 [] 0 []), 58, 599532)) rfl ?_
  refine zL_s G (j := 1) (y := (198, [.ref 700, .ref 0, .ref 35, .int 0], [.int (xs 1), .ref 0], (zsF 0 [] 0 []), 58, 599532)) (zL_dec rfl) rfl (zin_of rfl) rfl ?_
  refine zL_call G hok (pc := 198) (stk := [.int (xs 1), .ref 0]) (n := 3) (k := 2) (as := [.ref 0, .int (xs 1)]) (rest := []) (m' := zm_D_nodes) (fun _ => rfl) rfl (zrcv_0 rfl) z35_0 rfl rfl (Nat.le_of_ble_eq_true rfl) (Nat.le_of_ble_eq_true rfl) (Nat.le_of_ble_eq_true rfl) rfl rfl rfl h1 (y := (201, [.ref 700, .ref 0, .ref 35, .int 0], [.int v], st1, 58, 599532)) rfl ?_
  refine zL_n G (y := (202, [.ref 700, .ref 0, .ref 35, .int 0], [.ref 35, .int v], st1, 58, 599532)) rfl ?_
  refine zL_n G (y := (203, [.ref 700, .ref 0, .ref 35, .int 0], [.ref 700, .ref 35, .int v], st1, 58, 599532)) rfl ?_
  refine zL_n G (y := (204, [.ref 700, .ref 0, .ref 35, .int 0], [.int 0, .ref 700, .ref 35, .int v], st1, 58, 599532)) rfl ?_
  refine zL_n G (y := (205, [.ref 700, .ref 0, .ref 35, .int 0], [.int 1, .int 0, .ref 700, .ref 35, .int v], st1, 58, 599532)) rfl ?_
  refine zL_n G (y := (206, [.ref 700, .ref 0, .ref 35, .int 0], [.int 1, .ref 700, .ref 35, .int v], st1, 58, 599532)) rfl ?_
  refine zL_s G (j := 1) (y := (207, [.ref 700, .ref 0, .ref 35, .int 0], [.int (xs 1), .ref 35, .int v], st1, 58, 599532)) (zL_dec rfl) rfl (zin_of rfl) rfl ?_
  refine zL_call G hok (pc := 207) (stk := [.int (xs 1), .ref 35, .int v]) (n := 25) (k := 2) (as := [.ref 35, .int (xs 1)]) (rest := [.int v]) (m' := zm_R_nodes) (fun _ => rfl) rfl (zrcv_35 h2 rfl) h2 rfl rfl (Nat.le_of_ble_eq_true rfl) (Nat.le_of_ble_eq_true rfl) (Nat.le_of_ble_eq_true rfl) rfl rfl rfl h3 (y := (210, [.ref 700, .ref 0, .ref 35, .int 0], [.int v, .int v], st2, 58, 599532)) rfl ?_
  refine zL_eq G (pc := 210) (z := zn 213 [.ref 700, .ref 0, .ref 35, .int 0] [] st2 58 599532) rfl ?_
  exact zL_out G st2

set_option maxRecDepth 100000 in
theorem zL_node (G : zLG p s m meth cd D cA ad0 b 6 xs) (hok : ∀ M ∈ zMs, zokM M = true) : zLK p l e s m below meth cd D cA ad0 b (215, [.ref 700, .ref 0, .ref 35, .int 0], [], (zsF 0 [] 0 []), 58, 599532) := by
  obtain ⟨v, st1, st2, h1, h2, h3⟩ := zP_node (xs 1) (xs 2) (xs 3)
  refine zL_n G (y := (216, [.ref 700, .ref 0, .ref 35, .int 0], [.ref 0], (zsF 0 [] 0 []), 58, 599532)) rfl ?_
  refine zL_n G (y := (217, [.ref 700, .ref 0, .ref 35, .int 0], [.ref 700, .ref 0], (zsF 0 [] 0 []), 58, 599532)) rfl ?_
  refine zL_n G (y := (218, [.ref 700, .ref 0, .ref 35, .int 0], [.int 0, .ref 700, .ref 0], (zsF 0 [] 0 []), 58, 599532)) rfl ?_
  refine zL_n G (y := (219, [.ref 700, .ref 0, .ref 35, .int 0], [.int 1, .int 0, .ref 700, .ref 0], (zsF 0 [] 0 []), 58, 599532)) rfl ?_
  refine zL_n G (y := (220, [.ref 700, .ref 0, .ref 35, .int 0], [.int 1, .ref 700, .ref 0], (zsF 0 [] 0 []), 58, 599532)) rfl ?_
  refine zL_s G (j := 1) (y := (221, [.ref 700, .ref 0, .ref 35, .int 0], [.int (xs 1), .ref 0], (zsF 0 [] 0 []), 58, 599532)) (zL_dec rfl) rfl (zin_of rfl) rfl ?_
  refine zL_n G (y := (222, [.ref 700, .ref 0, .ref 35, .int 0], [.ref 700, .int (xs 1), .ref 0], (zsF 0 [] 0 []), 58, 599532)) rfl ?_
  refine zL_n G (y := (223, [.ref 700, .ref 0, .ref 35, .int 0], [.int 0, .ref 700, .int (xs 1), .ref 0], (zsF 0 [] 0 []), 58, 599532)) rfl ?_
  refine zL_n G (y := (224, [.ref 700, .ref 0, .ref 35, .int 0], [.int 2, .int 0, .ref 700, .int (xs 1), .ref 0], (zsF 0 [] 0 []), 58, 599532)) rfl ?_
  refine zL_n G (y := (225, [.ref 700, .ref 0, .ref 35, .int 0], [.int 2, .ref 700, .int (xs 1), .ref 0], (zsF 0 [] 0 []), 58, 599532)) rfl ?_
  refine zL_s G (j := 2) (y := (226, [.ref 700, .ref 0, .ref 35, .int 0], [.int (xs 2), .int (xs 1), .ref 0], (zsF 0 [] 0 []), 58, 599532)) (zL_dec rfl) rfl (zin_of rfl) rfl ?_
  refine zL_n G (y := (227, [.ref 700, .ref 0, .ref 35, .int 0], [.ref 700, .int (xs 2), .int (xs 1), .ref 0], (zsF 0 [] 0 []), 58, 599532)) rfl ?_
  refine zL_n G (y := (228, [.ref 700, .ref 0, .ref 35, .int 0], [.int 0, .ref 700, .int (xs 2), .int (xs 1), .ref 0], (zsF 0 [] 0 []), 58, 599532)) rfl ?_
  refine zL_n G (y := (229, [.ref 700, .ref 0, .ref 35, .int 0], [.int 3, .int 0, .ref 700, .int (xs 2), .int (xs 1), .ref 0], (zsF 0 [] 0 []), 58, 599532)) rfl ?_
  refine zL_n G (y := (230, [.ref 700, .ref 0, .ref 35, .int 0], [.int 3, .ref 700, .int (xs 2), .int (xs 1), .ref 0], (zsF 0 [] 0 []), 58, 599532)) rfl ?_
  refine zL_s G (j := 3) (y := (231, [.ref 700, .ref 0, .ref 35, .int 0], [.int (xs 3), .int (xs 2), .int (xs 1), .ref 0], (zsF 0 [] 0 []), 58, 599532)) (zL_dec rfl) rfl (zin_of rfl) rfl ?_
  refine zL_call G hok (pc := 231) (stk := [.int (xs 3), .int (xs 2), .int (xs 1), .ref 0]) (n := 4) (k := 4) (as := [.ref 0, .int (xs 1), .int (xs 2), .int (xs 3)]) (rest := []) (m' := zm_D_node) (fun _ => rfl) rfl (zrcv_0 rfl) z35_0 rfl rfl (Nat.le_of_ble_eq_true rfl) (Nat.le_of_ble_eq_true rfl) (Nat.le_of_ble_eq_true rfl) rfl rfl rfl h1 (y := (234, [.ref 700, .ref 0, .ref 35, .int 0], [.int v], st1, 58, 599532)) rfl ?_
  refine zL_n G (y := (235, [.ref 700, .ref 0, .ref 35, .int 0], [.ref 35, .int v], st1, 58, 599532)) rfl ?_
  refine zL_n G (y := (236, [.ref 700, .ref 0, .ref 35, .int 0], [.ref 700, .ref 35, .int v], st1, 58, 599532)) rfl ?_
  refine zL_n G (y := (237, [.ref 700, .ref 0, .ref 35, .int 0], [.int 0, .ref 700, .ref 35, .int v], st1, 58, 599532)) rfl ?_
  refine zL_n G (y := (238, [.ref 700, .ref 0, .ref 35, .int 0], [.int 1, .int 0, .ref 700, .ref 35, .int v], st1, 58, 599532)) rfl ?_
  refine zL_n G (y := (239, [.ref 700, .ref 0, .ref 35, .int 0], [.int 1, .ref 700, .ref 35, .int v], st1, 58, 599532)) rfl ?_
  refine zL_s G (j := 1) (y := (240, [.ref 700, .ref 0, .ref 35, .int 0], [.int (xs 1), .ref 35, .int v], st1, 58, 599532)) (zL_dec rfl) rfl (zin_of rfl) rfl ?_
  refine zL_n G (y := (241, [.ref 700, .ref 0, .ref 35, .int 0], [.ref 700, .int (xs 1), .ref 35, .int v], st1, 58, 599532)) rfl ?_
  refine zL_n G (y := (242, [.ref 700, .ref 0, .ref 35, .int 0], [.int 0, .ref 700, .int (xs 1), .ref 35, .int v], st1, 58, 599532)) rfl ?_
  refine zL_n G (y := (243, [.ref 700, .ref 0, .ref 35, .int 0], [.int 2, .int 0, .ref 700, .int (xs 1), .ref 35, .int v], st1, 58, 599532)) rfl ?_
  refine zL_n G (y := (244, [.ref 700, .ref 0, .ref 35, .int 0], [.int 2, .ref 700, .int (xs 1), .ref 35, .int v], st1, 58, 599532)) rfl ?_
  refine zL_s G (j := 2) (y := (245, [.ref 700, .ref 0, .ref 35, .int 0], [.int (xs 2), .int (xs 1), .ref 35, .int v], st1, 58, 599532)) (zL_dec rfl) rfl (zin_of rfl) rfl ?_
  refine zL_n G (y := (246, [.ref 700, .ref 0, .ref 35, .int 0], [.ref 700, .int (xs 2), .int (xs 1), .ref 35, .int v], st1, 58, 599532)) rfl ?_
  refine zL_n G (y := (247, [.ref 700, .ref 0, .ref 35, .int 0], [.int 0, .ref 700, .int (xs 2), .int (xs 1), .ref 35, .int v], st1, 58, 599532)) rfl ?_
  refine zL_n G (y := (248, [.ref 700, .ref 0, .ref 35, .int 0], [.int 3, .int 0, .ref 700, .int (xs 2), .int (xs 1), .ref 35, .int v], st1, 58, 599532)) rfl ?_
  refine zL_n G (y := (249, [.ref 700, .ref 0, .ref 35, .int 0], [.int 3, .ref 700, .int (xs 2), .int (xs 1), .ref 35, .int v], st1, 58, 599532)) rfl ?_
  refine zL_s G (j := 3) (y := (250, [.ref 700, .ref 0, .ref 35, .int 0], [.int (xs 3), .int (xs 2), .int (xs 1), .ref 35, .int v], st1, 58, 599532)) (zL_dec rfl) rfl (zin_of rfl) rfl ?_
  refine zL_call G hok (pc := 250) (stk := [.int (xs 3), .int (xs 2), .int (xs 1), .ref 35, .int v]) (n := 28) (k := 4) (as := [.ref 35, .int (xs 1), .int (xs 2), .int (xs 3)]) (rest := [.int v]) (m' := zm_R_node) (fun _ => rfl) rfl (zrcv_35 h2 rfl) h2 rfl rfl (Nat.le_of_ble_eq_true rfl) (Nat.le_of_ble_eq_true rfl) (Nat.le_of_ble_eq_true rfl) rfl rfl rfl h3 (y := (253, [.ref 700, .ref 0, .ref 35, .int 0], [.int v, .int v], st2, 58, 599532)) rfl ?_
  refine zL_eq G (pc := 253) (z := zn 256 [.ref 700, .ref 0, .ref 35, .int 0] [] st2 58 599532) rfl ?_
  exact zL_out G st2

set_option maxRecDepth 100000 in
theorem zL_part (G : zLG p s m meth cd D cA ad0 b 6 xs) (hok : ∀ M ∈ zMs, zokM M = true) : zLK p l e s m below meth cd D cA ad0 b (258, [.ref 700, .ref 0, .ref 35, .int 0], [], (zsF 0 [] 0 []), 58, 599532) := by
  obtain ⟨v, st1, st2, h1, h2, h3⟩ := zP_part (xs 1) (xs 2) (xs 3)
  refine zL_n G (y := (259, [.ref 700, .ref 0, .ref 35, .int 0], [.ref 0], (zsF 0 [] 0 []), 58, 599532)) rfl ?_
  refine zL_n G (y := (260, [.ref 700, .ref 0, .ref 35, .int 0], [.ref 700, .ref 0], (zsF 0 [] 0 []), 58, 599532)) rfl ?_
  refine zL_n G (y := (261, [.ref 700, .ref 0, .ref 35, .int 0], [.int 0, .ref 700, .ref 0], (zsF 0 [] 0 []), 58, 599532)) rfl ?_
  refine zL_n G (y := (262, [.ref 700, .ref 0, .ref 35, .int 0], [.int 1, .int 0, .ref 700, .ref 0], (zsF 0 [] 0 []), 58, 599532)) rfl ?_
  refine zL_n G (y := (263, [.ref 700, .ref 0, .ref 35, .int 0], [.int 1, .ref 700, .ref 0], (zsF 0 [] 0 []), 58, 599532)) rfl ?_
  refine zL_s G (j := 1) (y := (264, [.ref 700, .ref 0, .ref 35, .int 0], [.int (xs 1), .ref 0], (zsF 0 [] 0 []), 58, 599532)) (zL_dec rfl) rfl (zin_of rfl) rfl ?_
  refine zL_n G (y := (265, [.ref 700, .ref 0, .ref 35, .int 0], [.ref 700, .int (xs 1), .ref 0], (zsF 0 [] 0 []), 58, 599532)) rfl ?_
  refine zL_n G (y := (266, [.ref 700, .ref 0, .ref 35, .int 0], [.int 0, .ref 700, .int (xs 1), .ref 0], (zsF 0 [] 0 []), 58, 599532)) rfl ?_
  refine zL_n G (y := (267, [.ref 700, .ref 0, .ref 35, .int 0], [.int 2, .int 0, .ref 700, .int (xs 1), .ref 0], (zsF 0 [] 0 []), 58, 599532)) rfl ?_
  refine zL_n G (y := (268, [.ref 700, .ref 0, .ref 35, .int 0], [.int 2, .ref 700, .int (xs 1), .ref 0], (zsF 0 [] 0 []), 58, 599532)) rfl ?_
  refine zL_s G (j := 2) (y := (269, [.ref 700, .ref 0, .ref 35, .int 0], [.int (xs 2), .int (xs 1), .ref 0], (zsF 0 [] 0 []), 58, 599532)) (zL_dec rfl) rfl (zin_of rfl) rfl ?_
  refine zL_n G (y := (270, [.ref 700, .ref 0, .ref 35, .int 0], [.ref 700, .int (xs 2), .int (xs 1), .ref 0], (zsF 0 [] 0 []), 58, 599532)) rfl ?_
  refine zL_n G (y := (271, [.ref 700, .ref 0, .ref 35, .int 0], [.int 0, .ref 700, .int (xs 2), .int (xs 1), .ref 0], (zsF 0 [] 0 []), 58, 599532)) rfl ?_
  refine zL_n G (y := (272, [.ref 700, .ref 0, .ref 35, .int 0], [.int 3, .int 0, .ref 700, .int (xs 2), .int (xs 1), .ref 0], (zsF 0 [] 0 []), 58, 599532)) rfl ?_
  refine zL_n G (y := (273, [.ref 700, .ref 0, .ref 35, .int 0], [.int 3, .ref 700, .int (xs 2), .int (xs 1), .ref 0], (zsF 0 [] 0 []), 58, 599532)) rfl ?_
  refine zL_s G (j := 3) (y := (274, [.ref 700, .ref 0, .ref 35, .int 0], [.int (xs 3), .int (xs 2), .int (xs 1), .ref 0], (zsF 0 [] 0 []), 58, 599532)) (zL_dec rfl) rfl (zin_of rfl) rfl ?_
  refine zL_call G hok (pc := 274) (stk := [.int (xs 3), .int (xs 2), .int (xs 1), .ref 0]) (n := 5) (k := 4) (as := [.ref 0, .int (xs 1), .int (xs 2), .int (xs 3)]) (rest := []) (m' := zm_D_part) (fun _ => rfl) rfl (zrcv_0 rfl) z35_0 rfl rfl (Nat.le_of_ble_eq_true rfl) (Nat.le_of_ble_eq_true rfl) (Nat.le_of_ble_eq_true rfl) rfl rfl rfl h1 (y := (277, [.ref 700, .ref 0, .ref 35, .int 0], [.int v], st1, 58, 599532)) rfl ?_
  refine zL_n G (y := (278, [.ref 700, .ref 0, .ref 35, .int 0], [.ref 35, .int v], st1, 58, 599532)) rfl ?_
  refine zL_n G (y := (279, [.ref 700, .ref 0, .ref 35, .int 0], [.ref 700, .ref 35, .int v], st1, 58, 599532)) rfl ?_
  refine zL_n G (y := (280, [.ref 700, .ref 0, .ref 35, .int 0], [.int 0, .ref 700, .ref 35, .int v], st1, 58, 599532)) rfl ?_
  refine zL_n G (y := (281, [.ref 700, .ref 0, .ref 35, .int 0], [.int 1, .int 0, .ref 700, .ref 35, .int v], st1, 58, 599532)) rfl ?_
  refine zL_n G (y := (282, [.ref 700, .ref 0, .ref 35, .int 0], [.int 1, .ref 700, .ref 35, .int v], st1, 58, 599532)) rfl ?_
  refine zL_s G (j := 1) (y := (283, [.ref 700, .ref 0, .ref 35, .int 0], [.int (xs 1), .ref 35, .int v], st1, 58, 599532)) (zL_dec rfl) rfl (zin_of rfl) rfl ?_
  refine zL_n G (y := (284, [.ref 700, .ref 0, .ref 35, .int 0], [.ref 700, .int (xs 1), .ref 35, .int v], st1, 58, 599532)) rfl ?_
  refine zL_n G (y := (285, [.ref 700, .ref 0, .ref 35, .int 0], [.int 0, .ref 700, .int (xs 1), .ref 35, .int v], st1, 58, 599532)) rfl ?_
  refine zL_n G (y := (286, [.ref 700, .ref 0, .ref 35, .int 0], [.int 2, .int 0, .ref 700, .int (xs 1), .ref 35, .int v], st1, 58, 599532)) rfl ?_
  refine zL_n G (y := (287, [.ref 700, .ref 0, .ref 35, .int 0], [.int 2, .ref 700, .int (xs 1), .ref 35, .int v], st1, 58, 599532)) rfl ?_
  refine zL_s G (j := 2) (y := (288, [.ref 700, .ref 0, .ref 35, .int 0], [.int (xs 2), .int (xs 1), .ref 35, .int v], st1, 58, 599532)) (zL_dec rfl) rfl (zin_of rfl) rfl ?_
  refine zL_n G (y := (289, [.ref 700, .ref 0, .ref 35, .int 0], [.ref 700, .int (xs 2), .int (xs 1), .ref 35, .int v], st1, 58, 599532)) rfl ?_
  refine zL_n G (y := (290, [.ref 700, .ref 0, .ref 35, .int 0], [.int 0, .ref 700, .int (xs 2), .int (xs 1), .ref 35, .int v], st1, 58, 599532)) rfl ?_
  refine zL_n G (y := (291, [.ref 700, .ref 0, .ref 35, .int 0], [.int 3, .int 0, .ref 700, .int (xs 2), .int (xs 1), .ref 35, .int v], st1, 58, 599532)) rfl ?_
  refine zL_n G (y := (292, [.ref 700, .ref 0, .ref 35, .int 0], [.int 3, .ref 700, .int (xs 2), .int (xs 1), .ref 35, .int v], st1, 58, 599532)) rfl ?_
  refine zL_s G (j := 3) (y := (293, [.ref 700, .ref 0, .ref 35, .int 0], [.int (xs 3), .int (xs 2), .int (xs 1), .ref 35, .int v], st1, 58, 599532)) (zL_dec rfl) rfl (zin_of rfl) rfl ?_
  refine zL_call G hok (pc := 293) (stk := [.int (xs 3), .int (xs 2), .int (xs 1), .ref 35, .int v]) (n := 27) (k := 4) (as := [.ref 35, .int (xs 1), .int (xs 2), .int (xs 3)]) (rest := [.int v]) (m' := zm_R_part) (fun _ => rfl) rfl (zrcv_35 h2 rfl) h2 rfl rfl (Nat.le_of_ble_eq_true rfl) (Nat.le_of_ble_eq_true rfl) (Nat.le_of_ble_eq_true rfl) rfl rfl rfl h3 (y := (296, [.ref 700, .ref 0, .ref 35, .int 0], [.int v, .int v], st2, 58, 599532)) rfl ?_
  refine zL_eq G (pc := 296) (z := zn 299 [.ref 700, .ref 0, .ref 35, .int 0] [] st2 58 599532) rfl ?_
  exact zL_out G st2

set_option maxRecDepth 100000 in
theorem zL_whole (G : zLG p s m meth cd D cA ad0 b 6 xs) (hok : ∀ M ∈ zMs, zokM M = true) : zLK p l e s m below meth cd D cA ad0 b (301, [.ref 700, .ref 0, .ref 35, .int 0], [], (zsF 0 [] 0 []), 58, 599532) := by
  obtain ⟨v, st1, st2, h1, h2, h3⟩ := zP_whole (xs 1) (xs 2)
  refine zL_n G (y := (302, [.ref 700, .ref 0, .ref 35, .int 0], [.ref 0], (zsF 0 [] 0 []), 58, 599532)) rfl ?_
  refine zL_n G (y := (303, [.ref 700, .ref 0, .ref 35, .int 0], [.ref 700, .ref 0], (zsF 0 [] 0 []), 58, 599532)) rfl ?_
  refine zL_n G (y := (304, [.ref 700, .ref 0, .ref 35, .int 0], [.int 0, .ref 700, .ref 0], (zsF 0 [] 0 []), 58, 599532)) rfl ?_
  refine zL_n G (y := (305, [.ref 700, .ref 0, .ref 35, .int 0], [.int 1, .int 0, .ref 700, .ref 0], (zsF 0 [] 0 []), 58, 599532)) rfl ?_
  refine zL_n G (y := (306, [.ref 700, .ref 0, .ref 35, .int 0], [.int 1, .ref 700, .ref 0], (zsF 0 [] 0 []), 58, 599532)) rfl ?_
  refine zL_s G (j := 1) (y := (307, [.ref 700, .ref 0, .ref 35, .int 0], [.int (xs 1), .ref 0], (zsF 0 [] 0 []), 58, 599532)) (zL_dec rfl) rfl (zin_of rfl) rfl ?_
  refine zL_n G (y := (308, [.ref 700, .ref 0, .ref 35, .int 0], [.ref 700, .int (xs 1), .ref 0], (zsF 0 [] 0 []), 58, 599532)) rfl ?_
  refine zL_n G (y := (309, [.ref 700, .ref 0, .ref 35, .int 0], [.int 0, .ref 700, .int (xs 1), .ref 0], (zsF 0 [] 0 []), 58, 599532)) rfl ?_
  refine zL_n G (y := (310, [.ref 700, .ref 0, .ref 35, .int 0], [.int 2, .int 0, .ref 700, .int (xs 1), .ref 0], (zsF 0 [] 0 []), 58, 599532)) rfl ?_
  refine zL_n G (y := (311, [.ref 700, .ref 0, .ref 35, .int 0], [.int 2, .ref 700, .int (xs 1), .ref 0], (zsF 0 [] 0 []), 58, 599532)) rfl ?_
  refine zL_s G (j := 2) (y := (312, [.ref 700, .ref 0, .ref 35, .int 0], [.int (xs 2), .int (xs 1), .ref 0], (zsF 0 [] 0 []), 58, 599532)) (zL_dec rfl) rfl (zin_of rfl) rfl ?_
  refine zL_call G hok (pc := 312) (stk := [.int (xs 2), .int (xs 1), .ref 0]) (n := 6) (k := 3) (as := [.ref 0, .int (xs 1), .int (xs 2)]) (rest := []) (m' := zm_D_whole) (fun _ => rfl) rfl (zrcv_0 rfl) z35_0 rfl rfl (Nat.le_of_ble_eq_true rfl) (Nat.le_of_ble_eq_true rfl) (Nat.le_of_ble_eq_true rfl) rfl rfl rfl h1 (y := (315, [.ref 700, .ref 0, .ref 35, .int 0], [.int v], st1, 58, 599532)) rfl ?_
  refine zL_n G (y := (316, [.ref 700, .ref 0, .ref 35, .int 0], [.ref 35, .int v], st1, 58, 599532)) rfl ?_
  refine zL_n G (y := (317, [.ref 700, .ref 0, .ref 35, .int 0], [.ref 700, .ref 35, .int v], st1, 58, 599532)) rfl ?_
  refine zL_n G (y := (318, [.ref 700, .ref 0, .ref 35, .int 0], [.int 0, .ref 700, .ref 35, .int v], st1, 58, 599532)) rfl ?_
  refine zL_n G (y := (319, [.ref 700, .ref 0, .ref 35, .int 0], [.int 1, .int 0, .ref 700, .ref 35, .int v], st1, 58, 599532)) rfl ?_
  refine zL_n G (y := (320, [.ref 700, .ref 0, .ref 35, .int 0], [.int 1, .ref 700, .ref 35, .int v], st1, 58, 599532)) rfl ?_
  refine zL_s G (j := 1) (y := (321, [.ref 700, .ref 0, .ref 35, .int 0], [.int (xs 1), .ref 35, .int v], st1, 58, 599532)) (zL_dec rfl) rfl (zin_of rfl) rfl ?_
  refine zL_n G (y := (322, [.ref 700, .ref 0, .ref 35, .int 0], [.ref 700, .int (xs 1), .ref 35, .int v], st1, 58, 599532)) rfl ?_
  refine zL_n G (y := (323, [.ref 700, .ref 0, .ref 35, .int 0], [.int 0, .ref 700, .int (xs 1), .ref 35, .int v], st1, 58, 599532)) rfl ?_
  refine zL_n G (y := (324, [.ref 700, .ref 0, .ref 35, .int 0], [.int 2, .int 0, .ref 700, .int (xs 1), .ref 35, .int v], st1, 58, 599532)) rfl ?_
  refine zL_n G (y := (325, [.ref 700, .ref 0, .ref 35, .int 0], [.int 2, .ref 700, .int (xs 1), .ref 35, .int v], st1, 58, 599532)) rfl ?_
  refine zL_s G (j := 2) (y := (326, [.ref 700, .ref 0, .ref 35, .int 0], [.int (xs 2), .int (xs 1), .ref 35, .int v], st1, 58, 599532)) (zL_dec rfl) rfl (zin_of rfl) rfl ?_
  refine zL_call G hok (pc := 326) (stk := [.int (xs 2), .int (xs 1), .ref 35, .int v]) (n := 29) (k := 3) (as := [.ref 35, .int (xs 1), .int (xs 2)]) (rest := [.int v]) (m' := zm_R_whole) (fun _ => rfl) rfl (zrcv_35 h2 rfl) h2 rfl rfl (Nat.le_of_ble_eq_true rfl) (Nat.le_of_ble_eq_true rfl) (Nat.le_of_ble_eq_true rfl) rfl rfl rfl h3 (y := (329, [.ref 700, .ref 0, .ref 35, .int 0], [.int v, .int v], st2, 58, 599532)) rfl ?_
  refine zL_eq G (pc := 329) (z := zn 332 [.ref 700, .ref 0, .ref 35, .int 0] [] st2 58 599532) rfl ?_
  exact zL_out G st2

set_option maxRecDepth 100000 in
theorem zL_names (G : zLG p s m meth cd D cA ad0 b 6 xs) (hok : ∀ M ∈ zMs, zokM M = true) : zLK p l e s m below meth cd D cA ad0 b (334, [.ref 700, .ref 0, .ref 35, .int 0], [], (zsF 0 [] 0 []), 58, 599532) := by
  obtain ⟨v, st1, st2, h1, h2, h3⟩ := zP_names
  refine zL_n G (y := (335, [.ref 700, .ref 0, .ref 35, .int 0], [.ref 0], (zsF 0 [] 0 []), 58, 599532)) rfl ?_
  refine zL_call G hok (pc := 335) (stk := [.ref 0]) (n := 7) (k := 1) (as := [.ref 0]) (rest := []) (m' := zm_D_names) (fun _ => rfl) rfl (zrcv_0 rfl) z35_0 rfl rfl (Nat.le_of_ble_eq_true rfl) (Nat.le_of_ble_eq_true rfl) (Nat.le_of_ble_eq_true rfl) rfl rfl rfl h1 (y := (338, [.ref 700, .ref 0, .ref 35, .int 0], [.int v], st1, 58, 599532)) rfl ?_
  refine zL_n G (y := (339, [.ref 700, .ref 0, .ref 35, .int 0], [.ref 35, .int v], st1, 58, 599532)) rfl ?_
  refine zL_call G hok (pc := 339) (stk := [.ref 35, .int v]) (n := 30) (k := 1) (as := [.ref 35]) (rest := [.int v]) (m' := zm_R_names) (fun _ => rfl) rfl (zrcv_35 h2 rfl) h2 rfl rfl (Nat.le_of_ble_eq_true rfl) (Nat.le_of_ble_eq_true rfl) (Nat.le_of_ble_eq_true rfl) rfl rfl rfl h3 (y := (342, [.ref 700, .ref 0, .ref 35, .int 0], [.int v, .int v], st2, 58, 599532)) rfl ?_
  refine zL_eq G (pc := 342) (z := zn 345 [.ref 700, .ref 0, .ref 35, .int 0] [] st2 58 599532) rfl ?_
  exact zL_out G st2

set_option maxRecDepth 100000 in
theorem zL_spelt (G : zLG p s m meth cd D cA ad0 b 6 xs) (hok : ∀ M ∈ zMs, zokM M = true) : zLK p l e s m below meth cd D cA ad0 b (347, [.ref 700, .ref 0, .ref 35, .int 0], [], (zsF 0 [] 0 []), 58, 599532) := by
  obtain ⟨v, st1, st2, h1, h2, h3⟩ := zP_spelt (xs 1) (xs 2)
  refine zL_n G (y := (348, [.ref 700, .ref 0, .ref 35, .int 0], [.ref 0], (zsF 0 [] 0 []), 58, 599532)) rfl ?_
  refine zL_n G (y := (349, [.ref 700, .ref 0, .ref 35, .int 0], [.ref 700, .ref 0], (zsF 0 [] 0 []), 58, 599532)) rfl ?_
  refine zL_n G (y := (350, [.ref 700, .ref 0, .ref 35, .int 0], [.int 0, .ref 700, .ref 0], (zsF 0 [] 0 []), 58, 599532)) rfl ?_
  refine zL_n G (y := (351, [.ref 700, .ref 0, .ref 35, .int 0], [.int 1, .int 0, .ref 700, .ref 0], (zsF 0 [] 0 []), 58, 599532)) rfl ?_
  refine zL_n G (y := (352, [.ref 700, .ref 0, .ref 35, .int 0], [.int 1, .ref 700, .ref 0], (zsF 0 [] 0 []), 58, 599532)) rfl ?_
  refine zL_s G (j := 1) (y := (353, [.ref 700, .ref 0, .ref 35, .int 0], [.int (xs 1), .ref 0], (zsF 0 [] 0 []), 58, 599532)) (zL_dec rfl) rfl (zin_of rfl) rfl ?_
  refine zL_n G (y := (354, [.ref 700, .ref 0, .ref 35, .int 0], [.ref 700, .int (xs 1), .ref 0], (zsF 0 [] 0 []), 58, 599532)) rfl ?_
  refine zL_n G (y := (355, [.ref 700, .ref 0, .ref 35, .int 0], [.int 0, .ref 700, .int (xs 1), .ref 0], (zsF 0 [] 0 []), 58, 599532)) rfl ?_
  refine zL_n G (y := (356, [.ref 700, .ref 0, .ref 35, .int 0], [.int 2, .int 0, .ref 700, .int (xs 1), .ref 0], (zsF 0 [] 0 []), 58, 599532)) rfl ?_
  refine zL_n G (y := (357, [.ref 700, .ref 0, .ref 35, .int 0], [.int 2, .ref 700, .int (xs 1), .ref 0], (zsF 0 [] 0 []), 58, 599532)) rfl ?_
  refine zL_s G (j := 2) (y := (358, [.ref 700, .ref 0, .ref 35, .int 0], [.int (xs 2), .int (xs 1), .ref 0], (zsF 0 [] 0 []), 58, 599532)) (zL_dec rfl) rfl (zin_of rfl) rfl ?_
  refine zL_call G hok (pc := 358) (stk := [.int (xs 2), .int (xs 1), .ref 0]) (n := 8) (k := 3) (as := [.ref 0, .int (xs 1), .int (xs 2)]) (rest := []) (m' := zm_D_spelt) (fun _ => rfl) rfl (zrcv_0 rfl) z35_0 rfl rfl (Nat.le_of_ble_eq_true rfl) (Nat.le_of_ble_eq_true rfl) (Nat.le_of_ble_eq_true rfl) rfl rfl rfl h1 (y := (361, [.ref 700, .ref 0, .ref 35, .int 0], [.int v], st1, 58, 599532)) rfl ?_
  refine zL_n G (y := (362, [.ref 700, .ref 0, .ref 35, .int 0], [.ref 35, .int v], st1, 58, 599532)) rfl ?_
  refine zL_n G (y := (363, [.ref 700, .ref 0, .ref 35, .int 0], [.ref 700, .ref 35, .int v], st1, 58, 599532)) rfl ?_
  refine zL_n G (y := (364, [.ref 700, .ref 0, .ref 35, .int 0], [.int 0, .ref 700, .ref 35, .int v], st1, 58, 599532)) rfl ?_
  refine zL_n G (y := (365, [.ref 700, .ref 0, .ref 35, .int 0], [.int 1, .int 0, .ref 700, .ref 35, .int v], st1, 58, 599532)) rfl ?_
  refine zL_n G (y := (366, [.ref 700, .ref 0, .ref 35, .int 0], [.int 1, .ref 700, .ref 35, .int v], st1, 58, 599532)) rfl ?_
  refine zL_s G (j := 1) (y := (367, [.ref 700, .ref 0, .ref 35, .int 0], [.int (xs 1), .ref 35, .int v], st1, 58, 599532)) (zL_dec rfl) rfl (zin_of rfl) rfl ?_
  refine zL_n G (y := (368, [.ref 700, .ref 0, .ref 35, .int 0], [.ref 700, .int (xs 1), .ref 35, .int v], st1, 58, 599532)) rfl ?_
  refine zL_n G (y := (369, [.ref 700, .ref 0, .ref 35, .int 0], [.int 0, .ref 700, .int (xs 1), .ref 35, .int v], st1, 58, 599532)) rfl ?_
  refine zL_n G (y := (370, [.ref 700, .ref 0, .ref 35, .int 0], [.int 2, .int 0, .ref 700, .int (xs 1), .ref 35, .int v], st1, 58, 599532)) rfl ?_
  refine zL_n G (y := (371, [.ref 700, .ref 0, .ref 35, .int 0], [.int 2, .ref 700, .int (xs 1), .ref 35, .int v], st1, 58, 599532)) rfl ?_
  refine zL_s G (j := 2) (y := (372, [.ref 700, .ref 0, .ref 35, .int 0], [.int (xs 2), .int (xs 1), .ref 35, .int v], st1, 58, 599532)) (zL_dec rfl) rfl (zin_of rfl) rfl ?_
  refine zL_call G hok (pc := 372) (stk := [.int (xs 2), .int (xs 1), .ref 35, .int v]) (n := 31) (k := 3) (as := [.ref 35, .int (xs 1), .int (xs 2)]) (rest := [.int v]) (m' := zm_R_spelt) (fun _ => rfl) rfl (zrcv_35 h2 rfl) h2 rfl rfl (Nat.le_of_ble_eq_true rfl) (Nat.le_of_ble_eq_true rfl) (Nat.le_of_ble_eq_true rfl) rfl rfl rfl h3 (y := (375, [.ref 700, .ref 0, .ref 35, .int 0], [.int v, .int v], st2, 58, 599532)) rfl ?_
  refine zL_eq G (pc := 375) (z := zn 378 [.ref 700, .ref 0, .ref 35, .int 0] [] st2 58 599532) rfl ?_
  exact zL_out G st2

set_option maxRecDepth 100000 in
theorem zL_write (G : zLG p s m meth cd D cA ad0 b 6 xs) (hok : ∀ M ∈ zMs, zokM M = true) : zLK p l e s m below meth cd D cA ad0 b (380, [.ref 700, .ref 0, .ref 35, .int 0], [], (zsF 0 [] 0 []), 58, 599532) := by
  obtain ⟨v, st1, st2, h1, h2, h3⟩ := zP_write (xs 1) (xs 2)
  refine zL_n G (y := (381, [.ref 700, .ref 0, .ref 35, .int 0], [.ref 0], (zsF 0 [] 0 []), 58, 599532)) rfl ?_
  refine zL_n G (y := (382, [.ref 700, .ref 0, .ref 35, .int 0], [.ref 700, .ref 0], (zsF 0 [] 0 []), 58, 599532)) rfl ?_
  refine zL_n G (y := (383, [.ref 700, .ref 0, .ref 35, .int 0], [.int 0, .ref 700, .ref 0], (zsF 0 [] 0 []), 58, 599532)) rfl ?_
  refine zL_n G (y := (384, [.ref 700, .ref 0, .ref 35, .int 0], [.int 1, .int 0, .ref 700, .ref 0], (zsF 0 [] 0 []), 58, 599532)) rfl ?_
  refine zL_n G (y := (385, [.ref 700, .ref 0, .ref 35, .int 0], [.int 1, .ref 700, .ref 0], (zsF 0 [] 0 []), 58, 599532)) rfl ?_
  refine zL_s G (j := 1) (y := (386, [.ref 700, .ref 0, .ref 35, .int 0], [.int (xs 1), .ref 0], (zsF 0 [] 0 []), 58, 599532)) (zL_dec rfl) rfl (zin_of rfl) rfl ?_
  refine zL_n G (y := (387, [.ref 700, .ref 0, .ref 35, .int 0], [.ref 700, .int (xs 1), .ref 0], (zsF 0 [] 0 []), 58, 599532)) rfl ?_
  refine zL_n G (y := (388, [.ref 700, .ref 0, .ref 35, .int 0], [.int 0, .ref 700, .int (xs 1), .ref 0], (zsF 0 [] 0 []), 58, 599532)) rfl ?_
  refine zL_n G (y := (389, [.ref 700, .ref 0, .ref 35, .int 0], [.int 2, .int 0, .ref 700, .int (xs 1), .ref 0], (zsF 0 [] 0 []), 58, 599532)) rfl ?_
  refine zL_n G (y := (390, [.ref 700, .ref 0, .ref 35, .int 0], [.int 2, .ref 700, .int (xs 1), .ref 0], (zsF 0 [] 0 []), 58, 599532)) rfl ?_
  refine zL_s G (j := 2) (y := (391, [.ref 700, .ref 0, .ref 35, .int 0], [.int (xs 2), .int (xs 1), .ref 0], (zsF 0 [] 0 []), 58, 599532)) (zL_dec rfl) rfl (zin_of rfl) rfl ?_
  refine zL_call G hok (pc := 391) (stk := [.int (xs 2), .int (xs 1), .ref 0]) (n := 9) (k := 3) (as := [.ref 0, .int (xs 1), .int (xs 2)]) (rest := []) (m' := zm_D_write) (fun _ => rfl) rfl (zrcv_0 rfl) z35_0 rfl rfl (Nat.le_of_ble_eq_true rfl) (Nat.le_of_ble_eq_true rfl) (Nat.le_of_ble_eq_true rfl) rfl rfl rfl h1 (y := (394, [.ref 700, .ref 0, .ref 35, .int 0], [.int v], st1, 58, 599532)) rfl ?_
  refine zL_n G (y := (395, [.ref 700, .ref 0, .ref 35, .int 0], [.ref 35, .int v], st1, 58, 599532)) rfl ?_
  refine zL_n G (y := (396, [.ref 700, .ref 0, .ref 35, .int 0], [.ref 700, .ref 35, .int v], st1, 58, 599532)) rfl ?_
  refine zL_n G (y := (397, [.ref 700, .ref 0, .ref 35, .int 0], [.int 0, .ref 700, .ref 35, .int v], st1, 58, 599532)) rfl ?_
  refine zL_n G (y := (398, [.ref 700, .ref 0, .ref 35, .int 0], [.int 1, .int 0, .ref 700, .ref 35, .int v], st1, 58, 599532)) rfl ?_
  refine zL_n G (y := (399, [.ref 700, .ref 0, .ref 35, .int 0], [.int 1, .ref 700, .ref 35, .int v], st1, 58, 599532)) rfl ?_
  refine zL_s G (j := 1) (y := (400, [.ref 700, .ref 0, .ref 35, .int 0], [.int (xs 1), .ref 35, .int v], st1, 58, 599532)) (zL_dec rfl) rfl (zin_of rfl) rfl ?_
  refine zL_n G (y := (401, [.ref 700, .ref 0, .ref 35, .int 0], [.ref 700, .int (xs 1), .ref 35, .int v], st1, 58, 599532)) rfl ?_
  refine zL_n G (y := (402, [.ref 700, .ref 0, .ref 35, .int 0], [.int 0, .ref 700, .int (xs 1), .ref 35, .int v], st1, 58, 599532)) rfl ?_
  refine zL_n G (y := (403, [.ref 700, .ref 0, .ref 35, .int 0], [.int 2, .int 0, .ref 700, .int (xs 1), .ref 35, .int v], st1, 58, 599532)) rfl ?_
  refine zL_n G (y := (404, [.ref 700, .ref 0, .ref 35, .int 0], [.int 2, .ref 700, .int (xs 1), .ref 35, .int v], st1, 58, 599532)) rfl ?_
  refine zL_s G (j := 2) (y := (405, [.ref 700, .ref 0, .ref 35, .int 0], [.int (xs 2), .int (xs 1), .ref 35, .int v], st1, 58, 599532)) (zL_dec rfl) rfl (zin_of rfl) rfl ?_
  refine zL_call G hok (pc := 405) (stk := [.int (xs 2), .int (xs 1), .ref 35, .int v]) (n := 36) (k := 3) (as := [.ref 35, .int (xs 1), .int (xs 2)]) (rest := [.int v]) (m' := zm_R_write) (fun _ => rfl) rfl (zrcv_35 h2 rfl) h2 rfl rfl (Nat.le_of_ble_eq_true rfl) (Nat.le_of_ble_eq_true rfl) (Nat.le_of_ble_eq_true rfl) rfl rfl rfl h3 (y := (408, [.ref 700, .ref 0, .ref 35, .int 0], [.int v, .int v], st2, 58, 599532)) rfl ?_
  refine zL_eq G (pc := 408) (z := zn 411 [.ref 700, .ref 0, .ref 35, .int 0] [] st2 58 599532) rfl ?_
  exact zL_out G st2

set_option maxRecDepth 100000 in
theorem zL_written (G : zLG p s m meth cd D cA ad0 b 6 xs) (hok : ∀ M ∈ zMs, zokM M = true) : zLK p l e s m below meth cd D cA ad0 b (413, [.ref 700, .ref 0, .ref 35, .int 0], [], (zsF 0 [] 0 []), 58, 599532) := by
  obtain ⟨v, st1, st2, h1, h2, h3⟩ := zP_written (xs 1)
  refine zL_n G (y := (414, [.ref 700, .ref 0, .ref 35, .int 0], [.ref 0], (zsF 0 [] 0 []), 58, 599532)) rfl ?_
  refine zL_n G (y := (415, [.ref 700, .ref 0, .ref 35, .int 0], [.ref 700, .ref 0], (zsF 0 [] 0 []), 58, 599532)) rfl ?_
  refine zL_n G (y := (416, [.ref 700, .ref 0, .ref 35, .int 0], [.int 0, .ref 700, .ref 0], (zsF 0 [] 0 []), 58, 599532)) rfl ?_
  refine zL_n G (y := (417, [.ref 700, .ref 0, .ref 35, .int 0], [.int 1, .int 0, .ref 700, .ref 0], (zsF 0 [] 0 []), 58, 599532)) rfl ?_
  refine zL_n G (y := (418, [.ref 700, .ref 0, .ref 35, .int 0], [.int 1, .ref 700, .ref 0], (zsF 0 [] 0 []), 58, 599532)) rfl ?_
  refine zL_s G (j := 1) (y := (419, [.ref 700, .ref 0, .ref 35, .int 0], [.int (xs 1), .ref 0], (zsF 0 [] 0 []), 58, 599532)) (zL_dec rfl) rfl (zin_of rfl) rfl ?_
  refine zL_call G hok (pc := 419) (stk := [.int (xs 1), .ref 0]) (n := 10) (k := 2) (as := [.ref 0, .int (xs 1)]) (rest := []) (m' := zm_D_written) (fun _ => rfl) rfl (zrcv_0 rfl) z35_0 rfl rfl (Nat.le_of_ble_eq_true rfl) (Nat.le_of_ble_eq_true rfl) (Nat.le_of_ble_eq_true rfl) rfl rfl rfl h1 (y := (422, [.ref 700, .ref 0, .ref 35, .int 0], [.int v], st1, 58, 599532)) rfl ?_
  refine zL_n G (y := (423, [.ref 700, .ref 0, .ref 35, .int 0], [.ref 35, .int v], st1, 58, 599532)) rfl ?_
  refine zL_n G (y := (424, [.ref 700, .ref 0, .ref 35, .int 0], [.ref 700, .ref 35, .int v], st1, 58, 599532)) rfl ?_
  refine zL_n G (y := (425, [.ref 700, .ref 0, .ref 35, .int 0], [.int 0, .ref 700, .ref 35, .int v], st1, 58, 599532)) rfl ?_
  refine zL_n G (y := (426, [.ref 700, .ref 0, .ref 35, .int 0], [.int 1, .int 0, .ref 700, .ref 35, .int v], st1, 58, 599532)) rfl ?_
  refine zL_n G (y := (427, [.ref 700, .ref 0, .ref 35, .int 0], [.int 1, .ref 700, .ref 35, .int v], st1, 58, 599532)) rfl ?_
  refine zL_s G (j := 1) (y := (428, [.ref 700, .ref 0, .ref 35, .int 0], [.int (xs 1), .ref 35, .int v], st1, 58, 599532)) (zL_dec rfl) rfl (zin_of rfl) rfl ?_
  refine zL_call G hok (pc := 428) (stk := [.int (xs 1), .ref 35, .int v]) (n := 37) (k := 2) (as := [.ref 35, .int (xs 1)]) (rest := [.int v]) (m' := zm_R_written) (fun _ => rfl) rfl (zrcv_35 h2 rfl) h2 rfl rfl (Nat.le_of_ble_eq_true rfl) (Nat.le_of_ble_eq_true rfl) (Nat.le_of_ble_eq_true rfl) rfl rfl rfl h3 (y := (431, [.ref 700, .ref 0, .ref 35, .int 0], [.int v, .int v], st2, 58, 599532)) rfl ?_
  refine zL_eq G (pc := 431) (z := zn 434 [.ref 700, .ref 0, .ref 35, .int 0] [] st2 58 599532) rfl ?_
  exact zL_out G st2

set_option maxRecDepth 100000 in
theorem zL_again (G : zLG p s m meth cd D cA ad0 b 6 xs) (hok : ∀ M ∈ zMs, zokM M = true) : zLK p l e s m below meth cd D cA ad0 b (436, [.ref 700, .ref 0, .ref 35, .int 0], [], (zsF 0 [] 0 []), 58, 599532) := by
  obtain ⟨v, st1, st2, h1, h2, h3⟩ := zP_again
  refine zL_n G (y := (437, [.ref 700, .ref 0, .ref 35, .int 0], [.ref 0], (zsF 0 [] 0 []), 58, 599532)) rfl ?_
  refine zL_call G hok (pc := 437) (stk := [.ref 0]) (n := 11) (k := 1) (as := [.ref 0]) (rest := []) (m' := zm_D_again) (fun _ => rfl) rfl (zrcv_0 rfl) z35_0 rfl rfl (Nat.le_of_ble_eq_true rfl) (Nat.le_of_ble_eq_true rfl) (Nat.le_of_ble_eq_true rfl) rfl rfl rfl h1 (y := (440, [.ref 700, .ref 0, .ref 35, .int 0], [.int v], st1, 58, 599532)) rfl ?_
  refine zL_n G (y := (441, [.ref 700, .ref 0, .ref 35, .int 0], [.ref 35, .int v], st1, 58, 599532)) rfl ?_
  refine zL_call G hok (pc := 441) (stk := [.ref 35, .int v]) (n := 38) (k := 1) (as := [.ref 35]) (rest := [.int v]) (m' := zm_R_again) (fun _ => rfl) rfl (zrcv_35 h2 rfl) h2 rfl rfl (Nat.le_of_ble_eq_true rfl) (Nat.le_of_ble_eq_true rfl) (Nat.le_of_ble_eq_true rfl) rfl rfl rfl h3 (y := (444, [.ref 700, .ref 0, .ref 35, .int 0], [.int v, .int v], st2, 58, 599532)) rfl ?_
  refine zL_eq G (pc := 444) (z := zn 447 [.ref 700, .ref 0, .ref 35, .int 0] [] st2 58 599532) rfl ?_
  exact zL_out G st2

set_option maxRecDepth 100000 in
theorem zL_same (G : zLG p s m meth cd D cA ad0 b 6 xs) (hok : ∀ M ∈ zMs, zokM M = true) : zLK p l e s m below meth cd D cA ad0 b (449, [.ref 700, .ref 0, .ref 35, .int 0], [], (zsF 0 [] 0 []), 58, 599532) := by
  obtain ⟨v, st1, st2, h1, h2, h3⟩ := zP_same
  refine zL_n G (y := (450, [.ref 700, .ref 0, .ref 35, .int 0], [.ref 0], (zsF 0 [] 0 []), 58, 599532)) rfl ?_
  refine zL_call G hok (pc := 450) (stk := [.ref 0]) (n := 12) (k := 1) (as := [.ref 0]) (rest := []) (m' := zm_D_same) (fun _ => rfl) rfl (zrcv_0 rfl) z35_0 rfl rfl (Nat.le_of_ble_eq_true rfl) (Nat.le_of_ble_eq_true rfl) (Nat.le_of_ble_eq_true rfl) rfl rfl rfl h1 (y := (453, [.ref 700, .ref 0, .ref 35, .int 0], [.int v], st1, 58, 599532)) rfl ?_
  refine zL_n G (y := (454, [.ref 700, .ref 0, .ref 35, .int 0], [.ref 35, .int v], st1, 58, 599532)) rfl ?_
  refine zL_call G hok (pc := 454) (stk := [.ref 35, .int v]) (n := 32) (k := 1) (as := [.ref 35]) (rest := [.int v]) (m' := zm_R_same) (fun _ => rfl) rfl (zrcv_35 h2 rfl) h2 rfl rfl (Nat.le_of_ble_eq_true rfl) (Nat.le_of_ble_eq_true rfl) (Nat.le_of_ble_eq_true rfl) rfl rfl rfl h3 (y := (457, [.ref 700, .ref 0, .ref 35, .int 0], [.int v, .int v], st2, 58, 599532)) rfl ?_
  refine zL_eq G (pc := 457) (z := zn 460 [.ref 700, .ref 0, .ref 35, .int 0] [] st2 58 599532) rfl ?_
  exact zL_out G st2
end ZLAW
end
section
/-! THE CLAIM -/
section ZLAW
variable {p : Program} {l : Launch} {e : Env} {s : State} {m : MethodId} {below : List Frame} {meth : Method} {cd : Code} {D : va_G} {cA : Nat → ClassId} {ad0 : Nat → Nat} {b : Nat} {xs : Nat → Int32}
set_option maxRecDepth 100000 in
theorem zL_one (G : zLG p s m meth cd D cA ad0 b 6 xs) (hok : ∀ M ∈ zMs, zokM M = true) : zLK p l e s m below meth cd D cA ad0 b (18, [.ref 700, .ref 0, .ref 35, .int 0], [], (zsF 0 [] 0 []), 58, 599532) := by
  refine zL_n G (y := (19, [.ref 700, .ref 0, .ref 35, .int 0], [.int 0], (zsF 0 [] 0 []), 58, 599532)) rfl ?_
  refine zL_n G (y := (20, [.ref 700, .ref 0, .ref 35, .int 0], [.ref 700, .int 0], (zsF 0 [] 0 []), 58, 599532)) rfl ?_
  refine zL_len G (y := (21, [.ref 700, .ref 0, .ref 35, .int 0], [.int 6, .int 0], (zsF 0 [] 0 []), 58, 599532)) rfl ?_
  refine zL_n G (y := (23, [.ref 700, .ref 0, .ref 35, .int 0], [.int 6, .int 6, .int 0], (zsF 0 [] 0 []), 58, 599532)) rfl ?_
  refine zL_n G (y := (24, [.ref 700, .ref 0, .ref 35, .int 0], [.int 0, .int 0], (zsF 0 [] 0 []), 58, 599532)) rfl ?_
  refine zL_n G (y := (27, [.ref 700, .ref 0, .ref 35, .int 0], [], (zsF 0 [] 0 []), 58, 599532)) rfl ?_
  refine zL_n G (y := (28, [.ref 700, .ref 0, .ref 35, .int 0], [.ref 700], (zsF 0 [] 0 []), 58, 599532)) rfl ?_
  refine zL_n G (y := (29, [.ref 700, .ref 0, .ref 35, .int 0], [.int 0, .ref 700], (zsF 0 [] 0 []), 58, 599532)) rfl ?_
  refine zL_s G (j := 0) (y := (30, [.ref 700, .ref 0, .ref 35, .int 0], [.int (xs 0)], (zsF 0 [] 0 []), 58, 599532)) (zL_dec rfl) rfl (zin_of rfl) rfl ?_
  refine zL_n G (y := (32, [.ref 700, .ref 0, .ref 35, .int 0], [.int 15, .int (xs 0)], (zsF 0 [] 0 []), 58, 599532)) rfl ?_
  refine zL_n G (y := (33, [.ref 700, .ref 0, .ref 35, .int 0], [.int (xs 0 &&& 15)], (zsF 0 [] 0 []), 58, 599532)) rfl ?_
  generalize xs 0 &&& 15 = q
  refine zL_n G (y := (zswT q 462 [(0, 96), (1, 159), (2, 192), (3, 215), (4, 258), (5, 301), (6, 334), (7, 347), (8, 380), (9, 413), (10, 436), (11, 449)], [.ref 700, .ref 0, .ref 35, .int 0], [], (zsF 0 [] 0 []), 58, 599532)) rfl ?_
  by_cases q0 : q = 0
  · subst q0
    exact zL_feed G hok
  by_cases q1 : q = 1
  · subst q1
    exact zL_read G hok
  by_cases q2 : q = 2
  · subst q2
    exact zL_nodes G hok
  by_cases q3 : q = 3
  · subst q3
    exact zL_node G hok
  by_cases q4 : q = 4
  · subst q4
    exact zL_part G hok
  by_cases q5 : q = 5
  · subst q5
    exact zL_whole G hok
  by_cases q6 : q = 6
  · subst q6
    exact zL_names G hok
  by_cases q7 : q = 7
  · subst q7
    exact zL_spelt G hok
  by_cases q8 : q = 8
  · subst q8
    exact zL_write G hok
  by_cases q9 : q = 9
  · subst q9
    exact zL_written G hok
  by_cases q10 : q = 10
  · subst q10
    exact zL_again G hok
  by_cases q11 : q = 11
  · subst q11
    exact zL_same G hok
  have hq : zswT q 462 [(0, 96), (1, 159), (2, 192), (3, 215), (4, 258), (5, 301), (6, 334), (7, 347), (8, 380), (9, 413), (10, 436), (11, 449)] = 462 := by
    simp only [zswT]
    rw [if_neg q0, if_neg q1, if_neg q2, if_neg q3, if_neg q4, if_neg q5, if_neg q6, if_neg q7, if_neg q8, if_neg q9, if_neg q10, if_neg q11]
  rw [hq]
  exact zL_out G _
end ZLAW
end
section
-- ===== YOUR PART BEGINS =====
/-- YOUR PART: from the entry, for every script of at most 6 ints, the law comes to its end with true -/
theorem whole_start {p : Program} {e : Env} {s : State} {m : MethodId} {below : List Frame} {meth : Method} {c : Code} (l : Launch) {b L : Nat} {xs : Nat → Int32} (hL : L ≤ 6) (C0 : lw_At p s m meth c b L xs) : W p l e room_1 s m #[Value.ref b] below meth c s.heap [] 0 0 (lw_Z below #[Value.ref b] s) (entryFrame m ([Value.ref b] : List Value).toArray 4) := by
  obtain ⟨hx, hb, hr, hml, hown, hts, hX, hbl, hlocks, hgv⟩ := id C0
  obtain ⟨D, cA, ad0, hK, hcon, h7⟩ := zstart b hts hgv
  have F : zFx p room_1 s m #[Value.ref b] meth c D cA (fun q => s.heap.size ≤ q) zm_L ad0 s.heap.size :=
    ⟨⟨hx, hb, hml, hown, fun w hw => hts w (zT_sub hw)⟩, ⟨hK, fun q h => h, hcon, fun q h => h, Nat.le_refl _⟩, ⟨hr, hlocks, fun h => absurd h (by decide)⟩, ⟨Nat.le_of_ble_eq_true rfl, Nat.le_of_ble_eq_true rfl, rfl, rfl⟩, zL_ok⟩
  have G : zLG p s m meth c D cA ad0 b L xs := ⟨F, hX, hbl, h7⟩
  have K : zLK p l e s m below meth c D cA ad0 b (0, [.ref 700, zu, zu, zu], [], [], 0, 0) := by
    refine zL_entry G zMs_ok ?_
    by_cases h6 : L < 6
    · exact zL_none G h6
    · have : L = 6 := by omega
      subst this
      exact zL_one G zMs_ok
  have hl := zl_entry (ad := ad0) (n := 4) [.ref 700] (Nat.le_of_ble_eq_true rfl)
  have h1 : ([Value.ref 700] : List Value).map (zcv ad0) = [Value.ref b] := by
    show [Value.ref (ad0 700)] = _
    rw [h7]
  rw [h1] at hl
  rw [lg_entry_eq]
  exact K ad0 _ s.heap [] ⟨⟨hl, rfl⟩, ⟨fun k q h => by simp [zw] at h, ⟨fun i j p q h => by simp [zw] at h, fun k q h => by simp [zw] at h⟩, va_S.rf⟩, ⟨Nat.zero_le _, Nat.zero_le _⟩, zag.rf, Nat.le_refl _⟩
-- ===== YOUR PART ENDS =====
set_option maxHeartbeats 4000000 in
theorem lw_walk (l : Launch) (b : Addr) (xs : List Int32) : MetFree l x (headSpec (Jvm.Cond.code x code maxLocals ret :: tables_1) room_1) (lw_P b xs) (fun _ _ _ _ _ => True) lw_Q := by
  refine MetFree.of_bodyS (code := code) (maxLocals := maxLocals) (ret := ret) (by decide) ?_ ?_
  · intro args s m h hn
    obtain ⟨meth, c, h1, h2, h3, h4, h5, h6, -, -⟩ := Cond.code_spec hn (atoms_spec (ws := Jvm.Cond.code x code maxLocals ret :: tables_1) h _ List.mem_cons_self)
    exact ⟨meth, c, h1, h2, h3, h4, h5, h6⟩
  · intro p e s m args below meth c s₁ B hml0 hP _
    obtain ⟨rfl, hx, hbd, hgv⟩ := hP
    obtain ⟨scr, harrAt, hlist, hof, hsmall⟩ := hx
    obtain ⟨hcb, hkn, -, -⟩ := State.arrayAt?_spec harrAt
    have hown : s.vm.findClass R_law = some m.cls := findClass_of_methodNamed B.named
    have hts0 : ∀ c ∈ (Jvm.Cond.code x code maxLocals ret :: tables_1), c.before #[Value.ref b] s = true := atoms_spec (ws := Jvm.Cond.code x code maxLocals ret :: tables_1) B.pre
    have hts : ∀ w ∈ lw_tbl, w.before #[Value.ref b] s = true := k2_hts_sels lw_privs (fun w hw => hts0 w (List.mem_cons_of_mem _ hw)) lw_privs_ok
    have hml : c.maxLocals = 4 := B.maxLocals_eq (hts0 _ List.mem_cons_self)
    have X₀ : Stand p l e room_1 s m #[Value.ref b] below meth c s₁ [] 0 0 := Stand.of_body B
    have hh0 : s₁.heap = s.heap := by rw [B.state]; rfl
    have hsz : scr.slots.size = xs.length := by rw [← Array.length_toList, hlist, List.length_map]
    have hval : ∀ j : Nat, j < xs.length → scr.slots[j]? = some (.int (xs.getD j 0)) := fun j hj => by
      rw [← Array.getElem?_toList, hlist]
      simp [hj]
    have hbl : b < s.heap.size := (Array.getElem?_eq_some_iff.mp hcb).1
    have hX : va_X b xs.length (fun j => xs.getD j 0) s s.heap := ⟨scr, hcb, hof, hkn, hsz, hval⟩
    have K : W p l e room_1 s m #[Value.ref b] below meth c s₁.heap [] 0 0 (lw_Z below #[Value.ref b] s) (entryFrame m ([Value.ref b] : List Value).toArray 4) := by
      rw [hh0]
      exact whole_start l hbd ⟨B.exec, B.bytes, B.returns, hml, hown, hts, hX, hbl, B.notSynchronized, hgv⟩
    obtain ⟨t, a1, o, b1, b2, b3⟩ := K s₁ rfl X₀
    exact ⟨t, o, a1, b1, b2, b3⟩
theorem lw_pre_spec {args : Array Value} {s : State} (h : (Jvm.Cond.and given_1 narrow_1).before args s = true) (hr : rest_1_c.before args s = true) : ∃ (b : Addr) (xs : List Int32), lw_P b xs args s := by
  have hs := flat_of_before _ h
  have hq := flat_of_before _ hr
  have hc : (Cond.count 1).before args s = true := hs _ (by decide +kernel)
  have harr : (Cond.arrayOf (.arg 0) .int).before args s = true := hs _ (by decide +kernel)
  have hle : (Cond.le (.length (.arg 0)) (.int 6)).before args s = true := hs _ (by decide +kernel)
  have hlen : (Cond.isInt (.length (.arg 0))).before args s = true := hq _ (by decide +kernel)
  have hall : (Cond.all (.arg 0) (.isInt (.elem (.arg 0) (.index 0)))).before args s = true := hq _ (by decide +kernel)
  obtain ⟨b, xs, hb, hx⟩ := State.ints_of_pre rfl harr hlen hall
  have hsm : xs.length < 2 ^ 31 := hx.choose_spec.2.2.2
  have hev : (Term.length (.arg 0)).eval args s none [] s = some (.int xs.length.toInt32) := hx.length_eval hb
  have hv := Cond.le_ints hev (show (Term.int 6).eval args s none [] s = some (.int 6) from rfl)
  have hd : xs.length.toInt32 ≤ 6 := by
    simpa [Cond.before, Cond.holds, hv] using hle
  have hN : xs.length ≤ 6 := (Int32.ofNat_le_ofNat hsm (by decide)).mp (show Int32.ofNat xs.length ≤ Int32.ofNat 6 from hd)
  exact ⟨b, xs, Cond.one_arg hc (show args[0]? = some (.ref b) from hb), hx, hN, h⟩
theorem lw_comes (l : Launch) : Comes l x (Jvm.Cond.code x code maxLocals ret :: tables_1) room_1 (fun tb e args s => Calls_1 tb e args s ∧ rest_1 tb e args s ∧ Pre_1 tb e args s)
    (fun _ _ args s o t => lw_Q args s o t) := by
  intro p e ha hc hk s m args below hf hfit hheap happ hpre
  obtain ⟨b, xs, hP⟩ := lw_pre_spec hpre.2.2 hpre.2.1
  obtain ⟨k, o, h1, h2, h3, hQ⟩ := lw_walk l b xs p e ha hc hk s m args below hf ((Spec.applies_iff_loose hf).mp happ).1 hP trivial
  exact ⟨k, o, h1, h2, h3, hQ⟩
theorem lw_frame {s t : State} {o : Outcome} {args : Array Value} (h : Framed s o t [] 600000 7302250) :
    Framed s o t (fieldLocs frame_1_writes args s ++ arrayLocs frame_1_arrays args s ++ staticLocs frame_1_statics s) 600000 7302250 := h
theorem lw_limb (L : Cond) (hL : ∀ (args : Array Value) (s t : State), L.after args s (.returned (some (.int 1))) t = true) :
    ArmFor flags0 classFile x code maxLocals ret World_1 tables_1 room_1 Calls_1 rest_1 Pre_1
      (fun tb e a s o t => postC L tb e a s o t ∧ Framed s o t (fieldLocs frame_1_writes a s ++ arrayLocs frame_1_arrays a s ++ staticLocs frame_1_statics s) 600000 7302250) := by
  intro l _ _ _ p e ha hc hk s m args below hf hfit hheap happ hpre
  obtain ⟨k, o, h1, h2, h3, rfl, hF⟩ := lw_comes l p e ha hc hk s m args below hf hfit hheap happ hpre
  exact ⟨k, _, h1, h2, h3, hL args s _, lw_frame hF⟩
theorem i_vc : Claimed_1_1 ∧ Claimed_1_2 := ⟨lw_limb limb_1_1 (fun args s t => by simp [limb_1_1, Cond.after, Cond.holds, Cond.value]), lw_limb limb_1_2 (fun args s t => Cond.after_iff.mpr (by
  first | (rw [show limb_1_2 = Cond.eq .result (.int 1) from rfl, Cond.eq_ints (x := 1) (y := 1) rfl rfl]; simp; done) | (simp [limb_1_2, Cond.value, Term.eval]; done)))⟩
end
