section
-- ===== PART A: goes FIRST, ahead of the names: the tables' words, and 'selects' of the private methods out of them =====
/-- a private method of a class that the tables say can be made, by its rows of tables_1 -/
def lw_okq (q : MethodName × Nat) : Prop := (q.1.cls ≠ "java/lang/invoke/MethodHandle" ∧ q.1.cls ≠ "java/lang/invoke/VarHandle") ∧ Cond.instantiable q.1.cls q.2 ∈ tables_1 ∧ Cond.privateMethod q.1 ∈ tables_1 ∧ Cond.instanceMethod q.1 ∈ tables_1
theorem lw_p0 : lw_okq (⟨"DesignReader", "appendFour", "(I)V"⟩, 7) := ⟨⟨by decide +kernel, by decide +kernel⟩, List.mem_of_getElem? (i := 19) (by decide +kernel), List.mem_of_getElem? (i := 232) (by decide +kernel), List.mem_of_getElem? (i := 233) (by decide +kernel)⟩
theorem lw_p1 : lw_okq (⟨"DesignReader", "isTree", "(I)Z"⟩, 7) := ⟨⟨by decide +kernel, by decide +kernel⟩, List.mem_of_getElem? (i := 19) (by decide +kernel), List.mem_of_getElem? (i := 240) (by decide +kernel), List.mem_of_getElem? (i := 241) (by decide +kernel)⟩
theorem lw_p2 : lw_okq (⟨"DesignReader$Tokens", "behindBlanks", "(I)I"⟩, 7) := ⟨⟨by decide +kernel, by decide +kernel⟩, List.mem_of_getElem? (i := 122) (by decide +kernel), List.mem_of_getElem? (i := 249) (by decide +kernel), List.mem_of_getElem? (i := 250) (by decide +kernel)⟩
theorem lw_p3 : lw_okq (⟨"DesignReader$Tokens", "byteAt", "(I)I"⟩, 7) := ⟨⟨by decide +kernel, by decide +kernel⟩, List.mem_of_getElem? (i := 122) (by decide +kernel), List.mem_of_getElem? (i := 253) (by decide +kernel), List.mem_of_getElem? (i := 254) (by decide +kernel)⟩
theorem lw_p4 : lw_okq (⟨"DesignReader$Tokens", "scanToken", "(I)I"⟩, 7) := ⟨⟨by decide +kernel, by decide +kernel⟩, List.mem_of_getElem? (i := 122) (by decide +kernel), List.mem_of_getElem? (i := 257) (by decide +kernel), List.mem_of_getElem? (i := 258) (by decide +kernel)⟩
theorem lw_p5 : lw_okq (⟨"DesignReader$Tokens", "keep", "(IIII)I"⟩, 7) := ⟨⟨by decide +kernel, by decide +kernel⟩, List.mem_of_getElem? (i := 122) (by decide +kernel), List.mem_of_getElem? (i := 261) (by decide +kernel), List.mem_of_getElem? (i := 262) (by decide +kernel)⟩
theorem lw_p6 : lw_okq (⟨"DesignReader$Tokens", "scanName", "(I)I"⟩, 7) := ⟨⟨by decide +kernel, by decide +kernel⟩, List.mem_of_getElem? (i := 122) (by decide +kernel), List.mem_of_getElem? (i := 268) (by decide +kernel), List.mem_of_getElem? (i := 269) (by decide +kernel)⟩
theorem lw_p7 : lw_okq (⟨"DesignReader$Tokens", "wordOrName", "(II)I"⟩, 7) := ⟨⟨by decide +kernel, by decide +kernel⟩, List.mem_of_getElem? (i := 122) (by decide +kernel), List.mem_of_getElem? (i := 279) (by decide +kernel), List.mem_of_getElem? (i := 280) (by decide +kernel)⟩
theorem lw_p8 : lw_okq (⟨"DesignReader$Tokens", "scanNumber", "(I)I"⟩, 7) := ⟨⟨by decide +kernel, by decide +kernel⟩, List.mem_of_getElem? (i := 122) (by decide +kernel), List.mem_of_getElem? (i := 289) (by decide +kernel), List.mem_of_getElem? (i := 290) (by decide +kernel)⟩
theorem lw_p9 : lw_okq (⟨"DesignReader$Tokens", "scanSign", "(I)I"⟩, 7) := ⟨⟨by decide +kernel, by decide +kernel⟩, List.mem_of_getElem? (i := 122) (by decide +kernel), List.mem_of_getElem? (i := 300) (by decide +kernel), List.mem_of_getElem? (i := 301) (by decide +kernel)⟩
theorem lw_p10 : lw_okq (⟨"DesignReader$Parser", "at", "(I)Z"⟩, 7) := ⟨⟨by decide +kernel, by decide +kernel⟩, List.mem_of_getElem? (i := 151) (by decide +kernel), List.mem_of_getElem? (i := 395) (by decide +kernel), List.mem_of_getElem? (i := 396) (by decide +kernel)⟩
theorem lw_p11 : lw_okq (⟨"DesignReader$Parser", "item", "()Z"⟩, 7) := ⟨⟨by decide +kernel, by decide +kernel⟩, List.mem_of_getElem? (i := 151) (by decide +kernel), List.mem_of_getElem? (i := 403) (by decide +kernel), List.mem_of_getElem? (i := 404) (by decide +kernel)⟩
theorem lw_p12 : lw_okq (⟨"DesignReader$Parser", "addAndStep", "(I)I"⟩, 7) := ⟨⟨by decide +kernel, by decide +kernel⟩, List.mem_of_getElem? (i := 151) (by decide +kernel), List.mem_of_getElem? (i := 407) (by decide +kernel), List.mem_of_getElem? (i := 408) (by decide +kernel)⟩
theorem lw_p13 : lw_okq (⟨"DesignReader$Parser", "takeName", "()Z"⟩, 7) := ⟨⟨by decide +kernel, by decide +kernel⟩, List.mem_of_getElem? (i := 151) (by decide +kernel), List.mem_of_getElem? (i := 420) (by decide +kernel), List.mem_of_getElem? (i := 421) (by decide +kernel)⟩
theorem lw_p14 : lw_okq (⟨"DesignReader$NameTable", "isSpelt", "(I[BII)Z"⟩, 5) := ⟨⟨by decide +kernel, by decide +kernel⟩, List.mem_of_getElem? (i := 94) (by decide +kernel), List.mem_of_getElem? (i := 435) (by decide +kernel), List.mem_of_getElem? (i := 436) (by decide +kernel)⟩
theorem lw_p15 : lw_okq (⟨"DesignReader$Parser", "take", "(I)Z"⟩, 7) := ⟨⟨by decide +kernel, by decide +kernel⟩, List.mem_of_getElem? (i := 151) (by decide +kernel), List.mem_of_getElem? (i := 442) (by decide +kernel), List.mem_of_getElem? (i := 443) (by decide +kernel)⟩
def lw_privs_1 : List (MethodName × Nat) := [(⟨"DesignReader", "appendFour", "(I)V"⟩, 7), (⟨"DesignReader", "isTree", "(I)Z"⟩, 7), (⟨"DesignReader$Tokens", "behindBlanks", "(I)I"⟩, 7), (⟨"DesignReader$Tokens", "byteAt", "(I)I"⟩, 7), (⟨"DesignReader$Tokens", "scanToken", "(I)I"⟩, 7), (⟨"DesignReader$Tokens", "keep", "(IIII)I"⟩, 7), (⟨"DesignReader$Tokens", "scanName", "(I)I"⟩, 7), (⟨"DesignReader$Tokens", "wordOrName", "(II)I"⟩, 7), (⟨"DesignReader$Tokens", "scanNumber", "(I)I"⟩, 7), (⟨"DesignReader$Tokens", "scanSign", "(I)I"⟩, 7), (⟨"DesignReader$Parser", "at", "(I)Z"⟩, 7), (⟨"DesignReader$Parser", "item", "()Z"⟩, 7), (⟨"DesignReader$Parser", "addAndStep", "(I)I"⟩, 7), (⟨"DesignReader$Parser", "takeName", "()Z"⟩, 7), (⟨"DesignReader$NameTable", "isSpelt", "(I[BII)Z"⟩, 5), (⟨"DesignReader$Parser", "take", "(I)Z"⟩, 7)]
theorem lw_r1 : ∀ q ∈ lw_privs_1, lw_okq q := List.forall_mem_cons.mpr ⟨lw_p0, List.forall_mem_cons.mpr ⟨lw_p1, List.forall_mem_cons.mpr ⟨lw_p2, List.forall_mem_cons.mpr ⟨lw_p3, List.forall_mem_cons.mpr ⟨lw_p4, List.forall_mem_cons.mpr ⟨lw_p5, List.forall_mem_cons.mpr ⟨lw_p6, List.forall_mem_cons.mpr ⟨lw_p7, List.forall_mem_cons.mpr ⟨lw_p8, List.forall_mem_cons.mpr ⟨lw_p9, List.forall_mem_cons.mpr ⟨lw_p10, List.forall_mem_cons.mpr ⟨lw_p11, List.forall_mem_cons.mpr ⟨lw_p12, List.forall_mem_cons.mpr ⟨lw_p13, List.forall_mem_cons.mpr ⟨lw_p14, List.forall_mem_cons.mpr ⟨lw_p15, fun _ h => absurd h List.not_mem_nil⟩⟩⟩⟩⟩⟩⟩⟩⟩⟩⟩⟩⟩⟩⟩⟩
theorem lw_p16 : lw_okq (⟨"DesignReader$Parser", "takeNames", "(I)Z"⟩, 7) := ⟨⟨by decide +kernel, by decide +kernel⟩, List.mem_of_getElem? (i := 151) (by decide +kernel), List.mem_of_getElem? (i := 446) (by decide +kernel), List.mem_of_getElem? (i := 447) (by decide +kernel)⟩
theorem lw_p17 : lw_okq (⟨"DesignReader$Parser", "formula", "(IZ)Z"⟩, 7) := ⟨⟨by decide +kernel, by decide +kernel⟩, List.mem_of_getElem? (i := 151) (by decide +kernel), List.mem_of_getElem? (i := 454) (by decide +kernel), List.mem_of_getElem? (i := 455) (by decide +kernel)⟩
theorem lw_p18 : lw_okq (⟨"DesignReader$Parser", "atom", "(I)Z"⟩, 7) := ⟨⟨by decide +kernel, by decide +kernel⟩, List.mem_of_getElem? (i := 151) (by decide +kernel), List.mem_of_getElem? (i := 458) (by decide +kernel), List.mem_of_getElem? (i := 459) (by decide +kernel)⟩
theorem lw_p19 : lw_okq (⟨"DesignReader$Parser", "unary", "(I)Z"⟩, 7) := ⟨⟨by decide +kernel, by decide +kernel⟩, List.mem_of_getElem? (i := 151) (by decide +kernel), List.mem_of_getElem? (i := 462) (by decide +kernel), List.mem_of_getElem? (i := 463) (by decide +kernel)⟩
theorem lw_p20 : lw_okq (⟨"DesignReader$Parser", "signed", "(II)Z"⟩, 7) := ⟨⟨by decide +kernel, by decide +kernel⟩, List.mem_of_getElem? (i := 151) (by decide +kernel), List.mem_of_getElem? (i := 466) (by decide +kernel), List.mem_of_getElem? (i := 467) (by decide +kernel)⟩
theorem lw_p21 : lw_okq (⟨"DesignReader$Parser", "bracketed", "(I)Z"⟩, 7) := ⟨⟨by decide +kernel, by decide +kernel⟩, List.mem_of_getElem? (i := 151) (by decide +kernel), List.mem_of_getElem? (i := 470) (by decide +kernel), List.mem_of_getElem? (i := 471) (by decide +kernel)⟩
theorem lw_p22 : lw_okq (⟨"DesignReader$Parser", "list", "(IZ)Z"⟩, 7) := ⟨⟨by decide +kernel, by decide +kernel⟩, List.mem_of_getElem? (i := 151) (by decide +kernel), List.mem_of_getElem? (i := 474) (by decide +kernel), List.mem_of_getElem? (i := 475) (by decide +kernel)⟩
theorem lw_p23 : lw_okq (⟨"DesignReader$Parser", "named", "(I)Z"⟩, 7) := ⟨⟨by decide +kernel, by decide +kernel⟩, List.mem_of_getElem? (i := 151) (by decide +kernel), List.mem_of_getElem? (i := 478) (by decide +kernel), List.mem_of_getElem? (i := 479) (by decide +kernel)⟩
theorem lw_p24 : lw_okq (⟨"DesignReader$Parser", "worded", "(II)Z"⟩, 7) := ⟨⟨by decide +kernel, by decide +kernel⟩, List.mem_of_getElem? (i := 151) (by decide +kernel), List.mem_of_getElem? (i := 487) (by decide +kernel), List.mem_of_getElem? (i := 488) (by decide +kernel)⟩
theorem lw_p25 : lw_okq (⟨"DesignReader$Parser", "operator", "(Z)I"⟩, 7) := ⟨⟨by decide +kernel, by decide +kernel⟩, List.mem_of_getElem? (i := 151) (by decide +kernel), List.mem_of_getElem? (i := 491) (by decide +kernel), List.mem_of_getElem? (i := 492) (by decide +kernel)⟩
theorem lw_p26 : lw_okq (⟨"DesignReader$Parser", "takeOperator", "(IIII)Z"⟩, 7) := ⟨⟨by decide +kernel, by decide +kernel⟩, List.mem_of_getElem? (i := 151) (by decide +kernel), List.mem_of_getElem? (i := 498) (by decide +kernel), List.mem_of_getElem? (i := 499) (by decide +kernel)⟩
theorem lw_p27 : lw_okq (⟨"DesignReader$Parser", "closeRows", "(II)I"⟩, 7) := ⟨⟨by decide +kernel, by decide +kernel⟩, List.mem_of_getElem? (i := 151) (by decide +kernel), List.mem_of_getElem? (i := 510) (by decide +kernel), List.mem_of_getElem? (i := 511) (by decide +kernel)⟩
theorem lw_p28 : lw_okq (⟨"DesignReader$Parser", "choice", "(II)Z"⟩, 7) := ⟨⟨by decide +kernel, by decide +kernel⟩, List.mem_of_getElem? (i := 151) (by decide +kernel), List.mem_of_getElem? (i := 514) (by decide +kernel), List.mem_of_getElem? (i := 515) (by decide +kernel)⟩
theorem lw_p29 : lw_okq (⟨"DesignReader$Parser", "function", "()Z"⟩, 7) := ⟨⟨by decide +kernel, by decide +kernel⟩, List.mem_of_getElem? (i := 151) (by decide +kernel), List.mem_of_getElem? (i := 518) (by decide +kernel), List.mem_of_getElem? (i := 519) (by decide +kernel)⟩
theorem lw_p30 : lw_okq (⟨"DesignReader$Parser", "addHere", "(I)I"⟩, 7) := ⟨⟨by decide +kernel, by decide +kernel⟩, List.mem_of_getElem? (i := 151) (by decide +kernel), List.mem_of_getElem? (i := 522) (by decide +kernel), List.mem_of_getElem? (i := 523) (by decide +kernel)⟩
theorem lw_p31 : lw_okq (⟨"DesignReader$Parser", "label", "(I)Z"⟩, 7) := ⟨⟨by decide +kernel, by decide +kernel⟩, List.mem_of_getElem? (i := 151) (by decide +kernel), List.mem_of_getElem? (i := 526) (by decide +kernel), List.mem_of_getElem? (i := 527) (by decide +kernel)⟩
def lw_privs_2 : List (MethodName × Nat) := [(⟨"DesignReader$Parser", "takeNames", "(I)Z"⟩, 7), (⟨"DesignReader$Parser", "formula", "(IZ)Z"⟩, 7), (⟨"DesignReader$Parser", "atom", "(I)Z"⟩, 7), (⟨"DesignReader$Parser", "unary", "(I)Z"⟩, 7), (⟨"DesignReader$Parser", "signed", "(II)Z"⟩, 7), (⟨"DesignReader$Parser", "bracketed", "(I)Z"⟩, 7), (⟨"DesignReader$Parser", "list", "(IZ)Z"⟩, 7), (⟨"DesignReader$Parser", "named", "(I)Z"⟩, 7), (⟨"DesignReader$Parser", "worded", "(II)Z"⟩, 7), (⟨"DesignReader$Parser", "operator", "(Z)I"⟩, 7), (⟨"DesignReader$Parser", "takeOperator", "(IIII)Z"⟩, 7), (⟨"DesignReader$Parser", "closeRows", "(II)I"⟩, 7), (⟨"DesignReader$Parser", "choice", "(II)Z"⟩, 7), (⟨"DesignReader$Parser", "function", "()Z"⟩, 7), (⟨"DesignReader$Parser", "addHere", "(I)I"⟩, 7), (⟨"DesignReader$Parser", "label", "(I)Z"⟩, 7)]
theorem lw_r2 : ∀ q ∈ lw_privs_2, lw_okq q := List.forall_mem_cons.mpr ⟨lw_p16, List.forall_mem_cons.mpr ⟨lw_p17, List.forall_mem_cons.mpr ⟨lw_p18, List.forall_mem_cons.mpr ⟨lw_p19, List.forall_mem_cons.mpr ⟨lw_p20, List.forall_mem_cons.mpr ⟨lw_p21, List.forall_mem_cons.mpr ⟨lw_p22, List.forall_mem_cons.mpr ⟨lw_p23, List.forall_mem_cons.mpr ⟨lw_p24, List.forall_mem_cons.mpr ⟨lw_p25, List.forall_mem_cons.mpr ⟨lw_p26, List.forall_mem_cons.mpr ⟨lw_p27, List.forall_mem_cons.mpr ⟨lw_p28, List.forall_mem_cons.mpr ⟨lw_p29, List.forall_mem_cons.mpr ⟨lw_p30, List.forall_mem_cons.mpr ⟨lw_p31, fun _ h => absurd h List.not_mem_nil⟩⟩⟩⟩⟩⟩⟩⟩⟩⟩⟩⟩⟩⟩⟩⟩
theorem lw_p32 : lw_okq (⟨"DesignReader$Parser", "block", "(I)Z"⟩, 7) := ⟨⟨by decide +kernel, by decide +kernel⟩, List.mem_of_getElem? (i := 151) (by decide +kernel), List.mem_of_getElem? (i := 530) (by decide +kernel), List.mem_of_getElem? (i := 531) (by decide +kernel)⟩
theorem lw_p33 : lw_okq (⟨"DesignReader$Parser", "statement", "(I)Z"⟩, 7) := ⟨⟨by decide +kernel, by decide +kernel⟩, List.mem_of_getElem? (i := 151) (by decide +kernel), List.mem_of_getElem? (i := 534) (by decide +kernel), List.mem_of_getElem? (i := 535) (by decide +kernel)⟩
theorem lw_p34 : lw_okq (⟨"DesignReader$Parser", "cases", "(I)Z"⟩, 7) := ⟨⟨by decide +kernel, by decide +kernel⟩, List.mem_of_getElem? (i := 151) (by decide +kernel), List.mem_of_getElem? (i := 538) (by decide +kernel), List.mem_of_getElem? (i := 539) (by decide +kernel)⟩
theorem lw_p35 : lw_okq (⟨"DesignReader$Parser", "oneCase", "(I)Z"⟩, 7) := ⟨⟨by decide +kernel, by decide +kernel⟩, List.mem_of_getElem? (i := 151) (by decide +kernel), List.mem_of_getElem? (i := 542) (by decide +kernel), List.mem_of_getElem? (i := 543) (by decide +kernel)⟩
theorem lw_p36 : lw_okq (⟨"DesignReader", "isNode", "(II)Z"⟩, 7) := ⟨⟨by decide +kernel, by decide +kernel⟩, List.mem_of_getElem? (i := 19) (by decide +kernel), List.mem_of_getElem? (i := 559) (by decide +kernel), List.mem_of_getElem? (i := 560) (by decide +kernel)⟩
theorem lw_p37 : lw_okq (⟨"DesignReader$Writer", "leave", "(LDesignReader$Tree;III)V"⟩, 6) := ⟨⟨by decide +kernel, by decide +kernel⟩, List.mem_of_getElem? (i := 179) (by decide +kernel), List.mem_of_getElem? (i := 595) (by decide +kernel), List.mem_of_getElem? (i := 596) (by decide +kernel)⟩
theorem lw_p38 : lw_okq (⟨"DesignReader$Writer", "putText", "(Ljava/lang/String;)V"⟩, 6) := ⟨⟨by decide +kernel, by decide +kernel⟩, List.mem_of_getElem? (i := 179) (by decide +kernel), List.mem_of_getElem? (i := 607) (by decide +kernel), List.mem_of_getElem? (i := 608) (by decide +kernel)⟩
theorem lw_p39 : lw_okq (⟨"DesignReader$Writer", "keepApartFrom", "(I)V"⟩, 6) := ⟨⟨by decide +kernel, by decide +kernel⟩, List.mem_of_getElem? (i := 179) (by decide +kernel), List.mem_of_getElem? (i := 632) (by decide +kernel), List.mem_of_getElem? (i := 633) (by decide +kernel)⟩
theorem lw_p40 : lw_okq (⟨"DesignReader$Writer", "put", "(I)V"⟩, 6) := ⟨⟨by decide +kernel, by decide +kernel⟩, List.mem_of_getElem? (i := 179) (by decide +kernel), List.mem_of_getElem? (i := 637) (by decide +kernel), List.mem_of_getElem? (i := 638) (by decide +kernel)⟩
theorem lw_p41 : lw_okq (⟨"DesignReader$Writer", "enter", "(LDesignReader$Tree;I)V"⟩, 6) := ⟨⟨by decide +kernel, by decide +kernel⟩, List.mem_of_getElem? (i := 179) (by decide +kernel), List.mem_of_getElem? (i := 676) (by decide +kernel), List.mem_of_getElem? (i := 677) (by decide +kernel)⟩
theorem lw_p42 : lw_okq (⟨"DesignReader$Writer", "putNumber", "(I)V"⟩, 6) := ⟨⟨by decide +kernel, by decide +kernel⟩, List.mem_of_getElem? (i := 179) (by decide +kernel), List.mem_of_getElem? (i := 680) (by decide +kernel), List.mem_of_getElem? (i := 681) (by decide +kernel)⟩
theorem lw_p43 : lw_okq (⟨"DesignReader$Writer", "putName", "(I)V"⟩, 6) := ⟨⟨by decide +kernel, by decide +kernel⟩, List.mem_of_getElem? (i := 179) (by decide +kernel), List.mem_of_getElem? (i := 685) (by decide +kernel), List.mem_of_getElem? (i := 686) (by decide +kernel)⟩
theorem lw_p44 : lw_okq (⟨"DesignReaderModel", "clear", "(I)V"⟩, 32) := ⟨⟨by decide +kernel, by decide +kernel⟩, List.mem_of_getElem? (i := 746) (by decide +kernel), List.mem_of_getElem? (i := 773) (by decide +kernel), List.mem_of_getElem? (i := 774) (by decide +kernel)⟩
theorem lw_p45 : lw_okq (⟨"DesignReaderModel", "add", "(IIIII)I"⟩, 32) := ⟨⟨by decide +kernel, by decide +kernel⟩, List.mem_of_getElem? (i := 746) (by decide +kernel), List.mem_of_getElem? (i := 777) (by decide +kernel), List.mem_of_getElem? (i := 778) (by decide +kernel)⟩
theorem lw_p46 : lw_okq (⟨"DesignReaderModel", "scan", "()V"⟩, 32) := ⟨⟨by decide +kernel, by decide +kernel⟩, List.mem_of_getElem? (i := 746) (by decide +kernel), List.mem_of_getElem? (i := 886) (by decide +kernel), List.mem_of_getElem? (i := 887) (by decide +kernel)⟩
theorem lw_p47 : lw_okq (⟨"DesignReaderModel", "behindBlanks", "(I)I"⟩, 32) := ⟨⟨by decide +kernel, by decide +kernel⟩, List.mem_of_getElem? (i := 746) (by decide +kernel), List.mem_of_getElem? (i := 890) (by decide +kernel), List.mem_of_getElem? (i := 891) (by decide +kernel)⟩
def lw_privs_3 : List (MethodName × Nat) := [(⟨"DesignReader$Parser", "block", "(I)Z"⟩, 7), (⟨"DesignReader$Parser", "statement", "(I)Z"⟩, 7), (⟨"DesignReader$Parser", "cases", "(I)Z"⟩, 7), (⟨"DesignReader$Parser", "oneCase", "(I)Z"⟩, 7), (⟨"DesignReader", "isNode", "(II)Z"⟩, 7), (⟨"DesignReader$Writer", "leave", "(LDesignReader$Tree;III)V"⟩, 6), (⟨"DesignReader$Writer", "putText", "(Ljava/lang/String;)V"⟩, 6), (⟨"DesignReader$Writer", "keepApartFrom", "(I)V"⟩, 6), (⟨"DesignReader$Writer", "put", "(I)V"⟩, 6), (⟨"DesignReader$Writer", "enter", "(LDesignReader$Tree;I)V"⟩, 6), (⟨"DesignReader$Writer", "putNumber", "(I)V"⟩, 6), (⟨"DesignReader$Writer", "putName", "(I)V"⟩, 6), (⟨"DesignReaderModel", "clear", "(I)V"⟩, 32), (⟨"DesignReaderModel", "add", "(IIIII)I"⟩, 32), (⟨"DesignReaderModel", "scan", "()V"⟩, 32), (⟨"DesignReaderModel", "behindBlanks", "(I)I"⟩, 32)]
theorem lw_r3 : ∀ q ∈ lw_privs_3, lw_okq q := List.forall_mem_cons.mpr ⟨lw_p32, List.forall_mem_cons.mpr ⟨lw_p33, List.forall_mem_cons.mpr ⟨lw_p34, List.forall_mem_cons.mpr ⟨lw_p35, List.forall_mem_cons.mpr ⟨lw_p36, List.forall_mem_cons.mpr ⟨lw_p37, List.forall_mem_cons.mpr ⟨lw_p38, List.forall_mem_cons.mpr ⟨lw_p39, List.forall_mem_cons.mpr ⟨lw_p40, List.forall_mem_cons.mpr ⟨lw_p41, List.forall_mem_cons.mpr ⟨lw_p42, List.forall_mem_cons.mpr ⟨lw_p43, List.forall_mem_cons.mpr ⟨lw_p44, List.forall_mem_cons.mpr ⟨lw_p45, List.forall_mem_cons.mpr ⟨lw_p46, List.forall_mem_cons.mpr ⟨lw_p47, fun _ h => absurd h List.not_mem_nil⟩⟩⟩⟩⟩⟩⟩⟩⟩⟩⟩⟩⟩⟩⟩⟩
theorem lw_p48 : lw_okq (⟨"DesignReaderModel", "isAt", "(III)Z"⟩, 32) := ⟨⟨by decide +kernel, by decide +kernel⟩, List.mem_of_getElem? (i := 746) (by decide +kernel), List.mem_of_getElem? (i := 894) (by decide +kernel), List.mem_of_getElem? (i := 895) (by decide +kernel)⟩
theorem lw_p49 : lw_okq (⟨"DesignReaderModel", "isWord", "(I)Z"⟩, 32) := ⟨⟨by decide +kernel, by decide +kernel⟩, List.mem_of_getElem? (i := 746) (by decide +kernel), List.mem_of_getElem? (i := 901) (by decide +kernel), List.mem_of_getElem? (i := 902) (by decide +kernel)⟩
theorem lw_p50 : lw_okq (⟨"DesignReaderModel", "wordOf", "(II)I"⟩, 32) := ⟨⟨by decide +kernel, by decide +kernel⟩, List.mem_of_getElem? (i := 746) (by decide +kernel), List.mem_of_getElem? (i := 908) (by decide +kernel), List.mem_of_getElem? (i := 909) (by decide +kernel)⟩
theorem lw_p51 : lw_okq (⟨"DesignReaderModel", "isNumber", "(II)Z"⟩, 32) := ⟨⟨by decide +kernel, by decide +kernel⟩, List.mem_of_getElem? (i := 746) (by decide +kernel), List.mem_of_getElem? (i := 914) (by decide +kernel), List.mem_of_getElem? (i := 915) (by decide +kernel)⟩
theorem lw_p52 : lw_okq (⟨"DesignReaderModel", "look", "()I"⟩, 32) := ⟨⟨by decide +kernel, by decide +kernel⟩, List.mem_of_getElem? (i := 746) (by decide +kernel), List.mem_of_getElem? (i := 924) (by decide +kernel), List.mem_of_getElem? (i := 925) (by decide +kernel)⟩
theorem lw_p53 : lw_okq (⟨"DesignReaderModel", "item", "()I"⟩, 32) := ⟨⟨by decide +kernel, by decide +kernel⟩, List.mem_of_getElem? (i := 746) (by decide +kernel), List.mem_of_getElem? (i := 928) (by decide +kernel), List.mem_of_getElem? (i := 929) (by decide +kernel)⟩
theorem lw_p54 : lw_okq (⟨"DesignReaderModel", "here", "()I"⟩, 32) := ⟨⟨by decide +kernel, by decide +kernel⟩, List.mem_of_getElem? (i := 746) (by decide +kernel), List.mem_of_getElem? (i := 932) (by decide +kernel), List.mem_of_getElem? (i := 933) (by decide +kernel)⟩
theorem lw_p55 : lw_okq (⟨"DesignReaderModel", "need", "(Z)V"⟩, 32) := ⟨⟨by decide +kernel, by decide +kernel⟩, List.mem_of_getElem? (i := 746) (by decide +kernel), List.mem_of_getElem? (i := 936) (by decide +kernel), List.mem_of_getElem? (i := 937) (by decide +kernel)⟩
theorem lw_p56 : lw_okq (⟨"DesignReaderModel", "draft", "(III)I"⟩, 32) := ⟨⟨by decide +kernel, by decide +kernel⟩, List.mem_of_getElem? (i := 746) (by decide +kernel), List.mem_of_getElem? (i := 940) (by decide +kernel), List.mem_of_getElem? (i := 941) (by decide +kernel)⟩
theorem lw_p57 : lw_okq (⟨"DesignReaderModel", "take", "(I)V"⟩, 32) := ⟨⟨by decide +kernel, by decide +kernel⟩, List.mem_of_getElem? (i := 746) (by decide +kernel), List.mem_of_getElem? (i := 944) (by decide +kernel), List.mem_of_getElem? (i := 945) (by decide +kernel)⟩
theorem lw_p58 : lw_okq (⟨"DesignReaderModel", "block", "(I)I"⟩, 32) := ⟨⟨by decide +kernel, by decide +kernel⟩, List.mem_of_getElem? (i := 746) (by decide +kernel), List.mem_of_getElem? (i := 948) (by decide +kernel), List.mem_of_getElem? (i := 949) (by decide +kernel)⟩
theorem lw_p59 : lw_okq (⟨"DesignReaderModel", "deep", "(I)V"⟩, 32) := ⟨⟨by decide +kernel, by decide +kernel⟩, List.mem_of_getElem? (i := 746) (by decide +kernel), List.mem_of_getElem? (i := 952) (by decide +kernel), List.mem_of_getElem? (i := 953) (by decide +kernel)⟩
theorem lw_p60 : lw_okq (⟨"DesignReaderModel", "statement", "(I)I"⟩, 32) := ⟨⟨by decide +kernel, by decide +kernel⟩, List.mem_of_getElem? (i := 746) (by decide +kernel), List.mem_of_getElem? (i := 956) (by decide +kernel), List.mem_of_getElem? (i := 957) (by decide +kernel)⟩
theorem lw_p61 : lw_okq (⟨"DesignReaderModel", "name", "()I"⟩, 32) := ⟨⟨by decide +kernel, by decide +kernel⟩, List.mem_of_getElem? (i := 746) (by decide +kernel), List.mem_of_getElem? (i := 960) (by decide +kernel), List.mem_of_getElem? (i := 961) (by decide +kernel)⟩
theorem lw_p62 : lw_okq (⟨"DesignReaderModel", "join", "(II)V"⟩, 32) := ⟨⟨by decide +kernel, by decide +kernel⟩, List.mem_of_getElem? (i := 746) (by decide +kernel), List.mem_of_getElem? (i := 964) (by decide +kernel), List.mem_of_getElem? (i := 965) (by decide +kernel)⟩
theorem lw_p63 : lw_okq (⟨"DesignReaderModel", "expr", "(I)I"⟩, 32) := ⟨⟨by decide +kernel, by decide +kernel⟩, List.mem_of_getElem? (i := 746) (by decide +kernel), List.mem_of_getElem? (i := 968) (by decide +kernel), List.mem_of_getElem? (i := 969) (by decide +kernel)⟩
def lw_privs_4 : List (MethodName × Nat) := [(⟨"DesignReaderModel", "isAt", "(III)Z"⟩, 32), (⟨"DesignReaderModel", "isWord", "(I)Z"⟩, 32), (⟨"DesignReaderModel", "wordOf", "(II)I"⟩, 32), (⟨"DesignReaderModel", "isNumber", "(II)Z"⟩, 32), (⟨"DesignReaderModel", "look", "()I"⟩, 32), (⟨"DesignReaderModel", "item", "()I"⟩, 32), (⟨"DesignReaderModel", "here", "()I"⟩, 32), (⟨"DesignReaderModel", "need", "(Z)V"⟩, 32), (⟨"DesignReaderModel", "draft", "(III)I"⟩, 32), (⟨"DesignReaderModel", "take", "(I)V"⟩, 32), (⟨"DesignReaderModel", "block", "(I)I"⟩, 32), (⟨"DesignReaderModel", "deep", "(I)V"⟩, 32), (⟨"DesignReaderModel", "statement", "(I)I"⟩, 32), (⟨"DesignReaderModel", "name", "()I"⟩, 32), (⟨"DesignReaderModel", "join", "(II)V"⟩, 32), (⟨"DesignReaderModel", "expr", "(I)I"⟩, 32)]
theorem lw_r4 : ∀ q ∈ lw_privs_4, lw_okq q := List.forall_mem_cons.mpr ⟨lw_p48, List.forall_mem_cons.mpr ⟨lw_p49, List.forall_mem_cons.mpr ⟨lw_p50, List.forall_mem_cons.mpr ⟨lw_p51, List.forall_mem_cons.mpr ⟨lw_p52, List.forall_mem_cons.mpr ⟨lw_p53, List.forall_mem_cons.mpr ⟨lw_p54, List.forall_mem_cons.mpr ⟨lw_p55, List.forall_mem_cons.mpr ⟨lw_p56, List.forall_mem_cons.mpr ⟨lw_p57, List.forall_mem_cons.mpr ⟨lw_p58, List.forall_mem_cons.mpr ⟨lw_p59, List.forall_mem_cons.mpr ⟨lw_p60, List.forall_mem_cons.mpr ⟨lw_p61, List.forall_mem_cons.mpr ⟨lw_p62, List.forall_mem_cons.mpr ⟨lw_p63, fun _ h => absurd h List.not_mem_nil⟩⟩⟩⟩⟩⟩⟩⟩⟩⟩⟩⟩⟩⟩⟩⟩
theorem lw_p64 : lw_okq (⟨"DesignReaderModel", "row", "(IIZ)I"⟩, 32) := ⟨⟨by decide +kernel, by decide +kernel⟩, List.mem_of_getElem? (i := 746) (by decide +kernel), List.mem_of_getElem? (i := 972) (by decide +kernel), List.mem_of_getElem? (i := 973) (by decide +kernel)⟩
theorem lw_p65 : lw_okq (⟨"DesignReaderModel", "atom", "(I)I"⟩, 32) := ⟨⟨by decide +kernel, by decide +kernel⟩, List.mem_of_getElem? (i := 746) (by decide +kernel), List.mem_of_getElem? (i := 976) (by decide +kernel), List.mem_of_getElem? (i := 977) (by decide +kernel)⟩
theorem lw_p66 : lw_okq (⟨"DesignReaderModel", "number", "()I"⟩, 32) := ⟨⟨by decide +kernel, by decide +kernel⟩, List.mem_of_getElem? (i := 746) (by decide +kernel), List.mem_of_getElem? (i := 980) (by decide +kernel), List.mem_of_getElem? (i := 981) (by decide +kernel)⟩
theorem lw_p67 : lw_okq (⟨"DesignReaderModel", "sum", "(I)I"⟩, 32) := ⟨⟨by decide +kernel, by decide +kernel⟩, List.mem_of_getElem? (i := 746) (by decide +kernel), List.mem_of_getElem? (i := 984) (by decide +kernel), List.mem_of_getElem? (i := 985) (by decide +kernel)⟩
theorem lw_p68 : lw_okq (⟨"DesignReaderModel", "unary", "(I)I"⟩, 32) := ⟨⟨by decide +kernel, by decide +kernel⟩, List.mem_of_getElem? (i := 746) (by decide +kernel), List.mem_of_getElem? (i := 988) (by decide +kernel), List.mem_of_getElem? (i := 989) (by decide +kernel)⟩
theorem lw_p69 : lw_okq (⟨"DesignReaderModel", "exprs", "(II)V"⟩, 32) := ⟨⟨by decide +kernel, by decide +kernel⟩, List.mem_of_getElem? (i := 746) (by decide +kernel), List.mem_of_getElem? (i := 992) (by decide +kernel), List.mem_of_getElem? (i := 993) (by decide +kernel)⟩
theorem lw_p70 : lw_okq (⟨"DesignReaderModel", "named", "(I)I"⟩, 32) := ⟨⟨by decide +kernel, by decide +kernel⟩, List.mem_of_getElem? (i := 746) (by decide +kernel), List.mem_of_getElem? (i := 996) (by decide +kernel), List.mem_of_getElem? (i := 997) (by decide +kernel)⟩
theorem lw_p71 : lw_okq (⟨"DesignReaderModel", "call", "(IIII)I"⟩, 32) := ⟨⟨by decide +kernel, by decide +kernel⟩, List.mem_of_getElem? (i := 746) (by decide +kernel), List.mem_of_getElem? (i := 1000) (by decide +kernel), List.mem_of_getElem? (i := 1001) (by decide +kernel)⟩
theorem lw_p72 : lw_okq (⟨"DesignReaderModel", "namesUpTo", "(I)V"⟩, 32) := ⟨⟨by decide +kernel, by decide +kernel⟩, List.mem_of_getElem? (i := 746) (by decide +kernel), List.mem_of_getElem? (i := 1007) (by decide +kernel), List.mem_of_getElem? (i := 1008) (by decide +kernel)⟩
theorem lw_p73 : lw_okq (⟨"DesignReaderModel", "function", "(I)V"⟩, 32) := ⟨⟨by decide +kernel, by decide +kernel⟩, List.mem_of_getElem? (i := 746) (by decide +kernel), List.mem_of_getElem? (i := 1011) (by decide +kernel), List.mem_of_getElem? (i := 1012) (by decide +kernel)⟩
theorem lw_p74 : lw_okq (⟨"DesignReaderModel", "parameter", "(I)V"⟩, 32) := ⟨⟨by decide +kernel, by decide +kernel⟩, List.mem_of_getElem? (i := 746) (by decide +kernel), List.mem_of_getElem? (i := 1015) (by decide +kernel), List.mem_of_getElem? (i := 1016) (by decide +kernel)⟩
theorem lw_p75 : lw_okq (⟨"DesignReaderModel", "width", "(I)V"⟩, 32) := ⟨⟨by decide +kernel, by decide +kernel⟩, List.mem_of_getElem? (i := 746) (by decide +kernel), List.mem_of_getElem? (i := 1019) (by decide +kernel), List.mem_of_getElem? (i := 1020) (by decide +kernel)⟩
theorem lw_p76 : lw_okq (⟨"DesignReaderModel", "label", "(I)I"⟩, 32) := ⟨⟨by decide +kernel, by decide +kernel⟩, List.mem_of_getElem? (i := 746) (by decide +kernel), List.mem_of_getElem? (i := 1023) (by decide +kernel), List.mem_of_getElem? (i := 1024) (by decide +kernel)⟩
theorem lw_p77 : lw_okq (⟨"DesignReaderModel", "keep", "(II)V"⟩, 32) := ⟨⟨by decide +kernel, by decide +kernel⟩, List.mem_of_getElem? (i := 746) (by decide +kernel), List.mem_of_getElem? (i := 1027) (by decide +kernel), List.mem_of_getElem? (i := 1028) (by decide +kernel)⟩
theorem lw_p78 : lw_okq (⟨"DesignReaderModel", "nameOf", "(I)I"⟩, 32) := ⟨⟨by decide +kernel, by decide +kernel⟩, List.mem_of_getElem? (i := 746) (by decide +kernel), List.mem_of_getElem? (i := 1031) (by decide +kernel), List.mem_of_getElem? (i := 1032) (by decide +kernel)⟩
theorem lw_p79 : lw_okq (⟨"DesignReaderModel", "has", "(II)Z"⟩, 32) := ⟨⟨by decide +kernel, by decide +kernel⟩, List.mem_of_getElem? (i := 746) (by decide +kernel), List.mem_of_getElem? (i := 1047) (by decide +kernel), List.mem_of_getElem? (i := 1048) (by decide +kernel)⟩
def lw_privs_5 : List (MethodName × Nat) := [(⟨"DesignReaderModel", "row", "(IIZ)I"⟩, 32), (⟨"DesignReaderModel", "atom", "(I)I"⟩, 32), (⟨"DesignReaderModel", "number", "()I"⟩, 32), (⟨"DesignReaderModel", "sum", "(I)I"⟩, 32), (⟨"DesignReaderModel", "unary", "(I)I"⟩, 32), (⟨"DesignReaderModel", "exprs", "(II)V"⟩, 32), (⟨"DesignReaderModel", "named", "(I)I"⟩, 32), (⟨"DesignReaderModel", "call", "(IIII)I"⟩, 32), (⟨"DesignReaderModel", "namesUpTo", "(I)V"⟩, 32), (⟨"DesignReaderModel", "function", "(I)V"⟩, 32), (⟨"DesignReaderModel", "parameter", "(I)V"⟩, 32), (⟨"DesignReaderModel", "width", "(I)V"⟩, 32), (⟨"DesignReaderModel", "label", "(I)I"⟩, 32), (⟨"DesignReaderModel", "keep", "(II)V"⟩, 32), (⟨"DesignReaderModel", "nameOf", "(I)I"⟩, 32), (⟨"DesignReaderModel", "has", "(II)Z"⟩, 32)]
theorem lw_r5 : ∀ q ∈ lw_privs_5, lw_okq q := List.forall_mem_cons.mpr ⟨lw_p64, List.forall_mem_cons.mpr ⟨lw_p65, List.forall_mem_cons.mpr ⟨lw_p66, List.forall_mem_cons.mpr ⟨lw_p67, List.forall_mem_cons.mpr ⟨lw_p68, List.forall_mem_cons.mpr ⟨lw_p69, List.forall_mem_cons.mpr ⟨lw_p70, List.forall_mem_cons.mpr ⟨lw_p71, List.forall_mem_cons.mpr ⟨lw_p72, List.forall_mem_cons.mpr ⟨lw_p73, List.forall_mem_cons.mpr ⟨lw_p74, List.forall_mem_cons.mpr ⟨lw_p75, List.forall_mem_cons.mpr ⟨lw_p76, List.forall_mem_cons.mpr ⟨lw_p77, List.forall_mem_cons.mpr ⟨lw_p78, List.forall_mem_cons.mpr ⟨lw_p79, fun _ h => absurd h List.not_mem_nil⟩⟩⟩⟩⟩⟩⟩⟩⟩⟩⟩⟩⟩⟩⟩⟩
theorem lw_p80 : lw_okq (⟨"DesignReaderModel", "parts", "(II)I"⟩, 32) := ⟨⟨by decide +kernel, by decide +kernel⟩, List.mem_of_getElem? (i := 746) (by decide +kernel), List.mem_of_getElem? (i := 1055) (by decide +kernel), List.mem_of_getElem? (i := 1056) (by decide +kernel)⟩
theorem lw_p81 : lw_okq (⟨"DesignReaderModel", "show", "(II)V"⟩, 32) := ⟨⟨by decide +kernel, by decide +kernel⟩, List.mem_of_getElem? (i := 746) (by decide +kernel), List.mem_of_getElem? (i := 1079) (by decide +kernel), List.mem_of_getElem? (i := 1080) (by decide +kernel)⟩
theorem lw_p82 : lw_okq (⟨"DesignReaderModel", "kindAt", "(II)I"⟩, 32) := ⟨⟨by decide +kernel, by decide +kernel⟩, List.mem_of_getElem? (i := 746) (by decide +kernel), List.mem_of_getElem? (i := 1083) (by decide +kernel), List.mem_of_getElem? (i := 1084) (by decide +kernel)⟩
theorem lw_p83 : lw_okq (⟨"DesignReaderModel", "behind", "(II)I"⟩, 32) := ⟨⟨by decide +kernel, by decide +kernel⟩, List.mem_of_getElem? (i := 746) (by decide +kernel), List.mem_of_getElem? (i := 1087) (by decide +kernel), List.mem_of_getElem? (i := 1088) (by decide +kernel)⟩
theorem lw_p84 : lw_okq (⟨"DesignReaderModel", "begin", "(I)V"⟩, 32) := ⟨⟨by decide +kernel, by decide +kernel⟩, List.mem_of_getElem? (i := 746) (by decide +kernel), List.mem_of_getElem? (i := 1091) (by decide +kernel), List.mem_of_getElem? (i := 1092) (by decide +kernel)⟩
theorem lw_p85 : lw_okq (⟨"DesignReaderModel", "put", "(I)V"⟩, 32) := ⟨⟨by decide +kernel, by decide +kernel⟩, List.mem_of_getElem? (i := 746) (by decide +kernel), List.mem_of_getElem? (i := 1098) (by decide +kernel), List.mem_of_getElem? (i := 1099) (by decide +kernel)⟩
theorem lw_p86 : lw_okq (⟨"DesignReaderModel", "commas", "(III)V"⟩, 32) := ⟨⟨by decide +kernel, by decide +kernel⟩, List.mem_of_getElem? (i := 746) (by decide +kernel), List.mem_of_getElem? (i := 1102) (by decide +kernel), List.mem_of_getElem? (i := 1103) (by decide +kernel)⟩
theorem lw_p87 : lw_okq (⟨"DesignReaderModel", "width", "(II)V"⟩, 32) := ⟨⟨by decide +kernel, by decide +kernel⟩, List.mem_of_getElem? (i := 746) (by decide +kernel), List.mem_of_getElem? (i := 1106) (by decide +kernel), List.mem_of_getElem? (i := 1107) (by decide +kernel)⟩
theorem lw_p88 : lw_okq (⟨"DesignReaderModel", "items", "(III)V"⟩, 32) := ⟨⟨by decide +kernel, by decide +kernel⟩, List.mem_of_getElem? (i := 746) (by decide +kernel), List.mem_of_getElem? (i := 1110) (by decide +kernel), List.mem_of_getElem? (i := 1111) (by decide +kernel)⟩
theorem lw_p89 : lw_okq (⟨"DesignReaderModel", "text", "(Ljava/lang/String;)V"⟩, 32) := ⟨⟨by decide +kernel, by decide +kernel⟩, List.mem_of_getElem? (i := 746) (by decide +kernel), List.mem_of_getElem? (i := 1114) (by decide +kernel), List.mem_of_getElem? (i := 1115) (by decide +kernel)⟩
theorem lw_p90 : lw_okq (⟨"DesignReaderModel", "showFunction", "(III)V"⟩, 32) := ⟨⟨by decide +kernel, by decide +kernel⟩, List.mem_of_getElem? (i := 746) (by decide +kernel), List.mem_of_getElem? (i := 1118) (by decide +kernel), List.mem_of_getElem? (i := 1119) (by decide +kernel)⟩
theorem lw_p91 : lw_okq (⟨"DesignReaderModel", "statements", "(III)V"⟩, 32) := ⟨⟨by decide +kernel, by decide +kernel⟩, List.mem_of_getElem? (i := 746) (by decide +kernel), List.mem_of_getElem? (i := 1122) (by decide +kernel), List.mem_of_getElem? (i := 1123) (by decide +kernel)⟩
theorem lw_p92 : lw_okq (⟨"DesignReaderModel", "labels", "(III)V"⟩, 32) := ⟨⟨by decide +kernel, by decide +kernel⟩, List.mem_of_getElem? (i := 746) (by decide +kernel), List.mem_of_getElem? (i := 1127) (by decide +kernel), List.mem_of_getElem? (i := 1128) (by decide +kernel)⟩
theorem lw_p93 : lw_okq (⟨"DesignReaderModel", "sayNumber", "(I)V"⟩, 32) := ⟨⟨by decide +kernel, by decide +kernel⟩, List.mem_of_getElem? (i := 746) (by decide +kernel), List.mem_of_getElem? (i := 1132) (by decide +kernel), List.mem_of_getElem? (i := 1133) (by decide +kernel)⟩
theorem lw_p94 : lw_okq (⟨"DesignReaderModel", "sayName", "(I)V"⟩, 32) := ⟨⟨by decide +kernel, by decide +kernel⟩, List.mem_of_getElem? (i := 746) (by decide +kernel), List.mem_of_getElem? (i := 1137) (by decide +kernel), List.mem_of_getElem? (i := 1138) (by decide +kernel)⟩
theorem lw_p95 : lw_okq (⟨"DesignReaderModel", "showExpr", "(III)V"⟩, 32) := ⟨⟨by decide +kernel, by decide +kernel⟩, List.mem_of_getElem? (i := 746) (by decide +kernel), List.mem_of_getElem? (i := 1141) (by decide +kernel), List.mem_of_getElem? (i := 1142) (by decide +kernel)⟩
def lw_privs_6 : List (MethodName × Nat) := [(⟨"DesignReaderModel", "parts", "(II)I"⟩, 32), (⟨"DesignReaderModel", "show", "(II)V"⟩, 32), (⟨"DesignReaderModel", "kindAt", "(II)I"⟩, 32), (⟨"DesignReaderModel", "behind", "(II)I"⟩, 32), (⟨"DesignReaderModel", "begin", "(I)V"⟩, 32), (⟨"DesignReaderModel", "put", "(I)V"⟩, 32), (⟨"DesignReaderModel", "commas", "(III)V"⟩, 32), (⟨"DesignReaderModel", "width", "(II)V"⟩, 32), (⟨"DesignReaderModel", "items", "(III)V"⟩, 32), (⟨"DesignReaderModel", "text", "(Ljava/lang/String;)V"⟩, 32), (⟨"DesignReaderModel", "showFunction", "(III)V"⟩, 32), (⟨"DesignReaderModel", "statements", "(III)V"⟩, 32), (⟨"DesignReaderModel", "labels", "(III)V"⟩, 32), (⟨"DesignReaderModel", "sayNumber", "(I)V"⟩, 32), (⟨"DesignReaderModel", "sayName", "(I)V"⟩, 32), (⟨"DesignReaderModel", "showExpr", "(III)V"⟩, 32)]
theorem lw_r6 : ∀ q ∈ lw_privs_6, lw_okq q := List.forall_mem_cons.mpr ⟨lw_p80, List.forall_mem_cons.mpr ⟨lw_p81, List.forall_mem_cons.mpr ⟨lw_p82, List.forall_mem_cons.mpr ⟨lw_p83, List.forall_mem_cons.mpr ⟨lw_p84, List.forall_mem_cons.mpr ⟨lw_p85, List.forall_mem_cons.mpr ⟨lw_p86, List.forall_mem_cons.mpr ⟨lw_p87, List.forall_mem_cons.mpr ⟨lw_p88, List.forall_mem_cons.mpr ⟨lw_p89, List.forall_mem_cons.mpr ⟨lw_p90, List.forall_mem_cons.mpr ⟨lw_p91, List.forall_mem_cons.mpr ⟨lw_p92, List.forall_mem_cons.mpr ⟨lw_p93, List.forall_mem_cons.mpr ⟨lw_p94, List.forall_mem_cons.mpr ⟨lw_p95, fun _ h => absurd h List.not_mem_nil⟩⟩⟩⟩⟩⟩⟩⟩⟩⟩⟩⟩⟩⟩⟩⟩
theorem lw_p96 : lw_okq (⟨"DesignReaderModel", "bindingOf", "(II)I"⟩, 32) := ⟨⟨by decide +kernel, by decide +kernel⟩, List.mem_of_getElem? (i := 746) (by decide +kernel), List.mem_of_getElem? (i := 1145) (by decide +kernel), List.mem_of_getElem? (i := 1146) (by decide +kernel)⟩
theorem lw_p97 : lw_okq (⟨"DesignReaderModel", "inside", "(III)V"⟩, 32) := ⟨⟨by decide +kernel, by decide +kernel⟩, List.mem_of_getElem? (i := 746) (by decide +kernel), List.mem_of_getElem? (i := 1152) (by decide +kernel), List.mem_of_getElem? (i := 1153) (by decide +kernel)⟩
def lw_privs_7 : List (MethodName × Nat) := [(⟨"DesignReaderModel", "bindingOf", "(II)I"⟩, 32), (⟨"DesignReaderModel", "inside", "(III)V"⟩, 32)]
theorem lw_r7 : ∀ q ∈ lw_privs_7, lw_okq q := List.forall_mem_cons.mpr ⟨lw_p96, List.forall_mem_cons.mpr ⟨lw_p97, fun _ h => absurd h List.not_mem_nil⟩⟩
def lw_privs : List (MethodName × Nat) := lw_privs_1 ++ (lw_privs_2 ++ (lw_privs_3 ++ (lw_privs_4 ++ (lw_privs_5 ++ (lw_privs_6 ++ (lw_privs_7))))))
def lw_tbl : List Cond := k2_sels lw_privs ++ tables_1
theorem lw_privs_ok : ∀ q ∈ lw_privs, lw_okq q := by
  show ∀ q ∈ lw_privs_1 ++ (lw_privs_2 ++ (lw_privs_3 ++ (lw_privs_4 ++ (lw_privs_5 ++ (lw_privs_6 ++ (lw_privs_7)))))), lw_okq q
  exact List.forall_mem_append.mpr ⟨lw_r1, List.forall_mem_append.mpr ⟨lw_r2, List.forall_mem_append.mpr ⟨lw_r3, List.forall_mem_append.mpr ⟨lw_r4, List.forall_mem_append.mpr ⟨lw_r5, List.forall_mem_append.mpr ⟨lw_r6, lw_r7⟩⟩⟩⟩⟩⟩
-- ===== end of PART A; then your names; then what follows =====
end
section
/-! THE ABSTRACT MACHINE, 1: values by cell numbers, locals as a list, the state of all cells as two functions -/
/-- a local of which nothing is known -/
def zu : Value := .retAddr 0
def zknown : Value → Bool
  | .retAddr _ => false
  | _ => true
/-- a value of the abstract machine (its references are cell numbers) as one of the machine -/
def zcv (ad : Nat → Nat) : Value → Value
  | .int x => .int x
  | .long x => .long x
  | .float x => .float x
  | .double x => .double x
  | .null => .null
  | .ref i => .ref (ad i)
  | .retAddr k => .retAddr k
theorem zcv_cat (ad : Nat → Nat) (v : Value) : (zcv ad v).category = v.category := by cases v <;> rfl
/-- the known locals, with their places -/
def zlv (ad : Nat → Nat) : Nat → List Value → List (Nat × Value)
  | _, [] => []
  | i, v :: r => if zknown v = true then (i, zcv ad v) :: zlv ad (i + 1) r else zlv ad (i + 1) r
theorem zlv_mem {ad : Nat → Nat} {q : Nat × Value} : ∀ {lv : List Value} {i : Nat}, q ∈ zlv ad i lv ↔ ∃ (j : Nat) (v : Value), lv[j]? = some v ∧ zknown v = true ∧ q = (i + j, zcv ad v) := by
  intro lv
  induction lv with
  | nil => intro i; simp [zlv]
  | cons a r ih =>
    intro i
    have hs : (∃ (j : Nat) (v : Value), (a :: r)[j]? = some v ∧ zknown v = true ∧ q = (i + j, zcv ad v)) ↔ (zknown a = true ∧ q = (i, zcv ad a)) ∨ ∃ (j : Nat) (v : Value), r[j]? = some v ∧ zknown v = true ∧ q = (i + 1 + j, zcv ad v) := by
      constructor
      · rintro ⟨j, v, h1, h2, h3⟩
        cases j with
        | zero => simp at h1; subst h1; exact Or.inl ⟨h2, by simpa using h3⟩
        | succ j => simp at h1; exact Or.inr ⟨j, v, h1, h2, by rw [h3]; congr 1; omega⟩
      · rintro (⟨h1, h2⟩ | ⟨j, v, h1, h2, h3⟩)
        · exact ⟨0, a, by simp, h1, by simpa using h2⟩
        · exact ⟨j + 1, v, by simpa using h1, h2, by rw [h3]; congr 1; omega⟩
    rw [hs]
    unfold zlv
    by_cases ha : zknown a = true
    · rw [if_pos ha, List.mem_cons, ih]
      constructor
      · rintro (h | h)
        · exact Or.inl ⟨ha, h⟩
        · exact Or.inr h
      · rintro (⟨-, h⟩ | h)
        · exact Or.inl h
        · exact Or.inr h
    · rw [if_neg ha, ih]
      constructor
      · intro h
        exact Or.inr h
      · rintro (⟨h, -⟩ | h)
        · exact absurd h ha
        · exact h
theorem zl_at {ad : Nat → Nat} {ls : Array Slot} {nL j : Nat} {lv : List Value} {v : Value} (h : lv_has ls nL (zlv ad 0 lv)) (hj : lv[j]? = some v) (hk : zknown v = true) : ls[j]? = some (.val (zcv ad v)) :=
  h.2.2 (j, zcv ad v) (zlv_mem.mpr ⟨j, v, hj, hk, by simp⟩)
/-- forget a long that stands right before place i -/
def zcutAt (lv : List Value) (j : Nat) : List Value := match lv[j]? with
  | some (.long _) => lv.set j zu
  | some (.double _) => lv.set j zu
  | _ => lv
def zcut (lv : List Value) : Nat → List Value
  | 0 => lv
  | j + 1 => zcutAt lv j
def zset (lv : List Value) (i : Nat) (v : Value) : List Value := (zcut lv i).set i v
def zset2 (lv : List Value) (i : Nat) (v : Value) : List Value := (zset lv i v).set (i + 1) zu
theorem zcut_len (lv : List Value) (i : Nat) : (zcut lv i).length = lv.length := by
  cases i with
  | zero => rfl
  | succ j => show (zcutAt lv j).length = _; unfold zcutAt; split <;> simp
theorem zset_len (lv : List Value) (i : Nat) (v : Value) : (zset lv i v).length = lv.length := by simp [zset, zcut_len]
theorem zset2_len (lv : List Value) (i : Nat) (v : Value) : (zset2 lv i v).length = lv.length := by simp [zset2, zset_len]
theorem zcut_get {lv : List Value} {i j : Nat} {w : Value} (h : (zcut lv i)[j]? = some w) (hk : zknown w = true) : lv[j]? = some w ∧ ¬ (j + 1 = i ∧ w.category = 2) := by
  cases i with
  | zero => exact ⟨h, fun q => absurd q.1 (by omega)⟩
  | succ k =>
    replace h : (zcutAt lv k)[j]? = some w := h
    unfold zcutAt at h
    by_cases hjk : j = k
    · subst hjk
      split at h
      · rw [List.getElem?_set_self' ] at h
        cases hq : lv[j]? with
        | none => rw [hq] at h; cases h
        | some x => rw [hq] at h; cases h; cases hk
      · rw [List.getElem?_set_self' ] at h
        cases hq : lv[j]? with
        | none => rw [hq] at h; cases h
        | some x => rw [hq] at h; cases h; cases hk
      · rename_i h1 h2
        refine ⟨h, fun q => ?_⟩
        cases w with
        | long x => exact h1 x h
        | double x => exact h2 x h
        | _ => exact absurd q.2 (by simp [Value.category])
    · have e : lv[j]? = some w := by
        split at h
        · rwa [List.getElem?_set_ne (fun q => hjk q.symm)] at h
        · rwa [List.getElem?_set_ne (fun q => hjk q.symm)] at h
        · exact h
      exact ⟨e, fun q => hjk (by omega)⟩
theorem zl_set1 {ad : Nat → Nat} {ls : Array Slot} {nL i : Nat} {lv : List Value} {v : Value} (hi : i < lv.length)
    (h : lv_has ls nL ((i, zcv ad v) :: (zlv ad 0 lv).filter (fun q => !(q.1 == i) && !(q.1 + 1 == i && q.2.category == 2)))) : lv_has ls nL (zlv ad 0 (zset lv i v)) := by
  refine ⟨h.1, h.2.1, fun q hq => ?_⟩
  obtain ⟨j, w, hj, hk, rfl⟩ := zlv_mem.mp hq
  rw [Nat.zero_add]
  by_cases hji : j = i
  · subst hji
    rw [zset, List.getElem?_set_self (by rw [zcut_len]; exact hi)] at hj
    cases hj
    exact h.2.2 _ List.mem_cons_self
  · rw [zset, List.getElem?_set_ne (fun q => hji q.symm)] at hj
    obtain ⟨h1, h2⟩ := zcut_get hj hk
    refine h.2.2 _ (List.mem_cons_of_mem _ (List.mem_filter.mpr ⟨zlv_mem.mpr ⟨j, w, h1, hk, by simp⟩, ?_⟩))
    rw [zcv_cat]
    simp only [Bool.and_eq_true, Bool.not_eq_true', beq_eq_false_iff_ne, ne_eq, Bool.and_eq_false_iff]
    refine ⟨hji, ?_⟩
    by_cases q : j + 1 = i
    · exact Or.inr (fun z => h2 ⟨q, z⟩)
    · exact Or.inl q
theorem zl_set2 {ad : Nat → Nat} {ls : Array Slot} {nL i : Nat} {lv : List Value} {v : Value} (hi : i < lv.length)
    (h : lv_has ls nL ((i, zcv ad v) :: (zlv ad 0 lv).filter (fun q => !(q.1 == i) && (!(q.1 == i + 1) && !(q.1 + 1 == i && q.2.category == 2))))) : lv_has ls nL (zlv ad 0 (zset2 lv i v)) := by
  refine ⟨h.1, h.2.1, fun q hq => ?_⟩
  obtain ⟨j, w, hj, hk, rfl⟩ := zlv_mem.mp hq
  rw [Nat.zero_add]
  by_cases hj1 : j = i + 1
  · subst hj1
    rw [zset2, List.getElem?_set_self'] at hj
    cases hq : (zset lv i v)[i + 1]? with
    | none => rw [hq] at hj; cases hj
    | some x => rw [hq] at hj; cases hj; cases hk
  rw [zset2, List.getElem?_set_ne (fun q => hj1 q.symm)] at hj
  by_cases hji : j = i
  · subst hji
    rw [zset, List.getElem?_set_self (by rw [zcut_len]; exact hi)] at hj
    cases hj
    exact h.2.2 _ List.mem_cons_self
  · rw [zset, List.getElem?_set_ne (fun q => hji q.symm)] at hj
    obtain ⟨h1, h2⟩ := zcut_get hj hk
    refine h.2.2 _ (List.mem_cons_of_mem _ (List.mem_filter.mpr ⟨zlv_mem.mpr ⟨j, w, h1, hk, by simp⟩, ?_⟩))
    rw [zcv_cat]
    simp only [Bool.and_eq_true, Bool.not_eq_true', beq_eq_false_iff_ne, ne_eq, Bool.and_eq_false_iff]
    refine ⟨hji, hj1, ?_⟩
    by_cases q : j + 1 = i
    · exact Or.inr (fun z => h2 ⟨q, z⟩)
    · exact Or.inl q
/-- forget the locals at some places -/
def zfg : List Nat → List Value → List Value
  | [], lv => lv
  | i :: r, lv => zfg r (lv.set i zu)
theorem zfg_len : ∀ (is : List Nat) (lv : List Value), (zfg is lv).length = lv.length
  | [], _ => rfl
  | i :: r, lv => by rw [zfg, zfg_len r]; simp
theorem zfg_get : ∀ (is : List Nat) (lv : List Value) (j : Nat) (w : Value), (zfg is lv)[j]? = some w → zknown w = true → lv[j]? = some w
  | [], _, _, _, h, _ => h
  | i :: r, lv, j, w, h, hk => by
    have h1 := zfg_get r (lv.set i zu) j w h hk
    by_cases hj : j = i
    · subst hj
      rw [List.getElem?_set_self'] at h1
      cases hq : lv[j]? with
      | none => rw [hq] at h1; cases h1
      | some x => rw [hq] at h1; cases h1; cases hk
    · rwa [List.getElem?_set_ne (fun q => hj q.symm)] at h1
theorem zl_fg {ad : Nat → Nat} {ls : Array Slot} {nL : Nat} {lv : List Value} (is : List Nat) (h : lv_has ls nL (zlv ad 0 lv)) : lv_has ls nL (zlv ad 0 (zfg is lv)) := by
  refine ⟨h.1, h.2.1, fun q hq => ?_⟩
  obtain ⟨j, w, hj, hk, rfl⟩ := zlv_mem.mp hq
  rw [Nat.zero_add]
  exact zl_at h (zfg_get is lv j w hj hk) hk
/-- arguments as locals: a long takes two places -/
def zargs : List Value → List Value
  | [] => []
  | v :: r => if v.category = 2 then v :: zu :: zargs r else v :: zargs r
def zlocals (n : Nat) (as : List Value) : List Value := zargs as ++ List.replicate (n - (zargs as).length) zu
theorem zlv_args (ad : Nat → Nat) : ∀ (as : List Value) (i : Nat) (q : Nat × Value), q ∈ zlv ad i (zargs as) → q ∈ lv_args i (as.map (zcv ad)) := by
  intro as
  induction as with
  | nil => intro i q h; simp [zargs, zlv] at h
  | cons v r ih =>
    intro i q h
    by_cases hc : v.category = 2
    · have hk : zknown v = true := by cases v <;> first | rfl | (exact absurd hc (by simp [Value.category]))
      have e : zlv ad i (zargs (v :: r)) = (i, zcv ad v) :: zlv ad (i + 2) (zargs r) := by
        have hz : zlv ad (i + 1) (zu :: zargs r) = zlv ad (i + 2) (zargs r) := by
          show (if zknown zu = true then _ else _) = _
          exact if_neg (by decide)
        rw [zargs, if_pos hc, zlv, if_pos hk, hz]
      rw [e] at h
      simp only [List.map_cons, lv_args, zcv_cat, hc, if_true]
      rcases List.mem_cons.mp h with rfl | h
      · exact List.mem_cons_self
      · exact List.mem_cons_of_mem _ (ih _ _ h)
    · simp only [List.map_cons, lv_args, zcv_cat, hc, if_false]
      rw [zargs, if_neg hc, zlv] at h
      by_cases hk : zknown v = true
      · rw [if_pos hk] at h
        rcases List.mem_cons.mp h with rfl | h
        · exact List.mem_cons_self
        · exact List.mem_cons_of_mem _ (ih _ _ h)
      · rw [if_neg hk] at h
        exact List.mem_cons_of_mem _ (ih _ _ h)
theorem zargs_len (ad : Nat → Nat) : ∀ as : List Value, (lg_sl (as.map (zcv ad))).length = (zargs as).length := by
  intro as
  induction as with
  | nil => rfl
  | cons v r ih =>
    by_cases hc : v.category = 2
    · simp [lg_sl, zargs, zcv_cat, hc] at ih ⊢
      omega
    · simp [lg_sl, zargs, zcv_cat, hc] at ih ⊢
      omega
theorem zl_entry {ad : Nat → Nat} {n : Nat} (as : List Value) (h : (zargs as).length ≤ n) : lv_has ((lg_sl (as.map (zcv ad)) ++ List.replicate (n - (lg_sl (as.map (zcv ad))).length) Slot.unset).toArray) n (zlv ad 0 (zlocals n as)) := by
  have h0 := lv_entry (as.map (zcv ad)) (n := n) (by rw [zargs_len]; exact h)
  refine ⟨h0.1, h0.2.1, fun q hq => h0.2.2 q (zlv_args ad as 0 q ?_)⟩
  obtain ⟨j, w, hj, hk, rfl⟩ := zlv_mem.mp hq
  refine zlv_mem.mpr ⟨j, w, ?_, hk, rfl⟩
  unfold zlocals at hj
  by_cases hl : j < (zargs as).length
  · rwa [List.getElem?_append_left hl] at hj
  · rw [List.getElem?_append_right (by omega)] at hj
    have := List.eq_of_mem_replicate (List.mem_of_getElem? hj)
    subst this
    cases hk
theorem zlocals_len {n : Nat} {as : List Value} (h : (zargs as).length ≤ n) : (zlocals n as).length = n := by
  simp [zlocals]
  omega
end
section
/-! THE ABSTRACT MACHINE, 2: the cells that were made, by their numbers, and the world that they stand for -/
/-- a cell: an object (which class, its fields), an array of numbers (which type, how long, what it holds), an array of references (which type, which cells) -/
abbrev zC : Type := (Nat × List Value) ⊕ ((Nat × Nat × (Nat → Int32)) ⊕ (Nat × List (Option Nat)))
abbrev zS : Type := List zC
def zcc (cA : Nat → ClassId) (ad : Nat → Nat) : zC → va_E
  | .inl (ci, fs) => .inr (ci, fs.map (zcv ad))
  | .inr (.inl (t, n, f)) => .inl (cA t, n, .inl f)
  | .inr (.inr (t, rs)) => .inl (cA t, rs.length, .inr (.inr (.inr (.inr (fun j => (rs.getD j none).map ad)))))
def zw (cA : Nat → ClassId) (ad : Nat → Nat) (st : zS) : va_W := st.mapIdx (fun i c => (ad i, zcc cA ad c))
/-- numbers from 500 on are those of constants -/
def zsc (n : Nat) : Value → Bool
  | .ref i => decide (i < n) || decide (500 ≤ i)
  | _ => true
def zsO (n : Nat) : Option Nat → Bool
  | some i => decide (i < n) || decide (500 ≤ i)
  | none => true
def zscC (n : Nat) : zC → Bool
  | .inl (_, fs) => fs.all (zsc n)
  | .inr (.inl _) => true
  | .inr (.inr (_, rs)) => rs.all (zsO n)
def zag (n : Nat) (ad ad' : Nat → Nat) : Prop := ∀ i, i < n ∨ 500 ≤ i → ad' i = ad i
section ZW
variable {cA : Nat → ClassId} {ad ad' : Nat → Nat} {st : zS} {n : Nat}
theorem zag.rf : zag n ad ad := fun _ _ => rfl
theorem zag.tr {ad'' : Nat → Nat} {n' : Nat} (h : zag n ad ad') (h' : zag n' ad' ad'') (hn : n ≤ n') : zag n ad ad'' := fun i hi => (h' i (hi.elim (fun q => Or.inl (by omega)) Or.inr)).trans (h i hi)
theorem zag.lo {n' : Nat} (h : zag n ad ad') (hn : n' ≤ n) : zag n' ad ad' := fun i hi => h i (hi.elim (fun q => Or.inl (by omega)) Or.inr)
theorem zcv_ag {v : Value} (h : zag n ad ad') (hv : zsc n v = true) : zcv ad' v = zcv ad v := by
  cases v with
  | ref i =>
    simp only [zsc, Bool.or_eq_true, decide_eq_true_eq] at hv
    simp only [zcv, h i hv]
  | _ => rfl
theorem zmap_ag {l : List Value} (h : zag n ad ad') (hv : l.all (zsc n) = true) : l.map (zcv ad') = l.map (zcv ad) := by
  apply List.map_congr_left
  intro v hm
  exact zcv_ag h (List.all_eq_true.mp hv v hm)
theorem zcc_ag {c : zC} (h : zag n ad ad') (hv : zscC n c = true) : zcc cA ad' c = zcc cA ad c := by
  obtain ⟨ci, fs⟩ | ⟨t, k, f⟩ | ⟨t, rs⟩ := c
  · simp only [zcc]
    rw [zmap_ag h hv]
  · rfl
  · simp only [zcc]
    congr 7
    funext j
    cases hj : rs[j]? with
    | none => simp [List.getD, hj]
    | some r =>
      cases r with
      | none => simp [List.getD, hj]
      | some i =>
        have := List.all_eq_true.mp hv (some i) (List.mem_of_getElem? hj)
        simp only [zsO, Bool.or_eq_true, decide_eq_true_eq] at this
        simp [List.getD, hj, h i this]
theorem zw_get (i : Nat) : (zw cA ad st)[i]? = (st[i]?).map (fun c => (ad i, zcc cA ad c)) := by
  simp [zw]
theorem zw_at {i : Nat} {c : zC} (h : st[i]? = some c) : (zw cA ad st)[i]? = some (ad i, zcc cA ad c) := by
  rw [zw_get, h]
  rfl
theorem zw_of {i : Nat} {q : Nat × va_E} (h : (zw cA ad st)[i]? = some q) : i < st.length ∧ q.1 = ad i := by
  rw [zw_get] at h
  cases hs : st[i]? with
  | none => rw [hs] at h; cases h
  | some c => rw [hs] at h; cases h; exact ⟨(List.getElem?_eq_some_iff.mp hs).1, rfl⟩
theorem zw_set {i : Nat} {c : zC} : (zw cA ad st).set i (ad i, zcc cA ad c) = zw cA ad (st.set i c) := by
  apply List.ext_getElem?
  intro j
  rw [zw_get]
  by_cases hj : j = i
  · subst hj
    rw [List.getElem?_set_self', List.getElem?_set_self', zw_get]
    cases st[j]? <;> rfl
  · rw [List.getElem?_set_ne (fun q => hj q.symm), List.getElem?_set_ne (fun q => hj q.symm), zw_get]
theorem zw_push {c : zC} : zw cA ad (st ++ [c]) = zw cA ad st ++ [(ad st.length, zcc cA ad c)] := by
  simp [zw, List.mapIdx_append]
theorem zw_ag (h : zag n ad ad') (hs : st.all (zscC n) = true) (hn : st.length ≤ n) : zw cA ad' st = zw cA ad st := by
  apply List.ext_getElem?
  intro i
  rw [zw_get, zw_get]
  cases hi : st[i]? with
  | none => rfl
  | some c =>
    have hl : i < st.length := (List.getElem?_eq_some_iff.mp hi).1
    simp only [Option.map_some]
    rw [h i (Or.inl (by omega)), zcc_ag h (List.all_eq_true.mp hs c (List.mem_of_getElem? hi))]
end ZW
end
