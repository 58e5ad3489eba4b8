-- ===== PART A: goes FIRST, ahead of the names: the tables' words, and 'selects' of the private methods out of them =====
/-- a private method of a class that the tables say can be made, by its rows of tables_1 -/
def lw_okq (q : MethodName × Nat) : Prop := (q.1.cls ≠ "java/lang/invoke/MethodHandle" ∧ q.1.cls ≠ "java/lang/invoke/VarHandle") ∧ Cond.instantiable q.1.cls q.2 ∈ tables_1 ∧ Cond.privateMethod q.1 ∈ tables_1 ∧ Cond.instanceMethod q.1 ∈ tables_1
theorem lw_p0 : lw_okq (⟨"TermShelf", "tapeNumber", "(I)V"⟩, 16) := ⟨⟨by decide +kernel, by decide +kernel⟩, List.mem_of_getElem? (i := 22) (by decide +kernel), List.mem_of_getElem? (i := 399) (by decide +kernel), List.mem_of_getElem? (i := 400) (by decide +kernel)⟩
theorem lw_p1 : lw_okq (⟨"TermShelf$Reader", "begin", "([II)V"⟩, 5) := ⟨⟨by decide +kernel, by decide +kernel⟩, List.mem_of_getElem? (i := 106) (by decide +kernel), List.mem_of_getElem? (i := 411) (by decide +kernel), List.mem_of_getElem? (i := 412) (by decide +kernel)⟩
theorem lw_p2 : lw_okq (⟨"TermShelf$Tokens", "takeToken", "([III)I"⟩, 8) := ⟨⟨by decide +kernel, by decide +kernel⟩, List.mem_of_getElem? (i := 112) (by decide +kernel), List.mem_of_getElem? (i := 422) (by decide +kernel), List.mem_of_getElem? (i := 423) (by decide +kernel)⟩
theorem lw_p3 : lw_okq (⟨"TermShelf$Tokens", "takeWord", "([III)I"⟩, 8) := ⟨⟨by decide +kernel, by decide +kernel⟩, List.mem_of_getElem? (i := 112) (by decide +kernel), List.mem_of_getElem? (i := 429) (by decide +kernel), List.mem_of_getElem? (i := 430) (by decide +kernel)⟩
theorem lw_p4 : lw_okq (⟨"TermShelf$Tokens", "append", "(III)V"⟩, 8) := ⟨⟨by decide +kernel, by decide +kernel⟩, List.mem_of_getElem? (i := 112) (by decide +kernel), List.mem_of_getElem? (i := 436) (by decide +kernel), List.mem_of_getElem? (i := 437) (by decide +kernel)⟩
theorem lw_p5 : lw_okq (⟨"TermShelf$Tokens", "takeNumber", "([III)I"⟩, 8) := ⟨⟨by decide +kernel, by decide +kernel⟩, List.mem_of_getElem? (i := 112) (by decide +kernel), List.mem_of_getElem? (i := 443) (by decide +kernel), List.mem_of_getElem? (i := 444) (by decide +kernel)⟩
theorem lw_p6 : lw_okq (⟨"TermShelf$Reader", "readLine", "(LTermShelf$Book;)Z"⟩, 5) := ⟨⟨by decide +kernel, by decide +kernel⟩, List.mem_of_getElem? (i := 106) (by decide +kernel), List.mem_of_getElem? (i := 461) (by decide +kernel), List.mem_of_getElem? (i := 462) (by decide +kernel)⟩
theorem lw_p7 : lw_okq (⟨"TermShelf$Reader", "readSign", "(LTermShelf$Book;)Z"⟩, 5) := ⟨⟨by decide +kernel, by decide +kernel⟩, List.mem_of_getElem? (i := 106) (by decide +kernel), List.mem_of_getElem? (i := 465) (by decide +kernel), List.mem_of_getElem? (i := 466) (by decide +kernel)⟩
theorem lw_p8 : lw_okq (⟨"TermShelf$Reader", "fail", "(I)Z"⟩, 5) := ⟨⟨by decide +kernel, by decide +kernel⟩, List.mem_of_getElem? (i := 106) (by decide +kernel), List.mem_of_getElem? (i := 469) (by decide +kernel), List.mem_of_getElem? (i := 470) (by decide +kernel)⟩
theorem lw_p9 : lw_okq (⟨"TermShelf$Reader", "passNewName", "(I)Z"⟩, 5) := ⟨⟨by decide +kernel, by decide +kernel⟩, List.mem_of_getElem? (i := 106) (by decide +kernel), List.mem_of_getElem? (i := 481) (by decide +kernel), List.mem_of_getElem? (i := 482) (by decide +kernel)⟩
theorem lw_p10 : lw_okq (⟨"TermShelf$Reader", "pass", "(I)Z"⟩, 5) := ⟨⟨by decide +kernel, by decide +kernel⟩, List.mem_of_getElem? (i := 106) (by decide +kernel), List.mem_of_getElem? (i := 485) (by decide +kernel), List.mem_of_getElem? (i := 486) (by decide +kernel)⟩
theorem lw_p11 : lw_okq (⟨"TermShelf$Reader", "readVariable", "(LTermShelf$Book;)Z"⟩, 5) := ⟨⟨by decide +kernel, by decide +kernel⟩, List.mem_of_getElem? (i := 106) (by decide +kernel), List.mem_of_getElem? (i := 493) (by decide +kernel), List.mem_of_getElem? (i := 494) (by decide +kernel)⟩
theorem lw_p12 : lw_okq (⟨"TermShelf$Reader", "readRule", "(LTermShelf$Book;)Z"⟩, 5) := ⟨⟨by decide +kernel, by decide +kernel⟩, List.mem_of_getElem? (i := 106) (by decide +kernel), List.mem_of_getElem? (i := 501) (by decide +kernel), List.mem_of_getElem? (i := 502) (by decide +kernel)⟩
theorem lw_p13 : lw_okq (⟨"TermShelf$Reader", "readTerm", "(LTermShelf$Book;LTermShelf$Term;LTermShelf$Term;Z)Z"⟩, 5) := ⟨⟨by decide +kernel, by decide +kernel⟩, List.mem_of_getElem? (i := 106) (by decide +kernel), List.mem_of_getElem? (i := 521) (by decide +kernel), List.mem_of_getElem? (i := 522) (by decide +kernel)⟩
theorem lw_p14 : lw_okq (⟨"TermShelf$Reader", "readPlace", "(LTermShelf$Book;LTermShelf$Term;LTermShelf$Term;Z)Z"⟩, 5) := ⟨⟨by decide +kernel, by decide +kernel⟩, List.mem_of_getElem? (i := 106) (by decide +kernel), List.mem_of_getElem? (i := 525) (by decide +kernel), List.mem_of_getElem? (i := 526) (by decide +kernel)⟩
theorem lw_p15 : lw_okq (⟨"TermShelf$Reader", "closeBrackets", "(LTermShelf$Term;)Z"⟩, 5) := ⟨⟨by decide +kernel, by decide +kernel⟩, List.mem_of_getElem? (i := 106) (by decide +kernel), List.mem_of_getElem? (i := 545) (by decide +kernel), List.mem_of_getElem? (i := 546) (by decide +kernel)⟩
def lw_privs_1 : List (MethodName × Nat) := [(⟨"TermShelf", "tapeNumber", "(I)V"⟩, 16), (⟨"TermShelf$Reader", "begin", "([II)V"⟩, 5), (⟨"TermShelf$Tokens", "takeToken", "([III)I"⟩, 8), (⟨"TermShelf$Tokens", "takeWord", "([III)I"⟩, 8), (⟨"TermShelf$Tokens", "append", "(III)V"⟩, 8), (⟨"TermShelf$Tokens", "takeNumber", "([III)I"⟩, 8), (⟨"TermShelf$Reader", "readLine", "(LTermShelf$Book;)Z"⟩, 5), (⟨"TermShelf$Reader", "readSign", "(LTermShelf$Book;)Z"⟩, 5), (⟨"TermShelf$Reader", "fail", "(I)Z"⟩, 5), (⟨"TermShelf$Reader", "passNewName", "(I)Z"⟩, 5), (⟨"TermShelf$Reader", "pass", "(I)Z"⟩, 5), (⟨"TermShelf$Reader", "readVariable", "(LTermShelf$Book;)Z"⟩, 5), (⟨"TermShelf$Reader", "readRule", "(LTermShelf$Book;)Z"⟩, 5), (⟨"TermShelf$Reader", "readTerm", "(LTermShelf$Book;LTermShelf$Term;LTermShelf$Term;Z)Z"⟩, 5), (⟨"TermShelf$Reader", "readPlace", "(LTermShelf$Book;LTermShelf$Term;LTermShelf$Term;Z)Z"⟩, 5), (⟨"TermShelf$Reader", "closeBrackets", "(LTermShelf$Term;)Z"⟩, 5)]
theorem lw_r1 : ∀ q ∈ lw_privs_1, lw_okq q := List.forall_mem_cons.mpr ⟨lw_p0, List.forall_mem_cons.mpr ⟨lw_p1, List.forall_mem_cons.mpr ⟨lw_p2, List.forall_mem_cons.mpr ⟨lw_p3, List.forall_mem_cons.mpr ⟨lw_p4, List.forall_mem_cons.mpr ⟨lw_p5, List.forall_mem_cons.mpr ⟨lw_p6, List.forall_mem_cons.mpr ⟨lw_p7, List.forall_mem_cons.mpr ⟨lw_p8, List.forall_mem_cons.mpr ⟨lw_p9, List.forall_mem_cons.mpr ⟨lw_p10, List.forall_mem_cons.mpr ⟨lw_p11, List.forall_mem_cons.mpr ⟨lw_p12, List.forall_mem_cons.mpr ⟨lw_p13, List.forall_mem_cons.mpr ⟨lw_p14, List.forall_mem_cons.mpr ⟨lw_p15, fun _ h => absurd h List.not_mem_nil⟩⟩⟩⟩⟩⟩⟩⟩⟩⟩⟩⟩⟩⟩⟩⟩
theorem lw_p16 : lw_okq (⟨"TermShelf$Reader", "openBracket", "(I)Z"⟩, 5) := ⟨⟨by decide +kernel, by decide +kernel⟩, List.mem_of_getElem? (i := 106) (by decide +kernel), List.mem_of_getElem? (i := 553) (by decide +kernel), List.mem_of_getElem? (i := 554) (by decide +kernel)⟩
theorem lw_p17 : lw_okq (⟨"TermShelf$Tree", "insert", "(ILTermShelf$Term;)V"⟩, 7) := ⟨⟨by decide +kernel, by decide +kernel⟩, List.mem_of_getElem? (i := 188) (by decide +kernel), List.mem_of_getElem? (i := 578) (by decide +kernel), List.mem_of_getElem? (i := 579) (by decide +kernel)⟩
theorem lw_p18 : lw_okq (⟨"TermShelf$Tree", "termAt", "(I)LTermShelf$Term;"⟩, 7) := ⟨⟨by decide +kernel, by decide +kernel⟩, List.mem_of_getElem? (i := 188) (by decide +kernel), List.mem_of_getElem? (i := 595) (by decide +kernel), List.mem_of_getElem? (i := 596) (by decide +kernel)⟩
theorem lw_p19 : lw_okq (⟨"TermShelf", "askSpareTerm", "()V"⟩, 16) := ⟨⟨by decide +kernel, by decide +kernel⟩, List.mem_of_getElem? (i := 22) (by decide +kernel), List.mem_of_getElem? (i := 608) (by decide +kernel), List.mem_of_getElem? (i := 609) (by decide +kernel)⟩
theorem lw_p20 : lw_okq (⟨"TermShelf", "turnedNodes", "(I)I"⟩, 16) := ⟨⟨by decide +kernel, by decide +kernel⟩, List.mem_of_getElem? (i := 22) (by decide +kernel), List.mem_of_getElem? (i := 653) (by decide +kernel), List.mem_of_getElem? (i := 654) (by decide +kernel)⟩
theorem lw_p21 : lw_okq (⟨"TermShelf$Tree", "bringsNode", "(II)Z"⟩, 7) := ⟨⟨by decide +kernel, by decide +kernel⟩, List.mem_of_getElem? (i := 188) (by decide +kernel), List.mem_of_getElem? (i := 665) (by decide +kernel), List.mem_of_getElem? (i := 666) (by decide +kernel)⟩
theorem lw_p22 : lw_okq (⟨"TermShelf$Standing", "forgetFirst", "()V"⟩, 5) := ⟨⟨by decide +kernel, by decide +kernel⟩, List.mem_of_getElem? (i := 164) (by decide +kernel), List.mem_of_getElem? (i := 673) (by decide +kernel), List.mem_of_getElem? (i := 674) (by decide +kernel)⟩
theorem lw_p23 : lw_okq (⟨"TermShelf", "fitsTerms", "(ILTermShelf$Term;LTermShelf$Term;)Z"⟩, 16) := ⟨⟨by decide +kernel, by decide +kernel⟩, List.mem_of_getElem? (i := 22) (by decide +kernel), List.mem_of_getElem? (i := 688) (by decide +kernel), List.mem_of_getElem? (i := 689) (by decide +kernel)⟩
theorem lw_p24 : lw_okq (⟨"TermShelf$Matcher", "fill", "(ILTermShelf$Term;I)Z"⟩, 1) := ⟨⟨by decide +kernel, by decide +kernel⟩, List.mem_of_getElem? (i := 221) (by decide +kernel), List.mem_of_getElem? (i := 697) (by decide +kernel), List.mem_of_getElem? (i := 698) (by decide +kernel)⟩
theorem lw_p25 : lw_okq (⟨"TermShelf$Unifier", "load", "(LTermShelf$Term;)V"⟩, 15) := ⟨⟨by decide +kernel, by decide +kernel⟩, List.mem_of_getElem? (i := 231) (by decide +kernel), List.mem_of_getElem? (i := 712) (by decide +kernel), List.mem_of_getElem? (i := 713) (by decide +kernel)⟩
theorem lw_p26 : lw_okq (⟨"TermShelf$Unifier", "uniteAll", "()Z"⟩, 15) := ⟨⟨by decide +kernel, by decide +kernel⟩, List.mem_of_getElem? (i := 231) (by decide +kernel), List.mem_of_getElem? (i := 719) (by decide +kernel), List.mem_of_getElem? (i := 720) (by decide +kernel)⟩
theorem lw_p27 : lw_okq (⟨"TermShelf$Unifier", "classOf", "(I)I"⟩, 15) := ⟨⟨by decide +kernel, by decide +kernel⟩, List.mem_of_getElem? (i := 231) (by decide +kernel), List.mem_of_getElem? (i := 723) (by decide +kernel), List.mem_of_getElem? (i := 724) (by decide +kernel)⟩
theorem lw_p28 : lw_okq (⟨"TermShelf$Unifier", "isNode", "(I)Z"⟩, 15) := ⟨⟨by decide +kernel, by decide +kernel⟩, List.mem_of_getElem? (i := 231) (by decide +kernel), List.mem_of_getElem? (i := 727) (by decide +kernel), List.mem_of_getElem? (i := 728) (by decide +kernel)⟩
theorem lw_p29 : lw_okq (⟨"TermShelf$Unifier", "unite", "(II)Z"⟩, 15) := ⟨⟨by decide +kernel, by decide +kernel⟩, List.mem_of_getElem? (i := 231) (by decide +kernel), List.mem_of_getElem? (i := 731) (by decide +kernel), List.mem_of_getElem? (i := 732) (by decide +kernel)⟩
theorem lw_p30 : lw_okq (⟨"TermShelf$Unifier", "pairArguments", "(II)V"⟩, 15) := ⟨⟨by decide +kernel, by decide +kernel⟩, List.mem_of_getElem? (i := 231) (by decide +kernel), List.mem_of_getElem? (i := 735) (by decide +kernel), List.mem_of_getElem? (i := 736) (by decide +kernel)⟩
theorem lw_p31 : lw_okq (⟨"TermShelf$Unifier", "hasNoCircle", "()Z"⟩, 15) := ⟨⟨by decide +kernel, by decide +kernel⟩, List.mem_of_getElem? (i := 231) (by decide +kernel), List.mem_of_getElem? (i := 739) (by decide +kernel), List.mem_of_getElem? (i := 740) (by decide +kernel)⟩
def lw_privs_2 : List (MethodName × Nat) := [(⟨"TermShelf$Reader", "openBracket", "(I)Z"⟩, 5), (⟨"TermShelf$Tree", "insert", "(ILTermShelf$Term;)V"⟩, 7), (⟨"TermShelf$Tree", "termAt", "(I)LTermShelf$Term;"⟩, 7), (⟨"TermShelf", "askSpareTerm", "()V"⟩, 16), (⟨"TermShelf", "turnedNodes", "(I)I"⟩, 16), (⟨"TermShelf$Tree", "bringsNode", "(II)Z"⟩, 7), (⟨"TermShelf$Standing", "forgetFirst", "()V"⟩, 5), (⟨"TermShelf", "fitsTerms", "(ILTermShelf$Term;LTermShelf$Term;)Z"⟩, 16), (⟨"TermShelf$Matcher", "fill", "(ILTermShelf$Term;I)Z"⟩, 1), (⟨"TermShelf$Unifier", "load", "(LTermShelf$Term;)V"⟩, 15), (⟨"TermShelf$Unifier", "uniteAll", "()Z"⟩, 15), (⟨"TermShelf$Unifier", "classOf", "(I)I"⟩, 15), (⟨"TermShelf$Unifier", "isNode", "(I)Z"⟩, 15), (⟨"TermShelf$Unifier", "unite", "(II)Z"⟩, 15), (⟨"TermShelf$Unifier", "pairArguments", "(II)V"⟩, 15), (⟨"TermShelf$Unifier", "hasNoCircle", "()Z"⟩, 15)]
theorem lw_r2 : ∀ q ∈ lw_privs_2, lw_okq q := List.forall_mem_cons.mpr ⟨lw_p16, List.forall_mem_cons.mpr ⟨lw_p17, List.forall_mem_cons.mpr ⟨lw_p18, List.forall_mem_cons.mpr ⟨lw_p19, List.forall_mem_cons.mpr ⟨lw_p20, List.forall_mem_cons.mpr ⟨lw_p21, List.forall_mem_cons.mpr ⟨lw_p22, List.forall_mem_cons.mpr ⟨lw_p23, List.forall_mem_cons.mpr ⟨lw_p24, List.forall_mem_cons.mpr ⟨lw_p25, List.forall_mem_cons.mpr ⟨lw_p26, List.forall_mem_cons.mpr ⟨lw_p27, List.forall_mem_cons.mpr ⟨lw_p28, List.forall_mem_cons.mpr ⟨lw_p29, List.forall_mem_cons.mpr ⟨lw_p30, List.forall_mem_cons.mpr ⟨lw_p31, fun _ h => absurd h List.not_mem_nil⟩⟩⟩⟩⟩⟩⟩⟩⟩⟩⟩⟩⟩⟩⟩⟩
theorem lw_p32 : lw_okq (⟨"TermShelf$Unifier", "settleMore", "()I"⟩, 15) := ⟨⟨by decide +kernel, by decide +kernel⟩, List.mem_of_getElem? (i := 231) (by decide +kernel), List.mem_of_getElem? (i := 743) (by decide +kernel), List.mem_of_getElem? (i := 744) (by decide +kernel)⟩
theorem lw_p33 : lw_okq (⟨"TermShelf$Unifier", "isSettling", "(I)Z"⟩, 15) := ⟨⟨by decide +kernel, by decide +kernel⟩, List.mem_of_getElem? (i := 231) (by decide +kernel), List.mem_of_getElem? (i := 747) (by decide +kernel), List.mem_of_getElem? (i := 748) (by decide +kernel)⟩
theorem lw_p34 : lw_okq (⟨"TermShelf", "fitBits", "(ILTermShelf$Term;I)I"⟩, 16) := ⟨⟨by decide +kernel, by decide +kernel⟩, List.mem_of_getElem? (i := 22) (by decide +kernel), List.mem_of_getElem? (i := 766) (by decide +kernel), List.mem_of_getElem? (i := 767) (by decide +kernel)⟩
theorem lw_p35 : lw_okq (⟨"TermShelf$Tree", "walkPath", "(IILTermShelf$Term;)Z"⟩, 7) := ⟨⟨by decide +kernel, by decide +kernel⟩, List.mem_of_getElem? (i := 188) (by decide +kernel), List.mem_of_getElem? (i := 781) (by decide +kernel), List.mem_of_getElem? (i := 782) (by decide +kernel)⟩
theorem lw_p36 : lw_okq (⟨"TermShelf", "isAskedRule", "(I)Z"⟩, 16) := ⟨⟨by decide +kernel, by decide +kernel⟩, List.mem_of_getElem? (i := 22) (by decide +kernel), List.mem_of_getElem? (i := 791) (by decide +kernel), List.mem_of_getElem? (i := 792) (by decide +kernel)⟩
theorem lw_p37 : lw_okq (⟨"TermShelf$Unifier", "writeClass", "(I)V"⟩, 15) := ⟨⟨by decide +kernel, by decide +kernel⟩, List.mem_of_getElem? (i := 231) (by decide +kernel), List.mem_of_getElem? (i := 808) (by decide +kernel), List.mem_of_getElem? (i := 809) (by decide +kernel)⟩
theorem lw_p38 : lw_okq (⟨"TermShelf$Unifier", "awaitArguments", "(I)V"⟩, 15) := ⟨⟨by decide +kernel, by decide +kernel⟩, List.mem_of_getElem? (i := 231) (by decide +kernel), List.mem_of_getElem? (i := 813) (by decide +kernel), List.mem_of_getElem? (i := 814) (by decide +kernel)⟩
theorem lw_p39 : lw_okq (⟨"TermShelf", "aboveBits", "(I)I"⟩, 16) := ⟨⟨by decide +kernel, by decide +kernel⟩, List.mem_of_getElem? (i := 22) (by decide +kernel), List.mem_of_getElem? (i := 821) (by decide +kernel), List.mem_of_getElem? (i := 822) (by decide +kernel)⟩
theorem lw_p40 : lw_okq (⟨"TermShelf$Joiner", "pairNumber", "(LTermShelf$Term;ILTermShelf$Term;I)I"⟩, 4) := ⟨⟨by decide +kernel, by decide +kernel⟩, List.mem_of_getElem? (i := 286) (by decide +kernel), List.mem_of_getElem? (i := 844) (by decide +kernel), List.mem_of_getElem? (i := 845) (by decide +kernel)⟩
theorem lw_p41 : lw_okq (⟨"TermShelf", "overlapBits", "(II)I"⟩, 16) := ⟨⟨by decide +kernel, by decide +kernel⟩, List.mem_of_getElem? (i := 22) (by decide +kernel), List.mem_of_getElem? (i := 854) (by decide +kernel), List.mem_of_getElem? (i := 855) (by decide +kernel)⟩
theorem lw_p42 : lw_okq (⟨"TermShelf", "overlapsAt", "(III)Z"⟩, 16) := ⟨⟨by decide +kernel, by decide +kernel⟩, List.mem_of_getElem? (i := 22) (by decide +kernel), List.mem_of_getElem? (i := 858) (by decide +kernel), List.mem_of_getElem? (i := 859) (by decide +kernel)⟩
theorem lw_p43 : lw_okq (⟨"TermShelf", "isTop", "(I)Z"⟩, 16) := ⟨⟨by decide +kernel, by decide +kernel⟩, List.mem_of_getElem? (i := 22) (by decide +kernel), List.mem_of_getElem? (i := 908) (by decide +kernel), List.mem_of_getElem? (i := 909) (by decide +kernel)⟩
theorem lw_p44 : lw_okq (⟨"TermShelf$Rewriter", "makeStep", "(LTermShelf$Book;LTermShelf$Standing;)Z"⟩, 5) := ⟨⟨by decide +kernel, by decide +kernel⟩, List.mem_of_getElem? (i := 307) (by decide +kernel), List.mem_of_getElem? (i := 935) (by decide +kernel), List.mem_of_getElem? (i := 936) (by decide +kernel)⟩
theorem lw_p45 : lw_okq (⟨"TermShelf$Rewriter", "ruleFor", "(LTermShelf$Book;LTermShelf$Standing;I)I"⟩, 5) := ⟨⟨by decide +kernel, by decide +kernel⟩, List.mem_of_getElem? (i := 307) (by decide +kernel), List.mem_of_getElem? (i := 939) (by decide +kernel), List.mem_of_getElem? (i := 940) (by decide +kernel)⟩
theorem lw_p46 : lw_okq (⟨"TermShelf$Rewriter", "replace", "(ILTermShelf$Term;I)Z"⟩, 5) := ⟨⟨by decide +kernel, by decide +kernel⟩, List.mem_of_getElem? (i := 307) (by decide +kernel), List.mem_of_getElem? (i := 947) (by decide +kernel), List.mem_of_getElem? (i := 948) (by decide +kernel)⟩
theorem lw_p47 : lw_okq (⟨"TermShelf$Rewriter", "addFilled", "(LTermShelf$Term;I)Z"⟩, 5) := ⟨⟨by decide +kernel, by decide +kernel⟩, List.mem_of_getElem? (i := 307) (by decide +kernel), List.mem_of_getElem? (i := 953) (by decide +kernel), List.mem_of_getElem? (i := 954) (by decide +kernel)⟩
def lw_privs_3 : List (MethodName × Nat) := [(⟨"TermShelf$Unifier", "settleMore", "()I"⟩, 15), (⟨"TermShelf$Unifier", "isSettling", "(I)Z"⟩, 15), (⟨"TermShelf", "fitBits", "(ILTermShelf$Term;I)I"⟩, 16), (⟨"TermShelf$Tree", "walkPath", "(IILTermShelf$Term;)Z"⟩, 7), (⟨"TermShelf", "isAskedRule", "(I)Z"⟩, 16), (⟨"TermShelf$Unifier", "writeClass", "(I)V"⟩, 15), (⟨"TermShelf$Unifier", "awaitArguments", "(I)V"⟩, 15), (⟨"TermShelf", "aboveBits", "(I)I"⟩, 16), (⟨"TermShelf$Joiner", "pairNumber", "(LTermShelf$Term;ILTermShelf$Term;I)I"⟩, 4), (⟨"TermShelf", "overlapBits", "(II)I"⟩, 16), (⟨"TermShelf", "overlapsAt", "(III)Z"⟩, 16), (⟨"TermShelf", "isTop", "(I)Z"⟩, 16), (⟨"TermShelf$Rewriter", "makeStep", "(LTermShelf$Book;LTermShelf$Standing;)Z"⟩, 5), (⟨"TermShelf$Rewriter", "ruleFor", "(LTermShelf$Book;LTermShelf$Standing;I)I"⟩, 5), (⟨"TermShelf$Rewriter", "replace", "(ILTermShelf$Term;I)Z"⟩, 5), (⟨"TermShelf$Rewriter", "addFilled", "(LTermShelf$Term;I)Z"⟩, 5)]
theorem lw_r3 : ∀ q ∈ lw_privs_3, lw_okq q := List.forall_mem_cons.mpr ⟨lw_p32, List.forall_mem_cons.mpr ⟨lw_p33, List.forall_mem_cons.mpr ⟨lw_p34, List.forall_mem_cons.mpr ⟨lw_p35, List.forall_mem_cons.mpr ⟨lw_p36, List.forall_mem_cons.mpr ⟨lw_p37, List.forall_mem_cons.mpr ⟨lw_p38, List.forall_mem_cons.mpr ⟨lw_p39, List.forall_mem_cons.mpr ⟨lw_p40, List.forall_mem_cons.mpr ⟨lw_p41, List.forall_mem_cons.mpr ⟨lw_p42, List.forall_mem_cons.mpr ⟨lw_p43, List.forall_mem_cons.mpr ⟨lw_p44, List.forall_mem_cons.mpr ⟨lw_p45, List.forall_mem_cons.mpr ⟨lw_p46, List.forall_mem_cons.mpr ⟨lw_p47, fun _ h => absurd h List.not_mem_nil⟩⟩⟩⟩⟩⟩⟩⟩⟩⟩⟩⟩⟩⟩⟩⟩
theorem lw_p48 : lw_okq (⟨"TermShelf$Tree", "classCode", "(II)I"⟩, 7) := ⟨⟨by decide +kernel, by decide +kernel⟩, List.mem_of_getElem? (i := 188) (by decide +kernel), List.mem_of_getElem? (i := 974) (by decide +kernel), List.mem_of_getElem? (i := 975) (by decide +kernel)⟩
theorem lw_p49 : lw_okq (⟨"TermShelf$Drawer", "number", "()I"⟩, 1) := ⟨⟨by decide +kernel, by decide +kernel⟩, List.mem_of_getElem? (i := 336) (by decide +kernel), List.mem_of_getElem? (i := 1001) (by decide +kernel), List.mem_of_getElem? (i := 1002) (by decide +kernel)⟩
theorem lw_p50 : lw_okq (⟨"TermShelf", "looseCount", "(ILTermShelf$Term;)I"⟩, 16) := ⟨⟨by decide +kernel, by decide +kernel⟩, List.mem_of_getElem? (i := 22) (by decide +kernel), List.mem_of_getElem? (i := 1027) (by decide +kernel), List.mem_of_getElem? (i := 1028) (by decide +kernel)⟩
theorem lw_p51 : lw_okq (⟨"java/lang/Throwable", "fillInStackTrace", "(I)Ljava/lang/Throwable;"⟩, 6) := ⟨⟨by decide +kernel, by decide +kernel⟩, List.mem_of_getElem? (i := 1132) (by decide +kernel), List.mem_of_getElem? (i := 1130) (by decide +kernel), List.mem_of_getElem? (i := 1131) (by decide +kernel)⟩
theorem lw_p52 : lw_okq (⟨"TermShelfModel", "plain", "()V"⟩, 60) := ⟨⟨by decide +kernel, by decide +kernel⟩, List.mem_of_getElem? (i := 1183) (by decide +kernel), List.mem_of_getElem? (i := 1189) (by decide +kernel), List.mem_of_getElem? (i := 1190) (by decide +kernel)⟩
theorem lw_p53 : lw_okq (⟨"TermShelfModel", "keepText", "()V"⟩, 60) := ⟨⟨by decide +kernel, by decide +kernel⟩, List.mem_of_getElem? (i := 1183) (by decide +kernel), List.mem_of_getElem? (i := 1193) (by decide +kernel), List.mem_of_getElem? (i := 1194) (by decide +kernel)⟩
theorem lw_p54 : lw_okq (⟨"TermShelfModel", "starts", "(I)V"⟩, 60) := ⟨⟨by decide +kernel, by decide +kernel⟩, List.mem_of_getElem? (i := 1183) (by decide +kernel), List.mem_of_getElem? (i := 1393) (by decide +kernel), List.mem_of_getElem? (i := 1394) (by decide +kernel)⟩
theorem lw_p55 : lw_okq (⟨"TermShelfModel", "token", "()V"⟩, 60) := ⟨⟨by decide +kernel, by decide +kernel⟩, List.mem_of_getElem? (i := 1183) (by decide +kernel), List.mem_of_getElem? (i := 1397) (by decide +kernel), List.mem_of_getElem? (i := 1398) (by decide +kernel)⟩
theorem lw_p56 : lw_okq (⟨"TermShelfModel", "isSmall", "(I)Z"⟩, 60) := ⟨⟨by decide +kernel, by decide +kernel⟩, List.mem_of_getElem? (i := 1183) (by decide +kernel), List.mem_of_getElem? (i := 1401) (by decide +kernel), List.mem_of_getElem? (i := 1402) (by decide +kernel)⟩
theorem lw_p57 : lw_okq (⟨"TermShelfModel", "wordAt", "(II)I"⟩, 60) := ⟨⟨by decide +kernel, by decide +kernel⟩, List.mem_of_getElem? (i := 1183) (by decide +kernel), List.mem_of_getElem? (i := 1405) (by decide +kernel), List.mem_of_getElem? (i := 1406) (by decide +kernel)⟩
theorem lw_p58 : lw_okq (⟨"TermShelfModel", "packed", "(II)I"⟩, 60) := ⟨⟨by decide +kernel, by decide +kernel⟩, List.mem_of_getElem? (i := 1183) (by decide +kernel), List.mem_of_getElem? (i := 1409) (by decide +kernel), List.mem_of_getElem? (i := 1410) (by decide +kernel)⟩
theorem lw_p59 : lw_okq (⟨"TermShelfModel", "isDigit", "(I)Z"⟩, 60) := ⟨⟨by decide +kernel, by decide +kernel⟩, List.mem_of_getElem? (i := 1183) (by decide +kernel), List.mem_of_getElem? (i := 1413) (by decide +kernel), List.mem_of_getElem? (i := 1414) (by decide +kernel)⟩
theorem lw_p60 : lw_okq (⟨"TermShelfModel", "signToken", "()V"⟩, 60) := ⟨⟨by decide +kernel, by decide +kernel⟩, List.mem_of_getElem? (i := 1183) (by decide +kernel), List.mem_of_getElem? (i := 1418) (by decide +kernel), List.mem_of_getElem? (i := 1419) (by decide +kernel)⟩
theorem lw_p61 : lw_okq (⟨"TermShelfModel", "lineRead", "()Z"⟩, 60) := ⟨⟨by decide +kernel, by decide +kernel⟩, List.mem_of_getElem? (i := 1183) (by decide +kernel), List.mem_of_getElem? (i := 1422) (by decide +kernel), List.mem_of_getElem? (i := 1423) (by decide +kernel)⟩
theorem lw_p62 : lw_okq (⟨"TermShelfModel", "wrong", "(I)Z"⟩, 60) := ⟨⟨by decide +kernel, by decide +kernel⟩, List.mem_of_getElem? (i := 1183) (by decide +kernel), List.mem_of_getElem? (i := 1426) (by decide +kernel), List.mem_of_getElem? (i := 1427) (by decide +kernel)⟩
theorem lw_p63 : lw_okq (⟨"TermShelfModel", "signLine", "()Z"⟩, 60) := ⟨⟨by decide +kernel, by decide +kernel⟩, List.mem_of_getElem? (i := 1183) (by decide +kernel), List.mem_of_getElem? (i := 1430) (by decide +kernel), List.mem_of_getElem? (i := 1431) (by decide +kernel)⟩
def lw_privs_4 : List (MethodName × Nat) := [(⟨"TermShelf$Tree", "classCode", "(II)I"⟩, 7), (⟨"TermShelf$Drawer", "number", "()I"⟩, 1), (⟨"TermShelf", "looseCount", "(ILTermShelf$Term;)I"⟩, 16), (⟨"java/lang/Throwable", "fillInStackTrace", "(I)Ljava/lang/Throwable;"⟩, 6), (⟨"TermShelfModel", "plain", "()V"⟩, 60), (⟨"TermShelfModel", "keepText", "()V"⟩, 60), (⟨"TermShelfModel", "starts", "(I)V"⟩, 60), (⟨"TermShelfModel", "token", "()V"⟩, 60), (⟨"TermShelfModel", "isSmall", "(I)Z"⟩, 60), (⟨"TermShelfModel", "wordAt", "(II)I"⟩, 60), (⟨"TermShelfModel", "packed", "(II)I"⟩, 60), (⟨"TermShelfModel", "isDigit", "(I)Z"⟩, 60), (⟨"TermShelfModel", "signToken", "()V"⟩, 60), (⟨"TermShelfModel", "lineRead", "()Z"⟩, 60), (⟨"TermShelfModel", "wrong", "(I)Z"⟩, 60), (⟨"TermShelfModel", "signLine", "()Z"⟩, 60)]
theorem lw_r4 : ∀ q ∈ lw_privs_4, lw_okq q := List.forall_mem_cons.mpr ⟨lw_p48, List.forall_mem_cons.mpr ⟨lw_p49, List.forall_mem_cons.mpr ⟨lw_p50, List.forall_mem_cons.mpr ⟨lw_p51, List.forall_mem_cons.mpr ⟨lw_p52, List.forall_mem_cons.mpr ⟨lw_p53, List.forall_mem_cons.mpr ⟨lw_p54, List.forall_mem_cons.mpr ⟨lw_p55, List.forall_mem_cons.mpr ⟨lw_p56, List.forall_mem_cons.mpr ⟨lw_p57, List.forall_mem_cons.mpr ⟨lw_p58, List.forall_mem_cons.mpr ⟨lw_p59, List.forall_mem_cons.mpr ⟨lw_p60, List.forall_mem_cons.mpr ⟨lw_p61, List.forall_mem_cons.mpr ⟨lw_p62, List.forall_mem_cons.mpr ⟨lw_p63, fun _ h => absurd h List.not_mem_nil⟩⟩⟩⟩⟩⟩⟩⟩⟩⟩⟩⟩⟩⟩⟩⟩
theorem lw_p64 : lw_okq (⟨"TermShelfModel", "codeBy", "(II)I"⟩, 60) := ⟨⟨by decide +kernel, by decide +kernel⟩, List.mem_of_getElem? (i := 1183) (by decide +kernel), List.mem_of_getElem? (i := 1434) (by decide +kernel), List.mem_of_getElem? (i := 1435) (by decide +kernel)⟩
theorem lw_p65 : lw_okq (⟨"TermShelfModel", "number", "(II)Z"⟩, 60) := ⟨⟨by decide +kernel, by decide +kernel⟩, List.mem_of_getElem? (i := 1183) (by decide +kernel), List.mem_of_getElem? (i := 1441) (by decide +kernel), List.mem_of_getElem? (i := 1442) (by decide +kernel)⟩
theorem lw_p66 : lw_okq (⟨"TermShelfModel", "varLine", "()Z"⟩, 60) := ⟨⟨by decide +kernel, by decide +kernel⟩, List.mem_of_getElem? (i := 1183) (by decide +kernel), List.mem_of_getElem? (i := 1448) (by decide +kernel), List.mem_of_getElem? (i := 1449) (by decide +kernel)⟩
theorem lw_p67 : lw_okq (⟨"TermShelfModel", "ruleLine", "()Z"⟩, 60) := ⟨⟨by decide +kernel, by decide +kernel⟩, List.mem_of_getElem? (i := 1183) (by decide +kernel), List.mem_of_getElem? (i := 1452) (by decide +kernel), List.mem_of_getElem? (i := 1453) (by decide +kernel)⟩
theorem lw_p68 : lw_okq (⟨"TermShelfModel", "termRead", "(II)Z"⟩, 60) := ⟨⟨by decide +kernel, by decide +kernel⟩, List.mem_of_getElem? (i := 1183) (by decide +kernel), List.mem_of_getElem? (i := 1456) (by decide +kernel), List.mem_of_getElem? (i := 1457) (by decide +kernel)⟩
theorem lw_p69 : lw_okq (⟨"TermShelfModel", "isSign", "(I)Z"⟩, 60) := ⟨⟨by decide +kernel, by decide +kernel⟩, List.mem_of_getElem? (i := 1183) (by decide +kernel), List.mem_of_getElem? (i := 1460) (by decide +kernel), List.mem_of_getElem? (i := 1461) (by decide +kernel)⟩
theorem lw_p70 : lw_okq (⟨"TermShelfModel", "asks", "()V"⟩, 60) := ⟨⟨by decide +kernel, by decide +kernel⟩, List.mem_of_getElem? (i := 1183) (by decide +kernel), List.mem_of_getElem? (i := 1468) (by decide +kernel), List.mem_of_getElem? (i := 1469) (by decide +kernel)⟩
theorem lw_p71 : lw_okq (⟨"TermShelfModel", "isRule", "(I)Z"⟩, 60) := ⟨⟨by decide +kernel, by decide +kernel⟩, List.mem_of_getElem? (i := 1183) (by decide +kernel), List.mem_of_getElem? (i := 1484) (by decide +kernel), List.mem_of_getElem? (i := 1485) (by decide +kernel)⟩
theorem lw_p72 : lw_okq (⟨"TermShelfModel", "isInNow", "(I)Z"⟩, 60) := ⟨⟨by decide +kernel, by decide +kernel⟩, List.mem_of_getElem? (i := 1183) (by decide +kernel), List.mem_of_getElem? (i := 1488) (by decide +kernel), List.mem_of_getElem? (i := 1489) (by decide +kernel)⟩
theorem lw_p73 : lw_okq (⟨"TermShelfModel", "isFit", "(II)Z"⟩, 60) := ⟨⟨by decide +kernel, by decide +kernel⟩, List.mem_of_getElem? (i := 1183) (by decide +kernel), List.mem_of_getElem? (i := 1495) (by decide +kernel), List.mem_of_getElem? (i := 1496) (by decide +kernel)⟩
theorem lw_p74 : lw_okq (⟨"TermShelfModel", "clears", "()V"⟩, 60) := ⟨⟨by decide +kernel, by decide +kernel⟩, List.mem_of_getElem? (i := 1183) (by decide +kernel), List.mem_of_getElem? (i := 1499) (by decide +kernel), List.mem_of_getElem? (i := 1500) (by decide +kernel)⟩
theorem lw_p75 : lw_okq (⟨"TermShelfModel", "putsQuery", "()I"⟩, 60) := ⟨⟨by decide +kernel, by decide +kernel⟩, List.mem_of_getElem? (i := 1183) (by decide +kernel), List.mem_of_getElem? (i := 1503) (by decide +kernel), List.mem_of_getElem? (i := 1504) (by decide +kernel)⟩
theorem lw_p76 : lw_okq (⟨"TermShelfModel", "puts", "([IIII)I"⟩, 60) := ⟨⟨by decide +kernel, by decide +kernel⟩, List.mem_of_getElem? (i := 1183) (by decide +kernel), List.mem_of_getElem? (i := 1507) (by decide +kernel), List.mem_of_getElem? (i := 1508) (by decide +kernel)⟩
theorem lw_p77 : lw_okq (⟨"TermShelfModel", "putsRule", "(II)I"⟩, 60) := ⟨⟨by decide +kernel, by decide +kernel⟩, List.mem_of_getElem? (i := 1183) (by decide +kernel), List.mem_of_getElem? (i := 1511) (by decide +kernel), List.mem_of_getElem? (i := 1512) (by decide +kernel)⟩
theorem lw_p78 : lw_okq (⟨"TermShelfModel", "isMade", "(II)Z"⟩, 60) := ⟨⟨by decide +kernel, by decide +kernel⟩, List.mem_of_getElem? (i := 1183) (by decide +kernel), List.mem_of_getElem? (i := 1515) (by decide +kernel), List.mem_of_getElem? (i := 1516) (by decide +kernel)⟩
theorem lw_p79 : lw_okq (⟨"TermShelfModel", "endAt", "(I)I"⟩, 60) := ⟨⟨by decide +kernel, by decide +kernel⟩, List.mem_of_getElem? (i := 1183) (by decide +kernel), List.mem_of_getElem? (i := 1519) (by decide +kernel), List.mem_of_getElem? (i := 1520) (by decide +kernel)⟩
def lw_privs_5 : List (MethodName × Nat) := [(⟨"TermShelfModel", "codeBy", "(II)I"⟩, 60), (⟨"TermShelfModel", "number", "(II)Z"⟩, 60), (⟨"TermShelfModel", "varLine", "()Z"⟩, 60), (⟨"TermShelfModel", "ruleLine", "()Z"⟩, 60), (⟨"TermShelfModel", "termRead", "(II)Z"⟩, 60), (⟨"TermShelfModel", "isSign", "(I)Z"⟩, 60), (⟨"TermShelfModel", "asks", "()V"⟩, 60), (⟨"TermShelfModel", "isRule", "(I)Z"⟩, 60), (⟨"TermShelfModel", "isInNow", "(I)Z"⟩, 60), (⟨"TermShelfModel", "isFit", "(II)Z"⟩, 60), (⟨"TermShelfModel", "clears", "()V"⟩, 60), (⟨"TermShelfModel", "putsQuery", "()I"⟩, 60), (⟨"TermShelfModel", "puts", "([IIII)I"⟩, 60), (⟨"TermShelfModel", "putsRule", "(II)I"⟩, 60), (⟨"TermShelfModel", "isMade", "(II)Z"⟩, 60), (⟨"TermShelfModel", "endAt", "(I)I"⟩, 60)]
theorem lw_r5 : ∀ q ∈ lw_privs_5, lw_okq q := List.forall_mem_cons.mpr ⟨lw_p64, List.forall_mem_cons.mpr ⟨lw_p65, List.forall_mem_cons.mpr ⟨lw_p66, List.forall_mem_cons.mpr ⟨lw_p67, List.forall_mem_cons.mpr ⟨lw_p68, List.forall_mem_cons.mpr ⟨lw_p69, List.forall_mem_cons.mpr ⟨lw_p70, List.forall_mem_cons.mpr ⟨lw_p71, List.forall_mem_cons.mpr ⟨lw_p72, List.forall_mem_cons.mpr ⟨lw_p73, List.forall_mem_cons.mpr ⟨lw_p74, List.forall_mem_cons.mpr ⟨lw_p75, List.forall_mem_cons.mpr ⟨lw_p76, List.forall_mem_cons.mpr ⟨lw_p77, List.forall_mem_cons.mpr ⟨lw_p78, List.forall_mem_cons.mpr ⟨lw_p79, fun _ h => absurd h List.not_mem_nil⟩⟩⟩⟩⟩⟩⟩⟩⟩⟩⟩⟩⟩⟩⟩⟩
theorem lw_p80 : lw_okq (⟨"TermShelfModel", "isAlike", "(II)Z"⟩, 60) := ⟨⟨by decide +kernel, by decide +kernel⟩, List.mem_of_getElem? (i := 1183) (by decide +kernel), List.mem_of_getElem? (i := 1526) (by decide +kernel), List.mem_of_getElem? (i := 1527) (by decide +kernel)⟩
theorem lw_p81 : lw_okq (⟨"TermShelfModel", "isUnified", "(II)Z"⟩, 60) := ⟨⟨by decide +kernel, by decide +kernel⟩, List.mem_of_getElem? (i := 1183) (by decide +kernel), List.mem_of_getElem? (i := 1530) (by decide +kernel), List.mem_of_getElem? (i := 1531) (by decide +kernel)⟩
theorem lw_p82 : lw_okq (⟨"TermShelfModel", "led", "(I)I"⟩, 60) := ⟨⟨by decide +kernel, by decide +kernel⟩, List.mem_of_getElem? (i := 1183) (by decide +kernel), List.mem_of_getElem? (i := 1534) (by decide +kernel), List.mem_of_getElem? (i := 1535) (by decide +kernel)⟩
theorem lw_p83 : lw_okq (⟨"TermShelfModel", "isWithin", "(II)Z"⟩, 60) := ⟨⟨by decide +kernel, by decide +kernel⟩, List.mem_of_getElem? (i := 1183) (by decide +kernel), List.mem_of_getElem? (i := 1538) (by decide +kernel), List.mem_of_getElem? (i := 1539) (by decide +kernel)⟩
theorem lw_p84 : lw_okq (⟨"TermShelfModel", "manyOf", "(I)I"⟩, 60) := ⟨⟨by decide +kernel, by decide +kernel⟩, List.mem_of_getElem? (i := 1183) (by decide +kernel), List.mem_of_getElem? (i := 1542) (by decide +kernel), List.mem_of_getElem? (i := 1543) (by decide +kernel)⟩
theorem lw_p85 : lw_okq (⟨"TermShelfModel", "layFound", "(I)V"⟩, 60) := ⟨⟨by decide +kernel, by decide +kernel⟩, List.mem_of_getElem? (i := 1183) (by decide +kernel), List.mem_of_getElem? (i := 1550) (by decide +kernel), List.mem_of_getElem? (i := 1551) (by decide +kernel)⟩
theorem lw_p86 : lw_okq (⟨"TermShelfModel", "placeOf", "(I)I"⟩, 60) := ⟨⟨by decide +kernel, by decide +kernel⟩, List.mem_of_getElem? (i := 1183) (by decide +kernel), List.mem_of_getElem? (i := 1554) (by decide +kernel), List.mem_of_getElem? (i := 1555) (by decide +kernel)⟩
theorem lw_p87 : lw_okq (⟨"TermShelfModel", "isAhead", "(II)Z"⟩, 60) := ⟨⟨by decide +kernel, by decide +kernel⟩, List.mem_of_getElem? (i := 1183) (by decide +kernel), List.mem_of_getElem? (i := 1558) (by decide +kernel), List.mem_of_getElem? (i := 1559) (by decide +kernel)⟩
theorem lw_p88 : lw_okq (⟨"TermShelfModel", "sharedBy", "(II)I"⟩, 60) := ⟨⟨by decide +kernel, by decide +kernel⟩, List.mem_of_getElem? (i := 1183) (by decide +kernel), List.mem_of_getElem? (i := 1562) (by decide +kernel), List.mem_of_getElem? (i := 1563) (by decide +kernel)⟩
theorem lw_p89 : lw_okq (⟨"TermShelfModel", "stepAt", "(II)I"⟩, 60) := ⟨⟨by decide +kernel, by decide +kernel⟩, List.mem_of_getElem? (i := 1183) (by decide +kernel), List.mem_of_getElem? (i := 1566) (by decide +kernel), List.mem_of_getElem? (i := 1567) (by decide +kernel)⟩
theorem lw_p90 : lw_okq (⟨"TermShelfModel", "finds", "(I)V"⟩, 60) := ⟨⟨by decide +kernel, by decide +kernel⟩, List.mem_of_getElem? (i := 1183) (by decide +kernel), List.mem_of_getElem? (i := 1577) (by decide +kernel), List.mem_of_getElem? (i := 1578) (by decide +kernel)⟩
theorem lw_p91 : lw_okq (⟨"TermShelfModel", "follows", "(II)V"⟩, 60) := ⟨⟨by decide +kernel, by decide +kernel⟩, List.mem_of_getElem? (i := 1183) (by decide +kernel), List.mem_of_getElem? (i := 1581) (by decide +kernel), List.mem_of_getElem? (i := 1582) (by decide +kernel)⟩
theorem lw_p92 : lw_okq (⟨"TermShelfModel", "isFirstOf", "(II)Z"⟩, 60) := ⟨⟨by decide +kernel, by decide +kernel⟩, List.mem_of_getElem? (i := 1183) (by decide +kernel), List.mem_of_getElem? (i := 1585) (by decide +kernel), List.mem_of_getElem? (i := 1586) (by decide +kernel)⟩
theorem lw_p93 : lw_okq (⟨"TermShelfModel", "aboveBits", "(I)I"⟩, 60) := ⟨⟨by decide +kernel, by decide +kernel⟩, List.mem_of_getElem? (i := 1183) (by decide +kernel), List.mem_of_getElem? (i := 1593) (by decide +kernel), List.mem_of_getElem? (i := 1594) (by decide +kernel)⟩
theorem lw_p94 : lw_okq (⟨"TermShelfModel", "isAbove", "(II)Z"⟩, 60) := ⟨⟨by decide +kernel, by decide +kernel⟩, List.mem_of_getElem? (i := 1183) (by decide +kernel), List.mem_of_getElem? (i := 1597) (by decide +kernel), List.mem_of_getElem? (i := 1598) (by decide +kernel)⟩
theorem lw_p95 : lw_okq (⟨"TermShelfModel", "isShaped", "(I)Z"⟩, 60) := ⟨⟨by decide +kernel, by decide +kernel⟩, List.mem_of_getElem? (i := 1183) (by decide +kernel), List.mem_of_getElem? (i := 1609) (by decide +kernel), List.mem_of_getElem? (i := 1610) (by decide +kernel)⟩
def lw_privs_6 : List (MethodName × Nat) := [(⟨"TermShelfModel", "isAlike", "(II)Z"⟩, 60), (⟨"TermShelfModel", "isUnified", "(II)Z"⟩, 60), (⟨"TermShelfModel", "led", "(I)I"⟩, 60), (⟨"TermShelfModel", "isWithin", "(II)Z"⟩, 60), (⟨"TermShelfModel", "manyOf", "(I)I"⟩, 60), (⟨"TermShelfModel", "layFound", "(I)V"⟩, 60), (⟨"TermShelfModel", "placeOf", "(I)I"⟩, 60), (⟨"TermShelfModel", "isAhead", "(II)Z"⟩, 60), (⟨"TermShelfModel", "sharedBy", "(II)I"⟩, 60), (⟨"TermShelfModel", "stepAt", "(II)I"⟩, 60), (⟨"TermShelfModel", "finds", "(I)V"⟩, 60), (⟨"TermShelfModel", "follows", "(II)V"⟩, 60), (⟨"TermShelfModel", "isFirstOf", "(II)Z"⟩, 60), (⟨"TermShelfModel", "aboveBits", "(I)I"⟩, 60), (⟨"TermShelfModel", "isAbove", "(II)Z"⟩, 60), (⟨"TermShelfModel", "isShaped", "(I)Z"⟩, 60)]
theorem lw_r6 : ∀ q ∈ lw_privs_6, lw_okq q := List.forall_mem_cons.mpr ⟨lw_p80, List.forall_mem_cons.mpr ⟨lw_p81, List.forall_mem_cons.mpr ⟨lw_p82, List.forall_mem_cons.mpr ⟨lw_p83, List.forall_mem_cons.mpr ⟨lw_p84, List.forall_mem_cons.mpr ⟨lw_p85, List.forall_mem_cons.mpr ⟨lw_p86, List.forall_mem_cons.mpr ⟨lw_p87, List.forall_mem_cons.mpr ⟨lw_p88, List.forall_mem_cons.mpr ⟨lw_p89, List.forall_mem_cons.mpr ⟨lw_p90, List.forall_mem_cons.mpr ⟨lw_p91, List.forall_mem_cons.mpr ⟨lw_p92, List.forall_mem_cons.mpr ⟨lw_p93, List.forall_mem_cons.mpr ⟨lw_p94, List.forall_mem_cons.mpr ⟨lw_p95, fun _ h => absurd h List.not_mem_nil⟩⟩⟩⟩⟩⟩⟩⟩⟩⟩⟩⟩⟩⟩⟩⟩
theorem lw_p96 : lw_okq (⟨"TermShelfModel", "overBits", "(II)I"⟩, 60) := ⟨⟨by decide +kernel, by decide +kernel⟩, List.mem_of_getElem? (i := 1183) (by decide +kernel), List.mem_of_getElem? (i := 1633) (by decide +kernel), List.mem_of_getElem? (i := 1634) (by decide +kernel)⟩
theorem lw_p97 : lw_okq (⟨"TermShelfModel", "isOver", "(III)Z"⟩, 60) := ⟨⟨by decide +kernel, by decide +kernel⟩, List.mem_of_getElem? (i := 1183) (by decide +kernel), List.mem_of_getElem? (i := 1637) (by decide +kernel), List.mem_of_getElem? (i := 1638) (by decide +kernel)⟩
theorem lw_p98 : lw_okq (⟨"TermShelfModel", "fails", "(I)I"⟩, 60) := ⟨⟨by decide +kernel, by decide +kernel⟩, List.mem_of_getElem? (i := 1183) (by decide +kernel), List.mem_of_getElem? (i := 1661) (by decide +kernel), List.mem_of_getElem? (i := 1662) (by decide +kernel)⟩
theorem lw_p99 : lw_okq (⟨"TermShelfModel", "varsMany", "(I)I"⟩, 60) := ⟨⟨by decide +kernel, by decide +kernel⟩, List.mem_of_getElem? (i := 1183) (by decide +kernel), List.mem_of_getElem? (i := 1665) (by decide +kernel), List.mem_of_getElem? (i := 1666) (by decide +kernel)⟩
theorem lw_p100 : lw_okq (⟨"TermShelfModel", "varBits", "(I)I"⟩, 60) := ⟨⟨by decide +kernel, by decide +kernel⟩, List.mem_of_getElem? (i := 1183) (by decide +kernel), List.mem_of_getElem? (i := 1669) (by decide +kernel), List.mem_of_getElem? (i := 1670) (by decide +kernel)⟩
theorem lw_p101 : lw_okq (⟨"TermShelfModel", "isAgain", "(I)Z"⟩, 60) := ⟨⟨by decide +kernel, by decide +kernel⟩, List.mem_of_getElem? (i := 1183) (by decide +kernel), List.mem_of_getElem? (i := 1673) (by decide +kernel), List.mem_of_getElem? (i := 1674) (by decide +kernel)⟩
theorem lw_p102 : lw_okq (⟨"TermShelfModel", "nodesAll", "()I"⟩, 60) := ⟨⟨by decide +kernel, by decide +kernel⟩, List.mem_of_getElem? (i := 1183) (by decide +kernel), List.mem_of_getElem? (i := 1697) (by decide +kernel), List.mem_of_getElem? (i := 1698) (by decide +kernel)⟩
theorem lw_p103 : lw_okq (⟨"TermShelfModel", "nodesOf", "(I)I"⟩, 60) := ⟨⟨by decide +kernel, by decide +kernel⟩, List.mem_of_getElem? (i := 1183) (by decide +kernel), List.mem_of_getElem? (i := 1701) (by decide +kernel), List.mem_of_getElem? (i := 1702) (by decide +kernel)⟩
theorem lw_p104 : lw_okq (⟨"TermShelfModel", "remember", "()V"⟩, 60) := ⟨⟨by decide +kernel, by decide +kernel⟩, List.mem_of_getElem? (i := 1183) (by decide +kernel), List.mem_of_getElem? (i := 1705) (by decide +kernel), List.mem_of_getElem? (i := 1706) (by decide +kernel)⟩
theorem lw_p105 : lw_okq (⟨"TermShelfModel", "isNewIn", "(II)Z"⟩, 60) := ⟨⟨by decide +kernel, by decide +kernel⟩, List.mem_of_getElem? (i := 1183) (by decide +kernel), List.mem_of_getElem? (i := 1721) (by decide +kernel), List.mem_of_getElem? (i := 1722) (by decide +kernel)⟩
theorem lw_p106 : lw_okq (⟨"TermShelfModel", "largest", "(I)I"⟩, 60) := ⟨⟨by decide +kernel, by decide +kernel⟩, List.mem_of_getElem? (i := 1183) (by decide +kernel), List.mem_of_getElem? (i := 1733) (by decide +kernel), List.mem_of_getElem? (i := 1734) (by decide +kernel)⟩
theorem lw_p107 : lw_okq (⟨"TermShelfModel", "laySteps", "()V"⟩, 60) := ⟨⟨by decide +kernel, by decide +kernel⟩, List.mem_of_getElem? (i := 1183) (by decide +kernel), List.mem_of_getElem? (i := 1741) (by decide +kernel), List.mem_of_getElem? (i := 1742) (by decide +kernel)⟩
theorem lw_p108 : lw_okq (⟨"TermShelfModel", "isStepped", "()Z"⟩, 60) := ⟨⟨by decide +kernel, by decide +kernel⟩, List.mem_of_getElem? (i := 1183) (by decide +kernel), List.mem_of_getElem? (i := 1745) (by decide +kernel), List.mem_of_getElem? (i := 1746) (by decide +kernel)⟩
theorem lw_p109 : lw_okq (⟨"TermShelfModel", "isStep", "(II)Z"⟩, 60) := ⟨⟨by decide +kernel, by decide +kernel⟩, List.mem_of_getElem? (i := 1183) (by decide +kernel), List.mem_of_getElem? (i := 1749) (by decide +kernel), List.mem_of_getElem? (i := 1750) (by decide +kernel)⟩
theorem lw_p110 : lw_okq (⟨"TermShelfModel", "isReplaced", "(II)Z"⟩, 60) := ⟨⟨by decide +kernel, by decide +kernel⟩, List.mem_of_getElem? (i := 1183) (by decide +kernel), List.mem_of_getElem? (i := 1753) (by decide +kernel), List.mem_of_getElem? (i := 1754) (by decide +kernel)⟩
theorem lw_p111 : lw_okq (⟨"TermShelfModel", "isDrawn", "()Z"⟩, 60) := ⟨⟨by decide +kernel, by decide +kernel⟩, List.mem_of_getElem? (i := 1183) (by decide +kernel), List.mem_of_getElem? (i := 1765) (by decide +kernel), List.mem_of_getElem? (i := 1766) (by decide +kernel)⟩
def lw_privs_7 : List (MethodName × Nat) := [(⟨"TermShelfModel", "overBits", "(II)I"⟩, 60), (⟨"TermShelfModel", "isOver", "(III)Z"⟩, 60), (⟨"TermShelfModel", "fails", "(I)I"⟩, 60), (⟨"TermShelfModel", "varsMany", "(I)I"⟩, 60), (⟨"TermShelfModel", "varBits", "(I)I"⟩, 60), (⟨"TermShelfModel", "isAgain", "(I)Z"⟩, 60), (⟨"TermShelfModel", "nodesAll", "()I"⟩, 60), (⟨"TermShelfModel", "nodesOf", "(I)I"⟩, 60), (⟨"TermShelfModel", "remember", "()V"⟩, 60), (⟨"TermShelfModel", "isNewIn", "(II)Z"⟩, 60), (⟨"TermShelfModel", "largest", "(I)I"⟩, 60), (⟨"TermShelfModel", "laySteps", "()V"⟩, 60), (⟨"TermShelfModel", "isStepped", "()Z"⟩, 60), (⟨"TermShelfModel", "isStep", "(II)Z"⟩, 60), (⟨"TermShelfModel", "isReplaced", "(II)Z"⟩, 60), (⟨"TermShelfModel", "isDrawn", "()Z"⟩, 60)]
theorem lw_r7 : ∀ q ∈ lw_privs_7, lw_okq q := List.forall_mem_cons.mpr ⟨lw_p96, List.forall_mem_cons.mpr ⟨lw_p97, List.forall_mem_cons.mpr ⟨lw_p98, List.forall_mem_cons.mpr ⟨lw_p99, List.forall_mem_cons.mpr ⟨lw_p100, List.forall_mem_cons.mpr ⟨lw_p101, List.forall_mem_cons.mpr ⟨lw_p102, List.forall_mem_cons.mpr ⟨lw_p103, List.forall_mem_cons.mpr ⟨lw_p104, List.forall_mem_cons.mpr ⟨lw_p105, List.forall_mem_cons.mpr ⟨lw_p106, List.forall_mem_cons.mpr ⟨lw_p107, List.forall_mem_cons.mpr ⟨lw_p108, List.forall_mem_cons.mpr ⟨lw_p109, List.forall_mem_cons.mpr ⟨lw_p110, List.forall_mem_cons.mpr ⟨lw_p111, fun _ h => absurd h List.not_mem_nil⟩⟩⟩⟩⟩⟩⟩⟩⟩⟩⟩⟩⟩⟩⟩⟩
theorem lw_p112 : lw_okq (⟨"TermShelfModel", "smallest", "()I"⟩, 60) := ⟨⟨by decide +kernel, by decide +kernel⟩, List.mem_of_getElem? (i := 1183) (by decide +kernel), List.mem_of_getElem? (i := 1773) (by decide +kernel), List.mem_of_getElem? (i := 1774) (by decide +kernel)⟩
def lw_privs_8 : List (MethodName × Nat) := [(⟨"TermShelfModel", "smallest", "()I"⟩, 60)]
theorem lw_r8 : ∀ q ∈ lw_privs_8, lw_okq q := List.forall_mem_cons.mpr ⟨lw_p112, fun _ h => absurd h List.not_mem_nil⟩
def lw_privs : List (MethodName × Nat) := lw_privs_1 ++ (lw_privs_2 ++ (lw_privs_3 ++ (lw_privs_4 ++ (lw_privs_5 ++ (lw_privs_6 ++ (lw_privs_7 ++ (lw_privs_8)))))))
def lw_tbl : List Cond := k2_sels lw_privs ++ tables_1
theorem lw_privs_ok : ∀ q ∈ lw_privs, lw_okq q := by
  show ∀ q ∈ lw_privs_1 ++ (lw_privs_2 ++ (lw_privs_3 ++ (lw_privs_4 ++ (lw_privs_5 ++ (lw_privs_6 ++ (lw_privs_7 ++ (lw_privs_8))))))), lw_okq q
  exact List.forall_mem_append.mpr ⟨lw_r1, List.forall_mem_append.mpr ⟨lw_r2, List.forall_mem_append.mpr ⟨lw_r3, List.forall_mem_append.mpr ⟨lw_r4, List.forall_mem_append.mpr ⟨lw_r5, List.forall_mem_append.mpr ⟨lw_r6, List.forall_mem_append.mpr ⟨lw_r7, lw_r8⟩⟩⟩⟩⟩⟩⟩
-- ===== end of PART A; then your names; then what follows =====
def RX0 : String := "TermShelf$Book"
def TX0 : u_T := fun k => match k with
  | 0 => ("TermShelf$Book", "signNames", "[I", true)
  | 1 => ("TermShelf$Book", "signArities", "[I", true)
  | 2 => ("TermShelf$Book", "variableNames", "[I", true)
  | 3 => ("TermShelf$Book", "ruleNames", "[I", true)
  | 4 => ("TermShelf$Book", "terms", "[LTermShelf$Term;", true)
  | 5 => ("TermShelf$Book", "rights", "[LTermShelf$Term;", true)
  | 6 => ("TermShelf$Book", "noTerm", "LTermShelf$Term;", true)
  | 7 => ("TermShelf$Book", "signCount", "I", false)
  | 8 => ("TermShelf$Book", "variableCount", "I", false)
  | _ => ("TermShelf$Book", "ruleCount", "I", false)
def tyX0 : Nat → FieldType := fun k => match k with
  | 0 => .array .int
  | 1 => .array .int
  | 2 => .array .int
  | 3 => .array .int
  | 4 => .array (.object "TermShelf$Term")
  | 5 => .array (.object "TermShelf$Term")
  | 6 => .object "TermShelf$Term"
  | 7 => .int
  | 8 => .int
  | _ => .int
abbrev wsX00 : List Cond := u_ws RX0 TX0 10
theorem nmX0 : ∀ a, a < 10 → ∀ b, b < 10 → a ≠ b → (TX0 a).2.1 ≠ (TX0 b).2.1 := by decide +kernel
theorem tyX0_ok : ∀ k, k < 10 → parseFieldDescriptor (TX0 k).2.2.1 = some (tyX0 k) := by decide +kernel
abbrev cX0_init : ByteArray := prog_2_method_1_code
def yX0_init : MethodName := ⟨RX0, "<init>", "()V"⟩
abbrev cX0_clear : ByteArray := prog_2_method_2_code
def yX0_clear : MethodName := ⟨RX0, "clear", "()V"⟩
abbrev cX0_addSign : ByteArray := prog_2_method_3_code
def yX0_addSign : MethodName := ⟨RX0, "addSign", "(II)V"⟩
abbrev cX0_addVariable : ByteArray := prog_2_method_4_code
def yX0_addVariable : MethodName := ⟨RX0, "addVariable", "(I)V"⟩
abbrev cX0_addRule : ByteArray := prog_2_method_5_code
def yX0_addRule : MethodName := ⟨RX0, "addRule", "(I)V"⟩
abbrev cX0_hasRule : ByteArray := prog_2_method_6_code
def yX0_hasRule : MethodName := ⟨RX0, "hasRule", "(I)Z"⟩
abbrev cX0_termOf : ByteArray := prog_2_method_7_code
def yX0_termOf : MethodName := ⟨RX0, "termOf", "(I)LTermShelf$Term;"⟩
abbrev cX0_rightOf : ByteArray := prog_2_method_8_code
def yX0_rightOf : MethodName := ⟨RX0, "rightOf", "(I)LTermShelf$Term;"⟩
abbrev cX0_codeNamed : ByteArray := prog_2_method_9_code
def yX0_codeNamed : MethodName := ⟨RX0, "codeNamed", "(I)I"⟩
abbrev cX0_ruleNamed : ByteArray := prog_2_method_10_code
def yX0_ruleNamed : MethodName := ⟨RX0, "ruleNamed", "(I)I"⟩
abbrev cX0_placeOf : ByteArray := prog_2_method_11_code
def yX0_placeOf : MethodName := ⟨RX0, "placeOf", "([III)I"⟩
abbrev cX0_arityOf : ByteArray := prog_2_method_12_code
def yX0_arityOf : MethodName := ⟨RX0, "arityOf", "(I)I"⟩
abbrev cX0_plainCode : ByteArray := prog_2_method_13_code
def yX0_plainCode : MethodName := ⟨RX0, "plainCode", "()I"⟩
abbrev cX0_places : ByteArray := prog_2_method_14_code
def yX0_places : MethodName := ⟨RX0, "places", "()I"⟩
def RX1 : String := "TermShelf$Drawer"
def TX1 : u_T := fun k => match k with
  | _ => ("TermShelf$Drawer", "last", "I", false)
def tyX1 : Nat → FieldType := fun k => match k with
  | _ => .int
abbrev wsX10 : List Cond := u_ws RX1 TX1 1
theorem nmX1 : ∀ a, a < 1 → ∀ b, b < 1 → a ≠ b → (TX1 a).2.1 ≠ (TX1 b).2.1 := by decide +kernel
theorem tyX1_ok : ∀ k, k < 1 → parseFieldDescriptor (TX1 k).2.2.1 = some (tyX1 k) := by decide +kernel
abbrev cX1_init : ByteArray := prog_3_method_1_code
def yX1_init : MethodName := ⟨RX1, "<init>", "()V"⟩
abbrev cX1_seed : ByteArray := prog_3_method_2_code
def yX1_seed : MethodName := ⟨RX1, "seed", "(I)V"⟩
abbrev cX1_number : ByteArray := prog_3_method_3_code
def yX1_number : MethodName := ⟨RX1, "number", "()I"⟩
abbrev cX1_drawTerm : ByteArray := prog_3_method_4_code
def yX1_drawTerm : MethodName := ⟨RX1, "drawTerm", "(LTermShelf$Book;LTermShelf$Term;)Z"⟩
def RX2 : String := "TermShelf$Joiner"
def TX2 : u_T := fun k => match k with
  | 0 => ("TermShelf$Joiner", "ones", "[I", true)
  | 1 => ("TermShelf$Joiner", "others", "[I", true)
  | 2 => ("TermShelf$Joiner", "shape", "LTermShelf$Term;", true)
  | _ => ("TermShelf$Joiner", "pairs", "I", false)
def tyX2 : Nat → FieldType := fun k => match k with
  | 0 => .array .int
  | 1 => .array .int
  | 2 => .object "TermShelf$Term"
  | _ => .int
abbrev wsX20 : List Cond := u_ws RX2 TX2 4
theorem nmX2 : ∀ a, a < 4 → ∀ b, b < 4 → a ≠ b → (TX2 a).2.1 ≠ (TX2 b).2.1 := by decide +kernel
theorem tyX2_ok : ∀ k, k < 4 → parseFieldDescriptor (TX2 k).2.2.1 = some (tyX2 k) := by decide +kernel
abbrev cX2_init : ByteArray := prog_4_method_1_code
def yX2_init : MethodName := ⟨RX2, "<init>", "()V"⟩
abbrev cX2_joinedShape : ByteArray := prog_4_method_2_code
def yX2_joinedShape : MethodName := ⟨RX2, "joinedShape", "(LTermShelf$Term;LTermShelf$Term;)LTermShelf$Term;"⟩
abbrev cX2_pairNumber : ByteArray := prog_4_method_3_code
def yX2_pairNumber : MethodName := ⟨RX2, "pairNumber", "(LTermShelf$Term;ILTermShelf$Term;I)I"⟩
def RX3 : String := "TermShelf$Matcher"
def TX3 : u_T := fun k => match k with
  | _ => ("TermShelf$Matcher", "starts", "[I", true)
def tyX3 : Nat → FieldType := fun k => match k with
  | _ => .array .int
abbrev wsX30 : List Cond := u_ws RX3 TX3 1
theorem nmX3 : ∀ a, a < 1 → ∀ b, b < 1 → a ≠ b → (TX3 a).2.1 ≠ (TX3 b).2.1 := by decide +kernel
theorem tyX3_ok : ∀ k, k < 1 → parseFieldDescriptor (TX3 k).2.2.1 = some (tyX3 k) := by decide +kernel
abbrev cX3_init : ByteArray := prog_5_method_1_code
def yX3_init : MethodName := ⟨RX3, "<init>", "()V"⟩
abbrev cX3_matches : ByteArray := prog_5_method_2_code
def yX3_matches : MethodName := ⟨RX3, "matches", "(LTermShelf$Term;LTermShelf$Term;I)Z"⟩
abbrev cX3_fill : ByteArray := prog_5_method_3_code
def yX3_fill : MethodName := ⟨RX3, "fill", "(ILTermShelf$Term;I)Z"⟩
abbrev cX3_startOf : ByteArray := prog_5_method_4_code
def yX3_startOf : MethodName := ⟨RX3, "startOf", "(I)I"⟩
def RX4 : String := "TermShelf$Reader"
def TX4 : u_T := fun k => match k with
  | 0 => ("TermShelf$Reader", "tokens", "LTermShelf$Tokens;", true)
  | 1 => ("TermShelf$Reader", "wanted", "[I", true)
  | 2 => ("TermShelf$Reader", "open", "I", false)
  | 3 => ("TermShelf$Reader", "fault", "I", false)
  | _ => ("TermShelf$Reader", "faultPlace", "I", false)
def tyX4 : Nat → FieldType := fun k => match k with
  | 0 => .object "TermShelf$Tokens"
  | 1 => .array .int
  | 2 => .int
  | 3 => .int
  | _ => .int
abbrev wsX40 : List Cond := u_ws RX4 TX4 5
theorem nmX4 : ∀ a, a < 5 → ∀ b, b < 5 → a ≠ b → (TX4 a).2.1 ≠ (TX4 b).2.1 := by decide +kernel
theorem tyX4_ok : ∀ k, k < 5 → parseFieldDescriptor (TX4 k).2.2.1 = some (tyX4 k) := by decide +kernel
abbrev cX4_init : ByteArray := prog_6_method_1_code
def yX4_init : MethodName := ⟨RX4, "<init>", "()V"⟩
abbrev cX4_readLines : ByteArray := prog_6_method_2_code
def yX4_readLines : MethodName := ⟨RX4, "readLines", "([IILTermShelf$Book;)I"⟩
abbrev cX4_readAlone : ByteArray := prog_6_method_3_code
def yX4_readAlone : MethodName := ⟨RX4, "readAlone", "([IILTermShelf$Book;LTermShelf$Term;)Z"⟩
abbrev cX4_begin : ByteArray := prog_6_method_4_code
def yX4_begin : MethodName := ⟨RX4, "begin", "([II)V"⟩
abbrev cX4_fail : ByteArray := prog_6_method_5_code
def yX4_fail : MethodName := ⟨RX4, "fail", "(I)Z"⟩
abbrev cX4_pass : ByteArray := prog_6_method_6_code
def yX4_pass : MethodName := ⟨RX4, "pass", "(I)Z"⟩
abbrev cX4_readLine : ByteArray := prog_6_method_7_code
def yX4_readLine : MethodName := ⟨RX4, "readLine", "(LTermShelf$Book;)Z"⟩
abbrev cX4_readSign : ByteArray := prog_6_method_8_code
def yX4_readSign : MethodName := ⟨RX4, "readSign", "(LTermShelf$Book;)Z"⟩
abbrev cX4_readVariable : ByteArray := prog_6_method_9_code
def yX4_readVariable : MethodName := ⟨RX4, "readVariable", "(LTermShelf$Book;)Z"⟩
abbrev cX4_readRule : ByteArray := prog_6_method_10_code
def yX4_readRule : MethodName := ⟨RX4, "readRule", "(LTermShelf$Book;)Z"⟩
abbrev cX4_passNewName : ByteArray := prog_6_method_11_code
def yX4_passNewName : MethodName := ⟨RX4, "passNewName", "(I)Z"⟩
abbrev cX4_readTerm : ByteArray := prog_6_method_12_code
def yX4_readTerm : MethodName := ⟨RX4, "readTerm", "(LTermShelf$Book;LTermShelf$Term;LTermShelf$Term;Z)Z"⟩
abbrev cX4_readPlace : ByteArray := prog_6_method_13_code
def yX4_readPlace : MethodName := ⟨RX4, "readPlace", "(LTermShelf$Book;LTermShelf$Term;LTermShelf$Term;Z)Z"⟩
abbrev cX4_closeBrackets : ByteArray := prog_6_method_14_code
def yX4_closeBrackets : MethodName := ⟨RX4, "closeBrackets", "(LTermShelf$Term;)Z"⟩
abbrev cX4_openBracket : ByteArray := prog_6_method_15_code
def yX4_openBracket : MethodName := ⟨RX4, "openBracket", "(I)Z"⟩
def RX5 : String := "TermShelf$Rewriter"
def TX5 : u_T := fun k => match k with
  | 0 => ("TermShelf$Rewriter", "matcher", "LTermShelf$Matcher;", true)
  | 1 => ("TermShelf$Rewriter", "next", "LTermShelf$Term;", false)
  | 2 => ("TermShelf$Rewriter", "now", "LTermShelf$Term;", false)
  | 3 => ("TermShelf$Rewriter", "done", "I", false)
  | _ => ("TermShelf$Rewriter", "firstRule", "I", false)
def tyX5 : Nat → FieldType := fun k => match k with
  | 0 => .object "TermShelf$Matcher"
  | 1 => .object "TermShelf$Term"
  | 2 => .object "TermShelf$Term"
  | 3 => .int
  | _ => .int
abbrev wsX50 : List Cond := u_ws RX5 TX5 5
theorem nmX5 : ∀ a, a < 5 → ∀ b, b < 5 → a ≠ b → (TX5 a).2.1 ≠ (TX5 b).2.1 := by decide +kernel
theorem tyX5_ok : ∀ k, k < 5 → parseFieldDescriptor (TX5 k).2.2.1 = some (tyX5 k) := by decide +kernel
abbrev cX5_init : ByteArray := prog_7_method_1_code
def yX5_init : MethodName := ⟨RX5, "<init>", "()V"⟩
abbrev cX5_rewrite : ByteArray := prog_7_method_2_code
def yX5_rewrite : MethodName := ⟨RX5, "rewrite", "(LTermShelf$Book;LTermShelf$Standing;LTermShelf$Term;)V"⟩
abbrev cX5_makeStep : ByteArray := prog_7_method_3_code
def yX5_makeStep : MethodName := ⟨RX5, "makeStep", "(LTermShelf$Book;LTermShelf$Standing;)Z"⟩
abbrev cX5_ruleFor : ByteArray := prog_7_method_4_code
def yX5_ruleFor : MethodName := ⟨RX5, "ruleFor", "(LTermShelf$Book;LTermShelf$Standing;I)I"⟩
abbrev cX5_replace : ByteArray := prog_7_method_5_code
def yX5_replace : MethodName := ⟨RX5, "replace", "(ILTermShelf$Term;I)Z"⟩
abbrev cX5_addFilled : ByteArray := prog_7_method_6_code
def yX5_addFilled : MethodName := ⟨RX5, "addFilled", "(LTermShelf$Term;I)Z"⟩
def RX6 : String := "TermShelf$Standing"
def TX6 : u_T := fun k => match k with
  | 0 => ("TermShelf$Standing", "turned", "[I", true)
  | 1 => ("TermShelf$Standing", "image", "I", false)
  | 2 => ("TermShelf$Standing", "hasImage", "Z", false)
  | 3 => ("TermShelf$Standing", "turnCount", "I", false)
  | _ => ("TermShelf$Standing", "bits", "I", false)
def tyX6 : Nat → FieldType := fun k => match k with
  | 0 => .array .int
  | 1 => .int
  | 2 => .boolean
  | 3 => .int
  | _ => .int
abbrev wsX60 : List Cond := u_ws RX6 TX6 5
theorem nmX6 : ∀ a, a < 5 → ∀ b, b < 5 → a ≠ b → (TX6 a).2.1 ≠ (TX6 b).2.1 := by decide +kernel
theorem tyX6_ok : ∀ k, k < 5 → parseFieldDescriptor (TX6 k).2.2.1 = some (tyX6 k) := by decide +kernel
abbrev cX6_init : ByteArray := prog_8_method_1_code
def yX6_init : MethodName := ⟨RX6, "<init>", "()V"⟩
abbrev cX6_startAnew : ByteArray := prog_8_method_2_code
def yX6_startAnew : MethodName := ⟨RX6, "startAnew", "(I)V"⟩
abbrev cX6_isIn : ByteArray := prog_8_method_3_code
def yX6_isIn : MethodName := ⟨RX6, "isIn", "(I)Z"⟩
abbrev cX6_turn : ByteArray := prog_8_method_4_code
def yX6_turn : MethodName := ⟨RX6, "turn", "(I)V"⟩
abbrev cX6_forgetFirst : ByteArray := prog_8_method_5_code
def yX6_forgetFirst : MethodName := ⟨RX6, "forgetFirst", "()V"⟩
abbrev cX6_turnLatestBack : ByteArray := prog_8_method_6_code
def yX6_turnLatestBack : MethodName := ⟨RX6, "turnLatestBack", "()Z"⟩
abbrev cX6_keepImage : ByteArray := prog_8_method_7_code
def yX6_keepImage : MethodName := ⟨RX6, "keepImage", "()V"⟩
abbrev cX6_takeImage : ByteArray := prog_8_method_8_code
def yX6_takeImage : MethodName := ⟨RX6, "takeImage", "()Z"⟩
def RX7 : String := "TermShelf$Term"
def TX7 : u_T := fun k => match k with
  | 0 => ("TermShelf$Term", "codes", "[I", true)
  | 1 => ("TermShelf$Term", "arities", "[I", true)
  | _ => ("TermShelf$Term", "size", "I", false)
def tyX7 : Nat → FieldType := fun k => match k with
  | 0 => .array .int
  | 1 => .array .int
  | _ => .int
abbrev wsX70 : List Cond := u_ws RX7 TX7 3
theorem nmX7 : ∀ a, a < 3 → ∀ b, b < 3 → a ≠ b → (TX7 a).2.1 ≠ (TX7 b).2.1 := by decide +kernel
theorem tyX7_ok : ∀ k, k < 3 → parseFieldDescriptor (TX7 k).2.2.1 = some (tyX7 k) := by decide +kernel
abbrev cX7_init : ByteArray := prog_9_method_1_code
def yX7_init : MethodName := ⟨RX7, "<init>", "(I)V"⟩
abbrev cX7_clear : ByteArray := prog_9_method_2_code
def yX7_clear : MethodName := ⟨RX7, "clear", "()V"⟩
abbrev cX7_add : ByteArray := prog_9_method_3_code
def yX7_add : MethodName := ⟨RX7, "add", "(II)Z"⟩
abbrev cX7_addPart : ByteArray := prog_9_method_4_code
def yX7_addPart : MethodName := ⟨RX7, "addPart", "(LTermShelf$Term;II)Z"⟩
abbrev cX7_copyOf : ByteArray := prog_9_method_5_code
def yX7_copyOf : MethodName := ⟨RX7, "copyOf", "(LTermShelf$Term;)V"⟩
abbrev cX7_copyApart : ByteArray := prog_9_method_6_code
def yX7_copyApart : MethodName := ⟨RX7, "copyApart", "(LTermShelf$Term;)V"⟩
abbrev cX7_copyAsOne : ByteArray := prog_9_method_7_code
def yX7_copyAsOne : MethodName := ⟨RX7, "copyAsOne", "(LTermShelf$Term;)V"⟩
abbrev cX7_codeAt : ByteArray := prog_9_method_8_code
def yX7_codeAt : MethodName := ⟨RX7, "codeAt", "(I)I"⟩
abbrev cX7_arityAt : ByteArray := prog_9_method_9_code
def yX7_arityAt : MethodName := ⟨RX7, "arityAt", "(I)I"⟩
abbrev cX7_codeOrMissing : ByteArray := prog_9_method_10_code
def yX7_codeOrMissing : MethodName := ⟨RX7, "codeOrMissing", "(I)I"⟩
abbrev cX7_pathCode : ByteArray := prog_9_method_11_code
def yX7_pathCode : MethodName := ⟨RX7, "pathCode", "(I)I"⟩
abbrev cX7_behind : ByteArray := prog_9_method_12_code
def yX7_behind : MethodName := ⟨RX7, "behind", "(I)I"⟩
abbrev cX7_isAlike : ByteArray := prog_9_method_13_code
def yX7_isAlike : MethodName := ⟨RX7, "isAlike", "(II)Z"⟩
abbrev cX7_firstPlace : ByteArray := prog_9_method_14_code
def yX7_firstPlace : MethodName := ⟨RX7, "firstPlace", "(I)I"⟩
abbrev cX7_variables : ByteArray := prog_9_method_15_code
def yX7_variables : MethodName := ⟨RX7, "variables", "()I"⟩
abbrev cX7_repeatsVariable : ByteArray := prog_9_method_16_code
def yX7_repeatsVariable : MethodName := ⟨RX7, "repeatsVariable", "()Z"⟩
abbrev cX7_levels : ByteArray := prog_9_method_17_code
def yX7_levels : MethodName := ⟨RX7, "levels", "()I"⟩
abbrev cX7_sharedPath : ByteArray := prog_9_method_18_code
def yX7_sharedPath : MethodName := ⟨RX7, "sharedPath", "(LTermShelf$Term;)I"⟩
abbrev cX7_isAheadByPath : ByteArray := prog_9_method_19_code
def yX7_isAheadByPath : MethodName := ⟨RX7, "isAheadByPath", "(LTermShelf$Term;)Z"⟩
def RX8 : String := "TermShelf$Tokens"
def TX8 : u_T := fun k => match k with
  | 0 => ("TermShelf$Tokens", "kinds", "[I", true)
  | 1 => ("TermShelf$Tokens", "starts", "[I", true)
  | 2 => ("TermShelf$Tokens", "values", "[I", true)
  | 3 => ("TermShelf$Tokens", "size", "I", false)
  | 4 => ("TermShelf$Tokens", "next", "I", false)
  | 5 => ("TermShelf$Tokens", "kind", "I", false)
  | 6 => ("TermShelf$Tokens", "start", "I", false)
  | _ => ("TermShelf$Tokens", "value", "I", false)
def tyX8 : Nat → FieldType := fun k => match k with
  | 0 => .array .int
  | 1 => .array .int
  | 2 => .array .int
  | 3 => .int
  | 4 => .int
  | 5 => .int
  | 6 => .int
  | _ => .int
abbrev wsX80 : List Cond := u_ws RX8 TX8 8
theorem nmX8 : ∀ a, a < 8 → ∀ b, b < 8 → a ≠ b → (TX8 a).2.1 ≠ (TX8 b).2.1 := by decide +kernel
theorem tyX8_ok : ∀ k, k < 8 → parseFieldDescriptor (TX8 k).2.2.1 = some (tyX8 k) := by decide +kernel
abbrev cX8_init : ByteArray := prog_10_method_1_code
def yX8_init : MethodName := ⟨RX8, "<init>", "()V"⟩
abbrev cX8_startOn : ByteArray := prog_10_method_2_code
def yX8_startOn : MethodName := ⟨RX8, "startOn", "([II)V"⟩
abbrev cX8_advance : ByteArray := prog_10_method_3_code
def yX8_advance : MethodName := ⟨RX8, "advance", "()V"⟩
abbrev cX8_append : ByteArray := prog_10_method_4_code
def yX8_append : MethodName := ⟨RX8, "append", "(III)V"⟩
abbrev cX8_takeToken : ByteArray := prog_10_method_5_code
def yX8_takeToken : MethodName := ⟨RX8, "takeToken", "([III)I"⟩
abbrev cX8_takeWord : ByteArray := prog_10_method_6_code
def yX8_takeWord : MethodName := ⟨RX8, "takeWord", "([III)I"⟩
abbrev cX8_takeNumber : ByteArray := prog_10_method_7_code
def yX8_takeNumber : MethodName := ⟨RX8, "takeNumber", "([III)I"⟩
abbrev cX8_wordKind : ByteArray := prog_10_method_8_code
def yX8_wordKind : MethodName := ⟨RX8, "wordKind", "(I)I"⟩
abbrev cX8_markKind : ByteArray := prog_10_method_9_code
def yX8_markKind : MethodName := ⟨RX8, "markKind", "(I)I"⟩
abbrev cX8_isBlank : ByteArray := prog_10_method_10_code
def yX8_isBlank : MethodName := ⟨RX8, "isBlank", "(I)Z"⟩
abbrev cX8_isLetter : ByteArray := prog_10_method_11_code
def yX8_isLetter : MethodName := ⟨RX8, "isLetter", "(I)Z"⟩
abbrev cX8_isDigit : ByteArray := prog_10_method_12_code
def yX8_isDigit : MethodName := ⟨RX8, "isDigit", "(I)Z"⟩
def RX9 : String := "TermShelf$Tree"
def TX9 : u_T := fun k => match k with
  | 0 => ("TermShelf$Tree", "rules", "[I", true)
  | 1 => ("TermShelf$Tree", "terms", "[LTermShelf$Term;", true)
  | 2 => ("TermShelf$Tree", "sharedAhead", "[I", true)
  | 3 => ("TermShelf$Tree", "noTerm", "LTermShelf$Term;", true)
  | 4 => ("TermShelf$Tree", "size", "I", false)
  | 5 => ("TermShelf$Tree", "candidates", "I", false)
  | _ => ("TermShelf$Tree", "visited", "I", false)
def tyX9 : Nat → FieldType := fun k => match k with
  | 0 => .array .int
  | 1 => .array (.object "TermShelf$Term")
  | 2 => .array .int
  | 3 => .object "TermShelf$Term"
  | 4 => .int
  | 5 => .int
  | _ => .int
abbrev wsX90 : List Cond := u_ws RX9 TX9 7
theorem nmX9 : ∀ a, a < 7 → ∀ b, b < 7 → a ≠ b → (TX9 a).2.1 ≠ (TX9 b).2.1 := by decide +kernel
theorem tyX9_ok : ∀ k, k < 7 → parseFieldDescriptor (TX9 k).2.2.1 = some (tyX9 k) := by decide +kernel
abbrev cX9_init : ByteArray := prog_11_method_1_code
def yX9_init : MethodName := ⟨RX9, "<init>", "()V"⟩
abbrev cX9_plant : ByteArray := prog_11_method_2_code
def yX9_plant : MethodName := ⟨RX9, "plant", "(LTermShelf$Book;LTermShelf$Standing;)V"⟩
abbrev cX9_insert : ByteArray := prog_11_method_3_code
def yX9_insert : MethodName := ⟨RX9, "insert", "(ILTermShelf$Term;)V"⟩
abbrev cX9_ruleAt : ByteArray := prog_11_method_4_code
def yX9_ruleAt : MethodName := ⟨RX9, "ruleAt", "(I)I"⟩
abbrev cX9_termAt : ByteArray := prog_11_method_5_code
def yX9_termAt : MethodName := ⟨RX9, "termAt", "(I)LTermShelf$Term;"⟩
abbrev cX9_bringsNode : ByteArray := prog_11_method_6_code
def yX9_bringsNode : MethodName := ⟨RX9, "bringsNode", "(II)Z"⟩
abbrev cX9_nodesOfLength : ByteArray := prog_11_method_7_code
def yX9_nodesOfLength : MethodName := ⟨RX9, "nodesOfLength", "(I)I"⟩
abbrev cX9_nodes : ByteArray := prog_11_method_8_code
def yX9_nodes : MethodName := ⟨RX9, "nodes", "()I"⟩
abbrev cX9_leaves : ByteArray := prog_11_method_9_code
def yX9_leaves : MethodName := ⟨RX9, "leaves", "()I"⟩
abbrev cX9_branchCode : ByteArray := prog_11_method_10_code
def yX9_branchCode : MethodName := ⟨RX9, "branchCode", "(II)I"⟩
abbrev cX9_longestPath : ByteArray := prog_11_method_11_code
def yX9_longestPath : MethodName := ⟨RX9, "longestPath", "()I"⟩
abbrev cX9_repeatingRules : ByteArray := prog_11_method_12_code
def yX9_repeatingRules : MethodName := ⟨RX9, "repeatingRules", "()I"⟩
abbrev cX9_largestClass : ByteArray := prog_11_method_13_code
def yX9_largestClass : MethodName := ⟨RX9, "largestClass", "(I)I"⟩
abbrev cX9_classCode : ByteArray := prog_11_method_14_code
def yX9_classCode : MethodName := ⟨RX9, "classCode", "(II)I"⟩
abbrev cX9_walk : ByteArray := prog_11_method_15_code
def yX9_walk : MethodName := ⟨RX9, "walk", "(ILTermShelf$Term;)V"⟩
abbrev cX9_walkPath : ByteArray := prog_11_method_16_code
def yX9_walkPath : MethodName := ⟨RX9, "walkPath", "(IILTermShelf$Term;)Z"⟩
def RX10 : String := "TermShelf$Unifier"
def TX10 : u_T := fun k => match k with
  | 0 => ("TermShelf$Unifier", "codes", "[I", true)
  | 1 => ("TermShelf$Unifier", "arities", "[I", true)
  | 2 => ("TermShelf$Unifier", "behind", "[I", true)
  | 3 => ("TermShelf$Unifier", "parents", "[I", true)
  | 4 => ("TermShelf$Unifier", "signs", "[I", true)
  | 5 => ("TermShelf$Unifier", "numbers", "[I", true)
  | 6 => ("TermShelf$Unifier", "settled", "[Z", true)
  | 7 => ("TermShelf$Unifier", "ones", "[I", true)
  | 8 => ("TermShelf$Unifier", "others", "[I", true)
  | 9 => ("TermShelf$Unifier", "pending", "[I", true)
  | 10 => ("TermShelf$Unifier", "shape", "LTermShelf$Term;", true)
  | 11 => ("TermShelf$Unifier", "size", "I", false)
  | 12 => ("TermShelf$Unifier", "pairs", "I", false)
  | 13 => ("TermShelf$Unifier", "waiting", "I", false)
  | _ => ("TermShelf$Unifier", "numbered", "I", false)
def tyX10 : Nat → FieldType := fun k => match k with
  | 0 => .array .int
  | 1 => .array .int
  | 2 => .array .int
  | 3 => .array .int
  | 4 => .array .int
  | 5 => .array .int
  | 6 => .array .boolean
  | 7 => .array .int
  | 8 => .array .int
  | 9 => .array .int
  | 10 => .object "TermShelf$Term"
  | 11 => .int
  | 12 => .int
  | 13 => .int
  | _ => .int
abbrev wsX100 : List Cond := u_ws RX10 TX10 15
theorem nmX10 : ∀ a, a < 15 → ∀ b, b < 15 → a ≠ b → (TX10 a).2.1 ≠ (TX10 b).2.1 := by decide +kernel
theorem tyX10_ok : ∀ k, k < 15 → parseFieldDescriptor (TX10 k).2.2.1 = some (tyX10 k) := by decide +kernel
abbrev cX10_init : ByteArray := prog_12_method_1_code
def yX10_init : MethodName := ⟨RX10, "<init>", "()V"⟩
abbrev cX10_unifies : ByteArray := prog_12_method_2_code
def yX10_unifies : MethodName := ⟨RX10, "unifies", "(LTermShelf$Term;ILTermShelf$Term;)Z"⟩
abbrev cX10_load : ByteArray := prog_12_method_3_code
def yX10_load : MethodName := ⟨RX10, "load", "(LTermShelf$Term;)V"⟩
abbrev cX10_isNode : ByteArray := prog_12_method_4_code
def yX10_isNode : MethodName := ⟨RX10, "isNode", "(I)Z"⟩
abbrev cX10_uniteAll : ByteArray := prog_12_method_5_code
def yX10_uniteAll : MethodName := ⟨RX10, "uniteAll", "()Z"⟩
abbrev cX10_classOf : ByteArray := prog_12_method_6_code
def yX10_classOf : MethodName := ⟨RX10, "classOf", "(I)I"⟩
abbrev cX10_unite : ByteArray := prog_12_method_7_code
def yX10_unite : MethodName := ⟨RX10, "unite", "(II)Z"⟩
abbrev cX10_pairArguments : ByteArray := prog_12_method_8_code
def yX10_pairArguments : MethodName := ⟨RX10, "pairArguments", "(II)V"⟩
abbrev cX10_hasNoCircle : ByteArray := prog_12_method_9_code
def yX10_hasNoCircle : MethodName := ⟨RX10, "hasNoCircle", "()Z"⟩
abbrev cX10_settleMore : ByteArray := prog_12_method_10_code
def yX10_settleMore : MethodName := ⟨RX10, "settleMore", "()I"⟩
abbrev cX10_isSettling : ByteArray := prog_12_method_11_code
def yX10_isSettling : MethodName := ⟨RX10, "isSettling", "(I)Z"⟩
abbrev cX10_unifiedShape : ByteArray := prog_12_method_12_code
def yX10_unifiedShape : MethodName := ⟨RX10, "unifiedShape", "()LTermShelf$Term;"⟩
abbrev cX10_writeClass : ByteArray := prog_12_method_13_code
def yX10_writeClass : MethodName := ⟨RX10, "writeClass", "(I)V"⟩
abbrev cX10_awaitArguments : ByteArray := prog_12_method_14_code
def yX10_awaitArguments : MethodName := ⟨RX10, "awaitArguments", "(I)V"⟩
def RX11 : String := "TermShelf"
def TX11 : u_T := fun k => match k with
  | 0 => ("TermShelf", "tape", "[I", true)
  | 1 => ("TermShelf", "taped", "I", false)
  | 2 => ("TermShelf", "book", "LTermShelf$Book;", false)
  | 3 => ("TermShelf", "spareBook", "LTermShelf$Book;", false)
  | 4 => ("TermShelf", "asking", "LTermShelf$Term;", false)
  | 5 => ("TermShelf", "spareTerm", "LTermShelf$Term;", false)
  | 6 => ("TermShelf", "looseTerm", "LTermShelf$Term;", true)
  | 7 => ("TermShelf", "looseAsking", "LTermShelf$Term;", true)
  | 8 => ("TermShelf", "reader", "LTermShelf$Reader;", true)
  | 9 => ("TermShelf", "standing", "LTermShelf$Standing;", true)
  | 10 => ("TermShelf", "tree", "LTermShelf$Tree;", true)
  | 11 => ("TermShelf", "matcher", "LTermShelf$Matcher;", true)
  | 12 => ("TermShelf", "unifier", "LTermShelf$Unifier;", true)
  | 13 => ("TermShelf", "joiner", "LTermShelf$Joiner;", true)
  | 14 => ("TermShelf", "rewriter", "LTermShelf$Rewriter;", true)
  | _ => ("TermShelf", "drawer", "LTermShelf$Drawer;", true)
def tyX11 : Nat → FieldType := fun k => match k with
  | 0 => .array .int
  | 1 => .int
  | 2 => .object "TermShelf$Book"
  | 3 => .object "TermShelf$Book"
  | 4 => .object "TermShelf$Term"
  | 5 => .object "TermShelf$Term"
  | 6 => .object "TermShelf$Term"
  | 7 => .object "TermShelf$Term"
  | 8 => .object "TermShelf$Reader"
  | 9 => .object "TermShelf$Standing"
  | 10 => .object "TermShelf$Tree"
  | 11 => .object "TermShelf$Matcher"
  | 12 => .object "TermShelf$Unifier"
  | 13 => .object "TermShelf$Joiner"
  | 14 => .object "TermShelf$Rewriter"
  | _ => .object "TermShelf$Drawer"
abbrev wsX110 : List Cond := u_ws RX11 TX11 16
theorem nmX11 : ∀ a, a < 16 → ∀ b, b < 16 → a ≠ b → (TX11 a).2.1 ≠ (TX11 b).2.1 := by decide +kernel
theorem tyX11_ok : ∀ k, k < 16 → parseFieldDescriptor (TX11 k).2.2.1 = some (tyX11 k) := by decide +kernel
abbrev cX11_init : ByteArray := prog_1_method_1_code
def yX11_init : MethodName := ⟨RX11, "<init>", "()V"⟩
abbrev cX11_feed : ByteArray := prog_1_method_2_code
def yX11_feed : MethodName := ⟨RX11, "feed", "(IIIII)I"⟩
abbrev cX11_text : ByteArray := prog_1_method_3_code
def yX11_text : MethodName := ⟨RX11, "text", "(I)I"⟩
abbrev cX11_query : ByteArray := prog_1_method_4_code
def yX11_query : MethodName := ⟨RX11, "query", "(I)I"⟩
abbrev cX11_fault : ByteArray := prog_1_method_5_code
def yX11_fault : MethodName := ⟨RX11, "fault", "(I)I"⟩
abbrev cX11_named : ByteArray := prog_1_method_6_code
def yX11_named : MethodName := ⟨RX11, "named", "(II)I"⟩
abbrev cX11_rule : ByteArray := prog_1_method_7_code
def yX11_rule : MethodName := ⟨RX11, "rule", "(II)I"⟩
abbrev cX11_code : ByteArray := prog_1_method_8_code
def yX11_code : MethodName := ⟨RX11, "code", "(IIZ)I"⟩
abbrev cX11_skip : ByteArray := prog_1_method_9_code
def yX11_skip : MethodName := ⟨RX11, "skip", "(II)I"⟩
abbrev cX11_asked : ByteArray := prog_1_method_10_code
def yX11_asked : MethodName := ⟨RX11, "asked", "(I)I"⟩
abbrev cX11_take : ByteArray := prog_1_method_11_code
def yX11_take : MethodName := ⟨RX11, "take", "(I)I"⟩
abbrev cX11_put : ByteArray := prog_1_method_12_code
def yX11_put : MethodName := ⟨RX11, "put", "(I)I"⟩
abbrev cX11_fits : ByteArray := prog_1_method_13_code
def yX11_fits : MethodName := ⟨RX11, "fits", "(II)I"⟩
abbrev cX11_found : ByteArray := prog_1_method_14_code
def yX11_found : MethodName := ⟨RX11, "found", "(II)I"⟩
abbrev cX11_finding : ByteArray := prog_1_method_15_code
def yX11_finding : MethodName := ⟨RX11, "finding", "(II)I"⟩
abbrev cX11_filled : ByteArray := prog_1_method_16_code
def yX11_filled : MethodName := ⟨RX11, "filled", "(III)I"⟩
abbrev cX11_meeting : ByteArray := prog_1_method_17_code
def yX11_meeting : MethodName := ⟨RX11, "meeting", "(II)I"⟩
abbrev cX11_above : ByteArray := prog_1_method_18_code
def yX11_above : MethodName := ⟨RX11, "above", "(I)I"⟩
abbrev cX11_shadowed : ByteArray := prog_1_method_19_code
def yX11_shadowed : MethodName := ⟨RX11, "shadowed", "()I"⟩
abbrev cX11_joined : ByteArray := prog_1_method_20_code
def yX11_joined : MethodName := ⟨RX11, "joined", "(III)I"⟩
abbrev cX11_overlaps : ByteArray := prog_1_method_21_code
def yX11_overlaps : MethodName := ⟨RX11, "overlaps", "(II)I"⟩
abbrev cX11_shared : ByteArray := prog_1_method_22_code
def yX11_shared : MethodName := ⟨RX11, "shared", "(II)I"⟩
abbrev cX11_critical : ByteArray := prog_1_method_23_code
def yX11_critical : MethodName := ⟨RX11, "critical", "(IIII)I"⟩
abbrev cX11_criticals : ByteArray := prog_1_method_24_code
def yX11_criticals : MethodName := ⟨RX11, "criticals", "()I"⟩
abbrev cX11_depth : ByteArray := prog_1_method_25_code
def yX11_depth : MethodName := ⟨RX11, "depth", "(I)I"⟩
abbrev cX11_specific : ByteArray := prog_1_method_26_code
def yX11_specific : MethodName := ⟨RX11, "specific", "(I)I"⟩
abbrev cX11_branch : ByteArray := prog_1_method_27_code
def yX11_branch : MethodName := ⟨RX11, "branch", "(II)I"⟩
abbrev cX11_tops : ByteArray := prog_1_method_28_code
def yX11_tops : MethodName := ⟨RX11, "tops", "()I"⟩
abbrev cX11_beside : ByteArray := prog_1_method_29_code
def yX11_beside : MethodName := ⟨RX11, "beside", "(III)I"⟩
abbrev cX11_steps : ByteArray := prog_1_method_30_code
def yX11_steps : MethodName := ⟨RX11, "steps", "(I)I"⟩
abbrev cX11_normal : ByteArray := prog_1_method_31_code
def yX11_normal : MethodName := ⟨RX11, "normal", "(I)I"⟩
abbrev cX11_apart : ByteArray := prog_1_method_32_code
def yX11_apart : MethodName := ⟨RX11, "apart", "(I)I"⟩
abbrev cX11_width : ByteArray := prog_1_method_33_code
def yX11_width : MethodName := ⟨RX11, "width", "(I)I"⟩
abbrev cX11_order : ByteArray := prog_1_method_34_code
def yX11_order : MethodName := ⟨RX11, "order", "(I)I"⟩
abbrev cX11_chance : ByteArray := prog_1_method_35_code
def yX11_chance : MethodName := ⟨RX11, "chance", "(II)I"⟩
abbrev cX11_draw : ByteArray := prog_1_method_36_code
def yX11_draw : MethodName := ⟨RX11, "draw", "(I)I"⟩
abbrev cX11_tried : ByteArray := prog_1_method_37_code
def yX11_tried : MethodName := ⟨RX11, "tried", "(III)I"⟩
abbrev cX11_undo : ByteArray := prog_1_method_38_code
def yX11_undo : MethodName := ⟨RX11, "undo", "()I"⟩
abbrev cX11_keep : ByteArray := prog_1_method_39_code
def yX11_keep : MethodName := ⟨RX11, "keep", "()I"⟩
abbrev cX11_back : ByteArray := prog_1_method_40_code
def yX11_back : MethodName := ⟨RX11, "back", "()I"⟩
abbrev cX11_count : ByteArray := prog_1_method_41_code
def yX11_count : MethodName := ⟨RX11, "count", "(I)I"⟩
abbrev cX11_tapeNumber : ByteArray := prog_1_method_42_code
def yX11_tapeNumber : MethodName := ⟨RX11, "tapeNumber", "(I)V"⟩
abbrev cX11_askSpareTerm : ByteArray := prog_1_method_43_code
def yX11_askSpareTerm : MethodName := ⟨RX11, "askSpareTerm", "()V"⟩
abbrev cX11_turnedNodes : ByteArray := prog_1_method_44_code
def yX11_turnedNodes : MethodName := ⟨RX11, "turnedNodes", "(I)I"⟩
abbrev cX11_isAskedRule : ByteArray := prog_1_method_45_code
def yX11_isAskedRule : MethodName := ⟨RX11, "isAskedRule", "(I)Z"⟩
abbrev cX11_isWay : ByteArray := prog_1_method_46_code
def yX11_isWay : MethodName := ⟨RX11, "isWay", "(I)Z"⟩
abbrev cX11_hasBit : ByteArray := prog_1_method_47_code
def yX11_hasBit : MethodName := ⟨RX11, "hasBit", "(II)Z"⟩
abbrev cX11_bitsBehind : ByteArray := prog_1_method_48_code
def yX11_bitsBehind : MethodName := ⟨RX11, "bitsBehind", "(I)I"⟩
abbrev cX11_fitsTerms : ByteArray := prog_1_method_49_code
def yX11_fitsTerms : MethodName := ⟨RX11, "fitsTerms", "(ILTermShelf$Term;LTermShelf$Term;)Z"⟩
abbrev cX11_fitBits : ByteArray := prog_1_method_50_code
def yX11_fitBits : MethodName := ⟨RX11, "fitBits", "(ILTermShelf$Term;I)I"⟩
abbrev cX11_looseCount : ByteArray := prog_1_method_51_code
def yX11_looseCount : MethodName := ⟨RX11, "looseCount", "(ILTermShelf$Term;)I"⟩
abbrev cX11_aboveBits : ByteArray := prog_1_method_52_code
def yX11_aboveBits : MethodName := ⟨RX11, "aboveBits", "(I)I"⟩
abbrev cX11_isTop : ByteArray := prog_1_method_53_code
def yX11_isTop : MethodName := ⟨RX11, "isTop", "(I)Z"⟩
abbrev cX11_overlapBits : ByteArray := prog_1_method_54_code
def yX11_overlapBits : MethodName := ⟨RX11, "overlapBits", "(II)I"⟩
abbrev cX11_overlapsAt : ByteArray := prog_1_method_55_code
def yX11_overlapsAt : MethodName := ⟨RX11, "overlapsAt", "(III)Z"⟩
def RX12 : String := "TermShelfModel"
def TX12 : u_T := fun k => match k with
  | 0 => ("TermShelfModel", "tape", "[I", true)
  | 1 => ("TermShelfModel", "tapeSize", "I", false)
  | 2 => ("TermShelfModel", "thrown", "I", false)
  | 3 => ("TermShelfModel", "words", "[I", true)
  | 4 => ("TermShelfModel", "fault", "I", false)
  | 5 => ("TermShelfModel", "faultPlace", "I", false)
  | 6 => ("TermShelfModel", "stop", "I", false)
  | 7 => ("TermShelfModel", "next", "I", false)
  | 8 => ("TermShelfModel", "kind", "I", false)
  | 9 => ("TermShelfModel", "which", "I", false)
  | 10 => ("TermShelfModel", "at", "I", false)
  | 11 => ("TermShelfModel", "got", "I", false)
  | 12 => ("TermShelfModel", "signs", "I", false)
  | 13 => ("TermShelfModel", "vars", "I", false)
  | 14 => ("TermShelfModel", "rules", "I", false)
  | 15 => ("TermShelfModel", "signsRead", "I", false)
  | 16 => ("TermShelfModel", "varsRead", "I", false)
  | 17 => ("TermShelfModel", "rulesRead", "I", false)
  | 18 => ("TermShelfModel", "signName", "[I", true)
  | 19 => ("TermShelfModel", "arity", "[I", true)
  | 20 => ("TermShelfModel", "varName", "[I", true)
  | 21 => ("TermShelfModel", "ruleName", "[I", true)
  | 22 => ("TermShelfModel", "ruleLong", "[I", true)
  | 23 => ("TermShelfModel", "ruleRow", "[I", true)
  | 24 => ("TermShelfModel", "rightLong", "[I", true)
  | 25 => ("TermShelfModel", "rightRow", "[I", true)
  | 26 => ("TermShelfModel", "inNow", "I", false)
  | 27 => ("TermShelfModel", "queryRow", "[I", true)
  | 28 => ("TermShelfModel", "queryLong", "I", false)
  | 29 => ("TermShelfModel", "made", "[I", true)
  | 30 => ("TermShelfModel", "madeLong", "I", false)
  | 31 => ("TermShelfModel", "awaited", "[I", true)
  | 32 => ("TermShelfModel", "heap", "[I", true)
  | 33 => ("TermShelfModel", "heapTop", "I", false)
  | 34 => ("TermShelfModel", "bound", "[I", true)
  | 35 => ("TermShelfModel", "waitA", "[I", true)
  | 36 => ("TermShelfModel", "waitB", "[I", true)
  | 37 => ("TermShelfModel", "waitC", "[I", true)
  | 38 => ("TermShelfModel", "shape", "[I", true)
  | 39 => ("TermShelfModel", "shapeLong", "I", false)
  | 40 => ("TermShelfModel", "numberOf", "[I", true)
  | 41 => ("TermShelfModel", "triedNow", "I", false)
  | 42 => ("TermShelfModel", "visited", "I", false)
  | 43 => ("TermShelfModel", "candidates", "I", false)
  | 44 => ("TermShelfModel", "foundRow", "[I", true)
  | 45 => ("TermShelfModel", "foundMany", "I", false)
  | 46 => ("TermShelfModel", "partA", "[I", true)
  | 47 => ("TermShelfModel", "partB", "[I", true)
  | 48 => ("TermShelfModel", "now", "[I", true)
  | 49 => ("TermShelfModel", "nowLong", "I", false)
  | 50 => ("TermShelfModel", "stepsDone", "I", false)
  | 51 => ("TermShelfModel", "firstRule", "I", false)
  | 52 => ("TermShelfModel", "then", "[I", true)
  | 53 => ("TermShelfModel", "thenLong", "I", false)
  | 54 => ("TermShelfModel", "drawn", "J", false)
  | 55 => ("TermShelfModel", "keptRow", "[I", true)
  | 56 => ("TermShelfModel", "undos", "I", false)
  | 57 => ("TermShelfModel", "undo", "[I", true)
  | 58 => ("TermShelfModel", "hasImage", "Z", false)
  | _ => ("TermShelfModel", "image", "I", false)
def tyX12 : Nat → FieldType := fun k => match k with
  | 0 => .array .int
  | 1 => .int
  | 2 => .int
  | 3 => .array .int
  | 4 => .int
  | 5 => .int
  | 6 => .int
  | 7 => .int
  | 8 => .int
  | 9 => .int
  | 10 => .int
  | 11 => .int
  | 12 => .int
  | 13 => .int
  | 14 => .int
  | 15 => .int
  | 16 => .int
  | 17 => .int
  | 18 => .array .int
  | 19 => .array .int
  | 20 => .array .int
  | 21 => .array .int
  | 22 => .array .int
  | 23 => .array .int
  | 24 => .array .int
  | 25 => .array .int
  | 26 => .int
  | 27 => .array .int
  | 28 => .int
  | 29 => .array .int
  | 30 => .int
  | 31 => .array .int
  | 32 => .array .int
  | 33 => .int
  | 34 => .array .int
  | 35 => .array .int
  | 36 => .array .int
  | 37 => .array .int
  | 38 => .array .int
  | 39 => .int
  | 40 => .array .int
  | 41 => .int
  | 42 => .int
  | 43 => .int
  | 44 => .array .int
  | 45 => .int
  | 46 => .array .int
  | 47 => .array .int
  | 48 => .array .int
  | 49 => .int
  | 50 => .int
  | 51 => .int
  | 52 => .array .int
  | 53 => .int
  | 54 => .long
  | 55 => .array .int
  | 56 => .int
  | 57 => .array .int
  | 58 => .boolean
  | _ => .int
abbrev wsX120 : List Cond := u_ws RX12 TX12 60
theorem nmX12 : ∀ a, a < 60 → ∀ b, b < 60 → a ≠ b → (TX12 a).2.1 ≠ (TX12 b).2.1 := by decide +kernel
theorem tyX12_ok : ∀ k, k < 60 → parseFieldDescriptor (TX12 k).2.2.1 = some (tyX12 k) := by decide +kernel
abbrev cX12_init : ByteArray := prog_14_method_1_code
def yX12_init : MethodName := ⟨RX12, "<init>", "()V"⟩
abbrev cX12_thrown : ByteArray := prog_14_method_2_code
def yX12_thrown : MethodName := ⟨RX12, "thrown", "()I"⟩
abbrev cX12_feed : ByteArray := prog_14_method_3_code
def yX12_feed : MethodName := ⟨RX12, "feed", "(IIIII)I"⟩
abbrev cX12_isIn : ByteArray := prog_14_method_4_code
def yX12_isIn : MethodName := ⟨RX12, "isIn", "(III)Z"⟩
abbrev cX12_isOf : ByteArray := prog_14_method_5_code
def yX12_isOf : MethodName := ⟨RX12, "isOf", "(II)Z"⟩
abbrev cX12_wrong : ByteArray := prog_14_method_6_code
def yX12_wrong : MethodName := ⟨RX12, "wrong", "(I)Z"⟩
abbrev cX12_wordAt : ByteArray := prog_14_method_7_code
def yX12_wordAt : MethodName := ⟨RX12, "wordAt", "(II)I"⟩
abbrev cX12_isSmall : ByteArray := prog_14_method_8_code
def yX12_isSmall : MethodName := ⟨RX12, "isSmall", "(I)Z"⟩
abbrev cX12_isDigit : ByteArray := prog_14_method_9_code
def yX12_isDigit : MethodName := ⟨RX12, "isDigit", "(I)Z"⟩
abbrev cX12_token : ByteArray := prog_14_method_10_code
def yX12_token : MethodName := ⟨RX12, "token", "()V"⟩
abbrev cX12_signToken : ByteArray := prog_14_method_11_code
def yX12_signToken : MethodName := ⟨RX12, "signToken", "()V"⟩
abbrev cX12_packed : ByteArray := prog_14_method_12_code
def yX12_packed : MethodName := ⟨RX12, "packed", "(II)I"⟩
abbrev cX12_isSign : ByteArray := prog_14_method_14_code
def yX12_isSign : MethodName := ⟨RX12, "isSign", "(I)Z"⟩
abbrev cX12_number : ByteArray := prog_14_method_15_code
def yX12_number : MethodName := ⟨RX12, "number", "(II)Z"⟩
abbrev cX12_plain : ByteArray := prog_14_method_17_code
def yX12_plain : MethodName := ⟨RX12, "plain", "()V"⟩
abbrev cX12_copies : ByteArray := prog_14_method_18_code
def yX12_copies : MethodName := ⟨RX12, "copies", "([II)V"⟩
abbrev cX12_keepText : ByteArray := prog_14_method_19_code
def yX12_keepText : MethodName := ⟨RX12, "keepText", "()V"⟩
abbrev cX12_find : ByteArray := prog_14_method_20_code
def yX12_find : MethodName := ⟨RX12, "find", "([IIII)I"⟩
abbrev cX12_codeBy : ByteArray := prog_14_method_21_code
def yX12_codeBy : MethodName := ⟨RX12, "codeBy", "(II)I"⟩
abbrev cX12_signLine : ByteArray := prog_14_method_22_code
def yX12_signLine : MethodName := ⟨RX12, "signLine", "()Z"⟩
abbrev cX12_varLine : ByteArray := prog_14_method_23_code
def yX12_varLine : MethodName := ⟨RX12, "varLine", "()Z"⟩
abbrev cX12_termRead : ByteArray := prog_14_method_24_code
def yX12_termRead : MethodName := ⟨RX12, "termRead", "(II)Z"⟩
abbrev cX12_ruleLine : ByteArray := prog_14_method_25_code
def yX12_ruleLine : MethodName := ⟨RX12, "ruleLine", "()Z"⟩
abbrev cX12_lineRead : ByteArray := prog_14_method_26_code
def yX12_lineRead : MethodName := ⟨RX12, "lineRead", "()Z"⟩
abbrev cX12_starts : ByteArray := prog_14_method_27_code
def yX12_starts : MethodName := ⟨RX12, "starts", "(I)V"⟩
abbrev cX12_text : ByteArray := prog_14_method_28_code
def yX12_text : MethodName := ⟨RX12, "text", "(I)I"⟩
abbrev cX12_query : ByteArray := prog_14_method_29_code
def yX12_query : MethodName := ⟨RX12, "query", "(I)I"⟩
abbrev cX12_asks : ByteArray := prog_14_method_30_code
def yX12_asks : MethodName := ⟨RX12, "asks", "()V"⟩
abbrev cX12_fault : ByteArray := prog_14_method_31_code
def yX12_fault : MethodName := ⟨RX12, "fault", "(I)I"⟩
abbrev cX12_named : ByteArray := prog_14_method_32_code
def yX12_named : MethodName := ⟨RX12, "named", "(II)I"⟩
abbrev cX12_manyOf : ByteArray := prog_14_method_33_code
def yX12_manyOf : MethodName := ⟨RX12, "manyOf", "(I)I"⟩
abbrev cX12_endOf : ByteArray := prog_14_method_34_code
def yX12_endOf : MethodName := ⟨RX12, "endOf", "([II[I)I"⟩
abbrev cX12_endAt : ByteArray := prog_14_method_35_code
def yX12_endAt : MethodName := ⟨RX12, "endAt", "(I)I"⟩
abbrev cX12_clears : ByteArray := prog_14_method_36_code
def yX12_clears : MethodName := ⟨RX12, "clears", "()V"⟩
abbrev cX12_puts : ByteArray := prog_14_method_37_code
def yX12_puts : MethodName := ⟨RX12, "puts", "([IIII)I"⟩
abbrev cX12_putsRule : ByteArray := prog_14_method_38_code
def yX12_putsRule : MethodName := ⟨RX12, "putsRule", "(II)I"⟩
abbrev cX12_isAlike : ByteArray := prog_14_method_39_code
def yX12_isAlike : MethodName := ⟨RX12, "isAlike", "(II)Z"⟩
abbrev cX12_isMade : ByteArray := prog_14_method_40_code
def yX12_isMade : MethodName := ⟨RX12, "isMade", "(II)Z"⟩
abbrev cX12_led : ByteArray := prog_14_method_41_code
def yX12_led : MethodName := ⟨RX12, "led", "(I)I"⟩
abbrev cX12_isWithin : ByteArray := prog_14_method_42_code
def yX12_isWithin : MethodName := ⟨RX12, "isWithin", "(II)Z"⟩
abbrev cX12_isUnified : ByteArray := prog_14_method_43_code
def yX12_isUnified : MethodName := ⟨RX12, "isUnified", "(II)Z"⟩
abbrev cX12_isShaped : ByteArray := prog_14_method_44_code
def yX12_isShaped : MethodName := ⟨RX12, "isShaped", "(I)Z"⟩
abbrev cX12_putsQuery : ByteArray := prog_14_method_45_code
def yX12_putsQuery : MethodName := ⟨RX12, "putsQuery", "()I"⟩
abbrev cX12_isFit : ByteArray := prog_14_method_46_code
def yX12_isFit : MethodName := ⟨RX12, "isFit", "(II)Z"⟩
abbrev cX12_isRule : ByteArray := prog_14_method_47_code
def yX12_isRule : MethodName := ⟨RX12, "isRule", "(I)Z"⟩
abbrev cX12_isInNow : ByteArray := prog_14_method_48_code
def yX12_isInNow : MethodName := ⟨RX12, "isInNow", "(I)Z"⟩
abbrev cX12_fits : ByteArray := prog_14_method_49_code
def yX12_fits : MethodName := ⟨RX12, "fits", "(II)I"⟩
abbrev cX12_stepAt : ByteArray := prog_14_method_50_code
def yX12_stepAt : MethodName := ⟨RX12, "stepAt", "(II)I"⟩
abbrev cX12_sharedBy : ByteArray := prog_14_method_51_code
def yX12_sharedBy : MethodName := ⟨RX12, "sharedBy", "(II)I"⟩
abbrev cX12_rankOf : ByteArray := prog_14_method_52_code
def yX12_rankOf : MethodName := ⟨RX12, "rankOf", "(I)I"⟩
abbrev cX12_isAhead : ByteArray := prog_14_method_53_code
def yX12_isAhead : MethodName := ⟨RX12, "isAhead", "(II)Z"⟩
abbrev cX12_placeOf : ByteArray := prog_14_method_54_code
def yX12_placeOf : MethodName := ⟨RX12, "placeOf", "(I)I"⟩
abbrev cX12_isFirstOf : ByteArray := prog_14_method_55_code
def yX12_isFirstOf : MethodName := ⟨RX12, "isFirstOf", "(II)Z"⟩
abbrev cX12_nodesOf : ByteArray := prog_14_method_56_code
def yX12_nodesOf : MethodName := ⟨RX12, "nodesOf", "(I)I"⟩
abbrev cX12_nodesAll : ByteArray := prog_14_method_57_code
def yX12_nodesAll : MethodName := ⟨RX12, "nodesAll", "()I"⟩
abbrev cX12_finds : ByteArray := prog_14_method_58_code
def yX12_finds : MethodName := ⟨RX12, "finds", "(I)V"⟩
abbrev cX12_follows : ByteArray := prog_14_method_59_code
def yX12_follows : MethodName := ⟨RX12, "follows", "(II)V"⟩
abbrev cX12_layFound : ByteArray := prog_14_method_60_code
def yX12_layFound : MethodName := ⟨RX12, "layFound", "(I)V"⟩
abbrev cX12_found : ByteArray := prog_14_method_61_code
def yX12_found : MethodName := ⟨RX12, "found", "(II)I"⟩
abbrev cX12_finding : ByteArray := prog_14_method_62_code
def yX12_finding : MethodName := ⟨RX12, "finding", "(II)I"⟩
abbrev cX12_specific : ByteArray := prog_14_method_63_code
def yX12_specific : MethodName := ⟨RX12, "specific", "(I)I"⟩
abbrev cX12_filled : ByteArray := prog_14_method_64_code
def yX12_filled : MethodName := ⟨RX12, "filled", "(III)I"⟩
abbrev cX12_meeting : ByteArray := prog_14_method_65_code
def yX12_meeting : MethodName := ⟨RX12, "meeting", "(II)I"⟩
abbrev cX12_isAbove : ByteArray := prog_14_method_66_code
def yX12_isAbove : MethodName := ⟨RX12, "isAbove", "(II)Z"⟩
abbrev cX12_aboveBits : ByteArray := prog_14_method_67_code
def yX12_aboveBits : MethodName := ⟨RX12, "aboveBits", "(I)I"⟩
abbrev cX12_above : ByteArray := prog_14_method_68_code
def yX12_above : MethodName := ⟨RX12, "above", "(I)I"⟩
abbrev cX12_shadowed : ByteArray := prog_14_method_69_code
def yX12_shadowed : MethodName := ⟨RX12, "shadowed", "()I"⟩
abbrev cX12_tops : ByteArray := prog_14_method_70_code
def yX12_tops : MethodName := ⟨RX12, "tops", "()I"⟩
abbrev cX12_joined : ByteArray := prog_14_method_71_code
def yX12_joined : MethodName := ⟨RX12, "joined", "(III)I"⟩
abbrev cX12_isOver : ByteArray := prog_14_method_72_code
def yX12_isOver : MethodName := ⟨RX12, "isOver", "(III)Z"⟩
abbrev cX12_overBits : ByteArray := prog_14_method_73_code
def yX12_overBits : MethodName := ⟨RX12, "overBits", "(II)I"⟩
abbrev cX12_overlaps : ByteArray := prog_14_method_74_code
def yX12_overlaps : MethodName := ⟨RX12, "overlaps", "(II)I"⟩
abbrev cX12_criticals : ByteArray := prog_14_method_75_code
def yX12_criticals : MethodName := ⟨RX12, "criticals", "()I"⟩
abbrev cX12_critical : ByteArray := prog_14_method_76_code
def yX12_critical : MethodName := ⟨RX12, "critical", "(IIII)I"⟩
abbrev cX12_shared : ByteArray := prog_14_method_77_code
def yX12_shared : MethodName := ⟨RX12, "shared", "(II)I"⟩
abbrev cX12_beside : ByteArray := prog_14_method_78_code
def yX12_beside : MethodName := ⟨RX12, "beside", "(III)I"⟩
abbrev cX12_fails : ByteArray := prog_14_method_79_code
def yX12_fails : MethodName := ⟨RX12, "fails", "(I)I"⟩
abbrev cX12_varBits : ByteArray := prog_14_method_80_code
def yX12_varBits : MethodName := ⟨RX12, "varBits", "(I)I"⟩
abbrev cX12_varsMany : ByteArray := prog_14_method_81_code
def yX12_varsMany : MethodName := ⟨RX12, "varsMany", "(I)I"⟩
abbrev cX12_isAgain : ByteArray := prog_14_method_82_code
def yX12_isAgain : MethodName := ⟨RX12, "isAgain", "(I)Z"⟩
abbrev cX12_rule : ByteArray := prog_14_method_83_code
def yX12_rule : MethodName := ⟨RX12, "rule", "(II)I"⟩
abbrev cX12_code : ByteArray := prog_14_method_84_code
def yX12_code : MethodName := ⟨RX12, "code", "(IIZ)I"⟩
abbrev cX12_skip : ByteArray := prog_14_method_85_code
def yX12_skip : MethodName := ⟨RX12, "skip", "(II)I"⟩
abbrev cX12_asked : ByteArray := prog_14_method_86_code
def yX12_asked : MethodName := ⟨RX12, "asked", "(I)I"⟩
abbrev cX12_depth : ByteArray := prog_14_method_87_code
def yX12_depth : MethodName := ⟨RX12, "depth", "(I)I"⟩
abbrev cX12_take : ByteArray := prog_14_method_88_code
def yX12_take : MethodName := ⟨RX12, "take", "(I)I"⟩
abbrev cX12_put : ByteArray := prog_14_method_89_code
def yX12_put : MethodName := ⟨RX12, "put", "(I)I"⟩
abbrev cX12_order : ByteArray := prog_14_method_90_code
def yX12_order : MethodName := ⟨RX12, "order", "(I)I"⟩
abbrev cX12_branch : ByteArray := prog_14_method_91_code
def yX12_branch : MethodName := ⟨RX12, "branch", "(II)I"⟩
abbrev cX12_isNewIn : ByteArray := prog_14_method_92_code
def yX12_isNewIn : MethodName := ⟨RX12, "isNewIn", "(II)Z"⟩
abbrev cX12_width : ByteArray := prog_14_method_93_code
def yX12_width : MethodName := ⟨RX12, "width", "(I)I"⟩
abbrev cX12_largest : ByteArray := prog_14_method_94_code
def yX12_largest : MethodName := ⟨RX12, "largest", "(I)I"⟩
abbrev cX12_apart : ByteArray := prog_14_method_95_code
def yX12_apart : MethodName := ⟨RX12, "apart", "(I)I"⟩
abbrev cX12_isReplaced : ByteArray := prog_14_method_96_code
def yX12_isReplaced : MethodName := ⟨RX12, "isReplaced", "(II)Z"⟩
abbrev cX12_isStep : ByteArray := prog_14_method_97_code
def yX12_isStep : MethodName := ⟨RX12, "isStep", "(II)Z"⟩
abbrev cX12_isStepped : ByteArray := prog_14_method_98_code
def yX12_isStepped : MethodName := ⟨RX12, "isStepped", "()Z"⟩
abbrev cX12_laySteps : ByteArray := prog_14_method_99_code
def yX12_laySteps : MethodName := ⟨RX12, "laySteps", "()V"⟩
abbrev cX12_steps : ByteArray := prog_14_method_100_code
def yX12_steps : MethodName := ⟨RX12, "steps", "(I)I"⟩
abbrev cX12_normal : ByteArray := prog_14_method_101_code
def yX12_normal : MethodName := ⟨RX12, "normal", "(I)I"⟩
abbrev cX12_smallest : ByteArray := prog_14_method_102_code
def yX12_smallest : MethodName := ⟨RX12, "smallest", "()I"⟩
abbrev cX12_isDrawn : ByteArray := prog_14_method_103_code
def yX12_isDrawn : MethodName := ⟨RX12, "isDrawn", "()Z"⟩
abbrev cX12_chance : ByteArray := prog_14_method_104_code
def yX12_chance : MethodName := ⟨RX12, "chance", "(II)I"⟩
abbrev cX12_draw : ByteArray := prog_14_method_105_code
def yX12_draw : MethodName := ⟨RX12, "draw", "(I)I"⟩
abbrev cX12_tried : ByteArray := prog_14_method_106_code
def yX12_tried : MethodName := ⟨RX12, "tried", "(III)I"⟩
abbrev cX12_remember : ByteArray := prog_14_method_107_code
def yX12_remember : MethodName := ⟨RX12, "remember", "()V"⟩
abbrev cX12_undo : ByteArray := prog_14_method_108_code
def yX12_undo : MethodName := ⟨RX12, "undo", "()I"⟩
abbrev cX12_manyIn : ByteArray := prog_14_method_109_code
def yX12_manyIn : MethodName := ⟨RX12, "manyIn", "(I)I"⟩
abbrev cX12_keep : ByteArray := prog_14_method_110_code
def yX12_keep : MethodName := ⟨RX12, "keep", "()I"⟩
abbrev cX12_back : ByteArray := prog_14_method_111_code
def yX12_back : MethodName := ⟨RX12, "back", "()I"⟩
abbrev cX12_count : ByteArray := prog_14_method_112_code
def yX12_count : MethodName := ⟨RX12, "count", "(I)I"⟩
def RJx145de : String := "java/io/Serializable"
def TJx145de : u_T := fun k => match k with
  | _ => ("", "", "", false)
def tyJx145de : Nat → FieldType := fun k => match k with
  | _ => .int
abbrev wsJx145de0 : List Cond := u_ws RJx145de TJx145de 0
theorem nmJx145de : ∀ a, a < 0 → ∀ b, b < 0 → a ≠ b → (TJx145de a).2.1 ≠ (TJx145de b).2.1 := by decide +kernel
theorem tyJx145de_ok : ∀ k, k < 0 → parseFieldDescriptor (TJx145de k).2.2.1 = some (tyJx145de k) := by decide +kernel
def RJ6 : String := "java/lang/Integer"
def TJ6 : u_T := fun k => match k with
  | _ => ("", "", "", false)
def tyJ6 : Nat → FieldType := fun k => match k with
  | _ => .int
abbrev wsJ60 : List Cond := u_ws RJ6 TJ6 0
theorem nmJ6 : ∀ a, a < 0 → ∀ b, b < 0 → a ≠ b → (TJ6 a).2.1 ≠ (TJ6 b).2.1 := by decide +kernel
theorem tyJ6_ok : ∀ k, k < 0 → parseFieldDescriptor (TJ6 k).2.2.1 = some (tyJ6 k) := by decide +kernel
abbrev cJ6_numberOfTrailingZeros_0f7a4 : ByteArray := prog_18_method_48_code
def yJ6_numberOfTrailingZeros_0f7a4 : MethodName := ⟨RJ6, "numberOfTrailingZeros", "(I)I"⟩
abbrev cJ6_bitCount_0f7a4 : ByteArray := prog_18_method_49_code
def yJ6_bitCount_0f7a4 : MethodName := ⟨RJ6, "bitCount", "(I)I"⟩
def RJ9 : String := "java/lang/Math"
def TJ9 : u_T := fun k => match k with
  | _ => ("", "", "", false)
def tyJ9 : Nat → FieldType := fun k => match k with
  | _ => .int
abbrev wsJ90 : List Cond := u_ws RJ9 TJ9 0
theorem nmJ9 : ∀ a, a < 0 → ∀ b, b < 0 → a ≠ b → (TJ9 a).2.1 ≠ (TJ9 b).2.1 := by decide +kernel
theorem tyJ9_ok : ∀ k, k < 0 → parseFieldDescriptor (TJ9 k).2.2.1 = some (tyJ9 k) := by decide +kernel
abbrev cJ9_abs_0f7a4 : ByteArray := prog_19_method_59_code
def yJ9_abs_0f7a4 : MethodName := ⟨RJ9, "abs", "(I)I"⟩
abbrev cJ9_max_7cf53 : ByteArray := prog_19_method_65_code
def yJ9_max_7cf53 : MethodName := ⟨RJ9, "max", "(II)I"⟩
abbrev cJ9_min_7cf53 : ByteArray := prog_19_method_69_code
def yJ9_min_7cf53 : MethodName := ⟨RJ9, "min", "(II)I"⟩
def RJ0 : String := "java/lang/String"
def TJ0 : u_T := fun k => match k with
  | _ => ("", "", "", false)
def tyJ0 : Nat → FieldType := fun k => match k with
  | _ => .int
abbrev wsJ00 : List Cond := u_ws RJ0 TJ0 0
theorem nmJ0 : ∀ a, a < 0 → ∀ b, b < 0 → a ≠ b → (TJ0 a).2.1 ≠ (TJ0 b).2.1 := by decide +kernel
theorem tyJ0_ok : ∀ k, k < 0 → parseFieldDescriptor (TJ0 k).2.2.1 = some (tyJ0 k) := by decide +kernel
def RL : String := "TermShelfLaw"
abbrev cL_rule : ByteArray := method_3_code
def yL_rule : MethodName := ⟨RL, "rule", "(LTermShelf;II[J)I"⟩
abbrev cL_law : ByteArray := code
def yL_law : MethodName := ⟨RL, "law", "([I)Z"⟩
