-- ===== PART A: goes FIRST, ahead of the names: the tables' words, and 'selects' of the private methods out of them =====
/-- a private method of a class that the tables say can be made, by its rows of tables_1 -/
def lw_okq (q : MethodName × Nat) : Prop := (q.1.cls ≠ "java/lang/invoke/MethodHandle" ∧ q.1.cls ≠ "java/lang/invoke/VarHandle") ∧ Cond.instantiable q.1.cls q.2 ∈ tables_1 ∧ Cond.privateMethod q.1 ∈ tables_1 ∧ Cond.instanceMethod q.1 ∈ tables_1
theorem lw_p0 : lw_okq (⟨"SketchFiller$Tokens", "bytesTogether", "(I)I"⟩, 6) := ⟨⟨by decide +kernel, by decide +kernel⟩, List.mem_of_getElem? (i := 74) (by decide +kernel), List.mem_of_getElem? (i := 127) (by decide +kernel), List.mem_of_getElem? (i := 128) (by decide +kernel)⟩
theorem lw_p1 : lw_okq (⟨"SketchFiller$Tokens", "kindAt", "(II)I"⟩, 6) := ⟨⟨by decide +kernel, by decide +kernel⟩, List.mem_of_getElem? (i := 74) (by decide +kernel), List.mem_of_getElem? (i := 137) (by decide +kernel), List.mem_of_getElem? (i := 138) (by decide +kernel)⟩
theorem lw_p2 : lw_okq (⟨"SketchFiller$Tokens", "wordAt", "(II)I"⟩, 6) := ⟨⟨by decide +kernel, by decide +kernel⟩, List.mem_of_getElem? (i := 74) (by decide +kernel), List.mem_of_getElem? (i := 141) (by decide +kernel), List.mem_of_getElem? (i := 142) (by decide +kernel)⟩
theorem lw_p3 : lw_okq (⟨"SketchFiller$Tokens", "isKeyword", "(III)Z"⟩, 6) := ⟨⟨by decide +kernel, by decide +kernel⟩, List.mem_of_getElem? (i := 74) (by decide +kernel), List.mem_of_getElem? (i := 156) (by decide +kernel), List.mem_of_getElem? (i := 157) (by decide +kernel)⟩
theorem lw_p4 : lw_okq (⟨"SketchFiller$Tokens", "add", "(III)V"⟩, 6) := ⟨⟨by decide +kernel, by decide +kernel⟩, List.mem_of_getElem? (i := 74) (by decide +kernel), List.mem_of_getElem? (i := 254) (by decide +kernel), List.mem_of_getElem? (i := 255) (by decide +kernel)⟩
theorem lw_p5 : lw_okq (⟨"SketchFiller$Tokens", "numberAt", "(III)I"⟩, 6) := ⟨⟨by decide +kernel, by decide +kernel⟩, List.mem_of_getElem? (i := 74) (by decide +kernel), List.mem_of_getElem? (i := 258) (by decide +kernel), List.mem_of_getElem? (i := 259) (by decide +kernel)⟩
theorem lw_p6 : lw_okq (⟨"SketchFiller$Parser", "take", "(I)Z"⟩, 6) := ⟨⟨by decide +kernel, by decide +kernel⟩, List.mem_of_getElem? (i := 262) (by decide +kernel), List.mem_of_getElem? (i := 394) (by decide +kernel), List.mem_of_getElem? (i := 395) (by decide +kernel)⟩
theorem lw_p7 : lw_okq (⟨"SketchFiller$Parser", "kind", "()I"⟩, 6) := ⟨⟨by decide +kernel, by decide +kernel⟩, List.mem_of_getElem? (i := 262) (by decide +kernel), List.mem_of_getElem? (i := 398) (by decide +kernel), List.mem_of_getElem? (i := 399) (by decide +kernel)⟩
theorem lw_p8 : lw_okq (⟨"SketchFiller$Parser", "fail", "(I)Z"⟩, 6) := ⟨⟨by decide +kernel, by decide +kernel⟩, List.mem_of_getElem? (i := 262) (by decide +kernel), List.mem_of_getElem? (i := 406) (by decide +kernel), List.mem_of_getElem? (i := 407) (by decide +kernel)⟩
theorem lw_p9 : lw_okq (⟨"SketchFiller$Parser", "takeNumber", "(II)Z"⟩, 6) := ⟨⟨by decide +kernel, by decide +kernel⟩, List.mem_of_getElem? (i := 262) (by decide +kernel), List.mem_of_getElem? (i := 414) (by decide +kernel), List.mem_of_getElem? (i := 415) (by decide +kernel)⟩
theorem lw_p10 : lw_okq (⟨"SketchFiller$Parser", "lines", "()Z"⟩, 6) := ⟨⟨by decide +kernel, by decide +kernel⟩, List.mem_of_getElem? (i := 262) (by decide +kernel), List.mem_of_getElem? (i := 422) (by decide +kernel), List.mem_of_getElem? (i := 423) (by decide +kernel)⟩
theorem lw_p11 : lw_okq (⟨"SketchFiller$Parser", "inLine", "()Z"⟩, 6) := ⟨⟨by decide +kernel, by decide +kernel⟩, List.mem_of_getElem? (i := 262) (by decide +kernel), List.mem_of_getElem? (i := 427) (by decide +kernel), List.mem_of_getElem? (i := 428) (by decide +kernel)⟩
theorem lw_p12 : lw_okq (⟨"SketchFiller$Parser", "takeNewName", "()Z"⟩, 6) := ⟨⟨by decide +kernel, by decide +kernel⟩, List.mem_of_getElem? (i := 262) (by decide +kernel), List.mem_of_getElem? (i := 431) (by decide +kernel), List.mem_of_getElem? (i := 432) (by decide +kernel)⟩
theorem lw_p13 : lw_okq (⟨"SketchFiller$Parser", "takeBits", "(I)Z"⟩, 6) := ⟨⟨by decide +kernel, by decide +kernel⟩, List.mem_of_getElem? (i := 262) (by decide +kernel), List.mem_of_getElem? (i := 443) (by decide +kernel), List.mem_of_getElem? (i := 444) (by decide +kernel)⟩
theorem lw_p14 : lw_okq (⟨"SketchFiller$Parser", "holeLine", "()Z"⟩, 6) := ⟨⟨by decide +kernel, by decide +kernel⟩, List.mem_of_getElem? (i := 262) (by decide +kernel), List.mem_of_getElem? (i := 451) (by decide +kernel), List.mem_of_getElem? (i := 452) (by decide +kernel)⟩
theorem lw_p15 : lw_okq (⟨"SketchFiller$Parser", "varLine", "()Z"⟩, 6) := ⟨⟨by decide +kernel, by decide +kernel⟩, List.mem_of_getElem? (i := 262) (by decide +kernel), List.mem_of_getElem? (i := 459) (by decide +kernel), List.mem_of_getElem? (i := 460) (by decide +kernel)⟩
def lw_privs_1 : List (MethodName × Nat) := [(⟨"SketchFiller$Tokens", "bytesTogether", "(I)I"⟩, 6), (⟨"SketchFiller$Tokens", "kindAt", "(II)I"⟩, 6), (⟨"SketchFiller$Tokens", "wordAt", "(II)I"⟩, 6), (⟨"SketchFiller$Tokens", "isKeyword", "(III)Z"⟩, 6), (⟨"SketchFiller$Tokens", "add", "(III)V"⟩, 6), (⟨"SketchFiller$Tokens", "numberAt", "(III)I"⟩, 6), (⟨"SketchFiller$Parser", "take", "(I)Z"⟩, 6), (⟨"SketchFiller$Parser", "kind", "()I"⟩, 6), (⟨"SketchFiller$Parser", "fail", "(I)Z"⟩, 6), (⟨"SketchFiller$Parser", "takeNumber", "(II)Z"⟩, 6), (⟨"SketchFiller$Parser", "lines", "()Z"⟩, 6), (⟨"SketchFiller$Parser", "inLine", "()Z"⟩, 6), (⟨"SketchFiller$Parser", "takeNewName", "()Z"⟩, 6), (⟨"SketchFiller$Parser", "takeBits", "(I)Z"⟩, 6), (⟨"SketchFiller$Parser", "holeLine", "()Z"⟩, 6), (⟨"SketchFiller$Parser", "varLine", "()Z"⟩, 6)]
theorem lw_r1 : ∀ q ∈ lw_privs_1, lw_okq q := List.forall_mem_cons.mpr ⟨lw_p0, List.forall_mem_cons.mpr ⟨lw_p1, List.forall_mem_cons.mpr ⟨lw_p2, List.forall_mem_cons.mpr ⟨lw_p3, List.forall_mem_cons.mpr ⟨lw_p4, List.forall_mem_cons.mpr ⟨lw_p5, List.forall_mem_cons.mpr ⟨lw_p6, List.forall_mem_cons.mpr ⟨lw_p7, List.forall_mem_cons.mpr ⟨lw_p8, List.forall_mem_cons.mpr ⟨lw_p9, List.forall_mem_cons.mpr ⟨lw_p10, List.forall_mem_cons.mpr ⟨lw_p11, List.forall_mem_cons.mpr ⟨lw_p12, List.forall_mem_cons.mpr ⟨lw_p13, List.forall_mem_cons.mpr ⟨lw_p14, List.forall_mem_cons.mpr ⟨lw_p15, fun _ h => absurd h List.not_mem_nil⟩⟩⟩⟩⟩⟩⟩⟩⟩⟩⟩⟩⟩⟩⟩⟩
theorem lw_p16 : lw_okq (⟨"SketchFiller$Parser", "block", "(II)Z"⟩, 6) := ⟨⟨by decide +kernel, by decide +kernel⟩, List.mem_of_getElem? (i := 262) (by decide +kernel), List.mem_of_getElem? (i := 463) (by decide +kernel), List.mem_of_getElem? (i := 464) (by decide +kernel)⟩
theorem lw_p17 : lw_okq (⟨"SketchFiller$Parser", "beginsStatement", "()Z"⟩, 6) := ⟨⟨by decide +kernel, by decide +kernel⟩, List.mem_of_getElem? (i := 262) (by decide +kernel), List.mem_of_getElem? (i := 467) (by decide +kernel), List.mem_of_getElem? (i := 468) (by decide +kernel)⟩
theorem lw_p18 : lw_okq (⟨"SketchFiller$Parser", "statement", "(II)Z"⟩, 6) := ⟨⟨by decide +kernel, by decide +kernel⟩, List.mem_of_getElem? (i := 262) (by decide +kernel), List.mem_of_getElem? (i := 471) (by decide +kernel), List.mem_of_getElem? (i := 472) (by decide +kernel)⟩
theorem lw_p19 : lw_okq (⟨"SketchFiller$Parser", "endedBy", "(II)Z"⟩, 6) := ⟨⟨by decide +kernel, by decide +kernel⟩, List.mem_of_getElem? (i := 262) (by decide +kernel), List.mem_of_getElem? (i := 479) (by decide +kernel), List.mem_of_getElem? (i := 480) (by decide +kernel)⟩
theorem lw_p20 : lw_okq (⟨"SketchFiller$Parser", "expression", "(II)Z"⟩, 6) := ⟨⟨by decide +kernel, by decide +kernel⟩, List.mem_of_getElem? (i := 262) (by decide +kernel), List.mem_of_getElem? (i := 483) (by decide +kernel), List.mem_of_getElem? (i := 484) (by decide +kernel)⟩
theorem lw_p21 : lw_okq (⟨"SketchFiller$Parser", "unary", "(I)Z"⟩, 6) := ⟨⟨by decide +kernel, by decide +kernel⟩, List.mem_of_getElem? (i := 262) (by decide +kernel), List.mem_of_getElem? (i := 487) (by decide +kernel), List.mem_of_getElem? (i := 488) (by decide +kernel)⟩
theorem lw_p22 : lw_okq (⟨"SketchFiller$Parser", "part", "(I)Z"⟩, 6) := ⟨⟨by decide +kernel, by decide +kernel⟩, List.mem_of_getElem? (i := 262) (by decide +kernel), List.mem_of_getElem? (i := 491) (by decide +kernel), List.mem_of_getElem? (i := 492) (by decide +kernel)⟩
theorem lw_p23 : lw_okq (⟨"SketchFiller$Parser", "nameUsed", "()Z"⟩, 6) := ⟨⟨by decide +kernel, by decide +kernel⟩, List.mem_of_getElem? (i := 262) (by decide +kernel), List.mem_of_getElem? (i := 495) (by decide +kernel), List.mem_of_getElem? (i := 496) (by decide +kernel)⟩
theorem lw_p24 : lw_okq (⟨"SketchFiller$Parser", "ifStatement", "(II)Z"⟩, 6) := ⟨⟨by decide +kernel, by decide +kernel⟩, List.mem_of_getElem? (i := 262) (by decide +kernel), List.mem_of_getElem? (i := 506) (by decide +kernel), List.mem_of_getElem? (i := 507) (by decide +kernel)⟩
theorem lw_p25 : lw_okq (⟨"SketchFiller$Parser", "braced", "(II)Z"⟩, 6) := ⟨⟨by decide +kernel, by decide +kernel⟩, List.mem_of_getElem? (i := 262) (by decide +kernel), List.mem_of_getElem? (i := 510) (by decide +kernel), List.mem_of_getElem? (i := 511) (by decide +kernel)⟩
theorem lw_p26 : lw_okq (⟨"SketchFiller$Parser", "loopStatement", "(II)Z"⟩, 6) := ⟨⟨by decide +kernel, by decide +kernel⟩, List.mem_of_getElem? (i := 262) (by decide +kernel), List.mem_of_getElem? (i := 522) (by decide +kernel), List.mem_of_getElem? (i := 523) (by decide +kernel)⟩
theorem lw_p27 : lw_okq (⟨"SketchFiller$Parser", "whileStatement", "(II)Z"⟩, 6) := ⟨⟨by decide +kernel, by decide +kernel⟩, List.mem_of_getElem? (i := 262) (by decide +kernel), List.mem_of_getElem? (i := 526) (by decide +kernel), List.mem_of_getElem? (i := 527) (by decide +kernel)⟩
theorem lw_p28 : lw_okq (⟨"SketchFiller$Parser", "letStatement", "(II)Z"⟩, 6) := ⟨⟨by decide +kernel, by decide +kernel⟩, List.mem_of_getElem? (i := 262) (by decide +kernel), List.mem_of_getElem? (i := 530) (by decide +kernel), List.mem_of_getElem? (i := 531) (by decide +kernel)⟩
theorem lw_p29 : lw_okq (⟨"SketchFiller$Parser", "spec", "()Z"⟩, 6) := ⟨⟨by decide +kernel, by decide +kernel⟩, List.mem_of_getElem? (i := 262) (by decide +kernel), List.mem_of_getElem? (i := 538) (by decide +kernel), List.mem_of_getElem? (i := 539) (by decide +kernel)⟩
theorem lw_p30 : lw_okq (⟨"SketchFiller$Program", "shiftOfHole", "(I)I"⟩, 18) := ⟨⟨by decide +kernel, by decide +kernel⟩, List.mem_of_getElem? (i := 284) (by decide +kernel), List.mem_of_getElem? (i := 566) (by decide +kernel), List.mem_of_getElem? (i := 567) (by decide +kernel)⟩
theorem lw_p31 : lw_okq (⟨"SketchFiller$Machine", "perform", "(III)V"⟩, 10) := ⟨⟨by decide +kernel, by decide +kernel⟩, List.mem_of_getElem? (i := 581) (by decide +kernel), List.mem_of_getElem? (i := 746) (by decide +kernel), List.mem_of_getElem? (i := 747) (by decide +kernel)⟩
def lw_privs_2 : List (MethodName × Nat) := [(⟨"SketchFiller$Parser", "block", "(II)Z"⟩, 6), (⟨"SketchFiller$Parser", "beginsStatement", "()Z"⟩, 6), (⟨"SketchFiller$Parser", "statement", "(II)Z"⟩, 6), (⟨"SketchFiller$Parser", "endedBy", "(II)Z"⟩, 6), (⟨"SketchFiller$Parser", "expression", "(II)Z"⟩, 6), (⟨"SketchFiller$Parser", "unary", "(I)Z"⟩, 6), (⟨"SketchFiller$Parser", "part", "(I)Z"⟩, 6), (⟨"SketchFiller$Parser", "nameUsed", "()Z"⟩, 6), (⟨"SketchFiller$Parser", "ifStatement", "(II)Z"⟩, 6), (⟨"SketchFiller$Parser", "braced", "(II)Z"⟩, 6), (⟨"SketchFiller$Parser", "loopStatement", "(II)Z"⟩, 6), (⟨"SketchFiller$Parser", "whileStatement", "(II)Z"⟩, 6), (⟨"SketchFiller$Parser", "letStatement", "(II)Z"⟩, 6), (⟨"SketchFiller$Parser", "spec", "()Z"⟩, 6), (⟨"SketchFiller$Program", "shiftOfHole", "(I)I"⟩, 18), (⟨"SketchFiller$Machine", "perform", "(III)V"⟩, 10)]
theorem lw_r2 : ∀ q ∈ lw_privs_2, lw_okq q := List.forall_mem_cons.mpr ⟨lw_p16, List.forall_mem_cons.mpr ⟨lw_p17, List.forall_mem_cons.mpr ⟨lw_p18, List.forall_mem_cons.mpr ⟨lw_p19, List.forall_mem_cons.mpr ⟨lw_p20, List.forall_mem_cons.mpr ⟨lw_p21, List.forall_mem_cons.mpr ⟨lw_p22, List.forall_mem_cons.mpr ⟨lw_p23, List.forall_mem_cons.mpr ⟨lw_p24, List.forall_mem_cons.mpr ⟨lw_p25, List.forall_mem_cons.mpr ⟨lw_p26, List.forall_mem_cons.mpr ⟨lw_p27, List.forall_mem_cons.mpr ⟨lw_p28, List.forall_mem_cons.mpr ⟨lw_p29, List.forall_mem_cons.mpr ⟨lw_p30, List.forall_mem_cons.mpr ⟨lw_p31, fun _ h => absurd h List.not_mem_nil⟩⟩⟩⟩⟩⟩⟩⟩⟩⟩⟩⟩⟩⟩⟩⟩
theorem lw_p32 : lw_okq (⟨"SketchFiller$Machine", "push", "(I)V"⟩, 10) := ⟨⟨by decide +kernel, by decide +kernel⟩, List.mem_of_getElem? (i := 581) (by decide +kernel), List.mem_of_getElem? (i := 750) (by decide +kernel), List.mem_of_getElem? (i := 751) (by decide +kernel)⟩
theorem lw_p33 : lw_okq (⟨"SketchFiller$Machine", "pop", "()I"⟩, 10) := ⟨⟨by decide +kernel, by decide +kernel⟩, List.mem_of_getElem? (i := 581) (by decide +kernel), List.mem_of_getElem? (i := 754) (by decide +kernel), List.mem_of_getElem? (i := 755) (by decide +kernel)⟩
theorem lw_p34 : lw_okq (⟨"SketchFiller$Machine", "store", "(II)V"⟩, 10) := ⟨⟨by decide +kernel, by decide +kernel⟩, List.mem_of_getElem? (i := 581) (by decide +kernel), List.mem_of_getElem? (i := 758) (by decide +kernel), List.mem_of_getElem? (i := 759) (by decide +kernel)⟩
theorem lw_p35 : lw_okq (⟨"SketchFiller$Machine", "beginStep", "()V"⟩, 10) := ⟨⟨by decide +kernel, by decide +kernel⟩, List.mem_of_getElem? (i := 581) (by decide +kernel), List.mem_of_getElem? (i := 762) (by decide +kernel), List.mem_of_getElem? (i := 763) (by decide +kernel)⟩
theorem lw_p36 : lw_okq (⟨"SketchFiller$Machine", "beginRounds", "(II)V"⟩, 10) := ⟨⟨by decide +kernel, by decide +kernel⟩, List.mem_of_getElem? (i := 581) (by decide +kernel), List.mem_of_getElem? (i := 766) (by decide +kernel), List.mem_of_getElem? (i := 767) (by decide +kernel)⟩
theorem lw_p37 : lw_okq (⟨"SketchFiller$Machine", "goRoundAgain", "(II)V"⟩, 10) := ⟨⟨by decide +kernel, by decide +kernel⟩, List.mem_of_getElem? (i := 581) (by decide +kernel), List.mem_of_getElem? (i := 770) (by decide +kernel), List.mem_of_getElem? (i := 771) (by decide +kernel)⟩
theorem lw_p38 : lw_okq (⟨"SketchFiller$Machine", "testWhile", "(III)V"⟩, 10) := ⟨⟨by decide +kernel, by decide +kernel⟩, List.mem_of_getElem? (i := 581) (by decide +kernel), List.mem_of_getElem? (i := 774) (by decide +kernel), List.mem_of_getElem? (i := 775) (by decide +kernel)⟩
theorem lw_p39 : lw_okq (⟨"SketchFiller$Machine", "join", "(I)V"⟩, 10) := ⟨⟨by decide +kernel, by decide +kernel⟩, List.mem_of_getElem? (i := 581) (by decide +kernel), List.mem_of_getElem? (i := 778) (by decide +kernel), List.mem_of_getElem? (i := 779) (by decide +kernel)⟩
theorem lw_p40 : lw_okq (⟨"SketchFiller$Search", "isLeft", "(IJ)Z"⟩, 9) := ⟨⟨by decide +kernel, by decide +kernel⟩, List.mem_of_getElem? (i := 643) (by decide +kernel), List.mem_of_getElem? (i := 829) (by decide +kernel), List.mem_of_getElem? (i := 830) (by decide +kernel)⟩
theorem lw_p41 : lw_okq (⟨"SketchFiller$Search", "isOut", "(I)Z"⟩, 9) := ⟨⟨by decide +kernel, by decide +kernel⟩, List.mem_of_getElem? (i := 643) (by decide +kernel), List.mem_of_getElem? (i := 833) (by decide +kernel), List.mem_of_getElem? (i := 834) (by decide +kernel)⟩
theorem lw_p42 : lw_okq (⟨"SketchFiller$Search", "addKept", "(I)Z"⟩, 9) := ⟨⟨by decide +kernel, by decide +kernel⟩, List.mem_of_getElem? (i := 643) (by decide +kernel), List.mem_of_getElem? (i := 865) (by decide +kernel), List.mem_of_getElem? (i := 866) (by decide +kernel)⟩
theorem lw_p43 : lw_okq (⟨"SketchFiller$Search", "beginAnew", "()V"⟩, 9) := ⟨⟨by decide +kernel, by decide +kernel⟩, List.mem_of_getElem? (i := 643) (by decide +kernel), List.mem_of_getElem? (i := 889) (by decide +kernel), List.mem_of_getElem? (i := 890) (by decide +kernel)⟩
theorem lw_p44 : lw_okq (⟨"SketchFiller$Search", "isOf", "(II)Z"⟩, 9) := ⟨⟨by decide +kernel, by decide +kernel⟩, List.mem_of_getElem? (i := 643) (by decide +kernel), List.mem_of_getElem? (i := 954) (by decide +kernel), List.mem_of_getElem? (i := 955) (by decide +kernel)⟩
theorem lw_p45 : lw_okq (⟨"SketchFiller$Search", "isLikeEarlier", "(I)Z"⟩, 9) := ⟨⟨by decide +kernel, by decide +kernel⟩, List.mem_of_getElem? (i := 643) (by decide +kernel), List.mem_of_getElem? (i := 1025) (by decide +kernel), List.mem_of_getElem? (i := 1026) (by decide +kernel)⟩
theorem lw_p46 : lw_okq (⟨"SketchFiller$Program", "shownEnd", "()I"⟩, 18) := ⟨⟨by decide +kernel, by decide +kernel⟩, List.mem_of_getElem? (i := 284) (by decide +kernel), List.mem_of_getElem? (i := 1046) (by decide +kernel), List.mem_of_getElem? (i := 1047) (by decide +kernel)⟩
theorem lw_p47 : lw_okq (⟨"SketchFiller$Program", "shownLength", "(II)I"⟩, 18) := ⟨⟨by decide +kernel, by decide +kernel⟩, List.mem_of_getElem? (i := 284) (by decide +kernel), List.mem_of_getElem? (i := 1050) (by decide +kernel), List.mem_of_getElem? (i := 1051) (by decide +kernel)⟩
def lw_privs_3 : List (MethodName × Nat) := [(⟨"SketchFiller$Machine", "push", "(I)V"⟩, 10), (⟨"SketchFiller$Machine", "pop", "()I"⟩, 10), (⟨"SketchFiller$Machine", "store", "(II)V"⟩, 10), (⟨"SketchFiller$Machine", "beginStep", "()V"⟩, 10), (⟨"SketchFiller$Machine", "beginRounds", "(II)V"⟩, 10), (⟨"SketchFiller$Machine", "goRoundAgain", "(II)V"⟩, 10), (⟨"SketchFiller$Machine", "testWhile", "(III)V"⟩, 10), (⟨"SketchFiller$Machine", "join", "(I)V"⟩, 10), (⟨"SketchFiller$Search", "isLeft", "(IJ)Z"⟩, 9), (⟨"SketchFiller$Search", "isOut", "(I)Z"⟩, 9), (⟨"SketchFiller$Search", "addKept", "(I)Z"⟩, 9), (⟨"SketchFiller$Search", "beginAnew", "()V"⟩, 9), (⟨"SketchFiller$Search", "isOf", "(II)Z"⟩, 9), (⟨"SketchFiller$Search", "isLikeEarlier", "(I)Z"⟩, 9), (⟨"SketchFiller$Program", "shownEnd", "()I"⟩, 18), (⟨"SketchFiller$Program", "shownLength", "(II)I"⟩, 18)]
theorem lw_r3 : ∀ q ∈ lw_privs_3, lw_okq q := List.forall_mem_cons.mpr ⟨lw_p32, List.forall_mem_cons.mpr ⟨lw_p33, List.forall_mem_cons.mpr ⟨lw_p34, List.forall_mem_cons.mpr ⟨lw_p35, List.forall_mem_cons.mpr ⟨lw_p36, List.forall_mem_cons.mpr ⟨lw_p37, List.forall_mem_cons.mpr ⟨lw_p38, List.forall_mem_cons.mpr ⟨lw_p39, List.forall_mem_cons.mpr ⟨lw_p40, List.forall_mem_cons.mpr ⟨lw_p41, List.forall_mem_cons.mpr ⟨lw_p42, List.forall_mem_cons.mpr ⟨lw_p43, List.forall_mem_cons.mpr ⟨lw_p44, List.forall_mem_cons.mpr ⟨lw_p45, List.forall_mem_cons.mpr ⟨lw_p46, List.forall_mem_cons.mpr ⟨lw_p47, fun _ h => absurd h List.not_mem_nil⟩⟩⟩⟩⟩⟩⟩⟩⟩⟩⟩⟩⟩⟩⟩⟩
theorem lw_p48 : lw_okq (⟨"SketchFiller$Program", "isShownAsNumber", "(I)Z"⟩, 18) := ⟨⟨by decide +kernel, by decide +kernel⟩, List.mem_of_getElem? (i := 284) (by decide +kernel), List.mem_of_getElem? (i := 1054) (by decide +kernel), List.mem_of_getElem? (i := 1055) (by decide +kernel)⟩
theorem lw_p49 : lw_okq (⟨"SketchFiller$Program", "shownNumber", "(II)I"⟩, 18) := ⟨⟨by decide +kernel, by decide +kernel⟩, List.mem_of_getElem? (i := 284) (by decide +kernel), List.mem_of_getElem? (i := 1059) (by decide +kernel), List.mem_of_getElem? (i := 1060) (by decide +kernel)⟩
theorem lw_p50 : lw_okq (⟨"SketchFiller$Program", "byteOfToken", "(III)I"⟩, 18) := ⟨⟨by decide +kernel, by decide +kernel⟩, List.mem_of_getElem? (i := 284) (by decide +kernel), List.mem_of_getElem? (i := 1075) (by decide +kernel), List.mem_of_getElem? (i := 1076) (by decide +kernel)⟩
theorem lw_p51 : lw_okq (⟨"java/lang/Throwable", "fillInStackTrace", "(I)Ljava/lang/Throwable;"⟩, 6) := ⟨⟨by decide +kernel, by decide +kernel⟩, List.mem_of_getElem? (i := 1128) (by decide +kernel), List.mem_of_getElem? (i := 1126) (by decide +kernel), List.mem_of_getElem? (i := 1127) (by decide +kernel)⟩
theorem lw_p52 : lw_okq (⟨"SketchFillerModel", "puts", "(I)V"⟩, 51) := ⟨⟨by decide +kernel, by decide +kernel⟩, List.mem_of_getElem? (i := 1158) (by decide +kernel), List.mem_of_getElem? (i := 1326) (by decide +kernel), List.mem_of_getElem? (i := 1327) (by decide +kernel)⟩
theorem lw_p53 : lw_okq (⟨"SketchFillerModel", "tells", "(II)V"⟩, 51) := ⟨⟨by decide +kernel, by decide +kernel⟩, List.mem_of_getElem? (i := 1158) (by decide +kernel), List.mem_of_getElem? (i := 1337) (by decide +kernel), List.mem_of_getElem? (i := 1338) (by decide +kernel)⟩
theorem lw_p54 : lw_okq (⟨"SketchFillerModel", "steps", "()V"⟩, 51) := ⟨⟨by decide +kernel, by decide +kernel⟩, List.mem_of_getElem? (i := 1158) (by decide +kernel), List.mem_of_getElem? (i := 1341) (by decide +kernel), List.mem_of_getElem? (i := 1342) (by decide +kernel)⟩
theorem lw_p55 : lw_okq (⟨"SketchFillerModel", "see", "(I)I"⟩, 51) := ⟨⟨by decide +kernel, by decide +kernel⟩, List.mem_of_getElem? (i := 1158) (by decide +kernel), List.mem_of_getElem? (i := 1345) (by decide +kernel), List.mem_of_getElem? (i := 1346) (by decide +kernel)⟩
theorem lw_p56 : lw_okq (⟨"SketchFillerModel", "reads", "()Z"⟩, 51) := ⟨⟨by decide +kernel, by decide +kernel⟩, List.mem_of_getElem? (i := 1158) (by decide +kernel), List.mem_of_getElem? (i := 1356) (by decide +kernel), List.mem_of_getElem? (i := 1357) (by decide +kernel)⟩
theorem lw_p57 : lw_okq (⟨"SketchFillerModel", "begins", "()Z"⟩, 51) := ⟨⟨by decide +kernel, by decide +kernel⟩, List.mem_of_getElem? (i := 1158) (by decide +kernel), List.mem_of_getElem? (i := 1360) (by decide +kernel), List.mem_of_getElem? (i := 1361) (by decide +kernel)⟩
theorem lw_p58 : lw_okq (⟨"SketchFillerModel", "takesOwn", "(I)Z"⟩, 51) := ⟨⟨by decide +kernel, by decide +kernel⟩, List.mem_of_getElem? (i := 1158) (by decide +kernel), List.mem_of_getElem? (i := 1364) (by decide +kernel), List.mem_of_getElem? (i := 1365) (by decide +kernel)⟩
theorem lw_p59 : lw_okq (⟨"SketchFillerModel", "own", "()I"⟩, 51) := ⟨⟨by decide +kernel, by decide +kernel⟩, List.mem_of_getElem? (i := 1158) (by decide +kernel), List.mem_of_getElem? (i := 1368) (by decide +kernel), List.mem_of_getElem? (i := 1369) (by decide +kernel)⟩
theorem lw_p60 : lw_okq (⟨"SketchFillerModel", "must", "(ZI)Z"⟩, 51) := ⟨⟨by decide +kernel, by decide +kernel⟩, List.mem_of_getElem? (i := 1158) (by decide +kernel), List.mem_of_getElem? (i := 1375) (by decide +kernel), List.mem_of_getElem? (i := 1376) (by decide +kernel)⟩
theorem lw_p61 : lw_okq (⟨"SketchFillerModel", "takesNumber", "(II)Z"⟩, 51) := ⟨⟨by decide +kernel, by decide +kernel⟩, List.mem_of_getElem? (i := 1158) (by decide +kernel), List.mem_of_getElem? (i := 1379) (by decide +kernel), List.mem_of_getElem? (i := 1380) (by decide +kernel)⟩
theorem lw_p62 : lw_okq (⟨"SketchFillerModel", "takesSign", "(I)Z"⟩, 51) := ⟨⟨by decide +kernel, by decide +kernel⟩, List.mem_of_getElem? (i := 1158) (by decide +kernel), List.mem_of_getElem? (i := 1383) (by decide +kernel), List.mem_of_getElem? (i := 1384) (by decide +kernel)⟩
theorem lw_p63 : lw_okq (⟨"SketchFillerModel", "isSign", "(I)Z"⟩, 51) := ⟨⟨by decide +kernel, by decide +kernel⟩, List.mem_of_getElem? (i := 1158) (by decide +kernel), List.mem_of_getElem? (i := 1387) (by decide +kernel), List.mem_of_getElem? (i := 1388) (by decide +kernel)⟩
def lw_privs_4 : List (MethodName × Nat) := [(⟨"SketchFiller$Program", "isShownAsNumber", "(I)Z"⟩, 18), (⟨"SketchFiller$Program", "shownNumber", "(II)I"⟩, 18), (⟨"SketchFiller$Program", "byteOfToken", "(III)I"⟩, 18), (⟨"java/lang/Throwable", "fillInStackTrace", "(I)Ljava/lang/Throwable;"⟩, 6), (⟨"SketchFillerModel", "puts", "(I)V"⟩, 51), (⟨"SketchFillerModel", "tells", "(II)V"⟩, 51), (⟨"SketchFillerModel", "steps", "()V"⟩, 51), (⟨"SketchFillerModel", "see", "(I)I"⟩, 51), (⟨"SketchFillerModel", "reads", "()Z"⟩, 51), (⟨"SketchFillerModel", "begins", "()Z"⟩, 51), (⟨"SketchFillerModel", "takesOwn", "(I)Z"⟩, 51), (⟨"SketchFillerModel", "own", "()I"⟩, 51), (⟨"SketchFillerModel", "must", "(ZI)Z"⟩, 51), (⟨"SketchFillerModel", "takesNumber", "(II)Z"⟩, 51), (⟨"SketchFillerModel", "takesSign", "(I)Z"⟩, 51), (⟨"SketchFillerModel", "isSign", "(I)Z"⟩, 51)]
theorem lw_r4 : ∀ q ∈ lw_privs_4, lw_okq q := List.forall_mem_cons.mpr ⟨lw_p48, List.forall_mem_cons.mpr ⟨lw_p49, List.forall_mem_cons.mpr ⟨lw_p50, List.forall_mem_cons.mpr ⟨lw_p51, List.forall_mem_cons.mpr ⟨lw_p52, List.forall_mem_cons.mpr ⟨lw_p53, List.forall_mem_cons.mpr ⟨lw_p54, List.forall_mem_cons.mpr ⟨lw_p55, List.forall_mem_cons.mpr ⟨lw_p56, List.forall_mem_cons.mpr ⟨lw_p57, List.forall_mem_cons.mpr ⟨lw_p58, List.forall_mem_cons.mpr ⟨lw_p59, List.forall_mem_cons.mpr ⟨lw_p60, List.forall_mem_cons.mpr ⟨lw_p61, List.forall_mem_cons.mpr ⟨lw_p62, List.forall_mem_cons.mpr ⟨lw_p63, fun _ h => absurd h List.not_mem_nil⟩⟩⟩⟩⟩⟩⟩⟩⟩⟩⟩⟩⟩⟩⟩⟩
theorem lw_p64 : lw_okq (⟨"SketchFillerModel", "line", "()Z"⟩, 51) := ⟨⟨by decide +kernel, by decide +kernel⟩, List.mem_of_getElem? (i := 1158) (by decide +kernel), List.mem_of_getElem? (i := 1391) (by decide +kernel), List.mem_of_getElem? (i := 1392) (by decide +kernel)⟩
theorem lw_p65 : lw_okq (⟨"SketchFillerModel", "tellsName", "(I)I"⟩, 51) := ⟨⟨by decide +kernel, by decide +kernel⟩, List.mem_of_getElem? (i := 1158) (by decide +kernel), List.mem_of_getElem? (i := 1395) (by decide +kernel), List.mem_of_getElem? (i := 1396) (by decide +kernel)⟩
theorem lw_p66 : lw_okq (⟨"SketchFillerModel", "had", "(I)I"⟩, 51) := ⟨⟨by decide +kernel, by decide +kernel⟩, List.mem_of_getElem? (i := 1158) (by decide +kernel), List.mem_of_getElem? (i := 1399) (by decide +kernel), List.mem_of_getElem? (i := 1400) (by decide +kernel)⟩
theorem lw_p67 : lw_okq (⟨"SketchFillerModel", "newName", "()Z"⟩, 51) := ⟨⟨by decide +kernel, by decide +kernel⟩, List.mem_of_getElem? (i := 1158) (by decide +kernel), List.mem_of_getElem? (i := 1403) (by decide +kernel), List.mem_of_getElem? (i := 1404) (by decide +kernel)⟩
theorem lw_p68 : lw_okq (⟨"SketchFillerModel", "isName", "()Z"⟩, 51) := ⟨⟨by decide +kernel, by decide +kernel⟩, List.mem_of_getElem? (i := 1158) (by decide +kernel), List.mem_of_getElem? (i := 1407) (by decide +kernel), List.mem_of_getElem? (i := 1408) (by decide +kernel)⟩
theorem lw_p69 : lw_okq (⟨"SketchFillerModel", "slotOf", "(I)I"⟩, 51) := ⟨⟨by decide +kernel, by decide +kernel⟩, List.mem_of_getElem? (i := 1158) (by decide +kernel), List.mem_of_getElem? (i := 1411) (by decide +kernel), List.mem_of_getElem? (i := 1412) (by decide +kernel)⟩
theorem lw_p70 : lw_okq (⟨"SketchFillerModel", "statementHere", "()Z"⟩, 51) := ⟨⟨by decide +kernel, by decide +kernel⟩, List.mem_of_getElem? (i := 1158) (by decide +kernel), List.mem_of_getElem? (i := 1416) (by decide +kernel), List.mem_of_getElem? (i := 1417) (by decide +kernel)⟩
theorem lw_p71 : lw_okq (⟨"SketchFillerModel", "kindHere", "()I"⟩, 51) := ⟨⟨by decide +kernel, by decide +kernel⟩, List.mem_of_getElem? (i := 1158) (by decide +kernel), List.mem_of_getElem? (i := 1420) (by decide +kernel), List.mem_of_getElem? (i := 1421) (by decide +kernel)⟩
theorem lw_p72 : lw_okq (⟨"SketchFillerModel", "setHere", "()I"⟩, 51) := ⟨⟨by decide +kernel, by decide +kernel⟩, List.mem_of_getElem? (i := 1158) (by decide +kernel), List.mem_of_getElem? (i := 1424) (by decide +kernel), List.mem_of_getElem? (i := 1425) (by decide +kernel)⟩
theorem lw_p73 : lw_okq (⟨"SketchFillerModel", "at", "(I)I"⟩, 51) := ⟨⟨by decide +kernel, by decide +kernel⟩, List.mem_of_getElem? (i := 1158) (by decide +kernel), List.mem_of_getElem? (i := 1428) (by decide +kernel), List.mem_of_getElem? (i := 1429) (by decide +kernel)⟩
theorem lw_p74 : lw_okq (⟨"SketchFillerModel", "doing", "(II)Z"⟩, 51) := ⟨⟨by decide +kernel, by decide +kernel⟩, List.mem_of_getElem? (i := 1158) (by decide +kernel), List.mem_of_getElem? (i := 1432) (by decide +kernel), List.mem_of_getElem? (i := 1433) (by decide +kernel)⟩
theorem lw_p75 : lw_okq (⟨"SketchFillerModel", "setsHere", "(I)Z"⟩, 51) := ⟨⟨by decide +kernel, by decide +kernel⟩, List.mem_of_getElem? (i := 1158) (by decide +kernel), List.mem_of_getElem? (i := 1436) (by decide +kernel), List.mem_of_getElem? (i := 1437) (by decide +kernel)⟩
theorem lw_p76 : lw_okq (⟨"SketchFillerModel", "eOf", "(I)Z"⟩, 51) := ⟨⟨by decide +kernel, by decide +kernel⟩, List.mem_of_getElem? (i := 1158) (by decide +kernel), List.mem_of_getElem? (i := 1440) (by decide +kernel), List.mem_of_getElem? (i := 1441) (by decide +kernel)⟩
theorem lw_p77 : lw_okq (⟨"SketchFillerModel", "e", "()Z"⟩, 51) := ⟨⟨by decide +kernel, by decide +kernel⟩, List.mem_of_getElem? (i := 1158) (by decide +kernel), List.mem_of_getElem? (i := 1444) (by decide +kernel), List.mem_of_getElem? (i := 1445) (by decide +kernel)⟩
theorem lw_p78 : lw_okq (⟨"SketchFillerModel", "sides", "(I)Z"⟩, 51) := ⟨⟨by decide +kernel, by decide +kernel⟩, List.mem_of_getElem? (i := 1158) (by decide +kernel), List.mem_of_getElem? (i := 1448) (by decide +kernel), List.mem_of_getElem? (i := 1449) (by decide +kernel)⟩
theorem lw_p79 : lw_okq (⟨"SketchFillerModel", "unary", "()Z"⟩, 51) := ⟨⟨by decide +kernel, by decide +kernel⟩, List.mem_of_getElem? (i := 1158) (by decide +kernel), List.mem_of_getElem? (i := 1452) (by decide +kernel), List.mem_of_getElem? (i := 1453) (by decide +kernel)⟩
def lw_privs_5 : List (MethodName × Nat) := [(⟨"SketchFillerModel", "line", "()Z"⟩, 51), (⟨"SketchFillerModel", "tellsName", "(I)I"⟩, 51), (⟨"SketchFillerModel", "had", "(I)I"⟩, 51), (⟨"SketchFillerModel", "newName", "()Z"⟩, 51), (⟨"SketchFillerModel", "isName", "()Z"⟩, 51), (⟨"SketchFillerModel", "slotOf", "(I)I"⟩, 51), (⟨"SketchFillerModel", "statementHere", "()Z"⟩, 51), (⟨"SketchFillerModel", "kindHere", "()I"⟩, 51), (⟨"SketchFillerModel", "setHere", "()I"⟩, 51), (⟨"SketchFillerModel", "at", "(I)I"⟩, 51), (⟨"SketchFillerModel", "doing", "(II)Z"⟩, 51), (⟨"SketchFillerModel", "setsHere", "(I)Z"⟩, 51), (⟨"SketchFillerModel", "eOf", "(I)Z"⟩, 51), (⟨"SketchFillerModel", "e", "()Z"⟩, 51), (⟨"SketchFillerModel", "sides", "(I)Z"⟩, 51), (⟨"SketchFillerModel", "unary", "()Z"⟩, 51)]
theorem lw_r5 : ∀ q ∈ lw_privs_5, lw_okq q := List.forall_mem_cons.mpr ⟨lw_p64, List.forall_mem_cons.mpr ⟨lw_p65, List.forall_mem_cons.mpr ⟨lw_p66, List.forall_mem_cons.mpr ⟨lw_p67, List.forall_mem_cons.mpr ⟨lw_p68, List.forall_mem_cons.mpr ⟨lw_p69, List.forall_mem_cons.mpr ⟨lw_p70, List.forall_mem_cons.mpr ⟨lw_p71, List.forall_mem_cons.mpr ⟨lw_p72, List.forall_mem_cons.mpr ⟨lw_p73, List.forall_mem_cons.mpr ⟨lw_p74, List.forall_mem_cons.mpr ⟨lw_p75, List.forall_mem_cons.mpr ⟨lw_p76, List.forall_mem_cons.mpr ⟨lw_p77, List.forall_mem_cons.mpr ⟨lw_p78, List.forall_mem_cons.mpr ⟨lw_p79, fun _ h => absurd h List.not_mem_nil⟩⟩⟩⟩⟩⟩⟩⟩⟩⟩⟩⟩⟩⟩⟩⟩
theorem lw_p80 : lw_okq (⟨"SketchFillerModel", "opens", "()Z"⟩, 51) := ⟨⟨by decide +kernel, by decide +kernel⟩, List.mem_of_getElem? (i := 1158) (by decide +kernel), List.mem_of_getElem? (i := 1456) (by decide +kernel), List.mem_of_getElem? (i := 1457) (by decide +kernel)⟩
theorem lw_p81 : lw_okq (⟨"SketchFillerModel", "codes", "(II)V"⟩, 51) := ⟨⟨by decide +kernel, by decide +kernel⟩, List.mem_of_getElem? (i := 1158) (by decide +kernel), List.mem_of_getElem? (i := 1460) (by decide +kernel), List.mem_of_getElem? (i := 1461) (by decide +kernel)⟩
theorem lw_p82 : lw_okq (⟨"SketchFillerModel", "isOf", "(I)Z"⟩, 51) := ⟨⟨by decide +kernel, by decide +kernel⟩, List.mem_of_getElem? (i := 1158) (by decide +kernel), List.mem_of_getElem? (i := 1464) (by decide +kernel), List.mem_of_getElem? (i := 1465) (by decide +kernel)⟩
theorem lw_p83 : lw_okq (⟨"SketchFillerModel", "mustHere", "(I)Z"⟩, 51) := ⟨⟨by decide +kernel, by decide +kernel⟩, List.mem_of_getElem? (i := 1158) (by decide +kernel), List.mem_of_getElem? (i := 1468) (by decide +kernel), List.mem_of_getElem? (i := 1469) (by decide +kernel)⟩
theorem lw_p84 : lw_okq (⟨"SketchFillerModel", "ifHere", "(I)Z"⟩, 51) := ⟨⟨by decide +kernel, by decide +kernel⟩, List.mem_of_getElem? (i := 1158) (by decide +kernel), List.mem_of_getElem? (i := 1472) (by decide +kernel), List.mem_of_getElem? (i := 1473) (by decide +kernel)⟩
theorem lw_p85 : lw_okq (⟨"SketchFillerModel", "block", "()Z"⟩, 51) := ⟨⟨by decide +kernel, by decide +kernel⟩, List.mem_of_getElem? (i := 1158) (by decide +kernel), List.mem_of_getElem? (i := 1476) (by decide +kernel), List.mem_of_getElem? (i := 1477) (by decide +kernel)⟩
theorem lw_p86 : lw_okq (⟨"SketchFillerModel", "loopHere", "(I)Z"⟩, 51) := ⟨⟨by decide +kernel, by decide +kernel⟩, List.mem_of_getElem? (i := 1158) (by decide +kernel), List.mem_of_getElem? (i := 1480) (by decide +kernel), List.mem_of_getElem? (i := 1481) (by decide +kernel)⟩
theorem lw_p87 : lw_okq (⟨"SketchFillerModel", "numbered", "(I)Z"⟩, 51) := ⟨⟨by decide +kernel, by decide +kernel⟩, List.mem_of_getElem? (i := 1158) (by decide +kernel), List.mem_of_getElem? (i := 1484) (by decide +kernel), List.mem_of_getElem? (i := 1485) (by decide +kernel)⟩
theorem lw_p88 : lw_okq (⟨"SketchFillerModel", "whileHere", "(I)Z"⟩, 51) := ⟨⟨by decide +kernel, by decide +kernel⟩, List.mem_of_getElem? (i := 1158) (by decide +kernel), List.mem_of_getElem? (i := 1488) (by decide +kernel), List.mem_of_getElem? (i := 1489) (by decide +kernel)⟩
theorem lw_p89 : lw_okq (⟨"SketchFillerModel", "letHere", "(I)Z"⟩, 51) := ⟨⟨by decide +kernel, by decide +kernel⟩, List.mem_of_getElem? (i := 1158) (by decide +kernel), List.mem_of_getElem? (i := 1492) (by decide +kernel), List.mem_of_getElem? (i := 1493) (by decide +kernel)⟩
theorem lw_p90 : lw_okq (⟨"SketchFillerModel", "laysShown", "()V"⟩, 51) := ⟨⟨by decide +kernel, by decide +kernel⟩, List.mem_of_getElem? (i := 1158) (by decide +kernel), List.mem_of_getElem? (i := 1496) (by decide +kernel), List.mem_of_getElem? (i := 1497) (by decide +kernel)⟩
theorem lw_p91 : lw_okq (⟨"SketchFillerModel", "shows", "()V"⟩, 51) := ⟨⟨by decide +kernel, by decide +kernel⟩, List.mem_of_getElem? (i := 1158) (by decide +kernel), List.mem_of_getElem? (i := 1500) (by decide +kernel), List.mem_of_getElem? (i := 1501) (by decide +kernel)⟩
theorem lw_p92 : lw_okq (⟨"SketchFillerModel", "copies", "()V"⟩, 51) := ⟨⟨by decide +kernel, by decide +kernel⟩, List.mem_of_getElem? (i := 1158) (by decide +kernel), List.mem_of_getElem? (i := 1504) (by decide +kernel), List.mem_of_getElem? (i := 1505) (by decide +kernel)⟩
theorem lw_p93 : lw_okq (⟨"SketchFillerModel", "laysRanks", "()V"⟩, 51) := ⟨⟨by decide +kernel, by decide +kernel⟩, List.mem_of_getElem? (i := 1158) (by decide +kernel), List.mem_of_getElem? (i := 1508) (by decide +kernel), List.mem_of_getElem? (i := 1509) (by decide +kernel)⟩
theorem lw_p94 : lw_okq (⟨"SketchFillerModel", "guesses", "()I"⟩, 51) := ⟨⟨by decide +kernel, by decide +kernel⟩, List.mem_of_getElem? (i := 1158) (by decide +kernel), List.mem_of_getElem? (i := 1512) (by decide +kernel), List.mem_of_getElem? (i := 1513) (by decide +kernel)⟩
theorem lw_p95 : lw_okq (⟨"SketchFillerModel", "costOf", "(I)I"⟩, 51) := ⟨⟨by decide +kernel, by decide +kernel⟩, List.mem_of_getElem? (i := 1158) (by decide +kernel), List.mem_of_getElem? (i := 1516) (by decide +kernel), List.mem_of_getElem? (i := 1517) (by decide +kernel)⟩
def lw_privs_6 : List (MethodName × Nat) := [(⟨"SketchFillerModel", "opens", "()Z"⟩, 51), (⟨"SketchFillerModel", "codes", "(II)V"⟩, 51), (⟨"SketchFillerModel", "isOf", "(I)Z"⟩, 51), (⟨"SketchFillerModel", "mustHere", "(I)Z"⟩, 51), (⟨"SketchFillerModel", "ifHere", "(I)Z"⟩, 51), (⟨"SketchFillerModel", "block", "()Z"⟩, 51), (⟨"SketchFillerModel", "loopHere", "(I)Z"⟩, 51), (⟨"SketchFillerModel", "numbered", "(I)Z"⟩, 51), (⟨"SketchFillerModel", "whileHere", "(I)Z"⟩, 51), (⟨"SketchFillerModel", "letHere", "(I)Z"⟩, 51), (⟨"SketchFillerModel", "laysShown", "()V"⟩, 51), (⟨"SketchFillerModel", "shows", "()V"⟩, 51), (⟨"SketchFillerModel", "copies", "()V"⟩, 51), (⟨"SketchFillerModel", "laysRanks", "()V"⟩, 51), (⟨"SketchFillerModel", "guesses", "()I"⟩, 51), (⟨"SketchFillerModel", "costOf", "(I)I"⟩, 51)]
theorem lw_r6 : ∀ q ∈ lw_privs_6, lw_okq q := List.forall_mem_cons.mpr ⟨lw_p80, List.forall_mem_cons.mpr ⟨lw_p81, List.forall_mem_cons.mpr ⟨lw_p82, List.forall_mem_cons.mpr ⟨lw_p83, List.forall_mem_cons.mpr ⟨lw_p84, List.forall_mem_cons.mpr ⟨lw_p85, List.forall_mem_cons.mpr ⟨lw_p86, List.forall_mem_cons.mpr ⟨lw_p87, List.forall_mem_cons.mpr ⟨lw_p88, List.forall_mem_cons.mpr ⟨lw_p89, List.forall_mem_cons.mpr ⟨lw_p90, List.forall_mem_cons.mpr ⟨lw_p91, List.forall_mem_cons.mpr ⟨lw_p92, List.forall_mem_cons.mpr ⟨lw_p93, List.forall_mem_cons.mpr ⟨lw_p94, List.forall_mem_cons.mpr ⟨lw_p95, fun _ h => absurd h List.not_mem_nil⟩⟩⟩⟩⟩⟩⟩⟩⟩⟩⟩⟩⟩⟩⟩⟩
theorem lw_p96 : lw_okq (⟨"SketchFillerModel", "holeIn", "(II)I"⟩, 51) := ⟨⟨by decide +kernel, by decide +kernel⟩, List.mem_of_getElem? (i := 1158) (by decide +kernel), List.mem_of_getElem? (i := 1520) (by decide +kernel), List.mem_of_getElem? (i := 1521) (by decide +kernel)⟩
theorem lw_p97 : lw_okq (⟨"SketchFillerModel", "partOf", "(IIII)I"⟩, 51) := ⟨⟨by decide +kernel, by decide +kernel⟩, List.mem_of_getElem? (i := 1158) (by decide +kernel), List.mem_of_getElem? (i := 1524) (by decide +kernel), List.mem_of_getElem? (i := 1525) (by decide +kernel)⟩
theorem lw_p98 : lw_okq (⟨"SketchFillerModel", "isHole", "(I)Z"⟩, 51) := ⟨⟨by decide +kernel, by decide +kernel⟩, List.mem_of_getElem? (i := 1158) (by decide +kernel), List.mem_of_getElem? (i := 1536) (by decide +kernel), List.mem_of_getElem? (i := 1537) (by decide +kernel)⟩
theorem lw_p99 : lw_okq (⟨"SketchFillerModel", "isGuess", "(I)Z"⟩, 51) := ⟨⟨by decide +kernel, by decide +kernel⟩, List.mem_of_getElem? (i := 1158) (by decide +kernel), List.mem_of_getElem? (i := 1544) (by decide +kernel), List.mem_of_getElem? (i := 1545) (by decide +kernel)⟩
theorem lw_p100 : lw_okq (⟨"SketchFillerModel", "isInput", "(I)Z"⟩, 51) := ⟨⟨by decide +kernel, by decide +kernel⟩, List.mem_of_getElem? (i := 1158) (by decide +kernel), List.mem_of_getElem? (i := 1560) (by decide +kernel), List.mem_of_getElem? (i := 1561) (by decide +kernel)⟩
theorem lw_p101 : lw_okq (⟨"SketchFillerModel", "inputs", "()I"⟩, 51) := ⟨⟨by decide +kernel, by decide +kernel⟩, List.mem_of_getElem? (i := 1158) (by decide +kernel), List.mem_of_getElem? (i := 1564) (by decide +kernel), List.mem_of_getElem? (i := 1565) (by decide +kernel)⟩
theorem lw_p102 : lw_okq (⟨"SketchFillerModel", "ran", "(II)I"⟩, 51) := ⟨⟨by decide +kernel, by decide +kernel⟩, List.mem_of_getElem? (i := 1158) (by decide +kernel), List.mem_of_getElem? (i := 1568) (by decide +kernel), List.mem_of_getElem? (i := 1569) (by decide +kernel)⟩
theorem lw_p103 : lw_okq (⟨"SketchFillerModel", "runs", "(II)V"⟩, 51) := ⟨⟨by decide +kernel, by decide +kernel⟩, List.mem_of_getElem? (i := 1158) (by decide +kernel), List.mem_of_getElem? (i := 1572) (by decide +kernel), List.mem_of_getElem? (i := 1573) (by decide +kernel)⟩
theorem lw_p104 : lw_okq (⟨"SketchFillerModel", "step", "()V"⟩, 51) := ⟨⟨by decide +kernel, by decide +kernel⟩, List.mem_of_getElem? (i := 1158) (by decide +kernel), List.mem_of_getElem? (i := 1576) (by decide +kernel), List.mem_of_getElem? (i := 1577) (by decide +kernel)⟩
theorem lw_p105 : lw_okq (⟨"SketchFillerModel", "does", "(I)V"⟩, 51) := ⟨⟨by decide +kernel, by decide +kernel⟩, List.mem_of_getElem? (i := 1158) (by decide +kernel), List.mem_of_getElem? (i := 1580) (by decide +kernel), List.mem_of_getElem? (i := 1581) (by decide +kernel)⟩
theorem lw_p106 : lw_okq (⟨"SketchFillerModel", "ofStatement", "(II)I"⟩, 51) := ⟨⟨by decide +kernel, by decide +kernel⟩, List.mem_of_getElem? (i := 1158) (by decide +kernel), List.mem_of_getElem? (i := 1584) (by decide +kernel), List.mem_of_getElem? (i := 1585) (by decide +kernel)⟩
theorem lw_p107 : lw_okq (⟨"SketchFillerModel", "loops", "(I)V"⟩, 51) := ⟨⟨by decide +kernel, by decide +kernel⟩, List.mem_of_getElem? (i := 1158) (by decide +kernel), List.mem_of_getElem? (i := 1588) (by decide +kernel), List.mem_of_getElem? (i := 1589) (by decide +kernel)⟩
theorem lw_p108 : lw_okq (⟨"SketchFillerModel", "whiles", "(I)V"⟩, 51) := ⟨⟨by decide +kernel, by decide +kernel⟩, List.mem_of_getElem? (i := 1158) (by decide +kernel), List.mem_of_getElem? (i := 1592) (by decide +kernel), List.mem_of_getElem? (i := 1593) (by decide +kernel)⟩
theorem lw_p109 : lw_okq (⟨"SketchFillerModel", "eAt", "(I)I"⟩, 51) := ⟨⟨by decide +kernel, by decide +kernel⟩, List.mem_of_getElem? (i := 1158) (by decide +kernel), List.mem_of_getElem? (i := 1596) (by decide +kernel), List.mem_of_getElem? (i := 1597) (by decide +kernel)⟩
theorem lw_p110 : lw_okq (⟨"SketchFillerModel", "worked", "(II)I"⟩, 51) := ⟨⟨by decide +kernel, by decide +kernel⟩, List.mem_of_getElem? (i := 1158) (by decide +kernel), List.mem_of_getElem? (i := 1600) (by decide +kernel), List.mem_of_getElem? (i := 1601) (by decide +kernel)⟩
theorem lw_p111 : lw_okq (⟨"SketchFillerModel", "push", "(I)V"⟩, 51) := ⟨⟨by decide +kernel, by decide +kernel⟩, List.mem_of_getElem? (i := 1158) (by decide +kernel), List.mem_of_getElem? (i := 1604) (by decide +kernel), List.mem_of_getElem? (i := 1605) (by decide +kernel)⟩
def lw_privs_7 : List (MethodName × Nat) := [(⟨"SketchFillerModel", "holeIn", "(II)I"⟩, 51), (⟨"SketchFillerModel", "partOf", "(IIII)I"⟩, 51), (⟨"SketchFillerModel", "isHole", "(I)Z"⟩, 51), (⟨"SketchFillerModel", "isGuess", "(I)Z"⟩, 51), (⟨"SketchFillerModel", "isInput", "(I)Z"⟩, 51), (⟨"SketchFillerModel", "inputs", "()I"⟩, 51), (⟨"SketchFillerModel", "ran", "(II)I"⟩, 51), (⟨"SketchFillerModel", "runs", "(II)V"⟩, 51), (⟨"SketchFillerModel", "step", "()V"⟩, 51), (⟨"SketchFillerModel", "does", "(I)V"⟩, 51), (⟨"SketchFillerModel", "ofStatement", "(II)I"⟩, 51), (⟨"SketchFillerModel", "loops", "(I)V"⟩, 51), (⟨"SketchFillerModel", "whiles", "(I)V"⟩, 51), (⟨"SketchFillerModel", "eAt", "(I)I"⟩, 51), (⟨"SketchFillerModel", "worked", "(II)I"⟩, 51), (⟨"SketchFillerModel", "push", "(I)V"⟩, 51)]
theorem lw_r7 : ∀ q ∈ lw_privs_7, lw_okq q := List.forall_mem_cons.mpr ⟨lw_p96, List.forall_mem_cons.mpr ⟨lw_p97, List.forall_mem_cons.mpr ⟨lw_p98, List.forall_mem_cons.mpr ⟨lw_p99, List.forall_mem_cons.mpr ⟨lw_p100, List.forall_mem_cons.mpr ⟨lw_p101, List.forall_mem_cons.mpr ⟨lw_p102, List.forall_mem_cons.mpr ⟨lw_p103, List.forall_mem_cons.mpr ⟨lw_p104, List.forall_mem_cons.mpr ⟨lw_p105, List.forall_mem_cons.mpr ⟨lw_p106, List.forall_mem_cons.mpr ⟨lw_p107, List.forall_mem_cons.mpr ⟨lw_p108, List.forall_mem_cons.mpr ⟨lw_p109, List.forall_mem_cons.mpr ⟨lw_p110, List.forall_mem_cons.mpr ⟨lw_p111, fun _ h => absurd h List.not_mem_nil⟩⟩⟩⟩⟩⟩⟩⟩⟩⟩⟩⟩⟩⟩⟩⟩
theorem lw_p112 : lw_okq (⟨"SketchFillerModel", "mask", "()I"⟩, 51) := ⟨⟨by decide +kernel, by decide +kernel⟩, List.mem_of_getElem? (i := 1158) (by decide +kernel), List.mem_of_getElem? (i := 1608) (by decide +kernel), List.mem_of_getElem? (i := 1609) (by decide +kernel)⟩
theorem lw_p113 : lw_okq (⟨"SketchFillerModel", "signs", "(I)V"⟩, 51) := ⟨⟨by decide +kernel, by decide +kernel⟩, List.mem_of_getElem? (i := 1158) (by decide +kernel), List.mem_of_getElem? (i := 1612) (by decide +kernel), List.mem_of_getElem? (i := 1613) (by decide +kernel)⟩
theorem lw_p114 : lw_okq (⟨"SketchFillerModel", "pop", "()I"⟩, 51) := ⟨⟨by decide +kernel, by decide +kernel⟩, List.mem_of_getElem? (i := 1158) (by decide +kernel), List.mem_of_getElem? (i := 1616) (by decide +kernel), List.mem_of_getElem? (i := 1617) (by decide +kernel)⟩
theorem lw_p115 : lw_okq (⟨"SketchFillerModel", "lets", "(II)V"⟩, 51) := ⟨⟨by decide +kernel, by decide +kernel⟩, List.mem_of_getElem? (i := 1158) (by decide +kernel), List.mem_of_getElem? (i := 1620) (by decide +kernel), List.mem_of_getElem? (i := 1621) (by decide +kernel)⟩
theorem lw_p116 : lw_okq (⟨"SketchFillerModel", "refuterOf", "(I)I"⟩, 51) := ⟨⟨by decide +kernel, by decide +kernel⟩, List.mem_of_getElem? (i := 1158) (by decide +kernel), List.mem_of_getElem? (i := 1636) (by decide +kernel), List.mem_of_getElem? (i := 1637) (by decide +kernel)⟩
theorem lw_p117 : lw_okq (⟨"SketchFillerModel", "verdictOf", "(II)I"⟩, 51) := ⟨⟨by decide +kernel, by decide +kernel⟩, List.mem_of_getElem? (i := 1158) (by decide +kernel), List.mem_of_getElem? (i := 1640) (by decide +kernel), List.mem_of_getElem? (i := 1641) (by decide +kernel)⟩
theorem lw_p118 : lw_okq (⟨"SketchFillerModel", "guessing", "()I"⟩, 51) := ⟨⟨by decide +kernel, by decide +kernel⟩, List.mem_of_getElem? (i := 1158) (by decide +kernel), List.mem_of_getElem? (i := 1648) (by decide +kernel), List.mem_of_getElem? (i := 1649) (by decide +kernel)⟩
theorem lw_p119 : lw_okq (⟨"SketchFillerModel", "firstOf", "(I)I"⟩, 51) := ⟨⟨by decide +kernel, by decide +kernel⟩, List.mem_of_getElem? (i := 1158) (by decide +kernel), List.mem_of_getElem? (i := 1652) (by decide +kernel), List.mem_of_getElem? (i := 1653) (by decide +kernel)⟩
theorem lw_p120 : lw_okq (⟨"SketchFillerModel", "isOf", "(II)Z"⟩, 51) := ⟨⟨by decide +kernel, by decide +kernel⟩, List.mem_of_getElem? (i := 1158) (by decide +kernel), List.mem_of_getElem? (i := 1656) (by decide +kernel), List.mem_of_getElem? (i := 1657) (by decide +kernel)⟩
theorem lw_p121 : lw_okq (⟨"SketchFillerModel", "isLeft", "(I)Z"⟩, 51) := ⟨⟨by decide +kernel, by decide +kernel⟩, List.mem_of_getElem? (i := 1158) (by decide +kernel), List.mem_of_getElem? (i := 1660) (by decide +kernel), List.mem_of_getElem? (i := 1661) (by decide +kernel)⟩
theorem lw_p122 : lw_okq (⟨"SketchFillerModel", "isOut", "(I)Z"⟩, 51) := ⟨⟨by decide +kernel, by decide +kernel⟩, List.mem_of_getElem? (i := 1158) (by decide +kernel), List.mem_of_getElem? (i := 1664) (by decide +kernel), List.mem_of_getElem? (i := 1665) (by decide +kernel)⟩
theorem lw_p123 : lw_okq (⟨"SketchFillerModel", "checking", "()I"⟩, 51) := ⟨⟨by decide +kernel, by decide +kernel⟩, List.mem_of_getElem? (i := 1158) (by decide +kernel), List.mem_of_getElem? (i := 1672) (by decide +kernel), List.mem_of_getElem? (i := 1673) (by decide +kernel)⟩
theorem lw_p124 : lw_okq (⟨"SketchFillerModel", "firstRefuter", "()I"⟩, 51) := ⟨⟨by decide +kernel, by decide +kernel⟩, List.mem_of_getElem? (i := 1158) (by decide +kernel), List.mem_of_getElem? (i := 1676) (by decide +kernel), List.mem_of_getElem? (i := 1677) (by decide +kernel)⟩
theorem lw_p125 : lw_okq (⟨"SketchFillerModel", "refutesOf", "(I)I"⟩, 51) := ⟨⟨by decide +kernel, by decide +kernel⟩, List.mem_of_getElem? (i := 1158) (by decide +kernel), List.mem_of_getElem? (i := 1680) (by decide +kernel), List.mem_of_getElem? (i := 1681) (by decide +kernel)⟩
theorem lw_p126 : lw_okq (⟨"SketchFillerModel", "seeks", "()V"⟩, 51) := ⟨⟨by decide +kernel, by decide +kernel⟩, List.mem_of_getElem? (i := 1158) (by decide +kernel), List.mem_of_getElem? (i := 1694) (by decide +kernel), List.mem_of_getElem? (i := 1695) (by decide +kernel)⟩
theorem lw_p127 : lw_okq (⟨"SketchFillerModel", "isKept", "(I)Z"⟩, 51) := ⟨⟨by decide +kernel, by decide +kernel⟩, List.mem_of_getElem? (i := 1158) (by decide +kernel), List.mem_of_getElem? (i := 1702) (by decide +kernel), List.mem_of_getElem? (i := 1703) (by decide +kernel)⟩
def lw_privs_8 : List (MethodName × Nat) := [(⟨"SketchFillerModel", "mask", "()I"⟩, 51), (⟨"SketchFillerModel", "signs", "(I)V"⟩, 51), (⟨"SketchFillerModel", "pop", "()I"⟩, 51), (⟨"SketchFillerModel", "lets", "(II)V"⟩, 51), (⟨"SketchFillerModel", "refuterOf", "(I)I"⟩, 51), (⟨"SketchFillerModel", "verdictOf", "(II)I"⟩, 51), (⟨"SketchFillerModel", "guessing", "()I"⟩, 51), (⟨"SketchFillerModel", "firstOf", "(I)I"⟩, 51), (⟨"SketchFillerModel", "isOf", "(II)Z"⟩, 51), (⟨"SketchFillerModel", "isLeft", "(I)Z"⟩, 51), (⟨"SketchFillerModel", "isOut", "(I)Z"⟩, 51), (⟨"SketchFillerModel", "checking", "()I"⟩, 51), (⟨"SketchFillerModel", "firstRefuter", "()I"⟩, 51), (⟨"SketchFillerModel", "refutesOf", "(I)I"⟩, 51), (⟨"SketchFillerModel", "seeks", "()V"⟩, 51), (⟨"SketchFillerModel", "isKept", "(I)Z"⟩, 51)]
theorem lw_r8 : ∀ q ∈ lw_privs_8, lw_okq q := List.forall_mem_cons.mpr ⟨lw_p112, List.forall_mem_cons.mpr ⟨lw_p113, List.forall_mem_cons.mpr ⟨lw_p114, List.forall_mem_cons.mpr ⟨lw_p115, List.forall_mem_cons.mpr ⟨lw_p116, List.forall_mem_cons.mpr ⟨lw_p117, List.forall_mem_cons.mpr ⟨lw_p118, List.forall_mem_cons.mpr ⟨lw_p119, List.forall_mem_cons.mpr ⟨lw_p120, List.forall_mem_cons.mpr ⟨lw_p121, List.forall_mem_cons.mpr ⟨lw_p122, List.forall_mem_cons.mpr ⟨lw_p123, List.forall_mem_cons.mpr ⟨lw_p124, List.forall_mem_cons.mpr ⟨lw_p125, List.forall_mem_cons.mpr ⟨lw_p126, List.forall_mem_cons.mpr ⟨lw_p127, fun _ h => absurd h List.not_mem_nil⟩⟩⟩⟩⟩⟩⟩⟩⟩⟩⟩⟩⟩⟩⟩⟩
theorem lw_p128 : lw_okq (⟨"SketchFillerModel", "manyOf", "(I)I"⟩, 51) := ⟨⟨by decide +kernel, by decide +kernel⟩, List.mem_of_getElem? (i := 1158) (by decide +kernel), List.mem_of_getElem? (i := 1726) (by decide +kernel), List.mem_of_getElem? (i := 1727) (by decide +kernel)⟩
theorem lw_p129 : lw_okq (⟨"SketchFillerModel", "isFirstLike", "(I)Z"⟩, 51) := ⟨⟨by decide +kernel, by decide +kernel⟩, List.mem_of_getElem? (i := 1158) (by decide +kernel), List.mem_of_getElem? (i := 1758) (by decide +kernel), List.mem_of_getElem? (i := 1759) (by decide +kernel)⟩
theorem lw_p130 : lw_okq (⟨"SketchFillerModel", "areAlike", "(II)Z"⟩, 51) := ⟨⟨by decide +kernel, by decide +kernel⟩, List.mem_of_getElem? (i := 1158) (by decide +kernel), List.mem_of_getElem? (i := 1762) (by decide +kernel), List.mem_of_getElem? (i := 1763) (by decide +kernel)⟩
theorem lw_p131 : lw_okq (⟨"SketchFillerModel", "writes", "(I)V"⟩, 51) := ⟨⟨by decide +kernel, by decide +kernel⟩, List.mem_of_getElem? (i := 1158) (by decide +kernel), List.mem_of_getElem? (i := 1774) (by decide +kernel), List.mem_of_getElem? (i := 1775) (by decide +kernel)⟩
theorem lw_p132 : lw_okq (⟨"SketchFillerModel", "writesToken", "(II)V"⟩, 51) := ⟨⟨by decide +kernel, by decide +kernel⟩, List.mem_of_getElem? (i := 1158) (by decide +kernel), List.mem_of_getElem? (i := 1778) (by decide +kernel), List.mem_of_getElem? (i := 1779) (by decide +kernel)⟩
theorem lw_p133 : lw_okq (⟨"SketchFillerModel", "holeAt", "(II)I"⟩, 51) := ⟨⟨by decide +kernel, by decide +kernel⟩, List.mem_of_getElem? (i := 1158) (by decide +kernel), List.mem_of_getElem? (i := 1782) (by decide +kernel), List.mem_of_getElem? (i := 1783) (by decide +kernel)⟩
theorem lw_p134 : lw_okq (⟨"SketchFillerModel", "writesNumber", "(I)V"⟩, 51) := ⟨⟨by decide +kernel, by decide +kernel⟩, List.mem_of_getElem? (i := 1158) (by decide +kernel), List.mem_of_getElem? (i := 1786) (by decide +kernel), List.mem_of_getElem? (i := 1787) (by decide +kernel)⟩
def lw_privs_9 : List (MethodName × Nat) := [(⟨"SketchFillerModel", "manyOf", "(I)I"⟩, 51), (⟨"SketchFillerModel", "isFirstLike", "(I)Z"⟩, 51), (⟨"SketchFillerModel", "areAlike", "(II)Z"⟩, 51), (⟨"SketchFillerModel", "writes", "(I)V"⟩, 51), (⟨"SketchFillerModel", "writesToken", "(II)V"⟩, 51), (⟨"SketchFillerModel", "holeAt", "(II)I"⟩, 51), (⟨"SketchFillerModel", "writesNumber", "(I)V"⟩, 51)]
theorem lw_r9 : ∀ q ∈ lw_privs_9, lw_okq q := List.forall_mem_cons.mpr ⟨lw_p128, List.forall_mem_cons.mpr ⟨lw_p129, List.forall_mem_cons.mpr ⟨lw_p130, List.forall_mem_cons.mpr ⟨lw_p131, List.forall_mem_cons.mpr ⟨lw_p132, List.forall_mem_cons.mpr ⟨lw_p133, List.forall_mem_cons.mpr ⟨lw_p134, fun _ h => absurd h List.not_mem_nil⟩⟩⟩⟩⟩⟩⟩
def lw_privs : List (MethodName × Nat) := lw_privs_1 ++ (lw_privs_2 ++ (lw_privs_3 ++ (lw_privs_4 ++ (lw_privs_5 ++ (lw_privs_6 ++ (lw_privs_7 ++ (lw_privs_8 ++ (lw_privs_9))))))))
def lw_tbl : List Cond := k2_sels lw_privs ++ tables_1
theorem lw_privs_ok : ∀ q ∈ lw_privs, lw_okq q := by
  show ∀ q ∈ lw_privs_1 ++ (lw_privs_2 ++ (lw_privs_3 ++ (lw_privs_4 ++ (lw_privs_5 ++ (lw_privs_6 ++ (lw_privs_7 ++ (lw_privs_8 ++ (lw_privs_9)))))))), lw_okq q
  exact List.forall_mem_append.mpr ⟨lw_r1, List.forall_mem_append.mpr ⟨lw_r2, List.forall_mem_append.mpr ⟨lw_r3, List.forall_mem_append.mpr ⟨lw_r4, List.forall_mem_append.mpr ⟨lw_r5, List.forall_mem_append.mpr ⟨lw_r6, List.forall_mem_append.mpr ⟨lw_r7, List.forall_mem_append.mpr ⟨lw_r8, lw_r9⟩⟩⟩⟩⟩⟩⟩⟩

/-! ===== BEGIN words of one list among another's, by their places ===== -/
theorem goodIn_r {big : List Cond} (ws : List Cond) (ps : List Nat) (hp : ws = ps.filterMap (fun i => big[i]?)) (h : ws.all goodWord = true) : GoodIn big ws := by
  intro w hw
  have h1 := List.all_eq_true.mp h w hw
  rw [hp] at hw
  obtain ⟨i, -, hi⟩ := List.mem_filterMap.mp hw
  have hm : w ∈ big := by first | exact List.mem_of_getElem? hi | exact List.getElem?_mem hi
  exact ⟨hm, good_of_word h1⟩
theorem goodIn_app {big a b : List Cond} (ha : GoodIn big a) (hb : GoodIn big b) : GoodIn big (a ++ b) := fun w h => (List.mem_append.mp h).elim (ha w) (hb w)
theorem goodIn_ca {big a b : List Cond} {c : Cond} (ha : GoodIn big (c :: a)) (hb : GoodIn big b) : GoodIn big (c :: (a ++ b)) := fun w h => (List.mem_cons.mp h).elim (fun e => ha w (List.mem_cons.mpr (Or.inl e))) (fun h => (List.mem_append.mp h).elim (fun h => ha w (List.mem_cons.mpr (Or.inr h))) (hb w))
theorem goodIn_sub {big ws : List Cond} (hm : ∀ w ∈ ws, w ∈ big) (h : ws.all goodWord = true) : GoodIn big ws := fun w hw => ⟨hm w hw, good_of_word (List.all_eq_true.mp h w hw)⟩
/-! ===== END ===== -/

def RX0 : String := "SketchFiller$Machine"
def TX0 : u_T := fun k => match k with
  | 0 => ("SketchFiller$Machine", "program", "LSketchFiller$Program;", true)
  | 1 => ("SketchFiller$Machine", "mask", "I", true)
  | 2 => ("SketchFiller$Machine", "slots", "[I", true)
  | 3 => ("SketchFiller$Machine", "rounds", "[I", true)
  | 4 => ("SketchFiller$Machine", "stack", "[I", true)
  | 5 => ("SketchFiller$Machine", "top", "I", false)
  | 6 => ("SketchFiller$Machine", "at", "I", false)
  | 7 => ("SketchFiller$Machine", "unroll", "I", false)
  | 8 => ("SketchFiller$Machine", "steps", "I", false)
  | _ => ("SketchFiller$Machine", "outcome", "I", false)
def tyX0 : Nat → FieldType := fun k => match k with
  | 0 => .object "SketchFiller$Program"
  | 1 => .int
  | 2 => .array .int
  | 3 => .array .int
  | 4 => .array .int
  | 5 => .int
  | 6 => .int
  | 7 => .int
  | 8 => .int
  | _ => .int
abbrev wsX00 : List Cond := u_ws RX0 TX0 10
theorem nmX0 : ∀ a, a < 10 → ∀ b, b < 10 → a ≠ b → (TX0 a).2.1 ≠ (TX0 b).2.1 := by decide +kernel
theorem tyX0_ok : ∀ k, k < 10 → parseFieldDescriptor (TX0 k).2.2.1 = some (tyX0 k) := by decide +kernel
abbrev cX0_init : ByteArray := prog_2_method_1_code
def yX0_init : MethodName := ⟨RX0, "<init>", "(LSketchFiller$Program;)V"⟩
abbrev cX0_run : ByteArray := prog_2_method_2_code
def yX0_run : MethodName := ⟨RX0, "run", "(III)V"⟩
abbrev cX0_outcome : ByteArray := prog_2_method_3_code
def yX0_outcome : MethodName := ⟨RX0, "outcome", "()I"⟩
abbrev cX0_stepsBegun : ByteArray := prog_2_method_4_code
def yX0_stepsBegun : MethodName := ⟨RX0, "stepsBegun", "()I"⟩
abbrev cX0_varAt : ByteArray := prog_2_method_5_code
def yX0_varAt : MethodName := ⟨RX0, "varAt", "(I)I"⟩
abbrev cX0_perform : ByteArray := prog_2_method_6_code
def yX0_perform : MethodName := ⟨RX0, "perform", "(III)V"⟩
abbrev cX0_push : ByteArray := prog_2_method_7_code
def yX0_push : MethodName := ⟨RX0, "push", "(I)V"⟩
abbrev cX0_pop : ByteArray := prog_2_method_8_code
def yX0_pop : MethodName := ⟨RX0, "pop", "()I"⟩
abbrev cX0_store : ByteArray := prog_2_method_9_code
def yX0_store : MethodName := ⟨RX0, "store", "(II)V"⟩
abbrev cX0_beginStep : ByteArray := prog_2_method_10_code
def yX0_beginStep : MethodName := ⟨RX0, "beginStep", "()V"⟩
abbrev cX0_beginRounds : ByteArray := prog_2_method_11_code
def yX0_beginRounds : MethodName := ⟨RX0, "beginRounds", "(II)V"⟩
abbrev cX0_goRoundAgain : ByteArray := prog_2_method_12_code
def yX0_goRoundAgain : MethodName := ⟨RX0, "goRoundAgain", "(II)V"⟩
abbrev cX0_testWhile : ByteArray := prog_2_method_13_code
def yX0_testWhile : MethodName := ⟨RX0, "testWhile", "(III)V"⟩
abbrev cX0_join : ByteArray := prog_2_method_14_code
def yX0_join : MethodName := ⟨RX0, "join", "(I)V"⟩
def RX1 : String := "SketchFiller$Names"
def TX1 : u_T := fun k => match k with
  | 0 => ("SketchFiller$Names", "name", "[I", true)
  | 1 => ("SketchFiller$Names", "slot", "[I", true)
  | _ => ("SketchFiller$Names", "count", "I", false)
def tyX1 : Nat → FieldType := fun k => match k with
  | 0 => .array .int
  | 1 => .array .int
  | _ => .int
abbrev wsX10 : List Cond := u_ws RX1 TX1 3
theorem nmX1 : ∀ a, a < 3 → ∀ b, b < 3 → a ≠ b → (TX1 a).2.1 ≠ (TX1 b).2.1 := by decide +kernel
theorem tyX1_ok : ∀ k, k < 3 → parseFieldDescriptor (TX1 k).2.2.1 = some (tyX1 k) := by decide +kernel
abbrev cX1_init : ByteArray := prog_3_method_1_code
def yX1_init : MethodName := ⟨RX1, "<init>", "()V"⟩
abbrev cX1_slotOf : ByteArray := prog_3_method_2_code
def yX1_slotOf : MethodName := ⟨RX1, "slotOf", "(I)I"⟩
abbrev cX1_add : ByteArray := prog_3_method_3_code
def yX1_add : MethodName := ⟨RX1, "add", "(II)V"⟩
abbrev cX1_removeLatest : ByteArray := prog_3_method_4_code
def yX1_removeLatest : MethodName := ⟨RX1, "removeLatest", "()V"⟩
def RX2 : String := "SketchFiller$Parser"
def TX2 : u_T := fun k => match k with
  | 0 => ("SketchFiller$Parser", "tokens", "LSketchFiller$Tokens;", true)
  | 1 => ("SketchFiller$Parser", "program", "LSketchFiller$Program;", true)
  | 2 => ("SketchFiller$Parser", "names", "LSketchFiller$Names;", true)
  | 3 => ("SketchFiller$Parser", "at", "I", false)
  | 4 => ("SketchFiller$Parser", "number", "I", false)
  | _ => ("SketchFiller$Parser", "fault", "I", false)
def tyX2 : Nat → FieldType := fun k => match k with
  | 0 => .object "SketchFiller$Tokens"
  | 1 => .object "SketchFiller$Program"
  | 2 => .object "SketchFiller$Names"
  | 3 => .int
  | 4 => .int
  | _ => .int
abbrev wsX20 : List Cond := u_ws RX2 TX2 6
theorem nmX2 : ∀ a, a < 6 → ∀ b, b < 6 → a ≠ b → (TX2 a).2.1 ≠ (TX2 b).2.1 := by decide +kernel
theorem tyX2_ok : ∀ k, k < 6 → parseFieldDescriptor (TX2 k).2.2.1 = some (tyX2 k) := by decide +kernel
abbrev cX2_init : ByteArray := prog_4_method_1_code
def yX2_init : MethodName := ⟨RX2, "<init>", "(LSketchFiller$Tokens;)V"⟩
abbrev cX2_fault : ByteArray := prog_4_method_2_code
def yX2_fault : MethodName := ⟨RX2, "fault", "()I"⟩
abbrev cX2_program : ByteArray := prog_4_method_3_code
def yX2_program : MethodName := ⟨RX2, "program", "()LSketchFiller$Program;"⟩
abbrev cX2_wholeSketch : ByteArray := prog_4_method_4_code
def yX2_wholeSketch : MethodName := ⟨RX2, "wholeSketch", "()Z"⟩
abbrev cX2_kind : ByteArray := prog_4_method_5_code
def yX2_kind : MethodName := ⟨RX2, "kind", "()I"⟩
abbrev cX2_fail : ByteArray := prog_4_method_6_code
def yX2_fail : MethodName := ⟨RX2, "fail", "(I)Z"⟩
abbrev cX2_take : ByteArray := prog_4_method_7_code
def yX2_take : MethodName := ⟨RX2, "take", "(I)Z"⟩
abbrev cX2_takeNumber : ByteArray := prog_4_method_8_code
def yX2_takeNumber : MethodName := ⟨RX2, "takeNumber", "(II)Z"⟩
abbrev cX2_takeBits : ByteArray := prog_4_method_9_code
def yX2_takeBits : MethodName := ⟨RX2, "takeBits", "(I)Z"⟩
abbrev cX2_takeNewName : ByteArray := prog_4_method_10_code
def yX2_takeNewName : MethodName := ⟨RX2, "takeNewName", "()Z"⟩
abbrev cX2_lines : ByteArray := prog_4_method_11_code
def yX2_lines : MethodName := ⟨RX2, "lines", "()Z"⟩
abbrev cX2_inLine : ByteArray := prog_4_method_12_code
def yX2_inLine : MethodName := ⟨RX2, "inLine", "()Z"⟩
abbrev cX2_holeLine : ByteArray := prog_4_method_13_code
def yX2_holeLine : MethodName := ⟨RX2, "holeLine", "()Z"⟩
abbrev cX2_varLine : ByteArray := prog_4_method_14_code
def yX2_varLine : MethodName := ⟨RX2, "varLine", "()Z"⟩
abbrev cX2_block : ByteArray := prog_4_method_15_code
def yX2_block : MethodName := ⟨RX2, "block", "(II)Z"⟩
abbrev cX2_beginsStatement : ByteArray := prog_4_method_16_code
def yX2_beginsStatement : MethodName := ⟨RX2, "beginsStatement", "()Z"⟩
abbrev cX2_statement : ByteArray := prog_4_method_17_code
def yX2_statement : MethodName := ⟨RX2, "statement", "(II)Z"⟩
abbrev cX2_endedBy : ByteArray := prog_4_method_18_code
def yX2_endedBy : MethodName := ⟨RX2, "endedBy", "(II)Z"⟩
abbrev cX2_braced : ByteArray := prog_4_method_19_code
def yX2_braced : MethodName := ⟨RX2, "braced", "(II)Z"⟩
abbrev cX2_ifStatement : ByteArray := prog_4_method_20_code
def yX2_ifStatement : MethodName := ⟨RX2, "ifStatement", "(II)Z"⟩
abbrev cX2_loopStatement : ByteArray := prog_4_method_21_code
def yX2_loopStatement : MethodName := ⟨RX2, "loopStatement", "(II)Z"⟩
abbrev cX2_whileStatement : ByteArray := prog_4_method_22_code
def yX2_whileStatement : MethodName := ⟨RX2, "whileStatement", "(II)Z"⟩
abbrev cX2_letStatement : ByteArray := prog_4_method_23_code
def yX2_letStatement : MethodName := ⟨RX2, "letStatement", "(II)Z"⟩
abbrev cX2_spec : ByteArray := prog_4_method_24_code
def yX2_spec : MethodName := ⟨RX2, "spec", "()Z"⟩
abbrev cX2_expression : ByteArray := prog_4_method_25_code
def yX2_expression : MethodName := ⟨RX2, "expression", "(II)Z"⟩
abbrev cX2_levelOf : ByteArray := prog_4_method_26_code
def yX2_levelOf : MethodName := ⟨RX2, "levelOf", "(I)I"⟩
abbrev cX2_unary : ByteArray := prog_4_method_27_code
def yX2_unary : MethodName := ⟨RX2, "unary", "(I)Z"⟩
abbrev cX2_part : ByteArray := prog_4_method_28_code
def yX2_part : MethodName := ⟨RX2, "part", "(I)Z"⟩
abbrev cX2_nameUsed : ByteArray := prog_4_method_29_code
def yX2_nameUsed : MethodName := ⟨RX2, "nameUsed", "()Z"⟩
def RX3 : String := "SketchFiller$Program"
def TX3 : u_T := fun k => match k with
  | 0 => ("SketchFiller$Program", "width", "I", false)
  | 1 => ("SketchFiller$Program", "ins", "I", false)
  | 2 => ("SketchFiller$Program", "holes", "I", false)
  | 3 => ("SketchFiller$Program", "vars", "I", false)
  | 4 => ("SketchFiller$Program", "statements", "I", false)
  | 5 => ("SketchFiller$Program", "inBits", "I", false)
  | 6 => ("SketchFiller$Program", "holeBits", "I", false)
  | 7 => ("SketchFiller$Program", "bitsOfIn", "[I", true)
  | 8 => ("SketchFiller$Program", "bitsOfHole", "[I", true)
  | 9 => ("SketchFiller$Program", "rankOfHole", "[I", true)
  | 10 => ("SketchFiller$Program", "op", "[I", true)
  | 11 => ("SketchFiller$Program", "arg", "[I", true)
  | 12 => ("SketchFiller$Program", "target", "[I", true)
  | 13 => ("SketchFiller$Program", "size", "I", false)
  | 14 => ("SketchFiller$Program", "costs", "[I", false)
  | 15 => ("SketchFiller$Program", "ranking", "[I", false)
  | 16 => ("SketchFiller$Program", "tokens", "LSketchFiller$Tokens;", true)
  | _ => ("SketchFiller$Program", "firstShown", "I", false)
def tyX3 : Nat → FieldType := fun k => match k with
  | 0 => .int
  | 1 => .int
  | 2 => .int
  | 3 => .int
  | 4 => .int
  | 5 => .int
  | 6 => .int
  | 7 => .array .int
  | 8 => .array .int
  | 9 => .array .int
  | 10 => .array .int
  | 11 => .array .int
  | 12 => .array .int
  | 13 => .int
  | 14 => .array .int
  | 15 => .array .int
  | 16 => .object "SketchFiller$Tokens"
  | _ => .int
abbrev wsX30 : List Cond := u_ws RX3 TX3 18
theorem nmX3 : ∀ a, a < 18 → ∀ b, b < 18 → a ≠ b → (TX3 a).2.1 ≠ (TX3 b).2.1 := by decide +kernel
theorem tyX3_ok : ∀ k, k < 18 → parseFieldDescriptor (TX3 k).2.2.1 = some (tyX3 k) := by decide +kernel
abbrev cX3_init : ByteArray := prog_5_method_1_code
def yX3_init : MethodName := ⟨RX3, "<init>", "(LSketchFiller$Tokens;)V"⟩
abbrev cX3_addIn : ByteArray := prog_5_method_2_code
def yX3_addIn : MethodName := ⟨RX3, "addIn", "(I)V"⟩
abbrev cX3_addHole : ByteArray := prog_5_method_3_code
def yX3_addHole : MethodName := ⟨RX3, "addHole", "(II)V"⟩
abbrev cX3_emit : ByteArray := prog_5_method_4_code
def yX3_emit : MethodName := ⟨RX3, "emit", "(III)I"⟩
abbrev cX3_aim : ByteArray := prog_5_method_5_code
def yX3_aim : MethodName := ⟨RX3, "aim", "(II)V"⟩
abbrev cX3_size : ByteArray := prog_5_method_6_code
def yX3_size : MethodName := ⟨RX3, "size", "()I"⟩
abbrev cX3_mask : ByteArray := prog_5_method_7_code
def yX3_mask : MethodName := ⟨RX3, "mask", "()I"⟩
abbrev cX3_guesses : ByteArray := prog_5_method_8_code
def yX3_guesses : MethodName := ⟨RX3, "guesses", "()I"⟩
abbrev cX3_inputs : ByteArray := prog_5_method_9_code
def yX3_inputs : MethodName := ⟨RX3, "inputs", "()I"⟩
abbrev cX3_hasHole : ByteArray := prog_5_method_10_code
def yX3_hasHole : MethodName := ⟨RX3, "hasHole", "(I)Z"⟩
abbrev cX3_hasGuess : ByteArray := prog_5_method_11_code
def yX3_hasGuess : MethodName := ⟨RX3, "hasGuess", "(I)Z"⟩
abbrev cX3_hasInput : ByteArray := prog_5_method_12_code
def yX3_hasInput : MethodName := ⟨RX3, "hasInput", "(I)Z"⟩
abbrev cX3_hasRun : ByteArray := prog_5_method_13_code
def yX3_hasRun : MethodName := ⟨RX3, "hasRun", "(II)Z"⟩
abbrev cX3_shiftOfHole : ByteArray := prog_5_method_14_code
def yX3_shiftOfHole : MethodName := ⟨RX3, "shiftOfHole", "(I)I"⟩
abbrev cX3_valueOf : ByteArray := prog_5_method_15_code
def yX3_valueOf : MethodName := ⟨RX3, "valueOf", "(II)I"⟩
abbrev cX3_withValue : ByteArray := prog_5_method_16_code
def yX3_withValue : MethodName := ⟨RX3, "withValue", "(III)I"⟩
abbrev cX3_fillSlots : ByteArray := prog_5_method_17_code
def yX3_fillSlots : MethodName := ⟨RX3, "fillSlots", "([III)V"⟩
abbrev cX3_rankGuesses : ByteArray := prog_5_method_18_code
def yX3_rankGuesses : MethodName := ⟨RX3, "rankGuesses", "()V"⟩
abbrev cX3_costOf : ByteArray := prog_5_method_19_code
def yX3_costOf : MethodName := ⟨RX3, "costOf", "(I)I"⟩
abbrev cX3_guessAt : ByteArray := prog_5_method_20_code
def yX3_guessAt : MethodName := ⟨RX3, "guessAt", "(I)I"⟩
abbrev cX3_shownEnd : ByteArray := prog_5_method_21_code
def yX3_shownEnd : MethodName := ⟨RX3, "shownEnd", "()I"⟩
abbrev cX3_shownBytes : ByteArray := prog_5_method_22_code
def yX3_shownBytes : MethodName := ⟨RX3, "shownBytes", "(I)I"⟩
abbrev cX3_shownByte : ByteArray := prog_5_method_23_code
def yX3_shownByte : MethodName := ⟨RX3, "shownByte", "(II)I"⟩
abbrev cX3_isShownAsNumber : ByteArray := prog_5_method_24_code
def yX3_isShownAsNumber : MethodName := ⟨RX3, "isShownAsNumber", "(I)Z"⟩
abbrev cX3_shownNumber : ByteArray := prog_5_method_25_code
def yX3_shownNumber : MethodName := ⟨RX3, "shownNumber", "(II)I"⟩
abbrev cX3_shownLength : ByteArray := prog_5_method_26_code
def yX3_shownLength : MethodName := ⟨RX3, "shownLength", "(II)I"⟩
abbrev cX3_byteOfToken : ByteArray := prog_5_method_27_code
def yX3_byteOfToken : MethodName := ⟨RX3, "byteOfToken", "(III)I"⟩
abbrev cX3_digitsOf : ByteArray := prog_5_method_28_code
def yX3_digitsOf : MethodName := ⟨RX3, "digitsOf", "(I)I"⟩
def RX4 : String := "SketchFiller$Search"
def TX4 : u_T := fun k => match k with
  | 0 => ("SketchFiller$Search", "program", "LSketchFiller$Program;", true)
  | 1 => ("SketchFiller$Search", "verdicts", "LSketchFiller$Verdicts;", true)
  | 2 => ("SketchFiller$Search", "pins", "[I", true)
  | 3 => ("SketchFiller$Search", "kept", "[I", true)
  | 4 => ("SketchFiller$Search", "left", "[Z", true)
  | 5 => ("SketchFiller$Search", "keptCount", "I", false)
  | 6 => ("SketchFiller$Search", "order", "I", false)
  | 7 => ("SketchFiller$Search", "state", "I", false)
  | _ => ("SketchFiller$Search", "current", "I", false)
def tyX4 : Nat → FieldType := fun k => match k with
  | 0 => .object "SketchFiller$Program"
  | 1 => .object "SketchFiller$Verdicts"
  | 2 => .array .int
  | 3 => .array .int
  | 4 => .array .boolean
  | 5 => .int
  | 6 => .int
  | 7 => .int
  | _ => .int
abbrev wsX40 : List Cond := u_ws RX4 TX4 9
theorem nmX4 : ∀ a, a < 9 → ∀ b, b < 9 → a ≠ b → (TX4 a).2.1 ≠ (TX4 b).2.1 := by decide +kernel
theorem tyX4_ok : ∀ k, k < 9 → parseFieldDescriptor (TX4 k).2.2.1 = some (tyX4 k) := by decide +kernel
abbrev cX4_init : ByteArray := prog_6_method_1_code
def yX4_init : MethodName := ⟨RX4, "<init>", "(LSketchFiller$Program;LSketchFiller$Verdicts;)V"⟩
abbrev cX4_beginAnew : ByteArray := prog_6_method_2_code
def yX4_beginAnew : MethodName := ⟨RX4, "beginAnew", "()V"⟩
abbrev cX4_isSeeking : ByteArray := prog_6_method_3_code
def yX4_isSeeking : MethodName := ⟨RX4, "isSeeking", "()Z"⟩
abbrev cX4_hasCurrent : ByteArray := prog_6_method_4_code
def yX4_hasCurrent : MethodName := ⟨RX4, "hasCurrent", "()Z"⟩
abbrev cX4_pinOf : ByteArray := prog_6_method_5_code
def yX4_pinOf : MethodName := ⟨RX4, "pinOf", "(I)I"⟩
abbrev cX4_pinTo : ByteArray := prog_6_method_6_code
def yX4_pinTo : MethodName := ⟨RX4, "pinTo", "(II)Z"⟩
abbrev cX4_hasKept : ByteArray := prog_6_method_7_code
def yX4_hasKept : MethodName := ⟨RX4, "hasKept", "(I)Z"⟩
abbrev cX4_keptAt : ByteArray := prog_6_method_8_code
def yX4_keptAt : MethodName := ⟨RX4, "keptAt", "(I)I"⟩
abbrev cX4_keepInput : ByteArray := prog_6_method_9_code
def yX4_keepInput : MethodName := ⟨RX4, "keepInput", "(I)I"⟩
abbrev cX4_addKept : ByteArray := prog_6_method_10_code
def yX4_addKept : MethodName := ⟨RX4, "addKept", "(I)Z"⟩
abbrev cX4_dropKept : ByteArray := prog_6_method_11_code
def yX4_dropKept : MethodName := ⟨RX4, "dropKept", "(I)I"⟩
abbrev cX4_tellUnroll : ByteArray := prog_6_method_12_code
def yX4_tellUnroll : MethodName := ⟨RX4, "tellUnroll", "(I)I"⟩
abbrev cX4_tellOrder : ByteArray := prog_6_method_13_code
def yX4_tellOrder : MethodName := ⟨RX4, "tellOrder", "(I)I"⟩
abbrev cX4_toGuess : ByteArray := prog_6_method_14_code
def yX4_toGuess : MethodName := ⟨RX4, "toGuess", "()I"⟩
abbrev cX4_toCheck : ByteArray := prog_6_method_15_code
def yX4_toCheck : MethodName := ⟨RX4, "toCheck", "()I"⟩
abbrev cX4_isOut : ByteArray := prog_6_method_16_code
def yX4_isOut : MethodName := ⟨RX4, "isOut", "(I)Z"⟩
abbrev cX4_isLeft : ByteArray := prog_6_method_17_code
def yX4_isLeft : MethodName := ⟨RX4, "isLeft", "(IJ)Z"⟩
abbrev cX4_isOf : ByteArray := prog_6_method_18_code
def yX4_isOf : MethodName := ⟨RX4, "isOf", "(II)Z"⟩
abbrev cX4_countOf : ByteArray := prog_6_method_19_code
def yX4_countOf : MethodName := ⟨RX4, "countOf", "(I)I"⟩
abbrev cX4_firstOf : ByteArray := prog_6_method_20_code
def yX4_firstOf : MethodName := ⟨RX4, "firstOf", "(I)I"⟩
abbrev cX4_markLeft : ByteArray := prog_6_method_21_code
def yX4_markLeft : MethodName := ⟨RX4, "markLeft", "()V"⟩
abbrev cX4_leftRefutedBy : ByteArray := prog_6_method_22_code
def yX4_leftRefutedBy : MethodName := ⟨RX4, "leftRefutedBy", "(I)I"⟩
abbrev cX4_sharpestOf : ByteArray := prog_6_method_23_code
def yX4_sharpestOf : MethodName := ⟨RX4, "sharpestOf", "(I)I"⟩
abbrev cX4_leftWith : ByteArray := prog_6_method_24_code
def yX4_leftWith : MethodName := ⟨RX4, "leftWith", "(J)I"⟩
abbrev cX4_coreOfKept : ByteArray := prog_6_method_25_code
def yX4_coreOfKept : MethodName := ⟨RX4, "coreOfKept", "()J"⟩
abbrev cX4_keptOf : ByteArray := prog_6_method_26_code
def yX4_keptOf : MethodName := ⟨RX4, "keptOf", "(JI)I"⟩
abbrev cX4_unlikeLeft : ByteArray := prog_6_method_27_code
def yX4_unlikeLeft : MethodName := ⟨RX4, "unlikeLeft", "()I"⟩
abbrev cX4_isLikeEarlier : ByteArray := prog_6_method_28_code
def yX4_isLikeEarlier : MethodName := ⟨RX4, "isLikeEarlier", "(I)Z"⟩
def RX5 : String := "SketchFiller$Tape"
def TX5 : u_T := fun k => match k with
  | 0 => ("SketchFiller$Tape", "bytes", "[I", true)
  | _ => ("SketchFiller$Tape", "size", "I", false)
def tyX5 : Nat → FieldType := fun k => match k with
  | 0 => .array .int
  | _ => .int
abbrev wsX50 : List Cond := u_ws RX5 TX5 2
theorem nmX5 : ∀ a, a < 2 → ∀ b, b < 2 → a ≠ b → (TX5 a).2.1 ≠ (TX5 b).2.1 := by decide +kernel
theorem tyX5_ok : ∀ k, k < 2 → parseFieldDescriptor (TX5 k).2.2.1 = some (tyX5 k) := by decide +kernel
abbrev cX5_init : ByteArray := prog_7_method_1_code
def yX5_init : MethodName := ⟨RX5, "<init>", "()V"⟩
abbrev cX5_size : ByteArray := prog_7_method_2_code
def yX5_size : MethodName := ⟨RX5, "size", "()I"⟩
abbrev cX5_put : ByteArray := prog_7_method_3_code
def yX5_put : MethodName := ⟨RX5, "put", "(I)V"⟩
abbrev cX5_takeFirst : ByteArray := prog_7_method_4_code
def yX5_takeFirst : MethodName := ⟨RX5, "takeFirst", "(I)[I"⟩
def RX6 : String := "SketchFiller$Tokens"
def TX6 : u_T := fun k => match k with
  | 0 => ("SketchFiller$Tokens", "text", "[I", true)
  | 1 => ("SketchFiller$Tokens", "kind", "[I", true)
  | 2 => ("SketchFiller$Tokens", "place", "[I", true)
  | 3 => ("SketchFiller$Tokens", "length", "[I", true)
  | 4 => ("SketchFiller$Tokens", "number", "[I", true)
  | _ => ("SketchFiller$Tokens", "count", "I", false)
def tyX6 : Nat → FieldType := fun k => match k with
  | 0 => .array .int
  | 1 => .array .int
  | 2 => .array .int
  | 3 => .array .int
  | 4 => .array .int
  | _ => .int
abbrev wsX60 : List Cond := u_ws RX6 TX6 6
theorem nmX6 : ∀ a, a < 6 → ∀ b, b < 6 → a ≠ b → (TX6 a).2.1 ≠ (TX6 b).2.1 := by decide +kernel
theorem tyX6_ok : ∀ k, k < 6 → parseFieldDescriptor (TX6 k).2.2.1 = some (tyX6 k) := by decide +kernel
abbrev cX6_init : ByteArray := prog_8_method_1_code
def yX6_init : MethodName := ⟨RX6, "<init>", "([I)V"⟩
abbrev cX6_read : ByteArray := prog_8_method_2_code
def yX6_read : MethodName := ⟨RX6, "read", "()V"⟩
abbrev cX6_bytesTogether : ByteArray := prog_8_method_3_code
def yX6_bytesTogether : MethodName := ⟨RX6, "bytesTogether", "(I)I"⟩
abbrev cX6_kindAt : ByteArray := prog_8_method_4_code
def yX6_kindAt : MethodName := ⟨RX6, "kindAt", "(II)I"⟩
abbrev cX6_wordAt : ByteArray := prog_8_method_5_code
def yX6_wordAt : MethodName := ⟨RX6, "wordAt", "(II)I"⟩
abbrev cX6_isKeyword : ByteArray := prog_8_method_6_code
def yX6_isKeyword : MethodName := ⟨RX6, "isKeyword", "(III)Z"⟩
abbrev cX6_add : ByteArray := prog_8_method_7_code
def yX6_add : MethodName := ⟨RX6, "add", "(III)V"⟩
abbrev cX6_numberAt : ByteArray := prog_8_method_8_code
def yX6_numberAt : MethodName := ⟨RX6, "numberAt", "(III)I"⟩
abbrev cX6_isLetter : ByteArray := prog_8_method_9_code
def yX6_isLetter : MethodName := ⟨RX6, "isLetter", "(I)Z"⟩
abbrev cX6_isDigit : ByteArray := prog_8_method_10_code
def yX6_isDigit : MethodName := ⟨RX6, "isDigit", "(I)Z"⟩
abbrev cX6_count : ByteArray := prog_8_method_11_code
def yX6_count : MethodName := ⟨RX6, "count", "()I"⟩
abbrev cX6_kindOf : ByteArray := prog_8_method_12_code
def yX6_kindOf : MethodName := ⟨RX6, "kindOf", "(I)I"⟩
abbrev cX6_placeOf : ByteArray := prog_8_method_13_code
def yX6_placeOf : MethodName := ⟨RX6, "placeOf", "(I)I"⟩
abbrev cX6_numberOf : ByteArray := prog_8_method_14_code
def yX6_numberOf : MethodName := ⟨RX6, "numberOf", "(I)I"⟩
abbrev cX6_markHole : ByteArray := prog_8_method_15_code
def yX6_markHole : MethodName := ⟨RX6, "markHole", "(II)V"⟩
abbrev cX6_lengthOf : ByteArray := prog_8_method_16_code
def yX6_lengthOf : MethodName := ⟨RX6, "lengthOf", "(I)I"⟩
abbrev cX6_byteOf : ByteArray := prog_8_method_17_code
def yX6_byteOf : MethodName := ⟨RX6, "byteOf", "(II)I"⟩
def RX7 : String := "SketchFiller$Verdicts"
def TX7 : u_T := fun k => match k with
  | 0 => ("SketchFiller$Verdicts", "machine", "LSketchFiller$Machine;", true)
  | 1 => ("SketchFiller$Verdicts", "inputs", "I", true)
  | 2 => ("SketchFiller$Verdicts", "row", "[B", true)
  | _ => ("SketchFiller$Verdicts", "unroll", "I", false)
def tyX7 : Nat → FieldType := fun k => match k with
  | 0 => .object "SketchFiller$Machine"
  | 1 => .int
  | 2 => .array .byte
  | _ => .int
abbrev wsX70 : List Cond := u_ws RX7 TX7 4
theorem nmX7 : ∀ a, a < 4 → ∀ b, b < 4 → a ≠ b → (TX7 a).2.1 ≠ (TX7 b).2.1 := by decide +kernel
theorem tyX7_ok : ∀ k, k < 4 → parseFieldDescriptor (TX7 k).2.2.1 = some (tyX7 k) := by decide +kernel
abbrev cX7_init : ByteArray := prog_9_method_1_code
def yX7_init : MethodName := ⟨RX7, "<init>", "(LSketchFiller$Program;[B)V"⟩
abbrev cX7_forget : ByteArray := prog_9_method_2_code
def yX7_forget : MethodName := ⟨RX7, "forget", "()V"⟩
abbrev cX7_unroll : ByteArray := prog_9_method_3_code
def yX7_unroll : MethodName := ⟨RX7, "unroll", "()I"⟩
abbrev cX7_tellUnroll : ByteArray := prog_9_method_4_code
def yX7_tellUnroll : MethodName := ⟨RX7, "tellUnroll", "(I)V"⟩
abbrev cX7_ran : ByteArray := prog_9_method_5_code
def yX7_ran : MethodName := ⟨RX7, "ran", "(II)LSketchFiller$Machine;"⟩
abbrev cX7_verdictOf : ByteArray := prog_9_method_6_code
def yX7_verdictOf : MethodName := ⟨RX7, "verdictOf", "(II)I"⟩
abbrev cX7_leastRefuter : ByteArray := prog_9_method_7_code
def yX7_leastRefuter : MethodName := ⟨RX7, "leastRefuter", "(I)I"⟩
abbrev cX7_greatestRefuter : ByteArray := prog_9_method_8_code
def yX7_greatestRefuter : MethodName := ⟨RX7, "greatestRefuter", "(I)I"⟩
abbrev cX7_inputsWith : ByteArray := prog_9_method_9_code
def yX7_inputsWith : MethodName := ⟨RX7, "inputsWith", "(II)I"⟩
abbrev cX7_areAlike : ByteArray := prog_9_method_10_code
def yX7_areAlike : MethodName := ⟨RX7, "areAlike", "(II)Z"⟩
def RX8 : String := "SketchFiller"
def TX8 : u_T := fun k => match k with
  | 0 => ("SketchFiller", "tape", "LSketchFiller$Tape;", true)
  | 1 => ("SketchFiller", "verdictRow", "[B", false)
  | _ => ("SketchFiller", "search", "LSketchFiller$Search;", false)
def tyX8 : Nat → FieldType := fun k => match k with
  | 0 => .object "SketchFiller$Tape"
  | 1 => .array .byte
  | _ => .object "SketchFiller$Search"
abbrev wsX80 : List Cond := u_ws RX8 TX8 3
theorem nmX8 : ∀ a, a < 3 → ∀ b, b < 3 → a ≠ b → (TX8 a).2.1 ≠ (TX8 b).2.1 := by decide +kernel
theorem tyX8_ok : ∀ k, k < 3 → parseFieldDescriptor (TX8 k).2.2.1 = some (tyX8 k) := by decide +kernel
abbrev cX8_init : ByteArray := prog_1_method_1_code
def yX8_init : MethodName := ⟨RX8, "<init>", "()V"⟩
abbrev cX8_feed : ByteArray := prog_1_method_2_code
def yX8_feed : MethodName := ⟨RX8, "feed", "(IIIII)I"⟩
abbrev cX8_sketch : ByteArray := prog_1_method_3_code
def yX8_sketch : MethodName := ⟨RX8, "sketch", "(I)I"⟩
abbrev cX8_has : ByteArray := prog_1_method_4_code
def yX8_has : MethodName := ⟨RX8, "has", "(I)I"⟩
abbrev cX8_hole : ByteArray := prog_1_method_5_code
def yX8_hole : MethodName := ⟨RX8, "hole", "(II)I"⟩
abbrev cX8_value : ByteArray := prog_1_method_6_code
def yX8_value : MethodName := ⟨RX8, "value", "(II)I"⟩
abbrev cX8_cost : ByteArray := prog_1_method_7_code
def yX8_cost : MethodName := ⟨RX8, "cost", "(I)I"⟩
abbrev cX8_ranked : ByteArray := prog_1_method_8_code
def yX8_ranked : MethodName := ⟨RX8, "ranked", "(I)I"⟩
abbrev cX8_verdict : ByteArray := prog_1_method_9_code
def yX8_verdict : MethodName := ⟨RX8, "verdict", "(II)I"⟩
abbrev cX8_steps : ByteArray := prog_1_method_10_code
def yX8_steps : MethodName := ⟨RX8, "steps", "(II)I"⟩
abbrev cX8_ends : ByteArray := prog_1_method_11_code
def yX8_ends : MethodName := ⟨RX8, "ends", "(III)I"⟩
abbrev cX8_refuter : ByteArray := prog_1_method_12_code
def yX8_refuter : MethodName := ⟨RX8, "refuter", "(I)I"⟩
abbrev cX8_guess : ByteArray := prog_1_method_13_code
def yX8_guess : MethodName := ⟨RX8, "guess", "()I"⟩
abbrev cX8_check : ByteArray := prog_1_method_14_code
def yX8_check : MethodName := ⟨RX8, "check", "()I"⟩
abbrev cX8_go : ByteArray := prog_1_method_15_code
def yX8_go : MethodName := ⟨RX8, "go", "(I)I"⟩
abbrev cX8_pin : ByteArray := prog_1_method_16_code
def yX8_pin : MethodName := ⟨RX8, "pin", "(II)Z"⟩
abbrev cX8_keep : ByteArray := prog_1_method_17_code
def yX8_keep : MethodName := ⟨RX8, "keep", "(I)I"⟩
abbrev cX8_drop : ByteArray := prog_1_method_18_code
def yX8_drop : MethodName := ⟨RX8, "drop", "(I)I"⟩
abbrev cX8_set : ByteArray := prog_1_method_19_code
def yX8_set : MethodName := ⟨RX8, "set", "(II)I"⟩
abbrev cX8_state : ByteArray := prog_1_method_20_code
def yX8_state : MethodName := ⟨RX8, "state", "(I)I"⟩
abbrev cX8_many : ByteArray := prog_1_method_21_code
def yX8_many : MethodName := ⟨RX8, "many", "(I)I"⟩
abbrev cX8_by : ByteArray := prog_1_method_22_code
def yX8_by : MethodName := ⟨RX8, "by", "(II)I"⟩
abbrev cX8_refutes : ByteArray := prog_1_method_23_code
def yX8_refutes : MethodName := ⟨RX8, "refutes", "(I)I"⟩
abbrev cX8_sharpest : ByteArray := prog_1_method_24_code
def yX8_sharpest : MethodName := ⟨RX8, "sharpest", "(I)I"⟩
abbrev cX8_free : ByteArray := prog_1_method_25_code
def yX8_free : MethodName := ⟨RX8, "free", "(II)I"⟩
abbrev cX8_needed : ByteArray := prog_1_method_26_code
def yX8_needed : MethodName := ⟨RX8, "needed", "(I)I"⟩
abbrev cX8_core : ByteArray := prog_1_method_27_code
def yX8_core : MethodName := ⟨RX8, "core", "(I)I"⟩
abbrev cX8_kinds : ByteArray := prog_1_method_28_code
def yX8_kinds : MethodName := ⟨RX8, "kinds", "()I"⟩
abbrev cX8_alike : ByteArray := prog_1_method_29_code
def yX8_alike : MethodName := ⟨RX8, "alike", "(II)Z"⟩
abbrev cX8_shown : ByteArray := prog_1_method_30_code
def yX8_shown : MethodName := ⟨RX8, "shown", "(II)I"⟩
def RX9 : String := "SketchFillerModel"
def TX9 : u_T := fun k => match k with
  | 0 => ("SketchFillerModel", "thrown", "I", false)
  | 1 => ("SketchFillerModel", "tape", "[B", true)
  | 2 => ("SketchFillerModel", "taped", "I", false)
  | 3 => ("SketchFillerModel", "size", "I", false)
  | 4 => ("SketchFillerModel", "from", "I", false)
  | 5 => ("SketchFillerModel", "to", "I", false)
  | 6 => ("SketchFillerModel", "token", "I", false)
  | 7 => ("SketchFillerModel", "value", "I", false)
  | 8 => ("SketchFillerModel", "word", "I", false)
  | 9 => ("SketchFillerModel", "fault", "I", false)
  | 10 => ("SketchFillerModel", "faultPlace", "I", false)
  | 11 => ("SketchFillerModel", "numberHere", "I", false)
  | 12 => ("SketchFillerModel", "isSketch", "Z", false)
  | 13 => ("SketchFillerModel", "bench", "I", false)
  | 14 => ("SketchFillerModel", "has", "[I", true)
  | 15 => ("SketchFillerModel", "name", "[I", true)
  | 16 => ("SketchFillerModel", "bits", "[I", true)
  | 17 => ("SketchFillerModel", "rank", "[I", true)
  | 18 => ("SketchFillerModel", "statement", "[I", true)
  | 19 => ("SketchFillerModel", "code", "[I", true)
  | 20 => ("SketchFillerModel", "codeValue", "[I", true)
  | 21 => ("SketchFillerModel", "codes", "I", false)
  | 22 => ("SketchFillerModel", "specFrom", "[I", true)
  | 23 => ("SketchFillerModel", "specTo", "[I", true)
  | 24 => ("SketchFillerModel", "text", "[B", true)
  | 25 => ("SketchFillerModel", "tokenFrom", "[I", true)
  | 26 => ("SketchFillerModel", "tokenTo", "[I", true)
  | 27 => ("SketchFillerModel", "tokens", "[I", true)
  | 28 => ("SketchFillerModel", "deep", "I", false)
  | 29 => ("SketchFillerModel", "blocks", "I", false)
  | 30 => ("SketchFillerModel", "lets", "I", false)
  | 31 => ("SketchFillerModel", "shown", "I", false)
  | 32 => ("SketchFillerModel", "pin", "[I", true)
  | 33 => ("SketchFillerModel", "ranked", "[I", true)
  | 34 => ("SketchFillerModel", "slot", "[I", true)
  | 35 => ("SketchFillerModel", "stack", "[I", true)
  | 36 => ("SketchFillerModel", "top", "I", false)
  | 37 => ("SketchFillerModel", "stepMany", "I", false)
  | 38 => ("SketchFillerModel", "verdict", "I", false)
  | 39 => ("SketchFillerModel", "table", "[B", true)
  | 40 => ("SketchFillerModel", "isLaid", "Z", false)
  | 41 => ("SketchFillerModel", "state", "I", false)
  | 42 => ("SketchFillerModel", "current", "I", false)
  | 43 => ("SketchFillerModel", "unroll", "I", false)
  | 44 => ("SketchFillerModel", "order", "I", false)
  | 45 => ("SketchFillerModel", "keptMany", "I", false)
  | 46 => ("SketchFillerModel", "kept", "[I", true)
  | 47 => ("SketchFillerModel", "isAway", "[Z", true)
  | 48 => ("SketchFillerModel", "wanted", "I", false)
  | 49 => ("SketchFillerModel", "written", "I", false)
  | _ => ("SketchFillerModel", "found", "I", false)
def tyX9 : Nat → FieldType := fun k => match k with
  | 0 => .int
  | 1 => .array .byte
  | 2 => .int
  | 3 => .int
  | 4 => .int
  | 5 => .int
  | 6 => .int
  | 7 => .int
  | 8 => .int
  | 9 => .int
  | 10 => .int
  | 11 => .int
  | 12 => .boolean
  | 13 => .int
  | 14 => .array .int
  | 15 => .array .int
  | 16 => .array .int
  | 17 => .array .int
  | 18 => .array .int
  | 19 => .array .int
  | 20 => .array .int
  | 21 => .int
  | 22 => .array .int
  | 23 => .array .int
  | 24 => .array .byte
  | 25 => .array .int
  | 26 => .array .int
  | 27 => .array .int
  | 28 => .int
  | 29 => .int
  | 30 => .int
  | 31 => .int
  | 32 => .array .int
  | 33 => .array .int
  | 34 => .array .int
  | 35 => .array .int
  | 36 => .int
  | 37 => .int
  | 38 => .int
  | 39 => .array .byte
  | 40 => .boolean
  | 41 => .int
  | 42 => .int
  | 43 => .int
  | 44 => .int
  | 45 => .int
  | 46 => .array .int
  | 47 => .array .boolean
  | 48 => .int
  | 49 => .int
  | _ => .int
abbrev wsX90 : List Cond := u_ws RX9 TX9 51
theorem nmX9 : ∀ a, a < 51 → ∀ b, b < 51 → a ≠ b → (TX9 a).2.1 ≠ (TX9 b).2.1 := by decide +kernel
theorem tyX9_ok : ∀ k, k < 51 → parseFieldDescriptor (TX9 k).2.2.1 = some (tyX9 k) := by decide +kernel
abbrev cX9_init : ByteArray := prog_11_method_1_code
def yX9_init : MethodName := ⟨RX9, "<init>", "()V"⟩
abbrev cX9_thrown : ByteArray := prog_11_method_2_code
def yX9_thrown : MethodName := ⟨RX9, "thrown", "()I"⟩
abbrev cX9_within : ByteArray := prog_11_method_3_code
def yX9_within : MethodName := ⟨RX9, "within", "(JJJ)Z"⟩
abbrev cX9_puts : ByteArray := prog_11_method_4_code
def yX9_puts : MethodName := ⟨RX9, "puts", "(I)V"⟩
abbrev cX9_feed : ByteArray := prog_11_method_5_code
def yX9_feed : MethodName := ⟨RX9, "feed", "(IIIII)I"⟩
abbrev cX9_see : ByteArray := prog_11_method_6_code
def yX9_see : MethodName := ⟨RX9, "see", "(I)I"⟩
abbrev cX9_isSignByte : ByteArray := prog_11_method_7_code
def yX9_isSignByte : MethodName := ⟨RX9, "isSignByte", "(I)Z"⟩
abbrev cX9_steps : ByteArray := prog_11_method_8_code
def yX9_steps : MethodName := ⟨RX9, "steps", "()V"⟩
abbrev cX9_must : ByteArray := prog_11_method_9_code
def yX9_must : MethodName := ⟨RX9, "must", "(ZI)Z"⟩
abbrev cX9_isSign : ByteArray := prog_11_method_10_code
def yX9_isSign : MethodName := ⟨RX9, "isSign", "(I)Z"⟩
abbrev cX9_spelled : ByteArray := prog_11_method_11_code
def yX9_spelled : MethodName := ⟨RX9, "spelled", "(IIIIII)I"⟩
abbrev cX9_own : ByteArray := prog_11_method_12_code
def yX9_own : MethodName := ⟨RX9, "own", "()I"⟩
abbrev cX9_isName : ByteArray := prog_11_method_13_code
def yX9_isName : MethodName := ⟨RX9, "isName", "()Z"⟩
abbrev cX9_takesSign : ByteArray := prog_11_method_14_code
def yX9_takesSign : MethodName := ⟨RX9, "takesSign", "(I)Z"⟩
abbrev cX9_takesOwn : ByteArray := prog_11_method_15_code
def yX9_takesOwn : MethodName := ⟨RX9, "takesOwn", "(I)Z"⟩
abbrev cX9_takesNumber : ByteArray := prog_11_method_16_code
def yX9_takesNumber : MethodName := ⟨RX9, "takesNumber", "(II)Z"⟩
abbrev cX9_had : ByteArray := prog_11_method_17_code
def yX9_had : MethodName := ⟨RX9, "had", "(I)I"⟩
abbrev cX9_tells : ByteArray := prog_11_method_18_code
def yX9_tells : MethodName := ⟨RX9, "tells", "(II)V"⟩
abbrev cX9_slotOf : ByteArray := prog_11_method_19_code
def yX9_slotOf : MethodName := ⟨RX9, "slotOf", "(I)I"⟩
abbrev cX9_shows : ByteArray := prog_11_method_20_code
def yX9_shows : MethodName := ⟨RX9, "shows", "()V"⟩
abbrev cX9_codes : ByteArray := prog_11_method_21_code
def yX9_codes : MethodName := ⟨RX9, "codes", "(II)V"⟩
abbrev cX9_opens : ByteArray := prog_11_method_22_code
def yX9_opens : MethodName := ⟨RX9, "opens", "()Z"⟩
abbrev cX9_unary : ByteArray := prog_11_method_23_code
def yX9_unary : MethodName := ⟨RX9, "unary", "()Z"⟩
abbrev cX9_sides : ByteArray := prog_11_method_24_code
def yX9_sides : MethodName := ⟨RX9, "sides", "(I)Z"⟩
abbrev cX9_isOf : ByteArray := prog_11_method_25_code
def yX9_isOf : MethodName := ⟨RX9, "isOf", "(I)Z"⟩
abbrev cX9_e : ByteArray := prog_11_method_26_code
def yX9_e : MethodName := ⟨RX9, "e", "()Z"⟩
abbrev cX9_at : ByteArray := prog_11_method_27_code
def yX9_at : MethodName := ⟨RX9, "at", "(I)I"⟩
abbrev cX9_eOf : ByteArray := prog_11_method_28_code
def yX9_eOf : MethodName := ⟨RX9, "eOf", "(I)Z"⟩
abbrev cX9_block : ByteArray := prog_11_method_29_code
def yX9_block : MethodName := ⟨RX9, "block", "()Z"⟩
abbrev cX9_numbered : ByteArray := prog_11_method_30_code
def yX9_numbered : MethodName := ⟨RX9, "numbered", "(I)Z"⟩
abbrev cX9_setHere : ByteArray := prog_11_method_31_code
def yX9_setHere : MethodName := ⟨RX9, "setHere", "()I"⟩
abbrev cX9_newName : ByteArray := prog_11_method_32_code
def yX9_newName : MethodName := ⟨RX9, "newName", "()Z"⟩
abbrev cX9_letHere : ByteArray := prog_11_method_33_code
def yX9_letHere : MethodName := ⟨RX9, "letHere", "(I)Z"⟩
abbrev cX9_ifHere : ByteArray := prog_11_method_34_code
def yX9_ifHere : MethodName := ⟨RX9, "ifHere", "(I)Z"⟩
abbrev cX9_whileHere : ByteArray := prog_11_method_35_code
def yX9_whileHere : MethodName := ⟨RX9, "whileHere", "(I)Z"⟩
abbrev cX9_setsHere : ByteArray := prog_11_method_36_code
def yX9_setsHere : MethodName := ⟨RX9, "setsHere", "(I)Z"⟩
abbrev cX9_mustHere : ByteArray := prog_11_method_37_code
def yX9_mustHere : MethodName := ⟨RX9, "mustHere", "(I)Z"⟩
abbrev cX9_loopHere : ByteArray := prog_11_method_38_code
def yX9_loopHere : MethodName := ⟨RX9, "loopHere", "(I)Z"⟩
abbrev cX9_doing : ByteArray := prog_11_method_39_code
def yX9_doing : MethodName := ⟨RX9, "doing", "(II)Z"⟩
abbrev cX9_kindHere : ByteArray := prog_11_method_40_code
def yX9_kindHere : MethodName := ⟨RX9, "kindHere", "()I"⟩
abbrev cX9_statementHere : ByteArray := prog_11_method_41_code
def yX9_statementHere : MethodName := ⟨RX9, "statementHere", "()Z"⟩
abbrev cX9_tellsName : ByteArray := prog_11_method_42_code
def yX9_tellsName : MethodName := ⟨RX9, "tellsName", "(I)I"⟩
abbrev cX9_line : ByteArray := prog_11_method_43_code
def yX9_line : MethodName := ⟨RX9, "line", "()Z"⟩
abbrev cX9_begins : ByteArray := prog_11_method_44_code
def yX9_begins : MethodName := ⟨RX9, "begins", "()Z"⟩
abbrev cX9_reads : ByteArray := prog_11_method_45_code
def yX9_reads : MethodName := ⟨RX9, "reads", "()Z"⟩
abbrev cX9_laysShown : ByteArray := prog_11_method_46_code
def yX9_laysShown : MethodName := ⟨RX9, "laysShown", "()V"⟩
abbrev cX9_copies : ByteArray := prog_11_method_47_code
def yX9_copies : MethodName := ⟨RX9, "copies", "()V"⟩
abbrev cX9_sketch : ByteArray := prog_11_method_48_code
def yX9_sketch : MethodName := ⟨RX9, "sketch", "(I)I"⟩
abbrev cX9_has : ByteArray := prog_11_method_49_code
def yX9_has : MethodName := ⟨RX9, "has", "(I)I"⟩
abbrev cX9_guesses : ByteArray := prog_11_method_50_code
def yX9_guesses : MethodName := ⟨RX9, "guesses", "()I"⟩
abbrev cX9_inputs : ByteArray := prog_11_method_51_code
def yX9_inputs : MethodName := ⟨RX9, "inputs", "()I"⟩
abbrev cX9_isGuess : ByteArray := prog_11_method_52_code
def yX9_isGuess : MethodName := ⟨RX9, "isGuess", "(I)Z"⟩
abbrev cX9_isInput : ByteArray := prog_11_method_53_code
def yX9_isInput : MethodName := ⟨RX9, "isInput", "(I)Z"⟩
abbrev cX9_isHole : ByteArray := prog_11_method_54_code
def yX9_isHole : MethodName := ⟨RX9, "isHole", "(I)Z"⟩
abbrev cX9_partOf : ByteArray := prog_11_method_55_code
def yX9_partOf : MethodName := ⟨RX9, "partOf", "(IIII)I"⟩
abbrev cX9_holeIn : ByteArray := prog_11_method_56_code
def yX9_holeIn : MethodName := ⟨RX9, "holeIn", "(II)I"⟩
abbrev cX9_costOf : ByteArray := prog_11_method_57_code
def yX9_costOf : MethodName := ⟨RX9, "costOf", "(I)I"⟩
abbrev cX9_laysRanks : ByteArray := prog_11_method_58_code
def yX9_laysRanks : MethodName := ⟨RX9, "laysRanks", "()V"⟩
abbrev cX9_hole : ByteArray := prog_11_method_59_code
def yX9_hole : MethodName := ⟨RX9, "hole", "(II)I"⟩
abbrev cX9_value : ByteArray := prog_11_method_60_code
def yX9_value : MethodName := ⟨RX9, "value", "(II)I"⟩
abbrev cX9_cost : ByteArray := prog_11_method_61_code
def yX9_cost : MethodName := ⟨RX9, "cost", "(I)I"⟩
abbrev cX9_ranked : ByteArray := prog_11_method_62_code
def yX9_ranked : MethodName := ⟨RX9, "ranked", "(I)I"⟩
abbrev cX9_mask : ByteArray := prog_11_method_63_code
def yX9_mask : MethodName := ⟨RX9, "mask", "()I"⟩
abbrev cX9_push : ByteArray := prog_11_method_64_code
def yX9_push : MethodName := ⟨RX9, "push", "(I)V"⟩
abbrev cX9_pop : ByteArray := prog_11_method_65_code
def yX9_pop : MethodName := ⟨RX9, "pop", "()I"⟩
abbrev cX9_signs : ByteArray := prog_11_method_66_code
def yX9_signs : MethodName := ⟨RX9, "signs", "(I)V"⟩
abbrev cX9_worked : ByteArray := prog_11_method_67_code
def yX9_worked : MethodName := ⟨RX9, "worked", "(II)I"⟩
abbrev cX9_ofStatement : ByteArray := prog_11_method_68_code
def yX9_ofStatement : MethodName := ⟨RX9, "ofStatement", "(II)I"⟩
abbrev cX9_eAt : ByteArray := prog_11_method_69_code
def yX9_eAt : MethodName := ⟨RX9, "eAt", "(I)I"⟩
abbrev cX9_step : ByteArray := prog_11_method_70_code
def yX9_step : MethodName := ⟨RX9, "step", "()V"⟩
abbrev cX9_runs : ByteArray := prog_11_method_71_code
def yX9_runs : MethodName := ⟨RX9, "runs", "(II)V"⟩
abbrev cX9_does : ByteArray := prog_11_method_72_code
def yX9_does : MethodName := ⟨RX9, "does", "(I)V"⟩
abbrev cX9_lets : ByteArray := prog_11_method_73_code
def yX9_lets : MethodName := ⟨RX9, "lets", "(II)V"⟩
abbrev cX9_loops : ByteArray := prog_11_method_74_code
def yX9_loops : MethodName := ⟨RX9, "loops", "(I)V"⟩
abbrev cX9_whiles : ByteArray := prog_11_method_75_code
def yX9_whiles : MethodName := ⟨RX9, "whiles", "(I)V"⟩
abbrev cX9_ran : ByteArray := prog_11_method_76_code
def yX9_ran : MethodName := ⟨RX9, "ran", "(II)I"⟩
abbrev cX9_verdict : ByteArray := prog_11_method_77_code
def yX9_verdict : MethodName := ⟨RX9, "verdict", "(II)I"⟩
abbrev cX9_steps_ : ByteArray := prog_11_method_78_code
def yX9_steps_ : MethodName := ⟨RX9, "steps", "(II)I"⟩
abbrev cX9_ends : ByteArray := prog_11_method_79_code
def yX9_ends : MethodName := ⟨RX9, "ends", "(III)I"⟩
abbrev cX9_verdictOf : ByteArray := prog_11_method_80_code
def yX9_verdictOf : MethodName := ⟨RX9, "verdictOf", "(II)I"⟩
abbrev cX9_refuterOf : ByteArray := prog_11_method_81_code
def yX9_refuterOf : MethodName := ⟨RX9, "refuterOf", "(I)I"⟩
abbrev cX9_refuter : ByteArray := prog_11_method_82_code
def yX9_refuter : MethodName := ⟨RX9, "refuter", "(I)I"⟩
abbrev cX9_isOut : ByteArray := prog_11_method_83_code
def yX9_isOut : MethodName := ⟨RX9, "isOut", "(I)Z"⟩
abbrev cX9_isLeft : ByteArray := prog_11_method_84_code
def yX9_isLeft : MethodName := ⟨RX9, "isLeft", "(I)Z"⟩
abbrev cX9_isOf_ : ByteArray := prog_11_method_85_code
def yX9_isOf_ : MethodName := ⟨RX9, "isOf", "(II)Z"⟩
abbrev cX9_firstOf : ByteArray := prog_11_method_86_code
def yX9_firstOf : MethodName := ⟨RX9, "firstOf", "(I)I"⟩
abbrev cX9_manyOf : ByteArray := prog_11_method_87_code
def yX9_manyOf : MethodName := ⟨RX9, "manyOf", "(I)I"⟩
abbrev cX9_guessing : ByteArray := prog_11_method_88_code
def yX9_guessing : MethodName := ⟨RX9, "guessing", "()I"⟩
abbrev cX9_guess : ByteArray := prog_11_method_89_code
def yX9_guess : MethodName := ⟨RX9, "guess", "()I"⟩
abbrev cX9_refutesOf : ByteArray := prog_11_method_90_code
def yX9_refutesOf : MethodName := ⟨RX9, "refutesOf", "(I)I"⟩
abbrev cX9_firstRefuter : ByteArray := prog_11_method_91_code
def yX9_firstRefuter : MethodName := ⟨RX9, "firstRefuter", "()I"⟩
abbrev cX9_checking : ByteArray := prog_11_method_92_code
def yX9_checking : MethodName := ⟨RX9, "checking", "()I"⟩
abbrev cX9_check : ByteArray := prog_11_method_93_code
def yX9_check : MethodName := ⟨RX9, "check", "()I"⟩
abbrev cX9_go : ByteArray := prog_11_method_94_code
def yX9_go : MethodName := ⟨RX9, "go", "(I)I"⟩
abbrev cX9_seeks : ByteArray := prog_11_method_95_code
def yX9_seeks : MethodName := ⟨RX9, "seeks", "()V"⟩
abbrev cX9_pin : ByteArray := prog_11_method_96_code
def yX9_pin : MethodName := ⟨RX9, "pin", "(II)Z"⟩
abbrev cX9_isKept : ByteArray := prog_11_method_97_code
def yX9_isKept : MethodName := ⟨RX9, "isKept", "(I)Z"⟩
abbrev cX9_keep : ByteArray := prog_11_method_98_code
def yX9_keep : MethodName := ⟨RX9, "keep", "(I)I"⟩
abbrev cX9_drop : ByteArray := prog_11_method_99_code
def yX9_drop : MethodName := ⟨RX9, "drop", "(I)I"⟩
abbrev cX9_set : ByteArray := prog_11_method_100_code
def yX9_set : MethodName := ⟨RX9, "set", "(II)I"⟩
abbrev cX9_state : ByteArray := prog_11_method_101_code
def yX9_state : MethodName := ⟨RX9, "state", "(I)I"⟩
abbrev cX9_many : ByteArray := prog_11_method_102_code
def yX9_many : MethodName := ⟨RX9, "many", "(I)I"⟩
abbrev cX9_by : ByteArray := prog_11_method_103_code
def yX9_by : MethodName := ⟨RX9, "by", "(II)I"⟩
abbrev cX9_refutes : ByteArray := prog_11_method_104_code
def yX9_refutes : MethodName := ⟨RX9, "refutes", "(I)I"⟩
abbrev cX9_sharpest : ByteArray := prog_11_method_105_code
def yX9_sharpest : MethodName := ⟨RX9, "sharpest", "(I)I"⟩
abbrev cX9_free : ByteArray := prog_11_method_106_code
def yX9_free : MethodName := ⟨RX9, "free", "(II)I"⟩
abbrev cX9_needed : ByteArray := prog_11_method_107_code
def yX9_needed : MethodName := ⟨RX9, "needed", "(I)I"⟩
abbrev cX9_core : ByteArray := prog_11_method_108_code
def yX9_core : MethodName := ⟨RX9, "core", "(I)I"⟩
abbrev cX9_areAlike : ByteArray := prog_11_method_109_code
def yX9_areAlike : MethodName := ⟨RX9, "areAlike", "(II)Z"⟩
abbrev cX9_isFirstLike : ByteArray := prog_11_method_110_code
def yX9_isFirstLike : MethodName := ⟨RX9, "isFirstLike", "(I)Z"⟩
abbrev cX9_kinds : ByteArray := prog_11_method_111_code
def yX9_kinds : MethodName := ⟨RX9, "kinds", "()I"⟩
abbrev cX9_alike : ByteArray := prog_11_method_112_code
def yX9_alike : MethodName := ⟨RX9, "alike", "(II)Z"⟩
abbrev cX9_writes : ByteArray := prog_11_method_113_code
def yX9_writes : MethodName := ⟨RX9, "writes", "(I)V"⟩
abbrev cX9_writesNumber : ByteArray := prog_11_method_114_code
def yX9_writesNumber : MethodName := ⟨RX9, "writesNumber", "(I)V"⟩
abbrev cX9_isDigit : ByteArray := prog_11_method_115_code
def yX9_isDigit : MethodName := ⟨RX9, "isDigit", "(I)Z"⟩
abbrev cX9_holeAt : ByteArray := prog_11_method_116_code
def yX9_holeAt : MethodName := ⟨RX9, "holeAt", "(II)I"⟩
abbrev cX9_writesToken : ByteArray := prog_11_method_117_code
def yX9_writesToken : MethodName := ⟨RX9, "writesToken", "(II)V"⟩
abbrev cX9_shown : ByteArray := prog_11_method_118_code
def yX9_shown : MethodName := ⟨RX9, "shown", "(II)I"⟩
def RJx145de : String := "java/io/Serializable"
def TJx145de : u_T := fun k => match k with
  | _ => ("", "", "", false)
def tyJx145de : Nat → FieldType := fun k => match k with
  | _ => .int
abbrev wsJx145de0 : List Cond := u_ws RJx145de TJx145de 0
theorem nmJx145de : ∀ a, a < 0 → ∀ b, b < 0 → a ≠ b → (TJx145de a).2.1 ≠ (TJx145de b).2.1 := by decide +kernel
theorem tyJx145de_ok : ∀ k, k < 0 → parseFieldDescriptor (TJx145de k).2.2.1 = some (tyJx145de k) := by decide +kernel
def RJx9f9b0 : String := "java/lang/CharSequence"
def TJx9f9b0 : u_T := fun k => match k with
  | _ => ("", "", "", false)
def tyJx9f9b0 : Nat → FieldType := fun k => match k with
  | _ => .int
abbrev wsJx9f9b00 : List Cond := u_ws RJx9f9b0 TJx9f9b0 0
theorem nmJx9f9b0 : ∀ a, a < 0 → ∀ b, b < 0 → a ≠ b → (TJx9f9b0 a).2.1 ≠ (TJx9f9b0 b).2.1 := by decide +kernel
theorem tyJx9f9b0_ok : ∀ k, k < 0 → parseFieldDescriptor (TJx9f9b0 k).2.2.1 = some (tyJx9f9b0 k) := by decide +kernel
def RJ11 : String := "java/lang/Character"
def TJ11 : u_T := fun k => match k with
  | _ => ("", "", "", false)
def tyJ11 : Nat → FieldType := fun k => match k with
  | _ => .int
abbrev wsJ110 : List Cond := u_ws RJ11 TJ11 0
theorem nmJ11 : ∀ a, a < 0 → ∀ b, b < 0 → a ≠ b → (TJ11 a).2.1 ≠ (TJ11 b).2.1 := by decide +kernel
theorem tyJ11_ok : ∀ k, k < 0 → parseFieldDescriptor (TJ11 k).2.2.1 = some (tyJ11 k) := by decide +kernel
abbrev cJ11_isValidCodePoint_9a6ad : ByteArray := prog_14_method_11_code
def yJ11_isValidCodePoint_9a6ad : MethodName := ⟨RJ11, "isValidCodePoint", "(I)Z"⟩
abbrev cJ11_highSurrogate_5068e : ByteArray := prog_14_method_28_code
def yJ11_highSurrogate_5068e : MethodName := ⟨RJ11, "highSurrogate", "(I)C"⟩
abbrev cJ11_lowSurrogate_5068e : ByteArray := prog_14_method_29_code
def yJ11_lowSurrogate_5068e : MethodName := ⟨RJ11, "lowSurrogate", "(I)C"⟩
def RJx8e188 : String := "java/lang/Cloneable"
def TJx8e188 : u_T := fun k => match k with
  | _ => ("", "", "", false)
def tyJx8e188 : Nat → FieldType := fun k => match k with
  | _ => .int
abbrev wsJx8e1880 : List Cond := u_ws RJx8e188 TJx8e188 0
theorem nmJx8e188 : ∀ a, a < 0 → ∀ b, b < 0 → a ≠ b → (TJx8e188 a).2.1 ≠ (TJx8e188 b).2.1 := by decide +kernel
theorem tyJx8e188_ok : ∀ k, k < 0 → parseFieldDescriptor (TJx8e188 k).2.2.1 = some (tyJx8e188 k) := by decide +kernel
def RJxb160c : String := "java/lang/Comparable"
def TJxb160c : u_T := fun k => match k with
  | _ => ("", "", "", false)
def tyJxb160c : Nat → FieldType := fun k => match k with
  | _ => .int
abbrev wsJxb160c0 : List Cond := u_ws RJxb160c TJxb160c 0
theorem nmJxb160c : ∀ a, a < 0 → ∀ b, b < 0 → a ≠ b → (TJxb160c a).2.1 ≠ (TJxb160c b).2.1 := by decide +kernel
theorem tyJxb160c_ok : ∀ k, k < 0 → parseFieldDescriptor (TJxb160c k).2.2.1 = some (tyJxb160c k) := by decide +kernel
def RJ13 : String := "java/lang/Long"
def TJ13 : u_T := fun k => match k with
  | _ => ("", "", "", false)
def tyJ13 : Nat → FieldType := fun k => match k with
  | _ => .int
abbrev wsJ130 : List Cond := u_ws RJ13 TJ13 0
theorem nmJ13 : ∀ a, a < 0 → ∀ b, b < 0 → a ≠ b → (TJ13 a).2.1 ≠ (TJ13 b).2.1 := by decide +kernel
theorem tyJ13_ok : ∀ k, k < 0 → parseFieldDescriptor (TJ13 k).2.2.1 = some (tyJ13 k) := by decide +kernel
abbrev cJ13_bitCount_95d88 : ByteArray := prog_18_method_50_code
def yJ13_bitCount_95d88 : MethodName := ⟨RJ13, "bitCount", "(J)I"⟩
def RJ9 : String := "java/lang/Math"
def TJ9 : u_T := fun k => match k with
  | _ => ("", "", "", false)
def tyJ9 : Nat → FieldType := fun k => match k with
  | _ => .int
abbrev wsJ90 : List Cond := u_ws RJ9 TJ9 0
theorem nmJ9 : ∀ a, a < 0 → ∀ b, b < 0 → a ≠ b → (TJ9 a).2.1 ≠ (TJ9 b).2.1 := by decide +kernel
theorem tyJ9_ok : ∀ k, k < 0 → parseFieldDescriptor (TJ9 k).2.2.1 = some (tyJ9 k) := by decide +kernel
abbrev cJ9_max_7cf53 : ByteArray := prog_19_method_65_code
def yJ9_max_7cf53 : MethodName := ⟨RJ9, "max", "(II)I"⟩
abbrev cJ9_min_7cf53 : ByteArray := prog_19_method_69_code
def yJ9_min_7cf53 : MethodName := ⟨RJ9, "min", "(II)I"⟩
def RJ0 : String := "java/lang/String"
def TJ0 : u_T := fun k => match k with
  | _ => ("", "", "", false)
def tyJ0 : Nat → FieldType := fun k => match k with
  | _ => .int
abbrev wsJ00 : List Cond := u_ws RJ0 TJ0 0
theorem nmJ0 : ∀ a, a < 0 → ∀ b, b < 0 → a ≠ b → (TJ0 a).2.1 ≠ (TJ0 b).2.1 := by decide +kernel
theorem tyJ0_ok : ∀ k, k < 0 → parseFieldDescriptor (TJ0 k).2.2.1 = some (tyJ0 k) := by decide +kernel
abbrev cJ0_length_8abf5 : ByteArray := prog_21_method_54_code
def yJ0_length_8abf5 : MethodName := ⟨RJ0, "length", "()I"⟩
abbrev cJ0_charAt_5068e : ByteArray := prog_21_method_56_code
def yJ0_charAt_5068e : MethodName := ⟨RJ0, "charAt", "(I)C"⟩
abbrev cJ0_indexOf_0f7a4 : ByteArray := prog_21_method_79_code
def yJ0_indexOf_0f7a4 : MethodName := ⟨RJ0, "indexOf", "(I)I"⟩
abbrev cJ0_indexOf_7cf53 : ByteArray := prog_21_method_80_code
def yJ0_indexOf_7cf53 : MethodName := ⟨RJ0, "indexOf", "(II)I"⟩
abbrev cJ0_coder_7d493 : ByteArray := prog_21_method_152_code
def yJ0_coder_7d493 : MethodName := ⟨RJ0, "coder", "()B"⟩
abbrev cJ0_isLatin1_aae02 : ByteArray := prog_21_method_154_code
def yJ0_isLatin1_aae02 : MethodName := ⟨RJ0, "isLatin1", "()Z"⟩
abbrev cJ0_checkIndex_df160 : ByteArray := prog_21_method_155_code
def yJ0_checkIndex_df160 : MethodName := ⟨RJ0, "checkIndex", "(II)V"⟩
abbrev cJ0_checkBoundsBeginEnd_23922 : ByteArray := prog_21_method_158_code
def yJ0_checkBoundsBeginEnd_23922 : MethodName := ⟨RJ0, "checkBoundsBeginEnd", "(III)V"⟩
def RJ1 : String := "java/lang/StringLatin1"
def TJ1 : u_T := fun k => match k with
  | _ => ("", "", "", false)
def tyJ1 : Nat → FieldType := fun k => match k with
  | _ => .int
abbrev wsJ10 : List Cond := u_ws RJ1 TJ1 0
theorem nmJ1 : ∀ a, a < 0 → ∀ b, b < 0 → a ≠ b → (TJ1 a).2.1 ≠ (TJ1 b).2.1 := by decide +kernel
theorem tyJ1_ok : ∀ k, k < 0 → parseFieldDescriptor (TJ1 k).2.2.1 = some (tyJ1 k) := by decide +kernel
abbrev cJ1_charAt_3b067 : ByteArray := prog_22_method_2_code
def yJ1_charAt_3b067 : MethodName := ⟨RJ1, "charAt", "([BI)C"⟩
abbrev cJ1_canEncode_9a6ad : ByteArray := prog_22_method_4_code
def yJ1_canEncode_9a6ad : MethodName := ⟨RJ1, "canEncode", "(I)Z"⟩
abbrev cJ1_indexOf_4cfef : ByteArray := prog_22_method_22_code
def yJ1_indexOf_4cfef : MethodName := ⟨RJ1, "indexOf", "([BIII)I"⟩
abbrev cJ1_indexOfChar_4cfef : ByteArray := prog_22_method_23_code
def yJ1_indexOfChar_4cfef : MethodName := ⟨RJ1, "indexOfChar", "([BIII)I"⟩
def RJ2 : String := "java/lang/StringUTF16"
def TJ2 : u_T := fun k => match k with
  | _ => ("", "", "", false)
def tyJ2 : Nat → FieldType := fun k => match k with
  | _ => .int
abbrev wsJ20 : List Cond := u_ws RJ2 TJ2 0
theorem nmJ2 : ∀ a, a < 0 → ∀ b, b < 0 → a ≠ b → (TJ2 a).2.1 ≠ (TJ2 b).2.1 := by decide +kernel
theorem tyJ2_ok : ∀ k, k < 0 → parseFieldDescriptor (TJ2 k).2.2.1 = some (tyJ2 k) := by decide +kernel
abbrev cJ2_getChar_3b067 : ByteArray := prog_23_method_5_code
def yJ2_getChar_3b067 : MethodName := ⟨RJ2, "getChar", "([BI)C"⟩
abbrev cJ2_length_9d52b : ByteArray := prog_23_method_6_code
def yJ2_length_9d52b : MethodName := ⟨RJ2, "length", "([B)I"⟩
abbrev cJ2_indexOf_4cfef : ByteArray := prog_23_method_40_code
def yJ2_indexOf_4cfef : MethodName := ⟨RJ2, "indexOf", "([BIII)I"⟩
abbrev cJ2_indexOfChar_4cfef : ByteArray := prog_23_method_47_code
def yJ2_indexOfChar_4cfef : MethodName := ⟨RJ2, "indexOfChar", "([BIII)I"⟩
abbrev cJ2_indexOfCharUnsafe_4cfef : ByteArray := prog_23_method_48_code
def yJ2_indexOfCharUnsafe_4cfef : MethodName := ⟨RJ2, "indexOfCharUnsafe", "([BIII)I"⟩
abbrev cJ2_indexOfSupplementary_4cfef : ByteArray := prog_23_method_49_code
def yJ2_indexOfSupplementary_4cfef : MethodName := ⟨RJ2, "indexOfSupplementary", "([BIII)I"⟩
abbrev cJ2_charAt_3b067 : ByteArray := prog_23_method_83_code
def yJ2_charAt_3b067 : MethodName := ⟨RJ2, "charAt", "([BI)C"⟩
abbrev cJ2_checkIndex_2214a : ByteArray := prog_23_method_91_code
def yJ2_checkIndex_2214a : MethodName := ⟨RJ2, "checkIndex", "(I[B)V"⟩
abbrev cJ2_checkBoundsBeginEnd_d044e : ByteArray := prog_23_method_93_code
def yJ2_checkBoundsBeginEnd_d044e : MethodName := ⟨RJ2, "checkBoundsBeginEnd", "(II[B)V"⟩
def RJ10 : String := "java/lang/System"
def TJ10 : u_T := fun k => match k with
  | _ => ("", "", "", false)
def tyJ10 : Nat → FieldType := fun k => match k with
  | _ => .int
abbrev wsJ100 : List Cond := u_ws RJ10 TJ10 0
theorem nmJ10 : ∀ a, a < 0 → ∀ b, b < 0 → a ≠ b → (TJ10 a).2.1 ≠ (TJ10 b).2.1 := by decide +kernel
theorem tyJ10_ok : ∀ k, k < 0 → parseFieldDescriptor (TJ10 k).2.2.1 = some (tyJ10 k) := by decide +kernel
def RJxfd54e : String := "java/lang/constant/Constable"
def TJxfd54e : u_T := fun k => match k with
  | _ => ("", "", "", false)
def tyJxfd54e : Nat → FieldType := fun k => match k with
  | _ => .int
abbrev wsJxfd54e0 : List Cond := u_ws RJxfd54e TJxfd54e 0
theorem nmJxfd54e : ∀ a, a < 0 → ∀ b, b < 0 → a ≠ b → (TJxfd54e a).2.1 ≠ (TJxfd54e b).2.1 := by decide +kernel
theorem tyJxfd54e_ok : ∀ k, k < 0 → parseFieldDescriptor (TJxfd54e k).2.2.1 = some (tyJxfd54e k) := by decide +kernel
def RJx3cf43 : String := "java/lang/constant/ConstantDesc"
def TJx3cf43 : u_T := fun k => match k with
  | _ => ("", "", "", false)
def tyJx3cf43 : Nat → FieldType := fun k => match k with
  | _ => .int
abbrev wsJx3cf430 : List Cond := u_ws RJx3cf43 TJx3cf43 0
theorem nmJx3cf43 : ∀ a, a < 0 → ∀ b, b < 0 → a ≠ b → (TJx3cf43 a).2.1 ≠ (TJx3cf43 b).2.1 := by decide +kernel
theorem tyJx3cf43_ok : ∀ k, k < 0 → parseFieldDescriptor (TJx3cf43 k).2.2.1 = some (tyJx3cf43 k) := by decide +kernel
def RJ7 : String := "java/util/Arrays"
def TJ7 : u_T := fun k => match k with
  | _ => ("", "", "", false)
def tyJ7 : Nat → FieldType := fun k => match k with
  | _ => .int
abbrev wsJ70 : List Cond := u_ws RJ7 TJ7 0
theorem nmJ7 : ∀ a, a < 0 → ∀ b, b < 0 → a ≠ b → (TJ7 a).2.1 ≠ (TJ7 b).2.1 := by decide +kernel
theorem tyJ7_ok : ∀ k, k < 0 → parseFieldDescriptor (TJ7 k).2.2.1 = some (tyJ7 k) := by decide +kernel
abbrev cJ7_fill_53178 : ByteArray := prog_28_method_103_code
def yJ7_fill_53178 : MethodName := ⟨RJ7, "fill", "([II)V"⟩
abbrev cJ7_fill_031fb : ByteArray := prog_28_method_109_code
def yJ7_fill_031fb : MethodName := ⟨RJ7, "fill", "([BB)V"⟩
abbrev cJ7_copyOf_59c91 : ByteArray := prog_28_method_123_code
def yJ7_copyOf_59c91 : MethodName := ⟨RJ7, "copyOf", "([II)[I"⟩
def RJ3 : String := "jdk/internal/util/Preconditions"
def TJ3 : u_T := fun k => match k with
  | _ => ("", "", "", false)
def tyJ3 : Nat → FieldType := fun k => match k with
  | _ => .int
abbrev wsJ30 : List Cond := u_ws RJ3 TJ3 0
theorem nmJ3 : ∀ a, a < 0 → ∀ b, b < 0 → a ≠ b → (TJ3 a).2.1 ≠ (TJ3 b).2.1 := by decide +kernel
theorem tyJ3_ok : ∀ k, k < 0 → parseFieldDescriptor (TJ3 k).2.2.1 = some (tyJ3 k) := by decide +kernel
abbrev cJ3_checkIndex_8e157 : ByteArray := prog_30_method_11_code
def yJ3_checkIndex_8e157 : MethodName := ⟨RJ3, "checkIndex", "(IILjava/util/function/BiFunction;)I"⟩
abbrev cJ3_checkFromToIndex_8c36e : ByteArray := prog_30_method_12_code
def yJ3_checkFromToIndex_8c36e : MethodName := ⟨RJ3, "checkFromToIndex", "(IIILjava/util/function/BiFunction;)I"⟩
def RL : String := "SketchFillerLaw"
abbrev cL_ranked : ByteArray := method_3_code
def yL_ranked : MethodName := ⟨RL, "ranked", "(LSketchFiller;I[J)I"⟩
abbrev cL_law : ByteArray := code
def yL_law : MethodName := ⟨RL, "law", "([I)Z"⟩
abbrev vwCl : List vw_C := [(RX0, TX0, 10), (RX1, TX1, 3), (RX2, TX2, 6), (RX3, TX3, 18), (RX4, TX4, 9), (RX5, TX5, 2), (RX6, TX6, 6), (RX7, TX7, 4), (RX8, TX8, 3), (RX9, TX9, 51)]
