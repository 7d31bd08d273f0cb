section
-- ===== PART A: goes FIRST, ahead of the names: the tables' words, and 'selects' of the private methods out of them =====
/-- a private method of a class that the tables say can be made, by its rows of tables_1 -/
def lw_okq (q : MethodName × Nat) : Prop := (q.1.cls ≠ "java/lang/invoke/MethodHandle" ∧ q.1.cls ≠ "java/lang/invoke/VarHandle") ∧ Cond.instantiable q.1.cls q.2 ∈ tables_1 ∧ Cond.privateMethod q.1 ∈ tables_1 ∧ Cond.instanceMethod q.1 ∈ tables_1
theorem lw_p0 : lw_okq (⟨"WordsUnsaid$Text", "add", "(I)Z"⟩, 5) := ⟨⟨by decide +kernel, by decide +kernel⟩, List.mem_of_getElem? (i := 28) (by decide +kernel), List.mem_of_getElem? (i := 438) (by decide +kernel), List.mem_of_getElem? (i := 439) (by decide +kernel)⟩
theorem lw_p1 : lw_okq (⟨"WordsUnsaid$Text", "cut", "(I)Z"⟩, 5) := ⟨⟨by decide +kernel, by decide +kernel⟩, List.mem_of_getElem? (i := 28) (by decide +kernel), List.mem_of_getElem? (i := 446) (by decide +kernel), List.mem_of_getElem? (i := 447) (by decide +kernel)⟩
theorem lw_p2 : lw_okq (⟨"WordsUnsaid$House", "onIslets", "()I"⟩, 14) := ⟨⟨by decide +kernel, by decide +kernel⟩, List.mem_of_getElem? (i := 55) (by decide +kernel), List.mem_of_getElem? (i := 454) (by decide +kernel), List.mem_of_getElem? (i := 455) (by decide +kernel)⟩
theorem lw_p3 : lw_okq (⟨"WordsUnsaid$House", "peopleAt", "(I)I"⟩, 14) := ⟨⟨by decide +kernel, by decide +kernel⟩, List.mem_of_getElem? (i := 55) (by decide +kernel), List.mem_of_getElem? (i := 458) (by decide +kernel), List.mem_of_getElem? (i := 459) (by decide +kernel)⟩
theorem lw_p4 : lw_okq (⟨"WordsUnsaid$River", "read", "(LWordsUnsaid$Text;)I"⟩, 4) := ⟨⟨by decide +kernel, by decide +kernel⟩, List.mem_of_getElem? (i := 124) (by decide +kernel), List.mem_of_getElem? (i := 465) (by decide +kernel), List.mem_of_getElem? (i := 466) (by decide +kernel)⟩
theorem lw_p5 : lw_okq (⟨"WordsUnsaid$Text", "open", "(I)V"⟩, 5) := ⟨⟨by decide +kernel, by decide +kernel⟩, List.mem_of_getElem? (i := 28) (by decide +kernel), List.mem_of_getElem? (i := 469) (by decide +kernel), List.mem_of_getElem? (i := 470) (by decide +kernel)⟩
theorem lw_p6 : lw_okq (⟨"WordsUnsaid$Text", "number", "(III)I"⟩, 5) := ⟨⟨by decide +kernel, by decide +kernel⟩, List.mem_of_getElem? (i := 28) (by decide +kernel), List.mem_of_getElem? (i := 476) (by decide +kernel), List.mem_of_getElem? (i := 477) (by decide +kernel)⟩
theorem lw_p7 : lw_okq (⟨"WordsUnsaid$Text", "isDigit", "()Z"⟩, 5) := ⟨⟨by decide +kernel, by decide +kernel⟩, List.mem_of_getElem? (i := 28) (by decide +kernel), List.mem_of_getElem? (i := 480) (by decide +kernel), List.mem_of_getElem? (i := 481) (by decide +kernel)⟩
theorem lw_p8 : lw_okq (⟨"WordsUnsaid$Text", "next", "()I"⟩, 5) := ⟨⟨by decide +kernel, by decide +kernel⟩, List.mem_of_getElem? (i := 28) (by decide +kernel), List.mem_of_getElem? (i := 484) (by decide +kernel), List.mem_of_getElem? (i := 485) (by decide +kernel)⟩
theorem lw_p9 : lw_okq (⟨"WordsUnsaid$Text", "refuse", "()Z"⟩, 5) := ⟨⟨by decide +kernel, by decide +kernel⟩, List.mem_of_getElem? (i := 28) (by decide +kernel), List.mem_of_getElem? (i := 491) (by decide +kernel), List.mem_of_getElem? (i := 492) (by decide +kernel)⟩
theorem lw_p10 : lw_okq (⟨"WordsUnsaid$Text", "refuseLast", "()Z"⟩, 5) := ⟨⟨by decide +kernel, by decide +kernel⟩, List.mem_of_getElem? (i := 28) (by decide +kernel), List.mem_of_getElem? (i := 495) (by decide +kernel), List.mem_of_getElem? (i := 496) (by decide +kernel)⟩
theorem lw_p11 : lw_okq (⟨"WordsUnsaid$Text", "answer", "()I"⟩, 5) := ⟨⟨by decide +kernel, by decide +kernel⟩, List.mem_of_getElem? (i := 28) (by decide +kernel), List.mem_of_getElem? (i := 499) (by decide +kernel), List.mem_of_getElem? (i := 500) (by decide +kernel)⟩
theorem lw_p12 : lw_okq (⟨"WordsUnsaid$Text", "meet", "(I)Z"⟩, 5) := ⟨⟨by decide +kernel, by decide +kernel⟩, List.mem_of_getElem? (i := 28) (by decide +kernel), List.mem_of_getElem? (i := 503) (by decide +kernel), List.mem_of_getElem? (i := 504) (by decide +kernel)⟩
theorem lw_p13 : lw_okq (⟨"WordsUnsaid$Text", "closes", "()Z"⟩, 5) := ⟨⟨by decide +kernel, by decide +kernel⟩, List.mem_of_getElem? (i := 28) (by decide +kernel), List.mem_of_getElem? (i := 510) (by decide +kernel), List.mem_of_getElem? (i := 511) (by decide +kernel)⟩
theorem lw_p14 : lw_okq (⟨"WordsUnsaid$Memory", "forgetAll", "()V"⟩, 4) := ⟨⟨by decide +kernel, by decide +kernel⟩, List.mem_of_getElem? (i := 311) (by decide +kernel), List.mem_of_getElem? (i := 515) (by decide +kernel), List.mem_of_getElem? (i := 516) (by decide +kernel)⟩
theorem lw_p15 : lw_okq (⟨"WordsUnsaid$House", "read", "(LWordsUnsaid$Text;)I"⟩, 14) := ⟨⟨by decide +kernel, by decide +kernel⟩, List.mem_of_getElem? (i := 55) (by decide +kernel), List.mem_of_getElem? (i := 523) (by decide +kernel), List.mem_of_getElem? (i := 524) (by decide +kernel)⟩
def lw_privs_1 : List (MethodName × Nat) := [(⟨"WordsUnsaid$Text", "add", "(I)Z"⟩, 5), (⟨"WordsUnsaid$Text", "cut", "(I)Z"⟩, 5), (⟨"WordsUnsaid$House", "onIslets", "()I"⟩, 14), (⟨"WordsUnsaid$House", "peopleAt", "(I)I"⟩, 14), (⟨"WordsUnsaid$River", "read", "(LWordsUnsaid$Text;)I"⟩, 4), (⟨"WordsUnsaid$Text", "open", "(I)V"⟩, 5), (⟨"WordsUnsaid$Text", "number", "(III)I"⟩, 5), (⟨"WordsUnsaid$Text", "isDigit", "()Z"⟩, 5), (⟨"WordsUnsaid$Text", "next", "()I"⟩, 5), (⟨"WordsUnsaid$Text", "refuse", "()Z"⟩, 5), (⟨"WordsUnsaid$Text", "refuseLast", "()Z"⟩, 5), (⟨"WordsUnsaid$Text", "answer", "()I"⟩, 5), (⟨"WordsUnsaid$Text", "meet", "(I)Z"⟩, 5), (⟨"WordsUnsaid$Text", "closes", "()Z"⟩, 5), (⟨"WordsUnsaid$Memory", "forgetAll", "()V"⟩, 4), (⟨"WordsUnsaid$House", "read", "(LWordsUnsaid$Text;)I"⟩, 14)]
theorem lw_r1 : ∀ q ∈ lw_privs_1, lw_okq q := List.forall_mem_cons.mpr ⟨lw_p0, List.forall_mem_cons.mpr ⟨lw_p1, List.forall_mem_cons.mpr ⟨lw_p2, List.forall_mem_cons.mpr ⟨lw_p3, List.forall_mem_cons.mpr ⟨lw_p4, List.forall_mem_cons.mpr ⟨lw_p5, List.forall_mem_cons.mpr ⟨lw_p6, List.forall_mem_cons.mpr ⟨lw_p7, List.forall_mem_cons.mpr ⟨lw_p8, List.forall_mem_cons.mpr ⟨lw_p9, List.forall_mem_cons.mpr ⟨lw_p10, List.forall_mem_cons.mpr ⟨lw_p11, List.forall_mem_cons.mpr ⟨lw_p12, List.forall_mem_cons.mpr ⟨lw_p13, List.forall_mem_cons.mpr ⟨lw_p14, List.forall_mem_cons.mpr ⟨lw_p15, fun _ h => absurd h List.not_mem_nil⟩⟩⟩⟩⟩⟩⟩⟩⟩⟩⟩⟩⟩⟩⟩⟩
theorem lw_p16 : lw_okq (⟨"WordsUnsaid$House", "readLine", "(LWordsUnsaid$Text;)Z"⟩, 14) := ⟨⟨by decide +kernel, by decide +kernel⟩, List.mem_of_getElem? (i := 55) (by decide +kernel), List.mem_of_getElem? (i := 528) (by decide +kernel), List.mem_of_getElem? (i := 529) (by decide +kernel)⟩
theorem lw_p17 : lw_okq (⟨"WordsUnsaid$House", "readPerson", "(LWordsUnsaid$Text;)Z"⟩, 14) := ⟨⟨by decide +kernel, by decide +kernel⟩, List.mem_of_getElem? (i := 55) (by decide +kernel), List.mem_of_getElem? (i := 533) (by decide +kernel), List.mem_of_getElem? (i := 534) (by decide +kernel)⟩
theorem lw_p18 : lw_okq (⟨"WordsUnsaid$House", "readThing", "(LWordsUnsaid$Text;)Z"⟩, 14) := ⟨⟨by decide +kernel, by decide +kernel⟩, List.mem_of_getElem? (i := 55) (by decide +kernel), List.mem_of_getElem? (i := 539) (by decide +kernel), List.mem_of_getElem? (i := 540) (by decide +kernel)⟩
theorem lw_p19 : lw_okq (⟨"WordsUnsaid$Text", "letter", "(II)I"⟩, 5) := ⟨⟨by decide +kernel, by decide +kernel⟩, List.mem_of_getElem? (i := 28) (by decide +kernel), List.mem_of_getElem? (i := 543) (by decide +kernel), List.mem_of_getElem? (i := 544) (by decide +kernel)⟩
theorem lw_p20 : lw_okq (⟨"WordsUnsaid$Text", "take", "(I)Z"⟩, 5) := ⟨⟨by decide +kernel, by decide +kernel⟩, List.mem_of_getElem? (i := 28) (by decide +kernel), List.mem_of_getElem? (i := 547) (by decide +kernel), List.mem_of_getElem? (i := 548) (by decide +kernel)⟩
theorem lw_p21 : lw_okq (⟨"WordsUnsaid$House", "moveIn", "(I)I"⟩, 14) := ⟨⟨by decide +kernel, by decide +kernel⟩, List.mem_of_getElem? (i := 55) (by decide +kernel), List.mem_of_getElem? (i := 556) (by decide +kernel), List.mem_of_getElem? (i := 557) (by decide +kernel)⟩
theorem lw_p22 : lw_okq (⟨"WordsUnsaid$Rule", "read", "(LWordsUnsaid$Text;)I"⟩, 15) := ⟨⟨by decide +kernel, by decide +kernel⟩, List.mem_of_getElem? (i := 146) (by decide +kernel), List.mem_of_getElem? (i := 564) (by decide +kernel), List.mem_of_getElem? (i := 565) (by decide +kernel)⟩
theorem lw_p23 : lw_okq (⟨"WordsUnsaid$Rule", "readExpression", "(LWordsUnsaid$Text;)Z"⟩, 15) := ⟨⟨by decide +kernel, by decide +kernel⟩, List.mem_of_getElem? (i := 146) (by decide +kernel), List.mem_of_getElem? (i := 568) (by decide +kernel), List.mem_of_getElem? (i := 569) (by decide +kernel)⟩
theorem lw_p24 : lw_okq (⟨"WordsUnsaid$Rule", "compare", "(Z)V"⟩, 15) := ⟨⟨by decide +kernel, by decide +kernel⟩, List.mem_of_getElem? (i := 146) (by decide +kernel), List.mem_of_getElem? (i := 573) (by decide +kernel), List.mem_of_getElem? (i := 574) (by decide +kernel)⟩
theorem lw_p25 : lw_okq (⟨"WordsUnsaid$Rule", "readThing", "(LWordsUnsaid$Text;)Z"⟩, 15) := ⟨⟨by decide +kernel, by decide +kernel⟩, List.mem_of_getElem? (i := 146) (by decide +kernel), List.mem_of_getElem? (i := 577) (by decide +kernel), List.mem_of_getElem? (i := 578) (by decide +kernel)⟩
theorem lw_p26 : lw_okq (⟨"WordsUnsaid$Rule", "defer", "(I)V"⟩, 15) := ⟨⟨by decide +kernel, by decide +kernel⟩, List.mem_of_getElem? (i := 146) (by decide +kernel), List.mem_of_getElem? (i := 582) (by decide +kernel), List.mem_of_getElem? (i := 583) (by decide +kernel)⟩
theorem lw_p27 : lw_okq (⟨"WordsUnsaid$Rule", "write", "(I)V"⟩, 15) := ⟨⟨by decide +kernel, by decide +kernel⟩, List.mem_of_getElem? (i := 146) (by decide +kernel), List.mem_of_getElem? (i := 589) (by decide +kernel), List.mem_of_getElem? (i := 590) (by decide +kernel)⟩
theorem lw_p28 : lw_okq (⟨"WordsUnsaid$Text", "skip", "()V"⟩, 5) := ⟨⟨by decide +kernel, by decide +kernel⟩, List.mem_of_getElem? (i := 28) (by decide +kernel), List.mem_of_getElem? (i := 598) (by decide +kernel), List.mem_of_getElem? (i := 599) (by decide +kernel)⟩
theorem lw_p29 : lw_okq (⟨"WordsUnsaid$Rule", "closeParentheses", "(LWordsUnsaid$Text;)V"⟩, 15) := ⟨⟨by decide +kernel, by decide +kernel⟩, List.mem_of_getElem? (i := 146) (by decide +kernel), List.mem_of_getElem? (i := 602) (by decide +kernel), List.mem_of_getElem? (i := 603) (by decide +kernel)⟩
theorem lw_p30 : lw_okq (⟨"WordsUnsaid$Rule", "writeWaiting", "(I)V"⟩, 15) := ⟨⟨by decide +kernel, by decide +kernel⟩, List.mem_of_getElem? (i := 146) (by decide +kernel), List.mem_of_getElem? (i := 606) (by decide +kernel), List.mem_of_getElem? (i := 607) (by decide +kernel)⟩
theorem lw_p31 : lw_okq (⟨"WordsUnsaid$Rule", "readJoint", "(LWordsUnsaid$Text;)Z"⟩, 15) := ⟨⟨by decide +kernel, by decide +kernel⟩, List.mem_of_getElem? (i := 146) (by decide +kernel), List.mem_of_getElem? (i := 615) (by decide +kernel), List.mem_of_getElem? (i := 616) (by decide +kernel)⟩
def lw_privs_2 : List (MethodName × Nat) := [(⟨"WordsUnsaid$House", "readLine", "(LWordsUnsaid$Text;)Z"⟩, 14), (⟨"WordsUnsaid$House", "readPerson", "(LWordsUnsaid$Text;)Z"⟩, 14), (⟨"WordsUnsaid$House", "readThing", "(LWordsUnsaid$Text;)Z"⟩, 14), (⟨"WordsUnsaid$Text", "letter", "(II)I"⟩, 5), (⟨"WordsUnsaid$Text", "take", "(I)Z"⟩, 5), (⟨"WordsUnsaid$House", "moveIn", "(I)I"⟩, 14), (⟨"WordsUnsaid$Rule", "read", "(LWordsUnsaid$Text;)I"⟩, 15), (⟨"WordsUnsaid$Rule", "readExpression", "(LWordsUnsaid$Text;)Z"⟩, 15), (⟨"WordsUnsaid$Rule", "compare", "(Z)V"⟩, 15), (⟨"WordsUnsaid$Rule", "readThing", "(LWordsUnsaid$Text;)Z"⟩, 15), (⟨"WordsUnsaid$Rule", "defer", "(I)V"⟩, 15), (⟨"WordsUnsaid$Rule", "write", "(I)V"⟩, 15), (⟨"WordsUnsaid$Text", "skip", "()V"⟩, 5), (⟨"WordsUnsaid$Rule", "closeParentheses", "(LWordsUnsaid$Text;)V"⟩, 15), (⟨"WordsUnsaid$Rule", "writeWaiting", "(I)V"⟩, 15), (⟨"WordsUnsaid$Rule", "readJoint", "(LWordsUnsaid$Text;)Z"⟩, 15)]
theorem lw_r2 : ∀ q ∈ lw_privs_2, lw_okq q := List.forall_mem_cons.mpr ⟨lw_p16, List.forall_mem_cons.mpr ⟨lw_p17, List.forall_mem_cons.mpr ⟨lw_p18, List.forall_mem_cons.mpr ⟨lw_p19, List.forall_mem_cons.mpr ⟨lw_p20, List.forall_mem_cons.mpr ⟨lw_p21, List.forall_mem_cons.mpr ⟨lw_p22, List.forall_mem_cons.mpr ⟨lw_p23, List.forall_mem_cons.mpr ⟨lw_p24, List.forall_mem_cons.mpr ⟨lw_p25, List.forall_mem_cons.mpr ⟨lw_p26, List.forall_mem_cons.mpr ⟨lw_p27, List.forall_mem_cons.mpr ⟨lw_p28, List.forall_mem_cons.mpr ⟨lw_p29, List.forall_mem_cons.mpr ⟨lw_p30, List.forall_mem_cons.mpr ⟨lw_p31, fun _ h => absurd h List.not_mem_nil⟩⟩⟩⟩⟩⟩⟩⟩⟩⟩⟩⟩⟩⟩⟩⟩
theorem lw_p32 : lw_okq (⟨"WordsUnsaid$Rule", "isCompared", "()Z"⟩, 15) := ⟨⟨by decide +kernel, by decide +kernel⟩, List.mem_of_getElem? (i := 146) (by decide +kernel), List.mem_of_getElem? (i := 619) (by decide +kernel), List.mem_of_getElem? (i := 620) (by decide +kernel)⟩
theorem lw_p33 : lw_okq (⟨"WordsUnsaid$River", "hasIslet", "(I)Z"⟩, 4) := ⟨⟨by decide +kernel, by decide +kernel⟩, List.mem_of_getElem? (i := 124) (by decide +kernel), List.mem_of_getElem? (i := 628) (by decide +kernel), List.mem_of_getElem? (i := 629) (by decide +kernel)⟩
theorem lw_p34 : lw_okq (⟨"WordsUnsaid$House", "hasPerson", "(I)Z"⟩, 14) := ⟨⟨by decide +kernel, by decide +kernel⟩, List.mem_of_getElem? (i := 55) (by decide +kernel), List.mem_of_getElem? (i := 637) (by decide +kernel), List.mem_of_getElem? (i := 638) (by decide +kernel)⟩
theorem lw_p35 : lw_okq (⟨"WordsUnsaid", "embark", "(III)I"⟩, 12) := ⟨⟨by decide +kernel, by decide +kernel⟩, List.mem_of_getElem? (i := 20) (by decide +kernel), List.mem_of_getElem? (i := 655) (by decide +kernel), List.mem_of_getElem? (i := 656) (by decide +kernel)⟩
theorem lw_p36 : lw_okq (⟨"WordsUnsaid$Crossing", "begin", "(III)Z"⟩, 14) := ⟨⟨by decide +kernel, by decide +kernel⟩, List.mem_of_getElem? (i := 203) (by decide +kernel), List.mem_of_getElem? (i := 659) (by decide +kernel), List.mem_of_getElem? (i := 660) (by decide +kernel)⟩
theorem lw_p37 : lw_okq (⟨"WordsUnsaid$House", "areTwo", "(II)Z"⟩, 14) := ⟨⟨by decide +kernel, by decide +kernel⟩, List.mem_of_getElem? (i := 55) (by decide +kernel), List.mem_of_getElem? (i := 665) (by decide +kernel), List.mem_of_getElem? (i := 666) (by decide +kernel)⟩
theorem lw_p38 : lw_okq (⟨"WordsUnsaid$House", "areTogether", "(II)Z"⟩, 14) := ⟨⟨by decide +kernel, by decide +kernel⟩, List.mem_of_getElem? (i := 55) (by decide +kernel), List.mem_of_getElem? (i := 670) (by decide +kernel), List.mem_of_getElem? (i := 671) (by decide +kernel)⟩
theorem lw_p39 : lw_okq (⟨"WordsUnsaid$Crossing", "load", "(III)V"⟩, 14) := ⟨⟨by decide +kernel, by decide +kernel⟩, List.mem_of_getElem? (i := 203) (by decide +kernel), List.mem_of_getElem? (i := 674) (by decide +kernel), List.mem_of_getElem? (i := 675) (by decide +kernel)⟩
theorem lw_p40 : lw_okq (⟨"WordsUnsaid$River", "between", "(II)I"⟩, 4) := ⟨⟨by decide +kernel, by decide +kernel⟩, List.mem_of_getElem? (i := 124) (by decide +kernel), List.mem_of_getElem? (i := 678) (by decide +kernel), List.mem_of_getElem? (i := 679) (by decide +kernel)⟩
theorem lw_p41 : lw_okq (⟨"WordsUnsaid$River", "yardOf", "(I)I"⟩, 4) := ⟨⟨by decide +kernel, by decide +kernel⟩, List.mem_of_getElem? (i := 124) (by decide +kernel), List.mem_of_getElem? (i := 682) (by decide +kernel), List.mem_of_getElem? (i := 683) (by decide +kernel)⟩
theorem lw_p42 : lw_okq (⟨"WordsUnsaid", "readRow", "()I"⟩, 12) := ⟨⟨by decide +kernel, by decide +kernel⟩, List.mem_of_getElem? (i := 20) (by decide +kernel), List.mem_of_getElem? (i := 686) (by decide +kernel), List.mem_of_getElem? (i := 687) (by decide +kernel)⟩
theorem lw_p43 : lw_okq (⟨"WordsUnsaid$Crossing", "take", "(I)Z"⟩, 14) := ⟨⟨by decide +kernel, by decide +kernel⟩, List.mem_of_getElem? (i := 203) (by decide +kernel), List.mem_of_getElem? (i := 692) (by decide +kernel), List.mem_of_getElem? (i := 693) (by decide +kernel)⟩
theorem lw_p44 : lw_okq (⟨"WordsUnsaid$House", "isUnsaidOf", "(II)Z"⟩, 14) := ⟨⟨by decide +kernel, by decide +kernel⟩, List.mem_of_getElem? (i := 55) (by decide +kernel), List.mem_of_getElem? (i := 696) (by decide +kernel), List.mem_of_getElem? (i := 697) (by decide +kernel)⟩
theorem lw_p45 : lw_okq (⟨"WordsUnsaid$House", "hasThing", "(I)Z"⟩, 14) := ⟨⟨by decide +kernel, by decide +kernel⟩, List.mem_of_getElem? (i := 55) (by decide +kernel), List.mem_of_getElem? (i := 700) (by decide +kernel), List.mem_of_getElem? (i := 701) (by decide +kernel)⟩
theorem lw_p46 : lw_okq (⟨"WordsUnsaid$Crossing", "hasWords", "()Z"⟩, 14) := ⟨⟨by decide +kernel, by decide +kernel⟩, List.mem_of_getElem? (i := 203) (by decide +kernel), List.mem_of_getElem? (i := 709) (by decide +kernel), List.mem_of_getElem? (i := 710) (by decide +kernel)⟩
theorem lw_p47 : lw_okq (⟨"WordsUnsaid$Crossing", "go", "()V"⟩, 14) := ⟨⟨by decide +kernel, by decide +kernel⟩, List.mem_of_getElem? (i := 203) (by decide +kernel), List.mem_of_getElem? (i := 713) (by decide +kernel), List.mem_of_getElem? (i := 714) (by decide +kernel)⟩
def lw_privs_3 : List (MethodName × Nat) := [(⟨"WordsUnsaid$Rule", "isCompared", "()Z"⟩, 15), (⟨"WordsUnsaid$River", "hasIslet", "(I)Z"⟩, 4), (⟨"WordsUnsaid$House", "hasPerson", "(I)Z"⟩, 14), (⟨"WordsUnsaid", "embark", "(III)I"⟩, 12), (⟨"WordsUnsaid$Crossing", "begin", "(III)Z"⟩, 14), (⟨"WordsUnsaid$House", "areTwo", "(II)Z"⟩, 14), (⟨"WordsUnsaid$House", "areTogether", "(II)Z"⟩, 14), (⟨"WordsUnsaid$Crossing", "load", "(III)V"⟩, 14), (⟨"WordsUnsaid$River", "between", "(II)I"⟩, 4), (⟨"WordsUnsaid$River", "yardOf", "(I)I"⟩, 4), (⟨"WordsUnsaid", "readRow", "()I"⟩, 12), (⟨"WordsUnsaid$Crossing", "take", "(I)Z"⟩, 14), (⟨"WordsUnsaid$House", "isUnsaidOf", "(II)Z"⟩, 14), (⟨"WordsUnsaid$House", "hasThing", "(I)Z"⟩, 14), (⟨"WordsUnsaid$Crossing", "hasWords", "()Z"⟩, 14), (⟨"WordsUnsaid$Crossing", "go", "()V"⟩, 14)]
theorem lw_r3 : ∀ q ∈ lw_privs_3, lw_okq q := List.forall_mem_cons.mpr ⟨lw_p32, List.forall_mem_cons.mpr ⟨lw_p33, List.forall_mem_cons.mpr ⟨lw_p34, List.forall_mem_cons.mpr ⟨lw_p35, List.forall_mem_cons.mpr ⟨lw_p36, List.forall_mem_cons.mpr ⟨lw_p37, List.forall_mem_cons.mpr ⟨lw_p38, List.forall_mem_cons.mpr ⟨lw_p39, List.forall_mem_cons.mpr ⟨lw_p40, List.forall_mem_cons.mpr ⟨lw_p41, List.forall_mem_cons.mpr ⟨lw_p42, List.forall_mem_cons.mpr ⟨lw_p43, List.forall_mem_cons.mpr ⟨lw_p44, List.forall_mem_cons.mpr ⟨lw_p45, List.forall_mem_cons.mpr ⟨lw_p46, List.forall_mem_cons.mpr ⟨lw_p47, fun _ h => absurd h List.not_mem_nil⟩⟩⟩⟩⟩⟩⟩⟩⟩⟩⟩⟩⟩⟩⟩⟩
theorem lw_p48 : lw_okq (⟨"WordsUnsaid$Crossing", "kept", "(IIII)I"⟩, 14) := ⟨⟨by decide +kernel, by decide +kernel⟩, List.mem_of_getElem? (i := 203) (by decide +kernel), List.mem_of_getElem? (i := 718) (by decide +kernel), List.mem_of_getElem? (i := 719) (by decide +kernel)⟩
theorem lw_p49 : lw_okq (⟨"WordsUnsaid$Crossing", "consider", "(I)V"⟩, 14) := ⟨⟨by decide +kernel, by decide +kernel⟩, List.mem_of_getElem? (i := 203) (by decide +kernel), List.mem_of_getElem? (i := 722) (by decide +kernel), List.mem_of_getElem? (i := 723) (by decide +kernel)⟩
theorem lw_p50 : lw_okq (⟨"WordsUnsaid$Rule", "pressure", "(III)I"⟩, 15) := ⟨⟨by decide +kernel, by decide +kernel⟩, List.mem_of_getElem? (i := 146) (by decide +kernel), List.mem_of_getElem? (i := 733) (by decide +kernel), List.mem_of_getElem? (i := 734) (by decide +kernel)⟩
theorem lw_p51 : lw_okq (⟨"WordsUnsaid$Rule", "fact", "(I)I"⟩, 15) := ⟨⟨by decide +kernel, by decide +kernel⟩, List.mem_of_getElem? (i := 146) (by decide +kernel), List.mem_of_getElem? (i := 737) (by decide +kernel), List.mem_of_getElem? (i := 738) (by decide +kernel)⟩
theorem lw_p52 : lw_okq (⟨"WordsUnsaid$River", "landing", "(III)I"⟩, 4) := ⟨⟨by decide +kernel, by decide +kernel⟩, List.mem_of_getElem? (i := 124) (by decide +kernel), List.mem_of_getElem? (i := 745) (by decide +kernel), List.mem_of_getElem? (i := 746) (by decide +kernel)⟩
theorem lw_p53 : lw_okq (⟨"WordsUnsaid$Memory", "stage", "(LWordsUnsaid$House;)V"⟩, 4) := ⟨⟨by decide +kernel, by decide +kernel⟩, List.mem_of_getElem? (i := 311) (by decide +kernel), List.mem_of_getElem? (i := 749) (by decide +kernel), List.mem_of_getElem? (i := 750) (by decide +kernel)⟩
theorem lw_p54 : lw_okq (⟨"WordsUnsaid$House", "save", "([II)V"⟩, 14) := ⟨⟨by decide +kernel, by decide +kernel⟩, List.mem_of_getElem? (i := 55) (by decide +kernel), List.mem_of_getElem? (i := 753) (by decide +kernel), List.mem_of_getElem? (i := 754) (by decide +kernel)⟩
theorem lw_p55 : lw_okq (⟨"WordsUnsaid$Crossing", "settle", "()V"⟩, 14) := ⟨⟨by decide +kernel, by decide +kernel⟩, List.mem_of_getElem? (i := 203) (by decide +kernel), List.mem_of_getElem? (i := 757) (by decide +kernel), List.mem_of_getElem? (i := 758) (by decide +kernel)⟩
theorem lw_p56 : lw_okq (⟨"WordsUnsaid$House", "tellTo", "(II)V"⟩, 14) := ⟨⟨by decide +kernel, by decide +kernel⟩, List.mem_of_getElem? (i := 55) (by decide +kernel), List.mem_of_getElem? (i := 761) (by decide +kernel), List.mem_of_getElem? (i := 762) (by decide +kernel)⟩
theorem lw_p57 : lw_okq (⟨"WordsUnsaid$House", "move", "(II)V"⟩, 14) := ⟨⟨by decide +kernel, by decide +kernel⟩, List.mem_of_getElem? (i := 55) (by decide +kernel), List.mem_of_getElem? (i := 765) (by decide +kernel), List.mem_of_getElem? (i := 766) (by decide +kernel)⟩
theorem lw_p58 : lw_okq (⟨"WordsUnsaid$Memory", "commit", "()V"⟩, 4) := ⟨⟨by decide +kernel, by decide +kernel⟩, List.mem_of_getElem? (i := 311) (by decide +kernel), List.mem_of_getElem? (i := 769) (by decide +kernel), List.mem_of_getElem? (i := 770) (by decide +kernel)⟩
theorem lw_p59 : lw_okq (⟨"WordsUnsaid", "tellCrossing", "()I"⟩, 12) := ⟨⟨by decide +kernel, by decide +kernel⟩, List.mem_of_getElem? (i := 20) (by decide +kernel), List.mem_of_getElem? (i := 774) (by decide +kernel), List.mem_of_getElem? (i := 775) (by decide +kernel)⟩
theorem lw_p60 : lw_okq (⟨"WordsUnsaid$Tale", "tell", "(III)V"⟩, 2) := ⟨⟨by decide +kernel, by decide +kernel⟩, List.mem_of_getElem? (i := 366) (by decide +kernel), List.mem_of_getElem? (i := 778) (by decide +kernel), List.mem_of_getElem? (i := 779) (by decide +kernel)⟩
theorem lw_p61 : lw_okq (⟨"WordsUnsaid$Tale", "tell", "(II)V"⟩, 2) := ⟨⟨by decide +kernel, by decide +kernel⟩, List.mem_of_getElem? (i := 366) (by decide +kernel), List.mem_of_getElem? (i := 782) (by decide +kernel), List.mem_of_getElem? (i := 783) (by decide +kernel)⟩
theorem lw_p62 : lw_okq (⟨"WordsUnsaid$Tale", "tell", "(I)V"⟩, 2) := ⟨⟨by decide +kernel, by decide +kernel⟩, List.mem_of_getElem? (i := 366) (by decide +kernel), List.mem_of_getElem? (i := 786) (by decide +kernel), List.mem_of_getElem? (i := 787) (by decide +kernel)⟩
theorem lw_p63 : lw_okq (⟨"WordsUnsaid$Tale", "clear", "()V"⟩, 2) := ⟨⟨by decide +kernel, by decide +kernel⟩, List.mem_of_getElem? (i := 366) (by decide +kernel), List.mem_of_getElem? (i := 790) (by decide +kernel), List.mem_of_getElem? (i := 791) (by decide +kernel)⟩
def lw_privs_4 : List (MethodName × Nat) := [(⟨"WordsUnsaid$Crossing", "kept", "(IIII)I"⟩, 14), (⟨"WordsUnsaid$Crossing", "consider", "(I)V"⟩, 14), (⟨"WordsUnsaid$Rule", "pressure", "(III)I"⟩, 15), (⟨"WordsUnsaid$Rule", "fact", "(I)I"⟩, 15), (⟨"WordsUnsaid$River", "landing", "(III)I"⟩, 4), (⟨"WordsUnsaid$Memory", "stage", "(LWordsUnsaid$House;)V"⟩, 4), (⟨"WordsUnsaid$House", "save", "([II)V"⟩, 14), (⟨"WordsUnsaid$Crossing", "settle", "()V"⟩, 14), (⟨"WordsUnsaid$House", "tellTo", "(II)V"⟩, 14), (⟨"WordsUnsaid$House", "move", "(II)V"⟩, 14), (⟨"WordsUnsaid$Memory", "commit", "()V"⟩, 4), (⟨"WordsUnsaid", "tellCrossing", "()I"⟩, 12), (⟨"WordsUnsaid$Tale", "tell", "(III)V"⟩, 2), (⟨"WordsUnsaid$Tale", "tell", "(II)V"⟩, 2), (⟨"WordsUnsaid$Tale", "tell", "(I)V"⟩, 2), (⟨"WordsUnsaid$Tale", "clear", "()V"⟩, 2)]
theorem lw_r4 : ∀ q ∈ lw_privs_4, lw_okq q := List.forall_mem_cons.mpr ⟨lw_p48, List.forall_mem_cons.mpr ⟨lw_p49, List.forall_mem_cons.mpr ⟨lw_p50, List.forall_mem_cons.mpr ⟨lw_p51, List.forall_mem_cons.mpr ⟨lw_p52, List.forall_mem_cons.mpr ⟨lw_p53, List.forall_mem_cons.mpr ⟨lw_p54, List.forall_mem_cons.mpr ⟨lw_p55, List.forall_mem_cons.mpr ⟨lw_p56, List.forall_mem_cons.mpr ⟨lw_p57, List.forall_mem_cons.mpr ⟨lw_p58, List.forall_mem_cons.mpr ⟨lw_p59, List.forall_mem_cons.mpr ⟨lw_p60, List.forall_mem_cons.mpr ⟨lw_p61, List.forall_mem_cons.mpr ⟨lw_p62, List.forall_mem_cons.mpr ⟨lw_p63, fun _ h => absurd h List.not_mem_nil⟩⟩⟩⟩⟩⟩⟩⟩⟩⟩⟩⟩⟩⟩⟩⟩
theorem lw_p64 : lw_okq (⟨"WordsUnsaid$Tale", "add", "(I)V"⟩, 2) := ⟨⟨by decide +kernel, by decide +kernel⟩, List.mem_of_getElem? (i := 366) (by decide +kernel), List.mem_of_getElem? (i := 794) (by decide +kernel), List.mem_of_getElem? (i := 795) (by decide +kernel)⟩
theorem lw_p65 : lw_okq (⟨"WordsUnsaid$House", "speak", "(II)I"⟩, 14) := ⟨⟨by decide +kernel, by decide +kernel⟩, List.mem_of_getElem? (i := 55) (by decide +kernel), List.mem_of_getElem? (i := 807) (by decide +kernel), List.mem_of_getElem? (i := 808) (by decide +kernel)⟩
theorem lw_p66 : lw_okq (⟨"WordsUnsaid$House", "whyNotSay", "(II)I"⟩, 14) := ⟨⟨by decide +kernel, by decide +kernel⟩, List.mem_of_getElem? (i := 55) (by decide +kernel), List.mem_of_getElem? (i := 811) (by decide +kernel), List.mem_of_getElem? (i := 812) (by decide +kernel)⟩
theorem lw_p67 : lw_okq (⟨"WordsUnsaid$House", "owns", "(II)Z"⟩, 14) := ⟨⟨by decide +kernel, by decide +kernel⟩, List.mem_of_getElem? (i := 55) (by decide +kernel), List.mem_of_getElem? (i := 815) (by decide +kernel), List.mem_of_getElem? (i := 816) (by decide +kernel)⟩
theorem lw_p68 : lw_okq (⟨"WordsUnsaid$House", "newTo", "(II)I"⟩, 14) := ⟨⟨by decide +kernel, by decide +kernel⟩, List.mem_of_getElem? (i := 55) (by decide +kernel), List.mem_of_getElem? (i := 820) (by decide +kernel), List.mem_of_getElem? (i := 821) (by decide +kernel)⟩
theorem lw_p69 : lw_okq (⟨"WordsUnsaid", "remembered", "(I)I"⟩, 12) := ⟨⟨by decide +kernel, by decide +kernel⟩, List.mem_of_getElem? (i := 20) (by decide +kernel), List.mem_of_getElem? (i := 826) (by decide +kernel), List.mem_of_getElem? (i := 827) (by decide +kernel)⟩
theorem lw_p70 : lw_okq (⟨"WordsUnsaid$House", "passOn", "(III)I"⟩, 14) := ⟨⟨by decide +kernel, by decide +kernel⟩, List.mem_of_getElem? (i := 55) (by decide +kernel), List.mem_of_getElem? (i := 834) (by decide +kernel), List.mem_of_getElem? (i := 835) (by decide +kernel)⟩
theorem lw_p71 : lw_okq (⟨"WordsUnsaid$House", "trade", "(III)I"⟩, 14) := ⟨⟨by decide +kernel, by decide +kernel⟩, List.mem_of_getElem? (i := 55) (by decide +kernel), List.mem_of_getElem? (i := 843) (by decide +kernel), List.mem_of_getElem? (i := 844) (by decide +kernel)⟩
theorem lw_p72 : lw_okq (⟨"WordsUnsaid$House", "whyNotSell", "(III)I"⟩, 14) := ⟨⟨by decide +kernel, by decide +kernel⟩, List.mem_of_getElem? (i := 55) (by decide +kernel), List.mem_of_getElem? (i := 847) (by decide +kernel), List.mem_of_getElem? (i := 848) (by decide +kernel)⟩
theorem lw_p73 : lw_okq (⟨"WordsUnsaid$House", "mayKeepBack", "(II)Z"⟩, 14) := ⟨⟨by decide +kernel, by decide +kernel⟩, List.mem_of_getElem? (i := 55) (by decide +kernel), List.mem_of_getElem? (i := 851) (by decide +kernel), List.mem_of_getElem? (i := 852) (by decide +kernel)⟩
theorem lw_p74 : lw_okq (⟨"WordsUnsaid$House", "price", "(I)I"⟩, 14) := ⟨⟨by decide +kernel, by decide +kernel⟩, List.mem_of_getElem? (i := 55) (by decide +kernel), List.mem_of_getElem? (i := 855) (by decide +kernel), List.mem_of_getElem? (i := 856) (by decide +kernel)⟩
theorem lw_p75 : lw_okq (⟨"WordsUnsaid$Act", "check", "(LWordsUnsaid$Text;)I"⟩, 7) := ⟨⟨by decide +kernel, by decide +kernel⟩, List.mem_of_getElem? (i := 331) (by decide +kernel), List.mem_of_getElem? (i := 863) (by decide +kernel), List.mem_of_getElem? (i := 864) (by decide +kernel)⟩
theorem lw_p76 : lw_okq (⟨"WordsUnsaid$Act", "readNext", "(LWordsUnsaid$Text;)Z"⟩, 7) := ⟨⟨by decide +kernel, by decide +kernel⟩, List.mem_of_getElem? (i := 331) (by decide +kernel), List.mem_of_getElem? (i := 868) (by decide +kernel), List.mem_of_getElem? (i := 869) (by decide +kernel)⟩
theorem lw_p77 : lw_okq (⟨"WordsUnsaid$Act", "readCrossing", "(LWordsUnsaid$Text;)Z"⟩, 7) := ⟨⟨by decide +kernel, by decide +kernel⟩, List.mem_of_getElem? (i := 331) (by decide +kernel), List.mem_of_getElem? (i := 876) (by decide +kernel), List.mem_of_getElem? (i := 877) (by decide +kernel)⟩
theorem lw_p78 : lw_okq (⟨"WordsUnsaid$Act", "readThings", "(LWordsUnsaid$Text;)Z"⟩, 7) := ⟨⟨by decide +kernel, by decide +kernel⟩, List.mem_of_getElem? (i := 331) (by decide +kernel), List.mem_of_getElem? (i := 884) (by decide +kernel), List.mem_of_getElem? (i := 885) (by decide +kernel)⟩
theorem lw_p79 : lw_okq (⟨"WordsUnsaid$Act", "isCrossing", "()Z"⟩, 7) := ⟨⟨by decide +kernel, by decide +kernel⟩, List.mem_of_getElem? (i := 331) (by decide +kernel), List.mem_of_getElem? (i := 893) (by decide +kernel), List.mem_of_getElem? (i := 894) (by decide +kernel)⟩
def lw_privs_5 : List (MethodName × Nat) := [(⟨"WordsUnsaid$Tale", "add", "(I)V"⟩, 2), (⟨"WordsUnsaid$House", "speak", "(II)I"⟩, 14), (⟨"WordsUnsaid$House", "whyNotSay", "(II)I"⟩, 14), (⟨"WordsUnsaid$House", "owns", "(II)Z"⟩, 14), (⟨"WordsUnsaid$House", "newTo", "(II)I"⟩, 14), (⟨"WordsUnsaid", "remembered", "(I)I"⟩, 12), (⟨"WordsUnsaid$House", "passOn", "(III)I"⟩, 14), (⟨"WordsUnsaid$House", "trade", "(III)I"⟩, 14), (⟨"WordsUnsaid$House", "whyNotSell", "(III)I"⟩, 14), (⟨"WordsUnsaid$House", "mayKeepBack", "(II)Z"⟩, 14), (⟨"WordsUnsaid$House", "price", "(I)I"⟩, 14), (⟨"WordsUnsaid$Act", "check", "(LWordsUnsaid$Text;)I"⟩, 7), (⟨"WordsUnsaid$Act", "readNext", "(LWordsUnsaid$Text;)Z"⟩, 7), (⟨"WordsUnsaid$Act", "readCrossing", "(LWordsUnsaid$Text;)Z"⟩, 7), (⟨"WordsUnsaid$Act", "readThings", "(LWordsUnsaid$Text;)Z"⟩, 7), (⟨"WordsUnsaid$Act", "isCrossing", "()Z"⟩, 7)]
theorem lw_r5 : ∀ q ∈ lw_privs_5, lw_okq q := List.forall_mem_cons.mpr ⟨lw_p64, List.forall_mem_cons.mpr ⟨lw_p65, List.forall_mem_cons.mpr ⟨lw_p66, List.forall_mem_cons.mpr ⟨lw_p67, List.forall_mem_cons.mpr ⟨lw_p68, List.forall_mem_cons.mpr ⟨lw_p69, List.forall_mem_cons.mpr ⟨lw_p70, List.forall_mem_cons.mpr ⟨lw_p71, List.forall_mem_cons.mpr ⟨lw_p72, List.forall_mem_cons.mpr ⟨lw_p73, List.forall_mem_cons.mpr ⟨lw_p74, List.forall_mem_cons.mpr ⟨lw_p75, List.forall_mem_cons.mpr ⟨lw_p76, List.forall_mem_cons.mpr ⟨lw_p77, List.forall_mem_cons.mpr ⟨lw_p78, List.forall_mem_cons.mpr ⟨lw_p79, fun _ h => absurd h List.not_mem_nil⟩⟩⟩⟩⟩⟩⟩⟩⟩⟩⟩⟩⟩⟩⟩⟩
theorem lw_p80 : lw_okq (⟨"WordsUnsaid", "sail", "()I"⟩, 12) := ⟨⟨by decide +kernel, by decide +kernel⟩, List.mem_of_getElem? (i := 20) (by decide +kernel), List.mem_of_getElem? (i := 897) (by decide +kernel), List.mem_of_getElem? (i := 898) (by decide +kernel)⟩
theorem lw_p81 : lw_okq (⟨"WordsUnsaid", "gossip", "()I"⟩, 12) := ⟨⟨by decide +kernel, by decide +kernel⟩, List.mem_of_getElem? (i := 20) (by decide +kernel), List.mem_of_getElem? (i := 901) (by decide +kernel), List.mem_of_getElem? (i := 902) (by decide +kernel)⟩
theorem lw_p82 : lw_okq (⟨"WordsUnsaid$Memory", "takeBack", "(LWordsUnsaid$House;)Z"⟩, 4) := ⟨⟨by decide +kernel, by decide +kernel⟩, List.mem_of_getElem? (i := 311) (by decide +kernel), List.mem_of_getElem? (i := 910) (by decide +kernel), List.mem_of_getElem? (i := 911) (by decide +kernel)⟩
theorem lw_p83 : lw_okq (⟨"WordsUnsaid$House", "load", "([II)V"⟩, 14) := ⟨⟨by decide +kernel, by decide +kernel⟩, List.mem_of_getElem? (i := 55) (by decide +kernel), List.mem_of_getElem? (i := 914) (by decide +kernel), List.mem_of_getElem? (i := 915) (by decide +kernel)⟩
theorem lw_p84 : lw_okq (⟨"WordsUnsaid$Walk", "start", "(I)V"⟩, 13) := ⟨⟨by decide +kernel, by decide +kernel⟩, List.mem_of_getElem? (i := 264) (by decide +kernel), List.mem_of_getElem? (i := 933) (by decide +kernel), List.mem_of_getElem? (i := 934) (by decide +kernel)⟩
theorem lw_p85 : lw_okq (⟨"WordsUnsaid$Walk", "startOnLeft", "(I)V"⟩, 13) := ⟨⟨by decide +kernel, by decide +kernel⟩, List.mem_of_getElem? (i := 264) (by decide +kernel), List.mem_of_getElem? (i := 939) (by decide +kernel), List.mem_of_getElem? (i := 940) (by decide +kernel)⟩
theorem lw_p86 : lw_okq (⟨"WordsUnsaid$Walk", "findShortest", "()I"⟩, 13) := ⟨⟨by decide +kernel, by decide +kernel⟩, List.mem_of_getElem? (i := 264) (by decide +kernel), List.mem_of_getElem? (i := 946) (by decide +kernel), List.mem_of_getElem? (i := 947) (by decide +kernel)⟩
theorem lw_p87 : lw_okq (⟨"WordsUnsaid$Walk", "next", "(Z)Z"⟩, 13) := ⟨⟨by decide +kernel, by decide +kernel⟩, List.mem_of_getElem? (i := 264) (by decide +kernel), List.mem_of_getElem? (i := 951) (by decide +kernel), List.mem_of_getElem? (i := 952) (by decide +kernel)⟩
theorem lw_p88 : lw_okq (⟨"WordsUnsaid$Walk", "canReach", "()Z"⟩, 13) := ⟨⟨by decide +kernel, by decide +kernel⟩, List.mem_of_getElem? (i := 264) (by decide +kernel), List.mem_of_getElem? (i := 955) (by decide +kernel), List.mem_of_getElem? (i := 956) (by decide +kernel)⟩
theorem lw_p89 : lw_okq (⟨"WordsUnsaid$Walk", "drop", "()I"⟩, 13) := ⟨⟨by decide +kernel, by decide +kernel⟩, List.mem_of_getElem? (i := 264) (by decide +kernel), List.mem_of_getElem? (i := 959) (by decide +kernel), List.mem_of_getElem? (i := 960) (by decide +kernel)⟩
theorem lw_p90 : lw_okq (⟨"WordsUnsaid$Walk", "usableFrom", "(I)I"⟩, 13) := ⟨⟨by decide +kernel, by decide +kernel⟩, List.mem_of_getElem? (i := 264) (by decide +kernel), List.mem_of_getElem? (i := 963) (by decide +kernel), List.mem_of_getElem? (i := 964) (by decide +kernel)⟩
theorem lw_p91 : lw_okq (⟨"WordsUnsaid$Walk", "add", "(I)V"⟩, 13) := ⟨⟨by decide +kernel, by decide +kernel⟩, List.mem_of_getElem? (i := 264) (by decide +kernel), List.mem_of_getElem? (i := 968) (by decide +kernel), List.mem_of_getElem? (i := 969) (by decide +kernel)⟩
theorem lw_p92 : lw_okq (⟨"WordsUnsaid$Walk", "isUnderWay", "()Z"⟩, 13) := ⟨⟨by decide +kernel, by decide +kernel⟩, List.mem_of_getElem? (i := 264) (by decide +kernel), List.mem_of_getElem? (i := 973) (by decide +kernel), List.mem_of_getElem? (i := 974) (by decide +kernel)⟩
theorem lw_p93 : lw_okq (⟨"WordsUnsaid$Walk", "saidThing", "()I"⟩, 13) := ⟨⟨by decide +kernel, by decide +kernel⟩, List.mem_of_getElem? (i := 264) (by decide +kernel), List.mem_of_getElem? (i := 977) (by decide +kernel), List.mem_of_getElem? (i := 978) (by decide +kernel)⟩
theorem lw_p94 : lw_okq (⟨"WordsUnsaid$Walk", "crossed", "()I"⟩, 13) := ⟨⟨by decide +kernel, by decide +kernel⟩, List.mem_of_getElem? (i := 264) (by decide +kernel), List.mem_of_getElem? (i := 981) (by decide +kernel), List.mem_of_getElem? (i := 982) (by decide +kernel)⟩
theorem lw_p95 : lw_okq (⟨"WordsUnsaid$Walk", "isOver", "()Z"⟩, 13) := ⟨⟨by decide +kernel, by decide +kernel⟩, List.mem_of_getElem? (i := 264) (by decide +kernel), List.mem_of_getElem? (i := 985) (by decide +kernel), List.mem_of_getElem? (i := 986) (by decide +kernel)⟩
def lw_privs_6 : List (MethodName × Nat) := [(⟨"WordsUnsaid", "sail", "()I"⟩, 12), (⟨"WordsUnsaid", "gossip", "()I"⟩, 12), (⟨"WordsUnsaid$Memory", "takeBack", "(LWordsUnsaid$House;)Z"⟩, 4), (⟨"WordsUnsaid$House", "load", "([II)V"⟩, 14), (⟨"WordsUnsaid$Walk", "start", "(I)V"⟩, 13), (⟨"WordsUnsaid$Walk", "startOnLeft", "(I)V"⟩, 13), (⟨"WordsUnsaid$Walk", "findShortest", "()I"⟩, 13), (⟨"WordsUnsaid$Walk", "next", "(Z)Z"⟩, 13), (⟨"WordsUnsaid$Walk", "canReach", "()Z"⟩, 13), (⟨"WordsUnsaid$Walk", "drop", "()I"⟩, 13), (⟨"WordsUnsaid$Walk", "usableFrom", "(I)I"⟩, 13), (⟨"WordsUnsaid$Walk", "add", "(I)V"⟩, 13), (⟨"WordsUnsaid$Walk", "isUnderWay", "()Z"⟩, 13), (⟨"WordsUnsaid$Walk", "saidThing", "()I"⟩, 13), (⟨"WordsUnsaid$Walk", "crossed", "()I"⟩, 13), (⟨"WordsUnsaid$Walk", "isOver", "()Z"⟩, 13)]
theorem lw_r6 : ∀ q ∈ lw_privs_6, lw_okq q := List.forall_mem_cons.mpr ⟨lw_p80, List.forall_mem_cons.mpr ⟨lw_p81, List.forall_mem_cons.mpr ⟨lw_p82, List.forall_mem_cons.mpr ⟨lw_p83, List.forall_mem_cons.mpr ⟨lw_p84, List.forall_mem_cons.mpr ⟨lw_p85, List.forall_mem_cons.mpr ⟨lw_p86, List.forall_mem_cons.mpr ⟨lw_p87, List.forall_mem_cons.mpr ⟨lw_p88, List.forall_mem_cons.mpr ⟨lw_p89, List.forall_mem_cons.mpr ⟨lw_p90, List.forall_mem_cons.mpr ⟨lw_p91, List.forall_mem_cons.mpr ⟨lw_p92, List.forall_mem_cons.mpr ⟨lw_p93, List.forall_mem_cons.mpr ⟨lw_p94, List.forall_mem_cons.mpr ⟨lw_p95, fun _ h => absurd h List.not_mem_nil⟩⟩⟩⟩⟩⟩⟩⟩⟩⟩⟩⟩⟩⟩⟩⟩
theorem lw_p96 : lw_okq (⟨"WordsUnsaid$Walk", "copyToBest", "()V"⟩, 13) := ⟨⟨by decide +kernel, by decide +kernel⟩, List.mem_of_getElem? (i := 264) (by decide +kernel), List.mem_of_getElem? (i := 989) (by decide +kernel), List.mem_of_getElem? (i := 990) (by decide +kernel)⟩
theorem lw_p97 : lw_okq (⟨"WordsUnsaid$Walk", "tellBest", "(LWordsUnsaid$Tale;I)V"⟩, 13) := ⟨⟨by decide +kernel, by decide +kernel⟩, List.mem_of_getElem? (i := 264) (by decide +kernel), List.mem_of_getElem? (i := 994) (by decide +kernel), List.mem_of_getElem? (i := 995) (by decide +kernel)⟩
theorem lw_p98 : lw_okq (⟨"WordsUnsaid$Walk", "isBurst", "()Z"⟩, 13) := ⟨⟨by decide +kernel, by decide +kernel⟩, List.mem_of_getElem? (i := 264) (by decide +kernel), List.mem_of_getElem? (i := 1006) (by decide +kernel), List.mem_of_getElem? (i := 1007) (by decide +kernel)⟩
theorem lw_p99 : lw_okq (⟨"WordsUnsaid$Walk", "leaveTo", "(LWordsUnsaid$Walk;)V"⟩, 13) := ⟨⟨by decide +kernel, by decide +kernel⟩, List.mem_of_getElem? (i := 264) (by decide +kernel), List.mem_of_getElem? (i := 1015) (by decide +kernel), List.mem_of_getElem? (i := 1016) (by decide +kernel)⟩
theorem lw_p100 : lw_okq (⟨"WordsUnsaid", "tellBothWays", "(I)V"⟩, 12) := ⟨⟨by decide +kernel, by decide +kernel⟩, List.mem_of_getElem? (i := 20) (by decide +kernel), List.mem_of_getElem? (i := 1020) (by decide +kernel), List.mem_of_getElem? (i := 1021) (by decide +kernel)⟩
theorem lw_p101 : lw_okq (⟨"WordsUnsaid$Walk", "tellRow", "(LWordsUnsaid$Tale;)V"⟩, 13) := ⟨⟨by decide +kernel, by decide +kernel⟩, List.mem_of_getElem? (i := 264) (by decide +kernel), List.mem_of_getElem? (i := 1025) (by decide +kernel), List.mem_of_getElem? (i := 1026) (by decide +kernel)⟩
theorem lw_p102 : lw_okq (⟨"WordsUnsaid$House", "unsaidOf", "(I)I"⟩, 14) := ⟨⟨by decide +kernel, by decide +kernel⟩, List.mem_of_getElem? (i := 55) (by decide +kernel), List.mem_of_getElem? (i := 1033) (by decide +kernel), List.mem_of_getElem? (i := 1034) (by decide +kernel)⟩
theorem lw_p103 : lw_okq (⟨"WordsUnsaid$House", "wordsLeft", "(I)I"⟩, 14) := ⟨⟨by decide +kernel, by decide +kernel⟩, List.mem_of_getElem? (i := 55) (by decide +kernel), List.mem_of_getElem? (i := 1038) (by decide +kernel), List.mem_of_getElem? (i := 1039) (by decide +kernel)⟩
theorem lw_p104 : lw_okq (⟨"WordsUnsaid$Crossing", "oddsOfTen", "(III)I"⟩, 14) := ⟨⟨by decide +kernel, by decide +kernel⟩, List.mem_of_getElem? (i := 203) (by decide +kernel), List.mem_of_getElem? (i := 1047) (by decide +kernel), List.mem_of_getElem? (i := 1048) (by decide +kernel)⟩
theorem lw_p105 : lw_okq (⟨"WordsUnsaid$House", "placeOfAll", "(I)I"⟩, 14) := ⟨⟨by decide +kernel, by decide +kernel⟩, List.mem_of_getElem? (i := 55) (by decide +kernel), List.mem_of_getElem? (i := 1056) (by decide +kernel), List.mem_of_getElem? (i := 1057) (by decide +kernel)⟩
theorem lw_p106 : lw_okq (⟨"WordsUnsaid$Fleet", "clear", "()V"⟩, 3) := ⟨⟨by decide +kernel, by decide +kernel⟩, List.mem_of_getElem? (i := 381) (by decide +kernel), List.mem_of_getElem? (i := 1064) (by decide +kernel), List.mem_of_getElem? (i := 1065) (by decide +kernel)⟩
theorem lw_p107 : lw_okq (⟨"WordsUnsaid$Fleet", "pair", "(IIZ)V"⟩, 3) := ⟨⟨by decide +kernel, by decide +kernel⟩, List.mem_of_getElem? (i := 381) (by decide +kernel), List.mem_of_getElem? (i := 1070) (by decide +kernel), List.mem_of_getElem? (i := 1071) (by decide +kernel)⟩
theorem lw_p108 : lw_okq (⟨"WordsUnsaid$Fleet", "countBoats", "(I)I"⟩, 3) := ⟨⟨by decide +kernel, by decide +kernel⟩, List.mem_of_getElem? (i := 381) (by decide +kernel), List.mem_of_getElem? (i := 1075) (by decide +kernel), List.mem_of_getElem? (i := 1076) (by decide +kernel)⟩
theorem lw_p109 : lw_okq (⟨"WordsUnsaid$Fleet", "tellBoats", "(ILWordsUnsaid$Tale;)V"⟩, 3) := ⟨⟨by decide +kernel, by decide +kernel⟩, List.mem_of_getElem? (i := 381) (by decide +kernel), List.mem_of_getElem? (i := 1085) (by decide +kernel), List.mem_of_getElem? (i := 1086) (by decide +kernel)⟩
theorem lw_p110 : lw_okq (⟨"WordsUnsaid$Fleet", "firstPartner", "(II)I"⟩, 3) := ⟨⟨by decide +kernel, by decide +kernel⟩, List.mem_of_getElem? (i := 381) (by decide +kernel), List.mem_of_getElem? (i := 1089) (by decide +kernel), List.mem_of_getElem? (i := 1090) (by decide +kernel)⟩
theorem lw_p111 : lw_okq (⟨"WordsUnsaid$River", "hasPlace", "(I)Z"⟩, 4) := ⟨⟨by decide +kernel, by decide +kernel⟩, List.mem_of_getElem? (i := 124) (by decide +kernel), List.mem_of_getElem? (i := 1103) (by decide +kernel), List.mem_of_getElem? (i := 1104) (by decide +kernel)⟩
def lw_privs_7 : List (MethodName × Nat) := [(⟨"WordsUnsaid$Walk", "copyToBest", "()V"⟩, 13), (⟨"WordsUnsaid$Walk", "tellBest", "(LWordsUnsaid$Tale;I)V"⟩, 13), (⟨"WordsUnsaid$Walk", "isBurst", "()Z"⟩, 13), (⟨"WordsUnsaid$Walk", "leaveTo", "(LWordsUnsaid$Walk;)V"⟩, 13), (⟨"WordsUnsaid", "tellBothWays", "(I)V"⟩, 12), (⟨"WordsUnsaid$Walk", "tellRow", "(LWordsUnsaid$Tale;)V"⟩, 13), (⟨"WordsUnsaid$House", "unsaidOf", "(I)I"⟩, 14), (⟨"WordsUnsaid$House", "wordsLeft", "(I)I"⟩, 14), (⟨"WordsUnsaid$Crossing", "oddsOfTen", "(III)I"⟩, 14), (⟨"WordsUnsaid$House", "placeOfAll", "(I)I"⟩, 14), (⟨"WordsUnsaid$Fleet", "clear", "()V"⟩, 3), (⟨"WordsUnsaid$Fleet", "pair", "(IIZ)V"⟩, 3), (⟨"WordsUnsaid$Fleet", "countBoats", "(I)I"⟩, 3), (⟨"WordsUnsaid$Fleet", "tellBoats", "(ILWordsUnsaid$Tale;)V"⟩, 3), (⟨"WordsUnsaid$Fleet", "firstPartner", "(II)I"⟩, 3), (⟨"WordsUnsaid$River", "hasPlace", "(I)Z"⟩, 4)]
theorem lw_r7 : ∀ q ∈ lw_privs_7, lw_okq q := List.forall_mem_cons.mpr ⟨lw_p96, List.forall_mem_cons.mpr ⟨lw_p97, List.forall_mem_cons.mpr ⟨lw_p98, List.forall_mem_cons.mpr ⟨lw_p99, List.forall_mem_cons.mpr ⟨lw_p100, List.forall_mem_cons.mpr ⟨lw_p101, List.forall_mem_cons.mpr ⟨lw_p102, List.forall_mem_cons.mpr ⟨lw_p103, List.forall_mem_cons.mpr ⟨lw_p104, List.forall_mem_cons.mpr ⟨lw_p105, List.forall_mem_cons.mpr ⟨lw_p106, List.forall_mem_cons.mpr ⟨lw_p107, List.forall_mem_cons.mpr ⟨lw_p108, List.forall_mem_cons.mpr ⟨lw_p109, List.forall_mem_cons.mpr ⟨lw_p110, List.forall_mem_cons.mpr ⟨lw_p111, fun _ h => absurd h List.not_mem_nil⟩⟩⟩⟩⟩⟩⟩⟩⟩⟩⟩⟩⟩⟩⟩⟩
theorem lw_p112 : lw_okq (⟨"WordsUnsaid$House", "knownBy", "(I)I"⟩, 14) := ⟨⟨by decide +kernel, by decide +kernel⟩, List.mem_of_getElem? (i := 55) (by decide +kernel), List.mem_of_getElem? (i := 1108) (by decide +kernel), List.mem_of_getElem? (i := 1109) (by decide +kernel)⟩
theorem lw_p113 : lw_okq (⟨"WordsUnsaid$House", "knownAt", "(I)I"⟩, 14) := ⟨⟨by decide +kernel, by decide +kernel⟩, List.mem_of_getElem? (i := 55) (by decide +kernel), List.mem_of_getElem? (i := 1123) (by decide +kernel), List.mem_of_getElem? (i := 1124) (by decide +kernel)⟩
theorem lw_p114 : lw_okq (⟨"WordsUnsaid$House", "knowersOfThingsAbout", "(I)I"⟩, 14) := ⟨⟨by decide +kernel, by decide +kernel⟩, List.mem_of_getElem? (i := 55) (by decide +kernel), List.mem_of_getElem? (i := 1131) (by decide +kernel), List.mem_of_getElem? (i := 1132) (by decide +kernel)⟩
theorem lw_p115 : lw_okq (⟨"WordsUnsaid", "leavesBank", "(I)Z"⟩, 12) := ⟨⟨by decide +kernel, by decide +kernel⟩, List.mem_of_getElem? (i := 20) (by decide +kernel), List.mem_of_getElem? (i := 1140) (by decide +kernel), List.mem_of_getElem? (i := 1141) (by decide +kernel)⟩
theorem lw_p116 : lw_okq (⟨"WordsUnsaid", "endsOn", "(I)Z"⟩, 12) := ⟨⟨by decide +kernel, by decide +kernel⟩, List.mem_of_getElem? (i := 20) (by decide +kernel), List.mem_of_getElem? (i := 1144) (by decide +kernel), List.mem_of_getElem? (i := 1145) (by decide +kernel)⟩
theorem lw_p117 : lw_okq (⟨"WordsUnsaid$Walk", "clearCounts", "()V"⟩, 13) := ⟨⟨by decide +kernel, by decide +kernel⟩, List.mem_of_getElem? (i := 264) (by decide +kernel), List.mem_of_getElem? (i := 1154) (by decide +kernel), List.mem_of_getElem? (i := 1155) (by decide +kernel)⟩
theorem lw_p118 : lw_okq (⟨"WordsUnsaid$Walk", "countSaid", "()V"⟩, 13) := ⟨⟨by decide +kernel, by decide +kernel⟩, List.mem_of_getElem? (i := 264) (by decide +kernel), List.mem_of_getElem? (i := 1158) (by decide +kernel), List.mem_of_getElem? (i := 1159) (by decide +kernel)⟩
theorem lw_p119 : lw_okq (⟨"WordsUnsaid$Walk", "tellCounts", "(LWordsUnsaid$Tale;)I"⟩, 13) := ⟨⟨by decide +kernel, by decide +kernel⟩, List.mem_of_getElem? (i := 264) (by decide +kernel), List.mem_of_getElem? (i := 1162) (by decide +kernel), List.mem_of_getElem? (i := 1163) (by decide +kernel)⟩
theorem lw_p120 : lw_okq (⟨"WordsUnsaid", "draw", "(I)I"⟩, 12) := ⟨⟨by decide +kernel, by decide +kernel⟩, List.mem_of_getElem? (i := 20) (by decide +kernel), List.mem_of_getElem? (i := 1177) (by decide +kernel), List.mem_of_getElem? (i := 1178) (by decide +kernel)⟩
theorem lw_p121 : lw_okq (⟨"WordsUnsaid", "crossesBy", "(II)Z"⟩, 12) := ⟨⟨by decide +kernel, by decide +kernel⟩, List.mem_of_getElem? (i := 20) (by decide +kernel), List.mem_of_getElem? (i := 1182) (by decide +kernel), List.mem_of_getElem? (i := 1183) (by decide +kernel)⟩
theorem lw_p122 : lw_okq (⟨"WordsUnsaid$House", "saidThings", "()I"⟩, 14) := ⟨⟨by decide +kernel, by decide +kernel⟩, List.mem_of_getElem? (i := 55) (by decide +kernel), List.mem_of_getElem? (i := 1186) (by decide +kernel), List.mem_of_getElem? (i := 1187) (by decide +kernel)⟩
theorem lw_p123 : lw_okq (⟨"WordsUnsaid$Memory", "unstage", "(LWordsUnsaid$House;)V"⟩, 4) := ⟨⟨by decide +kernel, by decide +kernel⟩, List.mem_of_getElem? (i := 311) (by decide +kernel), List.mem_of_getElem? (i := 1190) (by decide +kernel), List.mem_of_getElem? (i := 1191) (by decide +kernel)⟩
theorem lw_p124 : lw_okq (⟨"WordsUnsaid$Memory", "keepUnder", "(ILWordsUnsaid$House;)Z"⟩, 4) := ⟨⟨by decide +kernel, by decide +kernel⟩, List.mem_of_getElem? (i := 311) (by decide +kernel), List.mem_of_getElem? (i := 1198) (by decide +kernel), List.mem_of_getElem? (i := 1199) (by decide +kernel)⟩
theorem lw_p125 : lw_okq (⟨"WordsUnsaid$Memory", "bringBack", "(ILWordsUnsaid$House;)Z"⟩, 4) := ⟨⟨by decide +kernel, by decide +kernel⟩, List.mem_of_getElem? (i := 311) (by decide +kernel), List.mem_of_getElem? (i := 1206) (by decide +kernel), List.mem_of_getElem? (i := 1207) (by decide +kernel)⟩
theorem lw_p126 : lw_okq (⟨"java/lang/Throwable", "fillInStackTrace", "(I)Ljava/lang/Throwable;"⟩, 6) := ⟨⟨by decide +kernel, by decide +kernel⟩, List.mem_of_getElem? (i := 1259) (by decide +kernel), List.mem_of_getElem? (i := 1257) (by decide +kernel), List.mem_of_getElem? (i := 1258) (by decide +kernel)⟩
theorem lw_p127 : lw_okq (⟨"WordsUnsaid$House", "thingsOf", "(I)I"⟩, 14) := ⟨⟨by decide +kernel, by decide +kernel⟩, List.mem_of_getElem? (i := 55) (by decide +kernel), List.mem_of_getElem? (i := 1289) (by decide +kernel), List.mem_of_getElem? (i := 1290) (by decide +kernel)⟩
def lw_privs_8 : List (MethodName × Nat) := [(⟨"WordsUnsaid$House", "knownBy", "(I)I"⟩, 14), (⟨"WordsUnsaid$House", "knownAt", "(I)I"⟩, 14), (⟨"WordsUnsaid$House", "knowersOfThingsAbout", "(I)I"⟩, 14), (⟨"WordsUnsaid", "leavesBank", "(I)Z"⟩, 12), (⟨"WordsUnsaid", "endsOn", "(I)Z"⟩, 12), (⟨"WordsUnsaid$Walk", "clearCounts", "()V"⟩, 13), (⟨"WordsUnsaid$Walk", "countSaid", "()V"⟩, 13), (⟨"WordsUnsaid$Walk", "tellCounts", "(LWordsUnsaid$Tale;)I"⟩, 13), (⟨"WordsUnsaid", "draw", "(I)I"⟩, 12), (⟨"WordsUnsaid", "crossesBy", "(II)Z"⟩, 12), (⟨"WordsUnsaid$House", "saidThings", "()I"⟩, 14), (⟨"WordsUnsaid$Memory", "unstage", "(LWordsUnsaid$House;)V"⟩, 4), (⟨"WordsUnsaid$Memory", "keepUnder", "(ILWordsUnsaid$House;)Z"⟩, 4), (⟨"WordsUnsaid$Memory", "bringBack", "(ILWordsUnsaid$House;)Z"⟩, 4), (⟨"java/lang/Throwable", "fillInStackTrace", "(I)Ljava/lang/Throwable;"⟩, 6), (⟨"WordsUnsaid$House", "thingsOf", "(I)I"⟩, 14)]
theorem lw_r8 : ∀ q ∈ lw_privs_8, lw_okq q := List.forall_mem_cons.mpr ⟨lw_p112, List.forall_mem_cons.mpr ⟨lw_p113, List.forall_mem_cons.mpr ⟨lw_p114, List.forall_mem_cons.mpr ⟨lw_p115, List.forall_mem_cons.mpr ⟨lw_p116, List.forall_mem_cons.mpr ⟨lw_p117, List.forall_mem_cons.mpr ⟨lw_p118, List.forall_mem_cons.mpr ⟨lw_p119, List.forall_mem_cons.mpr ⟨lw_p120, List.forall_mem_cons.mpr ⟨lw_p121, List.forall_mem_cons.mpr ⟨lw_p122, List.forall_mem_cons.mpr ⟨lw_p123, List.forall_mem_cons.mpr ⟨lw_p124, List.forall_mem_cons.mpr ⟨lw_p125, List.forall_mem_cons.mpr ⟨lw_p126, List.forall_mem_cons.mpr ⟨lw_p127, fun _ h => absurd h List.not_mem_nil⟩⟩⟩⟩⟩⟩⟩⟩⟩⟩⟩⟩⟩⟩⟩⟩
theorem lw_p128 : lw_okq (⟨"WordsUnsaidModel", "begin", "([BII)V"⟩, 64) := ⟨⟨by decide +kernel, by decide +kernel⟩, List.mem_of_getElem? (i := 1312) (by decide +kernel), List.mem_of_getElem? (i := 1530) (by decide +kernel), List.mem_of_getElem? (i := 1531) (by decide +kernel)⟩
theorem lw_p129 : lw_okq (⟨"WordsUnsaidModel", "number", "(II)I"⟩, 64) := ⟨⟨by decide +kernel, by decide +kernel⟩, List.mem_of_getElem? (i := 1312) (by decide +kernel), List.mem_of_getElem? (i := 1534) (by decide +kernel), List.mem_of_getElem? (i := 1535) (by decide +kernel)⟩
theorem lw_p130 : lw_okq (⟨"WordsUnsaidModel", "number", "(I)I"⟩, 64) := ⟨⟨by decide +kernel, by decide +kernel⟩, List.mem_of_getElem? (i := 1312) (by decide +kernel), List.mem_of_getElem? (i := 1538) (by decide +kernel), List.mem_of_getElem? (i := 1539) (by decide +kernel)⟩
theorem lw_p131 : lw_okq (⟨"WordsUnsaidModel", "digit", "(II)I"⟩, 64) := ⟨⟨by decide +kernel, by decide +kernel⟩, List.mem_of_getElem? (i := 1312) (by decide +kernel), List.mem_of_getElem? (i := 1542) (by decide +kernel), List.mem_of_getElem? (i := 1543) (by decide +kernel)⟩
theorem lw_p132 : lw_okq (⟨"WordsUnsaidModel", "fine", "()Z"⟩, 64) := ⟨⟨by decide +kernel, by decide +kernel⟩, List.mem_of_getElem? (i := 1312) (by decide +kernel), List.mem_of_getElem? (i := 1546) (by decide +kernel), List.mem_of_getElem? (i := 1547) (by decide +kernel)⟩
theorem lw_p133 : lw_okq (⟨"WordsUnsaidModel", "here", "()I"⟩, 64) := ⟨⟨by decide +kernel, by decide +kernel⟩, List.mem_of_getElem? (i := 1312) (by decide +kernel), List.mem_of_getElem? (i := 1550) (by decide +kernel), List.mem_of_getElem? (i := 1551) (by decide +kernel)⟩
theorem lw_p134 : lw_okq (⟨"WordsUnsaidModel", "fault", "(I)V"⟩, 64) := ⟨⟨by decide +kernel, by decide +kernel⟩, List.mem_of_getElem? (i := 1312) (by decide +kernel), List.mem_of_getElem? (i := 1554) (by decide +kernel), List.mem_of_getElem? (i := 1555) (by decide +kernel)⟩
theorem lw_p135 : lw_okq (⟨"WordsUnsaidModel", "readLine", "()V"⟩, 64) := ⟨⟨by decide +kernel, by decide +kernel⟩, List.mem_of_getElem? (i := 1312) (by decide +kernel), List.mem_of_getElem? (i := 1562) (by decide +kernel), List.mem_of_getElem? (i := 1563) (by decide +kernel)⟩
theorem lw_p136 : lw_okq (⟨"WordsUnsaidModel", "passes", "(C)Z"⟩, 64) := ⟨⟨by decide +kernel, by decide +kernel⟩, List.mem_of_getElem? (i := 1312) (by decide +kernel), List.mem_of_getElem? (i := 1566) (by decide +kernel), List.mem_of_getElem? (i := 1567) (by decide +kernel)⟩
theorem lw_p137 : lw_okq (⟨"WordsUnsaidModel", "letter", "(CII)I"⟩, 64) := ⟨⟨by decide +kernel, by decide +kernel⟩, List.mem_of_getElem? (i := 1312) (by decide +kernel), List.mem_of_getElem? (i := 1570) (by decide +kernel), List.mem_of_getElem? (i := 1571) (by decide +kernel)⟩
theorem lw_p138 : lw_okq (⟨"WordsUnsaidModel", "need", "(C)V"⟩, 64) := ⟨⟨by decide +kernel, by decide +kernel⟩, List.mem_of_getElem? (i := 1312) (by decide +kernel), List.mem_of_getElem? (i := 1574) (by decide +kernel), List.mem_of_getElem? (i := 1575) (by decide +kernel)⟩
theorem lw_p139 : lw_okq (⟨"WordsUnsaidModel", "held", "(I)I"⟩, 64) := ⟨⟨by decide +kernel, by decide +kernel⟩, List.mem_of_getElem? (i := 1312) (by decide +kernel), List.mem_of_getElem? (i := 1582) (by decide +kernel), List.mem_of_getElem? (i := 1583) (by decide +kernel)⟩
theorem lw_p140 : lw_okq (⟨"WordsUnsaidModel", "sum", "(I)I"⟩, 64) := ⟨⟨by decide +kernel, by decide +kernel⟩, List.mem_of_getElem? (i := 1312) (by decide +kernel), List.mem_of_getElem? (i := 1586) (by decide +kernel), List.mem_of_getElem? (i := 1587) (by decide +kernel)⟩
theorem lw_p141 : lw_okq (⟨"WordsUnsaidModel", "product", "(I)I"⟩, 64) := ⟨⟨by decide +kernel, by decide +kernel⟩, List.mem_of_getElem? (i := 1312) (by decide +kernel), List.mem_of_getElem? (i := 1590) (by decide +kernel), List.mem_of_getElem? (i := 1591) (by decide +kernel)⟩
theorem lw_p142 : lw_okq (⟨"WordsUnsaidModel", "factor", "(I)I"⟩, 64) := ⟨⟨by decide +kernel, by decide +kernel⟩, List.mem_of_getElem? (i := 1312) (by decide +kernel), List.mem_of_getElem? (i := 1594) (by decide +kernel), List.mem_of_getElem? (i := 1595) (by decide +kernel)⟩
theorem lw_p143 : lw_okq (⟨"WordsUnsaidModel", "isPerson", "(I)Z"⟩, 64) := ⟨⟨by decide +kernel, by decide +kernel⟩, List.mem_of_getElem? (i := 1312) (by decide +kernel), List.mem_of_getElem? (i := 1605) (by decide +kernel), List.mem_of_getElem? (i := 1606) (by decide +kernel)⟩
def lw_privs_9 : List (MethodName × Nat) := [(⟨"WordsUnsaidModel", "begin", "([BII)V"⟩, 64), (⟨"WordsUnsaidModel", "number", "(II)I"⟩, 64), (⟨"WordsUnsaidModel", "number", "(I)I"⟩, 64), (⟨"WordsUnsaidModel", "digit", "(II)I"⟩, 64), (⟨"WordsUnsaidModel", "fine", "()Z"⟩, 64), (⟨"WordsUnsaidModel", "here", "()I"⟩, 64), (⟨"WordsUnsaidModel", "fault", "(I)V"⟩, 64), (⟨"WordsUnsaidModel", "readLine", "()V"⟩, 64), (⟨"WordsUnsaidModel", "passes", "(C)Z"⟩, 64), (⟨"WordsUnsaidModel", "letter", "(CII)I"⟩, 64), (⟨"WordsUnsaidModel", "need", "(C)V"⟩, 64), (⟨"WordsUnsaidModel", "held", "(I)I"⟩, 64), (⟨"WordsUnsaidModel", "sum", "(I)I"⟩, 64), (⟨"WordsUnsaidModel", "product", "(I)I"⟩, 64), (⟨"WordsUnsaidModel", "factor", "(I)I"⟩, 64), (⟨"WordsUnsaidModel", "isPerson", "(I)Z"⟩, 64)]
theorem lw_r9 : ∀ q ∈ lw_privs_9, lw_okq q := List.forall_mem_cons.mpr ⟨lw_p128, List.forall_mem_cons.mpr ⟨lw_p129, List.forall_mem_cons.mpr ⟨lw_p130, List.forall_mem_cons.mpr ⟨lw_p131, List.forall_mem_cons.mpr ⟨lw_p132, List.forall_mem_cons.mpr ⟨lw_p133, List.forall_mem_cons.mpr ⟨lw_p134, List.forall_mem_cons.mpr ⟨lw_p135, List.forall_mem_cons.mpr ⟨lw_p136, List.forall_mem_cons.mpr ⟨lw_p137, List.forall_mem_cons.mpr ⟨lw_p138, List.forall_mem_cons.mpr ⟨lw_p139, List.forall_mem_cons.mpr ⟨lw_p140, List.forall_mem_cons.mpr ⟨lw_p141, List.forall_mem_cons.mpr ⟨lw_p142, List.forall_mem_cons.mpr ⟨lw_p143, fun _ h => absurd h List.not_mem_nil⟩⟩⟩⟩⟩⟩⟩⟩⟩⟩⟩⟩⟩⟩⟩⟩
theorem lw_p144 : lw_okq (⟨"WordsUnsaidModel", "lost", "()I"⟩, 64) := ⟨⟨by decide +kernel, by decide +kernel⟩, List.mem_of_getElem? (i := 1312) (by decide +kernel), List.mem_of_getElem? (i := 1609) (by decide +kernel), List.mem_of_getElem? (i := 1610) (by decide +kernel)⟩
theorem lw_p145 : lw_okq (⟨"WordsUnsaidModel", "thingsOf", "([II)I"⟩, 64) := ⟨⟨by decide +kernel, by decide +kernel⟩, List.mem_of_getElem? (i := 1312) (by decide +kernel), List.mem_of_getElem? (i := 1613) (by decide +kernel), List.mem_of_getElem? (i := 1614) (by decide +kernel)⟩
theorem lw_p146 : lw_okq (⟨"WordsUnsaidModel", "knownBy", "(I)I"⟩, 64) := ⟨⟨by decide +kernel, by decide +kernel⟩, List.mem_of_getElem? (i := 1312) (by decide +kernel), List.mem_of_getElem? (i := 1617) (by decide +kernel), List.mem_of_getElem? (i := 1618) (by decide +kernel)⟩
theorem lw_p147 : lw_okq (⟨"WordsUnsaidModel", "unsaid", "([II)I"⟩, 64) := ⟨⟨by decide +kernel, by decide +kernel⟩, List.mem_of_getElem? (i := 1312) (by decide +kernel), List.mem_of_getElem? (i := 1624) (by decide +kernel), List.mem_of_getElem? (i := 1625) (by decide +kernel)⟩
theorem lw_p148 : lw_okq (⟨"WordsUnsaidModel", "saidOnes", "([I)I"⟩, 64) := ⟨⟨by decide +kernel, by decide +kernel⟩, List.mem_of_getElem? (i := 1312) (by decide +kernel), List.mem_of_getElem? (i := 1628) (by decide +kernel), List.mem_of_getElem? (i := 1629) (by decide +kernel)⟩
theorem lw_p149 : lw_okq (⟨"WordsUnsaidModel", "isThing", "(I)Z"⟩, 64) := ⟨⟨by decide +kernel, by decide +kernel⟩, List.mem_of_getElem? (i := 1312) (by decide +kernel), List.mem_of_getElem? (i := 1639) (by decide +kernel), List.mem_of_getElem? (i := 1640) (by decide +kernel)⟩
theorem lw_p150 : lw_okq (⟨"WordsUnsaidModel", "aboardOf", "(III)I"⟩, 64) := ⟨⟨by decide +kernel, by decide +kernel⟩, List.mem_of_getElem? (i := 1312) (by decide +kernel), List.mem_of_getElem? (i := 1661) (by decide +kernel), List.mem_of_getElem? (i := 1662) (by decide +kernel)⟩
theorem lw_p151 : lw_okq (⟨"WordsUnsaidModel", "areTwo", "(II)Z"⟩, 64) := ⟨⟨by decide +kernel, by decide +kernel⟩, List.mem_of_getElem? (i := 1312) (by decide +kernel), List.mem_of_getElem? (i := 1665) (by decide +kernel), List.mem_of_getElem? (i := 1666) (by decide +kernel)⟩
theorem lw_p152 : lw_okq (⟨"WordsUnsaidModel", "readLine0", "(III)I"⟩, 64) := ⟨⟨by decide +kernel, by decide +kernel⟩, List.mem_of_getElem? (i := 1312) (by decide +kernel), List.mem_of_getElem? (i := 1672) (by decide +kernel), List.mem_of_getElem? (i := 1673) (by decide +kernel)⟩
theorem lw_p153 : lw_okq (⟨"WordsUnsaidModel", "canLine", "([III)Z"⟩, 64) := ⟨⟨by decide +kernel, by decide +kernel⟩, List.mem_of_getElem? (i := 1312) (by decide +kernel), List.mem_of_getElem? (i := 1676) (by decide +kernel), List.mem_of_getElem? (i := 1677) (by decide +kernel)⟩
theorem lw_p154 : lw_okq (⟨"WordsUnsaidModel", "wordsIn", "([I)I"⟩, 64) := ⟨⟨by decide +kernel, by decide +kernel⟩, List.mem_of_getElem? (i := 1312) (by decide +kernel), List.mem_of_getElem? (i := 1680) (by decide +kernel), List.mem_of_getElem? (i := 1681) (by decide +kernel)⟩
theorem lw_p155 : lw_okq (⟨"WordsUnsaidModel", "distance", "(II)I"⟩, 64) := ⟨⟨by decide +kernel, by decide +kernel⟩, List.mem_of_getElem? (i := 1312) (by decide +kernel), List.mem_of_getElem? (i := 1684) (by decide +kernel), List.mem_of_getElem? (i := 1685) (by decide +kernel)⟩
theorem lw_p156 : lw_okq (⟨"WordsUnsaidModel", "yardOf", "(I)I"⟩, 64) := ⟨⟨by decide +kernel, by decide +kernel⟩, List.mem_of_getElem? (i := 1312) (by decide +kernel), List.mem_of_getElem? (i := 1688) (by decide +kernel), List.mem_of_getElem? (i := 1689) (by decide +kernel)⟩
theorem lw_p157 : lw_okq (⟨"WordsUnsaidModel", "remember", "([I)V"⟩, 64) := ⟨⟨by decide +kernel, by decide +kernel⟩, List.mem_of_getElem? (i := 1312) (by decide +kernel), List.mem_of_getElem? (i := 1695) (by decide +kernel), List.mem_of_getElem? (i := 1696) (by decide +kernel)⟩
theorem lw_p158 : lw_okq (⟨"WordsUnsaidModel", "goes", "([IIII)Z"⟩, 64) := ⟨⟨by decide +kernel, by decide +kernel⟩, List.mem_of_getElem? (i := 1312) (by decide +kernel), List.mem_of_getElem? (i := 1702) (by decide +kernel), List.mem_of_getElem? (i := 1703) (by decide +kernel)⟩
theorem lw_p159 : lw_okq (⟨"WordsUnsaidModel", "pressureOf", "([IIIII)I"⟩, 64) := ⟨⟨by decide +kernel, by decide +kernel⟩, List.mem_of_getElem? (i := 1312) (by decide +kernel), List.mem_of_getElem? (i := 1706) (by decide +kernel), List.mem_of_getElem? (i := 1707) (by decide +kernel)⟩
def lw_privs_10 : List (MethodName × Nat) := [(⟨"WordsUnsaidModel", "lost", "()I"⟩, 64), (⟨"WordsUnsaidModel", "thingsOf", "([II)I"⟩, 64), (⟨"WordsUnsaidModel", "knownBy", "(I)I"⟩, 64), (⟨"WordsUnsaidModel", "unsaid", "([II)I"⟩, 64), (⟨"WordsUnsaidModel", "saidOnes", "([I)I"⟩, 64), (⟨"WordsUnsaidModel", "isThing", "(I)Z"⟩, 64), (⟨"WordsUnsaidModel", "aboardOf", "(III)I"⟩, 64), (⟨"WordsUnsaidModel", "areTwo", "(II)Z"⟩, 64), (⟨"WordsUnsaidModel", "readLine0", "(III)I"⟩, 64), (⟨"WordsUnsaidModel", "canLine", "([III)Z"⟩, 64), (⟨"WordsUnsaidModel", "wordsIn", "([I)I"⟩, 64), (⟨"WordsUnsaidModel", "distance", "(II)I"⟩, 64), (⟨"WordsUnsaidModel", "yardOf", "(I)I"⟩, 64), (⟨"WordsUnsaidModel", "remember", "([I)V"⟩, 64), (⟨"WordsUnsaidModel", "goes", "([IIII)Z"⟩, 64), (⟨"WordsUnsaidModel", "pressureOf", "([IIIII)I"⟩, 64)]
theorem lw_r10 : ∀ q ∈ lw_privs_10, lw_okq q := List.forall_mem_cons.mpr ⟨lw_p144, List.forall_mem_cons.mpr ⟨lw_p145, List.forall_mem_cons.mpr ⟨lw_p146, List.forall_mem_cons.mpr ⟨lw_p147, List.forall_mem_cons.mpr ⟨lw_p148, List.forall_mem_cons.mpr ⟨lw_p149, List.forall_mem_cons.mpr ⟨lw_p150, List.forall_mem_cons.mpr ⟨lw_p151, List.forall_mem_cons.mpr ⟨lw_p152, List.forall_mem_cons.mpr ⟨lw_p153, List.forall_mem_cons.mpr ⟨lw_p154, List.forall_mem_cons.mpr ⟨lw_p155, List.forall_mem_cons.mpr ⟨lw_p156, List.forall_mem_cons.mpr ⟨lw_p157, List.forall_mem_cons.mpr ⟨lw_p158, List.forall_mem_cons.mpr ⟨lw_p159, fun _ h => absurd h List.not_mem_nil⟩⟩⟩⟩⟩⟩⟩⟩⟩⟩⟩⟩⟩⟩⟩⟩
theorem lw_p160 : lw_okq (⟨"WordsUnsaidModel", "stranded", "(II)I"⟩, 64) := ⟨⟨by decide +kernel, by decide +kernel⟩, List.mem_of_getElem? (i := 1312) (by decide +kernel), List.mem_of_getElem? (i := 1711) (by decide +kernel), List.mem_of_getElem? (i := 1712) (by decide +kernel)⟩
theorem lw_p161 : lw_okq (⟨"WordsUnsaidModel", "put", "([III)V"⟩, 64) := ⟨⟨by decide +kernel, by decide +kernel⟩, List.mem_of_getElem? (i := 1312) (by decide +kernel), List.mem_of_getElem? (i := 1716) (by decide +kernel), List.mem_of_getElem? (i := 1717) (by decide +kernel)⟩
theorem lw_p162 : lw_okq (⟨"WordsUnsaidModel", "tellCross", "([II)V"⟩, 64) := ⟨⟨by decide +kernel, by decide +kernel⟩, List.mem_of_getElem? (i := 1312) (by decide +kernel), List.mem_of_getElem? (i := 1720) (by decide +kernel), List.mem_of_getElem? (i := 1721) (by decide +kernel)⟩
theorem lw_p163 : lw_okq (⟨"WordsUnsaidModel", "tell", "(I)V"⟩, 64) := ⟨⟨by decide +kernel, by decide +kernel⟩, List.mem_of_getElem? (i := 1312) (by decide +kernel), List.mem_of_getElem? (i := 1724) (by decide +kernel), List.mem_of_getElem? (i := 1725) (by decide +kernel)⟩
theorem lw_p164 : lw_okq (⟨"WordsUnsaidModel", "refusesSay", "(II)I"⟩, 64) := ⟨⟨by decide +kernel, by decide +kernel⟩, List.mem_of_getElem? (i := 1312) (by decide +kernel), List.mem_of_getElem? (i := 1736) (by decide +kernel), List.mem_of_getElem? (i := 1737) (by decide +kernel)⟩
theorem lw_p165 : lw_okq (⟨"WordsUnsaidModel", "goSay", "(II)I"⟩, 64) := ⟨⟨by decide +kernel, by decide +kernel⟩, List.mem_of_getElem? (i := 1312) (by decide +kernel), List.mem_of_getElem? (i := 1740) (by decide +kernel), List.mem_of_getElem? (i := 1741) (by decide +kernel)⟩
theorem lw_p166 : lw_okq (⟨"WordsUnsaidModel", "peopleAt", "(I)I"⟩, 64) := ⟨⟨by decide +kernel, by decide +kernel⟩, List.mem_of_getElem? (i := 1312) (by decide +kernel), List.mem_of_getElem? (i := 1744) (by decide +kernel), List.mem_of_getElem? (i := 1745) (by decide +kernel)⟩
theorem lw_p167 : lw_okq (⟨"WordsUnsaidModel", "refusesWhisper", "(III)I"⟩, 64) := ⟨⟨by decide +kernel, by decide +kernel⟩, List.mem_of_getElem? (i := 1312) (by decide +kernel), List.mem_of_getElem? (i := 1752) (by decide +kernel), List.mem_of_getElem? (i := 1753) (by decide +kernel)⟩
theorem lw_p168 : lw_okq (⟨"WordsUnsaidModel", "goWhisper", "(II)I"⟩, 64) := ⟨⟨by decide +kernel, by decide +kernel⟩, List.mem_of_getElem? (i := 1312) (by decide +kernel), List.mem_of_getElem? (i := 1756) (by decide +kernel), List.mem_of_getElem? (i := 1757) (by decide +kernel)⟩
theorem lw_p169 : lw_okq (⟨"WordsUnsaidModel", "refusesSell", "(III)I"⟩, 64) := ⟨⟨by decide +kernel, by decide +kernel⟩, List.mem_of_getElem? (i := 1312) (by decide +kernel), List.mem_of_getElem? (i := 1764) (by decide +kernel), List.mem_of_getElem? (i := 1765) (by decide +kernel)⟩
theorem lw_p170 : lw_okq (⟨"WordsUnsaidModel", "priceOf", "(I)I"⟩, 64) := ⟨⟨by decide +kernel, by decide +kernel⟩, List.mem_of_getElem? (i := 1312) (by decide +kernel), List.mem_of_getElem? (i := 1768) (by decide +kernel), List.mem_of_getElem? (i := 1769) (by decide +kernel)⟩
theorem lw_p171 : lw_okq (⟨"WordsUnsaidModel", "goSell", "(III)I"⟩, 64) := ⟨⟨by decide +kernel, by decide +kernel⟩, List.mem_of_getElem? (i := 1312) (by decide +kernel), List.mem_of_getElem? (i := 1772) (by decide +kernel), List.mem_of_getElem? (i := 1773) (by decide +kernel)⟩
theorem lw_p172 : lw_okq (⟨"WordsUnsaidModel", "readAct", "(I)V"⟩, 64) := ⟨⟨by decide +kernel, by decide +kernel⟩, List.mem_of_getElem? (i := 1312) (by decide +kernel), List.mem_of_getElem? (i := 1780) (by decide +kernel), List.mem_of_getElem? (i := 1781) (by decide +kernel)⟩
theorem lw_p173 : lw_okq (⟨"WordsUnsaidModel", "act", "(I)Z"⟩, 64) := ⟨⟨by decide +kernel, by decide +kernel⟩, List.mem_of_getElem? (i := 1312) (by decide +kernel), List.mem_of_getElem? (i := 1784) (by decide +kernel), List.mem_of_getElem? (i := 1785) (by decide +kernel)⟩
theorem lw_p174 : lw_okq (⟨"WordsUnsaidModel", "actCross", "(IIII)Z"⟩, 64) := ⟨⟨by decide +kernel, by decide +kernel⟩, List.mem_of_getElem? (i := 1312) (by decide +kernel), List.mem_of_getElem? (i := 1788) (by decide +kernel), List.mem_of_getElem? (i := 1789) (by decide +kernel)⟩
theorem lw_p175 : lw_okq (⟨"WordsUnsaidModel", "canGo", "(II)Z"⟩, 64) := ⟨⟨by decide +kernel, by decide +kernel⟩, List.mem_of_getElem? (i := 1312) (by decide +kernel), List.mem_of_getElem? (i := 1808) (by decide +kernel), List.mem_of_getElem? (i := 1809) (by decide +kernel)⟩
def lw_privs_11 : List (MethodName × Nat) := [(⟨"WordsUnsaidModel", "stranded", "(II)I"⟩, 64), (⟨"WordsUnsaidModel", "put", "([III)V"⟩, 64), (⟨"WordsUnsaidModel", "tellCross", "([II)V"⟩, 64), (⟨"WordsUnsaidModel", "tell", "(I)V"⟩, 64), (⟨"WordsUnsaidModel", "refusesSay", "(II)I"⟩, 64), (⟨"WordsUnsaidModel", "goSay", "(II)I"⟩, 64), (⟨"WordsUnsaidModel", "peopleAt", "(I)I"⟩, 64), (⟨"WordsUnsaidModel", "refusesWhisper", "(III)I"⟩, 64), (⟨"WordsUnsaidModel", "goWhisper", "(II)I"⟩, 64), (⟨"WordsUnsaidModel", "refusesSell", "(III)I"⟩, 64), (⟨"WordsUnsaidModel", "priceOf", "(I)I"⟩, 64), (⟨"WordsUnsaidModel", "goSell", "(III)I"⟩, 64), (⟨"WordsUnsaidModel", "readAct", "(I)V"⟩, 64), (⟨"WordsUnsaidModel", "act", "(I)Z"⟩, 64), (⟨"WordsUnsaidModel", "actCross", "(IIII)Z"⟩, 64), (⟨"WordsUnsaidModel", "canGo", "(II)Z"⟩, 64)]
theorem lw_r11 : ∀ q ∈ lw_privs_11, lw_okq q := List.forall_mem_cons.mpr ⟨lw_p160, List.forall_mem_cons.mpr ⟨lw_p161, List.forall_mem_cons.mpr ⟨lw_p162, List.forall_mem_cons.mpr ⟨lw_p163, List.forall_mem_cons.mpr ⟨lw_p164, List.forall_mem_cons.mpr ⟨lw_p165, List.forall_mem_cons.mpr ⟨lw_p166, List.forall_mem_cons.mpr ⟨lw_p167, List.forall_mem_cons.mpr ⟨lw_p168, List.forall_mem_cons.mpr ⟨lw_p169, List.forall_mem_cons.mpr ⟨lw_p170, List.forall_mem_cons.mpr ⟨lw_p171, List.forall_mem_cons.mpr ⟨lw_p172, List.forall_mem_cons.mpr ⟨lw_p173, List.forall_mem_cons.mpr ⟨lw_p174, List.forall_mem_cons.mpr ⟨lw_p175, fun _ h => absurd h List.not_mem_nil⟩⟩⟩⟩⟩⟩⟩⟩⟩⟩⟩⟩⟩⟩⟩⟩
theorem lw_p176 : lw_okq (⟨"WordsUnsaidModel", "leastRow", "([IIIII)I"⟩, 64) := ⟨⟨by decide +kernel, by decide +kernel⟩, List.mem_of_getElem? (i := 1312) (by decide +kernel), List.mem_of_getElem? (i := 1812) (by decide +kernel), List.mem_of_getElem? (i := 1813) (by decide +kernel)⟩
theorem lw_p177 : lw_okq (⟨"WordsUnsaidModel", "beginRows", "([IIII)V"⟩, 64) := ⟨⟨by decide +kernel, by decide +kernel⟩, List.mem_of_getElem? (i := 1312) (by decide +kernel), List.mem_of_getElem? (i := 1816) (by decide +kernel), List.mem_of_getElem? (i := 1817) (by decide +kernel)⟩
theorem lw_p178 : lw_okq (⟨"WordsUnsaidModel", "goRows", "(II)Z"⟩, 64) := ⟨⟨by decide +kernel, by decide +kernel⟩, List.mem_of_getElem? (i := 1312) (by decide +kernel), List.mem_of_getElem? (i := 1820) (by decide +kernel), List.mem_of_getElem? (i := 1821) (by decide +kernel)⟩
theorem lw_p179 : lw_okq (⟨"WordsUnsaidModel", "goRow", "(II)Z"⟩, 64) := ⟨⟨by decide +kernel, by decide +kernel⟩, List.mem_of_getElem? (i := 1312) (by decide +kernel), List.mem_of_getElem? (i := 1824) (by decide +kernel), List.mem_of_getElem? (i := 1825) (by decide +kernel)⟩
theorem lw_p180 : lw_okq (⟨"WordsUnsaidModel", "endRow", "(I)Z"⟩, 64) := ⟨⟨by decide +kernel, by decide +kernel⟩, List.mem_of_getElem? (i := 1312) (by decide +kernel), List.mem_of_getElem? (i := 1828) (by decide +kernel), List.mem_of_getElem? (i := 1829) (by decide +kernel)⟩
theorem lw_p181 : lw_okq (⟨"WordsUnsaidModel", "isLineLess", "()Z"⟩, 64) := ⟨⟨by decide +kernel, by decide +kernel⟩, List.mem_of_getElem? (i := 1312) (by decide +kernel), List.mem_of_getElem? (i := 1836) (by decide +kernel), List.mem_of_getElem? (i := 1837) (by decide +kernel)⟩
theorem lw_p182 : lw_okq (⟨"WordsUnsaidModel", "goBack", "(IIII)Z"⟩, 64) := ⟨⟨by decide +kernel, by decide +kernel⟩, List.mem_of_getElem? (i := 1312) (by decide +kernel), List.mem_of_getElem? (i := 1848) (by decide +kernel), List.mem_of_getElem? (i := 1849) (by decide +kernel)⟩
theorem lw_p183 : lw_okq (⟨"WordsUnsaidModel", "isFree", "(II)Z"⟩, 64) := ⟨⟨by decide +kernel, by decide +kernel⟩, List.mem_of_getElem? (i := 1312) (by decide +kernel), List.mem_of_getElem? (i := 1852) (by decide +kernel), List.mem_of_getElem? (i := 1853) (by decide +kernel)⟩
theorem lw_p184 : lw_okq (⟨"WordsUnsaidModel", "goParty", "(III)V"⟩, 64) := ⟨⟨by decide +kernel, by decide +kernel⟩, List.mem_of_getElem? (i := 1312) (by decide +kernel), List.mem_of_getElem? (i := 1875) (by decide +kernel), List.mem_of_getElem? (i := 1876) (by decide +kernel)⟩
theorem lw_p185 : lw_okq (⟨"WordsUnsaidModel", "isPlace", "(I)Z"⟩, 64) := ⟨⟨by decide +kernel, by decide +kernel⟩, List.mem_of_getElem? (i := 1312) (by decide +kernel), List.mem_of_getElem? (i := 1887) (by decide +kernel), List.mem_of_getElem? (i := 1888) (by decide +kernel)⟩
theorem lw_p186 : lw_okq (⟨"WordsUnsaidModel", "findShore", "(II)Z"⟩, 64) := ⟨⟨by decide +kernel, by decide +kernel⟩, List.mem_of_getElem? (i := 1312) (by decide +kernel), List.mem_of_getElem? (i := 1907) (by decide +kernel), List.mem_of_getElem? (i := 1908) (by decide +kernel)⟩
theorem lw_p187 : lw_okq (⟨"WordsUnsaidModel", "draw", "(I)I"⟩, 64) := ⟨⟨by decide +kernel, by decide +kernel⟩, List.mem_of_getElem? (i := 1312) (by decide +kernel), List.mem_of_getElem? (i := 1923) (by decide +kernel), List.mem_of_getElem? (i := 1924) (by decide +kernel)⟩
def lw_privs_12 : List (MethodName × Nat) := [(⟨"WordsUnsaidModel", "leastRow", "([IIIII)I"⟩, 64), (⟨"WordsUnsaidModel", "beginRows", "([IIII)V"⟩, 64), (⟨"WordsUnsaidModel", "goRows", "(II)Z"⟩, 64), (⟨"WordsUnsaidModel", "goRow", "(II)Z"⟩, 64), (⟨"WordsUnsaidModel", "endRow", "(I)Z"⟩, 64), (⟨"WordsUnsaidModel", "isLineLess", "()Z"⟩, 64), (⟨"WordsUnsaidModel", "goBack", "(IIII)Z"⟩, 64), (⟨"WordsUnsaidModel", "isFree", "(II)Z"⟩, 64), (⟨"WordsUnsaidModel", "goParty", "(III)V"⟩, 64), (⟨"WordsUnsaidModel", "isPlace", "(I)Z"⟩, 64), (⟨"WordsUnsaidModel", "findShore", "(II)Z"⟩, 64), (⟨"WordsUnsaidModel", "draw", "(I)I"⟩, 64)]
theorem lw_r12 : ∀ q ∈ lw_privs_12, lw_okq q := List.forall_mem_cons.mpr ⟨lw_p176, List.forall_mem_cons.mpr ⟨lw_p177, List.forall_mem_cons.mpr ⟨lw_p178, List.forall_mem_cons.mpr ⟨lw_p179, List.forall_mem_cons.mpr ⟨lw_p180, List.forall_mem_cons.mpr ⟨lw_p181, List.forall_mem_cons.mpr ⟨lw_p182, List.forall_mem_cons.mpr ⟨lw_p183, List.forall_mem_cons.mpr ⟨lw_p184, List.forall_mem_cons.mpr ⟨lw_p185, List.forall_mem_cons.mpr ⟨lw_p186, List.forall_mem_cons.mpr ⟨lw_p187, fun _ h => absurd h List.not_mem_nil⟩⟩⟩⟩⟩⟩⟩⟩⟩⟩⟩⟩
def lw_privs : List (MethodName × Nat) := lw_privs_1 ++ (lw_privs_2 ++ (lw_privs_3 ++ (lw_privs_4 ++ (lw_privs_5 ++ (lw_privs_6 ++ (lw_privs_7 ++ (lw_privs_8 ++ (lw_privs_9 ++ (lw_privs_10 ++ (lw_privs_11 ++ (lw_privs_12)))))))))))
def lw_tbl : List Cond := k2_sels lw_privs ++ tables_1
theorem lw_privs_ok : ∀ q ∈ lw_privs, lw_okq q := by
  show ∀ q ∈ lw_privs_1 ++ (lw_privs_2 ++ (lw_privs_3 ++ (lw_privs_4 ++ (lw_privs_5 ++ (lw_privs_6 ++ (lw_privs_7 ++ (lw_privs_8 ++ (lw_privs_9 ++ (lw_privs_10 ++ (lw_privs_11 ++ (lw_privs_12))))))))))), lw_okq q
  exact List.forall_mem_append.mpr ⟨lw_r1, List.forall_mem_append.mpr ⟨lw_r2, List.forall_mem_append.mpr ⟨lw_r3, List.forall_mem_append.mpr ⟨lw_r4, List.forall_mem_append.mpr ⟨lw_r5, List.forall_mem_append.mpr ⟨lw_r6, List.forall_mem_append.mpr ⟨lw_r7, List.forall_mem_append.mpr ⟨lw_r8, List.forall_mem_append.mpr ⟨lw_r9, List.forall_mem_append.mpr ⟨lw_r10, List.forall_mem_append.mpr ⟨lw_r11, lw_r12⟩⟩⟩⟩⟩⟩⟩⟩⟩⟩⟩
-- ===== end of PART A; then your names; then what follows =====
end
section
/-! Names of the classes, fields and methods (as the program that prints the task names them), the layout of the cells, the methods, the links -/
def RX0 : String := "WordsUnsaid$Act"
def TX0 : u_T := fun k => match k with
  | 0 => ("WordsUnsaid$Act", "row", "[I", true)
  | 1 => ("WordsUnsaid$Act", "size", "I", false)
  | 2 => ("WordsUnsaid$Act", "kind", "I", false)
  | 3 => ("WordsUnsaid$Act", "person", "I", false)
  | 4 => ("WordsUnsaid$Act", "other", "I", false)
  | 5 => ("WordsUnsaid$Act", "bank", "I", false)
  | _ => ("WordsUnsaid$Act", "thing", "I", false)
def tyX0 : Nat → FieldType := fun k => match k with
  | 0 => .array .int
  | 1 => .int
  | 2 => .int
  | 3 => .int
  | 4 => .int
  | 5 => .int
  | _ => .int
abbrev wsX00 : List Cond := u_ws RX0 TX0 7
theorem nmX0 : ∀ a, a < 7 → ∀ b, b < 7 → a ≠ b → (TX0 a).2.1 ≠ (TX0 b).2.1 := by decide +kernel
theorem tyX0_ok : ∀ k, k < 7 → parseFieldDescriptor (TX0 k).2.2.1 = some (tyX0 k) := by decide +kernel
abbrev cX0_init : ByteArray := prog_2_method_1_code
def yX0_init : MethodName := ⟨RX0, "<init>", "()V"⟩
abbrev cX0_check : ByteArray := prog_2_method_2_code
def yX0_check : MethodName := ⟨RX0, "check", "(LWordsUnsaid$Text;)I"⟩
abbrev cX0_isCrossing : ByteArray := prog_2_method_3_code
def yX0_isCrossing : MethodName := ⟨RX0, "isCrossing", "()Z"⟩
abbrev cX0_readNext : ByteArray := prog_2_method_4_code
def yX0_readNext : MethodName := ⟨RX0, "readNext", "(LWordsUnsaid$Text;)Z"⟩
abbrev cX0_readCrossing : ByteArray := prog_2_method_5_code
def yX0_readCrossing : MethodName := ⟨RX0, "readCrossing", "(LWordsUnsaid$Text;)Z"⟩
abbrev cX0_readThings : ByteArray := prog_2_method_6_code
def yX0_readThings : MethodName := ⟨RX0, "readThings", "(LWordsUnsaid$Text;)Z"⟩
def RX1 : String := "WordsUnsaid$Crossing"
def TX1 : u_T := fun k => match k with
  | 0 => ("WordsUnsaid$Crossing", "house", "LWordsUnsaid$House;", true)
  | 1 => ("WordsUnsaid$Crossing", "river", "LWordsUnsaid$River;", true)
  | 2 => ("WordsUnsaid$Crossing", "rule", "LWordsUnsaid$Rule;", true)
  | 3 => ("WordsUnsaid$Crossing", "row", "[I", true)
  | 4 => ("WordsUnsaid$Crossing", "used", "[I", true)
  | 5 => ("WordsUnsaid$Crossing", "size", "I", false)
  | 6 => ("WordsUnsaid$Crossing", "aboard", "I", false)
  | 7 => ("WordsUnsaid$Crossing", "from", "I", false)
  | 8 => ("WordsUnsaid$Crossing", "bank", "I", false)
  | 9 => ("WordsUnsaid$Crossing", "yards", "I", false)
  | 10 => ("WordsUnsaid$Crossing", "crossed", "I", false)
  | 11 => ("WordsUnsaid$Crossing", "said", "I", false)
  | 12 => ("WordsUnsaid$Crossing", "place", "I", false)
  | _ => ("WordsUnsaid$Crossing", "pressure", "I", false)
def tyX1 : Nat → FieldType := fun k => match k with
  | 0 => .object "WordsUnsaid$House"
  | 1 => .object "WordsUnsaid$River"
  | 2 => .object "WordsUnsaid$Rule"
  | 3 => .array .int
  | 4 => .array .int
  | 5 => .int
  | 6 => .int
  | 7 => .int
  | 8 => .int
  | 9 => .int
  | 10 => .int
  | 11 => .int
  | 12 => .int
  | _ => .int
abbrev wsX10 : List Cond := u_ws RX1 TX1 14
theorem nmX1 : ∀ a, a < 14 → ∀ b, b < 14 → a ≠ b → (TX1 a).2.1 ≠ (TX1 b).2.1 := by decide +kernel
theorem tyX1_ok : ∀ k, k < 14 → parseFieldDescriptor (TX1 k).2.2.1 = some (tyX1 k) := by decide +kernel
abbrev cX1_init : ByteArray := prog_3_method_1_code
def yX1_init : MethodName := ⟨RX1, "<init>", "(LWordsUnsaid$House;LWordsUnsaid$River;LWordsUnsaid$Rule;)V"⟩
abbrev cX1_begin : ByteArray := prog_3_method_2_code
def yX1_begin : MethodName := ⟨RX1, "begin", "(III)Z"⟩
abbrev cX1_load : ByteArray := prog_3_method_3_code
def yX1_load : MethodName := ⟨RX1, "load", "(III)V"⟩
abbrev cX1_take : ByteArray := prog_3_method_4_code
def yX1_take : MethodName := ⟨RX1, "take", "(I)Z"⟩
abbrev cX1_hasWords : ByteArray := prog_3_method_5_code
def yX1_hasWords : MethodName := ⟨RX1, "hasWords", "()Z"⟩
abbrev cX1_go : ByteArray := prog_3_method_6_code
def yX1_go : MethodName := ⟨RX1, "go", "()V"⟩
abbrev cX1_settle : ByteArray := prog_3_method_7_code
def yX1_settle : MethodName := ⟨RX1, "settle", "()V"⟩
abbrev cX1_consider : ByteArray := prog_3_method_8_code
def yX1_consider : MethodName := ⟨RX1, "consider", "(I)V"⟩
abbrev cX1_kept : ByteArray := prog_3_method_9_code
def yX1_kept : MethodName := ⟨RX1, "kept", "(IIII)I"⟩
abbrev cX1_oddsOfTen : ByteArray := prog_3_method_10_code
def yX1_oddsOfTen : MethodName := ⟨RX1, "oddsOfTen", "(III)I"⟩
def RX2 : String := "WordsUnsaid$Fleet"
def TX2 : u_T := fun k => match k with
  | 0 => ("WordsUnsaid$Fleet", "partners", "[I", true)
  | 1 => ("WordsUnsaid$Fleet", "boats", "[I", true)
  | _ => ("WordsUnsaid$Fleet", "with", "[I", true)
def tyX2 : Nat → FieldType := fun k => match k with
  | 0 => .array .int
  | 1 => .array .int
  | _ => .array .int
abbrev wsX20 : List Cond := u_ws RX2 TX2 3
theorem nmX2 : ∀ a, a < 3 → ∀ b, b < 3 → a ≠ b → (TX2 a).2.1 ≠ (TX2 b).2.1 := by decide +kernel
theorem tyX2_ok : ∀ k, k < 3 → parseFieldDescriptor (TX2 k).2.2.1 = some (tyX2 k) := by decide +kernel
abbrev cX2_init : ByteArray := prog_4_method_1_code
def yX2_init : MethodName := ⟨RX2, "<init>", "()V"⟩
abbrev cX2_clear : ByteArray := prog_4_method_2_code
def yX2_clear : MethodName := ⟨RX2, "clear", "()V"⟩
abbrev cX2_pair : ByteArray := prog_4_method_3_code
def yX2_pair : MethodName := ⟨RX2, "pair", "(IIZ)V"⟩
abbrev cX2_countBoats : ByteArray := prog_4_method_4_code
def yX2_countBoats : MethodName := ⟨RX2, "countBoats", "(I)I"⟩
abbrev cX2_without : ByteArray := prog_4_method_5_code
def yX2_without : MethodName := ⟨RX2, "without", "(III)I"⟩
abbrev cX2_tellBoats : ByteArray := prog_4_method_6_code
def yX2_tellBoats : MethodName := ⟨RX2, "tellBoats", "(ILWordsUnsaid$Tale;)V"⟩
abbrev cX2_firstPartner : ByteArray := prog_4_method_7_code
def yX2_firstPartner : MethodName := ⟨RX2, "firstPartner", "(II)I"⟩
def RX3 : String := "WordsUnsaid$House"
def TX3 : u_T := fun k => match k with
  | 0 => ("WordsUnsaid$House", "hold", "[I", true)
  | 1 => ("WordsUnsaid$House", "place", "[I", true)
  | 2 => ("WordsUnsaid$House", "coins", "[I", true)
  | 3 => ("WordsUnsaid$House", "words", "[I", true)
  | 4 => ("WordsUnsaid$House", "left", "[I", true)
  | 5 => ("WordsUnsaid$House", "press", "[I", true)
  | 6 => ("WordsUnsaid$House", "whose", "[I", true)
  | 7 => ("WordsUnsaid$House", "about", "[I", true)
  | 8 => ("WordsUnsaid$House", "said", "[I", true)
  | 9 => ("WordsUnsaid$House", "knows", "[I", true)
  | 10 => ("WordsUnsaid$House", "people", "I", false)
  | 11 => ("WordsUnsaid$House", "things", "I", false)
  | 12 => ("WordsUnsaid$House", "newPeople", "I", false)
  | _ => ("WordsUnsaid$House", "newThings", "I", false)
def tyX3 : Nat → FieldType := fun k => match k with
  | 0 => .array .int
  | 1 => .array .int
  | 2 => .array .int
  | 3 => .array .int
  | 4 => .array .int
  | 5 => .array .int
  | 6 => .array .int
  | 7 => .array .int
  | 8 => .array .int
  | 9 => .array .int
  | 10 => .int
  | 11 => .int
  | 12 => .int
  | _ => .int
abbrev wsX30 : List Cond := u_ws RX3 TX3 14
theorem nmX3 : ∀ a, a < 14 → ∀ b, b < 14 → a ≠ b → (TX3 a).2.1 ≠ (TX3 b).2.1 := by decide +kernel
theorem tyX3_ok : ∀ k, k < 14 → parseFieldDescriptor (TX3 k).2.2.1 = some (tyX3 k) := by decide +kernel
abbrev cX3_init : ByteArray := prog_5_method_1_code
def yX3_init : MethodName := ⟨RX3, "<init>", "()V"⟩
abbrev cX3_read : ByteArray := prog_5_method_2_code
def yX3_read : MethodName := ⟨RX3, "read", "(LWordsUnsaid$Text;)I"⟩
abbrev cX3_moveIn : ByteArray := prog_5_method_3_code
def yX3_moveIn : MethodName := ⟨RX3, "moveIn", "(I)I"⟩
abbrev cX3_readLine : ByteArray := prog_5_method_4_code
def yX3_readLine : MethodName := ⟨RX3, "readLine", "(LWordsUnsaid$Text;)Z"⟩
abbrev cX3_readPerson : ByteArray := prog_5_method_5_code
def yX3_readPerson : MethodName := ⟨RX3, "readPerson", "(LWordsUnsaid$Text;)Z"⟩
abbrev cX3_readThing : ByteArray := prog_5_method_6_code
def yX3_readThing : MethodName := ⟨RX3, "readThing", "(LWordsUnsaid$Text;)Z"⟩
abbrev cX3_hasPerson : ByteArray := prog_5_method_7_code
def yX3_hasPerson : MethodName := ⟨RX3, "hasPerson", "(I)Z"⟩
abbrev cX3_hasThing : ByteArray := prog_5_method_8_code
def yX3_hasThing : MethodName := ⟨RX3, "hasThing", "(I)Z"⟩
abbrev cX3_peopleAt : ByteArray := prog_5_method_9_code
def yX3_peopleAt : MethodName := ⟨RX3, "peopleAt", "(I)I"⟩
abbrev cX3_onIslets : ByteArray := prog_5_method_10_code
def yX3_onIslets : MethodName := ⟨RX3, "onIslets", "()I"⟩
abbrev cX3_placeOfAll : ByteArray := prog_5_method_11_code
def yX3_placeOfAll : MethodName := ⟨RX3, "placeOfAll", "(I)I"⟩
abbrev cX3_thingsOf : ByteArray := prog_5_method_12_code
def yX3_thingsOf : MethodName := ⟨RX3, "thingsOf", "(I)I"⟩
abbrev cX3_isUnsaidOf : ByteArray := prog_5_method_13_code
def yX3_isUnsaidOf : MethodName := ⟨RX3, "isUnsaidOf", "(II)Z"⟩
abbrev cX3_unsaidOf : ByteArray := prog_5_method_14_code
def yX3_unsaidOf : MethodName := ⟨RX3, "unsaidOf", "(I)I"⟩
abbrev cX3_saidThings : ByteArray := prog_5_method_15_code
def yX3_saidThings : MethodName := ⟨RX3, "saidThings", "()I"⟩
abbrev cX3_knownBy : ByteArray := prog_5_method_16_code
def yX3_knownBy : MethodName := ⟨RX3, "knownBy", "(I)I"⟩
abbrev cX3_knownAt : ByteArray := prog_5_method_17_code
def yX3_knownAt : MethodName := ⟨RX3, "knownAt", "(I)I"⟩
abbrev cX3_wordsLeft : ByteArray := prog_5_method_18_code
def yX3_wordsLeft : MethodName := ⟨RX3, "wordsLeft", "(I)I"⟩
abbrev cX3_knowersOfThingsAbout : ByteArray := prog_5_method_19_code
def yX3_knowersOfThingsAbout : MethodName := ⟨RX3, "knowersOfThingsAbout", "(I)I"⟩
abbrev cX3_owns : ByteArray := prog_5_method_20_code
def yX3_owns : MethodName := ⟨RX3, "owns", "(II)Z"⟩
abbrev cX3_mayKeepBack : ByteArray := prog_5_method_21_code
def yX3_mayKeepBack : MethodName := ⟨RX3, "mayKeepBack", "(II)Z"⟩
abbrev cX3_areTwo : ByteArray := prog_5_method_22_code
def yX3_areTwo : MethodName := ⟨RX3, "areTwo", "(II)Z"⟩
abbrev cX3_areTogether : ByteArray := prog_5_method_23_code
def yX3_areTogether : MethodName := ⟨RX3, "areTogether", "(II)Z"⟩
abbrev cX3_newTo : ByteArray := prog_5_method_24_code
def yX3_newTo : MethodName := ⟨RX3, "newTo", "(II)I"⟩
abbrev cX3_whyNotSay : ByteArray := prog_5_method_25_code
def yX3_whyNotSay : MethodName := ⟨RX3, "whyNotSay", "(II)I"⟩
abbrev cX3_speak : ByteArray := prog_5_method_26_code
def yX3_speak : MethodName := ⟨RX3, "speak", "(II)I"⟩
abbrev cX3_passOn : ByteArray := prog_5_method_27_code
def yX3_passOn : MethodName := ⟨RX3, "passOn", "(III)I"⟩
abbrev cX3_tellTo : ByteArray := prog_5_method_28_code
def yX3_tellTo : MethodName := ⟨RX3, "tellTo", "(II)V"⟩
abbrev cX3_move : ByteArray := prog_5_method_29_code
def yX3_move : MethodName := ⟨RX3, "move", "(II)V"⟩
abbrev cX3_price : ByteArray := prog_5_method_30_code
def yX3_price : MethodName := ⟨RX3, "price", "(I)I"⟩
abbrev cX3_whyNotSell : ByteArray := prog_5_method_31_code
def yX3_whyNotSell : MethodName := ⟨RX3, "whyNotSell", "(III)I"⟩
abbrev cX3_trade : ByteArray := prog_5_method_32_code
def yX3_trade : MethodName := ⟨RX3, "trade", "(III)I"⟩
abbrev cX3_save : ByteArray := prog_5_method_33_code
def yX3_save : MethodName := ⟨RX3, "save", "([II)V"⟩
abbrev cX3_load : ByteArray := prog_5_method_34_code
def yX3_load : MethodName := ⟨RX3, "load", "([II)V"⟩
def RX4 : String := "WordsUnsaid$Memory"
def TX4 : u_T := fun k => match k with
  | 0 => ("WordsUnsaid$Memory", "store", "[I", true)
  | 1 => ("WordsUnsaid$Memory", "kept", "I", false)
  | 2 => ("WordsUnsaid$Memory", "size", "I", false)
  | _ => ("WordsUnsaid$Memory", "staged", "I", false)
def tyX4 : Nat → FieldType := fun k => match k with
  | 0 => .array .int
  | 1 => .int
  | 2 => .int
  | _ => .int
abbrev wsX40 : List Cond := u_ws RX4 TX4 4
theorem nmX4 : ∀ a, a < 4 → ∀ b, b < 4 → a ≠ b → (TX4 a).2.1 ≠ (TX4 b).2.1 := by decide +kernel
theorem tyX4_ok : ∀ k, k < 4 → parseFieldDescriptor (TX4 k).2.2.1 = some (tyX4 k) := by decide +kernel
abbrev cX4_init : ByteArray := prog_6_method_1_code
def yX4_init : MethodName := ⟨RX4, "<init>", "()V"⟩
abbrev cX4_stage : ByteArray := prog_6_method_2_code
def yX4_stage : MethodName := ⟨RX4, "stage", "(LWordsUnsaid$House;)V"⟩
abbrev cX4_unstage : ByteArray := prog_6_method_3_code
def yX4_unstage : MethodName := ⟨RX4, "unstage", "(LWordsUnsaid$House;)V"⟩
abbrev cX4_commit : ByteArray := prog_6_method_4_code
def yX4_commit : MethodName := ⟨RX4, "commit", "()V"⟩
abbrev cX4_takeBack : ByteArray := prog_6_method_5_code
def yX4_takeBack : MethodName := ⟨RX4, "takeBack", "(LWordsUnsaid$House;)Z"⟩
abbrev cX4_forgetAll : ByteArray := prog_6_method_6_code
def yX4_forgetAll : MethodName := ⟨RX4, "forgetAll", "()V"⟩
abbrev cX4_keepUnder : ByteArray := prog_6_method_7_code
def yX4_keepUnder : MethodName := ⟨RX4, "keepUnder", "(ILWordsUnsaid$House;)Z"⟩
abbrev cX4_bringBack : ByteArray := prog_6_method_8_code
def yX4_bringBack : MethodName := ⟨RX4, "bringBack", "(ILWordsUnsaid$House;)Z"⟩
def RX5 : String := "WordsUnsaid$River"
def TX5 : u_T := fun k => match k with
  | 0 => ("WordsUnsaid$River", "islets", "[I", true)
  | 1 => ("WordsUnsaid$River", "fresh", "[I", true)
  | 2 => ("WordsUnsaid$River", "size", "I", false)
  | _ => ("WordsUnsaid$River", "yards", "I", false)
def tyX5 : Nat → FieldType := fun k => match k with
  | 0 => .array .int
  | 1 => .array .int
  | 2 => .int
  | _ => .int
abbrev wsX50 : List Cond := u_ws RX5 TX5 4
theorem nmX5 : ∀ a, a < 4 → ∀ b, b < 4 → a ≠ b → (TX5 a).2.1 ≠ (TX5 b).2.1 := by decide +kernel
theorem tyX5_ok : ∀ k, k < 4 → parseFieldDescriptor (TX5 k).2.2.1 = some (tyX5 k) := by decide +kernel
abbrev cX5_init : ByteArray := prog_7_method_1_code
def yX5_init : MethodName := ⟨RX5, "<init>", "()V"⟩
abbrev cX5_read : ByteArray := prog_7_method_2_code
def yX5_read : MethodName := ⟨RX5, "read", "(LWordsUnsaid$Text;)I"⟩
abbrev cX5_hasIslet : ByteArray := prog_7_method_3_code
def yX5_hasIslet : MethodName := ⟨RX5, "hasIslet", "(I)Z"⟩
abbrev cX5_hasPlace : ByteArray := prog_7_method_4_code
def yX5_hasPlace : MethodName := ⟨RX5, "hasPlace", "(I)Z"⟩
abbrev cX5_yardOf : ByteArray := prog_7_method_5_code
def yX5_yardOf : MethodName := ⟨RX5, "yardOf", "(I)I"⟩
abbrev cX5_between : ByteArray := prog_7_method_6_code
def yX5_between : MethodName := ⟨RX5, "between", "(II)I"⟩
abbrev cX5_landing : ByteArray := prog_7_method_7_code
def yX5_landing : MethodName := ⟨RX5, "landing", "(III)I"⟩
def RX6 : String := "WordsUnsaid$Rule"
def TX6 : u_T := fun k => match k with
  | 0 => ("WordsUnsaid$Rule", "codes", "[I", true)
  | 1 => ("WordsUnsaid$Rule", "fresh", "[I", true)
  | 2 => ("WordsUnsaid$Rule", "waiting", "[I", true)
  | 3 => ("WordsUnsaid$Rule", "compared", "[Z", true)
  | 4 => ("WordsUnsaid$Rule", "size", "I", false)
  | 5 => ("WordsUnsaid$Rule", "freshSize", "I", false)
  | 6 => ("WordsUnsaid$Rule", "waitingSize", "I", false)
  | 7 => ("WordsUnsaid$Rule", "nested", "I", false)
  | 8 => ("WordsUnsaid$Rule", "pressing", "I", false)
  | 9 => ("WordsUnsaid$Rule", "keptFor", "I", false)
  | 10 => ("WordsUnsaid$Rule", "left", "I", false)
  | 11 => ("WordsUnsaid$Rule", "crossed", "I", false)
  | 12 => ("WordsUnsaid$Rule", "aboard", "I", false)
  | 13 => ("WordsUnsaid$Rule", "keeper", "I", false)
  | _ => ("WordsUnsaid$Rule", "aboutOneAboard", "I", false)
def tyX6 : Nat → FieldType := fun k => match k with
  | 0 => .array .int
  | 1 => .array .int
  | 2 => .array .int
  | 3 => .array .boolean
  | 4 => .int
  | 5 => .int
  | 6 => .int
  | 7 => .int
  | 8 => .int
  | 9 => .int
  | 10 => .int
  | 11 => .int
  | 12 => .int
  | 13 => .int
  | _ => .int
abbrev wsX60 : List Cond := u_ws RX6 TX6 15
theorem nmX6 : ∀ a, a < 15 → ∀ b, b < 15 → a ≠ b → (TX6 a).2.1 ≠ (TX6 b).2.1 := by decide +kernel
theorem tyX6_ok : ∀ k, k < 15 → parseFieldDescriptor (TX6 k).2.2.1 = some (tyX6 k) := by decide +kernel
abbrev cX6_init : ByteArray := prog_8_method_1_code
def yX6_init : MethodName := ⟨RX6, "<init>", "()V"⟩
abbrev cX6_read : ByteArray := prog_8_method_2_code
def yX6_read : MethodName := ⟨RX6, "read", "(LWordsUnsaid$Text;)I"⟩
abbrev cX6_readExpression : ByteArray := prog_8_method_3_code
def yX6_readExpression : MethodName := ⟨RX6, "readExpression", "(LWordsUnsaid$Text;)Z"⟩
abbrev cX6_readThing : ByteArray := prog_8_method_4_code
def yX6_readThing : MethodName := ⟨RX6, "readThing", "(LWordsUnsaid$Text;)Z"⟩
abbrev cX6_closeParentheses : ByteArray := prog_8_method_5_code
def yX6_closeParentheses : MethodName := ⟨RX6, "closeParentheses", "(LWordsUnsaid$Text;)V"⟩
abbrev cX6_readJoint : ByteArray := prog_8_method_6_code
def yX6_readJoint : MethodName := ⟨RX6, "readJoint", "(LWordsUnsaid$Text;)Z"⟩
abbrev cX6_isLetter : ByteArray := prog_8_method_7_code
def yX6_isLetter : MethodName := ⟨RX6, "isLetter", "(I)Z"⟩
abbrev cX6_bondOf : ByteArray := prog_8_method_8_code
def yX6_bondOf : MethodName := ⟨RX6, "bondOf", "(I)I"⟩
abbrev cX6_compare : ByteArray := prog_8_method_9_code
def yX6_compare : MethodName := ⟨RX6, "compare", "(Z)V"⟩
abbrev cX6_isCompared : ByteArray := prog_8_method_10_code
def yX6_isCompared : MethodName := ⟨RX6, "isCompared", "()Z"⟩
abbrev cX6_write : ByteArray := prog_8_method_11_code
def yX6_write : MethodName := ⟨RX6, "write", "(I)V"⟩
abbrev cX6_defer : ByteArray := prog_8_method_12_code
def yX6_defer : MethodName := ⟨RX6, "defer", "(I)V"⟩
abbrev cX6_writeWaiting : ByteArray := prog_8_method_13_code
def yX6_writeWaiting : MethodName := ⟨RX6, "writeWaiting", "(I)V"⟩
abbrev cX6_pressure : ByteArray := prog_8_method_14_code
def yX6_pressure : MethodName := ⟨RX6, "pressure", "(III)I"⟩
abbrev cX6_fact : ByteArray := prog_8_method_15_code
def yX6_fact : MethodName := ⟨RX6, "fact", "(I)I"⟩
abbrev cX6_join : ByteArray := prog_8_method_16_code
def yX6_join : MethodName := ⟨RX6, "join", "(III)I"⟩
def RX7 : String := "WordsUnsaid$Tale"
def TX7 : u_T := fun k => match k with
  | 0 => ("WordsUnsaid$Tale", "numbers", "[I", true)
  | _ => ("WordsUnsaid$Tale", "size", "I", false)
def tyX7 : Nat → FieldType := fun k => match k with
  | 0 => .array .int
  | _ => .int
abbrev wsX70 : List Cond := u_ws RX7 TX7 2
theorem nmX7 : ∀ a, a < 2 → ∀ b, b < 2 → a ≠ b → (TX7 a).2.1 ≠ (TX7 b).2.1 := by decide +kernel
theorem tyX7_ok : ∀ k, k < 2 → parseFieldDescriptor (TX7 k).2.2.1 = some (tyX7 k) := by decide +kernel
abbrev cX7_init : ByteArray := prog_9_method_1_code
def yX7_init : MethodName := ⟨RX7, "<init>", "()V"⟩
abbrev cX7_clear : ByteArray := prog_9_method_2_code
def yX7_clear : MethodName := ⟨RX7, "clear", "()V"⟩
abbrev cX7_add : ByteArray := prog_9_method_3_code
def yX7_add : MethodName := ⟨RX7, "add", "(I)V"⟩
abbrev cX7_tell : ByteArray := prog_9_method_4_code
def yX7_tell : MethodName := ⟨RX7, "tell", "(I)V"⟩
abbrev cX7_tell_ : ByteArray := prog_9_method_5_code
def yX7_tell_ : MethodName := ⟨RX7, "tell", "(II)V"⟩
abbrev cX7_tell__ : ByteArray := prog_9_method_6_code
def yX7_tell__ : MethodName := ⟨RX7, "tell", "(III)V"⟩
def RX8 : String := "WordsUnsaid$Text"
def TX8 : u_T := fun k => match k with
  | 0 => ("WordsUnsaid$Text", "signs", "[C", true)
  | 1 => ("WordsUnsaid$Text", "size", "I", false)
  | 2 => ("WordsUnsaid$Text", "place", "I", false)
  | 3 => ("WordsUnsaid$Text", "stop", "I", false)
  | _ => ("WordsUnsaid$Text", "fault", "I", false)
def tyX8 : Nat → FieldType := fun k => match k with
  | 0 => .array .char
  | 1 => .int
  | 2 => .int
  | 3 => .int
  | _ => .int
abbrev wsX80 : List Cond := u_ws RX8 TX8 5
theorem nmX8 : ∀ a, a < 5 → ∀ b, b < 5 → a ≠ b → (TX8 a).2.1 ≠ (TX8 b).2.1 := by decide +kernel
theorem tyX8_ok : ∀ k, k < 5 → parseFieldDescriptor (TX8 k).2.2.1 = some (tyX8 k) := by decide +kernel
abbrev cX8_init : ByteArray := prog_10_method_1_code
def yX8_init : MethodName := ⟨RX8, "<init>", "()V"⟩
abbrev cX8_add : ByteArray := prog_10_method_2_code
def yX8_add : MethodName := ⟨RX8, "add", "(I)Z"⟩
abbrev cX8_cut : ByteArray := prog_10_method_3_code
def yX8_cut : MethodName := ⟨RX8, "cut", "(I)Z"⟩
abbrev cX8_open : ByteArray := prog_10_method_4_code
def yX8_open : MethodName := ⟨RX8, "open", "(I)V"⟩
abbrev cX8_next : ByteArray := prog_10_method_5_code
def yX8_next : MethodName := ⟨RX8, "next", "()I"⟩
abbrev cX8_skip : ByteArray := prog_10_method_6_code
def yX8_skip : MethodName := ⟨RX8, "skip", "()V"⟩
abbrev cX8_meet : ByteArray := prog_10_method_7_code
def yX8_meet : MethodName := ⟨RX8, "meet", "(I)Z"⟩
abbrev cX8_take : ByteArray := prog_10_method_8_code
def yX8_take : MethodName := ⟨RX8, "take", "(I)Z"⟩
abbrev cX8_refuse : ByteArray := prog_10_method_9_code
def yX8_refuse : MethodName := ⟨RX8, "refuse", "()Z"⟩
abbrev cX8_refuseLast : ByteArray := prog_10_method_10_code
def yX8_refuseLast : MethodName := ⟨RX8, "refuseLast", "()Z"⟩
abbrev cX8_answer : ByteArray := prog_10_method_11_code
def yX8_answer : MethodName := ⟨RX8, "answer", "()I"⟩
abbrev cX8_closes : ByteArray := prog_10_method_12_code
def yX8_closes : MethodName := ⟨RX8, "closes", "()Z"⟩
abbrev cX8_isDigit : ByteArray := prog_10_method_13_code
def yX8_isDigit : MethodName := ⟨RX8, "isDigit", "()Z"⟩
abbrev cX8_number : ByteArray := prog_10_method_14_code
def yX8_number : MethodName := ⟨RX8, "number", "(III)I"⟩
abbrev cX8_letter : ByteArray := prog_10_method_15_code
def yX8_letter : MethodName := ⟨RX8, "letter", "(II)I"⟩
def RX9 : String := "WordsUnsaid$Walk"
def TX9 : u_T := fun k => match k with
  | 0 => ("WordsUnsaid$Walk", "house", "LWordsUnsaid$House;", true)
  | 1 => ("WordsUnsaid$Walk", "crossing", "LWordsUnsaid$Crossing;", true)
  | 2 => ("WordsUnsaid$Walk", "left", "[I", true)
  | 3 => ("WordsUnsaid$Walk", "row", "[I", true)
  | 4 => ("WordsUnsaid$Walk", "best", "[I", true)
  | 5 => ("WordsUnsaid$Walk", "yards", "[I", true)
  | 6 => ("WordsUnsaid$Walk", "words", "[I", true)
  | 7 => ("WordsUnsaid$Walk", "said", "[I", true)
  | 8 => ("WordsUnsaid$Walk", "counts", "[I", true)
  | 9 => ("WordsUnsaid$Walk", "size", "I", false)
  | 10 => ("WordsUnsaid$Walk", "most", "I", false)
  | 11 => ("WordsUnsaid$Walk", "usable", "I", false)
  | _ => ("WordsUnsaid$Walk", "largest", "I", false)
def tyX9 : Nat → FieldType := fun k => match k with
  | 0 => .object "WordsUnsaid$House"
  | 1 => .object "WordsUnsaid$Crossing"
  | 2 => .array .int
  | 3 => .array .int
  | 4 => .array .int
  | 5 => .array .int
  | 6 => .array .int
  | 7 => .array .int
  | 8 => .array .int
  | 9 => .int
  | 10 => .int
  | 11 => .int
  | _ => .int
abbrev wsX90 : List Cond := u_ws RX9 TX9 13
theorem nmX9 : ∀ a, a < 13 → ∀ b, b < 13 → a ≠ b → (TX9 a).2.1 ≠ (TX9 b).2.1 := by decide +kernel
theorem tyX9_ok : ∀ k, k < 13 → parseFieldDescriptor (TX9 k).2.2.1 = some (tyX9 k) := by decide +kernel
abbrev cX9_init : ByteArray := prog_11_method_1_code
def yX9_init : MethodName := ⟨RX9, "<init>", "(LWordsUnsaid$House;LWordsUnsaid$Crossing;)V"⟩
abbrev cX9_start : ByteArray := prog_11_method_2_code
def yX9_start : MethodName := ⟨RX9, "start", "(I)V"⟩
abbrev cX9_startOnLeft : ByteArray := prog_11_method_3_code
def yX9_startOnLeft : MethodName := ⟨RX9, "startOnLeft", "(I)V"⟩
abbrev cX9_leaveTo : ByteArray := prog_11_method_4_code
def yX9_leaveTo : MethodName := ⟨RX9, "leaveTo", "(LWordsUnsaid$Walk;)V"⟩
abbrev cX9_next : ByteArray := prog_11_method_5_code
def yX9_next : MethodName := ⟨RX9, "next", "(Z)Z"⟩
abbrev cX9_drop : ByteArray := prog_11_method_6_code
def yX9_drop : MethodName := ⟨RX9, "drop", "()I"⟩
abbrev cX9_usableFrom : ByteArray := prog_11_method_7_code
def yX9_usableFrom : MethodName := ⟨RX9, "usableFrom", "(I)I"⟩
abbrev cX9_add : ByteArray := prog_11_method_8_code
def yX9_add : MethodName := ⟨RX9, "add", "(I)V"⟩
abbrev cX9_canReach : ByteArray := prog_11_method_9_code
def yX9_canReach : MethodName := ⟨RX9, "canReach", "()Z"⟩
abbrev cX9_crossed : ByteArray := prog_11_method_10_code
def yX9_crossed : MethodName := ⟨RX9, "crossed", "()I"⟩
abbrev cX9_saidThing : ByteArray := prog_11_method_11_code
def yX9_saidThing : MethodName := ⟨RX9, "saidThing", "()I"⟩
abbrev cX9_isUnderWay : ByteArray := prog_11_method_12_code
def yX9_isUnderWay : MethodName := ⟨RX9, "isUnderWay", "()Z"⟩
abbrev cX9_isOver : ByteArray := prog_11_method_13_code
def yX9_isOver : MethodName := ⟨RX9, "isOver", "()Z"⟩
abbrev cX9_isBurst : ByteArray := prog_11_method_14_code
def yX9_isBurst : MethodName := ⟨RX9, "isBurst", "()Z"⟩
abbrev cX9_findShortest : ByteArray := prog_11_method_15_code
def yX9_findShortest : MethodName := ⟨RX9, "findShortest", "()I"⟩
abbrev cX9_copyToBest : ByteArray := prog_11_method_16_code
def yX9_copyToBest : MethodName := ⟨RX9, "copyToBest", "()V"⟩
abbrev cX9_tellBest : ByteArray := prog_11_method_17_code
def yX9_tellBest : MethodName := ⟨RX9, "tellBest", "(LWordsUnsaid$Tale;I)V"⟩
abbrev cX9_tellRow : ByteArray := prog_11_method_18_code
def yX9_tellRow : MethodName := ⟨RX9, "tellRow", "(LWordsUnsaid$Tale;)V"⟩
abbrev cX9_clearCounts : ByteArray := prog_11_method_19_code
def yX9_clearCounts : MethodName := ⟨RX9, "clearCounts", "()V"⟩
abbrev cX9_countSaid : ByteArray := prog_11_method_20_code
def yX9_countSaid : MethodName := ⟨RX9, "countSaid", "()V"⟩
abbrev cX9_tellCounts : ByteArray := prog_11_method_21_code
def yX9_tellCounts : MethodName := ⟨RX9, "tellCounts", "(LWordsUnsaid$Tale;)I"⟩
def RX10 : String := "WordsUnsaid"
def TX10 : u_T := fun k => match k with
  | 0 => ("WordsUnsaid", "text", "LWordsUnsaid$Text;", true)
  | 1 => ("WordsUnsaid", "house", "LWordsUnsaid$House;", true)
  | 2 => ("WordsUnsaid", "river", "LWordsUnsaid$River;", true)
  | 3 => ("WordsUnsaid", "rule", "LWordsUnsaid$Rule;", true)
  | 4 => ("WordsUnsaid", "crossing", "LWordsUnsaid$Crossing;", true)
  | 5 => ("WordsUnsaid", "way", "LWordsUnsaid$Walk;", true)
  | 6 => ("WordsUnsaid", "home", "LWordsUnsaid$Walk;", true)
  | 7 => ("WordsUnsaid", "memory", "LWordsUnsaid$Memory;", true)
  | 8 => ("WordsUnsaid", "act", "LWordsUnsaid$Act;", true)
  | 9 => ("WordsUnsaid", "tale", "LWordsUnsaid$Tale;", true)
  | 10 => ("WordsUnsaid", "fleet", "LWordsUnsaid$Fleet;", true)
  | _ => ("WordsUnsaid", "random", "I", false)
def tyX10 : Nat → FieldType := fun k => match k with
  | 0 => .object "WordsUnsaid$Text"
  | 1 => .object "WordsUnsaid$House"
  | 2 => .object "WordsUnsaid$River"
  | 3 => .object "WordsUnsaid$Rule"
  | 4 => .object "WordsUnsaid$Crossing"
  | 5 => .object "WordsUnsaid$Walk"
  | 6 => .object "WordsUnsaid$Walk"
  | 7 => .object "WordsUnsaid$Memory"
  | 8 => .object "WordsUnsaid$Act"
  | 9 => .object "WordsUnsaid$Tale"
  | 10 => .object "WordsUnsaid$Fleet"
  | _ => .int
abbrev wsX100 : List Cond := u_ws RX10 TX10 12
theorem nmX10 : ∀ a, a < 12 → ∀ b, b < 12 → a ≠ b → (TX10 a).2.1 ≠ (TX10 b).2.1 := by decide +kernel
theorem tyX10_ok : ∀ k, k < 12 → parseFieldDescriptor (TX10 k).2.2.1 = some (tyX10 k) := by decide +kernel
abbrev cX10_init : ByteArray := prog_1_method_1_code
def yX10_init : MethodName := ⟨RX10, "<init>", "()V"⟩
abbrev cX10_sign : ByteArray := prog_1_method_2_code
def yX10_sign : MethodName := ⟨RX10, "sign", "(I)I"⟩
abbrev cX10_end : ByteArray := prog_1_method_3_code
def yX10_end : MethodName := ⟨RX10, "end", "(I)Z"⟩
abbrev cX10_river : ByteArray := prog_1_method_4_code
def yX10_river : MethodName := ⟨RX10, "river", "()I"⟩
abbrev cX10_house : ByteArray := prog_1_method_5_code
def yX10_house : MethodName := ⟨RX10, "house", "()I"⟩
abbrev cX10_rule : ByteArray := prog_1_method_6_code
def yX10_rule : MethodName := ⟨RX10, "rule", "()I"⟩
abbrev cX10_person : ByteArray := prog_1_method_7_code
def yX10_person : MethodName := ⟨RX10, "person", "(II)I"⟩
abbrev cX10_thing : ByteArray := prog_1_method_8_code
def yX10_thing : MethodName := ⟨RX10, "thing", "(II)I"⟩
abbrev cX10_islet : ByteArray := prog_1_method_9_code
def yX10_islet : MethodName := ⟨RX10, "islet", "(I)I"⟩
abbrev cX10_hold : ByteArray := prog_1_method_10_code
def yX10_hold : MethodName := ⟨RX10, "hold", "(II)I"⟩
abbrev cX10_sheet : ByteArray := prog_1_method_11_code
def yX10_sheet : MethodName := ⟨RX10, "sheet", "(IIII)I"⟩
abbrev cX10_cross : ByteArray := prog_1_method_12_code
def yX10_cross : MethodName := ⟨RX10, "cross", "(III)I"⟩
abbrev cX10_look : ByteArray := prog_1_method_13_code
def yX10_look : MethodName := ⟨RX10, "look", "(III)I"⟩
abbrev cX10_say : ByteArray := prog_1_method_14_code
def yX10_say : MethodName := ⟨RX10, "say", "(II)I"⟩
abbrev cX10_whisper : ByteArray := prog_1_method_15_code
def yX10_whisper : MethodName := ⟨RX10, "whisper", "(III)I"⟩
abbrev cX10_sell : ByteArray := prog_1_method_16_code
def yX10_sell : MethodName := ⟨RX10, "sell", "(III)I"⟩
abbrev cX10_day : ByteArray := prog_1_method_17_code
def yX10_day : MethodName := ⟨RX10, "day", "()I"⟩
abbrev cX10_undo : ByteArray := prog_1_method_18_code
def yX10_undo : MethodName := ⟨RX10, "undo", "()I"⟩
abbrev cX10_far : ByteArray := prog_1_method_19_code
def yX10_far : MethodName := ⟨RX10, "far", "(II)I"⟩
abbrev cX10_keeps : ByteArray := prog_1_method_20_code
def yX10_keeps : MethodName := ⟨RX10, "keeps", "(II)I"⟩
abbrev cX10_fewest : ByteArray := prog_1_method_21_code
def yX10_fewest : MethodName := ⟨RX10, "fewest", "(II)I"⟩
abbrev cX10_rows : ByteArray := prog_1_method_22_code
def yX10_rows : MethodName := ⟨RX10, "rows", "(II)I"⟩
abbrev cX10_back : ByteArray := prog_1_method_23_code
def yX10_back : MethodName := ⟨RX10, "back", "(II)I"⟩
abbrev cX10_exact : ByteArray := prog_1_method_24_code
def yX10_exact : MethodName := ⟨RX10, "exact", "(II)I"⟩
abbrev cX10_chance : ByteArray := prog_1_method_25_code
def yX10_chance : MethodName := ⟨RX10, "chance", "(II)I"⟩
abbrev cX10_party : ByteArray := prog_1_method_26_code
def yX10_party : MethodName := ⟨RX10, "party", "(I)I"⟩
abbrev cX10_pool : ByteArray := prog_1_method_27_code
def yX10_pool : MethodName := ⟨RX10, "pool", "(II)I"⟩
abbrev cX10_known : ByteArray := prog_1_method_28_code
def yX10_known : MethodName := ⟨RX10, "known", "(I)I"⟩
abbrev cX10_sayable : ByteArray := prog_1_method_29_code
def yX10_sayable : MethodName := ⟨RX10, "sayable", "(I)I"⟩
abbrev cX10_apart : ByteArray := prog_1_method_30_code
def yX10_apart : MethodName := ⟨RX10, "apart", "()I"⟩
abbrev cX10_spared : ByteArray := prog_1_method_31_code
def yX10_spared : MethodName := ⟨RX10, "spared", "()I"⟩
abbrev cX10_ashore : ByteArray := prog_1_method_32_code
def yX10_ashore : MethodName := ⟨RX10, "ashore", "(II)I"⟩
abbrev cX10_about : ByteArray := prog_1_method_33_code
def yX10_about : MethodName := ⟨RX10, "about", "(II)I"⟩
abbrev cX10_bargain : ByteArray := prog_1_method_34_code
def yX10_bargain : MethodName := ⟨RX10, "bargain", "(II)I"⟩
abbrev cX10_years : ByteArray := prog_1_method_35_code
def yX10_years : MethodName := ⟨RX10, "years", "(II)I"⟩
abbrev cX10_keep : ByteArray := prog_1_method_36_code
def yX10_keep : MethodName := ⟨RX10, "keep", "(I)Z"⟩
abbrev cX10_again : ByteArray := prog_1_method_37_code
def yX10_again : MethodName := ⟨RX10, "again", "(I)Z"⟩
abbrev cX10_count : ByteArray := prog_1_method_38_code
def yX10_count : MethodName := ⟨RX10, "count", "(I)I"⟩
abbrev cX10_row : ByteArray := prog_1_method_39_code
def yX10_row : MethodName := ⟨RX10, "row", "(I)I"⟩
abbrev cX10_at : ByteArray := prog_1_method_40_code
def yX10_at : MethodName := ⟨RX10, "at", "([II)I"⟩
abbrev cX10_put : ByteArray := prog_1_method_41_code
def yX10_put : MethodName := ⟨RX10, "put", "([III)V"⟩
abbrev cX10_has : ByteArray := prog_1_method_42_code
def yX10_has : MethodName := ⟨RX10, "has", "(II)Z"⟩
abbrev cX10_firstOf : ByteArray := prog_1_method_43_code
def yX10_firstOf : MethodName := ⟨RX10, "firstOf", "(I)I"⟩
abbrev cX10_pressOf : ByteArray := prog_1_method_44_code
def yX10_pressOf : MethodName := ⟨RX10, "pressOf", "(II)I"⟩
abbrev cX10_embark : ByteArray := prog_1_method_45_code
def yX10_embark : MethodName := ⟨RX10, "embark", "(III)I"⟩
abbrev cX10_readRow : ByteArray := prog_1_method_46_code
def yX10_readRow : MethodName := ⟨RX10, "readRow", "()I"⟩
abbrev cX10_tellCrossing : ByteArray := prog_1_method_47_code
def yX10_tellCrossing : MethodName := ⟨RX10, "tellCrossing", "()I"⟩
abbrev cX10_remembered : ByteArray := prog_1_method_48_code
def yX10_remembered : MethodName := ⟨RX10, "remembered", "(I)I"⟩
abbrev cX10_gossip : ByteArray := prog_1_method_49_code
def yX10_gossip : MethodName := ⟨RX10, "gossip", "()I"⟩
abbrev cX10_sail : ByteArray := prog_1_method_50_code
def yX10_sail : MethodName := ⟨RX10, "sail", "()I"⟩
abbrev cX10_tellBothWays : ByteArray := prog_1_method_51_code
def yX10_tellBothWays : MethodName := ⟨RX10, "tellBothWays", "(I)V"⟩
abbrev cX10_leavesBank : ByteArray := prog_1_method_52_code
def yX10_leavesBank : MethodName := ⟨RX10, "leavesBank", "(I)Z"⟩
abbrev cX10_endsOn : ByteArray := prog_1_method_53_code
def yX10_endsOn : MethodName := ⟨RX10, "endsOn", "(I)Z"⟩
abbrev cX10_draw : ByteArray := prog_1_method_54_code
def yX10_draw : MethodName := ⟨RX10, "draw", "(I)I"⟩
abbrev cX10_crossesBy : ByteArray := prog_1_method_55_code
def yX10_crossesBy : MethodName := ⟨RX10, "crossesBy", "(II)Z"⟩
def RX11 : String := "WordsUnsaidModel"
def TX11 : u_T := fun k => match k with
  | 0 => ("WordsUnsaidModel", "now", "[I", true)
  | 1 => ("WordsUnsaidModel", "yards", "I", false)
  | 2 => ("WordsUnsaidModel", "islets", "I", false)
  | 3 => ("WordsUnsaidModel", "islet", "[I", true)
  | 4 => ("WordsUnsaidModel", "people", "I", false)
  | 5 => ("WordsUnsaidModel", "holds", "[I", true)
  | 6 => ("WordsUnsaidModel", "things", "I", false)
  | 7 => ("WordsUnsaidModel", "words", "[I", true)
  | 8 => ("WordsUnsaidModel", "press", "[I", true)
  | 9 => ("WordsUnsaidModel", "about", "[I", true)
  | 10 => ("WordsUnsaidModel", "text", "[B", true)
  | 11 => ("WordsUnsaidModel", "typed", "I", false)
  | 12 => ("WordsUnsaidModel", "row", "[I", true)
  | 13 => ("WordsUnsaidModel", "rowMany", "I", false)
  | 14 => ("WordsUnsaidModel", "thrown", "I", false)
  | 15 => ("WordsUnsaidModel", "read", "[B", false)
  | 16 => ("WordsUnsaidModel", "length", "I", false)
  | 17 => ("WordsUnsaidModel", "top", "I", false)
  | 18 => ("WordsUnsaidModel", "at", "I", false)
  | 19 => ("WordsUnsaidModel", "wrong", "I", false)
  | 20 => ("WordsUnsaidModel", "newIslets", "[I", true)
  | 21 => ("WordsUnsaidModel", "newPeople", "[I", true)
  | 22 => ("WordsUnsaidModel", "newThings", "[I", true)
  | 23 => ("WordsUnsaidModel", "newPeopleMany", "I", false)
  | 24 => ("WordsUnsaidModel", "newThingMany", "I", false)
  | 25 => ("WordsUnsaidModel", "rule", "[B", true)
  | 26 => ("WordsUnsaidModel", "ruleSize", "I", false)
  | 27 => ("WordsUnsaidModel", "isAsked", "Z", false)
  | 28 => ("WordsUnsaidModel", "asked", "[I", true)
  | 29 => ("WordsUnsaidModel", "line", "[I", true)
  | 30 => ("WordsUnsaidModel", "lineMany", "I", false)
  | 31 => ("WordsUnsaidModel", "crossed", "I", false)
  | 32 => ("WordsUnsaidModel", "burst", "I", false)
  | 33 => ("WordsUnsaidModel", "pressed", "I", false)
  | 34 => ("WordsUnsaidModel", "undos", "[I", true)
  | 35 => ("WordsUnsaidModel", "undoMany", "I", false)
  | 36 => ("WordsUnsaidModel", "aside", "[I", true)
  | 37 => ("WordsUnsaidModel", "then", "[I", true)
  | 38 => ("WordsUnsaidModel", "acts", "[I", true)
  | 39 => ("WordsUnsaidModel", "bursts", "I", false)
  | 40 => ("WordsUnsaidModel", "base", "[I", true)
  | 41 => ("WordsUnsaidModel", "rowAboard", "I", false)
  | 42 => ("WordsUnsaidModel", "rowFrom", "I", false)
  | 43 => ("WordsUnsaidModel", "rowBank", "I", false)
  | 44 => ("WordsUnsaidModel", "rowIslet", "I", false)
  | 45 => ("WordsUnsaidModel", "overMany", "I", false)
  | 46 => ("WordsUnsaidModel", "burstMany", "I", false)
  | 47 => ("WordsUnsaidModel", "shoreMany", "I", false)
  | 48 => ("WordsUnsaidModel", "shoreSaid", "[I", true)
  | 49 => ("WordsUnsaidModel", "leastShore", "[I", true)
  | 50 => ("WordsUnsaidModel", "leastShoreMany", "I", false)
  | 51 => ("WordsUnsaidModel", "there", "[I", true)
  | 52 => ("WordsUnsaidModel", "thereMany", "I", false)
  | 53 => ("WordsUnsaidModel", "afterwards", "[I", true)
  | 54 => ("WordsUnsaidModel", "with", "[I", true)
  | 55 => ("WordsUnsaidModel", "bestWith", "[I", true)
  | 56 => ("WordsUnsaidModel", "fewestBoats", "I", false)
  | 57 => ("WordsUnsaidModel", "boat", "[Z", true)
  | 58 => ("WordsUnsaidModel", "drawn", "I", false)
  | 59 => ("WordsUnsaidModel", "years", "[I", true)
  | 60 => ("WordsUnsaidModel", "came", "I", false)
  | 61 => ("WordsUnsaidModel", "kept", "[I", true)
  | 62 => ("WordsUnsaidModel", "isKept", "[Z", true)
  | _ => ("WordsUnsaidModel", "keptCame", "[I", true)
def tyX11 : Nat → FieldType := fun k => match k with
  | 0 => .array .int
  | 1 => .int
  | 2 => .int
  | 3 => .array .int
  | 4 => .int
  | 5 => .array .int
  | 6 => .int
  | 7 => .array .int
  | 8 => .array .int
  | 9 => .array .int
  | 10 => .array .byte
  | 11 => .int
  | 12 => .array .int
  | 13 => .int
  | 14 => .int
  | 15 => .array .byte
  | 16 => .int
  | 17 => .int
  | 18 => .int
  | 19 => .int
  | 20 => .array .int
  | 21 => .array .int
  | 22 => .array .int
  | 23 => .int
  | 24 => .int
  | 25 => .array .byte
  | 26 => .int
  | 27 => .boolean
  | 28 => .array .int
  | 29 => .array .int
  | 30 => .int
  | 31 => .int
  | 32 => .int
  | 33 => .int
  | 34 => .array .int
  | 35 => .int
  | 36 => .array .int
  | 37 => .array .int
  | 38 => .array .int
  | 39 => .int
  | 40 => .array .int
  | 41 => .int
  | 42 => .int
  | 43 => .int
  | 44 => .int
  | 45 => .int
  | 46 => .int
  | 47 => .int
  | 48 => .array .int
  | 49 => .array .int
  | 50 => .int
  | 51 => .array .int
  | 52 => .int
  | 53 => .array .int
  | 54 => .array .int
  | 55 => .array .int
  | 56 => .int
  | 57 => .array .boolean
  | 58 => .int
  | 59 => .array .int
  | 60 => .int
  | 61 => .array .int
  | 62 => .array .boolean
  | _ => .array .int
abbrev wsX110 : List Cond := u_ws RX11 TX11 64
theorem nmX11 : ∀ a, a < 64 → ∀ b, b < 64 → a ≠ b → (TX11 a).2.1 ≠ (TX11 b).2.1 := by decide +kernel
theorem tyX11_ok : ∀ k, k < 64 → parseFieldDescriptor (TX11 k).2.2.1 = some (tyX11 k) := by decide +kernel
abbrev cX11_init : ByteArray := prog_13_method_1_code
def yX11_init : MethodName := ⟨RX11, "<init>", "()V"⟩
abbrev cX11_thrown : ByteArray := prog_13_method_2_code
def yX11_thrown : MethodName := ⟨RX11, "thrown", "()I"⟩
abbrev cX11_in : ByteArray := prog_13_method_3_code
def yX11_in : MethodName := ⟨RX11, "in", "(III)Z"⟩
abbrev cX11_has : ByteArray := prog_13_method_4_code
def yX11_has : MethodName := ⟨RX11, "has", "(II)Z"⟩
abbrev cX11_lost : ByteArray := prog_13_method_5_code
def yX11_lost : MethodName := ⟨RX11, "lost", "()I"⟩
abbrev cX11_tell : ByteArray := prog_13_method_6_code
def yX11_tell : MethodName := ⟨RX11, "tell", "(I)V"⟩
abbrev cX11_isPerson : ByteArray := prog_13_method_7_code
def yX11_isPerson : MethodName := ⟨RX11, "isPerson", "(I)Z"⟩
abbrev cX11_isThing : ByteArray := prog_13_method_8_code
def yX11_isThing : MethodName := ⟨RX11, "isThing", "(I)Z"⟩
abbrev cX11_areTwo : ByteArray := prog_13_method_9_code
def yX11_areTwo : MethodName := ⟨RX11, "areTwo", "(II)Z"⟩
abbrev cX11_isPlace : ByteArray := prog_13_method_10_code
def yX11_isPlace : MethodName := ⟨RX11, "isPlace", "(I)Z"⟩
abbrev cX11_isBank : ByteArray := prog_13_method_11_code
def yX11_isBank : MethodName := ⟨RX11, "isBank", "(I)Z"⟩
abbrev cX11_yardOf : ByteArray := prog_13_method_12_code
def yX11_yardOf : MethodName := ⟨RX11, "yardOf", "(I)I"⟩
abbrev cX11_sign : ByteArray := prog_13_method_13_code
def yX11_sign : MethodName := ⟨RX11, "sign", "(I)I"⟩
abbrev cX11_end : ByteArray := prog_13_method_14_code
def yX11_end : MethodName := ⟨RX11, "end", "(I)Z"⟩
abbrev cX11_begin : ByteArray := prog_13_method_15_code
def yX11_begin : MethodName := ⟨RX11, "begin", "([BII)V"⟩
abbrev cX11_here : ByteArray := prog_13_method_16_code
def yX11_here : MethodName := ⟨RX11, "here", "()I"⟩
abbrev cX11_fine : ByteArray := prog_13_method_17_code
def yX11_fine : MethodName := ⟨RX11, "fine", "()Z"⟩
abbrev cX11_fault : ByteArray := prog_13_method_18_code
def yX11_fault : MethodName := ⟨RX11, "fault", "(I)V"⟩
abbrev cX11_passes : ByteArray := prog_13_method_19_code
def yX11_passes : MethodName := ⟨RX11, "passes", "(C)Z"⟩
abbrev cX11_need : ByteArray := prog_13_method_20_code
def yX11_need : MethodName := ⟨RX11, "need", "(C)V"⟩
abbrev cX11_digit : ByteArray := prog_13_method_21_code
def yX11_digit : MethodName := ⟨RX11, "digit", "(II)I"⟩
abbrev cX11_number : ByteArray := prog_13_method_22_code
def yX11_number : MethodName := ⟨RX11, "number", "(I)I"⟩
abbrev cX11_number_ : ByteArray := prog_13_method_23_code
def yX11_number_ : MethodName := ⟨RX11, "number", "(II)I"⟩
abbrev cX11_letter : ByteArray := prog_13_method_24_code
def yX11_letter : MethodName := ⟨RX11, "letter", "(CII)I"⟩
abbrev cX11_river : ByteArray := prog_13_method_25_code
def yX11_river : MethodName := ⟨RX11, "river", "()I"⟩
abbrev cX11_readLine : ByteArray := prog_13_method_26_code
def yX11_readLine : MethodName := ⟨RX11, "readLine", "()V"⟩
abbrev cX11_house : ByteArray := prog_13_method_27_code
def yX11_house : MethodName := ⟨RX11, "house", "()I"⟩
abbrev cX11_held : ByteArray := prog_13_method_28_code
def yX11_held : MethodName := ⟨RX11, "held", "(I)I"⟩
abbrev cX11_sum : ByteArray := prog_13_method_29_code
def yX11_sum : MethodName := ⟨RX11, "sum", "(I)I"⟩
abbrev cX11_product : ByteArray := prog_13_method_30_code
def yX11_product : MethodName := ⟨RX11, "product", "(I)I"⟩
abbrev cX11_letterOf : ByteArray := prog_13_method_31_code
def yX11_letterOf : MethodName := ⟨RX11, "letterOf", "(I)I"⟩
abbrev cX11_factor : ByteArray := prog_13_method_32_code
def yX11_factor : MethodName := ⟨RX11, "factor", "(I)I"⟩
abbrev cX11_rule : ByteArray := prog_13_method_33_code
def yX11_rule : MethodName := ⟨RX11, "rule", "()I"⟩
abbrev cX11_pressureOf : ByteArray := prog_13_method_34_code
def yX11_pressureOf : MethodName := ⟨RX11, "pressureOf", "([IIIII)I"⟩
abbrev cX11_peopleAt : ByteArray := prog_13_method_35_code
def yX11_peopleAt : MethodName := ⟨RX11, "peopleAt", "(I)I"⟩
abbrev cX11_thingsOf : ByteArray := prog_13_method_36_code
def yX11_thingsOf : MethodName := ⟨RX11, "thingsOf", "([II)I"⟩
abbrev cX11_knownBy : ByteArray := prog_13_method_37_code
def yX11_knownBy : MethodName := ⟨RX11, "knownBy", "(I)I"⟩
abbrev cX11_saidOnes : ByteArray := prog_13_method_38_code
def yX11_saidOnes : MethodName := ⟨RX11, "saidOnes", "([I)I"⟩
abbrev cX11_leftIn : ByteArray := prog_13_method_39_code
def yX11_leftIn : MethodName := ⟨RX11, "leftIn", "([II)I"⟩
abbrev cX11_unsaid : ByteArray := prog_13_method_40_code
def yX11_unsaid : MethodName := ⟨RX11, "unsaid", "([II)I"⟩
abbrev cX11_person : ByteArray := prog_13_method_41_code
def yX11_person : MethodName := ⟨RX11, "person", "(II)I"⟩
abbrev cX11_thing : ByteArray := prog_13_method_42_code
def yX11_thing : MethodName := ⟨RX11, "thing", "(II)I"⟩
abbrev cX11_islet : ByteArray := prog_13_method_43_code
def yX11_islet : MethodName := ⟨RX11, "islet", "(I)I"⟩
abbrev cX11_hold : ByteArray := prog_13_method_44_code
def yX11_hold : MethodName := ⟨RX11, "hold", "(II)I"⟩
abbrev cX11_sheet : ByteArray := prog_13_method_45_code
def yX11_sheet : MethodName := ⟨RX11, "sheet", "(IIII)I"⟩
abbrev cX11_distance : ByteArray := prog_13_method_46_code
def yX11_distance : MethodName := ⟨RX11, "distance", "(II)I"⟩
abbrev cX11_goes : ByteArray := prog_13_method_47_code
def yX11_goes : MethodName := ⟨RX11, "goes", "([IIII)Z"⟩
abbrev cX11_put : ByteArray := prog_13_method_48_code
def yX11_put : MethodName := ⟨RX11, "put", "([III)V"⟩
abbrev cX11_stranded : ByteArray := prog_13_method_49_code
def yX11_stranded : MethodName := ⟨RX11, "stranded", "(II)I"⟩
abbrev cX11_wordsIn : ByteArray := prog_13_method_50_code
def yX11_wordsIn : MethodName := ⟨RX11, "wordsIn", "([I)I"⟩
abbrev cX11_lay : ByteArray := prog_13_method_51_code
def yX11_lay : MethodName := ⟨RX11, "lay", "([I[II)V"⟩
abbrev cX11_remember : ByteArray := prog_13_method_52_code
def yX11_remember : MethodName := ⟨RX11, "remember", "([I)V"⟩
abbrev cX11_aboardOf : ByteArray := prog_13_method_53_code
def yX11_aboardOf : MethodName := ⟨RX11, "aboardOf", "(III)I"⟩
abbrev cX11_canLine : ByteArray := prog_13_method_54_code
def yX11_canLine : MethodName := ⟨RX11, "canLine", "([III)Z"⟩
abbrev cX11_readLine0 : ByteArray := prog_13_method_55_code
def yX11_readLine0 : MethodName := ⟨RX11, "readLine0", "(III)I"⟩
abbrev cX11_tellCross : ByteArray := prog_13_method_56_code
def yX11_tellCross : MethodName := ⟨RX11, "tellCross", "([II)V"⟩
abbrev cX11_cross : ByteArray := prog_13_method_57_code
def yX11_cross : MethodName := ⟨RX11, "cross", "(III)I"⟩
abbrev cX11_look : ByteArray := prog_13_method_58_code
def yX11_look : MethodName := ⟨RX11, "look", "(III)I"⟩
abbrev cX11_refusesSay : ByteArray := prog_13_method_59_code
def yX11_refusesSay : MethodName := ⟨RX11, "refusesSay", "(II)I"⟩
abbrev cX11_goSay : ByteArray := prog_13_method_60_code
def yX11_goSay : MethodName := ⟨RX11, "goSay", "(II)I"⟩
abbrev cX11_say : ByteArray := prog_13_method_61_code
def yX11_say : MethodName := ⟨RX11, "say", "(II)I"⟩
abbrev cX11_refusesWhisper : ByteArray := prog_13_method_62_code
def yX11_refusesWhisper : MethodName := ⟨RX11, "refusesWhisper", "(III)I"⟩
abbrev cX11_goWhisper : ByteArray := prog_13_method_63_code
def yX11_goWhisper : MethodName := ⟨RX11, "goWhisper", "(II)I"⟩
abbrev cX11_whisper : ByteArray := prog_13_method_64_code
def yX11_whisper : MethodName := ⟨RX11, "whisper", "(III)I"⟩
abbrev cX11_priceOf : ByteArray := prog_13_method_65_code
def yX11_priceOf : MethodName := ⟨RX11, "priceOf", "(I)I"⟩
abbrev cX11_refusesSell : ByteArray := prog_13_method_66_code
def yX11_refusesSell : MethodName := ⟨RX11, "refusesSell", "(III)I"⟩
abbrev cX11_goSell : ByteArray := prog_13_method_67_code
def yX11_goSell : MethodName := ⟨RX11, "goSell", "(III)I"⟩
abbrev cX11_sell : ByteArray := prog_13_method_68_code
def yX11_sell : MethodName := ⟨RX11, "sell", "(III)I"⟩
abbrev cX11_day : ByteArray := prog_13_method_69_code
def yX11_day : MethodName := ⟨RX11, "day", "()I"⟩
abbrev cX11_readAct : ByteArray := prog_13_method_70_code
def yX11_readAct : MethodName := ⟨RX11, "readAct", "(I)V"⟩
abbrev cX11_act : ByteArray := prog_13_method_71_code
def yX11_act : MethodName := ⟨RX11, "act", "(I)Z"⟩
abbrev cX11_actCross : ByteArray := prog_13_method_72_code
def yX11_actCross : MethodName := ⟨RX11, "actCross", "(IIII)Z"⟩
abbrev cX11_undo : ByteArray := prog_13_method_73_code
def yX11_undo : MethodName := ⟨RX11, "undo", "()I"⟩
abbrev cX11_far : ByteArray := prog_13_method_74_code
def yX11_far : MethodName := ⟨RX11, "far", "(II)I"⟩
abbrev cX11_keeps : ByteArray := prog_13_method_75_code
def yX11_keeps : MethodName := ⟨RX11, "keeps", "(II)I"⟩
abbrev cX11_beginRows : ByteArray := prog_13_method_76_code
def yX11_beginRows : MethodName := ⟨RX11, "beginRows", "([IIII)V"⟩
abbrev cX11_goRows : ByteArray := prog_13_method_77_code
def yX11_goRows : MethodName := ⟨RX11, "goRows", "(II)Z"⟩
abbrev cX11_goRow : ByteArray := prog_13_method_78_code
def yX11_goRow : MethodName := ⟨RX11, "goRow", "(II)Z"⟩
abbrev cX11_endRow : ByteArray := prog_13_method_79_code
def yX11_endRow : MethodName := ⟨RX11, "endRow", "(I)Z"⟩
abbrev cX11_isLineLess : ByteArray := prog_13_method_80_code
def yX11_isLineLess : MethodName := ⟨RX11, "isLineLess", "()Z"⟩
abbrev cX11_leastRow : ByteArray := prog_13_method_81_code
def yX11_leastRow : MethodName := ⟨RX11, "leastRow", "([IIIII)I"⟩
abbrev cX11_canGo : ByteArray := prog_13_method_82_code
def yX11_canGo : MethodName := ⟨RX11, "canGo", "(II)Z"⟩
abbrev cX11_fewest : ByteArray := prog_13_method_83_code
def yX11_fewest : MethodName := ⟨RX11, "fewest", "(II)I"⟩
abbrev cX11_rows : ByteArray := prog_13_method_84_code
def yX11_rows : MethodName := ⟨RX11, "rows", "(II)I"⟩
abbrev cX11_goBack : ByteArray := prog_13_method_85_code
def yX11_goBack : MethodName := ⟨RX11, "goBack", "(IIII)Z"⟩
abbrev cX11_isFree : ByteArray := prog_13_method_86_code
def yX11_isFree : MethodName := ⟨RX11, "isFree", "(II)Z"⟩
abbrev cX11_back : ByteArray := prog_13_method_87_code
def yX11_back : MethodName := ⟨RX11, "back", "(II)I"⟩
abbrev cX11_exact : ByteArray := prog_13_method_88_code
def yX11_exact : MethodName := ⟨RX11, "exact", "(II)I"⟩
abbrev cX11_chance : ByteArray := prog_13_method_89_code
def yX11_chance : MethodName := ⟨RX11, "chance", "(II)I"⟩
abbrev cX11_goParty : ByteArray := prog_13_method_90_code
def yX11_goParty : MethodName := ⟨RX11, "goParty", "(III)V"⟩
abbrev cX11_party : ByteArray := prog_13_method_91_code
def yX11_party : MethodName := ⟨RX11, "party", "(I)I"⟩
abbrev cX11_pool : ByteArray := prog_13_method_92_code
def yX11_pool : MethodName := ⟨RX11, "pool", "(II)I"⟩
abbrev cX11_known : ByteArray := prog_13_method_93_code
def yX11_known : MethodName := ⟨RX11, "known", "(I)I"⟩
abbrev cX11_sayable : ByteArray := prog_13_method_94_code
def yX11_sayable : MethodName := ⟨RX11, "sayable", "(I)I"⟩
abbrev cX11_apart : ByteArray := prog_13_method_95_code
def yX11_apart : MethodName := ⟨RX11, "apart", "()I"⟩
abbrev cX11_spared : ByteArray := prog_13_method_96_code
def yX11_spared : MethodName := ⟨RX11, "spared", "()I"⟩
abbrev cX11_findShore : ByteArray := prog_13_method_97_code
def yX11_findShore : MethodName := ⟨RX11, "findShore", "(II)Z"⟩
abbrev cX11_ashore : ByteArray := prog_13_method_98_code
def yX11_ashore : MethodName := ⟨RX11, "ashore", "(II)I"⟩
abbrev cX11_about : ByteArray := prog_13_method_99_code
def yX11_about : MethodName := ⟨RX11, "about", "(II)I"⟩
abbrev cX11_bargain : ByteArray := prog_13_method_100_code
def yX11_bargain : MethodName := ⟨RX11, "bargain", "(II)I"⟩
abbrev cX11_draw : ByteArray := prog_13_method_101_code
def yX11_draw : MethodName := ⟨RX11, "draw", "(I)I"⟩
abbrev cX11_years : ByteArray := prog_13_method_102_code
def yX11_years : MethodName := ⟨RX11, "years", "(II)I"⟩
abbrev cX11_keep : ByteArray := prog_13_method_103_code
def yX11_keep : MethodName := ⟨RX11, "keep", "(I)Z"⟩
abbrev cX11_again : ByteArray := prog_13_method_104_code
def yX11_again : MethodName := ⟨RX11, "again", "(I)Z"⟩
abbrev cX11_count : ByteArray := prog_13_method_105_code
def yX11_count : MethodName := ⟨RX11, "count", "(I)I"⟩
abbrev cX11_row : ByteArray := prog_13_method_106_code
def yX11_row : MethodName := ⟨RX11, "row", "(I)I"⟩
def RJ6 : String := "java/lang/Integer"
abbrev cJ6_numberOfTrailingZeros_0f7a4 : ByteArray := prog_16_method_48_code
def yJ6_numberOfTrailingZeros_0f7a4 : MethodName := ⟨RJ6, "numberOfTrailingZeros", "(I)I"⟩
abbrev cJ6_bitCount_0f7a4 : ByteArray := prog_16_method_49_code
def yJ6_bitCount_0f7a4 : MethodName := ⟨RJ6, "bitCount", "(I)I"⟩
def RL : String := "WordsUnsaidLaw"
def px_cl : List vw_C := [(RX0, TX0, 7), (RX1, TX1, 14), (RX2, TX2, 3), (RX3, TX3, 14), (RX4, TX4, 4), (RX5, TX5, 4), (RX6, TX6, 15), (RX7, TX7, 2), (RX8, TX8, 5), (RX9, TX9, 13), (RX10, TX10, 12), (RX11, TX11, 64)]
/-- a row a cell: kind (0 ints, 1 bytes, 2 chars, 3 booleans, 10 and more: an object of that class), how many, what isn't an int: the cell that a field always names, 1000: a row of bytes that changes, 1001: a boolean -/
def px_lay : List (Nat × Nat × List (Nat × Nat)) := [
  (20, 12, [(0, 1), (1, 3), (2, 14), (3, 17), (4, 22), (5, 25), (6, 33), (7, 41), (8, 43), (9, 45), (10, 47)]) /- 0 x -/,
  (18, 5, [(0, 2)]) /- 1 text -/,
  (2, 80, []) /- 2 text.signs -/,
  (13, 14, [(0, 4), (1, 5), (2, 6), (3, 7), (4, 8), (5, 9), (6, 10), (7, 11), (8, 12), (9, 13)]) /- 3 house -/,
  (0, 6, []) /- 4 house.hold -/,
  (0, 6, []) /- 5 house.place -/,
  (0, 6, []) /- 6 house.coins -/,
  (0, 10, []) /- 7 house.words -/,
  (0, 10, []) /- 8 house.left -/,
  (0, 10, []) /- 9 house.press -/,
  (0, 10, []) /- 10 house.whose -/,
  (0, 10, []) /- 11 house.about -/,
  (0, 10, []) /- 12 house.said -/,
  (0, 10, []) /- 13 house.knows -/,
  (15, 4, [(0, 15), (1, 16)]) /- 14 river -/,
  (0, 5, []) /- 15 river.islets -/,
  (0, 5, []) /- 16 river.fresh -/,
  (16, 15, [(0, 18), (1, 19), (2, 20), (3, 21)]) /- 17 rule -/,
  (0, 40, []) /- 18 rule.codes -/,
  (0, 40, []) /- 19 rule.fresh -/,
  (0, 40, []) /- 20 rule.waiting -/,
  (3, 5, []) /- 21 rule.compared -/,
  (11, 14, [(0, 3), (1, 14), (2, 17), (3, 23), (4, 24)]) /- 22 crossing -/,
  (0, 6, []) /- 23 crossing.row -/,
  (0, 6, []) /- 24 crossing.used -/,
  (19, 13, [(0, 3), (1, 22), (2, 26), (3, 27), (4, 28), (5, 29), (6, 30), (7, 31), (8, 32)]) /- 25 way -/,
  (0, 10, []) /- 26 way.left -/,
  (0, 4, []) /- 27 way.row -/,
  (0, 4, []) /- 28 way.best -/,
  (0, 4, []) /- 29 way.yards -/,
  (0, 4, []) /- 30 way.words -/,
  (0, 4, []) /- 31 way.said -/,
  (0, 10, []) /- 32 way.counts -/,
  (19, 13, [(0, 3), (1, 22), (2, 34), (3, 35), (4, 36), (5, 37), (6, 38), (7, 39), (8, 40)]) /- 33 home -/,
  (0, 10, []) /- 34 home.left -/,
  (0, 4, []) /- 35 home.row -/,
  (0, 4, []) /- 36 home.best -/,
  (0, 4, []) /- 37 home.yards -/,
  (0, 4, []) /- 38 home.words -/,
  (0, 4, []) /- 39 home.said -/,
  (0, 10, []) /- 40 home.counts -/,
  (14, 4, [(0, 42)]) /- 41 memory -/,
  (0, 780, []) /- 42 memory.store -/,
  (10, 7, [(0, 44)]) /- 43 act -/,
  (0, 6, []) /- 44 act.row -/,
  (17, 2, [(0, 46)]) /- 45 tale -/,
  (0, 10, []) /- 46 tale.numbers -/,
  (12, 3, [(0, 48), (1, 49), (2, 50)]) /- 47 fleet -/,
  (0, 6, []) /- 48 fleet.partners -/,
  (0, 64, []) /- 49 fleet.boats -/,
  (0, 6, []) /- 50 fleet.with -/,
  (21, 64, [(0, 52), (3, 53), (5, 54), (7, 55), (8, 56), (9, 57), (10, 58), (12, 59), (15, 1000), (20, 60), (21, 61), (22, 62), (25, 63), (27, 1001), (28, 64), (29, 65), (34, 66), (36, 67), (37, 68), (38, 69), (40, 70), (48, 71), (49, 72), (51, 73), (53, 74), (54, 75), (55, 76), (57, 77), (59, 78), (61, 79), (62, 80), (63, 81)]) /- 51 m -/,
  (0, 52, []) /- 52 m.now -/,
  (0, 5, []) /- 53 m.islet -/,
  (0, 6, []) /- 54 m.holds -/,
  (0, 10, []) /- 55 m.words -/,
  (0, 10, []) /- 56 m.press -/,
  (0, 10, []) /- 57 m.about -/,
  (1, 80, []) /- 58 m.text -/,
  (0, 16, []) /- 59 m.row -/,
  (0, 5, []) /- 60 m.newIslets -/,
  (0, 12, []) /- 61 m.newPeople -/,
  (0, 40, []) /- 62 m.newThings -/,
  (1, 40, []) /- 63 m.rule -/,
  (0, 7, []) /- 64 m.asked -/,
  (0, 6, []) /- 65 m.line -/,
  (0, 624, []) /- 66 m.undos -/,
  (0, 52, []) /- 67 m.aside -/,
  (0, 52, []) /- 68 m.then -/,
  (0, 880, []) /- 69 m.acts -/,
  (0, 52, []) /- 70 m.base -/,
  (0, 10, []) /- 71 m.shoreSaid -/,
  (0, 3, []) /- 72 m.leastShore -/,
  (0, 3, []) /- 73 m.there -/,
  (0, 52, []) /- 74 m.afterwards -/,
  (0, 6, []) /- 75 m.with -/,
  (0, 6, []) /- 76 m.bestWith -/,
  (3, 36, []) /- 77 m.boat -/,
  (0, 52, []) /- 78 m.years -/,
  (0, 104, []) /- 79 m.kept -/,
  (3, 2, []) /- 80 m.isKept -/,
  (0, 2, []) /- 81 m.keptCame -/]
def px_N : Nat := 82
abbrev px_MI : Type := MethodName × ByteArray × Nat × Option FieldType × Bool × Nat × Nat
def px_mt : List px_MI := [
  (yX0_check, prog_2_method_2_code, 3, (some .int), false, 1, 0) /- 0 -/,
  (yX0_isCrossing, prog_2_method_3_code, 1, (some .boolean), false, 0, 0) /- 1 -/,
  (yX0_readNext, prog_2_method_4_code, 2, (some .boolean), false, 1, 0) /- 2 -/,
  (yX0_readCrossing, prog_2_method_5_code, 2, (some .boolean), false, 1, 0) /- 3 -/,
  (yX0_readThings, prog_2_method_6_code, 4, (some .boolean), false, 1, 0) /- 4 -/,
  (yX1_begin, prog_3_method_2_code, 6, (some .boolean), false, 3, 1) /- 5 -/,
  (yX1_load, prog_3_method_3_code, 4, none, false, 3, 1) /- 6 -/,
  (yX1_take, prog_3_method_4_code, 3, (some .boolean), false, 1, 1) /- 7 -/,
  (yX1_hasWords, prog_3_method_5_code, 3, (some .boolean), false, 0, 1) /- 8 -/,
  (yX1_go, prog_3_method_6_code, 6, none, false, 0, 1) /- 9 -/,
  (yX1_settle, prog_3_method_7_code, 3, none, false, 0, 1) /- 10 -/,
  (yX1_consider, prog_3_method_8_code, 2, none, false, 1, 1) /- 11 -/,
  (yX1_kept, prog_3_method_9_code, 7, (some .int), false, 4, 1) /- 12 -/,
  (yX1_oddsOfTen, prog_3_method_10_code, 8, (some .int), false, 3, 1) /- 13 -/,
  (yX2_clear, prog_4_method_2_code, 2, none, false, 0, 2) /- 14 -/,
  (yX2_pair, prog_4_method_3_code, 4, none, false, 3, 2) /- 15 -/,
  (yX2_countBoats, prog_4_method_4_code, 6, (some .int), false, 1, 2) /- 16 -/,
  (yX2_without, prog_4_method_5_code, 3, (some .int), true, 3, 2) /- 17 -/,
  (yX2_tellBoats, prog_4_method_6_code, 6, none, false, 2, 2) /- 18 -/,
  (yX2_firstPartner, prog_4_method_7_code, 4, (some .int), false, 2, 2) /- 19 -/,
  (yX3_read, prog_5_method_2_code, 3, (some .int), false, 1, 3) /- 20 -/,
  (yX3_moveIn, prog_5_method_3_code, 2, (some .int), false, 1, 3) /- 21 -/,
  (yX3_readLine, prog_5_method_4_code, 2, (some .boolean), false, 1, 3) /- 22 -/,
  (yX3_readPerson, prog_5_method_5_code, 4, (some .boolean), false, 1, 3) /- 23 -/,
  (yX3_readThing, prog_5_method_6_code, 6, (some .boolean), false, 1, 3) /- 24 -/,
  (yX3_hasPerson, prog_5_method_7_code, 2, (some .boolean), false, 1, 3) /- 25 -/,
  (yX3_hasThing, prog_5_method_8_code, 2, (some .boolean), false, 1, 3) /- 26 -/,
  (yX3_peopleAt, prog_5_method_9_code, 4, (some .int), false, 1, 3) /- 27 -/,
  (yX3_onIslets, prog_5_method_10_code, 1, (some .int), false, 0, 3) /- 28 -/,
  (yX3_placeOfAll, prog_5_method_11_code, 3, (some .int), false, 1, 3) /- 29 -/,
  (yX3_thingsOf, prog_5_method_12_code, 4, (some .int), false, 1, 3) /- 30 -/,
  (yX3_isUnsaidOf, prog_5_method_13_code, 3, (some .boolean), false, 2, 3) /- 31 -/,
  (yX3_unsaidOf, prog_5_method_14_code, 4, (some .int), false, 1, 3) /- 32 -/,
  (yX3_saidThings, prog_5_method_15_code, 3, (some .int), false, 0, 3) /- 33 -/,
  (yX3_knownBy, prog_5_method_16_code, 4, (some .int), false, 1, 3) /- 34 -/,
  (yX3_knownAt, prog_5_method_17_code, 5, (some .int), false, 1, 3) /- 35 -/,
  (yX3_wordsLeft, prog_5_method_18_code, 4, (some .int), false, 1, 3) /- 36 -/,
  (yX3_knowersOfThingsAbout, prog_5_method_19_code, 5, (some .int), false, 1, 3) /- 37 -/,
  (yX3_owns, prog_5_method_20_code, 3, (some .boolean), false, 2, 3) /- 38 -/,
  (yX3_mayKeepBack, prog_5_method_21_code, 3, (some .boolean), false, 2, 3) /- 39 -/,
  (yX3_areTwo, prog_5_method_22_code, 3, (some .boolean), false, 2, 3) /- 40 -/,
  (yX3_areTogether, prog_5_method_23_code, 3, (some .boolean), false, 2, 3) /- 41 -/,
  (yX3_newTo, prog_5_method_24_code, 3, (some .int), false, 2, 3) /- 42 -/,
  (yX3_whyNotSay, prog_5_method_25_code, 4, (some .int), false, 2, 3) /- 43 -/,
  (yX3_speak, prog_5_method_26_code, 5, (some .int), false, 2, 3) /- 44 -/,
  (yX3_passOn, prog_5_method_27_code, 5, (some .int), false, 3, 3) /- 45 -/,
  (yX3_tellTo, prog_5_method_28_code, 3, none, false, 2, 3) /- 46 -/,
  (yX3_move, prog_5_method_29_code, 4, none, false, 2, 3) /- 47 -/,
  (yX3_price, prog_5_method_30_code, 2, (some .int), false, 1, 3) /- 48 -/,
  (yX3_whyNotSell, prog_5_method_31_code, 6, (some .int), false, 3, 3) /- 49 -/,
  (yX3_trade, prog_5_method_32_code, 6, (some .int), false, 3, 3) /- 50 -/,
  (yX3_save, prog_5_method_33_code, 5, none, false, 2, 3) /- 51 -/,
  (yX3_load, prog_5_method_34_code, 5, none, false, 2, 3) /- 52 -/,
  (yX4_stage, prog_6_method_2_code, 2, none, false, 1, 4) /- 53 -/,
  (yX4_unstage, prog_6_method_3_code, 2, none, false, 1, 4) /- 54 -/,
  (yX4_commit, prog_6_method_4_code, 1, none, false, 0, 4) /- 55 -/,
  (yX4_takeBack, prog_6_method_5_code, 2, (some .boolean), false, 1, 4) /- 56 -/,
  (yX4_forgetAll, prog_6_method_6_code, 1, none, false, 0, 4) /- 57 -/,
  (yX4_keepUnder, prog_6_method_7_code, 3, (some .boolean), false, 2, 4) /- 58 -/,
  (yX4_bringBack, prog_6_method_8_code, 3, (some .boolean), false, 2, 4) /- 59 -/,
  (yX5_read, prog_7_method_2_code, 6, (some .int), false, 1, 5) /- 60 -/,
  (yX5_hasIslet, prog_7_method_3_code, 2, (some .boolean), false, 1, 5) /- 61 -/,
  (yX5_hasPlace, prog_7_method_4_code, 2, (some .boolean), false, 1, 5) /- 62 -/,
  (yX5_yardOf, prog_7_method_5_code, 2, (some .int), false, 1, 5) /- 63 -/,
  (yX5_between, prog_7_method_6_code, 4, (some .int), false, 2, 5) /- 64 -/,
  (yX5_landing, prog_7_method_7_code, 10, (some .int), false, 3, 5) /- 65 -/,
  (yX6_read, prog_8_method_2_code, 3, (some .int), false, 1, 6) /- 66 -/,
  (yX6_readExpression, prog_8_method_3_code, 3, (some .boolean), false, 1, 6) /- 67 -/,
  (yX6_readThing, prog_8_method_4_code, 3, (some .boolean), false, 1, 6) /- 68 -/,
  (yX6_closeParentheses, prog_8_method_5_code, 3, none, false, 1, 6) /- 69 -/,
  (yX6_readJoint, prog_8_method_6_code, 4, (some .boolean), false, 1, 6) /- 70 -/,
  (yX6_isLetter, prog_8_method_7_code, 1, (some .boolean), true, 1, 6) /- 71 -/,
  (yX6_bondOf, prog_8_method_8_code, 1, (some .int), true, 1, 6) /- 72 -/,
  (yX6_compare, prog_8_method_9_code, 2, none, false, 1, 6) /- 73 -/,
  (yX6_isCompared, prog_8_method_10_code, 1, (some .boolean), false, 0, 6) /- 74 -/,
  (yX6_write, prog_8_method_11_code, 2, none, false, 1, 6) /- 75 -/,
  (yX6_defer, prog_8_method_12_code, 2, none, false, 1, 6) /- 76 -/,
  (yX6_writeWaiting, prog_8_method_13_code, 4, none, false, 1, 6) /- 77 -/,
  (yX6_pressure, prog_8_method_14_code, 7, (some .int), false, 3, 6) /- 78 -/,
  (yX6_fact, prog_8_method_15_code, 2, (some .int), false, 1, 6) /- 79 -/,
  (yX6_join, prog_8_method_16_code, 3, (some .int), true, 3, 6) /- 80 -/,
  (yX7_clear, prog_9_method_2_code, 1, none, false, 0, 7) /- 81 -/,
  (yX7_add, prog_9_method_3_code, 2, none, false, 1, 7) /- 82 -/,
  (yX7_tell, prog_9_method_4_code, 2, none, false, 1, 7) /- 83 -/,
  (yX7_tell_, prog_9_method_5_code, 3, none, false, 2, 7) /- 84 -/,
  (yX7_tell__, prog_9_method_6_code, 4, none, false, 3, 7) /- 85 -/,
  (yX8_add, prog_10_method_2_code, 3, (some .boolean), false, 1, 8) /- 86 -/,
  (yX8_cut, prog_10_method_3_code, 2, (some .boolean), false, 1, 8) /- 87 -/,
  (yX8_open, prog_10_method_4_code, 2, none, false, 1, 8) /- 88 -/,
  (yX8_next, prog_10_method_5_code, 1, (some .int), false, 0, 8) /- 89 -/,
  (yX8_skip, prog_10_method_6_code, 1, none, false, 0, 8) /- 90 -/,
  (yX8_meet, prog_10_method_7_code, 2, (some .boolean), false, 1, 8) /- 91 -/,
  (yX8_take, prog_10_method_8_code, 2, (some .boolean), false, 1, 8) /- 92 -/,
  (yX8_refuse, prog_10_method_9_code, 1, (some .boolean), false, 0, 8) /- 93 -/,
  (yX8_refuseLast, prog_10_method_10_code, 1, (some .boolean), false, 0, 8) /- 94 -/,
  (yX8_answer, prog_10_method_11_code, 1, (some .int), false, 0, 8) /- 95 -/,
  (yX8_closes, prog_10_method_12_code, 1, (some .boolean), false, 0, 8) /- 96 -/,
  (yX8_isDigit, prog_10_method_13_code, 1, (some .boolean), false, 0, 8) /- 97 -/,
  (yX8_number, prog_10_method_14_code, 6, (some .int), false, 3, 8) /- 98 -/,
  (yX8_letter, prog_10_method_15_code, 4, (some .int), false, 2, 8) /- 99 -/,
  (yX9_start, prog_11_method_2_code, 3, none, false, 1, 9) /- 100 -/,
  (yX9_startOnLeft, prog_11_method_3_code, 4, none, false, 1, 9) /- 101 -/,
  (yX9_leaveTo, prog_11_method_4_code, 5, none, false, 1, 9) /- 102 -/,
  (yX9_next, prog_11_method_5_code, 5, (some .boolean), false, 1, 9) /- 103 -/,
  (yX9_drop, prog_11_method_6_code, 2, (some .int), false, 0, 9) /- 104 -/,
  (yX9_usableFrom, prog_11_method_7_code, 3, (some .int), false, 1, 9) /- 105 -/,
  (yX9_add, prog_11_method_8_code, 8, none, false, 1, 9) /- 106 -/,
  (yX9_canReach, prog_11_method_9_code, 2, (some .boolean), false, 0, 9) /- 107 -/,
  (yX9_crossed, prog_11_method_10_code, 1, (some .int), false, 0, 9) /- 108 -/,
  (yX9_saidThing, prog_11_method_11_code, 1, (some .int), false, 0, 9) /- 109 -/,
  (yX9_isUnderWay, prog_11_method_12_code, 1, (some .boolean), false, 0, 9) /- 110 -/,
  (yX9_isOver, prog_11_method_13_code, 1, (some .boolean), false, 0, 9) /- 111 -/,
  (yX9_isBurst, prog_11_method_14_code, 1, (some .boolean), false, 0, 9) /- 112 -/,
  (yX9_findShortest, prog_11_method_15_code, 4, (some .int), false, 0, 9) /- 113 -/,
  (yX9_copyToBest, prog_11_method_16_code, 2, none, false, 0, 9) /- 114 -/,
  (yX9_tellBest, prog_11_method_17_code, 4, none, false, 2, 9) /- 115 -/,
  (yX9_tellRow, prog_11_method_18_code, 3, none, false, 1, 9) /- 116 -/,
  (yX9_clearCounts, prog_11_method_19_code, 2, none, false, 0, 9) /- 117 -/,
  (yX9_countSaid, prog_11_method_20_code, 1, none, false, 0, 9) /- 118 -/,
  (yX9_tellCounts, prog_11_method_21_code, 4, (some .int), false, 1, 9) /- 119 -/,
  (yX10_sign, prog_1_method_2_code, 2, (some .int), false, 1, 10) /- 120 -/,
  (yX10_end, prog_1_method_3_code, 2, (some .boolean), false, 1, 10) /- 121 -/,
  (yX10_river, prog_1_method_4_code, 2, (some .int), false, 0, 10) /- 122 -/,
  (yX10_house, prog_1_method_5_code, 2, (some .int), false, 0, 10) /- 123 -/,
  (yX10_rule, prog_1_method_6_code, 2, (some .int), false, 0, 10) /- 124 -/,
  (yX10_person, prog_1_method_7_code, 3, (some .int), false, 2, 10) /- 125 -/,
  (yX10_thing, prog_1_method_8_code, 3, (some .int), false, 2, 10) /- 126 -/,
  (yX10_islet, prog_1_method_9_code, 2, (some .int), false, 1, 10) /- 127 -/,
  (yX10_hold, prog_1_method_10_code, 4, (some .int), false, 2, 10) /- 128 -/,
  (yX10_sheet, prog_1_method_11_code, 9, (some .int), false, 4, 10) /- 129 -/,
  (yX10_cross, prog_1_method_12_code, 5, (some .int), false, 3, 10) /- 130 -/,
  (yX10_look, prog_1_method_13_code, 5, (some .int), false, 3, 10) /- 131 -/,
  (yX10_say, prog_1_method_14_code, 3, (some .int), false, 2, 10) /- 132 -/,
  (yX10_whisper, prog_1_method_15_code, 4, (some .int), false, 3, 10) /- 133 -/,
  (yX10_sell, prog_1_method_16_code, 4, (some .int), false, 3, 10) /- 134 -/,
  (yX10_day, prog_1_method_17_code, 7, (some .int), false, 0, 10) /- 135 -/,
  (yX10_undo, prog_1_method_18_code, 1, (some .int), false, 0, 10) /- 136 -/,
  (yX10_far, prog_1_method_19_code, 3, (some .int), false, 2, 10) /- 137 -/,
  (yX10_keeps, prog_1_method_20_code, 6, (some .int), false, 2, 10) /- 138 -/,
  (yX10_fewest, prog_1_method_21_code, 4, (some .int), false, 2, 10) /- 139 -/,
  (yX10_rows, prog_1_method_22_code, 6, (some .int), false, 2, 10) /- 140 -/,
  (yX10_back, prog_1_method_23_code, 9, (some .int), false, 2, 10) /- 141 -/,
  (yX10_exact, prog_1_method_24_code, 9, (some .int), false, 2, 10) /- 142 -/,
  (yX10_chance, prog_1_method_25_code, 13, (some .int), false, 2, 10) /- 143 -/,
  (yX10_party, prog_1_method_26_code, 5, (some .int), false, 1, 10) /- 144 -/,
  (yX10_pool, prog_1_method_27_code, 9, (some .int), false, 2, 10) /- 145 -/,
  (yX10_known, prog_1_method_28_code, 5, (some .int), false, 1, 10) /- 146 -/,
  (yX10_sayable, prog_1_method_29_code, 5, (some .int), false, 1, 10) /- 147 -/,
  (yX10_apart, prog_1_method_30_code, 3, (some .int), false, 0, 10) /- 148 -/,
  (yX10_spared, prog_1_method_31_code, 5, (some .int), false, 0, 10) /- 149 -/,
  (yX10_ashore, prog_1_method_32_code, 5, (some .int), false, 2, 10) /- 150 -/,
  (yX10_about, prog_1_method_33_code, 4, (some .int), false, 2, 10) /- 151 -/,
  (yX10_bargain, prog_1_method_34_code, 9, (some .int), false, 2, 10) /- 152 -/,
  (yX10_years, prog_1_method_35_code, 8, (some .int), false, 2, 10) /- 153 -/,
  (yX10_keep, prog_1_method_36_code, 2, (some .boolean), false, 1, 10) /- 154 -/,
  (yX10_again, prog_1_method_37_code, 2, (some .boolean), false, 1, 10) /- 155 -/,
  (yX10_count, prog_1_method_38_code, 2, (some .int), false, 1, 10) /- 156 -/,
  (yX10_row, prog_1_method_39_code, 2, (some .int), false, 1, 10) /- 157 -/,
  (yX10_at, prog_1_method_40_code, 2, (some .int), true, 2, 10) /- 158 -/,
  (yX10_put, prog_1_method_41_code, 3, none, true, 3, 10) /- 159 -/,
  (yX10_has, prog_1_method_42_code, 2, (some .boolean), true, 2, 10) /- 160 -/,
  (yX10_firstOf, prog_1_method_43_code, 2, (some .int), true, 1, 10) /- 161 -/,
  (yX10_pressOf, prog_1_method_44_code, 3, (some .int), true, 2, 10) /- 162 -/,
  (yX10_embark, prog_1_method_45_code, 5, (some .int), false, 3, 10) /- 163 -/,
  (yX10_readRow, prog_1_method_46_code, 2, (some .int), false, 0, 10) /- 164 -/,
  (yX10_tellCrossing, prog_1_method_47_code, 1, (some .int), false, 0, 10) /- 165 -/,
  (yX10_remembered, prog_1_method_48_code, 2, (some .int), false, 1, 10) /- 166 -/,
  (yX10_gossip, prog_1_method_49_code, 1, (some .int), false, 0, 10) /- 167 -/,
  (yX10_sail, prog_1_method_50_code, 2, (some .int), false, 0, 10) /- 168 -/,
  (yX10_tellBothWays, prog_1_method_51_code, 2, none, false, 1, 10) /- 169 -/,
  (yX10_leavesBank, prog_1_method_52_code, 3, (some .boolean), false, 1, 10) /- 170 -/,
  (yX10_endsOn, prog_1_method_53_code, 2, (some .boolean), false, 1, 10) /- 171 -/,
  (yX10_draw, prog_1_method_54_code, 2, (some .int), false, 1, 10) /- 172 -/,
  (yX10_crossesBy, prog_1_method_55_code, 4, (some .boolean), false, 2, 10) /- 173 -/,
  (yX11_thrown, prog_13_method_2_code, 1, (some .int), false, 0, 11) /- 174 -/,
  (yX11_in, prog_13_method_3_code, 3, (some .boolean), true, 3, 11) /- 175 -/,
  (yX11_has, prog_13_method_4_code, 2, (some .boolean), true, 2, 11) /- 176 -/,
  (yX11_lost, prog_13_method_5_code, 1, (some .int), false, 0, 11) /- 177 -/,
  (yX11_tell, prog_13_method_6_code, 2, none, false, 1, 11) /- 178 -/,
  (yX11_isPerson, prog_13_method_7_code, 2, (some .boolean), false, 1, 11) /- 179 -/,
  (yX11_isThing, prog_13_method_8_code, 2, (some .boolean), false, 1, 11) /- 180 -/,
  (yX11_areTwo, prog_13_method_9_code, 3, (some .boolean), false, 2, 11) /- 181 -/,
  (yX11_isPlace, prog_13_method_10_code, 2, (some .boolean), false, 1, 11) /- 182 -/,
  (yX11_isBank, prog_13_method_11_code, 1, (some .boolean), true, 1, 11) /- 183 -/,
  (yX11_yardOf, prog_13_method_12_code, 2, (some .int), false, 1, 11) /- 184 -/,
  (yX11_sign, prog_13_method_13_code, 3, (some .int), false, 1, 11) /- 185 -/,
  (yX11_end, prog_13_method_14_code, 2, (some .boolean), false, 1, 11) /- 186 -/,
  (yX11_begin, prog_13_method_15_code, 4, none, false, 3, 11) /- 187 -/,
  (yX11_here, prog_13_method_16_code, 1, (some .int), false, 0, 11) /- 188 -/,
  (yX11_fine, prog_13_method_17_code, 1, (some .boolean), false, 0, 11) /- 189 -/,
  (yX11_fault, prog_13_method_18_code, 2, none, false, 1, 11) /- 190 -/,
  (yX11_passes, prog_13_method_19_code, 2, (some .boolean), false, 1, 11) /- 191 -/,
  (yX11_need, prog_13_method_20_code, 2, none, false, 1, 11) /- 192 -/,
  (yX11_digit, prog_13_method_21_code, 3, (some .int), false, 2, 11) /- 193 -/,
  (yX11_number, prog_13_method_22_code, 4, (some .int), false, 1, 11) /- 194 -/,
  (yX11_number_, prog_13_method_23_code, 4, (some .int), false, 2, 11) /- 195 -/,
  (yX11_letter, prog_13_method_24_code, 4, (some .int), false, 3, 11) /- 196 -/,
  (yX11_river, prog_13_method_25_code, 4, (some .int), false, 0, 11) /- 197 -/,
  (yX11_readLine, prog_13_method_26_code, 3, none, false, 0, 11) /- 198 -/,
  (yX11_house, prog_13_method_27_code, 3, (some .int), false, 0, 11) /- 199 -/,
  (yX11_held, prog_13_method_28_code, 3, (some .int), false, 1, 11) /- 200 -/,
  (yX11_sum, prog_13_method_29_code, 5, (some .int), false, 1, 11) /- 201 -/,
  (yX11_product, prog_13_method_30_code, 5, (some .int), false, 1, 11) /- 202 -/,
  (yX11_letterOf, prog_13_method_31_code, 1, (some .int), true, 1, 11) /- 203 -/,
  (yX11_factor, prog_13_method_32_code, 4, (some .int), false, 1, 11) /- 204 -/,
  (yX11_rule, prog_13_method_33_code, 3, (some .int), false, 0, 11) /- 205 -/,
  (yX11_pressureOf, prog_13_method_34_code, 7, (some .int), false, 5, 11) /- 206 -/,
  (yX11_peopleAt, prog_13_method_35_code, 4, (some .int), false, 1, 11) /- 207 -/,
  (yX11_thingsOf, prog_13_method_36_code, 5, (some .int), false, 2, 11) /- 208 -/,
  (yX11_knownBy, prog_13_method_37_code, 4, (some .int), false, 1, 11) /- 209 -/,
  (yX11_saidOnes, prog_13_method_38_code, 4, (some .int), false, 1, 11) /- 210 -/,
  (yX11_leftIn, prog_13_method_39_code, 4, (some .int), true, 2, 11) /- 211 -/,
  (yX11_unsaid, prog_13_method_40_code, 3, (some .int), false, 2, 11) /- 212 -/,
  (yX11_person, prog_13_method_41_code, 3, (some .int), false, 2, 11) /- 213 -/,
  (yX11_thing, prog_13_method_42_code, 3, (some .int), false, 2, 11) /- 214 -/,
  (yX11_islet, prog_13_method_43_code, 2, (some .int), false, 1, 11) /- 215 -/,
  (yX11_hold, prog_13_method_44_code, 4, (some .int), false, 2, 11) /- 216 -/,
  (yX11_sheet, prog_13_method_45_code, 9, (some .int), false, 4, 11) /- 217 -/,
  (yX11_distance, prog_13_method_46_code, 3, (some .int), false, 2, 11) /- 218 -/,
  (yX11_goes, prog_13_method_47_code, 9, (some .boolean), false, 4, 11) /- 219 -/,
  (yX11_put, prog_13_method_48_code, 5, none, false, 3, 11) /- 220 -/,
  (yX11_stranded, prog_13_method_49_code, 8, (some .int), false, 2, 11) /- 221 -/,
  (yX11_wordsIn, prog_13_method_50_code, 4, (some .int), false, 1, 11) /- 222 -/,
  (yX11_lay, prog_13_method_51_code, 4, none, true, 3, 11) /- 223 -/,
  (yX11_remember, prog_13_method_52_code, 3, none, false, 1, 11) /- 224 -/,
  (yX11_aboardOf, prog_13_method_53_code, 5, (some .int), false, 3, 11) /- 225 -/,
  (yX11_canLine, prog_13_method_54_code, 5, (some .boolean), false, 3, 11) /- 226 -/,
  (yX11_readLine0, prog_13_method_55_code, 7, (some .int), false, 3, 11) /- 227 -/,
  (yX11_tellCross, prog_13_method_56_code, 3, none, false, 2, 11) /- 228 -/,
  (yX11_cross, prog_13_method_57_code, 6, (some .int), false, 3, 11) /- 229 -/,
  (yX11_look, prog_13_method_58_code, 6, (some .int), false, 3, 11) /- 230 -/,
  (yX11_refusesSay, prog_13_method_59_code, 3, (some .int), false, 2, 11) /- 231 -/,
  (yX11_goSay, prog_13_method_60_code, 5, (some .int), false, 2, 11) /- 232 -/,
  (yX11_say, prog_13_method_61_code, 4, (some .int), false, 2, 11) /- 233 -/,
  (yX11_refusesWhisper, prog_13_method_62_code, 4, (some .int), false, 3, 11) /- 234 -/,
  (yX11_goWhisper, prog_13_method_63_code, 4, (some .int), false, 2, 11) /- 235 -/,
  (yX11_whisper, prog_13_method_64_code, 5, (some .int), false, 3, 11) /- 236 -/,
  (yX11_priceOf, prog_13_method_65_code, 2, (some .int), false, 1, 11) /- 237 -/,
  (yX11_refusesSell, prog_13_method_66_code, 4, (some .int), false, 3, 11) /- 238 -/,
  (yX11_goSell, prog_13_method_67_code, 5, (some .int), false, 3, 11) /- 239 -/,
  (yX11_sell, prog_13_method_68_code, 5, (some .int), false, 3, 11) /- 240 -/,
  (yX11_day, prog_13_method_69_code, 4, (some .int), false, 0, 11) /- 241 -/,
  (yX11_readAct, prog_13_method_70_code, 4, none, false, 1, 11) /- 242 -/,
  (yX11_act, prog_13_method_71_code, 5, (some .boolean), false, 1, 11) /- 243 -/,
  (yX11_actCross, prog_13_method_72_code, 7, (some .boolean), false, 4, 11) /- 244 -/,
  (yX11_undo, prog_13_method_73_code, 2, (some .int), false, 0, 11) /- 245 -/,
  (yX11_far, prog_13_method_74_code, 3, (some .int), false, 2, 11) /- 246 -/,
  (yX11_keeps, prog_13_method_75_code, 6, (some .int), false, 2, 11) /- 247 -/,
  (yX11_beginRows, prog_13_method_76_code, 6, none, false, 4, 11) /- 248 -/,
  (yX11_goRows, prog_13_method_77_code, 3, (some .boolean), false, 2, 11) /- 249 -/,
  (yX11_goRow, prog_13_method_78_code, 5, (some .boolean), false, 2, 11) /- 250 -/,
  (yX11_endRow, prog_13_method_79_code, 4, (some .boolean), false, 1, 11) /- 251 -/,
  (yX11_isLineLess, prog_13_method_80_code, 2, (some .boolean), false, 0, 11) /- 252 -/,
  (yX11_leastRow, prog_13_method_81_code, 7, (some .int), false, 5, 11) /- 253 -/,
  (yX11_canGo, prog_13_method_82_code, 3, (some .boolean), false, 2, 11) /- 254 -/,
  (yX11_fewest, prog_13_method_83_code, 5, (some .int), false, 2, 11) /- 255 -/,
  (yX11_rows, prog_13_method_84_code, 4, (some .int), false, 2, 11) /- 256 -/,
  (yX11_goBack, prog_13_method_85_code, 6, (some .boolean), false, 4, 11) /- 257 -/,
  (yX11_isFree, prog_13_method_86_code, 4, (some .boolean), false, 2, 11) /- 258 -/,
  (yX11_back, prog_13_method_87_code, 6, (some .int), false, 2, 11) /- 259 -/,
  (yX11_exact, prog_13_method_88_code, 8, (some .int), false, 2, 11) /- 260 -/,
  (yX11_chance, prog_13_method_89_code, 15, (some .int), false, 2, 11) /- 261 -/,
  (yX11_goParty, prog_13_method_90_code, 6, none, false, 3, 11) /- 262 -/,
  (yX11_party, prog_13_method_91_code, 5, (some .int), false, 1, 11) /- 263 -/,
  (yX11_pool, prog_13_method_92_code, 7, (some .int), false, 2, 11) /- 264 -/,
  (yX11_known, prog_13_method_93_code, 6, (some .int), false, 1, 11) /- 265 -/,
  (yX11_sayable, prog_13_method_94_code, 5, (some .int), false, 1, 11) /- 266 -/,
  (yX11_apart, prog_13_method_95_code, 6, (some .int), false, 0, 11) /- 267 -/,
  (yX11_spared, prog_13_method_96_code, 7, (some .int), false, 0, 11) /- 268 -/,
  (yX11_findShore, prog_13_method_97_code, 4, (some .boolean), false, 2, 11) /- 269 -/,
  (yX11_ashore, prog_13_method_98_code, 4, (some .int), false, 2, 11) /- 270 -/,
  (yX11_about, prog_13_method_99_code, 5, (some .int), false, 2, 11) /- 271 -/,
  (yX11_bargain, prog_13_method_100_code, 5, (some .int), false, 2, 11) /- 272 -/,
  (yX11_draw, prog_13_method_101_code, 2, (some .int), false, 1, 11) /- 273 -/,
  (yX11_years, prog_13_method_102_code, 9, (some .int), false, 2, 11) /- 274 -/,
  (yX11_keep, prog_13_method_103_code, 2, (some .boolean), false, 1, 11) /- 275 -/,
  (yX11_again, prog_13_method_104_code, 3, (some .boolean), false, 1, 11) /- 276 -/,
  (yX11_count, prog_13_method_105_code, 2, (some .int), false, 1, 11) /- 277 -/,
  (yX11_row, prog_13_method_106_code, 2, (some .int), false, 1, 11) /- 278 -/,
  (yJ6_bitCount_0f7a4, prog_16_method_49_code, 1, (some .int), true, 1, 99) /- 279 -/,
  (yJ6_numberOfTrailingZeros_0f7a4, prog_16_method_48_code, 2, (some .int), true, 1, 99) /- 280 -/]
def px_mp : List (Nat × Nat × Nat × Nat) := [
  (1053, 1052, 75, 197),
  (1083, 1082, 79, 197),
  (1058, 1057, 76, 197),
  (1066, 1065, 77, 197),
  (1074, 1073, 78, 197),
  (849, 848, 36, 194),
  (864, 863, 39, 194),
  (882, 881, 43, 194),
  (899, 898, 46, 194),
  (903, 902, 47, 194),
  (947, 946, 55, 194),
  (912, 911, 49, 194),
  (908, 907, 48, 194),
  (1237, 1236, 104, 194),
  (1254, 1253, 106, 199),
  (1260, 1259, 107, 199),
  (1265, 1264, 108, 199),
  (1270, 1269, 0, 199),
  (1275, 1274, 109, 199),
  (1279, 1278, 110, 199),
  (713, 712, 15, 191),
  (746, 745, 21, 191),
  (718, 717, 16, 191),
  (723, 722, 17, 191),
  (729, 728, 18, 191),
  (827, 826, 34, 191),
  (890, 889, 45, 191),
  (648, 647, 3, 191),
  (644, 643, 2, 191),
  (1246, 1245, 105, 191),
  (1479, 1478, 127, 191),
  (886, 885, 44, 191),
  (1223, 1222, 102, 191),
  (1376, 1375, 122, 191),
  (1298, 1297, 112, 191),
  (1313, 1312, 113, 191),
  (1228, 1227, 103, 191),
  (1321, 1320, 114, 191),
  (1005, 1004, 67, 191),
  (1041, 1040, 73, 191),
  (855, 854, 37, 191),
  (860, 859, 38, 191),
  (1010, 1009, 68, 191),
  (1001, 1000, 66, 191),
  (997, 996, 65, 191),
  (1024, 1023, 70, 191),
  (951, 950, 56, 191),
  (955, 954, 57, 191),
  (1045, 1044, 74, 191),
  (1037, 1036, 72, 191),
  (1033, 1032, 71, 191),
  (943, 942, 54, 191),
  (1104, 1103, 83, 191),
  (939, 938, 53, 196),
  (1380, 1379, 123, 196),
  (959, 958, 58, 196),
  (1100, 1099, 82, 196),
  (705, 704, 14, 196),
  (1388, 1387, 124, 196),
  (1396, 1395, 125, 196),
  (655, 654, 4, 192),
  (818, 817, 33, 192),
  (1293, 1292, 111, 192),
  (872, 871, 41, 192),
  (868, 867, 40, 192),
  (935, 934, 52, 192),
  (754, 753, 22, 193),
  (758, 757, 23, 193),
  (767, 766, 25, 193),
  (792, 791, 29, 193),
  (805, 804, 31, 193),
  (783, 782, 0, 193),
  (800, 799, 0, 193),
  (763, 762, 24, 193),
  (809, 808, 32, 193),
  (779, 778, 27, 193),
  (772, 771, 26, 193),
  (796, 795, 30, 193),
  (923, 922, 50, 193),
  (927, 926, 51, 193),
  (930, 929, 0, 193),
  (980, 979, 63, 198),
  (984, 983, 64, 198),
  (976, 975, 62, 198),
  (972, 971, 61, 198),
  (968, 967, 60, 198),
  (628, 627, 0, 190),
  (636, 635, 1, 190),
  (659, 658, 5, 190),
  (674, 673, 8, 190),
  (788, 787, 28, 190),
  (693, 692, 12, 190),
  (737, 736, 20, 190),
  (681, 680, 9, 190),
  (685, 684, 10, 190),
  (689, 688, 11, 190),
  (700, 699, 13, 190),
  (670, 669, 7, 190),
  (666, 665, 6, 190),
  (733, 732, 19, 190),
  (1123, 1122, 84, 195),
  (1129, 1128, 85, 195),
  (1205, 1204, 99, 195),
  (1141, 1140, 87, 195),
  (1149, 1148, 89, 195),
  (1153, 1152, 90, 195),
  (1158, 1157, 91, 195),
  (1145, 1144, 88, 195),
  (1171, 1170, 94, 195),
  (1167, 1166, 93, 195),
  (1163, 1162, 92, 195),
  (1175, 1174, 95, 195),
  (1196, 1195, 98, 195),
  (1136, 1135, 86, 195),
  (1179, 1178, 96, 195),
  (1184, 1183, 97, 195),
  (1215, 1214, 101, 195),
  (1344, 1343, 117, 195),
  (1348, 1347, 118, 195),
  (1352, 1351, 119, 195),
  (624, 622, 623, 189),
  (632, 630, 631, 189),
  (640, 638, 639, 189),
  (709, 707, 708, 189),
  (750, 748, 749, 189),
  (1409, 1407, 1408, 189),
  (1487, 1485, 1486, 189),
  (814, 812, 813, 189),
  (823, 821, 822, 189),
  (832, 830, 831, 189),
  (841, 839, 840, 189),
  (989, 987, 988, 189),
  (993, 991, 992, 189),
  (1020, 1018, 1019, 189),
  (1029, 1027, 1028, 189),
  (1049, 1047, 1048, 189),
  (1096, 1094, 1095, 189),
  (1108, 1106, 1107, 189),
  (1112, 1110, 1111, 189),
  (1119, 1117, 1118, 189),
  (1189, 1187, 1188, 189),
  (1200, 1198, 1199, 189),
  (1219, 1217, 1218, 189),
  (1233, 1231, 1232, 189),
  (1242, 1240, 1241, 189),
  (1285, 1283, 1284, 189),
  (1289, 1287, 1288, 189),
  (1303, 1301, 1302, 189),
  (1309, 1307, 1308, 189),
  (1317, 1315, 1316, 189),
  (1326, 1324, 1325, 189),
  (1340, 1338, 1339, 189),
  (1357, 1355, 1356, 189),
  (1363, 1361, 1362, 189),
  (1384, 1382, 1383, 189),
  (1392, 1390, 1391, 189),
  (1401, 1399, 1400, 189),
  (1497, 1495, 1496, 189),
  (651, 650, 0, 189),
  (696, 695, 0, 189),
  (893, 892, 0, 189),
  (1249, 1248, 0, 189),
  (835, 834, 0, 189),
  (845, 844, 35, 189),
  (876, 875, 42, 189),
  (964, 963, 59, 189),
  (1016, 1015, 69, 189),
  (1091, 1090, 81, 189),
  (1087, 1086, 80, 189),
  (1210, 1209, 100, 189),
  (1330, 1329, 115, 189),
  (1334, 1333, 116, 189),
  (1367, 1366, 120, 189),
  (1372, 1371, 121, 189),
  (1701, 1699, 1700, 200),
  (1712, 1711, 0, 200),
  (1810, 1809, 0, 200),
  (1799, 1798, 144, 200),
  (1914, 1913, 163, 200),
  (1795, 1794, 143, 200),
  (1829, 1828, 149, 200),
  (1855, 1854, 151, 200),
  (2077, 2076, 185, 200),
  (1858, 1857, 0, 200),
  (1878, 1877, 156, 200),
  (1705, 1703, 1704, 200),
  (1709, 1707, 1708, 200),
  (1720, 1719, 128, 200),
  (1740, 1739, 133, 200),
  (1736, 1735, 132, 200),
  (1744, 1743, 134, 200),
  (1756, 1755, 136, 200),
  (1764, 1763, 138, 200),
  (1732, 1731, 131, 200),
  (1728, 1727, 130, 200),
  (1724, 1723, 129, 200),
  (1760, 1759, 137, 200),
  (1716, 1714, 1715, 200),
  (1752, 1751, 135, 200),
  (1748, 1746, 1747, 200),
  (1772, 1771, 139, 200),
  (1776, 1775, 140, 200),
  (1780, 1779, 141, 200),
  (1787, 1786, 0, 200),
  (1784, 1783, 142, 200),
  (1768, 1766, 1767, 200),
  (1896, 1895, 159, 200),
  (1934, 1933, 166, 200),
  (1803, 1802, 145, 200),
  (1807, 1806, 146, 200),
  (1818, 1817, 148, 200),
  (1821, 1820, 0, 200),
  (1814, 1813, 147, 200),
  (1791, 1789, 1790, 200),
  (1825, 1823, 1824, 200),
  (1833, 1831, 1832, 200),
  (1837, 1835, 1836, 200),
  (1841, 1839, 1840, 200),
  (1874, 1873, 155, 200),
  (1892, 1891, 158, 200),
  (1906, 1905, 161, 200),
  (1901, 1900, 160, 200),
  (1870, 1869, 154, 200),
  (1888, 1887, 0, 200),
  (1885, 1884, 157, 200),
  (1851, 1850, 150, 200),
  (1866, 1865, 153, 200),
  (1862, 1861, 152, 200),
  (1910, 1909, 162, 200),
  (1847, 1845, 1846, 200),
  (1918, 1916, 1917, 200),
  (1926, 1925, 164, 200),
  (1930, 1929, 165, 200),
  (1922, 1920, 1921, 200),
  (1942, 1941, 167, 200),
  (1946, 1945, 168, 200),
  (1938, 1936, 1937, 200),
  (1958, 1957, 170, 200),
  (1954, 1953, 169, 200),
  (1962, 1961, 171, 200),
  (1950, 1948, 1949, 200),
  (1966, 1964, 1965, 200),
  (1970, 1969, 172, 200),
  (1974, 1973, 173, 200),
  (1978, 1977, 174, 200),
  (1982, 1980, 1981, 200),
  (1986, 1984, 1985, 200),
  (1990, 1988, 1989, 200),
  (2006, 2005, 177, 200),
  (2010, 2009, 178, 200),
  (2014, 2013, 179, 200),
  (2018, 2017, 180, 200),
  (2026, 2025, 181, 200),
  (2002, 2001, 176, 200),
  (1998, 1997, 175, 200),
  (1994, 1992, 1993, 200),
  (2030, 2028, 2029, 200),
  (2038, 2037, 182, 200),
  (2042, 2041, 183, 200),
  (2034, 2032, 2033, 200),
  (2046, 2044, 2045, 200),
  (2050, 2048, 2049, 200),
  (2065, 2064, 184, 200),
  (2061, 2059, 2060, 200),
  (2069, 2067, 2068, 200),
  (2073, 2071, 2072, 200),
  (2081, 2079, 2080, 200),
  (2085, 2083, 2084, 200),
  (2089, 2087, 2088, 200),
  (2097, 2096, 186, 200),
  (2093, 2091, 2092, 200),
  (2101, 2099, 2100, 200),
  (2105, 2103, 2104, 200),
  (2113, 2112, 187, 200),
  (2109, 2107, 2108, 200),
  (2118, 2116, 2117, 200),
  (2122, 2120, 2121, 200),
  (2126, 2124, 2125, 200),
  (2130, 2128, 2129, 200),
  (915, 914, 0, 206),
  (2021, 2020, 0, 206)]
abbrev pX : Type := String × List (Nat × Nat × Nat × Nat) × List (Nat × Nat × Nat) × List (Nat × Int32 × Nat) × List (Nat × Int64 × Nat)
def pX_RJ6 : pX := (RJ6, [], [], [(265, 1431655765, 916), (266, 858993459, 917), (267, 252645135, 918), (264, 65536, 2022)], [])
def pX_RL : pX := (RL, [], [(26, 120, 621), (30, 121, 629), (35, 122, 637), (40, 123, 706), (44, 124, 747), (60, 127, 811), (64, 128, 820), (68, 129, 829), (73, 130, 838), (78, 131, 986), (82, 132, 990), (86, 133, 1017), (90, 134, 1026), (94, 135, 1046), (98, 136, 1093), (102, 137, 1105), (106, 138, 1109), (110, 139, 1116), (114, 140, 1186), (118, 141, 1197), (122, 142, 1216), (126, 143, 1230), (130, 144, 1239), (134, 145, 1282), (138, 146, 1286), (142, 147, 1300), (146, 148, 1306), (150, 149, 1314), (154, 150, 1323), (158, 151, 1337), (162, 152, 1354), (166, 153, 1360), (170, 154, 1381), (174, 155, 1389), (178, 156, 1398), (7, 125, 1406), (15, 126, 1484), (18, 157, 1494), (54, 174, 1698), (29, 185, 1702), (34, 186, 1706), (39, 197, 1713), (43, 199, 1745), (47, 205, 1765), (53, 213, 1788), (59, 214, 1822), (63, 215, 1830), (67, 216, 1834), (72, 217, 1838), (77, 229, 1844), (81, 230, 1915), (85, 233, 1919), (89, 236, 1935), (93, 240, 1947), (97, 241, 1963), (101, 245, 1979), (105, 246, 1983), (109, 247, 1987), (113, 255, 1991), (117, 256, 2027), (121, 259, 2031), (125, 260, 2043), (129, 261, 2047), (133, 263, 2058), (137, 264, 2066), (141, 265, 2070), (145, 266, 2078), (149, 267, 2082), (153, 268, 2086), (157, 270, 2090), (161, 271, 2098), (165, 272, 2102), (169, 274, 2106), (173, 275, 2115), (177, 276, 2119), (181, 277, 2123), (185, 278, 2127)], [], [])
def pX_RX0 : pX := (RX0, [(15, 8, 1, 224), (9, 0, 0, 524), (85, 0, 1, 526), (41, 0, 2, 528), (57, 0, 3, 530), (63, 0, 4, 532), (76, 0, 5, 534), (66, 0, 6, 536)], [(21, 88, 1054), (25, 2, 1055), (44, 89, 1059), (47, 93, 1060), (50, 90, 1061), (53, 99, 1062), (60, 3, 1063), (33, 91, 1067), (69, 94, 1068), (72, 98, 1069), (79, 92, 1070), (82, 4, 1071), (86, 159, 1075), (29, 95, 1076), (37, 96, 1077)], [], [])
def pX_RX1 : pX := (RX1, [(144, 3, 0, 250), (36, 3, 1, 252), (79, 3, 4, 260), (114, 3, 5, 263), (122, 3, 6, 266), (135, 3, 7, 269), (117, 6, 8, 347), (134, 6, 12, 352), (125, 6, 13, 354), (141, 6, 14, 356), (9, 1, 0, 396), (15, 1, 1, 397), (19, 1, 2, 398), (23, 1, 3, 399), (27, 1, 4, 401), (73, 1, 5, 402), (54, 1, 6, 404), (58, 1, 7, 407), (61, 1, 8, 409), (70, 1, 9, 411), (86, 1, 10, 414), (89, 1, 11, 416), (105, 1, 12, 418), (154, 1, 13, 420)], [(30, 25, 850), (39, 158, 851), (43, 40, 852), (47, 41, 857), (50, 6, 861), (64, 64, 865), (76, 31, 883), (82, 159, 894), (92, 1001, 904), (97, 12, 905), (147, 11, 909), (128, 279, 913), (138, 160, 919), (151, 78, 920), (156, 1000, 931), (101, 65, 932), (107, 46, 948), (111, 47, 952)], [], [(159, 10, 1238)])
def pX_RX10 : pX := (RX10, [(90, 8, 1, 226), (120, 3, 0, 249), (128, 3, 1, 253), (144, 3, 2, 255), (154, 3, 3, 257), (157, 3, 4, 261), (160, 3, 5, 264), (163, 3, 6, 267), (166, 3, 7, 270), (169, 3, 8, 272), (172, 3, 9, 274), (364, 3, 10, 276), (187, 3, 11, 278), (180, 5, 0, 318), (433, 5, 2, 321), (434, 5, 3, 323), (336, 1, 3, 400), (335, 1, 5, 403), (272, 1, 6, 406), (313, 1, 7, 408), (484, 1, 8, 410), (265, 1, 9, 413), (460, 1, 10, 415), (250, 1, 11, 417), (458, 1, 12, 419), (284, 1, 13, 421), (319, 9, 9, 467), (260, 4, 2, 507), (481, 0, 0, 525), (480, 0, 1, 527), (465, 0, 2, 529), (468, 0, 3, 531), (474, 0, 4, 533), (477, 0, 5, 535), (471, 0, 6, 537), (438, 7, 0, 560), (435, 7, 1, 562), (10, 10, 0, 584), (19, 10, 1, 585), (26, 10, 2, 586), (33, 10, 3, 587), (42, 10, 4, 588), (51, 10, 5, 589), (55, 10, 6, 590), (61, 10, 7, 591), (68, 10, 8, 592), (75, 10, 9, 593), (82, 10, 10, 594), (411, 10, 11, 595)], [(86, 86, 625), (94, 87, 633), (97, 28, 641), (101, 60, 652), (105, 57, 702), (108, 20, 710), (109, 66, 751), (177, 61, 815), (124, 158, 819), (110, 25, 824), (183, 159, 828), (190, 162, 833), (275, 1001, 836), (441, 1000, 837), (194, 163, 842), (261, 5, 846), (444, 164, 873), (229, 88, 877), (450, 89, 878), (452, 7, 879), (455, 90, 895), (447, 8, 896), (198, 9, 900), (201, 53, 936), (205, 10, 944), (208, 55, 956), (211, 165, 961), (463, 85, 965), (214, 44, 994), (217, 166, 1013), (220, 45, 1021), (223, 50, 1030), (226, 0, 1050), (233, 2, 1078), (237, 91, 1079), (240, 1, 1080), (244, 168, 1084), (247, 167, 1088), (252, 84, 1092), (256, 56, 1097), (268, 39, 1113), (280, 12, 1114), (287, 83, 1115), (289, 100, 1120), (292, 113, 1133), (295, 81, 1180), (298, 115, 1181), (303, 103, 1191), (307, 111, 1192), (310, 112, 1193), (316, 110, 1201), (320, 102, 1202), (324, 101, 1206), (327, 169, 1207), (482, 82, 1211), (391, 116, 1212), (138, 32, 1220), (141, 36, 1225), (330, 279, 1229), (339, 13, 1234), (342, 29, 1243), (346, 160, 1250), (345, 14, 1251), (349, 6, 1256), (353, 15, 1257), (357, 16, 1262), (360, 18, 1272), (367, 62, 1290), (135, 34, 1295), (370, 27, 1299), (373, 43, 1304), (376, 42, 1305), (379, 35, 1310), (382, 37, 1318), (385, 170, 1327), (388, 171, 1331), (485, 108, 1335), (487, 65, 1336), (395, 117, 1341), (398, 118, 1345), (401, 119, 1349), (405, 48, 1358), (408, 49, 1359), (414, 172, 1364), (417, 173, 1369), (420, 33, 1373), (423, 54, 1377), (426, 58, 1385), (430, 59, 1393), (131, 30, 1476), (149, 26, 1488)], [(302, 1000000, 1190), (490, 1103515245, 1368)], [])
def pX_RX11 : pX := (RX11, [(9, 11, 0, 1505), (13, 11, 1, 1506), (126, 11, 2, 1507), (17, 11, 3, 1508), (112, 11, 4, 1509), (20, 11, 5, 1510), (119, 11, 6, 1511), (23, 11, 7, 1512), (26, 11, 8, 1513), (29, 11, 9, 1514), (32, 11, 10, 1515), (129, 11, 11, 1516), (36, 11, 12, 1517), (109, 11, 13, 1518), (106, 11, 14, 1519), (132, 11, 15, 1520), (135, 11, 16, 1521), (138, 11, 17, 1522), (141, 11, 18, 1523), (144, 11, 19, 1524), (39, 11, 20, 1525), (42, 11, 21, 1526), (45, 11, 22, 1527), (183, 11, 23, 1528), (186, 11, 24, 1529), (48, 11, 25, 1530), (219, 11, 26, 1531), (215, 11, 27, 1532), (51, 11, 28, 1533), (54, 11, 29, 1534), (292, 11, 30, 1535), (271, 11, 31, 1536), (274, 11, 32, 1537), (281, 11, 33, 1538), (57, 11, 34, 1539), (177, 11, 35, 1540), (60, 11, 36, 1541), (63, 11, 37, 1542), (66, 11, 38, 1543), (361, 11, 39, 1544), (69, 11, 40, 1545), (371, 11, 41, 1546), (374, 11, 42, 1547), (377, 11, 43, 1548), (398, 11, 44, 1549), (380, 11, 45, 1550), (383, 11, 46, 1551), (386, 11, 47, 1552), (72, 11, 48, 1553), (75, 11, 49, 1554), (404, 11, 50, 1555), (78, 11, 51, 1556), (420, 11, 52, 1557), (81, 11, 53, 1558), (84, 11, 54, 1559), (87, 11, 55, 1560), (436, 11, 56, 1561), (90, 11, 57, 1562), (449, 11, 58, 1563), (94, 11, 59, 1564), (180, 11, 60, 1565), (97, 11, 61, 1566), (100, 11, 62, 1567), (103, 11, 63, 1568)], [(115, 175, 1710), (171, 187, 1717), (175, 195, 1721), (167, 194, 1725), (163, 193, 1729), (147, 189, 1733), (151, 188, 1737), (159, 190, 1741), (197, 198, 1749), (155, 191, 1753), (189, 196, 1757), (193, 192, 1761), (209, 200, 1769), (200, 201, 1773), (203, 202, 1777), (206, 204, 1781), (212, 203, 1785), (122, 179, 1792), (239, 177, 1796), (231, 208, 1800), (242, 209, 1804), (227, 176, 1808), (245, 212, 1811), (235, 210, 1815), (248, 211, 1819), (251, 180, 1826), (254, 1001, 1842), (259, 1000, 1843), (315, 225, 1848), (299, 181, 1852), (302, 183, 1856), (319, 227, 1859), (305, 226, 1863), (309, 222, 1867), (268, 218, 1871), (262, 184, 1875), (265, 1002, 1879), (322, 224, 1882), (295, 223, 1886), (326, 219, 1889), (277, 206, 1893), (222, 279, 1897), (284, 221, 1898), (287, 220, 1903), (330, 228, 1907), (312, 178, 1911), (337, 231, 1923), (340, 232, 1927), (334, 207, 1931), (343, 234, 1939), (346, 235, 1943), (352, 238, 1951), (349, 237, 1955), (355, 239, 1959), (358, 242, 1967), (364, 243, 1971), (367, 244, 1975), (414, 254, 1995), (417, 253, 1999), (407, 248, 2003), (411, 249, 2007), (389, 250, 2011), (392, 251, 2015), (395, 280, 2019), (401, 252, 2023), (426, 257, 2035), (423, 258, 2039), (431, 1004, 2052), (434, 1003, 2055), (439, 262, 2062), (443, 182, 2074), (446, 269, 2094), (453, 273, 2110)], [(291, 1000000, 1902), (452, 1103515245, 2114)], [(429, 10, 2051)])
def pX_RX2 : pX := (RX2, [(9, 2, 0, 574), (15, 2, 1, 575), (18, 2, 2, 576)], [(21, 159, 1255), (25, 158, 1261), (29, 161, 1266), (33, 160, 1267), (37, 17, 1268), (41, 1001, 1271), (47, 19, 1276), (50, 81, 1280), (55, 82, 1281)], [], [])
def pX_RX3 : pX := (RX3, [(42, 8, 1, 223), (9, 3, 0, 248), (15, 3, 1, 251), (18, 3, 2, 254), (21, 3, 3, 256), (24, 3, 4, 258), (27, 3, 5, 262), (30, 3, 6, 265), (33, 3, 7, 268), (36, 3, 8, 271), (39, 3, 9, 273), (48, 3, 10, 275), (54, 3, 11, 277), (51, 3, 12, 279), (57, 3, 13, 280)], [(115, 27, 645), (111, 158, 649), (60, 88, 714), (64, 22, 715), (72, 91, 719), (84, 23, 720), (93, 98, 724), (97, 159, 725), (87, 24, 726), (101, 99, 730), (105, 92, 734), (108, 94, 739), (90, 93, 740), (68, 95, 741), (76, 96, 742), (80, 21, 743), (141, 25, 856), (125, 26, 887), (121, 160, 891), (150, 43, 998), (144, 38, 1002), (147, 41, 1006), (153, 42, 1007), (156, 46, 1011), (136, 279, 1012), (160, 40, 1025), (169, 49, 1034), (163, 39, 1038), (166, 48, 1042), (128, 31, 1224), (118, 161, 1247), (131, 1000, 1322)], [], [])
def pX_RX4 : pX := (RX4, [(11, 4, 0, 504), (37, 4, 1, 505), (28, 4, 2, 506), (15, 4, 3, 508)], [(19, 51, 940), (31, 1001, 960), (25, 52, 1101), (40, 160, 1397)], [], [])
def pX_RX5 : pX := (RX5, [(11, 5, 0, 317), (15, 5, 1, 319), (48, 5, 2, 320), (18, 5, 3, 322)], [(24, 88, 656), (28, 98, 663), (32, 95, 686), (36, 91, 690), (40, 159, 694), (44, 96, 697), (51, 158, 701), (58, 63, 869), (55, 61, 1294)], [], [])
def pX_RX6 : pX := (RX6, [(29, 8, 1, 225), (11, 6, 0, 339), (15, 6, 1, 340), (18, 6, 2, 341), (21, 6, 3, 342), (42, 6, 4, 343), (25, 6, 5, 344), (55, 6, 6, 345), (58, 6, 7, 346), (127, 6, 8, 348), (118, 6, 9, 349), (121, 6, 10, 350), (124, 6, 11, 351), (136, 6, 12, 353), (139, 6, 13, 355), (142, 6, 14, 357)], [(34, 67, 755), (51, 88, 759), (61, 73, 760), (65, 68, 764), (88, 91, 768), (92, 76, 769), (47, 159, 773), (95, 97, 774), (98, 98, 775), (102, 75, 776), (72, 89, 780), (105, 71, 781), (85, 93, 784), (108, 90, 785), (68, 69, 789), (75, 77, 793), (43, 158, 797), (111, 72, 798), (78, 96, 801), (82, 70, 802), (115, 74, 806), (38, 95, 810), (130, 79, 924), (133, 80, 928)], [], [])
def pX_RX7 : pX := (RX7, [(9, 7, 0, 559), (15, 7, 1, 561)], [(33, 84, 969), (30, 83, 973), (23, 81, 977), (26, 82, 981), (19, 159, 985)], [], [])
def pX_RX8 : pX := (RX8, [(11, 8, 0, 221), (15, 8, 1, 222), (19, 8, 2, 227), (28, 8, 3, 228), (31, 8, 4, 229)], [(22, 1001, 660), (46, 97, 667), (34, 89, 671), (49, 1000, 675), (42, 93, 678), (52, 94, 682), (38, 91, 738)], [], [])
def pX_RX9 : pX := (RX9, [(41, 3, 4, 259), (75, 1, 6, 405), (105, 1, 9, 412), (9, 9, 0, 457), (15, 9, 1, 458), (19, 9, 2, 459), (23, 9, 3, 460), (26, 9, 4, 461), (29, 9, 5, 462), (32, 9, 6, 463), (35, 9, 7, 464), (38, 9, 8, 465), (66, 9, 9, 466), (62, 9, 10, 468), (69, 9, 11, 469), (72, 9, 12, 470)], [(44, 158, 1124), (48, 159, 1125), (52, 101, 1126), (56, 1001, 1130), (80, 31, 1131), (84, 1000, 1132), (118, 103, 1138), (87, 107, 1142), (91, 104, 1146), (95, 105, 1150), (102, 160, 1154), (99, 106, 1155), (107, 12, 1159), (122, 110, 1160), (111, 109, 1164), (114, 108, 1168), (125, 111, 1172), (128, 114, 1176), (131, 82, 1185), (134, 81, 1353)], [(117, 1000000, 1137)], [])
end
section
/-! The pure machine: a method's steps over the cells' contents (cell, place) ↦ Int32; nothing of the JVM is in it -/
abbrev pV : Type := Int32 ⊕ (Nat ⊕ Int64)
abbrev pH : Type := Nat → Nat → Int32
abbrev pR : Type := Option (Int32 × pH)
abbrev pC : Type := Nat → List pV → pH → pR
abbrev pL : Type := List (Option pV)
abbrev pK : Type := Nat → pL → List pV → pH → pR
def px_nth {α : Type} : List α → Nat → Option α
  | [], _ => none
  | x :: _, 0 => some x
  | _ :: l, n + 1 => px_nth l n
def px_find {α : Type} : List (Nat × α) → Nat → Option α
  | [], _ => none
  | q :: l, i => match Nat.beq q.1 i with
    | true => some q.2
    | false => px_find l i
def px_if (b : Bool) (x : pR) : pR := match b with
  | true => x
  | false => none
def px_bind (x : pR) (f : Int32 → pH → pR) : pR := match x with
  | none => none
  | some q => f q.1 q.2
def px_c (v : Int) : Int32 := Int32.ofInt v
def px_w (h : pH) (a k : Nat) (v : Int32) : pH := fun a' k' => if a' = a ∧ k' = k then v else h a' k'
def px_row (a : Nat) : Nat × Nat × List (Nat × Nat) := match px_nth px_lay a with
  | some r => r
  | none => (9, 0, [])
def px_tag (a : Nat) : Nat := (px_row a).1
def px_len (a : Nat) : Nat := (px_row a).2.1
def px_rf (a k : Nat) : Option Nat := px_find (px_row a).2.2 k
/-- a place of a row of that kind -/
def px_ok (t a : Nat) (i : Int32) : Bool := Nat.beq (px_tag a) t && (decide (0 ≤ i) && Nat.blt i.toNatClampNeg (px_len a))
def px_get (a ci k : Nat) (h : pH) (kk : pV → pR) : pR := px_if (Nat.beq (px_tag a) (ci + 10) && Nat.blt k (px_len a)) (match px_rf a k with
  | none => kk (.inl (h a k))
  | some t => match Nat.beq t 1001 with
    | true => kk (.inl (h a k))
    | false => match Nat.beq t 1000 with
      | true => px_if (decide (0 ≤ h a k) && Nat.blt (h a k).toNatClampNeg px_N) (kk (.inr (.inl (h a k).toNatClampNeg)))
      | false => kk (.inr (.inl t)))
def px_put (a ci k : Nat) (v : pV) (h : pH) (kk : pH → pR) : pR := px_if (Nat.beq (px_tag a) (ci + 10) && Nat.blt k (px_len a)) (match px_rf a k with
  | none => match v with
    | .inl x => kk (px_w h a k x)
    | _ => none
  | some t => match Nat.beq t 1001 with
    | true => match v with
      | .inl x => px_if (decide (x = 0) || decide (x = 1)) (kk (px_w h a k x))
      | _ => none
    | false => match Nat.beq t 1000 with
      | true => match v with
        | .inr (.inl r) => px_if (Nat.blt r px_N && Nat.beq (px_tag r) 1) (kk (px_w h a k (nI r)))
        | _ => none
      | false => none)
def px_upd : pL → Nat → Option pV → pL
  | [], _, _ => []
  | _ :: l, 0, v => v :: l
  | x :: l, i + 1, v => x :: px_upd l i v
/-- the place ahead isn't a long's -/
def px_cs (ls : pL) (i : Nat) : Bool := Nat.blt i ls.length && (match i with
  | 0 => true
  | j + 1 => match px_nth ls j with
    | some (some (.inr (.inr _))) => false
    | _ => true)
def px_tg (pc : Nat) (off : Int) (kk : Nat → pR) : pR := match (pc : Int) + off with
  | .ofNat t => kk t
  | .negSucc _ => none
def px_i1 (st : List pV) (kk : Int32 → List pV → pR) : pR := match st with
  | .inl x :: r => kk x r
  | _ => none
def px_i2 (st : List pV) (kk : Int32 → Int32 → List pV → pR) : pR := match st with
  | .inl y :: .inl x :: r => kk x y r
  | _ => none
def px_l2 (st : List pV) (kk : Int64 → Int64 → List pV → pR) : pR := match st with
  | .inr (.inr y) :: .inr (.inr x) :: r => kk x y r
  | _ => none
def px_ld (ls : pL) (i : Nat) (kk : pV → pR) : pR := match px_nth ls i with
  | some (some v) => kk v
  | _ => none
def px_bz (x : Int32) (h : pH) : pR := px_if (decide (x = 0) || decide (x = 1)) (some (x, h))
def px_isI (v : pV) (kk : pR) : pR := match v with
  | .inl _ => kk
  | _ => none
def px_isL (v : pV) (kk : pR) : pR := match v with
  | .inr (.inr _) => kk
  | _ => none
def px_isA (v : pV) (kk : pR) : pR := match v with
  | .inr (.inl _) => kk
  | _ => none
def px_cond (o : ClassFile.Cond) (x y : Int32) (a b : pR) : pR := match o with
  | .eq => if x = y then a else b
  | .ne => if x = y then b else a
  | .lt => if x < y then a else b
  | .ge => if y ≤ x then a else b
  | .gt => if y < x then a else b
  | .le => if x ≤ y then a else b
def px_popn : Nat → List pV → Option (List pV × List pV)
  | 0, st => some ([], st)
  | n + 1, st => match st with
    | [] => none
    | v :: r => match px_popn n r with
      | none => none
      | some q => some (q.1 ++ [v], q.2)
def px_cat (v : pV) : Nat := match v with
  | .inr (.inr _) => 2
  | _ => 1
def px_low (st : List pV) : Bool := Nat.ble ((st.map px_cat).sum) 8
/-- a call of method id, static or of an object of its class -/
def px_call (C : pC) (id : Nat) (sta : Bool) (pc : Nat) (ls : pL) (st : List pV) (h : pH) (k : pK) : pR := match px_nth px_mt id with
  | none => none
  | some (_, _, _, rt, s0, np, ci) => match s0, sta with
    | true, true => match px_popn np st with
      | none => none
      | some (as, r) => px_if (px_low r) (px_bind (C id as h) (fun x h1 => k (pc + 3) ls (match rt with
        | none => r
        | some _ => .inl x :: r) h1))
    | false, false => match px_popn np st with
      | none => none
      | some (as, .inr (.inl b) :: r) => px_if (Nat.beq (px_tag b) (ci + 10) && px_low r) (px_bind (C id (.inr (.inl b) :: as) h) (fun x h1 => k (pc + 3) ls (match rt with
        | none => r
        | some _ => .inl x :: r) h1))
      | some _ => none
    | _, _ => none
def px_max (x y : Int32) : Int32 := if x < y then y else x
def px_min (x y : Int32) : Int32 := if y < x then y else x
def px_abs (x : Int32) : Int32 := if 0 ≤ x then x else 0 - x
def px_maxL (x y : Int64) : Int64 := if y < x then x else y
def px_minL (x y : Int64) : Int64 := if y < x then y else x
def px_ush (x y : Int32) : Int32 := (x.toUInt32 >>> (y.toUInt32 &&& Int32.toUInt32 31)).toInt32
def px_nb (x : Int32) : Int32 := vp_nar .byte x
def px_nc (x : Int32) : Int32 := vp_nar .char x
def px_nz (x : Int32) : Int32 := vp_nar .boolean x
def px_i2b (x : Int32) : Int32 := x.toInt8.toInt32
def px_i2s (x : Int32) : Int32 := x.toInt16.toInt32
def px_i2c (x : Int32) : Int32 := (x.toUInt32 % 65536).toInt32
def px_lk : List (Int × Int) → Int → Int32 → (Int → pR) → pR
  | [], d, _, kk => kk d
  | q :: l, d, x, kk => if x = px_c q.1 then kk q.2 else px_lk l d x kk
def px_ts : List Int → Int → Int → Int32 → (Int → pR) → pR
  | [], _, d, _, kk => kk d
  | o :: l, v, d, x, kk => if x = px_c v then kk o else px_ts l (v + 1) d x kk
def px_sorted : List (Int × Int) → Bool
  | [] => true
  | q :: l => decide (-2147483648 ≤ q.1) && decide (q.1 ≤ 2147483647) && px_sorted l
def px_step (X : pX) (rt : Option FieldType) (C : pC) (i : Instr) (n pc : Nat) (ls : pL) (st : List pV) (h : pH) (k : pK) : pR :=
  match i with
  | .iconst v => px_if (Nat.beq n 1) (k (pc + 1) ls (.inl (px_c v) :: st) h)
  | .bipush v => px_if (Nat.beq n 2 && (decide (-128 ≤ v) && decide (v ≤ 127))) (k (pc + 2) ls (.inl (px_c v) :: st) h)
  | .sipush v => px_if (Nat.beq n 3 && (decide (-32768 ≤ v) && decide (v ≤ 32767))) (k (pc + 3) ls (.inl (px_c v) :: st) h)
  | .lconst v => px_if (Nat.beq n 1) (k (pc + 1) ls (.inr (.inr (Int64.ofNat (v : Nat))) :: st) h)
  | .ldc j => px_if (Nat.beq n 2) (match px_find X.2.2.2.1 j with
    | some q => k (pc + 2) ls (.inl q.1 :: st) h
    | none => none)
  | .ldc_w j => px_if (Nat.beq n 3) (match px_find X.2.2.2.1 j with
    | some q => k (pc + 3) ls (.inl q.1 :: st) h
    | none => none)
  | .ldc2_w j => px_if (Nat.beq n 3) (match px_find X.2.2.2.2 j with
    | some q => k (pc + 3) ls (.inr (.inr q.1) :: st) h
    | none => none)
  | .iload j => px_if (Nat.beq n 2) (px_ld ls j fun v => px_isI v (k (pc + 2) ls (v :: st) h))
  | .iload_n j => px_if (Nat.beq n 1) (px_ld ls j fun v => px_isI v (k (pc + 1) ls (v :: st) h))
  | .aload j => px_if (Nat.beq n 2) (px_ld ls j fun v => px_isA v (k (pc + 2) ls (v :: st) h))
  | .aload_n j => px_if (Nat.beq n 1) (px_ld ls j fun v => px_isA v (k (pc + 1) ls (v :: st) h))
  | .lload j => px_if (Nat.beq n 2) (px_ld ls j fun v => px_isL v (k (pc + 2) ls (v :: st) h))
  | .istore j => px_if (Nat.beq n 2 && px_cs ls j) (px_i1 st fun x r => k (pc + 2) (px_upd ls j (some (.inl x))) r h)
  | .istore_n j => px_if (Nat.beq n 1 && px_cs ls j) (px_i1 st fun x r => k (pc + 1) (px_upd ls j (some (.inl x))) r h)
  | .lstore j => px_if (Nat.beq n 2 && px_cs ls j && Nat.blt (j + 1) ls.length) (match st with
    | .inr (.inr x) :: r => k (pc + 2) (px_upd (px_upd ls (j + 1) none) j (some (.inr (.inr x)))) r h
    | _ => none)
  | .iinc j v => px_if (Nat.beq n 3 && px_cs ls j) (px_ld ls j fun w => match w with
    | .inl x => k (pc + 3) (px_upd ls j (some (.inl (x + px_c v)))) st h
    | _ => none)
  | .iadd => px_if (Nat.beq n 1) (px_i2 st fun x y r => k (pc + 1) ls (.inl (x + y) :: r) h)
  | .isub => px_if (Nat.beq n 1) (px_i2 st fun x y r => k (pc + 1) ls (.inl (x - y) :: r) h)
  | .imul => px_if (Nat.beq n 1) (px_i2 st fun x y r => k (pc + 1) ls (.inl (x * y) :: r) h)
  | .iand => px_if (Nat.beq n 1) (px_i2 st fun x y r => k (pc + 1) ls (.inl (x &&& y) :: r) h)
  | .ior => px_if (Nat.beq n 1) (px_i2 st fun x y r => k (pc + 1) ls (.inl (x ||| y) :: r) h)
  | .ixor => px_if (Nat.beq n 1) (px_i2 st fun x y r => k (pc + 1) ls (.inl (x ^^^ y) :: r) h)
  | .idiv => px_if (Nat.beq n 1) (px_i2 st fun x y r => if y = 0 then none else k (pc + 1) ls (.inl (x / y) :: r) h)
  | .irem => px_if (Nat.beq n 1) (px_i2 st fun x y r => if y = 0 then none else k (pc + 1) ls (.inl (x - x / y * y) :: r) h)
  | .ishl => px_if (Nat.beq n 1) (px_i2 st fun x y r => k (pc + 1) ls (.inl (x <<< (y &&& 31)) :: r) h)
  | .ishr => px_if (Nat.beq n 1) (px_i2 st fun x y r => k (pc + 1) ls (.inl (x >>> (y &&& 31)) :: r) h)
  | .iushr => px_if (Nat.beq n 1) (px_i2 st fun x y r => k (pc + 1) ls (.inl (px_ush x y) :: r) h)
  | .ineg => px_if (Nat.beq n 1) (px_i1 st fun x r => k (pc + 1) ls (.inl (-x) :: r) h)
  | .i2b => px_if (Nat.beq n 1) (px_i1 st fun x r => k (pc + 1) ls (.inl (px_i2b x) :: r) h)
  | .i2s => px_if (Nat.beq n 1) (px_i1 st fun x r => k (pc + 1) ls (.inl (px_i2s x) :: r) h)
  | .i2c => px_if (Nat.beq n 1) (px_i1 st fun x r => k (pc + 1) ls (.inl (px_i2c x) :: r) h)
  | .i2l => px_if (Nat.beq n 1) (px_i1 st fun x r => k (pc + 1) ls (.inr (.inr x.toInt64) :: r) h)
  | .l2i => px_if (Nat.beq n 1) (match st with
    | .inr (.inr x) :: r => k (pc + 1) ls (.inl x.toInt32 :: r) h
    | _ => none)
  | .ladd => px_if (Nat.beq n 1) (px_l2 st fun x y r => k (pc + 1) ls (.inr (.inr (x + y)) :: r) h)
  | .lsub => px_if (Nat.beq n 1) (px_l2 st fun x y r => k (pc + 1) ls (.inr (.inr (x - y)) :: r) h)
  | .lcmp => px_if (Nat.beq n 1) (px_l2 st fun x y r => k (pc + 1) ls (.inl (lg_cmp x y) :: r) h)
  | .dup => px_if (Nat.beq n 1) (match st with
    | v :: r => px_if (Nat.beq (px_cat v) 1) (k (pc + 1) ls (v :: v :: r) h)
    | _ => none)
  | .pop => px_if (Nat.beq n 1) (match st with
    | v :: r => px_if (Nat.beq (px_cat v) 1) (k (pc + 1) ls r h)
    | _ => none)
  | .dup2 => px_if (Nat.beq n 1) (match st with
    | v :: w :: r => px_if (Nat.beq (px_cat v) 1 && Nat.beq (px_cat w) 1) (k (pc + 1) ls (v :: w :: v :: w :: r) h)
    | _ => none)
  | .dup_x1 => px_if (Nat.beq n 1) (match st with
    | v :: w :: r => px_if (Nat.beq (px_cat v) 1 && Nat.beq (px_cat w) 1) (k (pc + 1) ls (v :: w :: v :: r) h)
    | _ => none)
  | .ifCond o off => px_if (Nat.beq n 3) (px_i1 st fun x r => px_tg pc off fun t => px_cond o x 0 (k t ls r h) (k (pc + 3) ls r h))
  | .if_icmp o off => px_if (Nat.beq n 3) (px_i2 st fun x y r => px_tg pc off fun t => px_cond o x y (k t ls r h) (k (pc + 3) ls r h))
  | .goto off => px_if (Nat.beq n 3) (px_tg pc off fun t => k t ls st h)
  | .tableswitch d lo hi offs => px_if (decide (lo + (offs.toList.length : Int) = hi + 1) && (decide (-2147483648 ≤ lo) && decide (hi ≤ 2147483647))) (px_i1 st fun x r => px_ts offs.toList lo d x fun off => px_tg pc off fun t => k t ls r h)
  | .lookupswitch d ps => px_if ((ps.toList.zip (ps.toList.drop 1)).all (fun (a, next) => a.1 < next.1) && px_sorted ps.toList) (px_i1 st fun x r => px_lk ps.toList d x fun off => px_tg pc off fun t => k t ls r h)
  | .getfield j => px_if (Nat.beq n 3) (match st with
    | .inr (.inl a) :: r => match px_find X.2.1 j with
      | some q => px_get a q.1 q.2.1 h fun v => k (pc + 3) ls (v :: r) h
      | none => none
    | _ => none)
  | .putfield j => px_if (Nat.beq n 3) (match st with
    | v :: .inr (.inl a) :: r => match px_find X.2.1 j with
      | some q => px_put a q.1 q.2.1 v h fun h1 => k (pc + 3) ls r h1
      | none => none
    | _ => none)
  | .arraylength => px_if (Nat.beq n 1) (match st with
    | .inr (.inl a) :: r => px_if (Nat.blt (px_tag a) 4) (k (pc + 1) ls (.inl (nI (px_len a)) :: r) h)
    | _ => none)
  | .iaload => px_if (Nat.beq n 1) (match st with
    | .inl i :: .inr (.inl a) :: r => px_if (px_ok 0 a i) (k (pc + 1) ls (.inl (h a i.toNatClampNeg) :: r) h)
    | _ => none)
  | .baload => px_if (Nat.beq n 1) (match st with
    | .inl i :: .inr (.inl a) :: r => px_if (px_ok 1 a i || px_ok 3 a i) (k (pc + 1) ls (.inl (h a i.toNatClampNeg) :: r) h)
    | _ => none)
  | .caload => px_if (Nat.beq n 1) (match st with
    | .inl i :: .inr (.inl a) :: r => px_if (px_ok 2 a i) (k (pc + 1) ls (.inl (h a i.toNatClampNeg) :: r) h)
    | _ => none)
  | .iastore => px_if (Nat.beq n 1) (match st with
    | .inl x :: .inl i :: .inr (.inl a) :: r => px_if (px_ok 0 a i) (k (pc + 1) ls r (px_w h a i.toNatClampNeg x))
    | _ => none)
  | .bastore => px_if (Nat.beq n 1) (match st with
    | .inl x :: .inl i :: .inr (.inl a) :: r => match Nat.beq (px_tag a) 3 with
      | true => px_if (px_ok 3 a i) (k (pc + 1) ls r (px_w h a i.toNatClampNeg (px_nz x)))
      | false => px_if (px_ok 1 a i) (k (pc + 1) ls r (px_w h a i.toNatClampNeg (px_nb x)))
    | _ => none)
  | .castore => px_if (Nat.beq n 1) (match st with
    | .inl x :: .inl i :: .inr (.inl a) :: r => px_if (px_ok 2 a i) (k (pc + 1) ls r (px_w h a i.toNatClampNeg (px_nc x)))
    | _ => none)
  | .invokestatic j => px_if (Nat.beq n 3) (match px_find X.2.2.1 j with
    | none => none
    | some q => match Nat.ble 1000 q.1 with
      | false => px_call C q.1 true pc ls st h k
      | true => match q.1 with
        | 1000 => px_i2 st fun x y r => px_if (px_low r) (k (pc + 3) ls (.inl (px_max x y) :: r) h)
        | 1001 => px_i2 st fun x y r => px_if (px_low r) (k (pc + 3) ls (.inl (px_min x y) :: r) h)
        | 1002 => px_i1 st fun x r => px_if (px_low r) (k (pc + 3) ls (.inl (px_abs x) :: r) h)
        | 1003 => px_l2 st fun x y r => px_if (px_low r) (k (pc + 3) ls (.inr (.inr (px_maxL x y)) :: r) h)
        | 1004 => px_l2 st fun x y r => px_if (px_low r) (k (pc + 3) ls (.inr (.inr (px_minL x y)) :: r) h)
        | _ => none)
  | .invokevirtual j => px_if (Nat.beq n 3) (match px_find X.2.2.1 j with
    | none => none
    | some q => px_call C q.1 false pc ls st h k)
  | .ireturn => px_if (Nat.beq n 1) (match st with
    | [.inl x] => match rt with
      | some .int => some (x, h)
      | some .boolean => px_bz x h
      | _ => none
    | _ => none)
  | .return_ => px_if (Nat.beq n 1) (match st, rt with
    | [], none => some (0, h)
    | _, _ => none)
  | _ => none
def px_mem : List Nat → Nat → Bool
  | [], _ => false
  | a :: l, i => match Nat.beq a i with
    | true => true
    | false => px_mem l i
abbrev pCode : Type := List (Nat × Instr × Nat)
/-- from pc on, till a place of ld: what comes there is K's -/
def px_blk (X : pX) (rt : Option FieldType) (C : pC) (code : pCode) (ld : List Nat) (K : pK) : Nat → pK
  | 0, _, _, _, _ => none
  | n + 1, pc, ls, st, h => match px_find code pc with
    | none => none
    | some q => px_step X rt C q.1 q.2 pc ls st h fun pc' ls' st' h' => match px_mem ld pc' with
      | true => K pc' ls' st' h'
      | false => px_blk X rt C code ld K n pc' ls' st' h'
end
section
/-! What the pure machine does the machine does: the facts, the worlds, the judgement -/
def px_isN : Jvm.Cond → Bool
  | .fieldLinkNest .. => true
  | .methodLinkNest .. => true
  | _ => false
def px_TB : List Jvm.Cond := lw_tbl.filter goodWord
def px_TN : List Jvm.Cond := lw_tbl.filter px_isN
theorem px_TB_of {w : Jvm.Cond} (h : w ∈ lw_tbl) (g : goodWord w = true) : w ∈ px_TB := List.mem_filter.mpr ⟨h, g⟩
theorem px_TN_of {w : Jvm.Cond} (h : w ∈ lw_tbl) (g : px_isN w = true) : w ∈ px_TN := List.mem_filter.mpr ⟨h, g⟩
theorem px_good {ws : List Jvm.Cond} (h : ∀ w ∈ ws, w ∈ px_TB) : GoodIn px_TB ws := fun w hw => ⟨h w hw, good_of_word (List.mem_filter.mp (h w hw)).2⟩
def px_at (i : Nat) (w : Jvm.Cond) : Bool := decide (lw_tbl[i]? = some w)
theorem px_at_mem {i : Nat} {w : Jvm.Cond} (h : px_at i w = true) : w ∈ lw_tbl := List.mem_of_getElem? (i := i) (of_decide_eq_true h)
def px_fB (own : String) (q : Nat × Nat × Nat × Nat) : Bool := match px_cl[q.2.1]? with
  | none => false
  | some r => Nat.blt q.2.2.1 r.2.2 && (decide ((r.2.1 q.2.2.1).1 = r.1) && (px_at q.2.2.2 (.fieldLink own q.1 r.1 (r.2.1 q.2.2.1).2.1 (r.2.1 q.2.2.1).2.2.1) || px_at q.2.2.2 (.fieldLinkNest own q.1 r.1 (r.2.1 q.2.2.1).2.1 (r.2.1 q.2.2.1).2.2.1 "WordsUnsaid")))
def px_iname (k : Nat) : MethodName := match k with
  | 1000 => Lib.Math.max.name
  | 1001 => Lib.Math.min.name
  | 1002 => Lib.Math.abs.name
  | 1003 => Lib.MathLoose.max_long.x
  | _ => Lib.MathLoose.min_long.x
def px_mB (own : String) (q : Nat × Nat × Nat) : Bool := match Nat.ble 1000 q.2.1 with
  | true => px_at q.2.2 (.methodLink own q.1 (px_iname q.2.1))
  | false => match px_nth px_mt q.2.1 with
    | none => false
    | some r => px_at q.2.2 (.methodLink own q.1 r.1) || px_at q.2.2 (.methodLinkNest own q.1 r.1 "WordsUnsaid")
def px_ctxB (X : pX) : Bool := X.2.1.all (px_fB X.1) && (X.2.2.1.all (px_mB X.1) && (X.2.2.2.1.all (fun q => px_at q.2.2 (.constant X.1 q.1 q.2.1)) && X.2.2.2.2.all (fun q => px_at q.2.2 (.constantLong X.1 q.1 q.2.1))))
theorem px_find_mem {α : Type} {l : List (Nat × α)} {i : Nat} {x : α} (h : px_find l i = some x) : (i, x) ∈ l := by
  induction l with
  | nil => cases h
  | cons q l ih =>
    unfold px_find at h
    split at h
    · rename_i hq
      cases h
      have := Nat.eq_of_beq_eq_true hq
      subst this
      exact List.mem_cons_self
    · exact List.mem_cons_of_mem _ (ih h)
theorem px_nth_eq {α : Type} (l : List α) (i : Nat) : px_nth l i = l[i]? := by
  induction l generalizing i with
  | nil => simp [px_nth]
  | cons a l ih =>
    cases i with
    | zero => simp [px_nth]
    | succ i => simp [px_nth, ih]
def px_descB (a : Nat) (r : vw_C) (k : Nat) : Bool := match px_rf a k with
  | none => decide ((r.2.1 k).2.2.1 = "I") && !(r.2.1 k).2.2.2
  | some t => match Nat.beq t 1001 with
    | true => decide ((r.2.1 k).2.2.1 = "Z") && !(r.2.1 k).2.2.2
    | false => match Nat.beq t 1000 with
      | true => decide ((r.2.1 k).2.2.1 = "[B") && !(r.2.1 k).2.2.2
      | false => Nat.blt t px_N
def px_layB (a : Nat) : Bool := match Nat.blt (px_tag a) 4 with
  | true => true
  | false => Nat.ble 10 (px_tag a) && (match px_cl[px_tag a - 10]? with
    | none => false
    | some r => Nat.beq r.2.2 (px_len a) && (List.range r.2.2).all (px_descB a r))
set_option maxRecDepth 20000 in
theorem px_layB_ok : (List.range px_N).all px_layB = true := by decide +kernel
theorem px_lay_of {a : Nat} (h : a < px_N) : px_layB a = true := List.all_eq_true.mp px_layB_ok a (List.mem_range.mpr h)
theorem px_lay_len : px_lay.length = px_N := by decide +kernel
theorem px_row_out {a : Nat} (h : px_N ≤ a) : px_tag a = 9 := by
  unfold px_tag px_row
  rw [px_nth_eq, List.getElem?_eq_none (by rw [px_lay_len]; exact h)]
theorem px_in_N {a : Nat} (h : px_tag a ≠ 9) : a < px_N := Nat.lt_of_not_le fun q => h (px_row_out q)
/-! the worlds -/
def pv (ad : Nat → Nat) : pV → Value
  | .inl x => .int x
  | .inr (.inl a) => .ref (ad a)
  | .inr (.inr x) => .long x
def px_fv (ad : Nat → Nat) (h : pH) (a k : Nat) : Value := match px_rf a k with
  | none => .int (h a k)
  | some t => match Nat.beq t 1001 with
    | true => .int (h a k)
    | false => match Nat.beq t 1000 with
      | true => if h a k < 0 then .null else .ref (ad (h a k).toNatClampNeg)
      | false => .ref (ad t)
def px_ent (D3 : Nat → ClassId) (ad : Nat → Nat) (h : pH) (a : Nat) : va_E := match Nat.blt (px_tag a) 4 with
  | true => .inl (D3 (px_tag a), (px_len a, .inl (h a)))
  | false => .inr (px_tag a - 10, (List.range (px_len a)).map (px_fv ad h a))
def px_ws (D3 : Nat → ClassId) (ad : Nat → Nat) (h : pH) : va_W := (List.range px_N).map fun a => (ad a, px_ent D3 ad h a)
def px_tys (D3 : Nat → ClassId) : List (ClassId × FieldType) := [(D3 0, .int), (D3 1, .byte), (D3 2, .char), (D3 3, .boolean)]
def px_inj (ad : Nat → Nat) : Prop := ∀ i j, i < px_N → j < px_N → ad i = ad j → i = j
def px_A (ad : Nat → Nat) (sz : Nat) : Nat → Prop := fun q => (∃ a, a < px_N ∧ q = ad a) ∨ sz ≤ q
theorem px_ws_at {D3 : Nat → ClassId} {ad : Nat → Nat} {h : pH} {a : Nat} (ha : a < px_N) : (px_ws D3 ad h)[a]? = some (ad a, px_ent D3 ad h a) := by
  unfold px_ws
  rw [List.getElem?_map, List.getElem?_range ha]
  rfl
theorem px_ws_inv {D3 : Nat → ClassId} {ad : Nat → Nat} {h : pH} {a : Nat} {q : Nat × va_E} (e : (px_ws D3 ad h)[a]? = some q) : a < px_N ∧ q = (ad a, px_ent D3 ad h a) := by
  have ha : a < px_N := by
    have := (List.getElem?_eq_some_iff.mp e).1
    simpa [px_ws] using this
  rw [px_ws_at ha] at e
  exact ⟨ha, (Option.some.inj e).symm⟩
theorem px_DD {D3 : Nat → ClassId} {ad : Nat → Nat} {h : pH} {sz : Nat} (hi : px_inj ad) : va_D (px_A ad sz) (px_ws D3 ad h) := by
  refine ⟨fun i j p q h1 h2 e => ?_, fun k q h1 => ?_⟩
  · obtain ⟨a1, rfl⟩ := px_ws_inv h1
    obtain ⟨a2, rfl⟩ := px_ws_inv h2
    exact hi i j a1 a2 e
  · obtain ⟨a1, rfl⟩ := px_ws_inv h1
    exact Or.inl ⟨k, a1, rfl⟩
theorem px_ws_set {D3 : Nat → ClassId} {ad : Nat → Nat} {h h' : pH} {a : Nat} (ha : a < px_N) (ho : ∀ b, b ≠ a → h' b = h b) : (px_ws D3 ad h).set a (ad a, px_ent D3 ad h' a) = px_ws D3 ad h' := by
  apply List.ext_getElem?
  intro i
  by_cases hi : i = a
  · subst hi
    rw [List.getElem?_set_self (by simpa [px_ws] using ha), px_ws_at ha]
  · rw [List.getElem?_set_ne (Ne.symm hi)]
    by_cases hN : i < px_N
    · rw [px_ws_at hN, px_ws_at hN]
      have e1 : ∀ k, px_fv ad h' i k = px_fv ad h i k := fun k => by unfold px_fv; rw [ho i hi]
      have e2 : px_fv ad h' i = px_fv ad h i := funext e1
      unfold px_ent
      rw [e2, ho i hi]
    · rw [List.getElem?_eq_none (by simpa [px_ws] using hN), List.getElem?_eq_none (by simpa [px_ws] using hN)]
theorem px_w_ne {h : pH} {a k b : Nat} {v : Int32} (hb : b ≠ a) : px_w h a k v b = h b := by
  funext j
  simp [px_w, hb]
theorem px_w_self {h : pH} {a k : Nat} {v : Int32} : px_w h a k v a = upd (h a) k v := by
  funext j
  simp [px_w, upd]
theorem px_ent_arr {D3 : Nat → ClassId} {ad : Nat → Nat} {h : pH} {a : Nat} (ht : px_tag a < 4) : px_ent D3 ad h a = .inl (D3 (px_tag a), (px_len a, .inl (h a))) := by
  have hb : Nat.blt (px_tag a) 4 = true := by simpa [Nat.blt_eq] using ht
  unfold px_ent
  rw [hb]
theorem px_ent_obj {D3 : Nat → ClassId} {ad : Nat → Nat} {h : pH} {a : Nat} (ht : ¬ px_tag a < 4) : px_ent D3 ad h a = .inr (px_tag a - 10, (List.range (px_len a)).map (px_fv ad h a)) := by
  have hb : Nat.blt (px_tag a) 4 = false := by
    cases hq : Nat.blt (px_tag a) 4 with
    | false => rfl
    | true => exact absurd (by simpa [Nat.blt_eq] using hq) ht
  unfold px_ent
  rw [hb]
/-- a field is written -/
theorem px_fset {ad : Nat → Nat} {h : pH} {a k : Nat} {v : Int32} {u : Value} (hu : px_fv ad (px_w h a k v) a k = u) : ((List.range (px_len a)).map (px_fv ad h a)).set k u = (List.range (px_len a)).map (px_fv ad (px_w h a k v) a) := by
  apply List.ext_getElem?
  intro i
  by_cases hi : i = k
  · subst hi
    by_cases hl : i < px_len a
    · rw [List.getElem?_set_self (by simpa using hl), List.getElem?_map, List.getElem?_range hl, ← hu]
      rfl
    · rw [List.getElem?_eq_none (by simpa using hl), List.getElem?_eq_none (by simpa using hl)]
  · rw [List.getElem?_set_ne (Ne.symm hi), List.getElem?_map, List.getElem?_map]
    have e1 : px_fv ad (px_w h a k v) a i = px_fv ad h a i := by
      unfold px_fv
      have : px_w h a k v a i = h a i := by simp [px_w, hi]
      rw [this]
    cases hr : (List.range (px_len a))[i]? with
    | none => rfl
    | some j =>
      have hj : j = i := by
        have := List.getElem?_eq_some_iff.mp hr
        obtain ⟨h1, h2⟩ := this
        simpa using h2.symm
      subst hj
      simp [e1]
/-! the judgement -/
abbrev pM : Type := pX × ByteArray × Nat × Option FieldType
def px_rm (d : Nat) : Room := { frames := d, cells := 0, slots := 0, locals := 40 * d }
def px_has (ad : Nat → Nat) (lsA : Array Slot) (nL : Nat) (ls : pL) : Prop := lsA.size = nL ∧ lv_wf lsA ∧ ls.length = nL ∧ ∀ (i : Nat) (v : pV), px_nth ls i = some (some v) → lsA[i]? = some (.val (pv ad v))
def px_U (D : va_G) (D3 : Nat → ClassId) (ad : Nat → Nat) (u : pH) (t : State) : Prop := va_P D px_cl (px_ws D3 ad u) t.heap ∧ va_K D px_cl (px_tys D3) t
def px_Q (D : va_G) (D3 : Nat → ClassId) (ad : Nat → Nat) (sz : Nat) (rt : Option FieldType) (q : Int32 × pH) : Array Value → State → Outcome → State → Prop := match rt with
  | none => va_Qv (fun u : pH => u = q.2) (px_U D D3 ad) (px_A ad sz)
  | some _ => va_Qi (fun (r : Int32) (u : pH) => r = q.1 ∧ u = q.2) (px_U D D3 ad) (px_A ad sz)
def px_Fix (M : pM) (p : Program) (s : State) (m : MethodId) (args : Array Value) (meth : Method) (c : Code) (D : va_G) (D3 : Nat → ClassId) (ad : Nat → Nat) : Prop :=
  p.tables.exec = Jvm.exec ∧ c.code = M.2.1 ∧ c.maxLocals = M.2.2.1 ∧ meth.sig.returnType = M.2.2.2 ∧ s.vm.findClass M.1.1 = some m.cls ∧ (∀ w ∈ px_TB, w.before args s = true) ∧ meth.locks = false ∧ va_K D px_cl (px_tys D3) s ∧ (∀ w ∈ px_TN, va_Nw w s) ∧ px_inj ad
def px_G (d : Nat) (M : pM) (pc : Nat) (ls : pL) (st : List pV) (h : pH) (q : Int32 × pH) : Prop :=
  ∀ (p : Program) (l : Launch) (e : Env) (s : State) (m : MethodId) (args : Array Value) (below : List Frame) (meth : Method) (c : Code) (D : va_G) (D3 : Nat → ClassId) (ad : Nat → Nat) (H : Heap) (locs : List Loc) (lsA : Array Slot),
    px_Fix M p s m args meth c D D3 ad → va_P D px_cl (px_ws D3 ad h) H → va_S (px_A ad s.heap.size) s.heap H locs → px_has ad lsA M.2.2.1 ls →
    W p l e (px_rm d) s m args below meth c H locs 0 0 (MQ below (px_Q D D3 ad s.heap.size M.2.2.2 q) args s 0 0 (px_A ad s.heap.size)) (F0 m pc lsA (st.map (pv ad)))
/-- a method's contract at arguments a and contents h: it answers q.1 and leaves q.2 -/
def px_Con (d : Nat) (id : Nat) (a : List pV) (h : pH) (q : Int32 × pH) : Prop := match px_nth px_mt id with
  | none => False
  | some (y, b, nL, rt, _, _, _) => ∀ (l : Launch) (D : va_G) (D3 : Nat → ClassId) (ad : Nat → Nat) (sz : Nat), px_inj ad →
    Met l y (.code y b nL rt :: px_TB) (px_rm d) (va_Pc (a.map (pv ad)) (fun U => U.heap.size = sz ∧ va_P D px_cl (px_ws D3 ad h) U.heap ∧ va_K D px_cl (px_tys D3) U ∧ ∀ w ∈ px_TN, va_Nw w U)) (px_Q D D3 ad sz rt q) 0 0 (px_A ad sz)
def px_Or (d : Nat) (C : pC) : Prop := ∀ (id : Nat) (a : List pV) (h : pH) (q : Int32 × pH), C id a h = some q → px_Con d id a h q
/-! small rows -/
theorem px_if_some {b : Bool} {x : pR} {q : Int32 × pH} (h : px_if b x = some q) : b = true ∧ x = some q := by
  cases b with
  | true => exact ⟨rfl, h⟩
  | false => cases h
theorem px_bind_some {x : pR} {f : Int32 → pH → pR} {q : Int32 × pH} (h : px_bind x f = some q) : ∃ r h1, x = some (r, h1) ∧ f r h1 = some q := by
  cases x with
  | none => cases h
  | some y => exact ⟨y.1, y.2, rfl, h⟩
theorem px_i1_some {st : List pV} {f : Int32 → List pV → pR} {q : Int32 × pH} (h : px_i1 st f = some q) : ∃ x r, st = .inl x :: r ∧ f x r = some q := by
  unfold px_i1 at h
  split at h
  · exact ⟨_, _, rfl, h⟩
  · cases h
theorem px_i2_some {st : List pV} {f : Int32 → Int32 → List pV → pR} {q : Int32 × pH} (h : px_i2 st f = some q) : ∃ x y r, st = .inl y :: .inl x :: r ∧ f x y r = some q := by
  unfold px_i2 at h
  split at h
  · exact ⟨_, _, _, rfl, h⟩
  · cases h
theorem px_l2_some {st : List pV} {f : Int64 → Int64 → List pV → pR} {q : Int32 × pH} (h : px_l2 st f = some q) : ∃ x y r, st = .inr (.inr y) :: .inr (.inr x) :: r ∧ f x y r = some q := by
  unfold px_l2 at h
  split at h
  · exact ⟨_, _, _, rfl, h⟩
  · cases h
theorem px_ld_some {ls : pL} {i : Nat} {f : pV → pR} {q : Int32 × pH} (h : px_ld ls i f = some q) : ∃ v, px_nth ls i = some (some v) ∧ f v = some q := by
  unfold px_ld at h
  split at h
  · rename_i v hv
    exact ⟨v, hv, h⟩
  · cases h
theorem px_isI_some {v : pV} {x : pR} {q : Int32 × pH} (h : px_isI v x = some q) : ∃ y, v = .inl y ∧ x = some q := by
  unfold px_isI at h
  split at h
  · exact ⟨_, rfl, h⟩
  · cases h
theorem px_isA_some {v : pV} {x : pR} {q : Int32 × pH} (h : px_isA v x = some q) : ∃ y, v = .inr (.inl y) ∧ x = some q := by
  unfold px_isA at h
  split at h
  · exact ⟨_, rfl, h⟩
  · cases h
theorem px_isL_some {v : pV} {x : pR} {q : Int32 × pH} (h : px_isL v x = some q) : ∃ y, v = .inr (.inr y) ∧ x = some q := by
  unfold px_isL at h
  split at h
  · exact ⟨_, rfl, h⟩
  · cases h
theorem px_tg_some {pc : Nat} {off : Int} {f : Nat → pR} {q : Int32 × pH} (h : px_tg pc off f = some q) : ∃ t : Nat, (pc : Int) + off = (t : Int) ∧ f t = some q := by
  unfold px_tg at h
  split at h
  · rename_i t ht
    exact ⟨t, ht, h⟩
  · cases h
theorem px_upd_len (ls : pL) (i : Nat) (v : Option pV) : (px_upd ls i v).length = ls.length := by
  induction ls generalizing i with
  | nil => rfl
  | cons a l ih =>
    cases i with
    | zero => rfl
    | succ i => simp [px_upd, ih]
theorem px_upd_self {ls : pL} {i : Nat} {v : Option pV} (h : i < ls.length) : px_nth (px_upd ls i v) i = some v := by
  induction ls generalizing i with
  | nil => simp at h
  | cons a l ih =>
    cases i with
    | zero => rfl
    | succ i => exact ih (by simpa using h)
theorem px_upd_ne {ls : pL} {i j : Nat} {v : Option pV} (h : j ≠ i) : px_nth (px_upd ls i v) j = px_nth ls j := by
  induction ls generalizing i j with
  | nil => rfl
  | cons a l ih =>
    cases i with
    | zero =>
      cases j with
      | zero => exact absurd rfl h
      | succ j => rfl
    | succ i =>
      cases j with
      | zero => rfl
      | succ j => exact ih (by omega)
theorem px_cs_lt {ls : pL} {i : Nat} (h : px_cs ls i = true) : i < ls.length := by
  unfold px_cs at h
  rw [Bool.and_eq_true] at h
  simpa [Nat.blt_eq] using h.1
theorem px_cs_long {ls : pL} {i j : Nat} {x : Int64} (h : px_cs ls i = true) (hj : j + 1 = i) : px_nth ls j ≠ some (some (.inr (.inr x))) := by
  subst hj
  unfold px_cs at h
  rw [Bool.and_eq_true] at h
  intro e
  have h2 := h.2
  simp only [e] at h2
  cases h2
def px_ents (ad : Nat → Nat) (ls : pL) : List (Nat × Value) := (List.range ls.length).filterMap fun i => match px_nth ls i with
  | some (some v) => some (i, pv ad v)
  | _ => none
theorem px_ents_mem {ad : Nat → Nat} {ls : pL} {q : Nat × Value} : q ∈ px_ents ad ls ↔ ∃ v, px_nth ls q.1 = some (some v) ∧ q.2 = pv ad v := by
  unfold px_ents
  rw [List.mem_filterMap]
  constructor
  · rintro ⟨i, hi, h⟩
    split at h
    · rename_i v hv
      cases h
      exact ⟨v, hv, rfl⟩
    · cases h
  · rintro ⟨v, hv, hq⟩
    refine ⟨q.1, ?_, ?_⟩
    · rw [List.mem_range]
      rw [px_nth_eq] at hv
      exact (List.getElem?_eq_some_iff.mp hv).1
    · rw [hv]
      show some (q.1, pv ad v) = some q
      rw [← hq]
theorem px_has_lv {ad : Nat → Nat} {lsA : Array Slot} {nL : Nat} {ls : pL} (h : px_has ad lsA nL ls) : lv_has lsA nL (px_ents ad ls) := by
  refine ⟨h.1, h.2.1, fun q hq => ?_⟩
  obtain ⟨v, h1, h2⟩ := px_ents_mem.mp hq
  rw [h2]
  exact h.2.2.2 _ _ h1
theorem px_has_st1 {ad : Nat → Nat} {lsA ls' : Array Slot} {nL : Nat} {ls : pL} {i : Nat} {v : pV} (h : px_has ad lsA nL ls) (hc : px_cs ls i = true)
    (h' : lv_has ls' nL ((i, pv ad v) :: (px_ents ad ls).filter (fun q => !(q.1 == i) && !(q.1 + 1 == i && q.2.category == 2)))) : px_has ad ls' nL (px_upd ls i (some v)) := by
  refine ⟨h'.1, h'.2.1, by rw [px_upd_len]; exact h.2.2.1, fun j w hj => ?_⟩
  by_cases hji : j = i
  · subst hji
    rw [px_upd_self (px_cs_lt hc)] at hj
    cases hj
    exact h'.2.2 (j, pv ad v) List.mem_cons_self
  · rw [px_upd_ne hji] at hj
    refine h'.2.2 (j, pv ad w) (List.mem_cons_of_mem _ (List.mem_filter.mpr ⟨px_ents_mem.mpr ⟨w, hj, rfl⟩, ?_⟩))
    have h1 : (j == i) = false := by simpa using hji
    by_cases hj1 : j + 1 = i
    · have hcat : ((pv ad w).category == 2) = false := by
        match w, hj with
        | .inl x, _ => rfl
        | .inr (.inl x), _ => rfl
        | .inr (.inr x), hj => exact absurd hj (px_cs_long hc hj1)
      simp [h1, hcat]
    · have h2 : (j + 1 == i) = false := by simpa using hj1
      simp [h1, h2]
theorem px_has_st2 {ad : Nat → Nat} {lsA ls' : Array Slot} {nL : Nat} {ls : pL} {i : Nat} {v : pV} (h : px_has ad lsA nL ls) (hc : px_cs ls i = true)
    (h' : lv_has ls' nL ((i, pv ad v) :: (px_ents ad ls).filter (fun q => !(q.1 == i) && (!(q.1 == i + 1) && !(q.1 + 1 == i && q.2.category == 2))))) : px_has ad ls' nL (px_upd (px_upd ls (i + 1) none) i (some v)) := by
  refine ⟨h'.1, h'.2.1, by rw [px_upd_len, px_upd_len]; exact h.2.2.1, fun j w hj => ?_⟩
  by_cases hji : j = i
  · subst hji
    rw [px_upd_self (by rw [px_upd_len]; exact px_cs_lt hc)] at hj
    cases hj
    exact h'.2.2 (j, pv ad v) List.mem_cons_self
  · rw [px_upd_ne hji] at hj
    by_cases hj2 : j = i + 1
    · subst hj2
      by_cases hl : i + 1 < ls.length
      · rw [px_upd_self hl] at hj
        cases hj
      · rw [px_nth_eq, List.getElem?_eq_none (by rw [px_upd_len]; omega)] at hj
        cases hj
    · rw [px_upd_ne hj2] at hj
      refine h'.2.2 (j, pv ad w) (List.mem_cons_of_mem _ (List.mem_filter.mpr ⟨px_ents_mem.mpr ⟨w, hj, rfl⟩, ?_⟩))
      have h1 : (j == i) = false := by simpa using hji
      have h3 : (j == i + 1) = false := by simpa using hj2
      by_cases hj1 : j + 1 = i
      · have hcat : ((pv ad w).category == 2) = false := by
          match w, hj with
          | .inl x, _ => rfl
          | .inr (.inl x), _ => rfl
          | .inr (.inr x), hj => exact absurd hj (px_cs_long hc hj1)
        simp [h1, h3, hcat]
      · have h2 : (j + 1 == i) = false := by simpa using hj1
        simp [h1, h2, h3]
/-- fewer known locals -/
def px_le (ls0 ls : pL) : Prop := ls0.length = ls.length ∧ ∀ (i : Nat) (v : pV), px_nth ls0 i = some (some v) → px_nth ls i = some (some v)
theorem px_G_le {d : Nat} {M : pM} {pc : Nat} {ls0 ls : pL} {st : List pV} {h : pH} {q : Int32 × pH} (hl : px_le ls0 ls) (k : px_G d M pc ls0 st h q) : px_G d M pc ls st h q :=
  fun p l e s m args below meth c D D3 ad H locs lsA hF hP hS hh => k p l e s m args below meth c D D3 ad H locs lsA hF hP hS ⟨hh.1, hh.2.1, hl.1.trans hh.2.2.1, fun i v hi => hh.2.2.2 i v (hl.2 i v hi)⟩
end
section
/-! What the pure machine does the machine does: an instruction at a time -/
theorem px_b8 {v : Int} (h1 : -128 ≤ v) (h2 : v ≤ 127) : (Int8.ofInt v).toInt32 = px_c v := by
  apply Int32.toInt_inj.mp
  rw [Int8.toInt_toInt32]
  unfold px_c
  rw [Int8.toInt_ofInt_of_le (by omega) (by omega), Int32.toInt_ofInt_of_le (by omega) (by omega)]
theorem px_b16 {v : Int} (h1 : -32768 ≤ v) (h2 : v ≤ 32767) : (Int16.ofInt v).toInt32 = px_c v := by
  apply Int32.toInt_inj.mp
  rw [Int16.toInt_toInt32]
  unfold px_c
  rw [Int16.toInt_ofInt_of_le (by omega) (by omega), Int32.toInt_ofInt_of_le (by omega) (by omega)]
theorem px_s_iconst {d : Nat} {M : pM} {C : pC} {n pc : Nat} {ls : pL} {st : List pV} {h : pH} {q : Int32 × pH} {k : pK} {v : Int} (hd : decode M.2.1 pc = .ok (.iconst v, n)) (e : px_step M.1 M.2.2.2 C (.iconst v) n pc ls st h k = some q) (kk : ∀ pc' ls' st' h', k pc' ls' st' h' = some q → px_G d M pc' ls' st' h' q) : px_G d M pc ls st h q := by
  have e9 := px_if_some e
  clear e
  obtain ⟨hn, e⟩ := e9
  have hn := Nat.eq_of_beq_eq_true hn
  subst hn
  intro p l e0 s m args below meth c D D3 ad H locs lsA hF hP hS hh
  obtain ⟨hx, hb, hml, hr, hown, hts, hlocks, hK, hN, hi⟩ := id hF
  exact lv_iconst hx hb hd rfl (kk _ _ _ _ e p l e0 s m args below meth c D D3 ad H locs lsA hF hP hS hh)
theorem px_s_bipush {d : Nat} {M : pM} {C : pC} {n pc : Nat} {ls : pL} {st : List pV} {h : pH} {q : Int32 × pH} {k : pK} {v : Int} (hd : decode M.2.1 pc = .ok (.bipush v, n)) (e : px_step M.1 M.2.2.2 C (.bipush v) n pc ls st h k = some q) (kk : ∀ pc' ls' st' h', k pc' ls' st' h' = some q → px_G d M pc' ls' st' h' q) : px_G d M pc ls st h q := by
  have e9 := px_if_some e
  clear e
  obtain ⟨hn, e⟩ := e9
  rw [Bool.and_eq_true, Bool.and_eq_true] at hn
  obtain ⟨hn, h1, h2⟩ := hn
  have hn := Nat.eq_of_beq_eq_true hn
  subst hn
  intro p l e0 s m args below meth c D D3 ad H locs lsA hF hP hS hh
  obtain ⟨hx, hb, hml, hr, hown, hts, hlocks, hK, hN, hi⟩ := id hF
  exact lv_bipush hx hb hd (px_b8 (of_decide_eq_true h1) (of_decide_eq_true h2)) (kk _ _ _ _ e p l e0 s m args below meth c D D3 ad H locs lsA hF hP hS hh)
theorem px_s_sipush {d : Nat} {M : pM} {C : pC} {n pc : Nat} {ls : pL} {st : List pV} {h : pH} {q : Int32 × pH} {k : pK} {v : Int} (hd : decode M.2.1 pc = .ok (.sipush v, n)) (e : px_step M.1 M.2.2.2 C (.sipush v) n pc ls st h k = some q) (kk : ∀ pc' ls' st' h', k pc' ls' st' h' = some q → px_G d M pc' ls' st' h' q) : px_G d M pc ls st h q := by
  have e9 := px_if_some e
  clear e
  obtain ⟨hn, e⟩ := e9
  rw [Bool.and_eq_true, Bool.and_eq_true] at hn
  obtain ⟨hn, h1, h2⟩ := hn
  have hn := Nat.eq_of_beq_eq_true hn
  subst hn
  intro p l e0 s m args below meth c D D3 ad H locs lsA hF hP hS hh
  obtain ⟨hx, hb, hml, hr, hown, hts, hlocks, hK, hN, hi⟩ := id hF
  exact lv_sipush hx hb hd (px_b16 (of_decide_eq_true h1) (of_decide_eq_true h2)) (kk _ _ _ _ e p l e0 s m args below meth c D D3 ad H locs lsA hF hP hS hh)
theorem px_s_lconst {d : Nat} {M : pM} {C : pC} {n pc : Nat} {ls : pL} {st : List pV} {h : pH} {q : Int32 × pH} {k : pK} {v : Fin 2} (hd : decode M.2.1 pc = .ok (.lconst v, n)) (e : px_step M.1 M.2.2.2 C (.lconst v) n pc ls st h k = some q) (kk : ∀ pc' ls' st' h', k pc' ls' st' h' = some q → px_G d M pc' ls' st' h' q) : px_G d M pc ls st h q := by
  have e9 := px_if_some e
  clear e
  obtain ⟨hn, e⟩ := e9
  have hn := Nat.eq_of_beq_eq_true hn
  subst hn
  intro p l e0 s m args below meth c D D3 ad H locs lsA hF hP hS hh
  obtain ⟨hx, hb, hml, hr, hown, hts, hlocks, hK, hN, hi⟩ := id hF
  exact lv_lconst hx hb hd rfl (kk _ _ _ _ e p l e0 s m args below meth c D D3 ad H locs lsA hF hP hS hh)
theorem px_s_iload {d : Nat} {M : pM} {C : pC} {n pc : Nat} {ls : pL} {st : List pV} {h : pH} {q : Int32 × pH} {k : pK} {j : Nat} (hd : decode M.2.1 pc = .ok (.iload j, n)) (e : px_step M.1 M.2.2.2 C (.iload j) n pc ls st h k = some q) (kk : ∀ pc' ls' st' h', k pc' ls' st' h' = some q → px_G d M pc' ls' st' h' q) : px_G d M pc ls st h q := by
  have e9 := px_if_some e
  clear e
  obtain ⟨hn, e⟩ := e9
  have hn := Nat.eq_of_beq_eq_true hn
  subst hn
  have e9 := px_ld_some e
  clear e
  obtain ⟨v, hv, e⟩ := e9
  have e9 := px_isI_some e
  clear e
  obtain ⟨y, rfl, e⟩ := e9
  intro p l e0 s m args below meth c D D3 ad H locs lsA hF hP hS hh
  obtain ⟨hx, hb, hml, hr, hown, hts, hlocks, hK, hN, hi⟩ := id hF
  exact lv_iload hx hb hd (hh.2.2.2 _ _ hv) (kk _ _ _ _ e p l e0 s m args below meth c D D3 ad H locs lsA hF hP hS hh)
theorem px_s_aload {d : Nat} {M : pM} {C : pC} {n pc : Nat} {ls : pL} {st : List pV} {h : pH} {q : Int32 × pH} {k : pK} {j : Nat} (hd : decode M.2.1 pc = .ok (.aload j, n)) (e : px_step M.1 M.2.2.2 C (.aload j) n pc ls st h k = some q) (kk : ∀ pc' ls' st' h', k pc' ls' st' h' = some q → px_G d M pc' ls' st' h' q) : px_G d M pc ls st h q := by
  have e9 := px_if_some e
  clear e
  obtain ⟨hn, e⟩ := e9
  have hn := Nat.eq_of_beq_eq_true hn
  subst hn
  have e9 := px_ld_some e
  clear e
  obtain ⟨v, hv, e⟩ := e9
  have e9 := px_isA_some e
  clear e
  obtain ⟨y, rfl, e⟩ := e9
  intro p l e0 s m args below meth c D D3 ad H locs lsA hF hP hS hh
  obtain ⟨hx, hb, hml, hr, hown, hts, hlocks, hK, hN, hi⟩ := id hF
  exact lv_aload hx hb hd (hh.2.2.2 _ _ hv) (kk _ _ _ _ e p l e0 s m args below meth c D D3 ad H locs lsA hF hP hS hh)
theorem px_s_lload {d : Nat} {M : pM} {C : pC} {n pc : Nat} {ls : pL} {st : List pV} {h : pH} {q : Int32 × pH} {k : pK} {j : Nat} (hd : decode M.2.1 pc = .ok (.lload j, n)) (e : px_step M.1 M.2.2.2 C (.lload j) n pc ls st h k = some q) (kk : ∀ pc' ls' st' h', k pc' ls' st' h' = some q → px_G d M pc' ls' st' h' q) : px_G d M pc ls st h q := by
  have e9 := px_if_some e
  clear e
  obtain ⟨hn, e⟩ := e9
  have hn := Nat.eq_of_beq_eq_true hn
  subst hn
  have e9 := px_ld_some e
  clear e
  obtain ⟨v, hv, e⟩ := e9
  have e9 := px_isL_some e
  clear e
  obtain ⟨y, rfl, e⟩ := e9
  intro p l e0 s m args below meth c D D3 ad H locs lsA hF hP hS hh
  obtain ⟨hx, hb, hml, hr, hown, hts, hlocks, hK, hN, hi⟩ := id hF
  exact lv_lload hx hb hd (hh.2.2.2 _ _ hv) (kk _ _ _ _ e p l e0 s m args below meth c D D3 ad H locs lsA hF hP hS hh)
theorem px_s_iload_n {d : Nat} {M : pM} {C : pC} {n pc : Nat} {ls : pL} {st : List pV} {h : pH} {q : Int32 × pH} {k : pK} {j : Fin 4} (hd : decode M.2.1 pc = .ok (.iload_n j, n)) (e : px_step M.1 M.2.2.2 C (.iload_n j) n pc ls st h k = some q) (kk : ∀ pc' ls' st' h', k pc' ls' st' h' = some q → px_G d M pc' ls' st' h' q) : px_G d M pc ls st h q := by
  have e9 := px_if_some e
  clear e
  obtain ⟨hn, e⟩ := e9
  have hn := Nat.eq_of_beq_eq_true hn
  subst hn
  have e9 := px_ld_some e
  clear e
  obtain ⟨v, hv, e⟩ := e9
  have e9 := px_isI_some e
  clear e
  obtain ⟨y, rfl, e⟩ := e9
  intro p l e0 s m args below meth c D D3 ad H locs lsA hF hP hS hh
  obtain ⟨hx, hb, hml, hr, hown, hts, hlocks, hK, hN, hi⟩ := id hF
  exact lv_iload_n hx hb hd rfl (hh.2.2.2 _ _ hv) (kk _ _ _ _ e p l e0 s m args below meth c D D3 ad H locs lsA hF hP hS hh)
theorem px_s_aload_n {d : Nat} {M : pM} {C : pC} {n pc : Nat} {ls : pL} {st : List pV} {h : pH} {q : Int32 × pH} {k : pK} {j : Fin 4} (hd : decode M.2.1 pc = .ok (.aload_n j, n)) (e : px_step M.1 M.2.2.2 C (.aload_n j) n pc ls st h k = some q) (kk : ∀ pc' ls' st' h', k pc' ls' st' h' = some q → px_G d M pc' ls' st' h' q) : px_G d M pc ls st h q := by
  have e9 := px_if_some e
  clear e
  obtain ⟨hn, e⟩ := e9
  have hn := Nat.eq_of_beq_eq_true hn
  subst hn
  have e9 := px_ld_some e
  clear e
  obtain ⟨v, hv, e⟩ := e9
  have e9 := px_isA_some e
  clear e
  obtain ⟨y, rfl, e⟩ := e9
  intro p l e0 s m args below meth c D D3 ad H locs lsA hF hP hS hh
  obtain ⟨hx, hb, hml, hr, hown, hts, hlocks, hK, hN, hi⟩ := id hF
  exact lv_aload_n hx hb hd rfl (hh.2.2.2 _ _ hv) (kk _ _ _ _ e p l e0 s m args below meth c D D3 ad H locs lsA hF hP hS hh)
theorem px_s_istore {d : Nat} {M : pM} {C : pC} {n pc : Nat} {ls : pL} {st : List pV} {h : pH} {q : Int32 × pH} {k : pK} {j : Nat} (hd : decode M.2.1 pc = .ok (.istore j, n)) (e : px_step M.1 M.2.2.2 C (.istore j) n pc ls st h k = some q) (kk : ∀ pc' ls' st' h', k pc' ls' st' h' = some q → px_G d M pc' ls' st' h' q) : px_G d M pc ls st h q := by
  have e9 := px_if_some e
  clear e
  obtain ⟨hn, e⟩ := e9
  rw [Bool.and_eq_true] at hn
  obtain ⟨hn, hc⟩ := hn
  have hn := Nat.eq_of_beq_eq_true hn
  subst hn
  have e9 := px_i1_some e
  clear e
  obtain ⟨x, r, rfl, e⟩ := e9
  intro p l e0 s m args below meth c D D3 ad H locs lsA hF hP hS hh
  obtain ⟨hx, hb, hml, hr, hown, hts, hlocks, hK, hN, hi⟩ := id hF
  exact lv_istore hx hb hd (px_has_lv hh) (by rw [← hh.2.2.1]; exact px_cs_lt hc) rfl fun ls9 h9 => (kk _ _ _ _ e p l e0 s m args below meth c D D3 ad H locs ls9 hF hP hS (px_has_st1 (v := .inl x) hh hc h9))
theorem px_s_istore_n {d : Nat} {M : pM} {C : pC} {n pc : Nat} {ls : pL} {st : List pV} {h : pH} {q : Int32 × pH} {k : pK} {j : Fin 4} (hd : decode M.2.1 pc = .ok (.istore_n j, n)) (e : px_step M.1 M.2.2.2 C (.istore_n j) n pc ls st h k = some q) (kk : ∀ pc' ls' st' h', k pc' ls' st' h' = some q → px_G d M pc' ls' st' h' q) : px_G d M pc ls st h q := by
  have e9 := px_if_some e
  clear e
  obtain ⟨hn, e⟩ := e9
  rw [Bool.and_eq_true] at hn
  obtain ⟨hn, hc⟩ := hn
  have hn := Nat.eq_of_beq_eq_true hn
  subst hn
  have e9 := px_i1_some e
  clear e
  obtain ⟨x, r, rfl, e⟩ := e9
  intro p l e0 s m args below meth c D D3 ad H locs lsA hF hP hS hh
  obtain ⟨hx, hb, hml, hr, hown, hts, hlocks, hK, hN, hi⟩ := id hF
  exact lv_istore_n hx hb hd rfl (px_has_lv hh) (by rw [← hh.2.2.1]; exact px_cs_lt hc) rfl fun ls9 h9 => (kk _ _ _ _ e p l e0 s m args below meth c D D3 ad H locs ls9 hF hP hS (px_has_st1 (v := .inl x) hh hc h9))
theorem px_s_lstore {d : Nat} {M : pM} {C : pC} {n pc : Nat} {ls : pL} {st : List pV} {h : pH} {q : Int32 × pH} {k : pK} {j : Nat} (hd : decode M.2.1 pc = .ok (.lstore j, n)) (e : px_step M.1 M.2.2.2 C (.lstore j) n pc ls st h k = some q) (kk : ∀ pc' ls' st' h', k pc' ls' st' h' = some q → px_G d M pc' ls' st' h' q) : px_G d M pc ls st h q := by
  have e9 := px_if_some e
  clear e
  obtain ⟨hn, e⟩ := e9
  rw [Bool.and_eq_true, Bool.and_eq_true] at hn
  obtain ⟨⟨hn, hc⟩, hl⟩ := hn
  have hn := Nat.eq_of_beq_eq_true hn
  subst hn
  obtain ⟨x, r, rfl, e⟩ : ∃ x r, st = .inr (.inr x) :: r ∧ k (pc + 2) (px_upd (px_upd ls (j + 1) none) j (some (.inr (.inr x)))) r h = some q := by
    split at e
    · exact ⟨_, _, rfl, e⟩
    · cases e
  intro p l e0 s m args below meth c D D3 ad H locs lsA hF hP hS hh
  obtain ⟨hx, hb, hml, hr, hown, hts, hlocks, hK, hN, hi⟩ := id hF
  exact lv_lstore hx hb hd (px_has_lv hh) (by rw [← hh.2.2.1]; simpa [Nat.blt_eq] using hl) rfl fun ls9 h9 => (kk _ _ _ _ e p l e0 s m args below meth c D D3 ad H locs ls9 hF hP hS (px_has_st2 (v := .inr (.inr x)) hh hc h9))
theorem px_s_iinc {d : Nat} {M : pM} {C : pC} {n pc : Nat} {ls : pL} {st : List pV} {h : pH} {q : Int32 × pH} {k : pK} {j : Nat} {v : Int} (hd : decode M.2.1 pc = .ok (.iinc j v, n)) (e : px_step M.1 M.2.2.2 C (.iinc j v) n pc ls st h k = some q) (kk : ∀ pc' ls' st' h', k pc' ls' st' h' = some q → px_G d M pc' ls' st' h' q) : px_G d M pc ls st h q := by
  have e9 := px_if_some e
  clear e
  obtain ⟨hn, e⟩ := e9
  rw [Bool.and_eq_true] at hn
  obtain ⟨hn, hc⟩ := hn
  have hn := Nat.eq_of_beq_eq_true hn
  subst hn
  have e9 := px_ld_some e
  clear e
  obtain ⟨w, hw, e⟩ := e9
  obtain ⟨x, rfl, e⟩ : ∃ x, w = .inl x ∧ k (pc + 3) (px_upd ls j (some (.inl (x + px_c v)))) st h = some q := by
    split at e
    · exact ⟨_, rfl, e⟩
    · cases e
  intro p l e0 s m args below meth c D D3 ad H locs lsA hF hP hS hh
  obtain ⟨hx, hb, hml, hr, hown, hts, hlocks, hK, hN, hi⟩ := id hF
  obtain ⟨k0, hk0⟩ := List.getElem?_of_mem (px_ents_mem (q := (j, Value.int x)) (ad := ad) |>.mpr ⟨.inl x, hw, rfl⟩)
  exact lv_iinc hx hb hd (px_has_lv hh) hk0 rfl (by rw [← hh.2.2.1]; exact px_cs_lt hc) rfl fun ls9 h9 => (kk _ _ _ _ e p l e0 s m args below meth c D D3 ad H locs ls9 hF hP hS (px_has_st1 (v := .inl (x + px_c v)) hh hc h9))
theorem px_s_iadd {d : Nat} {M : pM} {C : pC} {n pc : Nat} {ls : pL} {st : List pV} {h : pH} {q : Int32 × pH} {k : pK} (hd : decode M.2.1 pc = .ok (.iadd, n)) (e : px_step M.1 M.2.2.2 C (.iadd) n pc ls st h k = some q) (kk : ∀ pc' ls' st' h', k pc' ls' st' h' = some q → px_G d M pc' ls' st' h' q) : px_G d M pc ls st h q := by
  have e9 := px_if_some e
  clear e
  obtain ⟨hn, e⟩ := e9
  have hn := Nat.eq_of_beq_eq_true hn
  subst hn
  have e9 := px_i2_some e
  clear e
  obtain ⟨x, y, r, rfl, e⟩ := e9
  intro p l e0 s m args below meth c D D3 ad H locs lsA hF hP hS hh
  obtain ⟨hx, hb, hml, hr, hown, hts, hlocks, hK, hN, hi⟩ := id hF
  exact lv_iadd hx hb hd (kk _ _ _ _ e p l e0 s m args below meth c D D3 ad H locs lsA hF hP hS hh)
theorem px_s_isub {d : Nat} {M : pM} {C : pC} {n pc : Nat} {ls : pL} {st : List pV} {h : pH} {q : Int32 × pH} {k : pK} (hd : decode M.2.1 pc = .ok (.isub, n)) (e : px_step M.1 M.2.2.2 C (.isub) n pc ls st h k = some q) (kk : ∀ pc' ls' st' h', k pc' ls' st' h' = some q → px_G d M pc' ls' st' h' q) : px_G d M pc ls st h q := by
  have e9 := px_if_some e
  clear e
  obtain ⟨hn, e⟩ := e9
  have hn := Nat.eq_of_beq_eq_true hn
  subst hn
  have e9 := px_i2_some e
  clear e
  obtain ⟨x, y, r, rfl, e⟩ := e9
  intro p l e0 s m args below meth c D D3 ad H locs lsA hF hP hS hh
  obtain ⟨hx, hb, hml, hr, hown, hts, hlocks, hK, hN, hi⟩ := id hF
  exact lv_isub hx hb hd (kk _ _ _ _ e p l e0 s m args below meth c D D3 ad H locs lsA hF hP hS hh)
theorem px_s_imul {d : Nat} {M : pM} {C : pC} {n pc : Nat} {ls : pL} {st : List pV} {h : pH} {q : Int32 × pH} {k : pK} (hd : decode M.2.1 pc = .ok (.imul, n)) (e : px_step M.1 M.2.2.2 C (.imul) n pc ls st h k = some q) (kk : ∀ pc' ls' st' h', k pc' ls' st' h' = some q → px_G d M pc' ls' st' h' q) : px_G d M pc ls st h q := by
  have e9 := px_if_some e
  clear e
  obtain ⟨hn, e⟩ := e9
  have hn := Nat.eq_of_beq_eq_true hn
  subst hn
  have e9 := px_i2_some e
  clear e
  obtain ⟨x, y, r, rfl, e⟩ := e9
  intro p l e0 s m args below meth c D D3 ad H locs lsA hF hP hS hh
  obtain ⟨hx, hb, hml, hr, hown, hts, hlocks, hK, hN, hi⟩ := id hF
  exact lv_imul hx hb hd (kk _ _ _ _ e p l e0 s m args below meth c D D3 ad H locs lsA hF hP hS hh)
theorem px_s_iand {d : Nat} {M : pM} {C : pC} {n pc : Nat} {ls : pL} {st : List pV} {h : pH} {q : Int32 × pH} {k : pK} (hd : decode M.2.1 pc = .ok (.iand, n)) (e : px_step M.1 M.2.2.2 C (.iand) n pc ls st h k = some q) (kk : ∀ pc' ls' st' h', k pc' ls' st' h' = some q → px_G d M pc' ls' st' h' q) : px_G d M pc ls st h q := by
  have e9 := px_if_some e
  clear e
  obtain ⟨hn, e⟩ := e9
  have hn := Nat.eq_of_beq_eq_true hn
  subst hn
  have e9 := px_i2_some e
  clear e
  obtain ⟨x, y, r, rfl, e⟩ := e9
  intro p l e0 s m args below meth c D D3 ad H locs lsA hF hP hS hh
  obtain ⟨hx, hb, hml, hr, hown, hts, hlocks, hK, hN, hi⟩ := id hF
  exact lv_iand hx hb hd (kk _ _ _ _ e p l e0 s m args below meth c D D3 ad H locs lsA hF hP hS hh)
theorem px_s_ior {d : Nat} {M : pM} {C : pC} {n pc : Nat} {ls : pL} {st : List pV} {h : pH} {q : Int32 × pH} {k : pK} (hd : decode M.2.1 pc = .ok (.ior, n)) (e : px_step M.1 M.2.2.2 C (.ior) n pc ls st h k = some q) (kk : ∀ pc' ls' st' h', k pc' ls' st' h' = some q → px_G d M pc' ls' st' h' q) : px_G d M pc ls st h q := by
  have e9 := px_if_some e
  clear e
  obtain ⟨hn, e⟩ := e9
  have hn := Nat.eq_of_beq_eq_true hn
  subst hn
  have e9 := px_i2_some e
  clear e
  obtain ⟨x, y, r, rfl, e⟩ := e9
  intro p l e0 s m args below meth c D D3 ad H locs lsA hF hP hS hh
  obtain ⟨hx, hb, hml, hr, hown, hts, hlocks, hK, hN, hi⟩ := id hF
  exact lv_ior hx hb hd (kk _ _ _ _ e p l e0 s m args below meth c D D3 ad H locs lsA hF hP hS hh)
theorem px_s_ixor {d : Nat} {M : pM} {C : pC} {n pc : Nat} {ls : pL} {st : List pV} {h : pH} {q : Int32 × pH} {k : pK} (hd : decode M.2.1 pc = .ok (.ixor, n)) (e : px_step M.1 M.2.2.2 C (.ixor) n pc ls st h k = some q) (kk : ∀ pc' ls' st' h', k pc' ls' st' h' = some q → px_G d M pc' ls' st' h' q) : px_G d M pc ls st h q := by
  have e9 := px_if_some e
  clear e
  obtain ⟨hn, e⟩ := e9
  have hn := Nat.eq_of_beq_eq_true hn
  subst hn
  have e9 := px_i2_some e
  clear e
  obtain ⟨x, y, r, rfl, e⟩ := e9
  intro p l e0 s m args below meth c D D3 ad H locs lsA hF hP hS hh
  obtain ⟨hx, hb, hml, hr, hown, hts, hlocks, hK, hN, hi⟩ := id hF
  exact lv_ixor hx hb hd (kk _ _ _ _ e p l e0 s m args below meth c D D3 ad H locs lsA hF hP hS hh)
theorem px_s_ishl {d : Nat} {M : pM} {C : pC} {n pc : Nat} {ls : pL} {st : List pV} {h : pH} {q : Int32 × pH} {k : pK} (hd : decode M.2.1 pc = .ok (.ishl, n)) (e : px_step M.1 M.2.2.2 C (.ishl) n pc ls st h k = some q) (kk : ∀ pc' ls' st' h', k pc' ls' st' h' = some q → px_G d M pc' ls' st' h' q) : px_G d M pc ls st h q := by
  have e9 := px_if_some e
  clear e
  obtain ⟨hn, e⟩ := e9
  have hn := Nat.eq_of_beq_eq_true hn
  subst hn
  have e9 := px_i2_some e
  clear e
  obtain ⟨x, y, r, rfl, e⟩ := e9
  intro p l e0 s m args below meth c D D3 ad H locs lsA hF hP hS hh
  obtain ⟨hx, hb, hml, hr, hown, hts, hlocks, hK, hN, hi⟩ := id hF
  exact lv_ishl hx hb hd (kk _ _ _ _ e p l e0 s m args below meth c D D3 ad H locs lsA hF hP hS hh)
theorem px_s_ishr {d : Nat} {M : pM} {C : pC} {n pc : Nat} {ls : pL} {st : List pV} {h : pH} {q : Int32 × pH} {k : pK} (hd : decode M.2.1 pc = .ok (.ishr, n)) (e : px_step M.1 M.2.2.2 C (.ishr) n pc ls st h k = some q) (kk : ∀ pc' ls' st' h', k pc' ls' st' h' = some q → px_G d M pc' ls' st' h' q) : px_G d M pc ls st h q := by
  have e9 := px_if_some e
  clear e
  obtain ⟨hn, e⟩ := e9
  have hn := Nat.eq_of_beq_eq_true hn
  subst hn
  have e9 := px_i2_some e
  clear e
  obtain ⟨x, y, r, rfl, e⟩ := e9
  intro p l e0 s m args below meth c D D3 ad H locs lsA hF hP hS hh
  obtain ⟨hx, hb, hml, hr, hown, hts, hlocks, hK, hN, hi⟩ := id hF
  exact lv_ishr hx hb hd (kk _ _ _ _ e p l e0 s m args below meth c D D3 ad H locs lsA hF hP hS hh)
theorem px_s_idiv {d : Nat} {M : pM} {C : pC} {n pc : Nat} {ls : pL} {st : List pV} {h : pH} {q : Int32 × pH} {k : pK} (hd : decode M.2.1 pc = .ok (.idiv, n)) (e : px_step M.1 M.2.2.2 C (.idiv) n pc ls st h k = some q) (kk : ∀ pc' ls' st' h', k pc' ls' st' h' = some q → px_G d M pc' ls' st' h' q) : px_G d M pc ls st h q := by
  have e9 := px_if_some e
  clear e
  obtain ⟨hn, e⟩ := e9
  have hn := Nat.eq_of_beq_eq_true hn
  subst hn
  have e9 := px_i2_some e
  clear e
  obtain ⟨x, y, r, rfl, e⟩ := e9
  by_cases hy : y = 0
  · rw [if_pos hy] at e
    cases e
  rw [if_neg hy] at e
  intro p l e0 s m args below meth c D D3 ad H locs lsA hF hP hS hh
  obtain ⟨hx, hb, hml, hr, hown, hts, hlocks, hK, hN, hi⟩ := id hF
  exact lv_idiv hx hb hd hy (kk _ _ _ _ e p l e0 s m args below meth c D D3 ad H locs lsA hF hP hS hh)
theorem px_s_irem {d : Nat} {M : pM} {C : pC} {n pc : Nat} {ls : pL} {st : List pV} {h : pH} {q : Int32 × pH} {k : pK} (hd : decode M.2.1 pc = .ok (.irem, n)) (e : px_step M.1 M.2.2.2 C (.irem) n pc ls st h k = some q) (kk : ∀ pc' ls' st' h', k pc' ls' st' h' = some q → px_G d M pc' ls' st' h' q) : px_G d M pc ls st h q := by
  have e9 := px_if_some e
  clear e
  obtain ⟨hn, e⟩ := e9
  have hn := Nat.eq_of_beq_eq_true hn
  subst hn
  have e9 := px_i2_some e
  clear e
  obtain ⟨x, y, r, rfl, e⟩ := e9
  by_cases hy : y = 0
  · rw [if_pos hy] at e
    cases e
  rw [if_neg hy] at e
  intro p l e0 s m args below meth c D D3 ad H locs lsA hF hP hS hh
  obtain ⟨hx, hb, hml, hr, hown, hts, hlocks, hK, hN, hi⟩ := id hF
  exact lv_irem hx hb hd hy (kk _ _ _ _ e p l e0 s m args below meth c D D3 ad H locs lsA hF hP hS hh)
theorem px_s_iushr {d : Nat} {M : pM} {C : pC} {n pc : Nat} {ls : pL} {st : List pV} {h : pH} {q : Int32 × pH} {k : pK} (hd : decode M.2.1 pc = .ok (.iushr, n)) (e : px_step M.1 M.2.2.2 C (.iushr) n pc ls st h k = some q) (kk : ∀ pc' ls' st' h', k pc' ls' st' h' = some q → px_G d M pc' ls' st' h' q) : px_G d M pc ls st h q := by
  have e9 := px_if_some e
  clear e
  obtain ⟨hn, e⟩ := e9
  have hn := Nat.eq_of_beq_eq_true hn
  subst hn
  have e9 := px_i2_some e
  clear e
  obtain ⟨x, y, r, rfl, e⟩ := e9
  intro p l e0 s m args below meth c D D3 ad H locs lsA hF hP hS hh
  obtain ⟨hx, hb, hml, hr, hown, hts, hlocks, hK, hN, hi⟩ := id hF
  exact lv_iushr hx hb hd rfl (kk _ _ _ _ e p l e0 s m args below meth c D D3 ad H locs lsA hF hP hS hh)
theorem px_s_ineg {d : Nat} {M : pM} {C : pC} {n pc : Nat} {ls : pL} {st : List pV} {h : pH} {q : Int32 × pH} {k : pK} (hd : decode M.2.1 pc = .ok (.ineg, n)) (e : px_step M.1 M.2.2.2 C (.ineg) n pc ls st h k = some q) (kk : ∀ pc' ls' st' h', k pc' ls' st' h' = some q → px_G d M pc' ls' st' h' q) : px_G d M pc ls st h q := by
  have e9 := px_if_some e
  clear e
  obtain ⟨hn, e⟩ := e9
  have hn := Nat.eq_of_beq_eq_true hn
  subst hn
  have e9 := px_i1_some e
  clear e
  obtain ⟨x, r, rfl, e⟩ := e9
  intro p l e0 s m args below meth c D D3 ad H locs lsA hF hP hS hh
  obtain ⟨hx, hb, hml, hr, hown, hts, hlocks, hK, hN, hi⟩ := id hF
  exact lv_ineg hx hb hd (kk _ _ _ _ e p l e0 s m args below meth c D D3 ad H locs lsA hF hP hS hh)
theorem px_s_i2b {d : Nat} {M : pM} {C : pC} {n pc : Nat} {ls : pL} {st : List pV} {h : pH} {q : Int32 × pH} {k : pK} (hd : decode M.2.1 pc = .ok (.i2b, n)) (e : px_step M.1 M.2.2.2 C (.i2b) n pc ls st h k = some q) (kk : ∀ pc' ls' st' h', k pc' ls' st' h' = some q → px_G d M pc' ls' st' h' q) : px_G d M pc ls st h q := by
  have e9 := px_if_some e
  clear e
  obtain ⟨hn, e⟩ := e9
  have hn := Nat.eq_of_beq_eq_true hn
  subst hn
  have e9 := px_i1_some e
  clear e
  obtain ⟨x, r, rfl, e⟩ := e9
  intro p l e0 s m args below meth c D D3 ad H locs lsA hF hP hS hh
  obtain ⟨hx, hb, hml, hr, hown, hts, hlocks, hK, hN, hi⟩ := id hF
  exact lv_i2b hx hb hd rfl (kk _ _ _ _ e p l e0 s m args below meth c D D3 ad H locs lsA hF hP hS hh)
theorem px_s_i2s {d : Nat} {M : pM} {C : pC} {n pc : Nat} {ls : pL} {st : List pV} {h : pH} {q : Int32 × pH} {k : pK} (hd : decode M.2.1 pc = .ok (.i2s, n)) (e : px_step M.1 M.2.2.2 C (.i2s) n pc ls st h k = some q) (kk : ∀ pc' ls' st' h', k pc' ls' st' h' = some q → px_G d M pc' ls' st' h' q) : px_G d M pc ls st h q := by
  have e9 := px_if_some e
  clear e
  obtain ⟨hn, e⟩ := e9
  have hn := Nat.eq_of_beq_eq_true hn
  subst hn
  have e9 := px_i1_some e
  clear e
  obtain ⟨x, r, rfl, e⟩ := e9
  intro p l e0 s m args below meth c D D3 ad H locs lsA hF hP hS hh
  obtain ⟨hx, hb, hml, hr, hown, hts, hlocks, hK, hN, hi⟩ := id hF
  exact lv_i2s hx hb hd rfl (kk _ _ _ _ e p l e0 s m args below meth c D D3 ad H locs lsA hF hP hS hh)
theorem px_s_i2c {d : Nat} {M : pM} {C : pC} {n pc : Nat} {ls : pL} {st : List pV} {h : pH} {q : Int32 × pH} {k : pK} (hd : decode M.2.1 pc = .ok (.i2c, n)) (e : px_step M.1 M.2.2.2 C (.i2c) n pc ls st h k = some q) (kk : ∀ pc' ls' st' h', k pc' ls' st' h' = some q → px_G d M pc' ls' st' h' q) : px_G d M pc ls st h q := by
  have e9 := px_if_some e
  clear e
  obtain ⟨hn, e⟩ := e9
  have hn := Nat.eq_of_beq_eq_true hn
  subst hn
  have e9 := px_i1_some e
  clear e
  obtain ⟨x, r, rfl, e⟩ := e9
  intro p l e0 s m args below meth c D D3 ad H locs lsA hF hP hS hh
  obtain ⟨hx, hb, hml, hr, hown, hts, hlocks, hK, hN, hi⟩ := id hF
  exact lv_i2c hx hb hd rfl (kk _ _ _ _ e p l e0 s m args below meth c D D3 ad H locs lsA hF hP hS hh)
theorem px_s_i2l {d : Nat} {M : pM} {C : pC} {n pc : Nat} {ls : pL} {st : List pV} {h : pH} {q : Int32 × pH} {k : pK} (hd : decode M.2.1 pc = .ok (.i2l, n)) (e : px_step M.1 M.2.2.2 C (.i2l) n pc ls st h k = some q) (kk : ∀ pc' ls' st' h', k pc' ls' st' h' = some q → px_G d M pc' ls' st' h' q) : px_G d M pc ls st h q := by
  have e9 := px_if_some e
  clear e
  obtain ⟨hn, e⟩ := e9
  have hn := Nat.eq_of_beq_eq_true hn
  subst hn
  have e9 := px_i1_some e
  clear e
  obtain ⟨x, r, rfl, e⟩ := e9
  intro p l e0 s m args below meth c D D3 ad H locs lsA hF hP hS hh
  obtain ⟨hx, hb, hml, hr, hown, hts, hlocks, hK, hN, hi⟩ := id hF
  exact lv_i2l hx hb hd rfl (kk _ _ _ _ e p l e0 s m args below meth c D D3 ad H locs lsA hF hP hS hh)
theorem px_s_l2i {d : Nat} {M : pM} {C : pC} {n pc : Nat} {ls : pL} {st : List pV} {h : pH} {q : Int32 × pH} {k : pK} (hd : decode M.2.1 pc = .ok (.l2i, n)) (e : px_step M.1 M.2.2.2 C (.l2i) n pc ls st h k = some q) (kk : ∀ pc' ls' st' h', k pc' ls' st' h' = some q → px_G d M pc' ls' st' h' q) : px_G d M pc ls st h q := by
  have e9 := px_if_some e
  clear e
  obtain ⟨hn, e⟩ := e9
  have hn := Nat.eq_of_beq_eq_true hn
  subst hn
  obtain ⟨x, r, rfl, e⟩ : ∃ x r, st = .inr (.inr x) :: r ∧ k (pc + 1) ls (.inl x.toInt32 :: r) h = some q := by
    split at e
    · exact ⟨_, _, rfl, e⟩
    · cases e
  intro p l e0 s m args below meth c D D3 ad H locs lsA hF hP hS hh
  obtain ⟨hx, hb, hml, hr, hown, hts, hlocks, hK, hN, hi⟩ := id hF
  exact lv_l2i hx hb hd rfl (kk _ _ _ _ e p l e0 s m args below meth c D D3 ad H locs lsA hF hP hS hh)
theorem px_s_ladd {d : Nat} {M : pM} {C : pC} {n pc : Nat} {ls : pL} {st : List pV} {h : pH} {q : Int32 × pH} {k : pK} (hd : decode M.2.1 pc = .ok (.ladd, n)) (e : px_step M.1 M.2.2.2 C (.ladd) n pc ls st h k = some q) (kk : ∀ pc' ls' st' h', k pc' ls' st' h' = some q → px_G d M pc' ls' st' h' q) : px_G d M pc ls st h q := by
  have e9 := px_if_some e
  clear e
  obtain ⟨hn, e⟩ := e9
  have hn := Nat.eq_of_beq_eq_true hn
  subst hn
  have e9 := px_l2_some e
  clear e
  obtain ⟨x, y, r, rfl, e⟩ := e9
  intro p l e0 s m args below meth c D D3 ad H locs lsA hF hP hS hh
  obtain ⟨hx, hb, hml, hr, hown, hts, hlocks, hK, hN, hi⟩ := id hF
  exact lv_ladd hx hb hd (kk _ _ _ _ e p l e0 s m args below meth c D D3 ad H locs lsA hF hP hS hh)
theorem px_s_lsub {d : Nat} {M : pM} {C : pC} {n pc : Nat} {ls : pL} {st : List pV} {h : pH} {q : Int32 × pH} {k : pK} (hd : decode M.2.1 pc = .ok (.lsub, n)) (e : px_step M.1 M.2.2.2 C (.lsub) n pc ls st h k = some q) (kk : ∀ pc' ls' st' h', k pc' ls' st' h' = some q → px_G d M pc' ls' st' h' q) : px_G d M pc ls st h q := by
  have e9 := px_if_some e
  clear e
  obtain ⟨hn, e⟩ := e9
  have hn := Nat.eq_of_beq_eq_true hn
  subst hn
  have e9 := px_l2_some e
  clear e
  obtain ⟨x, y, r, rfl, e⟩ := e9
  intro p l e0 s m args below meth c D D3 ad H locs lsA hF hP hS hh
  obtain ⟨hx, hb, hml, hr, hown, hts, hlocks, hK, hN, hi⟩ := id hF
  exact lv_lsub hx hb hd (kk _ _ _ _ e p l e0 s m args below meth c D D3 ad H locs lsA hF hP hS hh)
theorem px_s_lcmp {d : Nat} {M : pM} {C : pC} {n pc : Nat} {ls : pL} {st : List pV} {h : pH} {q : Int32 × pH} {k : pK} (hd : decode M.2.1 pc = .ok (.lcmp, n)) (e : px_step M.1 M.2.2.2 C (.lcmp) n pc ls st h k = some q) (kk : ∀ pc' ls' st' h', k pc' ls' st' h' = some q → px_G d M pc' ls' st' h' q) : px_G d M pc ls st h q := by
  have e9 := px_if_some e
  clear e
  obtain ⟨hn, e⟩ := e9
  have hn := Nat.eq_of_beq_eq_true hn
  subst hn
  have e9 := px_l2_some e
  clear e
  obtain ⟨x, y, r, rfl, e⟩ := e9
  intro p l e0 s m args below meth c D D3 ad H locs lsA hF hP hS hh
  obtain ⟨hx, hb, hml, hr, hown, hts, hlocks, hK, hN, hi⟩ := id hF
  exact W.lcmp hx hb hd (kk _ _ _ _ e p l e0 s m args below meth c D D3 ad H locs lsA hF hP hS hh)
theorem px_cat_ok {ad : Nat → Nat} {v : pV} (h : Nat.beq (px_cat v) 1 = true) : (pv ad v).category = 1 := by
  match v, h with
  | .inl x, _ => rfl
  | .inr (.inl x), _ => rfl
  | .inr (.inr x), h => cases h
theorem px_s_dup {d : Nat} {M : pM} {C : pC} {n pc : Nat} {ls : pL} {st : List pV} {h : pH} {q : Int32 × pH} {k : pK} (hd : decode M.2.1 pc = .ok (.dup, n)) (e : px_step M.1 M.2.2.2 C (.dup) n pc ls st h k = some q) (kk : ∀ pc' ls' st' h', k pc' ls' st' h' = some q → px_G d M pc' ls' st' h' q) : px_G d M pc ls st h q := by
  have e9 := px_if_some e
  clear e
  obtain ⟨hn, e⟩ := e9
  have hn := Nat.eq_of_beq_eq_true hn
  subst hn
  obtain ⟨v, r, rfl, e⟩ : ∃ v r, st = v :: r ∧ px_if (Nat.beq (px_cat v) 1) (k (pc + 1) ls (v :: v :: r) h) = some q := by
    split at e
    · exact ⟨_, _, rfl, e⟩
    · cases e
  have e9 := px_if_some e
  clear e
  obtain ⟨hc, e⟩ := e9
  intro p l e0 s m args below meth c D D3 ad H locs lsA hF hP hS hh
  obtain ⟨hx, hb, hml, hr, hown, hts, hlocks, hK, hN, hi⟩ := id hF
  exact lv_dup hx hb hd (px_cat_ok hc) (kk _ _ _ _ e p l e0 s m args below meth c D D3 ad H locs lsA hF hP hS hh)
theorem px_s_pop {d : Nat} {M : pM} {C : pC} {n pc : Nat} {ls : pL} {st : List pV} {h : pH} {q : Int32 × pH} {k : pK} (hd : decode M.2.1 pc = .ok (.pop, n)) (e : px_step M.1 M.2.2.2 C (.pop) n pc ls st h k = some q) (kk : ∀ pc' ls' st' h', k pc' ls' st' h' = some q → px_G d M pc' ls' st' h' q) : px_G d M pc ls st h q := by
  have e9 := px_if_some e
  clear e
  obtain ⟨hn, e⟩ := e9
  have hn := Nat.eq_of_beq_eq_true hn
  subst hn
  obtain ⟨v, r, rfl, e⟩ : ∃ v r, st = v :: r ∧ px_if (Nat.beq (px_cat v) 1) (k (pc + 1) ls r h) = some q := by
    split at e
    · exact ⟨_, _, rfl, e⟩
    · cases e
  have e9 := px_if_some e
  clear e
  obtain ⟨hc, e⟩ := e9
  intro p l e0 s m args below meth c D D3 ad H locs lsA hF hP hS hh
  obtain ⟨hx, hb, hml, hr, hown, hts, hlocks, hK, hN, hi⟩ := id hF
  exact lv_pop hx hb hd (px_cat_ok hc) (kk _ _ _ _ e p l e0 s m args below meth c D D3 ad H locs lsA hF hP hS hh)
theorem px_s_dup2 {d : Nat} {M : pM} {C : pC} {n pc : Nat} {ls : pL} {st : List pV} {h : pH} {q : Int32 × pH} {k : pK} (hd : decode M.2.1 pc = .ok (.dup2, n)) (e : px_step M.1 M.2.2.2 C (.dup2) n pc ls st h k = some q) (kk : ∀ pc' ls' st' h', k pc' ls' st' h' = some q → px_G d M pc' ls' st' h' q) : px_G d M pc ls st h q := by
  have e9 := px_if_some e
  clear e
  obtain ⟨hn, e⟩ := e9
  have hn := Nat.eq_of_beq_eq_true hn
  subst hn
  obtain ⟨v, w, r, rfl, e⟩ : ∃ v w r, st = v :: w :: r ∧ px_if (Nat.beq (px_cat v) 1 && Nat.beq (px_cat w) 1) (k (pc + 1) ls (v :: w :: v :: w :: r) h) = some q := by
    split at e
    · exact ⟨_, _, _, rfl, e⟩
    · cases e
  have e9 := px_if_some e
  clear e
  obtain ⟨hc, e⟩ := e9
  rw [Bool.and_eq_true] at hc
  intro p l e0 s m args below meth c D D3 ad H locs lsA hF hP hS hh
  obtain ⟨hx, hb, hml, hr, hown, hts, hlocks, hK, hN, hi⟩ := id hF
  exact lv_dup2_11 hx hb hd (px_cat_ok hc.1) (px_cat_ok hc.2) (kk _ _ _ _ e p l e0 s m args below meth c D D3 ad H locs lsA hF hP hS hh)
theorem px_s_dup_x1 {d : Nat} {M : pM} {C : pC} {n pc : Nat} {ls : pL} {st : List pV} {h : pH} {q : Int32 × pH} {k : pK} (hd : decode M.2.1 pc = .ok (.dup_x1, n)) (e : px_step M.1 M.2.2.2 C (.dup_x1) n pc ls st h k = some q) (kk : ∀ pc' ls' st' h', k pc' ls' st' h' = some q → px_G d M pc' ls' st' h' q) : px_G d M pc ls st h q := by
  have e9 := px_if_some e
  clear e
  obtain ⟨hn, e⟩ := e9
  have hn := Nat.eq_of_beq_eq_true hn
  subst hn
  obtain ⟨v, w, r, rfl, e⟩ : ∃ v w r, st = v :: w :: r ∧ px_if (Nat.beq (px_cat v) 1 && Nat.beq (px_cat w) 1) (k (pc + 1) ls (v :: w :: v :: r) h) = some q := by
    split at e
    · exact ⟨_, _, _, rfl, e⟩
    · cases e
  have e9 := px_if_some e
  clear e
  obtain ⟨hc, e⟩ := e9
  rw [Bool.and_eq_true] at hc
  intro p l e0 s m args below meth c D D3 ad H locs lsA hF hP hS hh
  obtain ⟨hx, hb, hml, hr, hown, hts, hlocks, hK, hN, hi⟩ := id hF
  exact lv_dup_x1 hx hb hd (px_cat_ok hc.1) (px_cat_ok hc.2) (kk _ _ _ _ e p l e0 s m args below meth c D D3 ad H locs lsA hF hP hS hh)
theorem px_s_ifCond {d : Nat} {M : pM} {C : pC} {n pc : Nat} {ls : pL} {st : List pV} {h : pH} {q : Int32 × pH} {k : pK} {o : ClassFile.Cond} {off : Int} (hd : decode M.2.1 pc = .ok (.ifCond o off, n)) (e : px_step M.1 M.2.2.2 C (.ifCond o off) n pc ls st h k = some q) (kk : ∀ pc' ls' st' h', k pc' ls' st' h' = some q → px_G d M pc' ls' st' h' q) : px_G d M pc ls st h q := by
  have e9 := px_if_some e
  clear e
  obtain ⟨hn, e⟩ := e9
  have hn := Nat.eq_of_beq_eq_true hn
  subst hn
  have e9 := px_i1_some e
  clear e
  obtain ⟨x, r, rfl, e⟩ := e9
  have e9 := px_tg_some e
  clear e
  obtain ⟨t, ht, e⟩ := e9
  intro p l e0 s m args below meth c D D3 ad H locs lsA hF hP hS hh
  obtain ⟨hx, hb, hml, hr, hown, hts, hlocks, hK, hN, hi⟩ := id hF
  cases o with
  | eq => exact lv_if_eq hx hb hd ht (fun c9 => (kk _ _ _ _ ((if_pos c9).symm.trans e) p l e0 s m args below meth c D D3 ad H locs lsA hF hP hS hh)) (fun c9 => (kk _ _ _ _ ((if_neg c9).symm.trans e) p l e0 s m args below meth c D D3 ad H locs lsA hF hP hS hh))
  | ne => exact lv_if_ne hx hb hd ht (fun c9 => (kk _ _ _ _ ((if_neg c9).symm.trans e) p l e0 s m args below meth c D D3 ad H locs lsA hF hP hS hh)) (fun c9 => (kk _ _ _ _ ((if_pos c9).symm.trans e) p l e0 s m args below meth c D D3 ad H locs lsA hF hP hS hh))
  | lt => exact lv_if_lt hx hb hd ht (fun c9 => (kk _ _ _ _ ((if_pos c9).symm.trans e) p l e0 s m args below meth c D D3 ad H locs lsA hF hP hS hh)) (fun c9 => (kk _ _ _ _ ((if_neg c9).symm.trans e) p l e0 s m args below meth c D D3 ad H locs lsA hF hP hS hh))
  | ge => exact lv_if_ge hx hb hd ht (fun c9 => (kk _ _ _ _ ((if_pos c9).symm.trans e) p l e0 s m args below meth c D D3 ad H locs lsA hF hP hS hh)) (fun c9 => (kk _ _ _ _ ((if_neg c9).symm.trans e) p l e0 s m args below meth c D D3 ad H locs lsA hF hP hS hh))
  | gt => exact lv_if_gt hx hb hd ht (fun c9 => (kk _ _ _ _ ((if_pos c9).symm.trans e) p l e0 s m args below meth c D D3 ad H locs lsA hF hP hS hh)) (fun c9 => (kk _ _ _ _ ((if_neg c9).symm.trans e) p l e0 s m args below meth c D D3 ad H locs lsA hF hP hS hh))
  | le => exact lv_if_le hx hb hd ht (fun c9 => (kk _ _ _ _ ((if_pos c9).symm.trans e) p l e0 s m args below meth c D D3 ad H locs lsA hF hP hS hh)) (fun c9 => (kk _ _ _ _ ((if_neg c9).symm.trans e) p l e0 s m args below meth c D D3 ad H locs lsA hF hP hS hh))
theorem px_s_if_icmp {d : Nat} {M : pM} {C : pC} {n pc : Nat} {ls : pL} {st : List pV} {h : pH} {q : Int32 × pH} {k : pK} {o : ClassFile.Cond} {off : Int} (hd : decode M.2.1 pc = .ok (.if_icmp o off, n)) (e : px_step M.1 M.2.2.2 C (.if_icmp o off) n pc ls st h k = some q) (kk : ∀ pc' ls' st' h', k pc' ls' st' h' = some q → px_G d M pc' ls' st' h' q) : px_G d M pc ls st h q := by
  have e9 := px_if_some e
  clear e
  obtain ⟨hn, e⟩ := e9
  have hn := Nat.eq_of_beq_eq_true hn
  subst hn
  have e9 := px_i2_some e
  clear e
  obtain ⟨x, y, r, rfl, e⟩ := e9
  have e9 := px_tg_some e
  clear e
  obtain ⟨t, ht, e⟩ := e9
  intro p l e0 s m args below meth c D D3 ad H locs lsA hF hP hS hh
  obtain ⟨hx, hb, hml, hr, hown, hts, hlocks, hK, hN, hi⟩ := id hF
  cases o with
  | eq => exact lv_icmp_eq hx hb hd ht (fun c9 => (kk _ _ _ _ ((if_pos c9).symm.trans e) p l e0 s m args below meth c D D3 ad H locs lsA hF hP hS hh)) (fun c9 => (kk _ _ _ _ ((if_neg c9).symm.trans e) p l e0 s m args below meth c D D3 ad H locs lsA hF hP hS hh))
  | ne => exact lv_icmp_ne hx hb hd ht (fun c9 => (kk _ _ _ _ ((if_neg c9).symm.trans e) p l e0 s m args below meth c D D3 ad H locs lsA hF hP hS hh)) (fun c9 => (kk _ _ _ _ ((if_pos c9).symm.trans e) p l e0 s m args below meth c D D3 ad H locs lsA hF hP hS hh))
  | lt => exact lv_icmp_lt hx hb hd ht (fun c9 => (kk _ _ _ _ ((if_pos c9).symm.trans e) p l e0 s m args below meth c D D3 ad H locs lsA hF hP hS hh)) (fun c9 => (kk _ _ _ _ ((if_neg c9).symm.trans e) p l e0 s m args below meth c D D3 ad H locs lsA hF hP hS hh))
  | ge => exact lv_icmp_ge hx hb hd ht (fun c9 => (kk _ _ _ _ ((if_pos c9).symm.trans e) p l e0 s m args below meth c D D3 ad H locs lsA hF hP hS hh)) (fun c9 => (kk _ _ _ _ ((if_neg c9).symm.trans e) p l e0 s m args below meth c D D3 ad H locs lsA hF hP hS hh))
  | gt => exact lv_icmp_gt hx hb hd ht (fun c9 => (kk _ _ _ _ ((if_pos c9).symm.trans e) p l e0 s m args below meth c D D3 ad H locs lsA hF hP hS hh)) (fun c9 => (kk _ _ _ _ ((if_neg c9).symm.trans e) p l e0 s m args below meth c D D3 ad H locs lsA hF hP hS hh))
  | le => exact lv_icmp_le hx hb hd ht (fun c9 => (kk _ _ _ _ ((if_pos c9).symm.trans e) p l e0 s m args below meth c D D3 ad H locs lsA hF hP hS hh)) (fun c9 => (kk _ _ _ _ ((if_neg c9).symm.trans e) p l e0 s m args below meth c D D3 ad H locs lsA hF hP hS hh))
theorem px_s_goto {d : Nat} {M : pM} {C : pC} {n pc : Nat} {ls : pL} {st : List pV} {h : pH} {q : Int32 × pH} {k : pK} {off : Int} (hd : decode M.2.1 pc = .ok (.goto off, n)) (e : px_step M.1 M.2.2.2 C (.goto off) n pc ls st h k = some q) (kk : ∀ pc' ls' st' h', k pc' ls' st' h' = some q → px_G d M pc' ls' st' h' q) : px_G d M pc ls st h q := by
  have e9 := px_if_some e
  clear e
  obtain ⟨hn, e⟩ := e9
  have hn := Nat.eq_of_beq_eq_true hn
  subst hn
  have e9 := px_tg_some e
  clear e
  obtain ⟨t, ht, e⟩ := e9
  intro p l e0 s m args below meth c D D3 ad H locs lsA hF hP hS hh
  obtain ⟨hx, hb, hml, hr, hown, hts, hlocks, hK, hN, hi⟩ := id hF
  exact lv_goto hx hb hd ht (kk _ _ _ _ e p l e0 s m args below meth c D D3 ad H locs lsA hF hP hS hh)
end
section
/-! Fields, rows, calls, returns -/
def px_mrB (q : px_MI × Nat × Nat × Nat × Nat) : Bool := (px_at q.2.2.2.2 (.initialized q.1.1.cls) && (decide (q.1.1.cls ≠ "java/lang/invoke/MethodHandle" ∧ q.1.1.cls ≠ "java/lang/invoke/VarHandle" ∧ (parseMethodDescriptor q.1.1.desc).map (fun d => d.parameters.length) = some q.1.2.2.2.2.2.1) && (plainName q.1.1.cls && (Nat.ble q.1.2.2.1 20 && (match q.1.2.2.2.2.1 with
  | true => px_at q.2.2.1 (.static q.1.1)
  | false => px_at q.2.2.1 (.instanceMethod q.1.1) && (px_at q.2.2.2.1 (.selects q.1.1.cls q.1.1 q.1.1) && (match px_cl[q.1.2.2.2.2.2.2]? with
    | some r => decide (r.1 = q.1.1.cls)
    | none => false)))))))
set_option maxRecDepth 20000 in
theorem px_mt_ok : (px_mt.zip px_mp).all px_mrB = true := by decide +kernel
theorem px_mt_len : px_mt.length = px_mp.length := by decide +kernel
set_option maxRecDepth 20000 in
theorem px_codes : px_mt.map (fun r => some (Jvm.Cond.code r.1 r.2.1 r.2.2.1 r.2.2.2.1)) = px_mp.map (fun z => lw_tbl[z.1]?) := rfl
theorem px_code_in {id : Nat} {r : px_MI} (h : px_nth px_mt id = some r) : Jvm.Cond.code r.1 r.2.1 r.2.2.1 r.2.2.2.1 ∈ px_TB := by
  rw [px_nth_eq] at h
  have h1 := congrArg (fun l => l[id]?) px_codes
  simp only [List.getElem?_map, h, Option.map_some] at h1
  cases hz : px_mp[id]? with
  | none => rw [hz] at h1; cases h1
  | some z =>
    rw [hz] at h1
    exact px_TB_of (List.mem_of_getElem? (Option.some.inj h1).symm) rfl
theorem px_mt_at {id : Nat} {r : px_MI} (h : px_nth px_mt id = some r) : ∃ z, px_mrB (r, z) = true := by
  rw [px_nth_eq] at h
  obtain ⟨h1, h2⟩ := List.getElem?_eq_some_iff.mp h
  have h3 : id < px_mp.length := by rw [← px_mt_len]; exact h1
  refine ⟨px_mp[id], List.all_eq_true.mp px_mt_ok _ ?_⟩
  have h4 : (px_mt.zip px_mp)[id]? = some (r, px_mp[id]) := by
    rw [List.getElem?_zip_eq_some]
    exact ⟨h, List.getElem?_eq_getElem h3⟩
  exact List.mem_of_getElem? h4
def px_clB (r : vw_C) : Bool := (u_ws r.1 r.2.1 r.2.2).all fun w => decide (w ∈ lw_tbl) && goodWord w
set_option maxRecDepth 20000 in
theorem px_cl_ok : px_cl.all px_clB = true := by decide +kernel
theorem px_cl_in {ci : Nat} {r : vw_C} (h : px_cl[ci]? = some r) : ∀ w ∈ u_ws r.1 r.2.1 r.2.2, w ∈ px_TB := by
  intro w hw
  have h1 := List.all_eq_true.mp px_cl_ok r (List.mem_of_getElem? h)
  have h2 := List.all_eq_true.mp h1 w hw
  rw [Bool.and_eq_true] at h2
  exact px_TB_of (of_decide_eq_true h2.1) h2.2
theorem px_cl_ty {ci : Nat} {r : vw_C} (h : px_cl[ci]? = some r) : (∀ a, a < r.2.2 → ∀ b, b < r.2.2 → a ≠ b → (r.2.1 a).2.1 ≠ (r.2.1 b).2.1) ∧ ∃ ty0 : Nat → FieldType, ∀ k, k < r.2.2 → parseFieldDescriptor (r.2.1 k).2.2.1 = some (ty0 k) := by
  match ci, h with
  | 0, h => cases h; exact ⟨nmX0, tyX0, tyX0_ok⟩
  | 1, h => cases h; exact ⟨nmX1, tyX1, tyX1_ok⟩
  | 2, h => cases h; exact ⟨nmX2, tyX2, tyX2_ok⟩
  | 3, h => cases h; exact ⟨nmX3, tyX3, tyX3_ok⟩
  | 4, h => cases h; exact ⟨nmX4, tyX4, tyX4_ok⟩
  | 5, h => cases h; exact ⟨nmX5, tyX5, tyX5_ok⟩
  | 6, h => cases h; exact ⟨nmX6, tyX6, tyX6_ok⟩
  | 7, h => cases h; exact ⟨nmX7, tyX7, tyX7_ok⟩
  | 8, h => cases h; exact ⟨nmX8, tyX8, tyX8_ok⟩
  | 9, h => cases h; exact ⟨nmX9, tyX9, tyX9_ok⟩
  | 10, h => cases h; exact ⟨nmX10, tyX10, tyX10_ok⟩
  | 11, h => cases h; exact ⟨nmX11, tyX11, tyX11_ok⟩
  | k + 12, h => simp [px_cl] at h
end
section
/-! Fields, rows, calls, returns -/
theorem px_ctx_parts {X : pX} (h : px_ctxB X = true) : X.2.1.all (px_fB X.1) = true ∧ X.2.2.1.all (px_mB X.1) = true ∧ X.2.2.2.1.all (fun q => px_at q.2.2 (.constant X.1 q.1 q.2.1)) = true ∧ X.2.2.2.2.all (fun q => px_at q.2.2 (.constantLong X.1 q.1 q.2.1)) = true := by
  unfold px_ctxB at h
  rw [Bool.and_eq_true, Bool.and_eq_true, Bool.and_eq_true] at h
  exact h
theorem px_ctx_c {X : pX} (h : px_ctxB X = true) {j : Nat} {q : Int32 × Nat} (hj : px_find X.2.2.2.1 j = some q) : Jvm.Cond.constant X.1 j q.1 ∈ px_TB :=
  px_TB_of (px_at_mem (List.all_eq_true.mp (px_ctx_parts h).2.2.1 _ (px_find_mem hj))) rfl
theorem px_ctx_l {X : pX} (h : px_ctxB X = true) {j : Nat} {q : Int64 × Nat} (hj : px_find X.2.2.2.2 j = some q) : Jvm.Cond.constantLong X.1 j q.1 ∈ px_TB :=
  px_TB_of (px_at_mem (List.all_eq_true.mp (px_ctx_parts h).2.2.2 _ (px_find_mem hj))) rfl
theorem px_ctx_f {X : pX} (h : px_ctxB X = true) {j : Nat} {q : Nat × Nat × Nat} (hj : px_find X.2.1 j = some q) : ∃ r, px_cl[q.1]? = some r ∧ q.2.1 < r.2.2 ∧ (r.2.1 q.2.1).1 = r.1 ∧ (Jvm.Cond.fieldLink X.1 j r.1 (r.2.1 q.2.1).2.1 (r.2.1 q.2.1).2.2.1 ∈ px_TB ∨ Jvm.Cond.fieldLinkNest X.1 j r.1 (r.2.1 q.2.1).2.1 (r.2.1 q.2.1).2.2.1 "WordsUnsaid" ∈ px_TN) := by
  have h1 := List.all_eq_true.mp (px_ctx_parts h).1 _ (px_find_mem hj)
  unfold px_fB at h1
  split at h1
  · cases h1
  · rename_i r hr
    rw [Bool.and_eq_true, Bool.and_eq_true, Bool.or_eq_true] at h1
    refine ⟨r, hr, by simpa [Nat.blt_eq] using h1.1, of_decide_eq_true h1.2.1, ?_⟩
    rcases h1.2.2 with h2 | h2
    · exact Or.inl (px_TB_of (px_at_mem h2) rfl)
    · exact Or.inr (px_TN_of (px_at_mem h2) rfl)
theorem px_ctx_m {X : pX} (h : px_ctxB X = true) {j : Nat} {q : Nat × Nat} (hj : px_find X.2.2.1 j = some q) (hb : Nat.ble 1000 q.1 = false) : ∃ r, px_nth px_mt q.1 = some r ∧ (Jvm.Cond.methodLink X.1 j r.1 ∈ px_TB ∨ Jvm.Cond.methodLinkNest X.1 j r.1 "WordsUnsaid" ∈ px_TN) := by
  have h1 := List.all_eq_true.mp (px_ctx_parts h).2.1 _ (px_find_mem hj)
  unfold px_mB at h1
  simp only [hb] at h1
  split at h1
  · cases h1
  · rename_i r hr
    rw [Bool.or_eq_true] at h1
    refine ⟨r, hr, ?_⟩
    rcases h1 with h2 | h2
    · exact Or.inl (px_TB_of (px_at_mem h2) rfl)
    · exact Or.inr (px_TN_of (px_at_mem h2) rfl)
theorem px_ctx_i {X : pX} (h : px_ctxB X = true) {j : Nat} {q : Nat × Nat} (hj : px_find X.2.2.1 j = some q) (hb : Nat.ble 1000 q.1 = true) : Jvm.Cond.methodLink X.1 j (px_iname q.1) ∈ px_TB := by
  have h1 := List.all_eq_true.mp (px_ctx_parts h).2.1 _ (px_find_mem hj)
  unfold px_mB at h1
  simp only [hb] at h1
  exact px_TB_of (px_at_mem h1) rfl
/-! a cell's facts -/
theorem px_tag_obj {a ci k : Nat} (h : (Nat.beq (px_tag a) (ci + 10) && Nat.blt k (px_len a)) = true) : a < px_N ∧ px_tag a = ci + 10 ∧ k < px_len a := by
  rw [Bool.and_eq_true] at h
  have h1 := Nat.eq_of_beq_eq_true h.1
  exact ⟨px_in_N (by omega), h1, by simpa [Nat.blt_eq] using h.2⟩
theorem px_ws_obj {D3 : Nat → ClassId} {ad : Nat → Nat} {h : pH} {a ci : Nat} (ha : a < px_N) (ht : px_tag a = ci + 10) : (px_ws D3 ad h)[a]? = some (ad a, .inr (ci, (List.range (px_len a)).map (px_fv ad h a))) := by
  rw [px_ws_at ha, px_ent_obj (by omega), ht]
  rfl
theorem px_ws_arr {D3 : Nat → ClassId} {ad : Nat → Nat} {h : pH} {a t : Nat} (ht : px_tag a = t) (h4 : t < 4) : (px_ws D3 ad h)[a]? = some (ad a, .inl (D3 t, px_len a, .inl (h a))) := by
  rw [px_ws_at (px_in_N (by omega)), px_ent_arr (by omega), ht]
theorem px_fs_at {ad : Nat → Nat} {h : pH} {a k : Nat} (hk : k < px_len a) : ((List.range (px_len a)).map (px_fv ad h a))[k]? = some (px_fv ad h a k) := by
  rw [List.getElem?_map, List.getElem?_range hk]
  rfl
theorem px_get_some {a ci k : Nat} {h : pH} {kk : pV → pR} {q : Int32 × pH} (e : px_get a ci k h kk = some q) : a < px_N ∧ px_tag a = ci + 10 ∧ k < px_len a ∧ ∃ v, (∀ ad, pv ad v = px_fv ad h a k) ∧ kk v = some q := by
  unfold px_get at e
  obtain ⟨h1, e⟩ := px_if_some e
  obtain ⟨h2, h3, h4⟩ := px_tag_obj h1
  refine ⟨h2, h3, h4, ?_⟩
  split at e
  · rename_i hr
    exact ⟨_, fun ad => by unfold px_fv; rw [hr]; rfl, e⟩
  · rename_i t hr
    split at e
    · rename_i ht
      exact ⟨_, fun ad => by unfold px_fv; rw [hr]; simp only [ht]; rfl, e⟩
    · rename_i ht
      split at e
      · rename_i ht2
        obtain ⟨h5, e⟩ := px_if_some e
        rw [Bool.and_eq_true] at h5
        have h6 : ¬ h a k < 0 := by
          have := of_decide_eq_true h5.1
          rw [Int32.le_iff_toInt_le] at this
          rw [Int32.lt_iff_toInt_lt]
          omega
        exact ⟨_, fun ad => by unfold px_fv; rw [hr]; simp only [ht, ht2]; rw [if_neg h6]; rfl, e⟩
      · rename_i ht2
        exact ⟨_, fun ad => by unfold px_fv; rw [hr]; simp only [ht, ht2]; rfl, e⟩
theorem px_put_some {a ci k : Nat} {v : pV} {h : pH} {kk : pH → pR} {q : Int32 × pH} (e : px_put a ci k v h kk = some q) : a < px_N ∧ px_tag a = ci + 10 ∧ k < px_len a ∧ ∃ (x : Int32) (r : vw_C) (ty : FieldType), kk (px_w h a k x) = some q ∧ (∀ ad, px_fv ad (px_w h a k x) a k = pv ad v) ∧ px_cl[ci]? = some r ∧ r.2.2 = px_len a ∧ parseFieldDescriptor (r.2.1 k).2.2.1 = some ty ∧ (r.2.1 k).2.2.2 = false ∧ (∀ ad, narrow ty (pv ad v) = pv ad v) ∧ (∀ ad, fits ty (pv ad v) = true) := by
  unfold px_put at e
  have e9 := px_if_some e
  clear e
  obtain ⟨h1, e⟩ := e9
  obtain ⟨h2, h3, h4⟩ := px_tag_obj h1
  refine ⟨h2, h3, h4, ?_⟩
  have hL := px_lay_of h2
  unfold px_layB at hL
  have hb4 : Nat.blt (px_tag a) 4 = false := by
    cases hq : Nat.blt (px_tag a) 4 with
    | false => rfl
    | true =>
      have := (Nat.blt_eq).mp hq
      omega
  simp only [hb4, Bool.and_eq_true] at hL
  have hci : px_tag a - 10 = ci := by omega
  rw [hci] at hL
  have hL2 := hL.2
  cases hr : px_cl[ci]? with
  | none => rw [hr] at hL2; cases hL2
  | some r =>
    rw [hr] at hL2
    simp only [Bool.and_eq_true] at hL2
    have hN : r.2.2 = px_len a := Nat.eq_of_beq_eq_true hL2.1
    have hd := List.all_eq_true.mp hL2.2 k (List.mem_range.mpr (by omega))
    unfold px_descB at hd
    have hw : px_w h a k = fun x => px_w h a k x := rfl
    split at e
    · rename_i hrf
      rw [hrf] at hd
      simp only [Bool.and_eq_true, Bool.not_eq_true'] at hd
      split at e
      · rename_i x
        refine ⟨x, r, .int, e, fun ad => ?_, rfl, hN, by rw [of_decide_eq_true hd.1]; rfl, hd.2, fun ad => rfl, fun ad => rfl⟩
        unfold px_fv
        rw [hrf]
        simp [px_w, pv]
      · cases e
    · rename_i t hrf
      rw [hrf] at hd
      split at e
      · rename_i ht
        simp only [ht, Bool.and_eq_true, Bool.not_eq_true'] at hd
        split at e
        · rename_i x
          have e9 := px_if_some e
          clear e
          obtain ⟨hx, e⟩ := e9
          rw [Bool.or_eq_true] at hx
          have hx' : x = 0 ∨ x = 1 := hx.imp of_decide_eq_true of_decide_eq_true
          refine ⟨x, r, .boolean, e, fun ad => ?_, rfl, hN, by rw [of_decide_eq_true hd.1]; rfl, hd.2, fun ad => ?_, fun ad => ?_⟩
          · unfold px_fv
            rw [hrf]
            simp only [ht]
            simp [px_w, pv]
          · rcases hx' with rfl | rfl <;> rfl
          · rcases hx' with rfl | rfl <;> rfl
        · cases e
      · rename_i ht
        simp only [ht] at hd
        split at e
        · rename_i ht2
          simp only [ht2, Bool.and_eq_true, Bool.not_eq_true'] at hd
          split at e
          · rename_i r0
            have e9 := px_if_some e
            clear e
            obtain ⟨hx, e⟩ := e9
            rw [Bool.and_eq_true] at hx
            have hr0 : r0 < px_N := by simpa [Nat.blt_eq] using hx.1
            have hr1 : r0 < 2 ^ 31 := Nat.lt_trans hr0 (by decide)
            refine ⟨nI r0, r, .array .byte, e, fun ad => ?_, rfl, hN, by rw [of_decide_eq_true hd.1]; rfl, hd.2, fun ad => rfl, fun ad => rfl⟩
            unfold px_fv
            rw [hrf]
            simp only [ht, ht2]
            have hwv : px_w h a k (nI r0) a k = nI r0 := by simp [px_w]
            rw [hwv, if_neg (nI_pos hr1), nI_clamp hr1]
            rfl
          · cases e
        · cases e
theorem px_ok_some {t a : Nat} {i : Int32} (h : px_ok t a i = true) : px_tag a = t ∧ vp_in i (px_len a) := by
  unfold px_ok at h
  rw [Bool.and_eq_true, Bool.and_eq_true] at h
  refine ⟨Nat.eq_of_beq_eq_true h.1, fun q => ?_⟩
  have h1 := of_decide_eq_true h.2.1
  have h2 : i.toNatClampNeg < px_len a := by simpa [Nat.blt_eq] using h.2.2
  rcases q with q | q
  · rw [Int32.lt_iff_toInt_lt] at q
    rw [Int32.le_iff_toInt_le] at h1
    omega
  · omega
theorem px_popn_some {n : Nat} {st as r : List pV} (h : px_popn n st = some (as, r)) : st = as.reverse ++ r ∧ as.length = n := by
  induction n generalizing st as r with
  | zero =>
    cases h
    exact ⟨rfl, rfl⟩
  | succ n ih =>
    unfold px_popn at h
    split at h
    · cases h
    · rename_i v rr
      split at h
      · cases h
      · rename_i q hq
        cases h
        obtain ⟨h1, h2⟩ := ih (as := q.1) (r := q.2) hq
        exact ⟨by rw [h1]; simp, by simp [h2]⟩
theorem px_low_some {ad : Nat → Nat} {r : List pV} (h : px_low r = true) : ((r.map (pv ad)).map fun v => v.category).sum ≤ 8 := by
  have h1 : (r.map px_cat).sum ≤ 8 := Nat.le_of_ble_eq_true h
  have h2 : (r.map (pv ad)).map (fun v => v.category) = r.map px_cat := by
    rw [List.map_map]
    apply List.map_congr_left
    intro v _
    match v with
    | .inl x => rfl
    | .inr (.inl x) => rfl
    | .inr (.inr x) => rfl
  rw [h2]
  exact h1
end
section
/-! Fields, rows, switches, returns: an instruction at a time -/
theorem px_s_ldc {d : Nat} {M : pM} {C : pC} {n pc : Nat} {ls : pL} {st : List pV} {h : pH} {q : Int32 × pH} {k : pK} {j : Nat} (hM : px_ctxB M.1 = true) (hd : decode M.2.1 pc = .ok (.ldc j, n)) (e : px_step M.1 M.2.2.2 C (.ldc j) n pc ls st h k = some q) (kk : ∀ pc' ls' st' h', k pc' ls' st' h' = some q → px_G d M pc' ls' st' h' q) : px_G d M pc ls st h q := by
  have e9 := px_if_some e
  clear e
  obtain ⟨hn, e⟩ := e9
  have hn := Nat.eq_of_beq_eq_true hn
  subst hn
  split at e
  · rename_i qq hj
    intro p l e0 s m args below meth c D D3 ad H locs lsA hF hP hS hh
    obtain ⟨hx, hb, hml, hr, hown, hts, hlocks, hK, hN, hi⟩ := id hF
    exact lv_ldc hx hb hown (hts _ (px_ctx_c hM hj)) hd (kk _ _ _ _ e p l e0 s m args below meth c D D3 ad H locs lsA hF hP hS hh)
  · cases e
theorem px_s_ldc_w {d : Nat} {M : pM} {C : pC} {n pc : Nat} {ls : pL} {st : List pV} {h : pH} {q : Int32 × pH} {k : pK} {j : Nat} (hM : px_ctxB M.1 = true) (hd : decode M.2.1 pc = .ok (.ldc_w j, n)) (e : px_step M.1 M.2.2.2 C (.ldc_w j) n pc ls st h k = some q) (kk : ∀ pc' ls' st' h', k pc' ls' st' h' = some q → px_G d M pc' ls' st' h' q) : px_G d M pc ls st h q := by
  have e9 := px_if_some e
  clear e
  obtain ⟨hn, e⟩ := e9
  have hn := Nat.eq_of_beq_eq_true hn
  subst hn
  split at e
  · rename_i qq hj
    intro p l e0 s m args below meth c D D3 ad H locs lsA hF hP hS hh
    obtain ⟨hx, hb, hml, hr, hown, hts, hlocks, hK, hN, hi⟩ := id hF
    exact lv_ldcw hx hb hown (hts _ (px_ctx_c hM hj)) hd (kk _ _ _ _ e p l e0 s m args below meth c D D3 ad H locs lsA hF hP hS hh)
  · cases e
theorem px_s_ldc2_w {d : Nat} {M : pM} {C : pC} {n pc : Nat} {ls : pL} {st : List pV} {h : pH} {q : Int32 × pH} {k : pK} {j : Nat} (hM : px_ctxB M.1 = true) (hd : decode M.2.1 pc = .ok (.ldc2_w j, n)) (e : px_step M.1 M.2.2.2 C (.ldc2_w j) n pc ls st h k = some q) (kk : ∀ pc' ls' st' h', k pc' ls' st' h' = some q → px_G d M pc' ls' st' h' q) : px_G d M pc ls st h q := by
  have e9 := px_if_some e
  clear e
  obtain ⟨hn, e⟩ := e9
  have hn := Nat.eq_of_beq_eq_true hn
  subst hn
  split at e
  · rename_i qq hj
    intro p l e0 s m args below meth c D D3 ad H locs lsA hF hP hS hh
    obtain ⟨hx, hb, hml, hr, hown, hts, hlocks, hK, hN, hi⟩ := id hF
    exact lv_ldc2 hx hb hown (hts _ (px_ctx_l hM hj)) hd (kk _ _ _ _ e p l e0 s m args below meth c D D3 ad H locs lsA hF hP hS hh)
  · cases e
theorem px_c_int {v : Int} (h1 : -2147483648 ≤ v) (h2 : v ≤ 2147483647) : (px_c v).toInt = v := Int32.toInt_ofInt_of_le (by omega) (by omega)
theorem px_ts_some {offs : List Int} {v0 d : Int} {x : Int32} {f : Int → pR} {q : Int32 × pH} (hr : -2147483648 ≤ v0 ∧ v0 + (offs.length : Int) ≤ 2147483648) (e : px_ts offs v0 d x f = some q) :
    ((x.toInt < v0 ∨ v0 + (offs.length : Int) - 1 < x.toInt) ∧ f d = some q) ∨ ∃ off, ¬ x.toInt < v0 ∧ ¬ v0 + (offs.length : Int) - 1 < x.toInt ∧ offs[(x.toInt - v0).toNat]? = some off ∧ f off = some q := by
  induction offs generalizing v0 with
  | nil =>
    left
    refine ⟨?_, e⟩
    simp only [List.length_nil]
    omega
  | cons a l ih =>
    have hl : ((a :: l).length : Int) = (l.length : Int) + 1 := by simp
    have hv : (px_c v0).toInt = v0 := px_c_int hr.1 (by rw [hl] at hr; omega)
    unfold px_ts at e
    by_cases hxv : x = px_c v0
    · rw [if_pos hxv] at e
      right
      have hx : x.toInt = v0 := by rw [hxv, hv]
      refine ⟨a, by omega, by rw [hl]; omega, ?_, e⟩
      have : (x.toInt - v0).toNat = 0 := by omega
      rw [this]
      rfl
    · rw [if_neg hxv] at e
      have hne : x.toInt ≠ v0 := fun q => hxv (Int32.toInt_inj.mp (by rw [hv]; exact q))
      rcases ih (v0 := v0 + 1) (by rw [hl] at hr; omega) e with ⟨h1, h2⟩ | ⟨off, h1, h2, h3, h4⟩
      · left
        refine ⟨?_, h2⟩
        rw [hl]
        omega
      · right
        refine ⟨off, by omega, by rw [hl]; omega, ?_, h4⟩
        have : (x.toInt - v0).toNat = (x.toInt - (v0 + 1)).toNat + 1 := by omega
        rw [this, List.getElem?_cons_succ]
        exact h3
theorem px_lk_some {ps : List (Int × Int)} {d : Int} {x : Int32} {f : Int → pR} {q : Int32 × pH} (hr : px_sorted ps = true) (e : px_lk ps d x f = some q) : f (Op.lookupswitch.offset ps d x.toInt) = some q := by
  induction ps with
  | nil =>
    have : Op.lookupswitch.offset [] d x.toInt = d := rfl
    rw [this]
    exact e
  | cons a l ih =>
    unfold px_sorted at hr
    rw [Bool.and_eq_true, Bool.and_eq_true] at hr
    have hv : (px_c a.1).toInt = a.1 := px_c_int (of_decide_eq_true hr.1.1) (of_decide_eq_true hr.1.2)
    unfold px_lk at e
    obtain ⟨a1, a2⟩ := a
    rw [Op.lookupswitch.offset_cons]
    by_cases hxv : x = px_c a1
    · rw [if_pos hxv] at e
      rw [if_pos (by rw [hxv]; exact hv.symm)]
      exact e
    · rw [if_neg hxv] at e
      rw [if_neg (fun q => hxv (Int32.toInt_inj.mp (by rw [hv]; exact q.symm)))]
      exact ih hr.2 e
theorem px_s_tableswitch {d : Nat} {M : pM} {C : pC} {n pc : Nat} {ls : pL} {st : List pV} {h : pH} {q : Int32 × pH} {k : pK} {d0 lo hi0 : Int} {offs : Array Int} (hM : px_ctxB M.1 = true) (hd : decode M.2.1 pc = .ok (.tableswitch d0 lo hi0 offs, n)) (e : px_step M.1 M.2.2.2 C (.tableswitch d0 lo hi0 offs) n pc ls st h k = some q) (kk : ∀ pc' ls' st' h', k pc' ls' st' h' = some q → px_G d M pc' ls' st' h' q) : px_G d M pc ls st h q := by
  have e9 := px_if_some e
  clear e
  obtain ⟨hn, e⟩ := e9
  rw [Bool.and_eq_true, Bool.and_eq_true] at hn
  obtain ⟨h1, h2, h3⟩ := hn
  have h1 := of_decide_eq_true h1
  have h2 := of_decide_eq_true h2
  have h3 := of_decide_eq_true h3
  have e9 := px_i1_some e
  clear e
  obtain ⟨x, r, rfl, e⟩ := e9
  rcases px_ts_some ⟨h2, by omega⟩ e with ⟨g1, g2⟩ | ⟨off, g1, g2, g3, g4⟩
  · have e9 := px_tg_some g2
    obtain ⟨t, ht, e1⟩ := e9
    intro p l e0 s m args below meth c D D3 ad H locs lsA hF hP hS hh
    obtain ⟨hx, hb, hml, hr, hown, hts, hlocks, hK, hN, hi⟩ := id hF
    refine lv_tableOut hx hb hd ?_ ht (kk _ _ _ _ e1 p l e0 s m args below meth c D D3 ad H locs lsA hF hP hS hh)
    omega
  · have e9 := px_tg_some g4
    obtain ⟨t, ht, e1⟩ := e9
    intro p l e0 s m args below meth c D D3 ad H locs lsA hF hP hS hh
    obtain ⟨hx, hb, hml, hr, hown, hts, hlocks, hK, hN, hi⟩ := id hF
    refine lv_tableIn hx hb hd g1 (by omega) ?_ ht (kk _ _ _ _ e1 p l e0 s m args below meth c D D3 ad H locs lsA hF hP hS hh)
    rw [← Array.getElem?_toList]
    exact g3
theorem px_s_lookupswitch {d : Nat} {M : pM} {C : pC} {n pc : Nat} {ls : pL} {st : List pV} {h : pH} {q : Int32 × pH} {k : pK} {d0 : Int} {ps : Array (Int × Int)} (hM : px_ctxB M.1 = true) (hd : decode M.2.1 pc = .ok (.lookupswitch d0 ps, n)) (e : px_step M.1 M.2.2.2 C (.lookupswitch d0 ps) n pc ls st h k = some q) (kk : ∀ pc' ls' st' h', k pc' ls' st' h' = some q → px_G d M pc' ls' st' h' q) : px_G d M pc ls st h q := by
  have e9 := px_if_some e
  clear e
  obtain ⟨hn, e⟩ := e9
  rw [Bool.and_eq_true] at hn
  have e9 := px_i1_some e
  clear e
  obtain ⟨x, r, rfl, e⟩ := e9
  have g2 := px_lk_some hn.2 e
  have e9 := px_tg_some g2
  obtain ⟨t, ht, e1⟩ := e9
  intro p l e0 s m args below meth c D D3 ad H locs lsA hF hP hS hh
  obtain ⟨hx, hb, hml, hr, hown, hts, hlocks, hK, hN, hi⟩ := id hF
  exact lv_lookup hx hb hd hn.1 rfl ht (kk _ _ _ _ e1 p l e0 s m args below meth c D D3 ad H locs lsA hF hP hS hh)
theorem px_s_getfield {d : Nat} {M : pM} {C : pC} {n pc : Nat} {ls : pL} {st : List pV} {h : pH} {q : Int32 × pH} {k : pK} {j : Nat} (hM : px_ctxB M.1 = true) (hd : decode M.2.1 pc = .ok (.getfield j, n)) (e : px_step M.1 M.2.2.2 C (.getfield j) n pc ls st h k = some q) (kk : ∀ pc' ls' st' h', k pc' ls' st' h' = some q → px_G d M pc' ls' st' h' q) : px_G d M pc ls st h q := by
  have e9 := px_if_some e
  clear e
  obtain ⟨hn, e⟩ := e9
  have hn := Nat.eq_of_beq_eq_true hn
  subst hn
  split at e
  · rename_i a r
    split at e
    · rename_i qq hj
      obtain ⟨hN0, ht, hk, v, hv, e1⟩ := px_get_some e
      obtain ⟨cr, hcr, hkN, hT, hl⟩ := px_ctx_f hM hj
      intro p l e0 s m args below meth c D D3 ad H locs lsA hF hP hS hh
      obtain ⟨hx, hb, hml, hr, hown, hts, hlocks, hK, hN, hi⟩ := id hF
      have hk1 := (kk _ _ _ _ e1 p l e0 s m args below meth c D D3 ad H locs lsA hF hP hS hh)
      have hin : ∀ w ∈ u_ws cr.1 cr.2.1 cr.2.2, w ∈ px_TB := px_cl_in hcr
      have hsame : ∀ x, s.fieldFound? (cr.2.1 qq.2.1).1 (cr.2.1 qq.2.1).2.1 (cr.2.1 qq.2.1).2.2.1 = some x → s.fieldFound? cr.1 (cr.2.1 qq.2.1).2.1 (cr.2.1 qq.2.1).2.2.1 = some x := fun x hx9 => by rw [← hT]; exact hx9
      have hvv := px_fs_at (ad := ad) (h := h) hk
      rw [← hv ad] at hvv
      rcases hl with hl | hl
      · exact va_get hx hb hts hin hown hK hP a (px_ws_obj hN0 ht) hcr qq.2.1 hkN (hts _ hl) hsame hvv hd hk1
      · exact va_getN hx hb hts hin hown hK hP a (px_ws_obj hN0 ht) hcr qq.2.1 hkN (va_Nw.use rfl (hN _ hl)) hsame hvv hd hk1
    · cases e
  · cases e
theorem px_s_putfield {d : Nat} {M : pM} {C : pC} {n pc : Nat} {ls : pL} {st : List pV} {h : pH} {q : Int32 × pH} {k : pK} {j : Nat} (hM : px_ctxB M.1 = true) (hd : decode M.2.1 pc = .ok (.putfield j, n)) (e : px_step M.1 M.2.2.2 C (.putfield j) n pc ls st h k = some q) (kk : ∀ pc' ls' st' h', k pc' ls' st' h' = some q → px_G d M pc' ls' st' h' q) : px_G d M pc ls st h q := by
  have e9 := px_if_some e
  clear e
  obtain ⟨hn, e⟩ := e9
  have hn := Nat.eq_of_beq_eq_true hn
  subst hn
  split at e
  · rename_i v a r
    split at e
    · rename_i qq hj
      obtain ⟨hN0, ht, hk, x, r2, ty, e1, hu, hr2, hn2, hd2, hf2, hnar, hfit⟩ := px_put_some e
      obtain ⟨cr, hcr, hkN, hT, hl⟩ := px_ctx_f hM hj
      have hcr2 : cr = r2 := Option.some.inj (hcr.symm.trans hr2)
      subst hcr2
      obtain ⟨hnm, ty0, hty⟩ := px_cl_ty hcr
      intro p l e0 s m args below meth c D D3 ad H locs lsA hF hP hS hh
      obtain ⟨hx, hb, hml, hr, hown, hts, hlocks, hK, hN, hi⟩ := id hF
      have hin : ∀ w ∈ u_ws cr.1 cr.2.1 cr.2.2, w ∈ px_TB := px_cl_in hcr
      have hsame : ∀ x, s.fieldFound? (cr.2.1 qq.2.1).1 (cr.2.1 qq.2.1).2.1 (cr.2.1 qq.2.1).2.2.1 = some x → s.fieldFound? cr.1 (cr.2.1 qq.2.1).2.1 (cr.2.1 qq.2.1).2.2.1 = some x := fun x hx9 => by rw [← hT]; exact hx9
      have hset : (px_ws D3 ad h).set a (ad a, .inr (qq.1, ((List.range (px_len a)).map (px_fv ad h a)).set qq.2.1 (pv ad v))) = px_ws D3 ad (px_w h a qq.2.1 x) := by
        rw [px_fset (hu ad)]
        have h9 := px_ent_obj (D3 := D3) (ad := ad) (h := px_w h a qq.2.1 x) (a := a) (by omega)
        rw [ht] at h9
        have h8 : qq.1 + 10 - 10 = qq.1 := by omega
        rw [h8] at h9
        rw [← h9]
        exact px_ws_set hN0 (fun b hb9 => px_w_ne hb9)
      have hlen : qq.2.1 < ((List.range (px_len a)).map (px_fv ad h a)).length := by simpa using hk
      rcases hl with hl | hl
      · exact va_put hx hb hts hin ty0 hty hnm hown hK hP (px_DD hi) hS a (px_ws_obj hN0 ht) hcr qq.2.1 hkN (hts _ hl) hsame hf2 hd2 (hnar ad) (hfit ad) hlen hd (fun H1 locs1 hP1 _ hS1 => by
          rw [hset] at hP1
          exact (kk _ _ _ _ e1 p l e0 s m args below meth c D D3 ad H1 locs1 lsA hF hP1 hS1 hh))
      · exact va_putN hx hb hts hin ty0 hty hnm hown hK hP (px_DD hi) hS a (px_ws_obj hN0 ht) hcr qq.2.1 hkN (va_Nw.use rfl (hN _ hl)) hsame hf2 hd2 (hnar ad) (hfit ad) hlen hd (fun H1 locs1 hP1 _ hS1 => by
          rw [hset] at hP1
          exact (kk _ _ _ _ e1 p l e0 s m args below meth c D D3 ad H1 locs1 lsA hF hP1 hS1 hh))
    · cases e
  · cases e
theorem px_tys_at {D3 : Nat → ClassId} {t : Nat} (h : t < 4) : ∃ ty, (px_tys D3)[t]? = some (D3 t, ty) := by
  match t, h with
  | 0, _ => exact ⟨_, rfl⟩
  | 1, _ => exact ⟨_, rfl⟩
  | 2, _ => exact ⟨_, rfl⟩
  | 3, _ => exact ⟨_, rfl⟩
  | t + 4, h => omega
theorem px_aset {D3 : Nat → ClassId} {ad : Nat → Nat} {h : pH} {a t k : Nat} {x : Int32} (ht : px_tag a = t) (h4 : t < 4) : (px_ws D3 ad h).set a (ad a, .inl (D3 t, px_len a, .inl (upd (h a) k x))) = px_ws D3 ad (px_w h a k x) := by
  have h9 := px_ent_arr (D3 := D3) (ad := ad) (h := px_w h a k x) (a := a) (by omega)
  rw [ht, px_w_self] at h9
  rw [← h9]
  exact px_ws_set (px_in_N (by omega)) (fun b hb9 => px_w_ne hb9)
theorem px_s_arraylength {d : Nat} {M : pM} {C : pC} {n pc : Nat} {ls : pL} {st : List pV} {h : pH} {q : Int32 × pH} {k : pK} (hM : px_ctxB M.1 = true) (hd : decode M.2.1 pc = .ok (.arraylength, n)) (e : px_step M.1 M.2.2.2 C (.arraylength) n pc ls st h k = some q) (kk : ∀ pc' ls' st' h', k pc' ls' st' h' = some q → px_G d M pc' ls' st' h' q) : px_G d M pc ls st h q := by
  have e9 := px_if_some e
  clear e
  obtain ⟨hn, e⟩ := e9
  have hn := Nat.eq_of_beq_eq_true hn
  subst hn
  split at e
  · rename_i a r
    have e9 := px_if_some e
    clear e
    obtain ⟨h4, e⟩ := e9
    have h4 : px_tag a < 4 := by simpa [Nat.blt_eq] using h4
    intro p l e0 s m args below meth c D D3 ad H locs lsA hF hP hS hh
    obtain ⟨hx, hb, hml, hr, hown, hts, hlocks, hK, hN, hi⟩ := id hF
    obtain ⟨ty, hty⟩ := px_tys_at (D3 := D3) h4
    exact va_alen hx hb hK hP a (px_tag a) (px_ws_arr rfl h4) hty rfl hd (kk _ _ _ _ e p l e0 s m args below meth c D D3 ad H locs lsA hF hP hS hh)
  · cases e
theorem px_s_iaload {d : Nat} {M : pM} {C : pC} {n pc : Nat} {ls : pL} {st : List pV} {h : pH} {q : Int32 × pH} {k : pK} (hM : px_ctxB M.1 = true) (hd : decode M.2.1 pc = .ok (.iaload, n)) (e : px_step M.1 M.2.2.2 C (.iaload) n pc ls st h k = some q) (kk : ∀ pc' ls' st' h', k pc' ls' st' h' = some q → px_G d M pc' ls' st' h' q) : px_G d M pc ls st h q := by
  have e9 := px_if_some e
  clear e
  obtain ⟨hn, e⟩ := e9
  have hn := Nat.eq_of_beq_eq_true hn
  subst hn
  split at e
  · rename_i i a r
    have e9 := px_if_some e
    clear e
    obtain ⟨h4, e⟩ := e9
    obtain ⟨ht, hin⟩ := px_ok_some h4
    intro p l e0 s m args below meth c D D3 ad H locs lsA hF hP hS hh
    obtain ⟨hx, hb, hml, hr, hown, hts, hlocks, hK, hN, hi⟩ := id hF
    exact va_iald hx hb hK hP a 0 (px_ws_arr ht (by decide)) rfl hin hd (kk _ _ _ _ e p l e0 s m args below meth c D D3 ad H locs lsA hF hP hS hh)
  · cases e
theorem px_s_caload {d : Nat} {M : pM} {C : pC} {n pc : Nat} {ls : pL} {st : List pV} {h : pH} {q : Int32 × pH} {k : pK} (hM : px_ctxB M.1 = true) (hd : decode M.2.1 pc = .ok (.caload, n)) (e : px_step M.1 M.2.2.2 C (.caload) n pc ls st h k = some q) (kk : ∀ pc' ls' st' h', k pc' ls' st' h' = some q → px_G d M pc' ls' st' h' q) : px_G d M pc ls st h q := by
  have e9 := px_if_some e
  clear e
  obtain ⟨hn, e⟩ := e9
  have hn := Nat.eq_of_beq_eq_true hn
  subst hn
  split at e
  · rename_i i a r
    have e9 := px_if_some e
    clear e
    obtain ⟨h4, e⟩ := e9
    obtain ⟨ht, hin⟩ := px_ok_some h4
    intro p l e0 s m args below meth c D D3 ad H locs lsA hF hP hS hh
    obtain ⟨hx, hb, hml, hr, hown, hts, hlocks, hK, hN, hi⟩ := id hF
    exact va_cald hx hb hK hP a 2 (px_ws_arr ht (by decide)) rfl hin hd (kk _ _ _ _ e p l e0 s m args below meth c D D3 ad H locs lsA hF hP hS hh)
  · cases e
theorem px_s_baload {d : Nat} {M : pM} {C : pC} {n pc : Nat} {ls : pL} {st : List pV} {h : pH} {q : Int32 × pH} {k : pK} (hM : px_ctxB M.1 = true) (hd : decode M.2.1 pc = .ok (.baload, n)) (e : px_step M.1 M.2.2.2 C (.baload) n pc ls st h k = some q) (kk : ∀ pc' ls' st' h', k pc' ls' st' h' = some q → px_G d M pc' ls' st' h' q) : px_G d M pc ls st h q := by
  have e9 := px_if_some e
  clear e
  obtain ⟨hn, e⟩ := e9
  have hn := Nat.eq_of_beq_eq_true hn
  subst hn
  split at e
  · rename_i i a r
    have e9 := px_if_some e
    clear e
    obtain ⟨h4, e⟩ := e9
    rw [Bool.or_eq_true] at h4
    intro p l e0 s m args below meth c D D3 ad H locs lsA hF hP hS hh
    obtain ⟨hx, hb, hml, hr, hown, hts, hlocks, hK, hN, hi⟩ := id hF
    rcases h4 with h4 | h4
    · obtain ⟨ht, hin⟩ := px_ok_some h4
      exact va_bald hx hb hK hP a 1 (px_ws_arr ht (by decide)) rfl hin hd (kk _ _ _ _ e p l e0 s m args below meth c D D3 ad H locs lsA hF hP hS hh)
    · obtain ⟨ht, hin⟩ := px_ok_some h4
      exact va_zald hx hb hK hP a 3 (px_ws_arr ht (by decide)) rfl hin hd (kk _ _ _ _ e p l e0 s m args below meth c D D3 ad H locs lsA hF hP hS hh)
  · cases e
theorem px_s_iastore {d : Nat} {M : pM} {C : pC} {n pc : Nat} {ls : pL} {st : List pV} {h : pH} {q : Int32 × pH} {k : pK} (hM : px_ctxB M.1 = true) (hd : decode M.2.1 pc = .ok (.iastore, n)) (e : px_step M.1 M.2.2.2 C (.iastore) n pc ls st h k = some q) (kk : ∀ pc' ls' st' h', k pc' ls' st' h' = some q → px_G d M pc' ls' st' h' q) : px_G d M pc ls st h q := by
  have e9 := px_if_some e
  clear e
  obtain ⟨hn, e⟩ := e9
  have hn := Nat.eq_of_beq_eq_true hn
  subst hn
  split at e
  · rename_i x i a r
    have e9 := px_if_some e
    clear e
    obtain ⟨h4, e⟩ := e9
    obtain ⟨ht, hin⟩ := px_ok_some h4
    intro p l e0 s m args below meth c D D3 ad H locs lsA hF hP hS hh
    obtain ⟨hx, hb, hml, hr, hown, hts, hlocks, hK, hN, hi⟩ := id hF
    exact va_iast hx hb hK hP (px_DD hi) hS a 0 (px_ws_arr ht (by decide)) rfl hin hd (fun H1 locs1 hP1 _ hS1 => by
        rw [px_aset ht (by decide)] at hP1
        exact (kk _ _ _ _ e p l e0 s m args below meth c D D3 ad H1 locs1 lsA hF hP1 hS1 hh))
  · cases e
theorem px_s_castore {d : Nat} {M : pM} {C : pC} {n pc : Nat} {ls : pL} {st : List pV} {h : pH} {q : Int32 × pH} {k : pK} (hM : px_ctxB M.1 = true) (hd : decode M.2.1 pc = .ok (.castore, n)) (e : px_step M.1 M.2.2.2 C (.castore) n pc ls st h k = some q) (kk : ∀ pc' ls' st' h', k pc' ls' st' h' = some q → px_G d M pc' ls' st' h' q) : px_G d M pc ls st h q := by
  have e9 := px_if_some e
  clear e
  obtain ⟨hn, e⟩ := e9
  have hn := Nat.eq_of_beq_eq_true hn
  subst hn
  split at e
  · rename_i x i a r
    have e9 := px_if_some e
    clear e
    obtain ⟨h4, e⟩ := e9
    obtain ⟨ht, hin⟩ := px_ok_some h4
    intro p l e0 s m args below meth c D D3 ad H locs lsA hF hP hS hh
    obtain ⟨hx, hb, hml, hr, hown, hts, hlocks, hK, hN, hi⟩ := id hF
    exact va_cast hx hb hK hP (px_DD hi) hS a 2 (px_ws_arr ht (by decide)) rfl hin hd (fun H1 locs1 hP1 _ hS1 => by
        rw [px_aset ht (by decide)] at hP1
        exact (kk _ _ _ _ e p l e0 s m args below meth c D D3 ad H1 locs1 lsA hF hP1 hS1 hh))
  · cases e
theorem px_s_bastore {d : Nat} {M : pM} {C : pC} {n pc : Nat} {ls : pL} {st : List pV} {h : pH} {q : Int32 × pH} {k : pK} (hM : px_ctxB M.1 = true) (hd : decode M.2.1 pc = .ok (.bastore, n)) (e : px_step M.1 M.2.2.2 C (.bastore) n pc ls st h k = some q) (kk : ∀ pc' ls' st' h', k pc' ls' st' h' = some q → px_G d M pc' ls' st' h' q) : px_G d M pc ls st h q := by
  have e9 := px_if_some e
  clear e
  obtain ⟨hn, e⟩ := e9
  have hn := Nat.eq_of_beq_eq_true hn
  subst hn
  split at e
  · rename_i x i a r
    split at e
    · have e9 := px_if_some e
      clear e
      obtain ⟨h4, e⟩ := e9
      obtain ⟨ht, hin⟩ := px_ok_some h4
      intro p l e0 s m args below meth c D D3 ad H locs lsA hF hP hS hh
      obtain ⟨hx, hb, hml, hr, hown, hts, hlocks, hK, hN, hi⟩ := id hF
      exact va_zast hx hb hK hP (px_DD hi) hS a 3 (px_ws_arr ht (by decide)) rfl hin hd (fun H1 locs1 hP1 _ hS1 => by
          rw [px_aset ht (by decide)] at hP1
          exact (kk _ _ _ _ e p l e0 s m args below meth c D D3 ad H1 locs1 lsA hF hP1 hS1 hh))
    · have e9 := px_if_some e
      clear e
      obtain ⟨h4, e⟩ := e9
      obtain ⟨ht, hin⟩ := px_ok_some h4
      intro p l e0 s m args below meth c D D3 ad H locs lsA hF hP hS hh
      obtain ⟨hx, hb, hml, hr, hown, hts, hlocks, hK, hN, hi⟩ := id hF
      exact va_bast hx hb hK hP (px_DD hi) hS a 1 (px_ws_arr ht (by decide)) rfl hin hd (fun H1 locs1 hP1 _ hS1 => by
          rw [px_aset ht (by decide)] at hP1
          exact (kk _ _ _ _ e p l e0 s m args below meth c D D3 ad H1 locs1 lsA hF hP1 hS1 hh))
  · cases e
theorem px_s_ireturn {d : Nat} {M : pM} {C : pC} {n pc : Nat} {ls : pL} {st : List pV} {h : pH} {q : Int32 × pH} {k : pK} (hM : px_ctxB M.1 = true) (hd : decode M.2.1 pc = .ok (.ireturn, n)) (e : px_step M.1 M.2.2.2 C (.ireturn) n pc ls st h k = some q) (kk : ∀ pc' ls' st' h', k pc' ls' st' h' = some q → px_G d M pc' ls' st' h' q) : px_G d M pc ls st h q := by
  have e9 := px_if_some e
  clear e
  obtain ⟨hn, e⟩ := e9
  have hn := Nat.eq_of_beq_eq_true hn
  subst hn
  split at e
  · rename_i x
    obtain ⟨X, b, nL, rt⟩ := M
    dsimp only at e
    intro p l e0 s m args below meth c D D3 ad H locs lsA hF hP hS hh
    obtain ⟨hx, hb, hml, hr, hown, hts, hlocks, hK, hN, hi⟩ := id hF
    split at e
    · cases e
      exact W.iret hx hb hr (fun t ht hW => ⟨⟨x, h, rfl, ⟨rfl, rfl⟩, by rw [ht]; exact hP, va_K.moved hW.alike hK⟩, hS.F ht⟩) hS.2.2 hd
    · have e9 := px_if_some e
      clear e
      obtain ⟨h01, e⟩ := e9
      cases e
      rw [Bool.or_eq_true] at h01
      have h01 : x = 0 ∨ x = 1 := h01.imp of_decide_eq_true of_decide_eq_true
      exact W.zret hx hb hr (by rcases h01 with rfl | rfl <;> rfl) (fun t ht hW => ⟨⟨x, h, rfl, ⟨rfl, rfl⟩, by rw [ht]; exact hP, va_K.moved hW.alike hK⟩, hS.F ht⟩) hS.2.2 hd
    · cases e
  · cases e
theorem px_s_return_ {d : Nat} {M : pM} {C : pC} {n pc : Nat} {ls : pL} {st : List pV} {h : pH} {q : Int32 × pH} {k : pK} (hM : px_ctxB M.1 = true) (hd : decode M.2.1 pc = .ok (.return_, n)) (e : px_step M.1 M.2.2.2 C (.return_) n pc ls st h k = some q) (kk : ∀ pc' ls' st' h', k pc' ls' st' h' = some q → px_G d M pc' ls' st' h' q) : px_G d M pc ls st h q := by
  have e9 := px_if_some e
  clear e
  obtain ⟨hn, e⟩ := e9
  have hn := Nat.eq_of_beq_eq_true hn
  subst hn
  obtain ⟨X, b, nL, rt⟩ := M
  dsimp only at e
  split at e
  · cases e
    intro p l e0 s m args below meth c D D3 ad H locs lsA hF hP hS hh
    obtain ⟨hx, hb, hml, hr, hown, hts, hlocks, hK, hN, hi⟩ := id hF
    exact W.vret hx hb hr (fun t ht hW => ⟨⟨h, rfl, rfl, by rw [ht]; exact hP, va_K.moved hW.alike hK⟩, hS.F ht⟩) hS.2.2 hd
  · cases e
end
section
/-! Calls; a block; a method's contract out of its blocks -/
theorem px_TN_n {w : Jvm.Cond} (h : w ∈ px_TN) : px_isN w = true := (List.mem_filter.mp h).2
theorem px_Nw_warm {s U : State} (hN : ∀ w ∈ px_TN, va_Nw w s) (hW : s.WarmedH U.vm) : ∀ w ∈ px_TN, va_Nw w U := by
  intro w hw
  have h1 := px_TN_n hw
  have h2 := hN w hw
  cases w <;> first | exact va_Nw.warmF hW h2 | exact va_Nw.warmM hW h2 | cases h1
theorem px_Nw_same {u U : State} (hN : ∀ w ∈ px_TN, va_Nw w u) (h : u.vm = U.vm) : ∀ w ∈ px_TN, va_Nw w U := by
  intro w hw
  have h1 := px_TN_n hw
  have h2 := hN w hw
  refine va_Nw.same ?_ h h2
  cases w <;> first | rfl | cases h1
def px_push (rt : Option FieldType) (x : Int32) (r : List Value) : List Value := match rt with
  | none => r
  | some _ => .int x :: r
/-- a method's start -/
def px_Pre (D : va_G) (D3 : Nat → ClassId) (ad : Nat → Nat) (sz : Nat) (h : pH) (a : List pV) : Array Value → State → Prop := va_Pc (a.map (pv ad)) (fun U => U.heap.size = sz ∧ va_P D px_cl (px_ws D3 ad h) U.heap ∧ va_K D px_cl (px_tys D3) U ∧ ∀ w ∈ px_TN, va_Nw w U)
theorem px_blind {D : va_G} {D3 : Nat → ClassId} {ad : Nat → Nat} {sz : Nat} {h : pH} {a : List pV} : FrameBlind (px_Pre D D3 ad sz h a) := fun a U g mk q => by
  obtain ⟨q0, q1, qP, qK, qN⟩ := q
  exact ⟨q0, q1, qP, va_K.moved (u := U) (U := U.calling g mk a) (Vm.Alike.refl U.vm) qK, px_Nw_same (u := U) (U := U.calling g mk a) qN rfl⟩
theorem px_pre_at {D : va_G} {D3 : Nat → ClassId} {ad : Nat → Nat} {h : pH} {a : List pV} {s U : State} {H : Heap} (hP : va_P D px_cl (px_ws D3 ad h) H) (hK : va_K D px_cl (px_tys D3) s) (hN : ∀ w ∈ px_TN, va_Nw w s) (hU : U.heap = H) (hW : s.WarmedH U.vm) : px_Pre D D3 ad H.size h a (a.map (pv ad)).toArray U :=
  ⟨rfl, by rw [hU], by rw [hU]; exact hP, va_K.moved hW.alike hK, px_Nw_warm hN hW⟩
section PXC
variable {d : Nat} {M : pM} {p : Program} {l : Launch} {e0 : Env} {s : State} {m : MethodId} {args : Array Value} {below : List Frame} {meth : Method} {c : Code} {D : va_G} {D3 : Nat → ClassId} {ad : Nat → Nat} {H : Heap} {locs : List Loc} {lsA : Array Slot}
/-- behind a call -/
theorem px_ret {rtc : Option FieldType} {Q : State → Prop} {q : Int32 × pH} {pc : Nat} {st0 rest : List Value} {aa : Array Value} (hK : va_K D px_cl (px_tys D3) s) (hS : va_S (px_A ad s.heap.size) s.heap H locs)
    (hr : va_Run p l e0 (px_rm (d + 1)) s m args below meth c H locs 0 0 0 0 (F0 m pc lsA st0) rest (px_Q D D3 ad H.size rtc q aa) (px_A ad H.size))
    (kk : ∀ (H1 : Heap) (locs1 : List Loc), va_P D px_cl (px_ws D3 ad q.2) H1 → va_S (px_A ad s.heap.size) s.heap H1 locs1 → W p l e0 (px_rm (d + 1)) s m args below meth c H1 locs1 0 0 Q (F0 m (pc + 3) lsA (px_push rtc q.1 rest))) : W p l e0 (px_rm (d + 1)) s m args below meth c H locs 0 0 Q (F0 m pc lsA st0) := by
  have hA : ∀ q : Nat, px_A ad H.size q → px_A ad s.heap.size q := fun q h => h.imp id (fun h => Nat.le_trans hS.1 h)
  cases rtc with
  | none =>
    exact va_callv (a := aa) hr hS (fun q _ h => hA q h) hA (fun u t H1 locs1 ht hvm hp hB hz hk hS1 => by
      obtain ⟨hB1, -⟩ := hB
      rw [ht, hp] at hB1
      exact kk H1 locs1 hB1 hS1)
  | some ty =>
    exact va_calli (a := aa) hr hS (fun q _ h => hA q h) hA (fun r u t H1 locs1 ht hvm hp hB hz hk hS1 => by
      obtain ⟨hB1, -⟩ := hB
      rw [ht, hp.2] at hB1
      rw [hp.1]
      exact kk H1 locs1 hB1 hS1)
theorem px_room {nL : Nat} (h : nL ≤ 20) : (px_rm d).frames + 1 ≤ (px_rm (d + 1)).frames ∧ 8 + (nL + 11) + (px_rm d).locals ≤ (px_rm (d + 1)).locals := by
  constructor
  · exact Nat.le_refl _
  · show 8 + (nL + 11) + 40 * d ≤ 40 * (d + 1)
    omega
theorem px_mr_parts {y : MethodName} {b : ByteArray} {nLc : Nat} {rtc : Option FieldType} {s0 : Bool} {np ci : Nat} {id : Nat} (h : px_nth px_mt id = some (y, b, nLc, rtc, s0, np, ci)) :
    Jvm.Cond.code y b nLc rtc ∈ px_TB ∧ Jvm.Cond.initialized y.cls ∈ px_TB ∧ (y.cls ≠ "java/lang/invoke/MethodHandle" ∧ y.cls ≠ "java/lang/invoke/VarHandle" ∧ (parseMethodDescriptor y.desc).map (fun d => d.parameters.length) = some np) ∧ plainName y.cls = true ∧ nLc ≤ 20 ∧ (s0 = true → Jvm.Cond.static y ∈ px_TB) ∧ (s0 = false → Jvm.Cond.instanceMethod y ∈ px_TB ∧ Jvm.Cond.selects y.cls y y ∈ px_TB ∧ ∃ r, px_cl[ci]? = some r ∧ r.1 = y.cls) := by
  obtain ⟨z, hz⟩ := px_mt_at h
  have hc := px_code_in h
  unfold px_mrB at hz
  simp only [Bool.and_eq_true] at hz
  obtain ⟨h1, h2, h3, h4, h5⟩ := hz
  refine ⟨hc, px_TB_of (px_at_mem h1) rfl, of_decide_eq_true h2, h3, Nat.le_of_ble_eq_true h4, fun hs => ?_, fun hs => ?_⟩
  · subst hs
    exact px_TB_of (px_at_mem h5) rfl
  · subst hs
    simp only [Bool.and_eq_true] at h5
    refine ⟨px_TB_of (px_at_mem h5.1) rfl, px_TB_of (px_at_mem h5.2.1) rfl, ?_⟩
    have h6 := h5.2.2
    split at h6
    · rename_i r hr
      exact ⟨r, hr, of_decide_eq_true h6⟩
    · cases h6
theorem px_good_ws {y : MethodName} {b : ByteArray} {nLc : Nat} {rtc : Option FieldType} (hc : Jvm.Cond.code y b nLc rtc ∈ px_TB) : GoodIn px_TB (Jvm.Cond.code y b nLc rtc :: px_TB) := px_good fun w hw => by
  rcases List.mem_cons.mp hw with rfl | hw
  · exact hc
  · exact hw
theorem px_recv {h : pH} {a ci : Nat} {r : vw_C} (hK : va_K D px_cl (px_tys D3) s) (hP : va_P D px_cl (px_ws D3 ad h) H) (ht : px_tag a = ci + 10) (hr : px_cl[ci]? = some r) : ∃ cell : Cell, H[ad a]? = some cell ∧ cell.vm.isStatics = false ∧ s.vm.findClass r.1 = some cell.cls :=
  va_recv hK hP hr (px_ws_obj (px_in_N (by omega)) ht)
theorem px_invV {id idx : Nat} {y : MethodName} {b : ByteArray} {nLc : Nat} {rtc : Option FieldType} {np ci : Nat} {h : pH} {q : Int32 × pH} {pc a0 : Nat} {as r : List pV} {Q : State → Prop}
    (hid : px_nth px_mt id = some (y, b, nLc, rtc, false, np, ci)) (hl : Jvm.Cond.methodLink M.1.1 idx y ∈ px_TB ∨ Jvm.Cond.methodLinkNest M.1.1 idx y "WordsUnsaid" ∈ px_TN) (hC : px_Con d id (.inr (.inl a0) :: as) h q)
    (hF : px_Fix M p s m args meth c D D3 ad) (hP : va_P D px_cl (px_ws D3 ad h) H) (hS : va_S (px_A ad s.heap.size) s.heap H locs) (hsz : lsA.size = M.2.2.1)
    (hd : decode M.2.1 pc = .ok (.invokevirtual idx, 3)) (hn : as.length = np) (ht : px_tag a0 = ci + 10) (hlow : px_low r = true)
    (kk : ∀ (H1 : Heap) (locs1 : List Loc), va_P D px_cl (px_ws D3 ad q.2) H1 → va_S (px_A ad s.heap.size) s.heap H1 locs1 → W p l e0 (px_rm (d + 1)) s m args below meth c H1 locs1 0 0 Q (F0 m (pc + 3) lsA (px_push rtc q.1 (r.map (pv ad))))) : W p l e0 (px_rm (d + 1)) s m args below meth c H locs 0 0 Q (F0 m pc lsA ((as.reverse ++ .inr (.inl a0) :: r).map (pv ad))) := by
  obtain ⟨hx, hb, hml, hr, hown, hts, hlocks, hK, hN, hi⟩ := hF
  obtain ⟨hc, hini, hy, hpl, h20, -, hv⟩ := px_mr_parts hid
  obtain ⟨hins, hsel, r2, hr2, hcl⟩ := hv rfl
  unfold px_Con at hC
  rw [hid] at hC
  have hM := hC l D D3 ad H.size hi
  have hrecv := px_recv hK hP ht hr2
  rw [hcl] at hrecv
  have hp : PreV s H y.cls (ad a0) (px_Pre D D3 ad H.size h (.inr (.inl a0) :: as)) (as.map (pv ad)) := ⟨px_blind, hrecv, fun U hU hW => px_pre_at hP hK hN hU hW⟩
  have hst : (F0 m pc lsA ((as.reverse ++ .inr (.inl a0) :: r).map (pv ad))).stack = (as.map (pv ad)).reverse ++ .ref (ad a0) :: r.map (pv ad) := by
    show (as.reverse ++ .inr (.inl a0) :: r).map (pv ad) = _
    rw [List.map_append, List.map_reverse]
    rfl
  refine px_ret (d := d) hK hS (aa := (Value.ref (ad a0) :: as.map (pv ad)).toArray) ?_ kk
  rcases hl with hl | hl
  · exact va_runV ⟨hx, hb, hml, hown, hts⟩ hM ⟨callB_of np hts (px_good_ws hc) rfl rfl rfl (hts _ hini) (hts _ hl) hy (px_room h20), hts _ hins, hts _ hsel⟩ hp rfl (by rw [List.length_map]; exact hn) hsz hst (lv_room (px_low_some hlow)) hd ⟨Nat.le_refl _, Nat.le_refl _⟩
  · exact va_runVN ⟨hx, hb, hml, hown, hts⟩ hM ⟨va_cnB np hts (px_good_ws hc) rfl rfl rfl (hN _ hl) (hts _ hini) hy (px_room h20), hts _ hins, hts _ hsel⟩ hp rfl (by rw [List.length_map]; exact hn) hsz hst (lv_room (px_low_some hlow)) hd ⟨Nat.le_refl _, Nat.le_refl _⟩
theorem px_invS {id idx : Nat} {y : MethodName} {b : ByteArray} {nLc : Nat} {rtc : Option FieldType} {np ci : Nat} {h : pH} {q : Int32 × pH} {pc : Nat} {as r : List pV} {Q : State → Prop}
    (hid : px_nth px_mt id = some (y, b, nLc, rtc, true, np, ci)) (hl : Jvm.Cond.methodLink M.1.1 idx y ∈ px_TB ∨ Jvm.Cond.methodLinkNest M.1.1 idx y "WordsUnsaid" ∈ px_TN) (hC : px_Con d id as h q)
    (hF : px_Fix M p s m args meth c D D3 ad) (hP : va_P D px_cl (px_ws D3 ad h) H) (hS : va_S (px_A ad s.heap.size) s.heap H locs) (hsz : lsA.size = M.2.2.1)
    (hd : decode M.2.1 pc = .ok (.invokestatic idx, 3)) (hn : as.length = np) (hlow : px_low r = true)
    (kk : ∀ (H1 : Heap) (locs1 : List Loc), va_P D px_cl (px_ws D3 ad q.2) H1 → va_S (px_A ad s.heap.size) s.heap H1 locs1 → W p l e0 (px_rm (d + 1)) s m args below meth c H1 locs1 0 0 Q (F0 m (pc + 3) lsA (px_push rtc q.1 (r.map (pv ad))))) : W p l e0 (px_rm (d + 1)) s m args below meth c H locs 0 0 Q (F0 m pc lsA ((as.reverse ++ r).map (pv ad))) := by
  obtain ⟨hx, hb, hml, hr, hown, hts, hlocks, hK, hN, hi⟩ := hF
  obtain ⟨hc, hini, hy, hpl, h20, hs, -⟩ := px_mr_parts hid
  unfold px_Con at hC
  rw [hid] at hC
  have hM := hC l D D3 ad H.size hi
  have hp : PreS s H (px_Pre D D3 ad H.size h as) (as.map (pv ad)) := ⟨px_blind, fun U hU hW => px_pre_at hP hK hN hU hW⟩
  have hst : (F0 m pc lsA ((as.reverse ++ r).map (pv ad))).stack = (as.map (pv ad)).reverse ++ r.map (pv ad) := by
    show (as.reverse ++ r).map (pv ad) = _
    rw [List.map_append, List.map_reverse]
  refine px_ret (d := d) hK hS (aa := (as.map (pv ad)).toArray) ?_ kk
  rcases hl with hl | hl
  · exact va_runS ⟨hx, hb, hml, hown, hts⟩ hM ⟨callB_of np hts (px_good_ws hc) rfl rfl rfl (hts _ hini) (hts _ hl) hy (px_room h20), hts _ (hs rfl)⟩ hp rfl (by rw [List.length_map]; exact hn) hsz hst (lv_room (px_low_some hlow)) hd ⟨Nat.le_refl _, Nat.le_refl _⟩
  · exact va_runSN ⟨hx, hb, hml, hown, hts⟩ hM ⟨va_cnB np hts (px_good_ws hc) rfl rfl rfl (hN _ hl) (hts _ hini) hy (px_room h20), hts _ (hs rfl), trivial⟩ hp rfl (by rw [List.length_map]; exact hn) hsz hst (lv_room (px_low_some hlow)) hd ⟨Nat.le_refl _, Nat.le_refl _⟩
end PXC
end
section
/-! Calls as instructions; every instruction; blocks; contracts -/
theorem px_call_some {C : pC} {id : Nat} {sta : Bool} {pc : Nat} {ls : pL} {st : List pV} {h : pH} {k : pK} {q : Int32 × pH} (e : px_call C id sta pc ls st h k = some q) :
    ∃ y b nLc rtc np ci as r x h1, px_nth px_mt id = some (y, b, nLc, rtc, sta, np, ci) ∧ as.length = np ∧ px_low r = true ∧ k (pc + 3) ls (match rtc with
      | none => r
      | some _ => .inl x :: r) h1 = some q ∧ ((sta = true ∧ st = as.reverse ++ r ∧ C id as h = some (x, h1)) ∨ (sta = false ∧ ∃ a0, px_tag a0 = ci + 10 ∧ st = as.reverse ++ .inr (.inl a0) :: r ∧ C id (.inr (.inl a0) :: as) h = some (x, h1))) := by
  unfold px_call at e
  split at e
  · cases e
  · rename_i y b nLc rtc s0 np ci hid
    split at e
    · split at e
      · cases e
      · rename_i as r hp
        have e9 := px_if_some e
        clear e
        obtain ⟨hl, e⟩ := e9
        have e9 := px_bind_some e
        clear e
        obtain ⟨x, h1, hC, e⟩ := e9
        obtain ⟨g1, g2⟩ := px_popn_some hp
        exact ⟨y, b, nLc, rtc, np, ci, as, r, x, h1, hid, g2, hl, e, Or.inl ⟨rfl, g1, hC⟩⟩
    · split at e
      · cases e
      · rename_i as b0 r hp
        have e9 := px_if_some e
        clear e
        obtain ⟨hl, e⟩ := e9
        rw [Bool.and_eq_true] at hl
        have e9 := px_bind_some e
        clear e
        obtain ⟨x, h1, hC, e⟩ := e9
        obtain ⟨g1, g2⟩ := px_popn_some hp
        exact ⟨y, b, nLc, rtc, np, ci, as, r, x, h1, hid, g2, hl.2, e, Or.inr ⟨rfl, b0, Nat.eq_of_beq_eq_true hl.1, g1, hC⟩⟩
      · cases e
    · cases e
theorem px_push_map {rtc : Option FieldType} {x : Int32} {r : List pV} {ad : Nat → Nat} : (match rtc with
      | none => r
      | some _ => .inl x :: r : List pV).map (pv ad) = px_push rtc x (r.map (pv ad)) := by
  cases rtc <;> rfl
theorem px_s_invokevirtual {d : Nat} {M : pM} {C : pC} {n pc : Nat} {ls : pL} {st : List pV} {h : pH} {q : Int32 × pH} {k : pK} {j : Nat} (hOr : px_Or d C) (hM : px_ctxB M.1 = true) (hd : decode M.2.1 pc = .ok (.invokevirtual j, n)) (e : px_step M.1 M.2.2.2 C (.invokevirtual j) n pc ls st h k = some q) (kk : ∀ pc' ls' st' h', k pc' ls' st' h' = some q → px_G (d + 1) M pc' ls' st' h' q) : px_G (d + 1) M pc ls st h q := by
  have e9 := px_if_some e
  clear e
  obtain ⟨hn, e⟩ := e9
  have hn := Nat.eq_of_beq_eq_true hn
  subst hn
  split at e
  · cases e
  · rename_i qq hj
    obtain ⟨y, b, nLc, rtc, np, ci, as, r, x, h1, hid, hlen, hlow, ek, hor⟩ := px_call_some e
    rcases hor with ⟨hs, -, -⟩ | ⟨-, a0, ht, rfl, hC⟩
    · cases hs
    · have hb : Nat.ble 1000 qq.1 = false := by
        cases hq : Nat.ble 1000 qq.1 with
        | false => rfl
        | true =>
          have h9 := Nat.le_of_ble_eq_true hq
          rw [px_nth_eq, List.getElem?_eq_none (Nat.le_trans (by decide +kernel) h9)] at hid
          cases hid
      obtain ⟨r9, hr9, hl⟩ := px_ctx_m hM hj hb
      rw [hid] at hr9
      cases hr9
      intro p l e0 s m args below meth c D D3 ad H locs lsA hF hP hS hh
      exact px_invV (id := qq.1) (q := (x, h1)) hid hl (hOr _ _ _ _ hC) hF hP hS hh.1 hd hlen ht hlow (fun H1 locs1 hP1 hS1 => by
        have h8 := kk _ _ _ _ ek p l e0 s m args below meth c D D3 ad H1 locs1 lsA hF hP1 hS1 hh
        rw [px_push_map] at h8
        exact h8)
theorem px_math {s : State} {args : Array Value} (hts : ∀ w ∈ px_TB, w.before args s = true) {w : Jvm.Cond} (hw : decide (w ∈ lw_tbl) = true) (hg : goodWord w = true) : w.before args s = true := hts _ (px_TB_of (of_decide_eq_true hw) hg)
set_option maxRecDepth 20000 in
theorem px_mathw : (decide (Jvm.Cond.initialized "java/lang/Math" ∈ lw_tbl) && (decide (Jvm.Cond.static Lib.Math.max.name ∈ lw_tbl) && (decide (Jvm.Cond.static Lib.Math.min.name ∈ lw_tbl) && (decide (Jvm.Cond.static Lib.Math.abs.name ∈ lw_tbl) && (decide (Jvm.Cond.static Lib.MathLoose.max_long.x ∈ lw_tbl) && decide (Jvm.Cond.static Lib.MathLoose.min_long.x ∈ lw_tbl)))))) = true := by decide +kernel
end
section
/-! invokestatic; every instruction; blocks; contracts -/
theorem px_mathw2 : (px_at 677 (.code Lib.Math.max.name Lib.Math.max.code 2 (some .int)) && (px_at 662 (.code Lib.Math.min.name Lib.Math.min.code 2 (some .int)) && (px_at 1881 (.code Lib.Math.abs.name Lib.Math.abs.code 1 (some .int)) && (px_at 2057 (.code Lib.MathLoose.max_long.x Lib.MathLoose.max_long.code 4 (some .long)) && px_at 2054 (.code Lib.MathLoose.min_long.x Lib.MathLoose.min_long.code 4 (some .long)))))) = true := by decide +kernel
theorem px_mf : (Jvm.Cond.initialized "java/lang/Math" ∈ px_TB ∧ Jvm.Cond.static Lib.Math.max.name ∈ px_TB ∧ Jvm.Cond.static Lib.Math.min.name ∈ px_TB ∧ Jvm.Cond.static Lib.Math.abs.name ∈ px_TB ∧ Jvm.Cond.static Lib.MathLoose.max_long.x ∈ px_TB ∧ Jvm.Cond.static Lib.MathLoose.min_long.x ∈ px_TB) ∧
    Jvm.Cond.code Lib.Math.max.name Lib.Math.max.code 2 (some .int) ∈ px_TB ∧ Jvm.Cond.code Lib.Math.min.name Lib.Math.min.code 2 (some .int) ∈ px_TB ∧ Jvm.Cond.code Lib.Math.abs.name Lib.Math.abs.code 1 (some .int) ∈ px_TB ∧ Jvm.Cond.code Lib.MathLoose.max_long.x Lib.MathLoose.max_long.code 4 (some .long) ∈ px_TB ∧ Jvm.Cond.code Lib.MathLoose.min_long.x Lib.MathLoose.min_long.code 4 (some .long) ∈ px_TB := by
  have h1 := px_mathw
  have h2 := px_mathw2
  simp only [Bool.and_eq_true, decide_eq_true_eq] at h1
  simp only [Bool.and_eq_true] at h2
  exact ⟨⟨px_TB_of h1.1 rfl, px_TB_of h1.2.1 rfl, px_TB_of h1.2.2.1 rfl, px_TB_of h1.2.2.2.1 rfl, px_TB_of h1.2.2.2.2.1 rfl, px_TB_of h1.2.2.2.2.2 rfl⟩, px_TB_of (px_at_mem h2.1) rfl, px_TB_of (px_at_mem h2.2.1) rfl, px_TB_of (px_at_mem h2.2.2.1) rfl, px_TB_of (px_at_mem h2.2.2.2.1) rfl, px_TB_of (px_at_mem h2.2.2.2.2) rfl⟩
theorem px_rl {d : Nat} {ad : Nat → Nat} {r : List pV} {n : Nat} (h : px_low r = true) (hn : n ≤ 32) : ((r.map (pv ad)).map fun v => v.category).sum + n ≤ (px_rm (d + 1)).locals := by
  have h1 := px_low_some (ad := ad) h
  show _ ≤ 40 * (d + 1)
  omega
theorem px_s_invokestatic {d : Nat} {M : pM} {C : pC} {n pc : Nat} {ls : pL} {st : List pV} {h : pH} {q : Int32 × pH} {k : pK} {j : Nat} (hOr : px_Or d C) (hM : px_ctxB M.1 = true) (hd : decode M.2.1 pc = .ok (.invokestatic j, n)) (e : px_step M.1 M.2.2.2 C (.invokestatic j) n pc ls st h k = some q) (kk : ∀ pc' ls' st' h', k pc' ls' st' h' = some q → px_G (d + 1) M pc' ls' st' h' q) : px_G (d + 1) M pc ls st h q := by
  have hf := px_mf
  have e9 := px_if_some e
  clear e
  obtain ⟨hn, e⟩ := e9
  have hn := Nat.eq_of_beq_eq_true hn
  subst hn
  split at e
  · cases e
  · rename_i qq hj
    split at e
    · rename_i hb
      obtain ⟨y, b, nLc, rtc, np, ci, as, r, x, h1, hid, hlen, hlow, ek, hor⟩ := px_call_some e
      rcases hor with ⟨-, rfl, hC⟩ | ⟨hs, -⟩
      · obtain ⟨r9, hr9, hl⟩ := px_ctx_m hM hj hb
        rw [hid] at hr9
        cases hr9
        intro p l e0 s m args below meth c D D3 ad H locs lsA hF hP hS hh
        exact px_invS (id := qq.1) (q := (x, h1)) hid hl (hOr _ _ _ _ hC) hF hP hS hh.1 hd hlen hlow (fun H1 locs1 hP1 hS1 => by
          have h8 := kk _ _ _ _ ek p l e0 s m args below meth c D D3 ad H1 locs1 lsA hF hP1 hS1 hh
          rw [px_push_map] at h8
          exact h8)
      · cases hs
    · rename_i hb
      split at e
      · rename_i hq1
        have e9 := px_i2_some e
        clear e
        obtain ⟨x, y, r, rfl, e⟩ := e9
        have e9 := px_if_some e
        clear e
        obtain ⟨hlow, e⟩ := e9
        have hlk := px_ctx_i hM hj hb
        rw [hq1] at hlk
        intro p l e0 s m args below meth c D D3 ad H locs lsA hF hP hS hh
        obtain ⟨hx, hbb, hml, hr, hown, hts, hlocks, hK, hN, hi⟩ := id hF
        exact va_mmax hx hbb (hml.trans hh.1.symm) hown (hts _ hlk) (hts _ hf.1.2.1) (hts _ hf.1.1) (hts _ hf.2.1) (Nat.le_add_left 1 d) (px_rl hlow (by decide)) (Nat.le_refl _) (Nat.le_refl _) hd (kk _ _ _ _ e p l e0 s m args below meth c D D3 ad H locs lsA hF hP hS hh)
      · rename_i hq1
        have e9 := px_i2_some e
        clear e
        obtain ⟨x, y, r, rfl, e⟩ := e9
        have e9 := px_if_some e
        clear e
        obtain ⟨hlow, e⟩ := e9
        have hlk := px_ctx_i hM hj hb
        rw [hq1] at hlk
        intro p l e0 s m args below meth c D D3 ad H locs lsA hF hP hS hh
        obtain ⟨hx, hbb, hml, hr, hown, hts, hlocks, hK, hN, hi⟩ := id hF
        exact va_mmin hx hbb (hml.trans hh.1.symm) hown (hts _ hlk) (hts _ hf.1.2.2.1) (hts _ hf.1.1) (hts _ hf.2.2.1) (Nat.le_add_left 1 d) (px_rl hlow (by decide)) (Nat.le_refl _) (Nat.le_refl _) hd (kk _ _ _ _ e p l e0 s m args below meth c D D3 ad H locs lsA hF hP hS hh)
      · rename_i hq1
        have e9 := px_i1_some e
        clear e
        obtain ⟨x, r, rfl, e⟩ := e9
        have e9 := px_if_some e
        clear e
        obtain ⟨hlow, e⟩ := e9
        have hlk := px_ctx_i hM hj hb
        rw [hq1] at hlk
        intro p l e0 s m args below meth c D D3 ad H locs lsA hF hP hS hh
        obtain ⟨hx, hbb, hml, hr, hown, hts, hlocks, hK, hN, hi⟩ := id hF
        exact va_mabs hx hbb (hml.trans hh.1.symm) hown (hts _ hlk) (hts _ hf.1.2.2.2.1) (hts _ hf.1.1) (hts _ hf.2.2.2.1) (Nat.le_add_left 1 d) (px_rl hlow (by decide)) (Nat.le_refl _) (Nat.le_refl _) hd (kk _ _ _ _ e p l e0 s m args below meth c D D3 ad H locs lsA hF hP hS hh)
      · rename_i hq1
        have e9 := px_l2_some e
        clear e
        obtain ⟨x, y, r, rfl, e⟩ := e9
        have e9 := px_if_some e
        clear e
        obtain ⟨hlow, e⟩ := e9
        have hlk := px_ctx_i hM hj hb
        rw [hq1] at hlk
        intro p l e0 s m args below meth c D D3 ad H locs lsA hF hP hS hh
        obtain ⟨hx, hbb, hml, hr, hown, hts, hlocks, hK, hN, hi⟩ := id hF
        exact va_mmax_long hx hbb (hml.trans hh.1.symm) hown (hts _ hlk) (hts _ hf.1.2.2.2.2.1) (hts _ hf.1.1) (hts _ hf.2.2.2.2.1) (Nat.le_add_left 1 d) (px_rl hlow (by decide)) (Nat.le_refl _) (Nat.le_refl _) hd (kk _ _ _ _ e p l e0 s m args below meth c D D3 ad H locs lsA hF hP hS hh)
      · rename_i hq1
        have e9 := px_l2_some e
        clear e
        obtain ⟨x, y, r, rfl, e⟩ := e9
        have e9 := px_if_some e
        clear e
        obtain ⟨hlow, e⟩ := e9
        have hlk := px_ctx_i hM hj hb
        rw [hq1] at hlk
        intro p l e0 s m args below meth c D D3 ad H locs lsA hF hP hS hh
        obtain ⟨hx, hbb, hml, hr, hown, hts, hlocks, hK, hN, hi⟩ := id hF
        exact va_mmin_long hx hbb (hml.trans hh.1.symm) hown (hts _ hlk) (hts _ hf.1.2.2.2.2.2) (hts _ hf.1.1) (hts _ hf.2.2.2.2.2) (Nat.le_add_left 1 d) (px_rl hlow (by decide)) (Nat.le_refl _) (Nat.le_refl _) hd (kk _ _ _ _ e p l e0 s m args below meth c D D3 ad H locs lsA hF hP hS hh)
      · cases e
theorem px_step_ok {d : Nat} {M : pM} {C : pC} {i : Instr} {n pc : Nat} {ls : pL} {st : List pV} {h : pH} {q : Int32 × pH} {k : pK} (hOr : px_Or d C) (hM : px_ctxB M.1 = true) (hd : decode M.2.1 pc = .ok (i, n)) (e : px_step M.1 M.2.2.2 C i n pc ls st h k = some q) (kk : ∀ pc' ls' st' h', k pc' ls' st' h' = some q → px_G (d + 1) M pc' ls' st' h' q) : px_G (d + 1) M pc ls st h q := by
  cases i with
  | iconst v => exact px_s_iconst hd e kk
  | bipush v => exact px_s_bipush hd e kk
  | sipush v => exact px_s_sipush hd e kk
  | lconst v => exact px_s_lconst hd e kk
  | iload j => exact px_s_iload hd e kk
  | iload_n j => exact px_s_iload_n hd e kk
  | aload j => exact px_s_aload hd e kk
  | aload_n j => exact px_s_aload_n hd e kk
  | lload j => exact px_s_lload hd e kk
  | istore j => exact px_s_istore hd e kk
  | istore_n j => exact px_s_istore_n hd e kk
  | lstore j => exact px_s_lstore hd e kk
  | iinc j v => exact px_s_iinc hd e kk
  | iadd => exact px_s_iadd hd e kk
  | isub => exact px_s_isub hd e kk
  | imul => exact px_s_imul hd e kk
  | iand => exact px_s_iand hd e kk
  | ior => exact px_s_ior hd e kk
  | ixor => exact px_s_ixor hd e kk
  | idiv => exact px_s_idiv hd e kk
  | irem => exact px_s_irem hd e kk
  | ishl => exact px_s_ishl hd e kk
  | ishr => exact px_s_ishr hd e kk
  | iushr => exact px_s_iushr hd e kk
  | ineg => exact px_s_ineg hd e kk
  | i2b => exact px_s_i2b hd e kk
  | i2s => exact px_s_i2s hd e kk
  | i2c => exact px_s_i2c hd e kk
  | i2l => exact px_s_i2l hd e kk
  | l2i => exact px_s_l2i hd e kk
  | ladd => exact px_s_ladd hd e kk
  | lsub => exact px_s_lsub hd e kk
  | lcmp => exact px_s_lcmp hd e kk
  | dup => exact px_s_dup hd e kk
  | pop => exact px_s_pop hd e kk
  | dup2 => exact px_s_dup2 hd e kk
  | dup_x1 => exact px_s_dup_x1 hd e kk
  | ifCond o off => exact px_s_ifCond hd e kk
  | if_icmp o off => exact px_s_if_icmp hd e kk
  | goto off => exact px_s_goto hd e kk
  | ldc j => exact px_s_ldc hM hd e kk
  | ldc_w j => exact px_s_ldc_w hM hd e kk
  | ldc2_w j => exact px_s_ldc2_w hM hd e kk
  | tableswitch d0 lo hi0 offs => exact px_s_tableswitch hM hd e kk
  | lookupswitch d0 ps => exact px_s_lookupswitch hM hd e kk
  | getfield j => exact px_s_getfield hM hd e kk
  | putfield j => exact px_s_putfield hM hd e kk
  | arraylength => exact px_s_arraylength hM hd e kk
  | iaload => exact px_s_iaload hM hd e kk
  | baload => exact px_s_baload hM hd e kk
  | caload => exact px_s_caload hM hd e kk
  | iastore => exact px_s_iastore hM hd e kk
  | bastore => exact px_s_bastore hM hd e kk
  | castore => exact px_s_castore hM hd e kk
  | ireturn => exact px_s_ireturn hM hd e kk
  | return_ => exact px_s_return_ hM hd e kk
  | invokestatic j => exact px_s_invokestatic hOr hM hd e kk
  | invokevirtual j => exact px_s_invokevirtual hOr hM hd e kk
  | _ => cases e
/-- the listing is what the bytes say -/
def px_code (b : ByteArray) (code : pCode) : Bool := code.all fun q => decide (decode b q.1 = .ok (q.2.1, q.2.2))
/-- where a block leads -/
def px_KK (l : List (Nat × (pL → List pV → pH → pR))) : pK := fun pc ls st h => match px_find l pc with
  | some f => f ls st h
  | none => none
def px_Kok (d : Nat) (M : pM) (r : Nat × (pL → List pV → pH → pR)) : Prop := ∀ ls st h q, r.2 ls st h = some q → px_G d M r.1 ls st h q
theorem px_blk_ok {d : Nat} {M : pM} {C : pC} {code : pCode} {ld : List Nat} {kl : List (Nat × (pL → List pV → pH → pR))} (hOr : px_Or d C) (hM : px_ctxB M.1 = true) (hc : px_code M.2.1 code = true) (hk : ∀ r ∈ kl, px_Kok (d + 1) M r) :
    ∀ (n pc : Nat) (ls : pL) (st : List pV) (h : pH) (q : Int32 × pH), px_blk M.1 M.2.2.2 C code ld (px_KK kl) n pc ls st h = some q → px_G (d + 1) M pc ls st h q := by
  intro n
  induction n with
  | zero =>
    intro pc ls st h q e
    cases e
  | succ n ih =>
    intro pc ls st h q e
    unfold px_blk at e
    split at e
    · cases e
    · rename_i r hr
      have hd := of_decide_eq_true (List.all_eq_true.mp hc _ (px_find_mem hr))
      refine px_step_ok hOr hM hd e (fun pc' ls' st' h' e' => ?_)
      split at e'
      · unfold px_KK at e'
        split at e'
        · rename_i f hf
          exact hk _ (px_find_mem hf) ls' st' h' q e'
        · cases e'
      · exact ih pc' ls' st' h' q e'
/-! the shape of what lives at a block's head -/
def px_gi (ls : pL) (i : Nat) : Int32 := match px_nth ls i with
  | some (some (.inl x)) => x
  | _ => 0
def px_gr (ls : pL) (i : Nat) : Nat := match px_nth ls i with
  | some (some (.inr (.inl a))) => a
  | _ => 0
def px_gl (ls : pL) (i : Nat) : Int64 := match px_nth ls i with
  | some (some (.inr (.inr x))) => x
  | _ => 0
def px_si (st : List pV) (i : Nat) : Int32 := match px_nth st i with
  | some (.inl x) => x
  | _ => 0
def px_sr (st : List pV) (i : Nat) : Nat := match px_nth st i with
  | some (.inr (.inl x)) => x
  | _ => 0
def px_sl (st : List pV) (i : Nat) : Int64 := match px_nth st i with
  | some (.inr (.inr x)) => x
  | _ => 0
/-- 0 anything, 1 an int, 2 a reference, 3 a long, 10 and more: that cell -/
def px_fv1 (t : Nat) (v : Option pV) : Bool := match t with
  | 0 => true
  | 1 => match v with
    | some (.inl _) => true
    | _ => false
  | 2 => match v with
    | some (.inr (.inl _)) => true
    | _ => false
  | 3 => match v with
    | some (.inr (.inr _)) => true
    | _ => false
  | t + 4 => match v with
    | some (.inr (.inl a)) => Nat.beq a (t + 4 - 10)
    | _ => false
def px_fit : List Nat → pL → Bool
  | [], [] => true
  | t :: ts, v :: ls => px_fv1 t v && px_fit ts ls
  | _, _ => false
def px_fits : List Nat → List pV → Bool
  | [], [] => true
  | t :: ts, v :: st => (!Nat.beq t 0 && px_fv1 t (some v)) && px_fits ts st
  | _, _ => false
def px_cv1 (t : Nat) (v : Option pV) : Option pV := match t with
  | 0 => none
  | _ => v
def px_can : List Nat → pL → pL
  | t :: ts, v :: ls => px_cv1 t v :: px_can ts ls
  | _, _ => []
theorem px_can_le {ts : List Nat} {ls : pL} (h : px_fit ts ls = true) : px_le (px_can ts ls) ls := by
  induction ts generalizing ls with
  | nil =>
    cases ls with
    | nil => exact ⟨rfl, fun _ _ h => h⟩
    | cons a l => cases h
  | cons t ts ih =>
    cases ls with
    | nil => cases h
    | cons v l =>
      unfold px_fit at h
      rw [Bool.and_eq_true] at h
      obtain ⟨h1, h2⟩ := ih h.2
      refine ⟨by simp [px_can, h1], fun i w hi => ?_⟩
      cases i with
      | zero =>
        have hi : px_cv1 t v = some w := Option.some.inj hi
        unfold px_cv1 at hi
        split at hi
        · cases hi
        · show some v = some (some w)
          rw [hi]
      | succ i => exact h2 i w hi
theorem px_Kok_of {d : Nat} {M : pM} {T : Nat} {ts ss : List Nat} {g : pL → List pV → pH → pR} (hg : ∀ ls st h q, px_fit ts ls = true → px_fits ss st = true → g ls st h = some q → px_G d M T (px_can ts ls) st h q) : px_Kok d M (T, fun ls st h => px_if (px_fit ts ls && px_fits ss st) (g ls st h)) := by
  intro ls st h q e
  obtain ⟨h1, e⟩ := px_if_some e
  rw [Bool.and_eq_true] at h1
  exact px_G_le (px_can_le h1.1) (hg ls st h q h1.1 h1.2 e)
theorem px_lgsl {ad : Nat → Nat} {as : List pV} (hlong : as.all (fun v => Nat.beq (px_cat v) 1) = true) : lg_sl (as.map (pv ad)) = as.map fun v => Slot.val (pv ad v) := by
  induction as with
  | nil => rfl
  | cons v l ih =>
    rw [List.all_cons, Bool.and_eq_true] at hlong
    have hc := px_cat_ok (ad := ad) hlong.1
    rw [List.map_cons, List.map_cons, ← ih hlong.2]
    match v, hc with
    | .inl x, _ => rfl
    | .inr (.inl x), _ => rfl
    | .inr (.inr x), hc => cases hc
/-- the contract out of the entry block -/
theorem px_con {d id : Nat} {y : MethodName} {X : pX} {b : ByteArray} {nL : Nat} {rt : Option FieldType} {s0 : Bool} {np ci : Nat} {as : List pV} {h : pH} {q : Int32 × pH} (hid : px_nth px_mt id = some (y, b, nL, rt, s0, np, ci)) (hX : X.1 = y.cls) (hL : as.length ≤ nL) (hlong : as.all (fun v => Nat.beq (px_cat v) 1) = true)
    (hG : px_G d (X, b, nL, rt) 0 (as.map some ++ List.replicate (nL - as.length) none) [] h q) : px_Con d id as h q := by
  unfold px_Con
  rw [hid]
  intro l D D3 ad sz hi
  obtain ⟨hcin, hini, hy, hpl, h20, -, -⟩ := px_mr_parts hid
  refine Met.ofW (cc := b) (maxL := nL) (ret := rt) hpl rfl ?_
  intro p e s m args below meth c s₁ B hml hv
  obtain ⟨rfl, hsz, hP, hK, hN⟩ := hv
  have hts := atoms_spec (ws := Jvm.Cond.code y b nL rt :: px_TB) B.pre
  have hsl := px_lgsl (ad := ad) hlong
  have hll : (lg_sl (as.map (pv ad))).length ≤ nL := by rw [hsl, List.length_map]; exact hL
  have hl := lv_entry (as.map (pv ad)) (n := nL) hll
  rw [lg_entry_eq]
  have hown : s.vm.findClass X.1 = some m.cls := by rw [hX]; exact findClass_of_methodNamed B.named
  subst hsz
  refine hG p l e s m _ below meth c D D3 ad s.heap [] _ ⟨B.exec, B.bytes, hml, B.returns, hown, fun w hw => hts w (List.mem_cons_of_mem _ hw), B.notSynchronized, hK, hN, hi⟩ hP va_S.rf ⟨hl.1, hl.2.1, by simp; omega, fun i v hv => ?_⟩
  rw [px_nth_eq] at hv
  rw [hsl, List.getElem?_toArray]
  by_cases hi2 : i < as.length
  · rw [List.getElem?_append_left (by simpa using hi2), List.getElem?_map] at hv
    rw [List.getElem?_append_left (by simpa using hi2), List.getElem?_map]
    cases hq : as[i]? with
    | none => rw [hq] at hv; cases hv
    | some w =>
      rw [hq] at hv
      cases hv
      rfl
  · rw [List.getElem?_append_right (by simpa using hi2)] at hv
    have := List.mem_of_getElem? hv
    rw [List.mem_replicate] at this
    cases this.2
/-! the callees that a method knows -/
def px_orc (l : List (Nat × (List pV → pH → pR))) : pC := fun id a h => match px_find l id with
  | some f => f a h
  | none => none
def px_Ook (d : Nat) (r : Nat × (List pV → pH → pR)) : Prop := ∀ a h q, r.2 a h = some q → px_Con d r.1 a h q
theorem px_orc_ok {d : Nat} {l : List (Nat × (List pV → pH → pR))} (h : ∀ r ∈ l, px_Ook d r) : px_Or d (px_orc l) := by
  intro id a h1 q e
  unfold px_orc at e
  split at e
  · rename_i f hf
    exact h _ (px_find_mem hf) a h1 q e
  · cases e
end
section
/-! The shape of what lives at a block's head, written out -/
def px_r1 (t : Nat) (ls : pL) (i : Nat) : Option pV := match t with
  | 0 => none
  | 1 => some (.inl (px_gi ls i))
  | 2 => some (.inr (.inl (px_gr ls i)))
  | 3 => some (.inr (.inr (px_gl ls i)))
  | t + 4 => some (.inr (.inl (t + 4 - 10)))
def px_rc : List Nat → Nat → pL → pL
  | [], _, _ => []
  | t :: ts, i, ls => px_r1 t ls i :: px_rc ts (i + 1) ls
def px_q1 (t : Nat) (st : List pV) (i : Nat) : pV := match t with
  | 0 => .inl 0
  | 1 => .inl (px_si st i)
  | 2 => .inr (.inl (px_sr st i))
  | 3 => .inr (.inr (px_sl st i))
  | t + 4 => .inr (.inl (t + 4 - 10))
def px_rs : List Nat → Nat → List pV → List pV
  | [], _, _ => []
  | t :: ts, i, st => px_q1 t st i :: px_rs ts (i + 1) st
theorem px_r1_eq {t : Nat} {v : Option pV} {ls : pL} {i : Nat} (hn : px_nth ls i = some v) (h : px_fv1 t v = true) : px_cv1 t v = px_r1 t ls i := by
  match t, h with
  | 0, _ => rfl
  | 1, h =>
    match v, hn, h with
    | some (.inl x), hn, _ =>
      show (some (.inl x) : Option pV) = some (.inl (px_gi ls i))
      unfold px_gi
      rw [hn]
  | 2, h =>
    match v, hn, h with
    | some (.inr (.inl x)), hn, _ =>
      show (some (.inr (.inl x)) : Option pV) = some (.inr (.inl (px_gr ls i)))
      unfold px_gr
      rw [hn]
  | 3, h =>
    match v, hn, h with
    | some (.inr (.inr x)), hn, _ =>
      show (some (.inr (.inr x)) : Option pV) = some (.inr (.inr (px_gl ls i)))
      unfold px_gl
      rw [hn]
  | t + 4, h =>
    match v, hn, h with
    | some (.inr (.inl x)), hn, h =>
      show (some (.inr (.inl x)) : Option pV) = some (.inr (.inl (t + 4 - 10)))
      rw [Nat.eq_of_beq_eq_true h]
theorem px_rc_eq {ts : List Nat} {ls0 ls : pL} {i : Nat} (hd : ∀ j, px_nth ls j = px_nth ls0 (i + j)) (h : px_fit ts ls = true) : px_can ts ls = px_rc ts i ls0 := by
  induction ts generalizing ls i with
  | nil =>
    cases ls with
    | nil => rfl
    | cons a l => cases h
  | cons t ts ih =>
    cases ls with
    | nil => cases h
    | cons v l =>
      unfold px_fit at h
      rw [Bool.and_eq_true] at h
      show px_cv1 t v :: px_can ts l = px_r1 t ls0 i :: px_rc ts (i + 1) ls0
      rw [px_r1_eq (ls := ls0) (i := i) (hd 0).symm h.1, ih (fun j => ?_) h.2]
      have := hd (j + 1)
      rw [show i + 1 + j = i + (j + 1) by omega, ← this]
      rfl
theorem px_q1_eq {t : Nat} {v : pV} {st : List pV} {i : Nat} (h0 : Nat.beq t 0 = false) (hn : px_nth st i = some v) (h : px_fv1 t (some v) = true) : v = px_q1 t st i := by
  match t, h0, h with
  | 0, h0, _ => cases h0
  | 1, _, h =>
    match v, hn, h with
    | .inl x, hn, _ =>
      show (.inl x : pV) = .inl (px_si st i)
      unfold px_si
      rw [hn]
  | 2, _, h =>
    match v, hn, h with
    | .inr (.inl x), hn, _ =>
      show (.inr (.inl x) : pV) = .inr (.inl (px_sr st i))
      unfold px_sr
      rw [hn]
  | 3, _, h =>
    match v, hn, h with
    | .inr (.inr x), hn, _ =>
      show (.inr (.inr x) : pV) = .inr (.inr (px_sl st i))
      unfold px_sl
      rw [hn]
  | t + 4, _, h =>
    match v, hn, h with
    | .inr (.inl x), hn, h =>
      show (.inr (.inl x) : pV) = .inr (.inl (t + 4 - 10))
      rw [Nat.eq_of_beq_eq_true h]
theorem px_rs_eq {ts : List Nat} {st0 st : List pV} {i : Nat} (hd : ∀ j, px_nth st j = px_nth st0 (i + j)) (h : px_fits ts st = true) : st = px_rs ts i st0 := by
  induction ts generalizing st i with
  | nil =>
    cases st with
    | nil => rfl
    | cons a l => cases h
  | cons t ts ih =>
    cases st with
    | nil => cases h
    | cons v l =>
      unfold px_fits at h
      rw [Bool.and_eq_true, Bool.and_eq_true] at h
      show v :: l = px_q1 t st0 i :: px_rs ts (i + 1) st0
      have h0 : Nat.beq t 0 = false := by
        cases hq : Nat.beq t 0 with
        | false => rfl
        | true => rw [hq] at h; exact absurd h.1.1 (by decide)
      rw [← px_q1_eq (st := st0) (i := i) h0 (hd 0).symm h.1.2, ← ih (i := i + 1) (fun j => ?_) h.2]
      have := hd (j + 1)
      rw [show i + 1 + j = i + (j + 1) by omega, ← this]
      rfl
theorem px_ko {d : Nat} {M : pM} {T : Nat} {ts ss : List Nat} {g : pL → List pV → pH → pR} (hg : ∀ ls st h q, g ls st h = some q → px_G d M T (px_rc ts 0 ls) (px_rs ss 0 st) h q) : px_Kok d M (T, fun ls st h => px_if (px_fit ts ls && px_fits ss st) (g ls st h)) :=
  px_Kok_of fun ls st h q h1 h2 e => by
    rw [px_rc_eq (ls0 := ls) (i := 0) (fun j => by rw [Nat.zero_add]) h1]
    have h3 := hg ls st h q e
    rw [← px_rs_eq (st0 := st) (i := 0) (fun j => by rw [Nat.zero_add]) h2] at h3
    exact h3
theorem px_k0 {d : Nat} {M : pM} : ∀ r ∈ ([] : List (Nat × (pL → List pV → pH → pR))), px_Kok d M r := fun _ h => absurd h List.not_mem_nil
theorem px_k1 {d : Nat} {M : pM} {r : Nat × (pL → List pV → pH → pR)} {l : List (Nat × (pL → List pV → pH → pR))} (h : px_Kok d M r) (hl : ∀ r ∈ l, px_Kok d M r) : ∀ z ∈ r :: l, px_Kok d M z := List.forall_mem_cons.mpr ⟨h, hl⟩
theorem px_o0 {d : Nat} : ∀ r ∈ ([] : List (Nat × (List pV → pH → pR))), px_Ook d r := fun _ h => absurd h List.not_mem_nil
theorem px_o1 {d : Nat} {r : Nat × (List pV → pH → pR)} {l : List (Nat × (List pV → pH → pR))} (h : px_Ook d r) (hl : ∀ r ∈ l, px_Ook d r) : ∀ z ∈ r :: l, px_Ook d z := List.forall_mem_cons.mpr ⟨h, hl⟩
/-- how often a loop may go round: a number that the kernel doesn't count down -/
theorem px_F_ex : ∃ n : Nat, n = 2097152 := ⟨_, rfl⟩
noncomputable def px_F : Nat := Classical.choose px_F_ex
theorem px_F_eq : px_F = 2097152 := Classical.choose_spec px_F_ex
end
section
/-! The classes' links are what the tables say -/
set_option maxRecDepth 20000 in
theorem pX_ok_RJ6 : px_ctxB pX_RJ6 = true := by decide +kernel
set_option maxRecDepth 20000 in
theorem pX_ok_RL : px_ctxB pX_RL = true := by decide +kernel
set_option maxRecDepth 20000 in
theorem pX_ok_RX0 : px_ctxB pX_RX0 = true := by decide +kernel
set_option maxRecDepth 20000 in
theorem pX_ok_RX1 : px_ctxB pX_RX1 = true := by decide +kernel
set_option maxRecDepth 20000 in
theorem pX_ok_RX10 : px_ctxB pX_RX10 = true := by decide +kernel
set_option maxRecDepth 20000 in
theorem pX_ok_RX11 : px_ctxB pX_RX11 = true := by decide +kernel
set_option maxRecDepth 20000 in
theorem pX_ok_RX2 : px_ctxB pX_RX2 = true := by decide +kernel
set_option maxRecDepth 20000 in
theorem pX_ok_RX3 : px_ctxB pX_RX3 = true := by decide +kernel
set_option maxRecDepth 20000 in
theorem pX_ok_RX4 : px_ctxB pX_RX4 = true := by decide +kernel
set_option maxRecDepth 20000 in
theorem pX_ok_RX5 : px_ctxB pX_RX5 = true := by decide +kernel
set_option maxRecDepth 20000 in
theorem pX_ok_RX6 : px_ctxB pX_RX6 = true := by decide +kernel
set_option maxRecDepth 20000 in
theorem pX_ok_RX7 : px_ctxB pX_RX7 = true := by decide +kernel
set_option maxRecDepth 20000 in
theorem pX_ok_RX8 : px_ctxB pX_RX8 = true := by decide +kernel
set_option maxRecDepth 20000 in
theorem pX_ok_RX9 : px_ctxB pX_RX9 = true := by decide +kernel
end
section
/-! small ones, Text -/
/-! WordsUnsaid.at([II)I -/
noncomputable def wu_at_17 (s0 : Int32) (h : pH) : pR :=
  some (s0, h)
noncomputable def wu_at_16 (h : pH) : pR :=
  wu_at_17 (px_c 0) h
noncomputable def wu_at (a0 : Nat) (x1 : Int32) (h : pH) : pR :=
  if x1 < 0 then
    wu_at_16 h
  else
    px_if (Nat.blt (px_tag a0) 4) <|
    if (nI (px_len a0)) ≤ x1 then
      wu_at_16 h
    else
      px_if (px_ok 0 a0 x1) <|
      wu_at_17 (h a0 x1.toNatClampNeg) h
def wu_at_code : pCode := [(0, .iload_n 1, 1), (1, .ifCond .lt (15), 3), (4, .iload_n 1, 1), (5, .aload_n 0, 1), (6, .arraylength, 1), (7, .if_icmp .ge (9), 3), (10, .aload_n 0, 1), (11, .iload_n 1, 1), (12, .iaload, 1), (13, .goto (4), 3), (16, .iconst 0, 1), (17, .ireturn, 1)]
set_option maxRecDepth 20000 in
theorem wu_at_code_ok : px_code prog_1_method_40_code wu_at_code = true := by decide +kernel
noncomputable def wu_at_orc : pC := px_orc []
theorem wu_at_orc_ok {d : Nat} : px_Or (d + 0) (wu_at_orc) := px_orc_ok (by
  exact px_o0)
set_option maxRecDepth 20000 in
theorem wu_at_17_ok {d : Nat} : ∀ (s0 : Int32) (h : pH) (q : Int32 × pH), wu_at_17 s0 h = some q → px_G (d + 0 + 1) (pX_RX10, prog_1_method_40_code, 2, (some .int)) 17 [none, none] [.inl s0] h q := by
  intro s0 h q e
  exact px_blk_ok (d := d + 0) (M := (pX_RX10, prog_1_method_40_code, 2, (some .int))) (C := wu_at_orc) (code := wu_at_code) (ld := []) (kl := []) (wu_at_orc_ok) pX_ok_RX10 wu_at_code_ok (px_k0) 17 17 _ _ h q e
set_option maxRecDepth 20000 in
theorem wu_at_16_ok {d : Nat} : ∀ (h : pH) (q : Int32 × pH), wu_at_16 h = some q → px_G (d + 0 + 1) (pX_RX10, prog_1_method_40_code, 2, (some .int)) 16 [none, none] [] h q := by
  intro h q e
  exact px_blk_ok (d := d + 0) (M := (pX_RX10, prog_1_method_40_code, 2, (some .int))) (C := wu_at_orc) (code := wu_at_code) (ld := [17]) (kl := [(17, fun ls st h => px_if (px_fit [0, 0] ls && px_fits [1] st) (wu_at_17 (px_si st 0) h))]) (wu_at_orc_ok) pX_ok_RX10 wu_at_code_ok (px_k1 (px_ko (ts := [0, 0]) (ss := [1]) fun ls st h q e => wu_at_17_ok _ _ _ e) px_k0) 17 16 _ _ h q e
set_option maxRecDepth 20000 in
theorem wu_at_ok {d : Nat} {a0 : Nat} {x1 : Int32} {h : pH} {q : Int32 × pH} (e : wu_at a0 x1 h = some q) : px_Con (d + 1) 158 [.inr (.inl a0), .inl x1] h q :=
  px_con (X := pX_RX10) (b := prog_1_method_40_code) (nL := 2) (rt := (some .int)) rfl rfl (Nat.le_of_ble_eq_true rfl) rfl (px_blk_ok (d := d + 0) (M := (pX_RX10, prog_1_method_40_code, 2, (some .int))) (C := wu_at_orc) (code := wu_at_code) (ld := [16, 17]) (kl := [(16, fun ls st h => px_if (px_fit [0, 0] ls && px_fits [] st) (wu_at_16 h)), (17, fun ls st h => px_if (px_fit [0, 0] ls && px_fits [1] st) (wu_at_17 (px_si st 0) h))]) (wu_at_orc_ok) pX_ok_RX10 wu_at_code_ok (px_k1 (px_ko (ts := [0, 0]) (ss := []) fun ls st h q e => wu_at_16_ok _ _ e) (px_k1 (px_ko (ts := [0, 0]) (ss := [1]) fun ls st h q e => wu_at_17_ok _ _ _ e) px_k0)) 17 0 _ _ _ q e)
/-! WordsUnsaid.put([III)V -/
noncomputable def wu_put_14 (h : pH) : pR :=
  some (0, h)
noncomputable def wu_put (a0 : Nat) (x1 : Int32) (x2 : Int32) (h : pH) : pR :=
  if x1 < 0 then
    wu_put_14 h
  else
    px_if (Nat.blt (px_tag a0) 4) <|
    if (nI (px_len a0)) ≤ x1 then
      wu_put_14 h
    else
      px_if (px_ok 0 a0 x1) <|
      let h1 := px_w h a0 x1.toNatClampNeg x2
      wu_put_14 h1
def wu_put_code : pCode := [(0, .iload_n 1, 1), (1, .ifCond .lt (13), 3), (4, .iload_n 1, 1), (5, .aload_n 0, 1), (6, .arraylength, 1), (7, .if_icmp .ge (7), 3), (10, .aload_n 0, 1), (11, .iload_n 1, 1), (12, .iload_n 2, 1), (13, .iastore, 1), (14, .return_, 1)]
set_option maxRecDepth 20000 in
theorem wu_put_code_ok : px_code prog_1_method_41_code wu_put_code = true := by decide +kernel
noncomputable def wu_put_orc : pC := px_orc []
theorem wu_put_orc_ok {d : Nat} : px_Or (d + 0) (wu_put_orc) := px_orc_ok (by
  exact px_o0)
set_option maxRecDepth 20000 in
theorem wu_put_14_ok {d : Nat} : ∀ (h : pH) (q : Int32 × pH), wu_put_14 h = some q → px_G (d + 0 + 1) (pX_RX10, prog_1_method_41_code, 3, none) 14 [none, none, none] [] h q := by
  intro h q e
  exact px_blk_ok (d := d + 0) (M := (pX_RX10, prog_1_method_41_code, 3, none)) (C := wu_put_orc) (code := wu_put_code) (ld := []) (kl := []) (wu_put_orc_ok) pX_ok_RX10 wu_put_code_ok (px_k0) 16 14 _ _ h q e
set_option maxRecDepth 20000 in
theorem wu_put_ok {d : Nat} {a0 : Nat} {x1 : Int32} {x2 : Int32} {h : pH} {q : Int32 × pH} (e : wu_put a0 x1 x2 h = some q) : px_Con (d + 1) 159 [.inr (.inl a0), .inl x1, .inl x2] h q :=
  px_con (X := pX_RX10) (b := prog_1_method_41_code) (nL := 3) (rt := none) rfl rfl (Nat.le_of_ble_eq_true rfl) rfl (px_blk_ok (d := d + 0) (M := (pX_RX10, prog_1_method_41_code, 3, none)) (C := wu_put_orc) (code := wu_put_code) (ld := [14]) (kl := [(14, fun ls st h => px_if (px_fit [0, 0, 0] ls && px_fits [] st) (wu_put_14 h))]) (wu_put_orc_ok) pX_ok_RX10 wu_put_code_ok (px_k1 (px_ko (ts := [0, 0, 0]) (ss := []) fun ls st h q e => wu_put_14_ok _ _ e) px_k0) 16 0 _ _ _ q e)
/-! WordsUnsaid.has(II)Z -/
noncomputable def wu_has_24 (s0 : Int32) (h : pH) : pR :=
  px_bz s0 h
noncomputable def wu_has_23 (h : pH) : pR :=
  wu_has_24 (px_c 0) h
noncomputable def wu_has (x0 : Int32) (x1 : Int32) (h : pH) : pR :=
  if x1 < 0 then
    wu_has_23 h
  else
    if (px_c 32) ≤ x1 then
      wu_has_23 h
    else
      if ((px_ush x0 x1) &&& (px_c 1)) = (px_c 1) then
        wu_has_24 (px_c 1) h
      else
        wu_has_23 h
def wu_has_code : pCode := [(0, .iload_n 1, 1), (1, .ifCond .lt (22), 3), (4, .iload_n 1, 1), (5, .bipush (32), 2), (7, .if_icmp .ge (16), 3), (10, .iload_n 0, 1), (11, .iload_n 1, 1), (12, .iushr, 1), (13, .iconst 1, 1), (14, .iand, 1), (15, .iconst 1, 1), (16, .if_icmp .ne (7), 3), (19, .iconst 1, 1), (20, .goto (4), 3), (23, .iconst 0, 1), (24, .ireturn, 1)]
set_option maxRecDepth 20000 in
theorem wu_has_code_ok : px_code prog_1_method_42_code wu_has_code = true := by decide +kernel
noncomputable def wu_has_orc : pC := px_orc []
theorem wu_has_orc_ok {d : Nat} : px_Or (d + 0) (wu_has_orc) := px_orc_ok (by
  exact px_o0)
set_option maxRecDepth 20000 in
theorem wu_has_24_ok {d : Nat} : ∀ (s0 : Int32) (h : pH) (q : Int32 × pH), wu_has_24 s0 h = some q → px_G (d + 0 + 1) (pX_RX10, prog_1_method_42_code, 2, (some .boolean)) 24 [none, none] [.inl s0] h q := by
  intro s0 h q e
  exact px_blk_ok (d := d + 0) (M := (pX_RX10, prog_1_method_42_code, 2, (some .boolean))) (C := wu_has_orc) (code := wu_has_code) (ld := []) (kl := []) (wu_has_orc_ok) pX_ok_RX10 wu_has_code_ok (px_k0) 21 24 _ _ h q e
set_option maxRecDepth 20000 in
theorem wu_has_23_ok {d : Nat} : ∀ (h : pH) (q : Int32 × pH), wu_has_23 h = some q → px_G (d + 0 + 1) (pX_RX10, prog_1_method_42_code, 2, (some .boolean)) 23 [none, none] [] h q := by
  intro h q e
  exact px_blk_ok (d := d + 0) (M := (pX_RX10, prog_1_method_42_code, 2, (some .boolean))) (C := wu_has_orc) (code := wu_has_code) (ld := [24]) (kl := [(24, fun ls st h => px_if (px_fit [0, 0] ls && px_fits [1] st) (wu_has_24 (px_si st 0) h))]) (wu_has_orc_ok) pX_ok_RX10 wu_has_code_ok (px_k1 (px_ko (ts := [0, 0]) (ss := [1]) fun ls st h q e => wu_has_24_ok _ _ _ e) px_k0) 21 23 _ _ h q e
set_option maxRecDepth 20000 in
theorem wu_has_ok {d : Nat} {x0 : Int32} {x1 : Int32} {h : pH} {q : Int32 × pH} (e : wu_has x0 x1 h = some q) : px_Con (d + 1) 160 [.inl x0, .inl x1] h q :=
  px_con (X := pX_RX10) (b := prog_1_method_42_code) (nL := 2) (rt := (some .boolean)) rfl rfl (Nat.le_of_ble_eq_true rfl) rfl (px_blk_ok (d := d + 0) (M := (pX_RX10, prog_1_method_42_code, 2, (some .boolean))) (C := wu_has_orc) (code := wu_has_code) (ld := [23, 24]) (kl := [(23, fun ls st h => px_if (px_fit [0, 0] ls && px_fits [] st) (wu_has_23 h)), (24, fun ls st h => px_if (px_fit [0, 0] ls && px_fits [1] st) (wu_has_24 (px_si st 0) h))]) (wu_has_orc_ok) pX_ok_RX10 wu_has_code_ok (px_k1 (px_ko (ts := [0, 0]) (ss := []) fun ls st h q e => wu_has_23_ok _ _ e) (px_k1 (px_ko (ts := [0, 0]) (ss := [1]) fun ls st h q e => wu_has_24_ok _ _ _ e) px_k0)) 21 0 _ _ _ q e)
/-! WordsUnsaid.firstOf(I)I -/
noncomputable def wu_firstOf_2 : Nat → Int32 → Int32 → pH → pR
  | 0, _, _, _ => none
  | n + 1, x0, x1, h =>
    if (px_c 32) ≤ x1 then
      some (px_c (-1), h)
    else
      px_bind (wu_has x0 x1 h) fun z1 h2 =>
      if z1 = 0 then
        wu_firstOf_2 n x0 (x1 + px_c 1) h2
      else
        some (x1, h2)
noncomputable def wu_firstOf (x0 : Int32) (h : pH) : pR :=
  wu_firstOf_2 px_F x0 (px_c 0) h
def wu_firstOf_code : pCode := [(0, .iconst 0, 1), (1, .istore_n 1, 1), (2, .iload_n 1, 1), (3, .bipush (32), 2), (5, .if_icmp .ge (19), 3), (8, .iload_n 0, 1), (9, .iload_n 1, 1), (10, .invokestatic 346, 3), (13, .ifCond .eq (5), 3), (16, .iload_n 1, 1), (17, .ireturn, 1), (18, .iinc 1 (1), 3), (21, .goto (-19), 3), (24, .iconst (-1), 1), (25, .ireturn, 1)]
set_option maxRecDepth 20000 in
theorem wu_firstOf_code_ok : px_code prog_1_method_43_code wu_firstOf_code = true := by decide +kernel
noncomputable def wu_firstOf_orc : pC := px_orc [(160, fun a h => match a with
    | [.inl v0, .inl v1] => wu_has v0 v1 h
    | _ => none)]
theorem wu_firstOf_orc_ok {d : Nat} : px_Or (d + 1) (wu_firstOf_orc) := px_orc_ok (by
  refine px_o1 (fun a h q e => by
    dsimp only at e
    split at e
    · exact wu_has_ok (d := d + 0) e
    · cases e) ?_
  exact px_o0)
set_option maxRecDepth 20000 in
theorem wu_firstOf_2_ok {d : Nat} : ∀ (n : Nat) (x0 : Int32) (x1 : Int32) (h : pH) (q : Int32 × pH), wu_firstOf_2 n x0 x1 h = some q → px_G (d + 1 + 1) (pX_RX10, prog_1_method_43_code, 2, (some .int)) 2 [some (.inl x0), some (.inl x1)] [] h q := by
  intro n
  induction n with
  | zero =>
    intro x0 x1 h q e
    cases e
  | succ n ih =>
    intro x0 x1 h q e
    exact px_blk_ok (d := d + 1) (M := (pX_RX10, prog_1_method_43_code, 2, (some .int))) (C := wu_firstOf_orc) (code := wu_firstOf_code) (ld := [2]) (kl := [(2, fun ls st h => px_if (px_fit [1, 1] ls && px_fits [] st) (wu_firstOf_2 n (px_gi ls 0) (px_gi ls 1) h))]) (wu_firstOf_orc_ok) pX_ok_RX10 wu_firstOf_code_ok (px_k1 (px_ko (ts := [1, 1]) (ss := []) fun ls st h q e => ih _ _ _ _ e) px_k0) 20 2 _ _ h q e
set_option maxRecDepth 20000 in
theorem wu_firstOf_ok {d : Nat} {x0 : Int32} {h : pH} {q : Int32 × pH} (e : wu_firstOf x0 h = some q) : px_Con (d + 2) 161 [.inl x0] h q :=
  px_con (X := pX_RX10) (b := prog_1_method_43_code) (nL := 2) (rt := (some .int)) rfl rfl (Nat.le_of_ble_eq_true rfl) rfl (px_blk_ok (d := d + 1) (M := (pX_RX10, prog_1_method_43_code, 2, (some .int))) (C := wu_firstOf_orc) (code := wu_firstOf_code) (ld := [2]) (kl := [(2, fun ls st h => px_if (px_fit [1, 1] ls && px_fits [] st) (wu_firstOf_2 px_F (px_gi ls 0) (px_gi ls 1) h))]) (wu_firstOf_orc_ok) pX_ok_RX10 wu_firstOf_code_ok (px_k1 (px_ko (ts := [1, 1]) (ss := []) fun ls st h q e => wu_firstOf_2_ok _ _ _ _ _ e) px_k0) 20 0 _ _ _ q e)
/-! WordsUnsaid.pressOf(II)I -/
noncomputable def wu_pressOf_20 (s0 : Int32) (h : pH) : pR :=
  some (px_max (px_c 0) (px_min (px_c 9) s0), h)
noncomputable def wu_pressOf (x0 : Int32) (x1 : Int32) (h : pH) : pR :=
  if x0 = 0 then
    wu_pressOf_20 (px_i2b x1) h
  else
    if x0 = (px_c 1) then
      wu_pressOf_20 (px_i2s x1) h
    else
      wu_pressOf_20 x1 h
def wu_pressOf_code : pCode := [(0, .iload_n 0, 1), (1, .ifCond .ne (8), 3), (4, .iload_n 1, 1), (5, .i2b, 1), (6, .goto (14), 3), (9, .iload_n 0, 1), (10, .iconst 1, 1), (11, .if_icmp .ne (8), 3), (14, .iload_n 1, 1), (15, .i2s, 1), (16, .goto (4), 3), (19, .iload_n 1, 1), (20, .istore_n 2, 1), (21, .iconst 0, 1), (22, .bipush (9), 2), (24, .iload_n 2, 1), (25, .invokestatic 275, 3), (28, .invokestatic 441, 3), (31, .ireturn, 1)]
set_option maxRecDepth 20000 in
theorem wu_pressOf_code_ok : px_code prog_1_method_44_code wu_pressOf_code = true := by decide +kernel
noncomputable def wu_pressOf_orc : pC := px_orc []
theorem wu_pressOf_orc_ok {d : Nat} : px_Or (d + 0) (wu_pressOf_orc) := px_orc_ok (by
  exact px_o0)
set_option maxRecDepth 20000 in
theorem wu_pressOf_20_ok {d : Nat} : ∀ (s0 : Int32) (h : pH) (q : Int32 × pH), wu_pressOf_20 s0 h = some q → px_G (d + 0 + 1) (pX_RX10, prog_1_method_44_code, 3, (some .int)) 20 [none, none, none] [.inl s0] h q := by
  intro s0 h q e
  exact px_blk_ok (d := d + 0) (M := (pX_RX10, prog_1_method_44_code, 3, (some .int))) (C := wu_pressOf_orc) (code := wu_pressOf_code) (ld := []) (kl := []) (wu_pressOf_orc_ok) pX_ok_RX10 wu_pressOf_code_ok (px_k0) 24 20 _ _ h q e
set_option maxRecDepth 20000 in
theorem wu_pressOf_ok {d : Nat} {x0 : Int32} {x1 : Int32} {h : pH} {q : Int32 × pH} (e : wu_pressOf x0 x1 h = some q) : px_Con (d + 1) 162 [.inl x0, .inl x1] h q :=
  px_con (X := pX_RX10) (b := prog_1_method_44_code) (nL := 3) (rt := (some .int)) rfl rfl (Nat.le_of_ble_eq_true rfl) rfl (px_blk_ok (d := d + 0) (M := (pX_RX10, prog_1_method_44_code, 3, (some .int))) (C := wu_pressOf_orc) (code := wu_pressOf_code) (ld := [20]) (kl := [(20, fun ls st h => px_if (px_fit [0, 0, 0] ls && px_fits [1] st) (wu_pressOf_20 (px_si st 0) h))]) (wu_pressOf_orc_ok) pX_ok_RX10 wu_pressOf_code_ok (px_k1 (px_ko (ts := [0, 0, 0]) (ss := [1]) fun ls st h q e => wu_pressOf_20_ok _ _ _ e) px_k0) 24 0 _ _ _ q e)
/-! java/lang/Integer.bitCount(I)I -/
noncomputable def jn_bitCount (x0 : Int32) (h : pH) : pR :=
  let y0_1 := x0 - ((px_ush x0 (px_c 1)) &&& 1431655765)
  let y0_2 := (y0_1 &&& 858993459) + ((px_ush y0_1 (px_c 2)) &&& 858993459)
  let y0_3 := (y0_2 + (px_ush y0_2 (px_c 4))) &&& 252645135
  let y0_4 := y0_3 + (px_ush y0_3 (px_c 8))
  let y0_5 := y0_4 + (px_ush y0_4 (px_c 16))
  some (y0_5 &&& (px_c 63), h)
def jn_bitCount_code : pCode := [(0, .iload_n 0, 1), (1, .iload_n 0, 1), (2, .iconst 1, 1), (3, .iushr, 1), (4, .ldc_w 265, 3), (7, .iand, 1), (8, .isub, 1), (9, .istore_n 0, 1), (10, .iload_n 0, 1), (11, .ldc_w 266, 3), (14, .iand, 1), (15, .iload_n 0, 1), (16, .iconst 2, 1), (17, .iushr, 1), (18, .ldc_w 266, 3), (21, .iand, 1), (22, .iadd, 1), (23, .istore_n 0, 1), (24, .iload_n 0, 1), (25, .iload_n 0, 1), (26, .iconst 4, 1), (27, .iushr, 1), (28, .iadd, 1), (29, .ldc_w 267, 3), (32, .iand, 1), (33, .istore_n 0, 1), (34, .iload_n 0, 1), (35, .iload_n 0, 1), (36, .bipush (8), 2), (38, .iushr, 1), (39, .iadd, 1), (40, .istore_n 0, 1), (41, .iload_n 0, 1), (42, .iload_n 0, 1), (43, .bipush (16), 2), (45, .iushr, 1), (46, .iadd, 1), (47, .istore_n 0, 1), (48, .iload_n 0, 1), (49, .bipush (63), 2), (51, .iand, 1), (52, .ireturn, 1)]
set_option maxRecDepth 20000 in
theorem jn_bitCount_code_ok : px_code prog_16_method_49_code jn_bitCount_code = true := by decide +kernel
noncomputable def jn_bitCount_orc : pC := px_orc []
theorem jn_bitCount_orc_ok {d : Nat} : px_Or (d + 0) (jn_bitCount_orc) := px_orc_ok (by
  exact px_o0)
set_option maxRecDepth 20000 in
theorem jn_bitCount_ok {d : Nat} {x0 : Int32} {h : pH} {q : Int32 × pH} (e : jn_bitCount x0 h = some q) : px_Con (d + 1) 279 [.inl x0] h q :=
  px_con (X := pX_RJ6) (b := prog_16_method_49_code) (nL := 1) (rt := (some .int)) rfl rfl (Nat.le_of_ble_eq_true rfl) rfl (px_blk_ok (d := d + 0) (M := (pX_RJ6, prog_16_method_49_code, 1, (some .int))) (C := jn_bitCount_orc) (code := jn_bitCount_code) (ld := []) (kl := []) (jn_bitCount_orc_ok) pX_ok_RJ6 jn_bitCount_code_ok (px_k0) 47 0 _ _ _ q e)
/-! java/lang/Integer.numberOfTrailingZeros(I)I -/
noncomputable def jn_numberOfTrailingZeros_74 (x0 : Int32) (x1 : Int32) (h : pH) : pR :=
  some (x1 + (px_ush x0 (px_c 1)), h)
noncomputable def jn_numberOfTrailingZeros_62 (x0 : Int32) (x1 : Int32) (h : pH) : pR :=
  if x0 ≤ (px_c 4) then
    jn_numberOfTrailingZeros_74 x0 x1 h
  else
    let y0_1 := px_ush x0 (px_c 2)
    jn_numberOfTrailingZeros_74 y0_1 (x1 + px_c 2) h
noncomputable def jn_numberOfTrailingZeros_49 (x0 : Int32) (x1 : Int32) (h : pH) : pR :=
  if x0 ≤ (px_c 16) then
    jn_numberOfTrailingZeros_62 x0 x1 h
  else
    let y0_1 := px_ush x0 (px_c 4)
    jn_numberOfTrailingZeros_62 y0_1 (x1 + px_c 4) h
noncomputable def jn_numberOfTrailingZeros_34 (x0 : Int32) (x1 : Int32) (h : pH) : pR :=
  if x0 ≤ (px_c 256) then
    jn_numberOfTrailingZeros_49 x0 x1 h
  else
    let y0_1 := px_ush x0 (px_c 8)
    jn_numberOfTrailingZeros_49 y0_1 (x1 + px_c 8) h
noncomputable def jn_numberOfTrailingZeros (x0 : Int32) (h : pH) : pR :=
  let y0_1 := (x0 ^^^ (px_c (-1))) &&& (x0 - (px_c 1))
  if 0 < y0_1 then
    if y0_1 ≤ 65536 then
      jn_numberOfTrailingZeros_34 y0_1 (px_c 1) h
    else
      let y0_2 := px_ush y0_1 (px_c 16)
      jn_numberOfTrailingZeros_34 y0_2 ((px_c 1) + px_c 16) h
  else
    some (y0_1 &&& (px_c 32), h)
def jn_numberOfTrailingZeros_code : pCode := [(0, .iload_n 0, 1), (1, .iconst (-1), 1), (2, .ixor, 1), (3, .iload_n 0, 1), (4, .iconst 1, 1), (5, .isub, 1), (6, .iand, 1), (7, .istore_n 0, 1), (8, .iload_n 0, 1), (9, .ifCond .gt (8), 3), (12, .iload_n 0, 1), (13, .bipush (32), 2), (15, .iand, 1), (16, .ireturn, 1), (17, .iconst 1, 1), (18, .istore_n 1, 1), (19, .iload_n 0, 1), (20, .ldc_w 264, 3), (23, .if_icmp .le (11), 3), (26, .iinc 1 (16), 3), (29, .iload_n 0, 1), (30, .bipush (16), 2), (32, .iushr, 1), (33, .istore_n 0, 1), (34, .iload_n 0, 1), (35, .sipush (256), 3), (38, .if_icmp .le (11), 3), (41, .iinc 1 (8), 3), (44, .iload_n 0, 1), (45, .bipush (8), 2), (47, .iushr, 1), (48, .istore_n 0, 1), (49, .iload_n 0, 1), (50, .bipush (16), 2), (52, .if_icmp .le (10), 3), (55, .iinc 1 (4), 3), (58, .iload_n 0, 1), (59, .iconst 4, 1), (60, .iushr, 1), (61, .istore_n 0, 1), (62, .iload_n 0, 1), (63, .iconst 4, 1), (64, .if_icmp .le (10), 3), (67, .iinc 1 (2), 3), (70, .iload_n 0, 1), (71, .iconst 2, 1), (72, .iushr, 1), (73, .istore_n 0, 1), (74, .iload_n 1, 1), (75, .iload_n 0, 1), (76, .iconst 1, 1), (77, .iushr, 1), (78, .iadd, 1), (79, .ireturn, 1)]
set_option maxRecDepth 20000 in
theorem jn_numberOfTrailingZeros_code_ok : px_code prog_16_method_48_code jn_numberOfTrailingZeros_code = true := by decide +kernel
noncomputable def jn_numberOfTrailingZeros_orc : pC := px_orc []
theorem jn_numberOfTrailingZeros_orc_ok {d : Nat} : px_Or (d + 0) (jn_numberOfTrailingZeros_orc) := px_orc_ok (by
  exact px_o0)
set_option maxRecDepth 20000 in
theorem jn_numberOfTrailingZeros_74_ok {d : Nat} : ∀ (x0 : Int32) (x1 : Int32) (h : pH) (q : Int32 × pH), jn_numberOfTrailingZeros_74 x0 x1 h = some q → px_G (d + 0 + 1) (pX_RJ6, prog_16_method_48_code, 2, (some .int)) 74 [some (.inl x0), some (.inl x1)] [] h q := by
  intro x0 x1 h q e
  exact px_blk_ok (d := d + 0) (M := (pX_RJ6, prog_16_method_48_code, 2, (some .int))) (C := jn_numberOfTrailingZeros_orc) (code := jn_numberOfTrailingZeros_code) (ld := []) (kl := []) (jn_numberOfTrailingZeros_orc_ok) pX_ok_RJ6 jn_numberOfTrailingZeros_code_ok (px_k0) 59 74 _ _ h q e
set_option maxRecDepth 20000 in
theorem jn_numberOfTrailingZeros_62_ok {d : Nat} : ∀ (x0 : Int32) (x1 : Int32) (h : pH) (q : Int32 × pH), jn_numberOfTrailingZeros_62 x0 x1 h = some q → px_G (d + 0 + 1) (pX_RJ6, prog_16_method_48_code, 2, (some .int)) 62 [some (.inl x0), some (.inl x1)] [] h q := by
  intro x0 x1 h q e
  exact px_blk_ok (d := d + 0) (M := (pX_RJ6, prog_16_method_48_code, 2, (some .int))) (C := jn_numberOfTrailingZeros_orc) (code := jn_numberOfTrailingZeros_code) (ld := [74]) (kl := [(74, fun ls st h => px_if (px_fit [1, 1] ls && px_fits [] st) (jn_numberOfTrailingZeros_74 (px_gi ls 0) (px_gi ls 1) h))]) (jn_numberOfTrailingZeros_orc_ok) pX_ok_RJ6 jn_numberOfTrailingZeros_code_ok (px_k1 (px_ko (ts := [1, 1]) (ss := []) fun ls st h q e => jn_numberOfTrailingZeros_74_ok _ _ _ _ e) px_k0) 59 62 _ _ h q e
set_option maxRecDepth 20000 in
theorem jn_numberOfTrailingZeros_49_ok {d : Nat} : ∀ (x0 : Int32) (x1 : Int32) (h : pH) (q : Int32 × pH), jn_numberOfTrailingZeros_49 x0 x1 h = some q → px_G (d + 0 + 1) (pX_RJ6, prog_16_method_48_code, 2, (some .int)) 49 [some (.inl x0), some (.inl x1)] [] h q := by
  intro x0 x1 h q e
  exact px_blk_ok (d := d + 0) (M := (pX_RJ6, prog_16_method_48_code, 2, (some .int))) (C := jn_numberOfTrailingZeros_orc) (code := jn_numberOfTrailingZeros_code) (ld := [62]) (kl := [(62, fun ls st h => px_if (px_fit [1, 1] ls && px_fits [] st) (jn_numberOfTrailingZeros_62 (px_gi ls 0) (px_gi ls 1) h))]) (jn_numberOfTrailingZeros_orc_ok) pX_ok_RJ6 jn_numberOfTrailingZeros_code_ok (px_k1 (px_ko (ts := [1, 1]) (ss := []) fun ls st h q e => jn_numberOfTrailingZeros_62_ok _ _ _ _ e) px_k0) 59 49 _ _ h q e
set_option maxRecDepth 20000 in
theorem jn_numberOfTrailingZeros_34_ok {d : Nat} : ∀ (x0 : Int32) (x1 : Int32) (h : pH) (q : Int32 × pH), jn_numberOfTrailingZeros_34 x0 x1 h = some q → px_G (d + 0 + 1) (pX_RJ6, prog_16_method_48_code, 2, (some .int)) 34 [some (.inl x0), some (.inl x1)] [] h q := by
  intro x0 x1 h q e
  exact px_blk_ok (d := d + 0) (M := (pX_RJ6, prog_16_method_48_code, 2, (some .int))) (C := jn_numberOfTrailingZeros_orc) (code := jn_numberOfTrailingZeros_code) (ld := [49]) (kl := [(49, fun ls st h => px_if (px_fit [1, 1] ls && px_fits [] st) (jn_numberOfTrailingZeros_49 (px_gi ls 0) (px_gi ls 1) h))]) (jn_numberOfTrailingZeros_orc_ok) pX_ok_RJ6 jn_numberOfTrailingZeros_code_ok (px_k1 (px_ko (ts := [1, 1]) (ss := []) fun ls st h q e => jn_numberOfTrailingZeros_49_ok _ _ _ _ e) px_k0) 59 34 _ _ h q e
set_option maxRecDepth 20000 in
theorem jn_numberOfTrailingZeros_ok {d : Nat} {x0 : Int32} {h : pH} {q : Int32 × pH} (e : jn_numberOfTrailingZeros x0 h = some q) : px_Con (d + 1) 280 [.inl x0] h q :=
  px_con (X := pX_RJ6) (b := prog_16_method_48_code) (nL := 2) (rt := (some .int)) rfl rfl (Nat.le_of_ble_eq_true rfl) rfl (px_blk_ok (d := d + 0) (M := (pX_RJ6, prog_16_method_48_code, 2, (some .int))) (C := jn_numberOfTrailingZeros_orc) (code := jn_numberOfTrailingZeros_code) (ld := [34]) (kl := [(34, fun ls st h => px_if (px_fit [1, 1] ls && px_fits [] st) (jn_numberOfTrailingZeros_34 (px_gi ls 0) (px_gi ls 1) h))]) (jn_numberOfTrailingZeros_orc_ok) pX_ok_RJ6 jn_numberOfTrailingZeros_code_ok (px_k1 (px_ko (ts := [1, 1]) (ss := []) fun ls st h q e => jn_numberOfTrailingZeros_34_ok _ _ _ _ e) px_k0) 59 0 _ _ _ q e)
/-! WordsUnsaid$Text.add(I)Z -/
noncomputable def tx_add_64 (r14 : Int32 → Int32 → pH → pR) (x1 : Int32) (x2 : Int32) (h : pH) : pR :=
  r14 x1 (x2 + px_c (-8)) h
noncomputable def tx_add_14 : Nat → Int32 → Int32 → pH → pR
  | 0, _, _, _ => none
  | n + 1, x1, x2, h =>
    if x2 < 0 then
      px_bz (px_c 1) h
    else
      if (h 1 1) < 0 then
        tx_add_64 (tx_add_14 n) x1 x2 h
      else
        if (nI (px_len 2)) ≤ (h 1 1) then
          tx_add_64 (tx_add_14 n) x1 x2 h
        else
          px_if (px_ok 2 2 (h 1 1)) <|
          let h1 := px_w h 2 (h 1 1).toNatClampNeg (px_nc (px_i2c ((px_ush x1 x2) &&& (px_c 255))))
          let h2 := px_w h1 1 1 ((h1 1 1) + (px_c 1))
          tx_add_64 (tx_add_14 n) x1 x2 h2
noncomputable def tx_add (x1 : Int32) (h : pH) : pR :=
  if (h 1 1) ≤ (px_c 76) then
    tx_add_14 px_F x1 (px_c 24) h
  else
    px_bz (px_c 0) h
def tx_add_code : pCode := [(0, .aload_n 0, 1), (1, .getfield 15, 3), (4, .bipush (76), 2), (6, .if_icmp .le (5), 3), (9, .iconst 0, 1), (10, .ireturn, 1), (11, .bipush (24), 2), (13, .istore_n 2, 1), (14, .iload_n 2, 1), (15, .ifCond .lt (55), 3), (18, .aload_n 0, 1), (19, .getfield 15, 3), (22, .ifCond .lt (42), 3), (25, .aload_n 0, 1), (26, .getfield 15, 3), (29, .aload_n 0, 1), (30, .getfield 11, 3), (33, .arraylength, 1), (34, .if_icmp .ge (30), 3), (37, .aload_n 0, 1), (38, .getfield 11, 3), (41, .aload_n 0, 1), (42, .getfield 15, 3), (45, .iload_n 1, 1), (46, .iload_n 2, 1), (47, .iushr, 1), (48, .sipush (255), 3), (51, .iand, 1), (52, .i2c, 1), (53, .castore, 1), (54, .aload_n 0, 1), (55, .dup, 1), (56, .getfield 15, 3), (59, .iconst 1, 1), (60, .iadd, 1), (61, .putfield 15, 3), (64, .iinc 2 (-8), 3), (67, .goto (-53), 3), (70, .iconst 1, 1), (71, .ireturn, 1)]
set_option maxRecDepth 20000 in
theorem tx_add_code_ok : px_code prog_10_method_2_code tx_add_code = true := by decide +kernel
noncomputable def tx_add_orc : pC := px_orc []
theorem tx_add_orc_ok {d : Nat} : px_Or (d + 0) (tx_add_orc) := px_orc_ok (by
  exact px_o0)
set_option maxRecDepth 20000 in
theorem tx_add_64_ok {d : Nat} {r14 : Int32 → Int32 → pH → pR} (hr14 : ∀ (x1 : Int32) (x2 : Int32) (h : pH) (q : Int32 × pH), r14 x1 x2 h = some q → px_G (d + 0 + 1) (pX_RX8, prog_10_method_2_code, 3, (some .boolean)) 14 [some (.inr (.inl 1)), some (.inl x1), some (.inl x2)] [] h q) : ∀ (x1 : Int32) (x2 : Int32) (h : pH) (q : Int32 × pH), tx_add_64 r14 x1 x2 h = some q → px_G (d + 0 + 1) (pX_RX8, prog_10_method_2_code, 3, (some .boolean)) 64 [some (.inr (.inl 1)), some (.inl x1), some (.inl x2)] [] h q := by
  intro x1 x2 h q e
  exact px_blk_ok (d := d + 0) (M := (pX_RX8, prog_10_method_2_code, 3, (some .boolean))) (C := tx_add_orc) (code := tx_add_code) (ld := [14]) (kl := [(14, fun ls st h => px_if (px_fit [11, 1, 1] ls && px_fits [] st) (r14 (px_gi ls 1) (px_gi ls 2) h))]) (tx_add_orc_ok) pX_ok_RX8 tx_add_code_ok (px_k1 (px_ko (ts := [11, 1, 1]) (ss := []) fun ls st h q e => hr14 _ _ _ _ e) px_k0) 45 64 _ _ h q e
set_option maxRecDepth 20000 in
theorem tx_add_14_ok {d : Nat} : ∀ (n : Nat) (x1 : Int32) (x2 : Int32) (h : pH) (q : Int32 × pH), tx_add_14 n x1 x2 h = some q → px_G (d + 0 + 1) (pX_RX8, prog_10_method_2_code, 3, (some .boolean)) 14 [some (.inr (.inl 1)), some (.inl x1), some (.inl x2)] [] h q := by
  intro n
  induction n with
  | zero =>
    intro x1 x2 h q e
    cases e
  | succ n ih =>
    intro x1 x2 h q e
    exact px_blk_ok (d := d + 0) (M := (pX_RX8, prog_10_method_2_code, 3, (some .boolean))) (C := tx_add_orc) (code := tx_add_code) (ld := [64]) (kl := [(64, fun ls st h => px_if (px_fit [11, 1, 1] ls && px_fits [] st) (tx_add_64 (tx_add_14 n) (px_gi ls 1) (px_gi ls 2) h))]) (tx_add_orc_ok) pX_ok_RX8 tx_add_code_ok (px_k1 (px_ko (ts := [11, 1, 1]) (ss := []) fun ls st h q e => tx_add_64_ok ih _ _ _ _ e) px_k0) 45 14 _ _ h q e
set_option maxRecDepth 20000 in
theorem tx_add_ok {d : Nat} {x1 : Int32} {h : pH} {q : Int32 × pH} (e : tx_add x1 h = some q) : px_Con (d + 1) 86 [.inr (.inl 1), .inl x1] h q :=
  px_con (X := pX_RX8) (b := prog_10_method_2_code) (nL := 3) (rt := (some .boolean)) rfl rfl (Nat.le_of_ble_eq_true rfl) rfl (px_blk_ok (d := d + 0) (M := (pX_RX8, prog_10_method_2_code, 3, (some .boolean))) (C := tx_add_orc) (code := tx_add_code) (ld := [14]) (kl := [(14, fun ls st h => px_if (px_fit [11, 1, 1] ls && px_fits [] st) (tx_add_14 px_F (px_gi ls 1) (px_gi ls 2) h))]) (tx_add_orc_ok) pX_ok_RX8 tx_add_code_ok (px_k1 (px_ko (ts := [11, 1, 1]) (ss := []) fun ls st h q e => tx_add_14_ok _ _ _ _ _ e) px_k0) 45 0 _ _ _ q e)
/-! WordsUnsaid$Text.cut(I)Z -/
noncomputable def tx_cut_12 (h : pH) : pR :=
  px_bz (px_c 0) h
noncomputable def tx_cut (x1 : Int32) (h : pH) : pR :=
  if x1 < 0 then
    tx_cut_12 h
  else
    if x1 ≤ (h 1 1) then
      let h1 := px_w h 1 1 x1
      px_bz (px_c 1) h1
    else
      tx_cut_12 h
def tx_cut_code : pCode := [(0, .iload_n 1, 1), (1, .ifCond .lt (11), 3), (4, .iload_n 1, 1), (5, .aload_n 0, 1), (6, .getfield 15, 3), (9, .if_icmp .le (5), 3), (12, .iconst 0, 1), (13, .ireturn, 1), (14, .aload_n 0, 1), (15, .iload_n 1, 1), (16, .putfield 15, 3), (19, .iconst 1, 1), (20, .ireturn, 1)]
set_option maxRecDepth 20000 in
theorem tx_cut_code_ok : px_code prog_10_method_3_code tx_cut_code = true := by decide +kernel
noncomputable def tx_cut_orc : pC := px_orc []
theorem tx_cut_orc_ok {d : Nat} : px_Or (d + 0) (tx_cut_orc) := px_orc_ok (by
  exact px_o0)
set_option maxRecDepth 20000 in
theorem tx_cut_12_ok {d : Nat} : ∀ (h : pH) (q : Int32 × pH), tx_cut_12 h = some q → px_G (d + 0 + 1) (pX_RX8, prog_10_method_3_code, 2, (some .boolean)) 12 [none, none] [] h q := by
  intro h q e
  exact px_blk_ok (d := d + 0) (M := (pX_RX8, prog_10_method_3_code, 2, (some .boolean))) (C := tx_cut_orc) (code := tx_cut_code) (ld := []) (kl := []) (tx_cut_orc_ok) pX_ok_RX8 tx_cut_code_ok (px_k0) 18 12 _ _ h q e
set_option maxRecDepth 20000 in
theorem tx_cut_ok {d : Nat} {x1 : Int32} {h : pH} {q : Int32 × pH} (e : tx_cut x1 h = some q) : px_Con (d + 1) 87 [.inr (.inl 1), .inl x1] h q :=
  px_con (X := pX_RX8) (b := prog_10_method_3_code) (nL := 2) (rt := (some .boolean)) rfl rfl (Nat.le_of_ble_eq_true rfl) rfl (px_blk_ok (d := d + 0) (M := (pX_RX8, prog_10_method_3_code, 2, (some .boolean))) (C := tx_cut_orc) (code := tx_cut_code) (ld := [12]) (kl := [(12, fun ls st h => px_if (px_fit [0, 0] ls && px_fits [] st) (tx_cut_12 h))]) (tx_cut_orc_ok) pX_ok_RX8 tx_cut_code_ok (px_k1 (px_ko (ts := [0, 0]) (ss := []) fun ls st h q e => tx_cut_12_ok _ _ e) px_k0) 18 0 _ _ _ q e)
/-! WordsUnsaid$Text.open(I)V -/
noncomputable def tx_open (x1 : Int32) (h : pH) : pR :=
  let h1 := px_w h 1 2 (px_c 0)
  let h2 := px_w h1 1 3 (px_min (h1 1 1) x1)
  let h3 := px_w h2 1 4 (px_c (-1))
  some (0, h3)
def tx_open_code : pCode := [(0, .aload_n 0, 1), (1, .iconst 0, 1), (2, .putfield 19, 3), (5, .aload_n 0, 1), (6, .aload_n 0, 1), (7, .getfield 15, 3), (10, .iload_n 1, 1), (11, .invokestatic 22, 3), (14, .putfield 28, 3), (17, .aload_n 0, 1), (18, .iconst (-1), 1), (19, .putfield 31, 3), (22, .return_, 1)]
set_option maxRecDepth 20000 in
theorem tx_open_code_ok : px_code prog_10_method_4_code tx_open_code = true := by decide +kernel
noncomputable def tx_open_orc : pC := px_orc []
theorem tx_open_orc_ok {d : Nat} : px_Or (d + 0) (tx_open_orc) := px_orc_ok (by
  exact px_o0)
set_option maxRecDepth 20000 in
theorem tx_open_ok {d : Nat} {x1 : Int32} {h : pH} {q : Int32 × pH} (e : tx_open x1 h = some q) : px_Con (d + 1) 88 [.inr (.inl 1), .inl x1] h q :=
  px_con (X := pX_RX8) (b := prog_10_method_4_code) (nL := 2) (rt := none) rfl rfl (Nat.le_of_ble_eq_true rfl) rfl (px_blk_ok (d := d + 0) (M := (pX_RX8, prog_10_method_4_code, 2, none)) (C := tx_open_orc) (code := tx_open_code) (ld := []) (kl := []) (tx_open_orc_ok) pX_ok_RX8 tx_open_code_ok (px_k0) 18 0 _ _ _ q e)
/-! WordsUnsaid$Text.next()I -/
noncomputable def tx_next_43 (s0 : Int32) (h : pH) : pR :=
  some (s0, h)
noncomputable def tx_next_42 (h : pH) : pR :=
  tx_next_43 (px_c (-1)) h
noncomputable def tx_next (h : pH) : pR :=
  if (h 1 2) < 0 then
    tx_next_42 h
  else
    if (h 1 3) ≤ (h 1 2) then
      tx_next_42 h
    else
      if (nI (px_len 2)) ≤ (h 1 2) then
        tx_next_42 h
      else
        px_if (px_ok 2 2 (h 1 2)) <|
        tx_next_43 (h 2 (h 1 2).toNatClampNeg) h
def tx_next_code : pCode := [(0, .aload_n 0, 1), (1, .getfield 19, 3), (4, .ifCond .lt (38), 3), (7, .aload_n 0, 1), (8, .getfield 19, 3), (11, .aload_n 0, 1), (12, .getfield 28, 3), (15, .if_icmp .ge (27), 3), (18, .aload_n 0, 1), (19, .getfield 19, 3), (22, .aload_n 0, 1), (23, .getfield 11, 3), (26, .arraylength, 1), (27, .if_icmp .ge (15), 3), (30, .aload_n 0, 1), (31, .getfield 11, 3), (34, .aload_n 0, 1), (35, .getfield 19, 3), (38, .caload, 1), (39, .goto (4), 3), (42, .iconst (-1), 1), (43, .ireturn, 1)]
set_option maxRecDepth 20000 in
theorem tx_next_code_ok : px_code prog_10_method_5_code tx_next_code = true := by decide +kernel
noncomputable def tx_next_orc : pC := px_orc []
theorem tx_next_orc_ok {d : Nat} : px_Or (d + 0) (tx_next_orc) := px_orc_ok (by
  exact px_o0)
set_option maxRecDepth 20000 in
theorem tx_next_43_ok {d : Nat} : ∀ (s0 : Int32) (h : pH) (q : Int32 × pH), tx_next_43 s0 h = some q → px_G (d + 0 + 1) (pX_RX8, prog_10_method_5_code, 1, (some .int)) 43 [none] [.inl s0] h q := by
  intro s0 h q e
  exact px_blk_ok (d := d + 0) (M := (pX_RX8, prog_10_method_5_code, 1, (some .int))) (C := tx_next_orc) (code := tx_next_code) (ld := []) (kl := []) (tx_next_orc_ok) pX_ok_RX8 tx_next_code_ok (px_k0) 27 43 _ _ h q e
set_option maxRecDepth 20000 in
theorem tx_next_42_ok {d : Nat} : ∀ (h : pH) (q : Int32 × pH), tx_next_42 h = some q → px_G (d + 0 + 1) (pX_RX8, prog_10_method_5_code, 1, (some .int)) 42 [none] [] h q := by
  intro h q e
  exact px_blk_ok (d := d + 0) (M := (pX_RX8, prog_10_method_5_code, 1, (some .int))) (C := tx_next_orc) (code := tx_next_code) (ld := [43]) (kl := [(43, fun ls st h => px_if (px_fit [0] ls && px_fits [1] st) (tx_next_43 (px_si st 0) h))]) (tx_next_orc_ok) pX_ok_RX8 tx_next_code_ok (px_k1 (px_ko (ts := [0]) (ss := [1]) fun ls st h q e => tx_next_43_ok _ _ _ e) px_k0) 27 42 _ _ h q e
set_option maxRecDepth 20000 in
theorem tx_next_ok {d : Nat} {h : pH} {q : Int32 × pH} (e : tx_next h = some q) : px_Con (d + 1) 89 [.inr (.inl 1)] h q :=
  px_con (X := pX_RX8) (b := prog_10_method_5_code) (nL := 1) (rt := (some .int)) rfl rfl (Nat.le_of_ble_eq_true rfl) rfl (px_blk_ok (d := d + 0) (M := (pX_RX8, prog_10_method_5_code, 1, (some .int))) (C := tx_next_orc) (code := tx_next_code) (ld := [42, 43]) (kl := [(42, fun ls st h => px_if (px_fit [0] ls && px_fits [] st) (tx_next_42 h)), (43, fun ls st h => px_if (px_fit [0] ls && px_fits [1] st) (tx_next_43 (px_si st 0) h))]) (tx_next_orc_ok) pX_ok_RX8 tx_next_code_ok (px_k1 (px_ko (ts := [0]) (ss := []) fun ls st h q e => tx_next_42_ok _ _ e) (px_k1 (px_ko (ts := [0]) (ss := [1]) fun ls st h q e => tx_next_43_ok _ _ _ e) px_k0)) 27 0 _ _ _ q e)
/-! WordsUnsaid$Text.skip()V -/
noncomputable def tx_skip (h : pH) : pR :=
  let h1 := px_w h 1 2 ((h 1 2) + (px_c 1))
  some (0, h1)
def tx_skip_code : pCode := [(0, .aload_n 0, 1), (1, .dup, 1), (2, .getfield 19, 3), (5, .iconst 1, 1), (6, .iadd, 1), (7, .putfield 19, 3), (10, .return_, 1)]
set_option maxRecDepth 20000 in
theorem tx_skip_code_ok : px_code prog_10_method_6_code tx_skip_code = true := by decide +kernel
noncomputable def tx_skip_orc : pC := px_orc []
theorem tx_skip_orc_ok {d : Nat} : px_Or (d + 0) (tx_skip_orc) := px_orc_ok (by
  exact px_o0)
set_option maxRecDepth 20000 in
theorem tx_skip_ok {d : Nat} {h : pH} {q : Int32 × pH} (e : tx_skip h = some q) : px_Con (d + 1) 90 [.inr (.inl 1)] h q :=
  px_con (X := pX_RX8) (b := prog_10_method_6_code) (nL := 1) (rt := none) rfl rfl (Nat.le_of_ble_eq_true rfl) rfl (px_blk_ok (d := d + 0) (M := (pX_RX8, prog_10_method_6_code, 1, none)) (C := tx_skip_orc) (code := tx_skip_code) (ld := []) (kl := []) (tx_skip_orc_ok) pX_ok_RX8 tx_skip_code_ok (px_k0) 12 0 _ _ _ q e)
/-! WordsUnsaid$Text.meet(I)Z -/
noncomputable def tx_meet (x1 : Int32) (h : pH) : pR :=
  px_bind (tx_next h) fun z1 h2 =>
  if z1 = x1 then
    let h3 := px_w h2 1 2 ((h2 1 2) + (px_c 1))
    px_bz (px_c 1) h3
  else
    px_bz (px_c 0) h2
def tx_meet_code : pCode := [(0, .aload_n 0, 1), (1, .invokevirtual 34, 3), (4, .iload_n 1, 1), (5, .if_icmp .eq (5), 3), (8, .iconst 0, 1), (9, .ireturn, 1), (10, .aload_n 0, 1), (11, .dup, 1), (12, .getfield 19, 3), (15, .iconst 1, 1), (16, .iadd, 1), (17, .putfield 19, 3), (20, .iconst 1, 1), (21, .ireturn, 1)]
set_option maxRecDepth 20000 in
theorem tx_meet_code_ok : px_code prog_10_method_7_code tx_meet_code = true := by decide +kernel
noncomputable def tx_meet_orc : pC := px_orc [(89, fun a h => match a with
    | [.inr (.inl 1)] => tx_next h
    | _ => none)]
theorem tx_meet_orc_ok {d : Nat} : px_Or (d + 1) (tx_meet_orc) := px_orc_ok (by
  refine px_o1 (fun a h q e => by
    dsimp only at e
    split at e
    · exact tx_next_ok (d := d + 0) e
    · cases e) ?_
  exact px_o0)
set_option maxRecDepth 20000 in
theorem tx_meet_ok {d : Nat} {x1 : Int32} {h : pH} {q : Int32 × pH} (e : tx_meet x1 h = some q) : px_Con (d + 2) 91 [.inr (.inl 1), .inl x1] h q :=
  px_con (X := pX_RX8) (b := prog_10_method_7_code) (nL := 2) (rt := (some .boolean)) rfl rfl (Nat.le_of_ble_eq_true rfl) rfl (px_blk_ok (d := d + 1) (M := (pX_RX8, prog_10_method_7_code, 2, (some .boolean))) (C := tx_meet_orc) (code := tx_meet_code) (ld := []) (kl := []) (tx_meet_orc_ok) pX_ok_RX8 tx_meet_code_ok (px_k0) 19 0 _ _ _ q e)
/-! WordsUnsaid$Text.refuse()Z -/
noncomputable def tx_refuse (h : pH) : pR :=
  let h1 := px_w h 1 4 (h 1 2)
  px_bz (px_c 0) h1
def tx_refuse_code : pCode := [(0, .aload_n 0, 1), (1, .aload_n 0, 1), (2, .getfield 19, 3), (5, .putfield 31, 3), (8, .iconst 0, 1), (9, .ireturn, 1)]
set_option maxRecDepth 20000 in
theorem tx_refuse_code_ok : px_code prog_10_method_9_code tx_refuse_code = true := by decide +kernel
noncomputable def tx_refuse_orc : pC := px_orc []
theorem tx_refuse_orc_ok {d : Nat} : px_Or (d + 0) (tx_refuse_orc) := px_orc_ok (by
  exact px_o0)
set_option maxRecDepth 20000 in
theorem tx_refuse_ok {d : Nat} {h : pH} {q : Int32 × pH} (e : tx_refuse h = some q) : px_Con (d + 1) 93 [.inr (.inl 1)] h q :=
  px_con (X := pX_RX8) (b := prog_10_method_9_code) (nL := 1) (rt := (some .boolean)) rfl rfl (Nat.le_of_ble_eq_true rfl) rfl (px_blk_ok (d := d + 0) (M := (pX_RX8, prog_10_method_9_code, 1, (some .boolean))) (C := tx_refuse_orc) (code := tx_refuse_code) (ld := []) (kl := []) (tx_refuse_orc_ok) pX_ok_RX8 tx_refuse_code_ok (px_k0) 11 0 _ _ _ q e)
/-! WordsUnsaid$Text.take(I)Z -/
noncomputable def tx_take_20 (s0 : Int32) (h : pH) : pR :=
  px_bz s0 h
noncomputable def tx_take_15 (h : pH) : pR :=
  tx_take_20 (px_c 1) h
noncomputable def tx_take (x1 : Int32) (h : pH) : pR :=
  px_bind (tx_meet x1 h) fun z1 h2 =>
  if z1 = 0 then
    px_bind (tx_refuse h2) fun z3 h4 =>
    if z3 = 0 then
      tx_take_20 (px_c 0) h4
    else
      tx_take_15 h4
  else
    tx_take_15 h2
def tx_take_code : pCode := [(0, .aload_n 0, 1), (1, .iload_n 1, 1), (2, .invokevirtual 38, 3), (5, .ifCond .ne (10), 3), (8, .aload_n 0, 1), (9, .invokevirtual 42, 3), (12, .ifCond .eq (7), 3), (15, .iconst 1, 1), (16, .goto (4), 3), (19, .iconst 0, 1), (20, .ireturn, 1)]
set_option maxRecDepth 20000 in
theorem tx_take_code_ok : px_code prog_10_method_8_code tx_take_code = true := by decide +kernel
noncomputable def tx_take_orc : pC := px_orc [(91, fun a h => match a with
    | [.inr (.inl 1), .inl v1] => tx_meet v1 h
    | _ => none), (93, fun a h => match a with
    | [.inr (.inl 1)] => tx_refuse h
    | _ => none)]
theorem tx_take_orc_ok {d : Nat} : px_Or (d + 2) (tx_take_orc) := px_orc_ok (by
  refine px_o1 (fun a h q e => by
    dsimp only at e
    split at e
    · exact tx_meet_ok (d := d + 0) e
    · cases e) ?_
  refine px_o1 (fun a h q e => by
    dsimp only at e
    split at e
    · exact tx_refuse_ok (d := d + 1) e
    · cases e) ?_
  exact px_o0)
set_option maxRecDepth 20000 in
theorem tx_take_20_ok {d : Nat} : ∀ (s0 : Int32) (h : pH) (q : Int32 × pH), tx_take_20 s0 h = some q → px_G (d + 2 + 1) (pX_RX8, prog_10_method_8_code, 2, (some .boolean)) 20 [none, none] [.inl s0] h q := by
  intro s0 h q e
  exact px_blk_ok (d := d + 2) (M := (pX_RX8, prog_10_method_8_code, 2, (some .boolean))) (C := tx_take_orc) (code := tx_take_code) (ld := []) (kl := []) (tx_take_orc_ok) pX_ok_RX8 tx_take_code_ok (px_k0) 16 20 _ _ h q e
set_option maxRecDepth 20000 in
theorem tx_take_15_ok {d : Nat} : ∀ (h : pH) (q : Int32 × pH), tx_take_15 h = some q → px_G (d + 2 + 1) (pX_RX8, prog_10_method_8_code, 2, (some .boolean)) 15 [none, none] [] h q := by
  intro h q e
  exact px_blk_ok (d := d + 2) (M := (pX_RX8, prog_10_method_8_code, 2, (some .boolean))) (C := tx_take_orc) (code := tx_take_code) (ld := [20]) (kl := [(20, fun ls st h => px_if (px_fit [0, 0] ls && px_fits [1] st) (tx_take_20 (px_si st 0) h))]) (tx_take_orc_ok) pX_ok_RX8 tx_take_code_ok (px_k1 (px_ko (ts := [0, 0]) (ss := [1]) fun ls st h q e => tx_take_20_ok _ _ _ e) px_k0) 16 15 _ _ h q e
set_option maxRecDepth 20000 in
theorem tx_take_ok {d : Nat} {x1 : Int32} {h : pH} {q : Int32 × pH} (e : tx_take x1 h = some q) : px_Con (d + 3) 92 [.inr (.inl 1), .inl x1] h q :=
  px_con (X := pX_RX8) (b := prog_10_method_8_code) (nL := 2) (rt := (some .boolean)) rfl rfl (Nat.le_of_ble_eq_true rfl) rfl (px_blk_ok (d := d + 2) (M := (pX_RX8, prog_10_method_8_code, 2, (some .boolean))) (C := tx_take_orc) (code := tx_take_code) (ld := [15, 20]) (kl := [(15, fun ls st h => px_if (px_fit [0, 0] ls && px_fits [] st) (tx_take_15 h)), (20, fun ls st h => px_if (px_fit [0, 0] ls && px_fits [1] st) (tx_take_20 (px_si st 0) h))]) (tx_take_orc_ok) pX_ok_RX8 tx_take_code_ok (px_k1 (px_ko (ts := [0, 0]) (ss := []) fun ls st h q e => tx_take_15_ok _ _ e) (px_k1 (px_ko (ts := [0, 0]) (ss := [1]) fun ls st h q e => tx_take_20_ok _ _ _ e) px_k0)) 16 0 _ _ _ q e)
/-! WordsUnsaid$Text.refuseLast()Z -/
noncomputable def tx_refuseLast (h : pH) : pR :=
  let h1 := px_w h 1 4 ((h 1 2) - (px_c 1))
  px_bz (px_c 0) h1
def tx_refuseLast_code : pCode := [(0, .aload_n 0, 1), (1, .aload_n 0, 1), (2, .getfield 19, 3), (5, .iconst 1, 1), (6, .isub, 1), (7, .putfield 31, 3), (10, .iconst 0, 1), (11, .ireturn, 1)]
set_option maxRecDepth 20000 in
theorem tx_refuseLast_code_ok : px_code prog_10_method_10_code tx_refuseLast_code = true := by decide +kernel
noncomputable def tx_refuseLast_orc : pC := px_orc []
theorem tx_refuseLast_orc_ok {d : Nat} : px_Or (d + 0) (tx_refuseLast_orc) := px_orc_ok (by
  exact px_o0)
set_option maxRecDepth 20000 in
theorem tx_refuseLast_ok {d : Nat} {h : pH} {q : Int32 × pH} (e : tx_refuseLast h = some q) : px_Con (d + 1) 94 [.inr (.inl 1)] h q :=
  px_con (X := pX_RX8) (b := prog_10_method_10_code) (nL := 1) (rt := (some .boolean)) rfl rfl (Nat.le_of_ble_eq_true rfl) rfl (px_blk_ok (d := d + 0) (M := (pX_RX8, prog_10_method_10_code, 1, (some .boolean))) (C := tx_refuseLast_orc) (code := tx_refuseLast_code) (ld := []) (kl := []) (tx_refuseLast_orc_ok) pX_ok_RX8 tx_refuseLast_code_ok (px_k0) 13 0 _ _ _ q e)
/-! WordsUnsaid$Text.answer()I -/
noncomputable def tx_answer (h : pH) : pR :=
  some ((px_c (-1)) - (h 1 4), h)
def tx_answer_code : pCode := [(0, .iconst (-1), 1), (1, .aload_n 0, 1), (2, .getfield 31, 3), (5, .isub, 1), (6, .ireturn, 1)]
set_option maxRecDepth 20000 in
theorem tx_answer_code_ok : px_code prog_10_method_11_code tx_answer_code = true := by decide +kernel
noncomputable def tx_answer_orc : pC := px_orc []
theorem tx_answer_orc_ok {d : Nat} : px_Or (d + 0) (tx_answer_orc) := px_orc_ok (by
  exact px_o0)
set_option maxRecDepth 20000 in
theorem tx_answer_ok {d : Nat} {h : pH} {q : Int32 × pH} (e : tx_answer h = some q) : px_Con (d + 1) 95 [.inr (.inl 1)] h q :=
  px_con (X := pX_RX8) (b := prog_10_method_11_code) (nL := 1) (rt := (some .int)) rfl rfl (Nat.le_of_ble_eq_true rfl) rfl (px_blk_ok (d := d + 0) (M := (pX_RX8, prog_10_method_11_code, 1, (some .int))) (C := tx_answer_orc) (code := tx_answer_code) (ld := []) (kl := []) (tx_answer_orc_ok) pX_ok_RX8 tx_answer_code_ok (px_k0) 10 0 _ _ _ q e)
/-! WordsUnsaid$Text.closes()Z -/
noncomputable def tx_closes_23 (s0 : Int32) (h : pH) : pR :=
  px_bz s0 h
noncomputable def tx_closes_18 (h : pH) : pR :=
  tx_closes_23 (px_c 1) h
noncomputable def tx_closes (h : pH) : pR :=
  if (h 1 2) = (h 1 1) then
    tx_closes_18 h
  else
    px_bind (tx_refuse h) fun z1 h2 =>
    if z1 = 0 then
      tx_closes_23 (px_c 0) h2
    else
      tx_closes_18 h2
def tx_closes_code : pCode := [(0, .aload_n 0, 1), (1, .getfield 19, 3), (4, .aload_n 0, 1), (5, .getfield 15, 3), (8, .if_icmp .eq (10), 3), (11, .aload_n 0, 1), (12, .invokevirtual 42, 3), (15, .ifCond .eq (7), 3), (18, .iconst 1, 1), (19, .goto (4), 3), (22, .iconst 0, 1), (23, .ireturn, 1)]
set_option maxRecDepth 20000 in
theorem tx_closes_code_ok : px_code prog_10_method_12_code tx_closes_code = true := by decide +kernel
noncomputable def tx_closes_orc : pC := px_orc [(93, fun a h => match a with
    | [.inr (.inl 1)] => tx_refuse h
    | _ => none)]
theorem tx_closes_orc_ok {d : Nat} : px_Or (d + 1) (tx_closes_orc) := px_orc_ok (by
  refine px_o1 (fun a h q e => by
    dsimp only at e
    split at e
    · exact tx_refuse_ok (d := d + 0) e
    · cases e) ?_
  exact px_o0)
set_option maxRecDepth 20000 in
theorem tx_closes_23_ok {d : Nat} : ∀ (s0 : Int32) (h : pH) (q : Int32 × pH), tx_closes_23 s0 h = some q → px_G (d + 1 + 1) (pX_RX8, prog_10_method_12_code, 1, (some .boolean)) 23 [none] [.inl s0] h q := by
  intro s0 h q e
  exact px_blk_ok (d := d + 1) (M := (pX_RX8, prog_10_method_12_code, 1, (some .boolean))) (C := tx_closes_orc) (code := tx_closes_code) (ld := []) (kl := []) (tx_closes_orc_ok) pX_ok_RX8 tx_closes_code_ok (px_k0) 17 23 _ _ h q e
set_option maxRecDepth 20000 in
theorem tx_closes_18_ok {d : Nat} : ∀ (h : pH) (q : Int32 × pH), tx_closes_18 h = some q → px_G (d + 1 + 1) (pX_RX8, prog_10_method_12_code, 1, (some .boolean)) 18 [none] [] h q := by
  intro h q e
  exact px_blk_ok (d := d + 1) (M := (pX_RX8, prog_10_method_12_code, 1, (some .boolean))) (C := tx_closes_orc) (code := tx_closes_code) (ld := [23]) (kl := [(23, fun ls st h => px_if (px_fit [0] ls && px_fits [1] st) (tx_closes_23 (px_si st 0) h))]) (tx_closes_orc_ok) pX_ok_RX8 tx_closes_code_ok (px_k1 (px_ko (ts := [0]) (ss := [1]) fun ls st h q e => tx_closes_23_ok _ _ _ e) px_k0) 17 18 _ _ h q e
set_option maxRecDepth 20000 in
theorem tx_closes_ok {d : Nat} {h : pH} {q : Int32 × pH} (e : tx_closes h = some q) : px_Con (d + 2) 96 [.inr (.inl 1)] h q :=
  px_con (X := pX_RX8) (b := prog_10_method_12_code) (nL := 1) (rt := (some .boolean)) rfl rfl (Nat.le_of_ble_eq_true rfl) rfl (px_blk_ok (d := d + 1) (M := (pX_RX8, prog_10_method_12_code, 1, (some .boolean))) (C := tx_closes_orc) (code := tx_closes_code) (ld := [18, 23]) (kl := [(18, fun ls st h => px_if (px_fit [0] ls && px_fits [] st) (tx_closes_18 h)), (23, fun ls st h => px_if (px_fit [0] ls && px_fits [1] st) (tx_closes_23 (px_si st 0) h))]) (tx_closes_orc_ok) pX_ok_RX8 tx_closes_code_ok (px_k1 (px_ko (ts := [0]) (ss := []) fun ls st h q e => tx_closes_18_ok _ _ e) (px_k1 (px_ko (ts := [0]) (ss := [1]) fun ls st h q e => tx_closes_23_ok _ _ _ e) px_k0)) 17 0 _ _ _ q e)
/-! WordsUnsaid$Text.isDigit()Z -/
noncomputable def tx_isDigit_23 (s0 : Int32) (h : pH) : pR :=
  px_bz s0 h
noncomputable def tx_isDigit_22 (h : pH) : pR :=
  tx_isDigit_23 (px_c 0) h
noncomputable def tx_isDigit (h : pH) : pR :=
  px_bind (tx_next h) fun z1 h2 =>
  if z1 < (px_c 48) then
    tx_isDigit_22 h2
  else
    px_bind (tx_next h2) fun z3 h4 =>
    if (px_c 57) < z3 then
      tx_isDigit_22 h4
    else
      tx_isDigit_23 (px_c 1) h4
def tx_isDigit_code : pCode := [(0, .aload_n 0, 1), (1, .invokevirtual 34, 3), (4, .bipush (48), 2), (6, .if_icmp .lt (16), 3), (9, .aload_n 0, 1), (10, .invokevirtual 34, 3), (13, .bipush (57), 2), (15, .if_icmp .gt (7), 3), (18, .iconst 1, 1), (19, .goto (4), 3), (22, .iconst 0, 1), (23, .ireturn, 1)]
set_option maxRecDepth 20000 in
theorem tx_isDigit_code_ok : px_code prog_10_method_13_code tx_isDigit_code = true := by decide +kernel
noncomputable def tx_isDigit_orc : pC := px_orc [(89, fun a h => match a with
    | [.inr (.inl 1)] => tx_next h
    | _ => none)]
theorem tx_isDigit_orc_ok {d : Nat} : px_Or (d + 1) (tx_isDigit_orc) := px_orc_ok (by
  refine px_o1 (fun a h q e => by
    dsimp only at e
    split at e
    · exact tx_next_ok (d := d + 0) e
    · cases e) ?_
  exact px_o0)
set_option maxRecDepth 20000 in
theorem tx_isDigit_23_ok {d : Nat} : ∀ (s0 : Int32) (h : pH) (q : Int32 × pH), tx_isDigit_23 s0 h = some q → px_G (d + 1 + 1) (pX_RX8, prog_10_method_13_code, 1, (some .boolean)) 23 [none] [.inl s0] h q := by
  intro s0 h q e
  exact px_blk_ok (d := d + 1) (M := (pX_RX8, prog_10_method_13_code, 1, (some .boolean))) (C := tx_isDigit_orc) (code := tx_isDigit_code) (ld := []) (kl := []) (tx_isDigit_orc_ok) pX_ok_RX8 tx_isDigit_code_ok (px_k0) 17 23 _ _ h q e
set_option maxRecDepth 20000 in
theorem tx_isDigit_22_ok {d : Nat} : ∀ (h : pH) (q : Int32 × pH), tx_isDigit_22 h = some q → px_G (d + 1 + 1) (pX_RX8, prog_10_method_13_code, 1, (some .boolean)) 22 [none] [] h q := by
  intro h q e
  exact px_blk_ok (d := d + 1) (M := (pX_RX8, prog_10_method_13_code, 1, (some .boolean))) (C := tx_isDigit_orc) (code := tx_isDigit_code) (ld := [23]) (kl := [(23, fun ls st h => px_if (px_fit [0] ls && px_fits [1] st) (tx_isDigit_23 (px_si st 0) h))]) (tx_isDigit_orc_ok) pX_ok_RX8 tx_isDigit_code_ok (px_k1 (px_ko (ts := [0]) (ss := [1]) fun ls st h q e => tx_isDigit_23_ok _ _ _ e) px_k0) 17 22 _ _ h q e
set_option maxRecDepth 20000 in
theorem tx_isDigit_ok {d : Nat} {h : pH} {q : Int32 × pH} (e : tx_isDigit h = some q) : px_Con (d + 2) 97 [.inr (.inl 1)] h q :=
  px_con (X := pX_RX8) (b := prog_10_method_13_code) (nL := 1) (rt := (some .boolean)) rfl rfl (Nat.le_of_ble_eq_true rfl) rfl (px_blk_ok (d := d + 1) (M := (pX_RX8, prog_10_method_13_code, 1, (some .boolean))) (C := tx_isDigit_orc) (code := tx_isDigit_code) (ld := [22, 23]) (kl := [(22, fun ls st h => px_if (px_fit [0] ls && px_fits [] st) (tx_isDigit_22 h)), (23, fun ls st h => px_if (px_fit [0] ls && px_fits [1] st) (tx_isDigit_23 (px_si st 0) h))]) (tx_isDigit_orc_ok) pX_ok_RX8 tx_isDigit_code_ok (px_k1 (px_ko (ts := [0]) (ss := []) fun ls st h q e => tx_isDigit_22_ok _ _ e) (px_k1 (px_ko (ts := [0]) (ss := [1]) fun ls st h q e => tx_isDigit_23_ok _ _ _ e) px_k0)) 17 0 _ _ _ q e)
/-! WordsUnsaid$Text.number(III)I -/
noncomputable def tx_number_79 (h : pH) : pR :=
  px_bind (tx_refuseLast h) fun z1 h2 =>
  some (px_c (-1), h2)
noncomputable def tx_number_54 (x2 : Int32) (x3 : Int32) (x4 : Int32) (h : pH) : pR :=
  if x4 = (px_c (-1)) then
    px_bind (tx_refuse h) fun z1 h2 =>
    some (px_c (-1), h2)
  else
    if x4 < x2 then
      tx_number_79 h
    else
      if x4 ≤ x3 then
        some (x4, h)
      else
        tx_number_79 h
noncomputable def tx_number_6 : Nat → Int32 → Int32 → Int32 → Int32 → Int32 → pH → pR
  | 0, _, _, _, _, _, _ => none
  | n + 1, x1, x2, x3, x4, x5, h =>
    if x1 ≤ x5 then
      tx_number_54 x2 x3 x4 h
    else
      px_bind (tx_isDigit h) fun z1 h2 =>
      if z1 = 0 then
        tx_number_54 x2 x3 x4 h2
      else
        px_bind (tx_next h2) fun z3 h4 =>
        let y4_5 := (((px_max (px_c 0) x4) * (px_c 10)) + z3) - (px_c 48)
        let h6 := px_w h4 1 2 ((h4 1 2) + (px_c 1))
        tx_number_6 n x1 x2 x3 y4_5 (x5 + px_c 1) h6
noncomputable def tx_number (x1 : Int32) (x2 : Int32) (x3 : Int32) (h : pH) : pR :=
  tx_number_6 px_F x1 x2 x3 (px_c (-1)) (px_c 0) h
def tx_number_code : pCode := [(0, .iconst (-1), 1), (1, .istore 4, 2), (3, .iconst 0, 1), (4, .istore 5, 2), (6, .iload 5, 2), (8, .iload_n 1, 1), (9, .if_icmp .ge (45), 3), (12, .aload_n 0, 1), (13, .invokevirtual 46, 3), (16, .ifCond .eq (38), 3), (19, .iconst 0, 1), (20, .iload 4, 2), (22, .invokestatic 49, 3), (25, .bipush (10), 2), (27, .imul, 1), (28, .aload_n 0, 1), (29, .invokevirtual 34, 3), (32, .iadd, 1), (33, .bipush (48), 2), (35, .isub, 1), (36, .istore 4, 2), (38, .aload_n 0, 1), (39, .dup, 1), (40, .getfield 19, 3), (43, .iconst 1, 1), (44, .iadd, 1), (45, .putfield 19, 3), (48, .iinc 5 (1), 3), (51, .goto (-45), 3), (54, .iload 4, 2), (56, .iconst (-1), 1), (57, .if_icmp .ne (10), 3), (60, .aload_n 0, 1), (61, .invokevirtual 42, 3), (64, .pop, 1), (65, .iconst (-1), 1), (66, .ireturn, 1), (67, .iload 4, 2), (69, .iload_n 2, 1), (70, .if_icmp .lt (9), 3), (73, .iload 4, 2), (75, .iload_n 3, 1), (76, .if_icmp .le (10), 3), (79, .aload_n 0, 1), (80, .invokevirtual 52, 3), (83, .pop, 1), (84, .iconst (-1), 1), (85, .ireturn, 1), (86, .iload 4, 2), (88, .ireturn, 1)]
set_option maxRecDepth 20000 in
theorem tx_number_code_ok : px_code prog_10_method_14_code tx_number_code = true := by decide +kernel
noncomputable def tx_number_orc : pC := px_orc [(94, fun a h => match a with
    | [.inr (.inl 1)] => tx_refuseLast h
    | _ => none), (93, fun a h => match a with
    | [.inr (.inl 1)] => tx_refuse h
    | _ => none), (97, fun a h => match a with
    | [.inr (.inl 1)] => tx_isDigit h
    | _ => none), (89, fun a h => match a with
    | [.inr (.inl 1)] => tx_next h
    | _ => none)]
theorem tx_number_orc_ok {d : Nat} : px_Or (d + 2) (tx_number_orc) := px_orc_ok (by
  refine px_o1 (fun a h q e => by
    dsimp only at e
    split at e
    · exact tx_refuseLast_ok (d := d + 1) e
    · cases e) ?_
  refine px_o1 (fun a h q e => by
    dsimp only at e
    split at e
    · exact tx_refuse_ok (d := d + 1) e
    · cases e) ?_
  refine px_o1 (fun a h q e => by
    dsimp only at e
    split at e
    · exact tx_isDigit_ok (d := d + 0) e
    · cases e) ?_
  refine px_o1 (fun a h q e => by
    dsimp only at e
    split at e
    · exact tx_next_ok (d := d + 1) e
    · cases e) ?_
  exact px_o0)
set_option maxRecDepth 20000 in
theorem tx_number_79_ok {d : Nat} : ∀ (h : pH) (q : Int32 × pH), tx_number_79 h = some q → px_G (d + 2 + 1) (pX_RX8, prog_10_method_14_code, 6, (some .int)) 79 [some (.inr (.inl 1)), none, none, none, none, none] [] h q := by
  intro h q e
  exact px_blk_ok (d := d + 2) (M := (pX_RX8, prog_10_method_14_code, 6, (some .int))) (C := tx_number_orc) (code := tx_number_code) (ld := []) (kl := []) (tx_number_orc_ok) pX_ok_RX8 tx_number_code_ok (px_k0) 55 79 _ _ h q e
set_option maxRecDepth 20000 in
theorem tx_number_54_ok {d : Nat} : ∀ (x2 : Int32) (x3 : Int32) (x4 : Int32) (h : pH) (q : Int32 × pH), tx_number_54 x2 x3 x4 h = some q → px_G (d + 2 + 1) (pX_RX8, prog_10_method_14_code, 6, (some .int)) 54 [some (.inr (.inl 1)), none, some (.inl x2), some (.inl x3), some (.inl x4), none] [] h q := by
  intro x2 x3 x4 h q e
  exact px_blk_ok (d := d + 2) (M := (pX_RX8, prog_10_method_14_code, 6, (some .int))) (C := tx_number_orc) (code := tx_number_code) (ld := [79]) (kl := [(79, fun ls st h => px_if (px_fit [11, 0, 0, 0, 0, 0] ls && px_fits [] st) (tx_number_79 h))]) (tx_number_orc_ok) pX_ok_RX8 tx_number_code_ok (px_k1 (px_ko (ts := [11, 0, 0, 0, 0, 0]) (ss := []) fun ls st h q e => tx_number_79_ok _ _ e) px_k0) 55 54 _ _ h q e
set_option maxRecDepth 20000 in
theorem tx_number_6_ok {d : Nat} : ∀ (n : Nat) (x1 : Int32) (x2 : Int32) (x3 : Int32) (x4 : Int32) (x5 : Int32) (h : pH) (q : Int32 × pH), tx_number_6 n x1 x2 x3 x4 x5 h = some q → px_G (d + 2 + 1) (pX_RX8, prog_10_method_14_code, 6, (some .int)) 6 [some (.inr (.inl 1)), some (.inl x1), some (.inl x2), some (.inl x3), some (.inl x4), some (.inl x5)] [] h q := by
  intro n
  induction n with
  | zero =>
    intro x1 x2 x3 x4 x5 h q e
    cases e
  | succ n ih =>
    intro x1 x2 x3 x4 x5 h q e
    exact px_blk_ok (d := d + 2) (M := (pX_RX8, prog_10_method_14_code, 6, (some .int))) (C := tx_number_orc) (code := tx_number_code) (ld := [6, 54]) (kl := [(6, fun ls st h => px_if (px_fit [11, 1, 1, 1, 1, 1] ls && px_fits [] st) (tx_number_6 n (px_gi ls 1) (px_gi ls 2) (px_gi ls 3) (px_gi ls 4) (px_gi ls 5) h)), (54, fun ls st h => px_if (px_fit [11, 0, 1, 1, 1, 0] ls && px_fits [] st) (tx_number_54 (px_gi ls 2) (px_gi ls 3) (px_gi ls 4) h))]) (tx_number_orc_ok) pX_ok_RX8 tx_number_code_ok (px_k1 (px_ko (ts := [11, 1, 1, 1, 1, 1]) (ss := []) fun ls st h q e => ih _ _ _ _ _ _ _ e) (px_k1 (px_ko (ts := [11, 0, 1, 1, 1, 0]) (ss := []) fun ls st h q e => tx_number_54_ok _ _ _ _ _ e) px_k0)) 55 6 _ _ h q e
set_option maxRecDepth 20000 in
theorem tx_number_ok {d : Nat} {x1 : Int32} {x2 : Int32} {x3 : Int32} {h : pH} {q : Int32 × pH} (e : tx_number x1 x2 x3 h = some q) : px_Con (d + 3) 98 [.inr (.inl 1), .inl x1, .inl x2, .inl x3] h q :=
  px_con (X := pX_RX8) (b := prog_10_method_14_code) (nL := 6) (rt := (some .int)) rfl rfl (Nat.le_of_ble_eq_true rfl) rfl (px_blk_ok (d := d + 2) (M := (pX_RX8, prog_10_method_14_code, 6, (some .int))) (C := tx_number_orc) (code := tx_number_code) (ld := [6]) (kl := [(6, fun ls st h => px_if (px_fit [11, 1, 1, 1, 1, 1] ls && px_fits [] st) (tx_number_6 px_F (px_gi ls 1) (px_gi ls 2) (px_gi ls 3) (px_gi ls 4) (px_gi ls 5) h))]) (tx_number_orc_ok) pX_ok_RX8 tx_number_code_ok (px_k1 (px_ko (ts := [11, 1, 1, 1, 1, 1]) (ss := []) fun ls st h q e => tx_number_6_ok _ _ _ _ _ _ _ _ e) px_k0) 55 0 _ _ _ q e)
/-! WordsUnsaid$Text.letter(II)I -/
noncomputable def tx_letter_16 (h : pH) : pR :=
  px_bind (tx_refuse h) fun z1 h2 =>
  some (px_c (-1), h2)
noncomputable def tx_letter (x1 : Int32) (x2 : Int32) (h : pH) : pR :=
  px_bind (tx_next h) fun z1 h2 =>
  let y3_3 := z1 - x1
  if y3_3 < 0 then
    tx_letter_16 h2
  else
    if y3_3 < x2 then
      let h4 := px_w h2 1 2 ((h2 1 2) + (px_c 1))
      some (y3_3, h4)
    else
      tx_letter_16 h2
def tx_letter_code : pCode := [(0, .aload_n 0, 1), (1, .invokevirtual 34, 3), (4, .iload_n 1, 1), (5, .isub, 1), (6, .istore_n 3, 1), (7, .iload_n 3, 1), (8, .ifCond .lt (8), 3), (11, .iload_n 3, 1), (12, .iload_n 2, 1), (13, .if_icmp .lt (10), 3), (16, .aload_n 0, 1), (17, .invokevirtual 42, 3), (20, .pop, 1), (21, .iconst (-1), 1), (22, .ireturn, 1), (23, .aload_n 0, 1), (24, .dup, 1), (25, .getfield 19, 3), (28, .iconst 1, 1), (29, .iadd, 1), (30, .putfield 19, 3), (33, .iload_n 3, 1), (34, .ireturn, 1)]
set_option maxRecDepth 20000 in
theorem tx_letter_code_ok : px_code prog_10_method_15_code tx_letter_code = true := by decide +kernel
noncomputable def tx_letter_orc : pC := px_orc [(93, fun a h => match a with
    | [.inr (.inl 1)] => tx_refuse h
    | _ => none), (89, fun a h => match a with
    | [.inr (.inl 1)] => tx_next h
    | _ => none)]
theorem tx_letter_orc_ok {d : Nat} : px_Or (d + 1) (tx_letter_orc) := px_orc_ok (by
  refine px_o1 (fun a h q e => by
    dsimp only at e
    split at e
    · exact tx_refuse_ok (d := d + 0) e
    · cases e) ?_
  refine px_o1 (fun a h q e => by
    dsimp only at e
    split at e
    · exact tx_next_ok (d := d + 0) e
    · cases e) ?_
  exact px_o0)
set_option maxRecDepth 20000 in
theorem tx_letter_16_ok {d : Nat} : ∀ (h : pH) (q : Int32 × pH), tx_letter_16 h = some q → px_G (d + 1 + 1) (pX_RX8, prog_10_method_15_code, 4, (some .int)) 16 [some (.inr (.inl 1)), none, none, none] [] h q := by
  intro h q e
  exact px_blk_ok (d := d + 1) (M := (pX_RX8, prog_10_method_15_code, 4, (some .int))) (C := tx_letter_orc) (code := tx_letter_code) (ld := []) (kl := []) (tx_letter_orc_ok) pX_ok_RX8 tx_letter_code_ok (px_k0) 28 16 _ _ h q e
set_option maxRecDepth 20000 in
theorem tx_letter_ok {d : Nat} {x1 : Int32} {x2 : Int32} {h : pH} {q : Int32 × pH} (e : tx_letter x1 x2 h = some q) : px_Con (d + 2) 99 [.inr (.inl 1), .inl x1, .inl x2] h q :=
  px_con (X := pX_RX8) (b := prog_10_method_15_code) (nL := 4) (rt := (some .int)) rfl rfl (Nat.le_of_ble_eq_true rfl) rfl (px_blk_ok (d := d + 1) (M := (pX_RX8, prog_10_method_15_code, 4, (some .int))) (C := tx_letter_orc) (code := tx_letter_code) (ld := [16]) (kl := [(16, fun ls st h => px_if (px_fit [11, 0, 0, 0] ls && px_fits [] st) (tx_letter_16 h))]) (tx_letter_orc_ok) pX_ok_RX8 tx_letter_code_ok (px_k1 (px_ko (ts := [11, 0, 0, 0]) (ss := []) fun ls st h q e => tx_letter_16_ok _ _ e) px_k0) 28 0 _ _ _ q e)
end
section
theorem i_vc : Claimed_1_1 ∧ Claimed_1_2 := sorry
end
