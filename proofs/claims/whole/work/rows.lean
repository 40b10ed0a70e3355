section
-- ===== PART A: goes FIRST, ahead of the names: the tables' words, and 'selects' of the private methods out of them =====
/-- a private method of a class that the tables say can be made, by its rows of tables_1 -/
def lw_okq (q : MethodName × Nat) : Prop := (q.1.cls ≠ "java/lang/invoke/MethodHandle" ∧ q.1.cls ≠ "java/lang/invoke/VarHandle") ∧ Cond.instantiable q.1.cls q.2 ∈ tables_1 ∧ Cond.privateMethod q.1 ∈ tables_1 ∧ Cond.instanceMethod q.1 ∈ tables_1
theorem lw_p0 : lw_okq (⟨"CodeSmith", "append", "(I)V"⟩, 4) := ⟨⟨by decide +kernel, by decide +kernel⟩, List.mem_of_getElem? (i := 23) (by decide +kernel), List.mem_of_getElem? (i := 287) (by decide +kernel), List.mem_of_getElem? (i := 288) (by decide +kernel)⟩
theorem lw_p1 : lw_okq (⟨"CodeSmith$Assembler", "toSectionsBegin", "()V"⟩, 16) := ⟨⟨by decide +kernel, by decide +kernel⟩, List.mem_of_getElem? (i := 140) (by decide +kernel), List.mem_of_getElem? (i := 343) (by decide +kernel), List.mem_of_getElem? (i := 344) (by decide +kernel)⟩
theorem lw_p2 : lw_okq (⟨"CodeSmith$Tokens", "splitLine", "()V"⟩, 18) := ⟨⟨by decide +kernel, by decide +kernel⟩, List.mem_of_getElem? (i := 68) (by decide +kernel), List.mem_of_getElem? (i := 351) (by decide +kernel), List.mem_of_getElem? (i := 352) (by decide +kernel)⟩
theorem lw_p3 : lw_okq (⟨"CodeSmith$Tokens", "makeRoom", "(I)V"⟩, 18) := ⟨⟨by decide +kernel, by decide +kernel⟩, List.mem_of_getElem? (i := 68) (by decide +kernel), List.mem_of_getElem? (i := 355) (by decide +kernel), List.mem_of_getElem? (i := 356) (by decide +kernel)⟩
theorem lw_p4 : lw_okq (⟨"CodeSmith$Tokens", "byteAt", "(I)I"⟩, 18) := ⟨⟨by decide +kernel, by decide +kernel⟩, List.mem_of_getElem? (i := 68) (by decide +kernel), List.mem_of_getElem? (i := 362) (by decide +kernel), List.mem_of_getElem? (i := 363) (by decide +kernel)⟩
theorem lw_p5 : lw_okq (⟨"CodeSmith$Tokens", "splitToken", "(II)I"⟩, 18) := ⟨⟨by decide +kernel, by decide +kernel⟩, List.mem_of_getElem? (i := 68) (by decide +kernel), List.mem_of_getElem? (i := 366) (by decide +kernel), List.mem_of_getElem? (i := 367) (by decide +kernel)⟩
theorem lw_p6 : lw_okq (⟨"CodeSmith$Tokens", "splitName", "(I)I"⟩, 18) := ⟨⟨by decide +kernel, by decide +kernel⟩, List.mem_of_getElem? (i := 68) (by decide +kernel), List.mem_of_getElem? (i := 376) (by decide +kernel), List.mem_of_getElem? (i := 377) (by decide +kernel)⟩
theorem lw_p7 : lw_okq (⟨"CodeSmith$Tokens", "add", "(III)V"⟩, 18) := ⟨⟨by decide +kernel, by decide +kernel⟩, List.mem_of_getElem? (i := 68) (by decide +kernel), List.mem_of_getElem? (i := 380) (by decide +kernel), List.mem_of_getElem? (i := 381) (by decide +kernel)⟩
theorem lw_p8 : lw_okq (⟨"CodeSmith$Tokens", "spoil", "(I)V"⟩, 18) := ⟨⟨by decide +kernel, by decide +kernel⟩, List.mem_of_getElem? (i := 68) (by decide +kernel), List.mem_of_getElem? (i := 384) (by decide +kernel), List.mem_of_getElem? (i := 385) (by decide +kernel)⟩
theorem lw_p9 : lw_okq (⟨"CodeSmith$Tokens", "splitHex", "(I)I"⟩, 18) := ⟨⟨by decide +kernel, by decide +kernel⟩, List.mem_of_getElem? (i := 68) (by decide +kernel), List.mem_of_getElem? (i := 388) (by decide +kernel), List.mem_of_getElem? (i := 389) (by decide +kernel)⟩
theorem lw_p10 : lw_okq (⟨"CodeSmith$Tokens", "splitDecimal", "(I)I"⟩, 18) := ⟨⟨by decide +kernel, by decide +kernel⟩, List.mem_of_getElem? (i := 68) (by decide +kernel), List.mem_of_getElem? (i := 395) (by decide +kernel), List.mem_of_getElem? (i := 396) (by decide +kernel)⟩
theorem lw_p11 : lw_okq (⟨"CodeSmith$Tokens", "splitCharacter", "(I)I"⟩, 18) := ⟨⟨by decide +kernel, by decide +kernel⟩, List.mem_of_getElem? (i := 68) (by decide +kernel), List.mem_of_getElem? (i := 399) (by decide +kernel), List.mem_of_getElem? (i := 400) (by decide +kernel)⟩
theorem lw_p12 : lw_okq (⟨"CodeSmith$Tokens", "splitString", "(I)I"⟩, 18) := ⟨⟨by decide +kernel, by decide +kernel⟩, List.mem_of_getElem? (i := 68) (by decide +kernel), List.mem_of_getElem? (i := 414) (by decide +kernel), List.mem_of_getElem? (i := 415) (by decide +kernel)⟩
theorem lw_p13 : lw_okq (⟨"CodeSmith$Tokens", "advance", "()V"⟩, 18) := ⟨⟨by decide +kernel, by decide +kernel⟩, List.mem_of_getElem? (i := 68) (by decide +kernel), List.mem_of_getElem? (i := 421) (by decide +kernel), List.mem_of_getElem? (i := 422) (by decide +kernel)⟩
theorem lw_p14 : lw_okq (⟨"CodeSmith$Assembler", "readLabels", "()V"⟩, 16) := ⟨⟨by decide +kernel, by decide +kernel⟩, List.mem_of_getElem? (i := 140) (by decide +kernel), List.mem_of_getElem? (i := 429) (by decide +kernel), List.mem_of_getElem? (i := 430) (by decide +kernel)⟩
theorem lw_p15 : lw_okq (⟨"java/lang/Throwable", "fillInStackTrace", "(I)Ljava/lang/Throwable;"⟩, 6) := ⟨⟨by decide +kernel, by decide +kernel⟩, List.mem_of_getElem? (i := 482) (by decide +kernel), List.mem_of_getElem? (i := 480) (by decide +kernel), List.mem_of_getElem? (i := 481) (by decide +kernel)⟩
def lw_privs_1 : List (MethodName × Nat) := [(⟨"CodeSmith", "append", "(I)V"⟩, 4), (⟨"CodeSmith$Assembler", "toSectionsBegin", "()V"⟩, 16), (⟨"CodeSmith$Tokens", "splitLine", "()V"⟩, 18), (⟨"CodeSmith$Tokens", "makeRoom", "(I)V"⟩, 18), (⟨"CodeSmith$Tokens", "byteAt", "(I)I"⟩, 18), (⟨"CodeSmith$Tokens", "splitToken", "(II)I"⟩, 18), (⟨"CodeSmith$Tokens", "splitName", "(I)I"⟩, 18), (⟨"CodeSmith$Tokens", "add", "(III)V"⟩, 18), (⟨"CodeSmith$Tokens", "spoil", "(I)V"⟩, 18), (⟨"CodeSmith$Tokens", "splitHex", "(I)I"⟩, 18), (⟨"CodeSmith$Tokens", "splitDecimal", "(I)I"⟩, 18), (⟨"CodeSmith$Tokens", "splitCharacter", "(I)I"⟩, 18), (⟨"CodeSmith$Tokens", "splitString", "(I)I"⟩, 18), (⟨"CodeSmith$Tokens", "advance", "()V"⟩, 18), (⟨"CodeSmith$Assembler", "readLabels", "()V"⟩, 16), (⟨"java/lang/Throwable", "fillInStackTrace", "(I)Ljava/lang/Throwable;"⟩, 6)]
theorem lw_r1 : ∀ q ∈ lw_privs_1, lw_okq q := List.forall_mem_cons.mpr ⟨lw_p0, List.forall_mem_cons.mpr ⟨lw_p1, List.forall_mem_cons.mpr ⟨lw_p2, List.forall_mem_cons.mpr ⟨lw_p3, List.forall_mem_cons.mpr ⟨lw_p4, List.forall_mem_cons.mpr ⟨lw_p5, List.forall_mem_cons.mpr ⟨lw_p6, List.forall_mem_cons.mpr ⟨lw_p7, List.forall_mem_cons.mpr ⟨lw_p8, List.forall_mem_cons.mpr ⟨lw_p9, List.forall_mem_cons.mpr ⟨lw_p10, List.forall_mem_cons.mpr ⟨lw_p11, List.forall_mem_cons.mpr ⟨lw_p12, List.forall_mem_cons.mpr ⟨lw_p13, List.forall_mem_cons.mpr ⟨lw_p14, List.forall_mem_cons.mpr ⟨lw_p15, fun _ h => absurd h List.not_mem_nil⟩⟩⟩⟩⟩⟩⟩⟩⟩⟩⟩⟩⟩⟩⟩⟩
theorem lw_p16 : lw_okq (⟨"CodeSmith$Assembler", "checkNew", "(II)V"⟩, 16) := ⟨⟨by decide +kernel, by decide +kernel⟩, List.mem_of_getElem? (i := 140) (by decide +kernel), List.mem_of_getElem? (i := 511) (by decide +kernel), List.mem_of_getElem? (i := 512) (by decide +kernel)⟩
theorem lw_p17 : lw_okq (⟨"CodeSmith$Tokens", "registerDigits", "(II)I"⟩, 18) := ⟨⟨by decide +kernel, by decide +kernel⟩, List.mem_of_getElem? (i := 68) (by decide +kernel), List.mem_of_getElem? (i := 519) (by decide +kernel), List.mem_of_getElem? (i := 520) (by decide +kernel)⟩
theorem lw_p18 : lw_okq (⟨"CodeSmith$Tokens", "registerSpelled", "(II)I"⟩, 18) := ⟨⟨by decide +kernel, by decide +kernel⟩, List.mem_of_getElem? (i := 68) (by decide +kernel), List.mem_of_getElem? (i := 523) (by decide +kernel), List.mem_of_getElem? (i := 524) (by decide +kernel)⟩
theorem lw_p19 : lw_okq (⟨"CodeSmith$Symbols", "chainOf", "(II)I"⟩, 9) := ⟨⟨by decide +kernel, by decide +kernel⟩, List.mem_of_getElem? (i := 31) (by decide +kernel), List.mem_of_getElem? (i := 588) (by decide +kernel), List.mem_of_getElem? (i := 589) (by decide +kernel)⟩
theorem lw_p20 : lw_okq (⟨"CodeSmith$Symbols", "isSame", "(III)Z"⟩, 9) := ⟨⟨by decide +kernel, by decide +kernel⟩, List.mem_of_getElem? (i := 31) (by decide +kernel), List.mem_of_getElem? (i := 592) (by decide +kernel), List.mem_of_getElem? (i := 593) (by decide +kernel)⟩
theorem lw_p21 : lw_okq (⟨"CodeSmith$Assembler", "sectionEnd", "()I"⟩, 16) := ⟨⟨by decide +kernel, by decide +kernel⟩, List.mem_of_getElem? (i := 140) (by decide +kernel), List.mem_of_getElem? (i := 599) (by decide +kernel), List.mem_of_getElem? (i := 600) (by decide +kernel)⟩
theorem lw_p22 : lw_okq (⟨"CodeSmith$Symbols", "grow", "()V"⟩, 9) := ⟨⟨by decide +kernel, by decide +kernel⟩, List.mem_of_getElem? (i := 31) (by decide +kernel), List.mem_of_getElem? (i := 607) (by decide +kernel), List.mem_of_getElem? (i := 608) (by decide +kernel)⟩
theorem lw_p23 : lw_okq (⟨"CodeSmith$Assembler", "statementNamed", "(II)LCodeSmith$Statement;"⟩, 16) := ⟨⟨by decide +kernel, by decide +kernel⟩, List.mem_of_getElem? (i := 140) (by decide +kernel), List.mem_of_getElem? (i := 619) (by decide +kernel), List.mem_of_getElem? (i := 620) (by decide +kernel)⟩
theorem lw_p24 : lw_okq (⟨"CodeSmith$Assembler", "clearOperands", "(I)V"⟩, 16) := ⟨⟨by decide +kernel, by decide +kernel⟩, List.mem_of_getElem? (i := 140) (by decide +kernel), List.mem_of_getElem? (i := 625) (by decide +kernel), List.mem_of_getElem? (i := 626) (by decide +kernel)⟩
theorem lw_p25 : lw_okq (⟨"CodeSmith$Assembler", "readList", "(I)V"⟩, 16) := ⟨⟨by decide +kernel, by decide +kernel⟩, List.mem_of_getElem? (i := 140) (by decide +kernel), List.mem_of_getElem? (i := 629) (by decide +kernel), List.mem_of_getElem? (i := 630) (by decide +kernel)⟩
theorem lw_p26 : lw_okq (⟨"CodeSmith$Calculator", "operand", "(I)I"⟩, 6) := ⟨⟨by decide +kernel, by decide +kernel⟩, List.mem_of_getElem? (i := 142) (by decide +kernel), List.mem_of_getElem? (i := 637) (by decide +kernel), List.mem_of_getElem? (i := 638) (by decide +kernel)⟩
theorem lw_p27 : lw_okq (⟨"CodeSmith$Calculator", "named", "()I"⟩, 6) := ⟨⟨by decide +kernel, by decide +kernel⟩, List.mem_of_getElem? (i := 142) (by decide +kernel), List.mem_of_getElem? (i := 646) (by decide +kernel), List.mem_of_getElem? (i := 647) (by decide +kernel)⟩
theorem lw_p28 : lw_okq (⟨"CodeSmith$Calculator", "addressHere", "()I"⟩, 6) := ⟨⟨by decide +kernel, by decide +kernel⟩, List.mem_of_getElem? (i := 142) (by decide +kernel), List.mem_of_getElem? (i := 660) (by decide +kernel), List.mem_of_getElem? (i := 661) (by decide +kernel)⟩
theorem lw_p29 : lw_okq (⟨"CodeSmith$Calculator", "bracketed", "(I)I"⟩, 6) := ⟨⟨by decide +kernel, by decide +kernel⟩, List.mem_of_getElem? (i := 142) (by decide +kernel), List.mem_of_getElem? (i := 664) (by decide +kernel), List.mem_of_getElem? (i := 665) (by decide +kernel)⟩
theorem lw_p30 : lw_okq (⟨"CodeSmith$Calculator", "readHighOrLow", "()Z"⟩, 6) := ⟨⟨by decide +kernel, by decide +kernel⟩, List.mem_of_getElem? (i := 142) (by decide +kernel), List.mem_of_getElem? (i := 669) (by decide +kernel), List.mem_of_getElem? (i := 670) (by decide +kernel)⟩
theorem lw_p31 : lw_okq (⟨"CodeSmith$Calculator", "joined", "(IIII)I"⟩, 6) := ⟨⟨by decide +kernel, by decide +kernel⟩, List.mem_of_getElem? (i := 142) (by decide +kernel), List.mem_of_getElem? (i := 685) (by decide +kernel), List.mem_of_getElem? (i := 686) (by decide +kernel)⟩
def lw_privs_2 : List (MethodName × Nat) := [(⟨"CodeSmith$Assembler", "checkNew", "(II)V"⟩, 16), (⟨"CodeSmith$Tokens", "registerDigits", "(II)I"⟩, 18), (⟨"CodeSmith$Tokens", "registerSpelled", "(II)I"⟩, 18), (⟨"CodeSmith$Symbols", "chainOf", "(II)I"⟩, 9), (⟨"CodeSmith$Symbols", "isSame", "(III)Z"⟩, 9), (⟨"CodeSmith$Assembler", "sectionEnd", "()I"⟩, 16), (⟨"CodeSmith$Symbols", "grow", "()V"⟩, 9), (⟨"CodeSmith$Assembler", "statementNamed", "(II)LCodeSmith$Statement;"⟩, 16), (⟨"CodeSmith$Assembler", "clearOperands", "(I)V"⟩, 16), (⟨"CodeSmith$Assembler", "readList", "(I)V"⟩, 16), (⟨"CodeSmith$Calculator", "operand", "(I)I"⟩, 6), (⟨"CodeSmith$Calculator", "named", "()I"⟩, 6), (⟨"CodeSmith$Calculator", "addressHere", "()I"⟩, 6), (⟨"CodeSmith$Calculator", "bracketed", "(I)I"⟩, 6), (⟨"CodeSmith$Calculator", "readHighOrLow", "()Z"⟩, 6), (⟨"CodeSmith$Calculator", "joined", "(IIII)I"⟩, 6)]
theorem lw_r2 : ∀ q ∈ lw_privs_2, lw_okq q := List.forall_mem_cons.mpr ⟨lw_p16, List.forall_mem_cons.mpr ⟨lw_p17, List.forall_mem_cons.mpr ⟨lw_p18, List.forall_mem_cons.mpr ⟨lw_p19, List.forall_mem_cons.mpr ⟨lw_p20, List.forall_mem_cons.mpr ⟨lw_p21, List.forall_mem_cons.mpr ⟨lw_p22, List.forall_mem_cons.mpr ⟨lw_p23, List.forall_mem_cons.mpr ⟨lw_p24, List.forall_mem_cons.mpr ⟨lw_p25, List.forall_mem_cons.mpr ⟨lw_p26, List.forall_mem_cons.mpr ⟨lw_p27, List.forall_mem_cons.mpr ⟨lw_p28, List.forall_mem_cons.mpr ⟨lw_p29, List.forall_mem_cons.mpr ⟨lw_p30, List.forall_mem_cons.mpr ⟨lw_p31, fun _ h => absurd h List.not_mem_nil⟩⟩⟩⟩⟩⟩⟩⟩⟩⟩⟩⟩⟩⟩⟩⟩
theorem lw_p32 : lw_okq (⟨"CodeSmith$Calculator", "dividedByZero", "(I)I"⟩, 6) := ⟨⟨by decide +kernel, by decide +kernel⟩, List.mem_of_getElem? (i := 142) (by decide +kernel), List.mem_of_getElem? (i := 689) (by decide +kernel), List.mem_of_getElem? (i := 690) (by decide +kernel)⟩
theorem lw_p33 : lw_okq (⟨"CodeSmith$Assembler", "put", "(II)V"⟩, 16) := ⟨⟨by decide +kernel, by decide +kernel⟩, List.mem_of_getElem? (i := 140) (by decide +kernel), List.mem_of_getElem? (i := 693) (by decide +kernel), List.mem_of_getElem? (i := 694) (by decide +kernel)⟩
theorem lw_p34 : lw_okq (⟨"CodeSmith$Assembler", "readString", "(I)V"⟩, 16) := ⟨⟨by decide +kernel, by decide +kernel⟩, List.mem_of_getElem? (i := 140) (by decide +kernel), List.mem_of_getElem? (i := 705) (by decide +kernel), List.mem_of_getElem? (i := 706) (by decide +kernel)⟩
theorem lw_p35 : lw_okq (⟨"CodeSmith$Assembler", "readConstant", "()V"⟩, 16) := ⟨⟨by decide +kernel, by decide +kernel⟩, List.mem_of_getElem? (i := 140) (by decide +kernel), List.mem_of_getElem? (i := 711) (by decide +kernel), List.mem_of_getElem? (i := 712) (by decide +kernel)⟩
theorem lw_p36 : lw_okq (⟨"CodeSmith$Assembler", "patternOf", "(LCodeSmith$Statement;)Ljava/lang/String;"⟩, 16) := ⟨⟨by decide +kernel, by decide +kernel⟩, List.mem_of_getElem? (i := 140) (by decide +kernel), List.mem_of_getElem? (i := 715) (by decide +kernel), List.mem_of_getElem? (i := 716) (by decide +kernel)⟩
theorem lw_p37 : lw_okq (⟨"CodeSmith$Assembler", "readOperands", "(Ljava/lang/String;)V"⟩, 16) := ⟨⟨by decide +kernel, by decide +kernel⟩, List.mem_of_getElem? (i := 140) (by decide +kernel), List.mem_of_getElem? (i := 730) (by decide +kernel), List.mem_of_getElem? (i := 731) (by decide +kernel)⟩
theorem lw_p38 : lw_okq (⟨"CodeSmith$Assembler", "readRegister", "()I"⟩, 16) := ⟨⟨by decide +kernel, by decide +kernel⟩, List.mem_of_getElem? (i := 140) (by decide +kernel), List.mem_of_getElem? (i := 736) (by decide +kernel), List.mem_of_getElem? (i := 737) (by decide +kernel)⟩
theorem lw_p39 : lw_okq (⟨"CodeSmith$Assembler", "isBaseAlone", "(Ljava/lang/String;I)Z"⟩, 16) := ⟨⟨by decide +kernel, by decide +kernel⟩, List.mem_of_getElem? (i := 140) (by decide +kernel), List.mem_of_getElem? (i := 740) (by decide +kernel), List.mem_of_getElem? (i := 741) (by decide +kernel)⟩
theorem lw_p40 : lw_okq (⟨"CodeSmith$Assembler", "putInstruction", "(LCodeSmith$Statement;)V"⟩, 16) := ⟨⟨by decide +kernel, by decide +kernel⟩, List.mem_of_getElem? (i := 140) (by decide +kernel), List.mem_of_getElem? (i := 744) (by decide +kernel), List.mem_of_getElem? (i := 745) (by decide +kernel)⟩
theorem lw_p41 : lw_okq (⟨"CodeSmith$Assembler", "checkNumber", "(III)V"⟩, 16) := ⟨⟨by decide +kernel, by decide +kernel⟩, List.mem_of_getElem? (i := 140) (by decide +kernel), List.mem_of_getElem? (i := 748) (by decide +kernel), List.mem_of_getElem? (i := 749) (by decide +kernel)⟩
theorem lw_p42 : lw_okq (⟨"CodeSmith$Assembler", "checkDistance", "(II)V"⟩, 16) := ⟨⟨by decide +kernel, by decide +kernel⟩, List.mem_of_getElem? (i := 140) (by decide +kernel), List.mem_of_getElem? (i := 752) (by decide +kernel), List.mem_of_getElem? (i := 753) (by decide +kernel)⟩
theorem lw_p43 : lw_okq (⟨"CodeSmith$Assembler", "putAddress", "()V"⟩, 16) := ⟨⟨by decide +kernel, by decide +kernel⟩, List.mem_of_getElem? (i := 140) (by decide +kernel), List.mem_of_getElem? (i := 764) (by decide +kernel), List.mem_of_getElem? (i := 765) (by decide +kernel)⟩
theorem lw_p44 : lw_okq (⟨"CodeSmith$Assembler", "isShort", "()Z"⟩, 16) := ⟨⟨by decide +kernel, by decide +kernel⟩, List.mem_of_getElem? (i := 140) (by decide +kernel), List.mem_of_getElem? (i := 774) (by decide +kernel), List.mem_of_getElem? (i := 775) (by decide +kernel)⟩
theorem lw_p45 : lw_okq (⟨"CodeSmith$Assembler", "check", "(LCodeSmith$Statement;)V"⟩, 16) := ⟨⟨by decide +kernel, by decide +kernel⟩, List.mem_of_getElem? (i := 140) (by decide +kernel), List.mem_of_getElem? (i := 778) (by decide +kernel), List.mem_of_getElem? (i := 779) (by decide +kernel)⟩
theorem lw_p46 : lw_okq (⟨"CodeSmith$Assembler", "bytesOf", "(LCodeSmith$Statement;)I"⟩, 16) := ⟨⟨by decide +kernel, by decide +kernel⟩, List.mem_of_getElem? (i := 140) (by decide +kernel), List.mem_of_getElem? (i := 783) (by decide +kernel), List.mem_of_getElem? (i := 784) (by decide +kernel)⟩
theorem lw_p47 : lw_okq (⟨"CodeSmith$Assembler", "goOn", "(LCodeSmith$Statement;)V"⟩, 16) := ⟨⟨by decide +kernel, by decide +kernel⟩, List.mem_of_getElem? (i := 140) (by decide +kernel), List.mem_of_getElem? (i := 787) (by decide +kernel), List.mem_of_getElem? (i := 788) (by decide +kernel)⟩
def lw_privs_3 : List (MethodName × Nat) := [(⟨"CodeSmith$Calculator", "dividedByZero", "(I)I"⟩, 6), (⟨"CodeSmith$Assembler", "put", "(II)V"⟩, 16), (⟨"CodeSmith$Assembler", "readString", "(I)V"⟩, 16), (⟨"CodeSmith$Assembler", "readConstant", "()V"⟩, 16), (⟨"CodeSmith$Assembler", "patternOf", "(LCodeSmith$Statement;)Ljava/lang/String;"⟩, 16), (⟨"CodeSmith$Assembler", "readOperands", "(Ljava/lang/String;)V"⟩, 16), (⟨"CodeSmith$Assembler", "readRegister", "()I"⟩, 16), (⟨"CodeSmith$Assembler", "isBaseAlone", "(Ljava/lang/String;I)Z"⟩, 16), (⟨"CodeSmith$Assembler", "putInstruction", "(LCodeSmith$Statement;)V"⟩, 16), (⟨"CodeSmith$Assembler", "checkNumber", "(III)V"⟩, 16), (⟨"CodeSmith$Assembler", "checkDistance", "(II)V"⟩, 16), (⟨"CodeSmith$Assembler", "putAddress", "()V"⟩, 16), (⟨"CodeSmith$Assembler", "isShort", "()Z"⟩, 16), (⟨"CodeSmith$Assembler", "check", "(LCodeSmith$Statement;)V"⟩, 16), (⟨"CodeSmith$Assembler", "bytesOf", "(LCodeSmith$Statement;)I"⟩, 16), (⟨"CodeSmith$Assembler", "goOn", "(LCodeSmith$Statement;)V"⟩, 16)]
theorem lw_r3 : ∀ q ∈ lw_privs_3, lw_okq q := List.forall_mem_cons.mpr ⟨lw_p32, List.forall_mem_cons.mpr ⟨lw_p33, List.forall_mem_cons.mpr ⟨lw_p34, List.forall_mem_cons.mpr ⟨lw_p35, List.forall_mem_cons.mpr ⟨lw_p36, List.forall_mem_cons.mpr ⟨lw_p37, List.forall_mem_cons.mpr ⟨lw_p38, List.forall_mem_cons.mpr ⟨lw_p39, List.forall_mem_cons.mpr ⟨lw_p40, List.forall_mem_cons.mpr ⟨lw_p41, List.forall_mem_cons.mpr ⟨lw_p42, List.forall_mem_cons.mpr ⟨lw_p43, List.forall_mem_cons.mpr ⟨lw_p44, List.forall_mem_cons.mpr ⟨lw_p45, List.forall_mem_cons.mpr ⟨lw_p46, List.forall_mem_cons.mpr ⟨lw_p47, fun _ h => absurd h List.not_mem_nil⟩⟩⟩⟩⟩⟩⟩⟩⟩⟩⟩⟩⟩⟩⟩⟩
theorem lw_p48 : lw_okq (⟨"CodeSmith$Image", "putPart", "(IIIII)V"⟩, 5) := ⟨⟨by decide +kernel, by decide +kernel⟩, List.mem_of_getElem? (i := 175) (by decide +kernel), List.mem_of_getElem? (i := 819) (by decide +kernel), List.mem_of_getElem? (i := 820) (by decide +kernel)⟩
theorem lw_p49 : lw_okq (⟨"CodeSmithModel", "pass", "()V"⟩, 48) := ⟨⟨by decide +kernel, by decide +kernel⟩, List.mem_of_getElem? (i := 823) (by decide +kernel), List.mem_of_getElem? (i := 1113) (by decide +kernel), List.mem_of_getElem? (i := 1114) (by decide +kernel)⟩
theorem lw_p50 : lw_okq (⟨"CodeSmithModel", "statement", "()V"⟩, 48) := ⟨⟨by decide +kernel, by decide +kernel⟩, List.mem_of_getElem? (i := 823) (by decide +kernel), List.mem_of_getElem? (i := 1117) (by decide +kernel), List.mem_of_getElem? (i := 1118) (by decide +kernel)⟩
theorem lw_p51 : lw_okq (⟨"CodeSmithModel", "labels", "()V"⟩, 48) := ⟨⟨by decide +kernel, by decide +kernel⟩, List.mem_of_getElem? (i := 823) (by decide +kernel), List.mem_of_getElem? (i := 1121) (by decide +kernel), List.mem_of_getElem? (i := 1122) (by decide +kernel)⟩
theorem lw_p52 : lw_okq (⟨"CodeSmithModel", "next", "()V"⟩, 48) := ⟨⟨by decide +kernel, by decide +kernel⟩, List.mem_of_getElem? (i := 823) (by decide +kernel), List.mem_of_getElem? (i := 1125) (by decide +kernel), List.mem_of_getElem? (i := 1126) (by decide +kernel)⟩
theorem lw_p53 : lw_okq (⟨"CodeSmithModel", "blanks", "()V"⟩, 48) := ⟨⟨by decide +kernel, by decide +kernel⟩, List.mem_of_getElem? (i := 823) (by decide +kernel), List.mem_of_getElem? (i := 1129) (by decide +kernel), List.mem_of_getElem? (i := 1130) (by decide +kernel)⟩
theorem lw_p54 : lw_okq (⟨"CodeSmithModel", "here", "(I)I"⟩, 48) := ⟨⟨by decide +kernel, by decide +kernel⟩, List.mem_of_getElem? (i := 823) (by decide +kernel), List.mem_of_getElem? (i := 1133) (by decide +kernel), List.mem_of_getElem? (i := 1134) (by decide +kernel)⟩
theorem lw_p55 : lw_okq (⟨"CodeSmithModel", "flawed", "(I)V"⟩, 48) := ⟨⟨by decide +kernel, by decide +kernel⟩, List.mem_of_getElem? (i := 823) (by decide +kernel), List.mem_of_getElem? (i := 1146) (by decide +kernel), List.mem_of_getElem? (i := 1147) (by decide +kernel)⟩
theorem lw_p56 : lw_okq (⟨"CodeSmithModel", "number", "()V"⟩, 48) := ⟨⟨by decide +kernel, by decide +kernel⟩, List.mem_of_getElem? (i := 823) (by decide +kernel), List.mem_of_getElem? (i := 1150) (by decide +kernel), List.mem_of_getElem? (i := 1151) (by decide +kernel)⟩
theorem lw_p57 : lw_okq (⟨"CodeSmithModel", "letter", "()V"⟩, 48) := ⟨⟨by decide +kernel, by decide +kernel⟩, List.mem_of_getElem? (i := 823) (by decide +kernel), List.mem_of_getElem? (i := 1157) (by decide +kernel), List.mem_of_getElem? (i := 1158) (by decide +kernel)⟩
theorem lw_p58 : lw_okq (⟨"CodeSmithModel", "character", "(I)I"⟩, 48) := ⟨⟨by decide +kernel, by decide +kernel⟩, List.mem_of_getElem? (i := 823) (by decide +kernel), List.mem_of_getElem? (i := 1161) (by decide +kernel), List.mem_of_getElem? (i := 1162) (by decide +kernel)⟩
theorem lw_p59 : lw_okq (⟨"CodeSmithModel", "string", "()V"⟩, 48) := ⟨⟨by decide +kernel, by decide +kernel⟩, List.mem_of_getElem? (i := 823) (by decide +kernel), List.mem_of_getElem? (i := 1165) (by decide +kernel), List.mem_of_getElem? (i := 1166) (by decide +kernel)⟩
theorem lw_p60 : lw_okq (⟨"CodeSmithModel", "sign", "(I)V"⟩, 48) := ⟨⟨by decide +kernel, by decide +kernel⟩, List.mem_of_getElem? (i := 823) (by decide +kernel), List.mem_of_getElem? (i := 1169) (by decide +kernel), List.mem_of_getElem? (i := 1170) (by decide +kernel)⟩
theorem lw_p61 : lw_okq (⟨"CodeSmithModel", "takes", "()V"⟩, 48) := ⟨⟨by decide +kernel, by decide +kernel⟩, List.mem_of_getElem? (i := 823) (by decide +kernel), List.mem_of_getElem? (i := 1173) (by decide +kernel), List.mem_of_getElem? (i := 1174) (by decide +kernel)⟩
theorem lw_p62 : lw_okq (⟨"CodeSmithModel", "fail", "(II)V"⟩, 48) := ⟨⟨by decide +kernel, by decide +kernel⟩, List.mem_of_getElem? (i := 823) (by decide +kernel), List.mem_of_getElem? (i := 1177) (by decide +kernel), List.mem_of_getElem? (i := 1178) (by decide +kernel)⟩
theorem lw_p63 : lw_okq (⟨"CodeSmithModel", "mustBeNew", "()V"⟩, 48) := ⟨⟨by decide +kernel, by decide +kernel⟩, List.mem_of_getElem? (i := 823) (by decide +kernel), List.mem_of_getElem? (i := 1181) (by decide +kernel), List.mem_of_getElem? (i := 1182) (by decide +kernel)⟩
def lw_privs_4 : List (MethodName × Nat) := [(⟨"CodeSmith$Image", "putPart", "(IIIII)V"⟩, 5), (⟨"CodeSmithModel", "pass", "()V"⟩, 48), (⟨"CodeSmithModel", "statement", "()V"⟩, 48), (⟨"CodeSmithModel", "labels", "()V"⟩, 48), (⟨"CodeSmithModel", "next", "()V"⟩, 48), (⟨"CodeSmithModel", "blanks", "()V"⟩, 48), (⟨"CodeSmithModel", "here", "(I)I"⟩, 48), (⟨"CodeSmithModel", "flawed", "(I)V"⟩, 48), (⟨"CodeSmithModel", "number", "()V"⟩, 48), (⟨"CodeSmithModel", "letter", "()V"⟩, 48), (⟨"CodeSmithModel", "character", "(I)I"⟩, 48), (⟨"CodeSmithModel", "string", "()V"⟩, 48), (⟨"CodeSmithModel", "sign", "(I)V"⟩, 48), (⟨"CodeSmithModel", "takes", "()V"⟩, 48), (⟨"CodeSmithModel", "fail", "(II)V"⟩, 48), (⟨"CodeSmithModel", "mustBeNew", "()V"⟩, 48)]
theorem lw_r4 : ∀ q ∈ lw_privs_4, lw_okq q := List.forall_mem_cons.mpr ⟨lw_p48, List.forall_mem_cons.mpr ⟨lw_p49, List.forall_mem_cons.mpr ⟨lw_p50, List.forall_mem_cons.mpr ⟨lw_p51, List.forall_mem_cons.mpr ⟨lw_p52, List.forall_mem_cons.mpr ⟨lw_p53, List.forall_mem_cons.mpr ⟨lw_p54, List.forall_mem_cons.mpr ⟨lw_p55, List.forall_mem_cons.mpr ⟨lw_p56, List.forall_mem_cons.mpr ⟨lw_p57, List.forall_mem_cons.mpr ⟨lw_p58, List.forall_mem_cons.mpr ⟨lw_p59, List.forall_mem_cons.mpr ⟨lw_p60, List.forall_mem_cons.mpr ⟨lw_p61, List.forall_mem_cons.mpr ⟨lw_p62, List.forall_mem_cons.mpr ⟨lw_p63, fun _ h => absurd h List.not_mem_nil⟩⟩⟩⟩⟩⟩⟩⟩⟩⟩⟩⟩⟩⟩⟩⟩
theorem lw_p64 : lw_okq (⟨"CodeSmithModel", "symbol", "(II)I"⟩, 48) := ⟨⟨by decide +kernel, by decide +kernel⟩, List.mem_of_getElem? (i := 823) (by decide +kernel), List.mem_of_getElem? (i := 1185) (by decide +kernel), List.mem_of_getElem? (i := 1186) (by decide +kernel)⟩
theorem lw_p65 : lw_okq (⟨"CodeSmithModel", "registerAt", "(II)I"⟩, 48) := ⟨⟨by decide +kernel, by decide +kernel⟩, List.mem_of_getElem? (i := 823) (by decide +kernel), List.mem_of_getElem? (i := 1189) (by decide +kernel), List.mem_of_getElem? (i := 1190) (by decide +kernel)⟩
theorem lw_p66 : lw_okq (⟨"CodeSmithModel", "word", "([JII)I"⟩, 48) := ⟨⟨by decide +kernel, by decide +kernel⟩, List.mem_of_getElem? (i := 823) (by decide +kernel), List.mem_of_getElem? (i := 1193) (by decide +kernel), List.mem_of_getElem? (i := 1194) (by decide +kernel)⟩
theorem lw_p67 : lw_okq (⟨"CodeSmithModel", "packed", "(II)J"⟩, 48) := ⟨⟨by decide +kernel, by decide +kernel⟩, List.mem_of_getElem? (i := 823) (by decide +kernel), List.mem_of_getElem? (i := 1197) (by decide +kernel), List.mem_of_getElem? (i := 1198) (by decide +kernel)⟩
theorem lw_p68 : lw_okq (⟨"CodeSmithModel", "define", "(IIII)V"⟩, 48) := ⟨⟨by decide +kernel, by decide +kernel⟩, List.mem_of_getElem? (i := 823) (by decide +kernel), List.mem_of_getElem? (i := 1201) (by decide +kernel), List.mem_of_getElem? (i := 1202) (by decide +kernel)⟩
theorem lw_p69 : lw_okq (⟨"CodeSmithModel", "instruction", "(I)V"⟩, 48) := ⟨⟨by decide +kernel, by decide +kernel⟩, List.mem_of_getElem? (i := 823) (by decide +kernel), List.mem_of_getElem? (i := 1205) (by decide +kernel), List.mem_of_getElem? (i := 1206) (by decide +kernel)⟩
theorem lw_p70 : lw_okq (⟨"CodeSmithModel", "registerAndComma", "()I"⟩, 48) := ⟨⟨by decide +kernel, by decide +kernel⟩, List.mem_of_getElem? (i := 823) (by decide +kernel), List.mem_of_getElem? (i := 1209) (by decide +kernel), List.mem_of_getElem? (i := 1210) (by decide +kernel)⟩
theorem lw_p71 : lw_okq (⟨"CodeSmithModel", "register", "()I"⟩, 48) := ⟨⟨by decide +kernel, by decide +kernel⟩, List.mem_of_getElem? (i := 823) (by decide +kernel), List.mem_of_getElem? (i := 1213) (by decide +kernel), List.mem_of_getElem? (i := 1214) (by decide +kernel)⟩
theorem lw_p72 : lw_okq (⟨"CodeSmithModel", "need", "(I)V"⟩, 48) := ⟨⟨by decide +kernel, by decide +kernel⟩, List.mem_of_getElem? (i := 823) (by decide +kernel), List.mem_of_getElem? (i := 1217) (by decide +kernel), List.mem_of_getElem? (i := 1218) (by decide +kernel)⟩
theorem lw_p73 : lw_okq (⟨"CodeSmithModel", "is", "(I)Z"⟩, 48) := ⟨⟨by decide +kernel, by decide +kernel⟩, List.mem_of_getElem? (i := 823) (by decide +kernel), List.mem_of_getElem? (i := 1221) (by decide +kernel), List.mem_of_getElem? (i := 1222) (by decide +kernel)⟩
theorem lw_p74 : lw_okq (⟨"CodeSmithModel", "put", "(II)V"⟩, 48) := ⟨⟨by decide +kernel, by decide +kernel⟩, List.mem_of_getElem? (i := 823) (by decide +kernel), List.mem_of_getElem? (i := 1228) (by decide +kernel), List.mem_of_getElem? (i := 1229) (by decide +kernel)⟩
theorem lw_p75 : lw_okq (⟨"CodeSmithModel", "later", "()I"⟩, 48) := ⟨⟨by decide +kernel, by decide +kernel⟩, List.mem_of_getElem? (i := 823) (by decide +kernel), List.mem_of_getElem? (i := 1233) (by decide +kernel), List.mem_of_getElem? (i := 1234) (by decide +kernel)⟩
theorem lw_p76 : lw_okq (⟨"CodeSmithModel", "expression", "(I)I"⟩, 48) := ⟨⟨by decide +kernel, by decide +kernel⟩, List.mem_of_getElem? (i := 823) (by decide +kernel), List.mem_of_getElem? (i := 1237) (by decide +kernel), List.mem_of_getElem? (i := 1238) (by decide +kernel)⟩
theorem lw_p77 : lw_okq (⟨"CodeSmithModel", "operandBegins", "(I)Z"⟩, 48) := ⟨⟨by decide +kernel, by decide +kernel⟩, List.mem_of_getElem? (i := 823) (by decide +kernel), List.mem_of_getElem? (i := 1241) (by decide +kernel), List.mem_of_getElem? (i := 1242) (by decide +kernel)⟩
theorem lw_p78 : lw_okq (⟨"CodeSmithModel", "nameValue", "(I)I"⟩, 48) := ⟨⟨by decide +kernel, by decide +kernel⟩, List.mem_of_getElem? (i := 823) (by decide +kernel), List.mem_of_getElem? (i := 1245) (by decide +kernel), List.mem_of_getElem? (i := 1246) (by decide +kernel)⟩
theorem lw_p79 : lw_okq (⟨"CodeSmithModel", "operand", "(I)V"⟩, 48) := ⟨⟨by decide +kernel, by decide +kernel⟩, List.mem_of_getElem? (i := 823) (by decide +kernel), List.mem_of_getElem? (i := 1249) (by decide +kernel), List.mem_of_getElem? (i := 1250) (by decide +kernel)⟩
def lw_privs_5 : List (MethodName × Nat) := [(⟨"CodeSmithModel", "symbol", "(II)I"⟩, 48), (⟨"CodeSmithModel", "registerAt", "(II)I"⟩, 48), (⟨"CodeSmithModel", "word", "([JII)I"⟩, 48), (⟨"CodeSmithModel", "packed", "(II)J"⟩, 48), (⟨"CodeSmithModel", "define", "(IIII)V"⟩, 48), (⟨"CodeSmithModel", "instruction", "(I)V"⟩, 48), (⟨"CodeSmithModel", "registerAndComma", "()I"⟩, 48), (⟨"CodeSmithModel", "register", "()I"⟩, 48), (⟨"CodeSmithModel", "need", "(I)V"⟩, 48), (⟨"CodeSmithModel", "is", "(I)Z"⟩, 48), (⟨"CodeSmithModel", "put", "(II)V"⟩, 48), (⟨"CodeSmithModel", "later", "()I"⟩, 48), (⟨"CodeSmithModel", "expression", "(I)I"⟩, 48), (⟨"CodeSmithModel", "operandBegins", "(I)Z"⟩, 48), (⟨"CodeSmithModel", "nameValue", "(I)I"⟩, 48), (⟨"CodeSmithModel", "operand", "(I)V"⟩, 48)]
theorem lw_r5 : ∀ q ∈ lw_privs_5, lw_okq q := List.forall_mem_cons.mpr ⟨lw_p64, List.forall_mem_cons.mpr ⟨lw_p65, List.forall_mem_cons.mpr ⟨lw_p66, List.forall_mem_cons.mpr ⟨lw_p67, List.forall_mem_cons.mpr ⟨lw_p68, List.forall_mem_cons.mpr ⟨lw_p69, List.forall_mem_cons.mpr ⟨lw_p70, List.forall_mem_cons.mpr ⟨lw_p71, List.forall_mem_cons.mpr ⟨lw_p72, List.forall_mem_cons.mpr ⟨lw_p73, List.forall_mem_cons.mpr ⟨lw_p74, List.forall_mem_cons.mpr ⟨lw_p75, List.forall_mem_cons.mpr ⟨lw_p76, List.forall_mem_cons.mpr ⟨lw_p77, List.forall_mem_cons.mpr ⟨lw_p78, List.forall_mem_cons.mpr ⟨lw_p79, fun _ h => absurd h List.not_mem_nil⟩⟩⟩⟩⟩⟩⟩⟩⟩⟩⟩⟩⟩⟩⟩⟩
theorem lw_p80 : lw_okq (⟨"CodeSmithModel", "reduce", "(I)V"⟩, 48) := ⟨⟨by decide +kernel, by decide +kernel⟩, List.mem_of_getElem? (i := 823) (by decide +kernel), List.mem_of_getElem? (i := 1256) (by decide +kernel), List.mem_of_getElem? (i := 1257) (by decide +kernel)⟩
theorem lw_p81 : lw_okq (⟨"CodeSmithModel", "before", "(I)V"⟩, 48) := ⟨⟨by decide +kernel, by decide +kernel⟩, List.mem_of_getElem? (i := 823) (by decide +kernel), List.mem_of_getElem? (i := 1263) (by decide +kernel), List.mem_of_getElem? (i := 1264) (by decide +kernel)⟩
theorem lw_p82 : lw_okq (⟨"CodeSmithModel", "push", "(II)V"⟩, 48) := ⟨⟨by decide +kernel, by decide +kernel⟩, List.mem_of_getElem? (i := 823) (by decide +kernel), List.mem_of_getElem? (i := 1267) (by decide +kernel), List.mem_of_getElem? (i := 1268) (by decide +kernel)⟩
theorem lw_p83 : lw_okq (⟨"CodeSmithModel", "bracket", "(I)V"⟩, 48) := ⟨⟨by decide +kernel, by decide +kernel⟩, List.mem_of_getElem? (i := 823) (by decide +kernel), List.mem_of_getElem? (i := 1271) (by decide +kernel), List.mem_of_getElem? (i := 1272) (by decide +kernel)⟩
theorem lw_p84 : lw_okq (⟨"CodeSmithModel", "goesOn", "(I)Z"⟩, 48) := ⟨⟨by decide +kernel, by decide +kernel⟩, List.mem_of_getElem? (i := 823) (by decide +kernel), List.mem_of_getElem? (i := 1277) (by decide +kernel), List.mem_of_getElem? (i := 1278) (by decide +kernel)⟩
theorem lw_p85 : lw_okq (⟨"CodeSmithModel", "within", "(III)I"⟩, 48) := ⟨⟨by decide +kernel, by decide +kernel⟩, List.mem_of_getElem? (i := 823) (by decide +kernel), List.mem_of_getElem? (i := 1287) (by decide +kernel), List.mem_of_getElem? (i := 1288) (by decide +kernel)⟩
theorem lw_p86 : lw_okq (⟨"CodeSmithModel", "memory", "()I"⟩, 48) := ⟨⟨by decide +kernel, by decide +kernel⟩, List.mem_of_getElem? (i := 823) (by decide +kernel), List.mem_of_getElem? (i := 1294) (by decide +kernel), List.mem_of_getElem? (i := 1295) (by decide +kernel)⟩
theorem lw_p87 : lw_okq (⟨"CodeSmithModel", "registerFollows", "()Z"⟩, 48) := ⟨⟨by decide +kernel, by decide +kernel⟩, List.mem_of_getElem? (i := 823) (by decide +kernel), List.mem_of_getElem? (i := 1298) (by decide +kernel), List.mem_of_getElem? (i := 1299) (by decide +kernel)⟩
theorem lw_p88 : lw_okq (⟨"CodeSmithModel", "branch", "(IIII)V"⟩, 48) := ⟨⟨by decide +kernel, by decide +kernel⟩, List.mem_of_getElem? (i := 823) (by decide +kernel), List.mem_of_getElem? (i := 1302) (by decide +kernel), List.mem_of_getElem? (i := 1303) (by decide +kernel)⟩
theorem lw_p89 : lw_okq (⟨"CodeSmithModel", "jump", "(II)V"⟩, 48) := ⟨⟨by decide +kernel, by decide +kernel⟩, List.mem_of_getElem? (i := 823) (by decide +kernel), List.mem_of_getElem? (i := 1307) (by decide +kernel), List.mem_of_getElem? (i := 1308) (by decide +kernel)⟩
theorem lw_p90 : lw_okq (⟨"CodeSmithModel", "other", "(I)V"⟩, 48) := ⟨⟨by decide +kernel, by decide +kernel⟩, List.mem_of_getElem? (i := 823) (by decide +kernel), List.mem_of_getElem? (i := 1314) (by decide +kernel), List.mem_of_getElem? (i := 1315) (by decide +kernel)⟩
theorem lw_p91 : lw_okq (⟨"CodeSmithModel", "far", "(II)V"⟩, 48) := ⟨⟨by decide +kernel, by decide +kernel⟩, List.mem_of_getElem? (i := 823) (by decide +kernel), List.mem_of_getElem? (i := 1318) (by decide +kernel), List.mem_of_getElem? (i := 1319) (by decide +kernel)⟩
theorem lw_p92 : lw_okq (⟨"CodeSmithModel", "directive", "(I)V"⟩, 48) := ⟨⟨by decide +kernel, by decide +kernel⟩, List.mem_of_getElem? (i := 823) (by decide +kernel), List.mem_of_getElem? (i := 1322) (by decide +kernel), List.mem_of_getElem? (i := 1323) (by decide +kernel)⟩
theorem lw_p93 : lw_okq (⟨"CodeSmithModel", "gap", "(I)V"⟩, 48) := ⟨⟨by decide +kernel, by decide +kernel⟩, List.mem_of_getElem? (i := 823) (by decide +kernel), List.mem_of_getElem? (i := 1326) (by decide +kernel), List.mem_of_getElem? (i := 1327) (by decide +kernel)⟩
theorem lw_p94 : lw_okq (⟨"CodeSmithModel", "constant", "(I)V"⟩, 48) := ⟨⟨by decide +kernel, by decide +kernel⟩, List.mem_of_getElem? (i := 823) (by decide +kernel), List.mem_of_getElem? (i := 1330) (by decide +kernel), List.mem_of_getElem? (i := 1331) (by decide +kernel)⟩
theorem lw_p95 : lw_okq (⟨"CodeSmithModel", "build", "()V"⟩, 48) := ⟨⟨by decide +kernel, by decide +kernel⟩, List.mem_of_getElem? (i := 823) (by decide +kernel), List.mem_of_getElem? (i := 1334) (by decide +kernel), List.mem_of_getElem? (i := 1335) (by decide +kernel)⟩
def lw_privs_6 : List (MethodName × Nat) := [(⟨"CodeSmithModel", "reduce", "(I)V"⟩, 48), (⟨"CodeSmithModel", "before", "(I)V"⟩, 48), (⟨"CodeSmithModel", "push", "(II)V"⟩, 48), (⟨"CodeSmithModel", "bracket", "(I)V"⟩, 48), (⟨"CodeSmithModel", "goesOn", "(I)Z"⟩, 48), (⟨"CodeSmithModel", "within", "(III)I"⟩, 48), (⟨"CodeSmithModel", "memory", "()I"⟩, 48), (⟨"CodeSmithModel", "registerFollows", "()Z"⟩, 48), (⟨"CodeSmithModel", "branch", "(IIII)V"⟩, 48), (⟨"CodeSmithModel", "jump", "(II)V"⟩, 48), (⟨"CodeSmithModel", "other", "(I)V"⟩, 48), (⟨"CodeSmithModel", "far", "(II)V"⟩, 48), (⟨"CodeSmithModel", "directive", "(I)V"⟩, 48), (⟨"CodeSmithModel", "gap", "(I)V"⟩, 48), (⟨"CodeSmithModel", "constant", "(I)V"⟩, 48), (⟨"CodeSmithModel", "build", "()V"⟩, 48)]
theorem lw_r6 : ∀ q ∈ lw_privs_6, lw_okq q := List.forall_mem_cons.mpr ⟨lw_p80, List.forall_mem_cons.mpr ⟨lw_p81, List.forall_mem_cons.mpr ⟨lw_p82, List.forall_mem_cons.mpr ⟨lw_p83, List.forall_mem_cons.mpr ⟨lw_p84, List.forall_mem_cons.mpr ⟨lw_p85, List.forall_mem_cons.mpr ⟨lw_p86, List.forall_mem_cons.mpr ⟨lw_p87, List.forall_mem_cons.mpr ⟨lw_p88, List.forall_mem_cons.mpr ⟨lw_p89, List.forall_mem_cons.mpr ⟨lw_p90, List.forall_mem_cons.mpr ⟨lw_p91, List.forall_mem_cons.mpr ⟨lw_p92, List.forall_mem_cons.mpr ⟨lw_p93, List.forall_mem_cons.mpr ⟨lw_p94, List.forall_mem_cons.mpr ⟨lw_p95, fun _ h => absurd h List.not_mem_nil⟩⟩⟩⟩⟩⟩⟩⟩⟩⟩⟩⟩⟩⟩⟩⟩
theorem lw_p96 : lw_okq (⟨"CodeSmithModel", "entry", "()I"⟩, 48) := ⟨⟨by decide +kernel, by decide +kernel⟩, List.mem_of_getElem? (i := 823) (by decide +kernel), List.mem_of_getElem? (i := 1341) (by decide +kernel), List.mem_of_getElem? (i := 1342) (by decide +kernel)⟩
theorem lw_p97 : lw_okq (⟨"CodeSmithModel", "lay", "(III)V"⟩, 48) := ⟨⟨by decide +kernel, by decide +kernel⟩, List.mem_of_getElem? (i := 823) (by decide +kernel), List.mem_of_getElem? (i := 1347) (by decide +kernel), List.mem_of_getElem? (i := 1348) (by decide +kernel)⟩
theorem lw_p98 : lw_okq (⟨"CodeSmithModel", "part", "(IIIII)V"⟩, 48) := ⟨⟨by decide +kernel, by decide +kernel⟩, List.mem_of_getElem? (i := 823) (by decide +kernel), List.mem_of_getElem? (i := 1351) (by decide +kernel), List.mem_of_getElem? (i := 1352) (by decide +kernel)⟩
def lw_privs_7 : List (MethodName × Nat) := [(⟨"CodeSmithModel", "entry", "()I"⟩, 48), (⟨"CodeSmithModel", "lay", "(III)V"⟩, 48), (⟨"CodeSmithModel", "part", "(IIIII)V"⟩, 48)]
theorem lw_r7 : ∀ q ∈ lw_privs_7, lw_okq q := List.forall_mem_cons.mpr ⟨lw_p96, List.forall_mem_cons.mpr ⟨lw_p97, List.forall_mem_cons.mpr ⟨lw_p98, fun _ h => absurd h List.not_mem_nil⟩⟩⟩
def lw_privs : List (MethodName × Nat) := lw_privs_1 ++ (lw_privs_2 ++ (lw_privs_3 ++ (lw_privs_4 ++ (lw_privs_5 ++ (lw_privs_6 ++ (lw_privs_7))))))
def lw_tbl : List Cond := k2_sels lw_privs ++ tables_1
theorem lw_privs_ok : ∀ q ∈ lw_privs, lw_okq q := by
  show ∀ q ∈ lw_privs_1 ++ (lw_privs_2 ++ (lw_privs_3 ++ (lw_privs_4 ++ (lw_privs_5 ++ (lw_privs_6 ++ (lw_privs_7)))))), lw_okq q
  exact List.forall_mem_append.mpr ⟨lw_r1, List.forall_mem_append.mpr ⟨lw_r2, List.forall_mem_append.mpr ⟨lw_r3, List.forall_mem_append.mpr ⟨lw_r4, List.forall_mem_append.mpr ⟨lw_r5, List.forall_mem_append.mpr ⟨lw_r6, lw_r7⟩⟩⟩⟩⟩⟩
end
section
/-! ===== BEGIN words of one list among another's, by their places ===== -/
theorem goodIn_r {big : List Cond} (ws : List Cond) (ps : List Nat) (hp : ws = ps.filterMap (fun i => big[i]?)) (h : ws.all goodWord = true) : GoodIn big ws := by
  intro w hw
  have h1 := List.all_eq_true.mp h w hw
  rw [hp] at hw
  obtain ⟨i, -, hi⟩ := List.mem_filterMap.mp hw
  have hm : w ∈ big := by first | exact List.mem_of_getElem? hi | exact List.getElem?_mem hi
  exact ⟨hm, good_of_word h1⟩
theorem goodIn_app {big a b : List Cond} (ha : GoodIn big a) (hb : GoodIn big b) : GoodIn big (a ++ b) := fun w h => (List.mem_append.mp h).elim (ha w) (hb w)
theorem goodIn_ca {big a b : List Cond} {c : Cond} (ha : GoodIn big (c :: a)) (hb : GoodIn big b) : GoodIn big (c :: (a ++ b)) := fun w h => (List.mem_cons.mp h).elim (fun e => ha w (List.mem_cons.mpr (Or.inl e))) (fun h => (List.mem_append.mp h).elim (fun h => ha w (List.mem_cons.mpr (Or.inr h))) (hb w))
theorem goodIn_sub {big ws : List Cond} (hm : ∀ w ∈ ws, w ∈ big) (h : ws.all goodWord = true) : GoodIn big ws := fun w hw => ⟨hm w hw, good_of_word (List.all_eq_true.mp h w hw)⟩
/-! ===== END ===== -/

/-! ===== BEGIN exceptions that leave a method, and their catching by the caller (launches without stack traces) ===== -/
section VXA
/-! The laws vx_back, vx_callV, vx_callS, vx_callSW, vx_throw0, vx_throwS follow proofs of the library, with one case more: JvmDerived/Free/Laws.lean (Back.of_free), Shelf42/LK1.lean (callV, callS), Shelf/KitTraced.lean (throwNew0V, throwNewS). -/
/-- where a method has thrown q: the class by its name, the cell, what was written, the world -/
def vx_T (XC : String → State → State → Prop) (st : State) (q : Addr) (t : State) (mc ms : Nat) (free : Addr → Prop) : Prop :=
  ∃ (E : String) (ce : Cell) (L : List Loc), XC E st t ∧ t.heap[q]? = some ce ∧ ce.vm = .none ∧ st.vm.findClass E = some ce.cls ∧ st.WarmedH t.vm ∧ st.sameButNew ({ t with vm := st.vm } : State) L mc ms ∧ ∀ z ∈ L, free z.base
def vx_Q (Qc : Array Value → State → Outcome → State → Prop) (XC : String → State → State → Prop) (mc ms : Nat) (free : Addr → Prop) : Array Value → State → Outcome → State → Prop := fun a st o t =>
  (Qc a st o t ∧ ∃ L, FrameEnd st o t L mc ms ∧ ∀ q ∈ L, free q.base) ∨ ∃ q, o = .threw q ∧ vx_T XC st q t mc ms free
/-- a callee that returns or throws -/
def vx_Met (l : Launch) (y : MethodName) (ws : List Cond) (rm : Room) (Pc : Array Value → State → Prop) (Qc : Array Value → State → Outcome → State → Prop) (XC : String → State → State → Prop) (mc ms : Nat) (free : Addr → Prop) : Prop :=
  MetFree l y (headSpec ws rm) Pc (fun _ _ _ _ _ => True) (vx_Q Qc XC mc ms free)
def vx_Post (XC : String → State → State → Prop) (mc ms : Nat) (free : Addr → Prop) : Pt → Array Value → Addr → Pt → Prop := fun A a q B =>
  ∃ (g : JFrame) (mk : MethodId) (t : State) (L : List Loc) (E : String) (ce : Cell), B.U.heap = t.heap ∧ B.U.vm = t.vm ∧ XC E (A.U.calling g mk a) t ∧ t.heap[q]? = some ce ∧ ce.vm = .none ∧ A.U.vm.findClass E = some ce.cls ∧ B.locs = A.locs ++ L ∧ (∀ z ∈ L, free z.base) ∧ B.cells = A.cells + mc ∧ B.slots = A.slots + ms
def vx_Back (l : Launch) (R : Room) (p : Program) (e : Env) (below : List Frame) (s : State) (sargs : Array Value) (y : MethodName) (len W9 : Nat)
    (Pre : Pt → Array Value → Prop) (Post : Pt → Array Value → Option Value → Pt → Prop) (PostX : Pt → Array Value → Addr → Pt → Prop) : Prop :=
  ∀ (m : MethodId) (meth : Method) (c : Code) (A : Pt) (g : JFrame) (ig : Instr) (mk : MethodId) (a : Array Value),
    Stand p l e R s m sargs below meth c A.U A.locs A.cells A.slots → g.method = m → g.locals.size = c.maxLocals → decode c.code g.pc = .ok (ig, len) →
    2 * g.monitorRoom + (g.stack.map fun v => v.category).sum ≤ W9 → A.U.methodNamed? y = some mk → Pre A a →
    (∃ (v : Option Value) (B : Pt), Stand p l e R s m sargs below meth c B.U B.locs B.cells B.slots ∧ Post A a v B ∧
      Steps p.tables e below (doInvoke e (A.U.setTop g) [] mk a).1 (B.U.setTop { g with pc := g.pc + len, stack := v.toList ++ g.stack })) ∨
    (∃ (q : Addr) (B : Pt), Stand p l e R s m sargs below meth c B.U B.locs B.cells B.slots ∧ PostX A a q B ∧
      Steps p.tables e below (doInvoke e (A.U.setTop g) [] mk a).1 ((B.U.setTop g).pushFrame (.throwing q)))
section Payer
variable {l : Launch} {R : Room} {p : Program} {e : Env} {below : List Frame} {s : State} {sargs : Array Value} {y : MethodName} {len W9 : Nat}
theorem vx_back {ws : List Cond} {rm : Room} {Pc : Array Value → State → Prop} {Qc : Array Value → State → Outcome → State → Prop} {XC : String → State → State → Prop} {mc ms : Nat} {free : Addr → Prop} {bytes : ByteArray} {maxL : Nat} {ret : Option FieldType}
    (hM : vx_Met l y ws rm Pc Qc XC mc ms free) (hblind : FrameBlind Pc) (hrc : rm.cells = mc) (hrs : rm.slots = ms)
    (hframes : rm.frames + 1 ≤ R.frames) (hlocals : W9 + (maxL + 11) + rm.locals ≤ R.locals)
    (hws : ∀ w ∈ ws, ∀ a' U, s.WarmedH U.vm → w.before a' U = true) (hcode : Cond.code y bytes maxL ret ∈ ws) (hinit : ∀ a' U, s.WarmedH U.vm → (Cond.initialized y.cls).before a' U = true) :
    vx_Back l R p e below s sargs y len W9 (PreOf R mc ms Pc) (PostOf Qc mc ms free) (vx_Post XC mc ms free) := by
  intro m meth c A g ig mk a X hg hsize hdg hW hn hp
  have h1 : (headSpec ws rm).pre.before a A.U = true := atoms_intro fun w hw => hws w hw _ _ X.warmed
  have h2 : (Cond.code y bytes maxL ret).before a A.U = true := hws _ hcode _ _ X.warmed
  have h3 : (Cond.initialized y.cls).before a A.U = true := hinit _ _ X.warmed
  have h4 : A.cells + (headSpec ws rm).room.cells ≤ R.cells := by rw [show (headSpec ws rm).room.cells = mc from hrc]; exact hp.1
  have h5 : A.slots + (headSpec ws rm).room.slots ≤ R.slots := by rw [show (headSpec ws rm).room.slots = ms from hrs]; exact hp.2.1
  have hPc : Pc a (A.U.calling g mk a) := hblind _ _ _ _ hp.2.2
  obtain ⟨U, Ls, c0, s0⟩ := A
  dsimp only [Pt.U, Pt.locs, Pt.cells, Pt.slots] at h1 h2 h3 h4 h5 X hn hPc ⊢
  obtain ⟨methY, cY, hmY, hcY, -, hlY, -, -, -, -⟩ := Cond.code_spec hn h2
  obtain ⟨kY, hkY, -⟩ := className_of_methodNamed hn
  have hinitY : kY.init = .initialized := Cond.initialized_spec (findClass_of_methodNamed hn) hkY h3
  have h : At U g.method c below := by rw [hg]; exact X.here
  have hlocals9 : W9 + (maxL + 11) + (headSpec ws rm).room.locals ≤ R.locals := hlocals
  have happ : (headSpec ws rm).appliesLoose y e.platform (U.calling g mk a) = true :=
    Spec.appliesLoose_calling (g := g) h hdg hn hkY hinitY
      (X.room_calling (g := g) (R' := (headSpec ws rm).room) hsize hmY hcY hframes (by rw [hlY]; omega) h4 h5) h1
  obtain ⟨mid, hmid⟩ := h.above
  have hfr : (U.setTop g).frames = (.java g :: mid) ++ below := by rw [State.frames_setTop' g h.top, hmid]; rfl
  obtain ⟨o, s₂, hsteps, -, hend, hq⟩ := Steps.callFree hM p X.admits X.cas X.clock (acts := []) hfr happ hPc trivial
  have hq' : vx_Q Qc XC mc ms free a (U.calling g mk a) o s₂ := hq
  rw [State.frames_setTop' g h.top] at hend
  obtain ⟨g₀, hg0⟩ := Option.isSome_iff_exists.mp h.top
  obtain ⟨r, hr⟩ := State.topJava?_eq_some.mp hg0
  have hr' : (({ U with heap := s₂.heap, slotsUsed := s₂.slotsUsed } : State).setVm s₂.vm).frames = .java g₀ :: r := hr
  rcases hq' with ⟨hqc, L, hfe, hL⟩ | ⟨q, rfl, E, ce, L, hx, hce, hcv, hcl, hW₂, hsm, hL⟩
  · obtain ⟨⟨v, rfl⟩, hW₂, e2, q2, q3, q4, q5, q6⟩ := id hfe
    have e3 : s₂ = ({ (U.calling g mk a).setFrames s₂.frames with heap := s₂.heap, slotsUsed := s₂.slotsUsed } : State).setVm s₂.vm := by
      have : s₂ = ({ s₂ with vm := (U.calling g mk a).vm } : State).setVm s₂.vm := rfl
      rw [e2] at this
      exact this
    obtain ⟨c₂, i₂, len₂, hc₂, hd₂, hf₂⟩ := hend
    have hW' : U.WarmedH s₂.vm := hW₂
    have hcc : c₂ = c := by
      have h1 : s₂.code? g.method = U.code? g.method := by
        rw [State.code?_eq, State.code?_eq, hW'.alike.method?]
      exact Option.some.inj (hc₂.symm.trans (h1.trans h.code))
    subst hcc
    have hlen : len₂ = len := by rw [hdg] at hd₂; cases hd₂; rfl
    subst hlen
    have hs₂ : s₂ = (({ U with heap := s₂.heap, slotsUsed := s₂.slotsUsed } : State).setVm s₂.vm).setTop { g with pc := g.pc + len₂, stack := v.toList ++ g.stack } := by
      refine e3.trans ?_
      rw [hf₂, State.calling_eq h.top, State.setFrames_setFrames, State.setTop_of_frames _ hr', hr]
      rfl
    have hsame : U.sameButNew ({ U with heap := s₂.heap, slotsUsed := s₂.slotsUsed } : State) L mc ms := by
      refine ⟨?_, q2, q3, q4, q5, q6⟩
      obtain ⟨t, ht, -⟩ := State.frames_cons hr
      show ({ U with heap := s₂.heap, slotsUsed := s₂.slotsUsed } : State) = { U.setFrames U.frames with heap := s₂.heap, slotsUsed := s₂.slotsUsed }
      rw [State.setFrames_self ht]
    subst hg
    refine Or.inl ⟨v, ⟨(({ U with heap := s₂.heap, slotsUsed := s₂.slotsUsed } : State).setVm s₂.vm), Ls ++ L, c0 + mc, s0 + ms⟩,
      ⟨X.admits, X.cas, X.clock, X.frames, X.room, X.hears, X.method, X.code, (X.here.setHeapUsed s₂.heap s₂.slotsUsed).setVm hW'.alike, X.tail, State.WarmedH.trans X.warmed hW', X.limits, X.bytes, X.same.trans (hsame.setVm s.vm)⟩,
      ⟨g, mk, s₂, L, rfl, rfl, hqc, rfl, hL, rfl, rfl⟩, ?_⟩
    show Steps p.tables e below _ ((({ U with heap := s₂.heap, slotsUsed := s₂.slotsUsed } : State).setVm s₂.vm).setTop { g with pc := g.pc + len₂, stack := v.toList ++ g.stack })
    rw [← hs₂]
    exact hsteps
  · obtain ⟨e2, q2, q3, q4, q5, q6⟩ := id hsm
    have e3 : s₂ = ({ (U.calling g mk a).setFrames s₂.frames with heap := s₂.heap, slotsUsed := s₂.slotsUsed } : State).setVm s₂.vm := by
      have : s₂ = ({ s₂ with vm := (U.calling g mk a).vm } : State).setVm s₂.vm := rfl
      rw [e2] at this
      exact this
    have hf₂ : s₂.frames = .throwing q :: .java g :: U.frames.tail := hend
    have hW' : U.WarmedH s₂.vm := hW₂
    have hs₂ : s₂ = ((({ U with heap := s₂.heap, slotsUsed := s₂.slotsUsed } : State).setVm s₂.vm).setTop g).pushFrame (.throwing q) := by
      refine e3.trans ?_
      rw [hf₂, State.calling_eq h.top, State.setFrames_setFrames, State.pushFrame, State.frames_setTop _ hr', State.setTop_of_frames _ hr', State.setFrames_setFrames, hr]
      rfl
    have hsame : U.sameButNew ({ U with heap := s₂.heap, slotsUsed := s₂.slotsUsed } : State) L mc ms := by
      refine ⟨?_, q2, q3, q4, q5, q6⟩
      obtain ⟨t, ht, -⟩ := State.frames_cons hr
      show ({ U with heap := s₂.heap, slotsUsed := s₂.slotsUsed } : State) = { U.setFrames U.frames with heap := s₂.heap, slotsUsed := s₂.slotsUsed }
      rw [State.setFrames_self ht]
    subst hg
    refine Or.inr ⟨q, ⟨(({ U with heap := s₂.heap, slotsUsed := s₂.slotsUsed } : State).setVm s₂.vm), Ls ++ L, c0 + mc, s0 + ms⟩,
      ⟨X.admits, X.cas, X.clock, X.frames, X.room, X.hears, X.method, X.code, (X.here.setHeapUsed s₂.heap s₂.slotsUsed).setVm hW'.alike, X.tail, State.WarmedH.trans X.warmed hW', X.limits, X.bytes, X.same.trans (hsame.setVm s.vm)⟩,
      ⟨g, mk, s₂, L, E, ce, rfl, rfl, hx, hce, hcv, hcl, rfl, hL, rfl, rfl⟩, ?_⟩
    show Steps p.tables e below _ (((({ U with heap := s₂.heap, slotsUsed := s₂.slotsUsed } : State).setVm s₂.vm).setTop g).pushFrame (.throwing q))
    rw [← hs₂]
    exact hsteps
end Payer
section Calls
variable {p : Program} {l : Launch} {e : Env} {R : Room} {s : State} {m : MethodId} {args : Array Value} {below : List Frame} {meth : Method} {c : Code} {T : State} {locs : List Loc} {cells slots : Nat}
theorem vx_callV (X : Stand p l e R s m args below meth c T locs cells slots) (hexec : p.tables.exec = Jvm.exec) {own C : String} {index : Nat} {y : MethodName} {bytes : ByteArray} {maxL : Nat} {ret : Option FieldType}
    (hown : s.vm.findClass own = some m.cls) (hlink : (Cond.methodLink own index y).before args s = true) (hinst : (Cond.instanceMethod y).before args s = true) (hsel : (Cond.selects C y y).before args s = true)
    (hcode : (Cond.code y bytes maxL ret).before args s = true) (hy : y.cls ≠ "java/lang/invoke/MethodHandle" ∧ y.cls ≠ "java/lang/invoke/VarHandle")
    {W9 : Nat} {Pre : Pt → Array Value → Prop} {Post : Pt → Array Value → Option Value → Pt → Prop} {PostX : Pt → Array Value → Addr → Pt → Prop} (hK : vx_Back l R p e below s args y 3 W9 Pre Post PostX)
    {b : Addr} {cellB : Cell} (hcell : T.heap[b]? = some cellB) (hobj : cellB.vm.isStatics = false) (hcls : s.vm.findClass C = some cellB.cls)
    {g : JFrame} (hg : g.method = m) (hsize : g.locals.size = c.maxLocals) {argsL rest : List Value} (hlen : ∀ sig, parseMethodDescriptor y.desc = some sig → argsL.length = sig.parameters.length)
    (hstack : g.stack = argsL.reverse ++ .ref b :: rest) (hW : 2 * g.monitorRoom + (rest.map fun v => v.category).sum ≤ W9) (hdg : decode c.code g.pc = .ok (.invokevirtual index, 3))
    (hpre : ∀ vm₁, s.WarmedH vm₁ → Pre ⟨T.setVm vm₁, locs, cells, slots⟩ (Value.ref b :: argsL).toArray) :
    (∃ (v : Option Value) (vm₁ : Vm) (B : Pt), s.WarmedH vm₁ ∧ Stand p l e R s m args below meth c B.U B.locs B.cells B.slots ∧ Post ⟨T.setVm vm₁, locs, cells, slots⟩ (Value.ref b :: argsL).toArray v B ∧
      ∀ target, Steps p.tables e below (B.U.setTop { g with pc := g.pc + 3, stack := v.toList ++ rest }) target → Steps p.tables e below (T.setTop g) target) ∨
    (∃ (q : Addr) (vm₁ : Vm) (B : Pt), s.WarmedH vm₁ ∧ Stand p l e R s m args below meth c B.U B.locs B.cells B.slots ∧ PostX ⟨T.setVm vm₁, locs, cells, slots⟩ (Value.ref b :: argsL).toArray q B ∧
      Steps p.tables e below (T.setTop g) ((B.U.setTop { g with stack := rest }).pushFrame (.throwing q))) := by
  obtain ⟨mk, methM, hnamed, hmethM, hstM, habM⟩ := Cond.instanceMethod_spec hinst
  obtain ⟨methM', cM, hmethM', -, -, -, -, -, -, hsigM⟩ := Cond.code_spec hnamed hcode
  cases hmethM.symm.trans hmethM'
  obtain ⟨c2, r2, m2, q1, q2, q3, q4, kP, hkP, hkPi⟩ := Cond.selects_spec hsel
  cases hcls.symm.trans q1
  cases (State.methodFound?_of_named hnamed hy).symm.trans q2
  cases hnamed.symm.trans q3
  have hselP : selectMethod e.platform s.vm cellB.cls mk = .method mk := by rw [Launch.admits_selectMethod X.admits]; exact q4
  obtain ⟨vm₁, X₁, hstep₁⟩ := X.invokevirtual hexec hown hlink hnamed hmethM hstM hkP hkPi hy (a := b) (cell := cellB) hcell
    (fun z h => by rw [h] at hobj; cases hobj) hselP hmethM habM hkP hkPi (g := g) hg (argsL := argsL) (rest := rest) (hlen _ hsigM) hstack hdg
  rcases hK m meth c ⟨T.setVm vm₁, locs, cells, slots⟩ { g with stack := rest } (.invokevirtual index) mk (Value.ref b :: argsL).toArray X₁ hg hsize hdg hW (X₁.named hnamed) (hpre vm₁ X₁.warmed) with ⟨v, B, X', hpost, hsteps⟩ | ⟨q, B, X', hpost, hsteps⟩
  · exact Or.inl ⟨v, vm₁, B, X₁.warmed, X', hpost, fun target h => hstep₁ _ fun acts => by rw [doInvoke_state]; exact hsteps.trans h⟩
  · exact Or.inr ⟨q, vm₁, B, X₁.warmed, X', hpost, hstep₁ _ fun acts => by rw [doInvoke_state]; exact hsteps⟩
theorem vx_callS (X : Stand p l e R s m args below meth c T locs cells slots) (hexec : p.tables.exec = Jvm.exec) {own : String} {index : Nat} {y : MethodName} {bytes : ByteArray} {maxL : Nat} {ret : Option FieldType}
    (hown : s.vm.findClass own = some m.cls) (hlink : (Cond.methodLink own index y).before args s = true) (hstat : (Cond.static y).before args s = true) (hinit : (Cond.initialized y.cls).before args s = true)
    (hcode : (Cond.code y bytes maxL ret).before args s = true) (hy : y.cls ≠ "java/lang/invoke/MethodHandle" ∧ y.cls ≠ "java/lang/invoke/VarHandle")
    {W9 : Nat} {Pre : Pt → Array Value → Prop} {Post : Pt → Array Value → Option Value → Pt → Prop} {PostX : Pt → Array Value → Addr → Pt → Prop} (hK : vx_Back l R p e below s args y 3 W9 Pre Post PostX)
    {g : JFrame} (hg : g.method = m) (hsize : g.locals.size = c.maxLocals) {argsL rest : List Value} (hlen : ∀ sig, parseMethodDescriptor y.desc = some sig → argsL.length = sig.parameters.length)
    (hstack : g.stack = argsL.reverse ++ rest) (hW : 2 * g.monitorRoom + (rest.map fun v => v.category).sum ≤ W9) (hdg : decode c.code g.pc = .ok (.invokestatic index, 3))
    (hpre : ∀ vm₁, s.WarmedH vm₁ → Pre ⟨T.setVm vm₁, locs, cells, slots⟩ argsL.toArray) :
    (∃ (v : Option Value) (vm₁ : Vm) (B : Pt), s.WarmedH vm₁ ∧ Stand p l e R s m args below meth c B.U B.locs B.cells B.slots ∧ Post ⟨T.setVm vm₁, locs, cells, slots⟩ argsL.toArray v B ∧
      ∀ target, Steps p.tables e below (B.U.setTop { g with pc := g.pc + 3, stack := v.toList ++ rest }) target → Steps p.tables e below (T.setTop g) target) ∨
    (∃ (q : Addr) (vm₁ : Vm) (B : Pt), s.WarmedH vm₁ ∧ Stand p l e R s m args below meth c B.U B.locs B.cells B.slots ∧ PostX ⟨T.setVm vm₁, locs, cells, slots⟩ argsL.toArray q B ∧
      Steps p.tables e below (T.setTop g) ((B.U.setTop { g with stack := rest }).pushFrame (.throwing q))) := by
  obtain ⟨mk, hnamed⟩ := Cond.code_named hcode
  obtain ⟨methM, cM, hmethM, -, -, -, -, -, -, hsigM⟩ := Cond.code_spec hnamed hcode
  have hstatic : methM.isStatic = true := Cond.static_spec hnamed hmethM hstat
  obtain ⟨kP, hkP, -⟩ := className_of_methodNamed hnamed
  have hinitP : kP.init = .initialized := Cond.initialized_spec (findClass_of_methodNamed hnamed) hkP hinit
  obtain ⟨vm₁, X₁, hstep₁⟩ := X.invokestatic hexec hown hlink hnamed hmethM hstatic hkP hinitP hy (g := g) hg (argsL := argsL) (rest := rest) (hlen _ hsigM) hstack hdg
  rcases hK m meth c ⟨T.setVm vm₁, locs, cells, slots⟩ { g with stack := rest } (.invokestatic index) mk argsL.toArray X₁ hg hsize hdg hW (X₁.named hnamed) (hpre vm₁ X₁.warmed) with ⟨v, B, X', hpost, hsteps⟩ | ⟨q, B, X', hpost, hsteps⟩
  · exact Or.inl ⟨v, vm₁, B, X₁.warmed, X', hpost, fun target h => hstep₁ _ fun acts => by rw [doInvoke_state]; exact hsteps.trans h⟩
  · exact Or.inr ⟨q, vm₁, B, X₁.warmed, X', hpost, hstep₁ _ fun acts => by rw [doInvoke_state]; exact hsteps⟩
end Calls
theorem vx_cls {s : State} {T : State} {vm₁ : Vm} {E : String} {k : ClassId} (hW : s.WarmedH vm₁) (h : (T.setVm vm₁).vm.findClass E = some k) : s.vm.findClass E = some k := by
  have h1 : vm₁.findClass E = some k := h
  rw [hW.alike.findClass] at h1
  exact h1
/-- the method's frame g, with q thrown over it -/
def vx_W (p : Program) (l : Launch) (e : Env) (R : Room) (s : State) (m : MethodId) (args : Array Value) (below : List Frame) (meth : Method) (c : Code) (H : Heap) (locs : List Loc) (cells slots : Nat) (Q : State → Prop) (g : JFrame) (q : Addr) : Prop :=
  ∀ T : State, T.heap = H → Stand p l e R s m args below meth c T locs cells slots → ∃ t, Steps p.tables e below ((T.setTop g).pushFrame (.throwing q)) t ∧ Q t
def vx_Run (p : Program) (l : Launch) (e : Env) (R : Room) (s : State) (m : MethodId) (args : Array Value) (below : List Frame) (meth : Method) (c : Code) (H : Heap) (locs : List Loc) (cells slots mc ms : Nat) (g : JFrame) (rest : List Value) (Qa : State → Outcome → State → Prop) (XC : String → State → State → Prop) (free : Addr → Prop) : Prop :=
  ∀ T : State, T.heap = H → Stand p l e R s m args below meth c T locs cells slots →
    (∃ (v : Option Value) (st₀ t T' : State) (L : List Loc), st₀.heap = H ∧ Stand p l e R s m args below meth c T' (locs ++ L) (cells + mc) (slots + ms) ∧ (∀ q ∈ L, free q.base) ∧ T'.heap = t.heap ∧ T'.vm = t.vm ∧ Qa st₀ (.returned v) t ∧
      Goes p e below T g T' { g with pc := g.pc + 3, stack := v.toList ++ rest }) ∨
    (∃ (q : Addr) (st₀ t T' : State) (L : List Loc) (E : String) (ce : Cell), st₀.heap = H ∧ Stand p l e R s m args below meth c T' (locs ++ L) (cells + mc) (slots + ms) ∧ (∀ z ∈ L, free z.base) ∧ T'.heap = t.heap ∧ T'.vm = t.vm ∧ XC E st₀ t ∧ t.heap[q]? = some ce ∧ ce.vm = .none ∧ s.vm.findClass E = some ce.cls ∧
      Steps p.tables e below (T.setTop g) ((T'.setTop { g with stack := rest }).pushFrame (.throwing q)))
def vx_X {S : Type} (px : S → Prop) (B : String → S → State → Prop) (A : Nat → Prop) : String → State → State → Prop := fun E st t => ∃ u : S, px u ∧ B E u t ∧ va_F A st t
section Runs
variable {p : Program} {l : Launch} {e : Env} {R : Room} {s : State} {m : MethodId} {args : Array Value} {below : List Frame} {meth : Method} {c : Code} {H : Heap} {locs : List Loc} {cells slots : Nat}
variable {y : MethodName} {bytes cc : ByteArray} {maxL nL mc ms n index : Nat} {ret : Option FieldType} {ws : List Cond} {rm : Room} {Pc : Array Value → State → Prop} {Qc : Array Value → State → Outcome → State → Prop} {XC : String → State → State → Prop} {free : Addr → Prop} {Ts : List Cond} {own C : String} {b : Addr} {As rest : List Value} {g : JFrame}
theorem vx_callBack (cb : CallB R s args own index y bytes maxL ret ws rm mc ms n) (hM : vx_Met l y ws rm Pc Qc XC mc ms free) (hbl : FrameBlind Pc) : vx_Back l R p e below s args y 3 8 (PreOf R mc ms Pc) (PostOf Qc mc ms free) (vx_Post XC mc ms free) := by
  obtain ⟨hrc, hrs, hfr, hlo, hws, hcw, -, hini, -⟩ := cb
  exact vx_back (bytes := bytes) (maxL := maxL) (ret := ret) hM hbl hrc hrs hfr hlo hws hcw (fun a' U hW => word_at hW (Or.inl (by first | rfl | simp [Cond.onTables, Cond.keeps, Cond.steady])) hini)
theorem vx_runV (S : CallFix p m c cc nL s args Ts own) (hM : vx_Met l y ws rm Pc Qc XC mc ms free) (cw : CallW R s args own C index y bytes maxL ret ws rm mc ms n) (hp : PreV s H C b Pc As)
    (hg : g.method = m) (hn : As.length = n) (hsize : g.locals.size = nL) (hstack : g.stack = As.reverse ++ .ref b :: rest) (hW : 2 * g.monitorRoom + (rest.map fun v => v.category).sum ≤ 8) (hdg : decode cc g.pc = .ok (.invokevirtual index, 3)) (hf : cells + mc ≤ R.cells ∧ slots + ms ≤ R.slots) :
    vx_Run p l e R s m args below meth c H locs cells slots mc ms g rest (Qc (Value.ref b :: As).toArray) XC free := by
  have hK : vx_Back l R p e below s args y 3 8 (PreOf R mc ms Pc) (PostOf Qc mc ms free) (vx_Post XC mc ms free) := vx_callBack cw.1 hM hp.1
  obtain ⟨⟨-, -, -, -, -, -, hcode, -, hy, hlen, hl⟩, hin, hse⟩ := cw
  obtain ⟨hx, hb, hml, ho, -⟩ := S
  obtain ⟨-, ⟨cellB, hcB, hoB, hclB⟩, hPc⟩ := hp
  intro T hT X
  rcases vx_callV X hx (C := C) (bytes := bytes) (maxL := maxL) (ret := ret) ho hl hin hse hcode hy hK (by rw [hT]; exact hcB) hoB hclB hg (hsize.trans hml.symm) (argsL := As) (rest := rest) (fun sig h => hn.trans (hlen sig h)) hstack hW (by rw [hb]; exact hdg)
    (fun vm₁ hW₁ => ⟨hf.1, hf.2, hPc (T.setVm vm₁) hT hW₁⟩) with ⟨v, vm₁, ⟨U', l2, c2, s2⟩, hW₁, X', ⟨g', mk, t, L, e1, e2, hq, h1, hL, h2, h3⟩, st⟩ | ⟨q, vm₁, ⟨U', l2, c2, s2⟩, hW₁, X', ⟨g', mk, t, L, E, ce, e1, e2, hq, hce, hcv, hcl, h1, hL, h2, h3⟩, st⟩
  · dsimp only [Pt.U, Pt.locs, Pt.cells, Pt.slots] at X' e1 e2 h1 h2 h3 st
    subst h1; subst h2; subst h3
    exact Or.inl ⟨v, (T.setVm vm₁).calling g' mk (Value.ref b :: As).toArray, t, U', L, hT, X', hL, e1, e2, hq, st⟩
  · dsimp only [Pt.U, Pt.locs, Pt.cells, Pt.slots] at X' e1 e2 h1 h2 h3 st hcl
    subst h1; subst h2; subst h3
    exact Or.inr ⟨q, (T.setVm vm₁).calling g' mk (Value.ref b :: As).toArray, t, U', L, E, ce, hT, X', hL, e1, e2, hq, hce, hcv, vx_cls hW₁ hcl, st⟩
theorem vx_runS (S : CallFix p m c cc nL s args Ts own) (hM : vx_Met l y ws rm Pc Qc XC mc ms free) (cw : CallB R s args own index y bytes maxL ret ws rm mc ms n ∧ (Cond.static y).before args s = true) (hp : PreS s H Pc As)
    (hg : g.method = m) (hn : As.length = n) (hsize : g.locals.size = nL) (hstack : g.stack = As.reverse ++ rest) (hW : 2 * g.monitorRoom + (rest.map fun v => v.category).sum ≤ 8) (hdg : decode cc g.pc = .ok (.invokestatic index, 3)) (hf : cells + mc ≤ R.cells ∧ slots + ms ≤ R.slots) :
    vx_Run p l e R s m args below meth c H locs cells slots mc ms g rest (Qc As.toArray) XC free := by
  have hK : vx_Back l R p e below s args y 3 8 (PreOf R mc ms Pc) (PostOf Qc mc ms free) (vx_Post XC mc ms free) := vx_callBack cw.1 hM hp.1
  obtain ⟨⟨-, -, -, -, -, -, hcode, hini, hy, hlen, hl⟩, hstt⟩ := cw
  obtain ⟨hx, hb, hml, ho, -⟩ := S
  intro T hT X
  rcases vx_callS X hx (bytes := bytes) (maxL := maxL) (ret := ret) ho hl hstt hini hcode hy hK hg (hsize.trans hml.symm) (argsL := As) (rest := rest) (fun sig h => hn.trans (hlen sig h)) hstack hW (by rw [hb]; exact hdg)
    (fun vm₁ hW₁ => ⟨hf.1, hf.2, hp.2 (T.setVm vm₁) hT hW₁⟩) with ⟨v, vm₁, ⟨U', l2, c2, s2⟩, hW₁, X', ⟨g', mk, t, L, e1, e2, hq, h1, hL, h2, h3⟩, st⟩ | ⟨q, vm₁, ⟨U', l2, c2, s2⟩, hW₁, X', ⟨g', mk, t, L, E, ce, e1, e2, hq, hce, hcv, hcl, h1, hL, h2, h3⟩, st⟩
  · dsimp only [Pt.U, Pt.locs, Pt.cells, Pt.slots] at X' e1 e2 h1 h2 h3 st
    subst h1; subst h2; subst h3
    exact Or.inl ⟨v, (T.setVm vm₁).calling g' mk As.toArray, t, U', L, hT, X', hL, e1, e2, hq, st⟩
  · dsimp only [Pt.U, Pt.locs, Pt.cells, Pt.slots] at X' e1 e2 h1 h2 h3 st hcl
    subst h1; subst h2; subst h3
    exact Or.inr ⟨q, (T.setVm vm₁).calling g' mk As.toArray, t, U', L, E, ce, hT, X', hL, e1, e2, hq, hce, hcv, vx_cls hW₁ hcl, st⟩
end Runs
section Rows
variable {p : Program} {l : Launch} {e : Env} {R : Room} {s : State} {m : MethodId} {args : Array Value} {below : List Frame} {meth : Method} {c : Code} {H : Heap} {locs : List Loc} {cells slots : Nat} {Q : State → Prop}
variable {mc ms : Nat} {free : Addr → Prop} {A0 A1 : Nat → Prop} {H0 : Heap} {a : Array Value} {pc : Nat} {ls : Array Slot} {st0 rest : List Value}
theorem vx_keep {st₀ t T' : State} {L : List Loc} (h0 : st₀.heap = H) (e1 : T'.heap = t.heap) (hS : va_S A0 H0 H locs) (hA : ∀ q, q < H.size → A1 q → A0 q) (hf : ∀ q, free q → A0 q) (hL : ∀ q ∈ L, free q.base) (hF : va_F A1 st₀ t) :
    H.size ≤ T'.heap.size ∧ (∀ q : Nat, q < H.size → ¬ A1 q → T'.heap[q]? = H[q]?) ∧ va_S A0 H0 T'.heap (locs ++ L) := by
  obtain ⟨hz, hk⟩ := hF
  rw [h0] at hz hk
  exact ⟨by rw [e1]; exact hz, fun q h1 h2 => by rw [e1]; exact hk q h1 h2,
    ⟨Nat.le_trans hS.1 (by rw [e1]; exact hz), fun q h1 h2 => by rw [e1, hk q (Nat.lt_of_lt_of_le h1 hS.1) (fun z => h2 (hA q (Nat.lt_of_lt_of_le h1 hS.1) z))]; exact hS.2.1 q h1 h2, fun q hq => by
      rcases List.mem_append.mp hq with h | h
      · exact hS.2.2 q h
      · exact hf _ (hL q h)⟩⟩
theorem vx_calli {S SX : Type} {post : Int32 → S → Prop} {px : SX → Prop} {B : S → State → Prop} {BX : String → SX → State → Prop} {AX : Nat → Prop} (hr : vx_Run p l e R s m args below meth c H locs cells slots mc ms (F0 m pc ls st0) rest (va_Qi post B A1 a) (vx_X px BX AX) free) (hS : va_S A0 H0 H locs) (hA : ∀ q, q < H.size → A1 q → A0 q) (hf : ∀ q, free q → A0 q) (hAX : ∀ q, q < H.size → AX q → A0 q)
    (kx : ∀ (E : String) (ce : Cell) (q9 : Addr) (u : SX) (t : State) (H1 : Heap) (locs1 : List Loc), t.heap = H1 → s.vm.Alike t.vm → px u → BX E u t → H.size ≤ H1.size → (∀ q : Nat, q < H.size → ¬ AX q → H1[q]? = H[q]?) → va_S A0 H0 H1 locs1 → H1[q9]? = some ce → ce.vm = .none → s.vm.findClass E = some ce.cls → vx_W p l e R s m args below meth c H1 locs1 (cells + mc) (slots + ms) Q (F0 m pc ls rest) q9)
    (kk : ∀ (r : Int32) (u : S) (t : State) (H1 : Heap) (locs1 : List Loc), t.heap = H1 → s.vm.Alike t.vm → post r u → B u t → H.size ≤ H1.size → (∀ q : Nat, q < H.size → ¬ A1 q → H1[q]? = H[q]?) → va_S A0 H0 H1 locs1 → W p l e R s m args below meth c H1 locs1 (cells + mc) (slots + ms) Q (F0 m (pc + 3) ls (.int r :: rest))) : W p l e R s m args below meth c H locs cells slots Q (F0 m pc ls st0) := by
  intro T hT X
  rcases hr T hT X with ⟨v, st₀, t, T', L, h0, X', hL, e1, e2, ⟨⟨r, u, hv, hp, hb⟩, hF⟩, st⟩ | ⟨q, st₀, t, T', L, E, ce, h0, X', hL, e1, e2, ⟨u, hp, hb, hF⟩, hce, hcv, hcl, st⟩
  · cases hv
    obtain ⟨k1, k2, k3⟩ := vx_keep h0 e1 hS hA hf hL hF
    obtain ⟨t2, a1, b1⟩ := kk r u t T'.heap (locs ++ L) e1.symm (by rw [← e2]; exact X'.warmed.alike) hp hb k1 k2 k3 T' rfl X'
    exact ⟨t2, st t2 a1, b1⟩
  · obtain ⟨k1, k2, k3⟩ := vx_keep h0 e1 hS hAX hf hL hF
    obtain ⟨t2, a1, b1⟩ := kx E ce q u t T'.heap (locs ++ L) e1.symm (by rw [← e2]; exact X'.warmed.alike) hp hb k1 k2 k3 (by rw [e1]; exact hce) hcv hcl T' rfl X'
    exact ⟨t2, st.trans a1, b1⟩
theorem vx_calll {S SX : Type} {post : Int64 → S → Prop} {px : SX → Prop} {B : S → State → Prop} {BX : String → SX → State → Prop} {AX : Nat → Prop} (hr : vx_Run p l e R s m args below meth c H locs cells slots mc ms (F0 m pc ls st0) rest (va_Ql post B A1 a) (vx_X px BX AX) free) (hS : va_S A0 H0 H locs) (hA : ∀ q, q < H.size → A1 q → A0 q) (hf : ∀ q, free q → A0 q) (hAX : ∀ q, q < H.size → AX q → A0 q)
    (kx : ∀ (E : String) (ce : Cell) (q9 : Addr) (u : SX) (t : State) (H1 : Heap) (locs1 : List Loc), t.heap = H1 → s.vm.Alike t.vm → px u → BX E u t → H.size ≤ H1.size → (∀ q : Nat, q < H.size → ¬ AX q → H1[q]? = H[q]?) → va_S A0 H0 H1 locs1 → H1[q9]? = some ce → ce.vm = .none → s.vm.findClass E = some ce.cls → vx_W p l e R s m args below meth c H1 locs1 (cells + mc) (slots + ms) Q (F0 m pc ls rest) q9)
    (kk : ∀ (r : Int64) (u : S) (t : State) (H1 : Heap) (locs1 : List Loc), t.heap = H1 → s.vm.Alike t.vm → post r u → B u t → H.size ≤ H1.size → (∀ q : Nat, q < H.size → ¬ A1 q → H1[q]? = H[q]?) → va_S A0 H0 H1 locs1 → W p l e R s m args below meth c H1 locs1 (cells + mc) (slots + ms) Q (F0 m (pc + 3) ls (.long r :: rest))) : W p l e R s m args below meth c H locs cells slots Q (F0 m pc ls st0) := by
  intro T hT X
  rcases hr T hT X with ⟨v, st₀, t, T', L, h0, X', hL, e1, e2, ⟨⟨r, u, hv, hp, hb⟩, hF⟩, st⟩ | ⟨q, st₀, t, T', L, E, ce, h0, X', hL, e1, e2, ⟨u, hp, hb, hF⟩, hce, hcv, hcl, st⟩
  · cases hv
    obtain ⟨k1, k2, k3⟩ := vx_keep h0 e1 hS hA hf hL hF
    obtain ⟨t2, a1, b1⟩ := kk r u t T'.heap (locs ++ L) e1.symm (by rw [← e2]; exact X'.warmed.alike) hp hb k1 k2 k3 T' rfl X'
    exact ⟨t2, st t2 a1, b1⟩
  · obtain ⟨k1, k2, k3⟩ := vx_keep h0 e1 hS hAX hf hL hF
    obtain ⟨t2, a1, b1⟩ := kx E ce q u t T'.heap (locs ++ L) e1.symm (by rw [← e2]; exact X'.warmed.alike) hp hb k1 k2 k3 (by rw [e1]; exact hce) hcv hcl T' rfl X'
    exact ⟨t2, st.trans a1, b1⟩
theorem vx_callf {S SX : Type} {post : UInt32 → S → Prop} {px : SX → Prop} {B : S → State → Prop} {BX : String → SX → State → Prop} {AX : Nat → Prop} (hr : vx_Run p l e R s m args below meth c H locs cells slots mc ms (F0 m pc ls st0) rest (va_Qf post B A1 a) (vx_X px BX AX) free) (hS : va_S A0 H0 H locs) (hA : ∀ q, q < H.size → A1 q → A0 q) (hf : ∀ q, free q → A0 q) (hAX : ∀ q, q < H.size → AX q → A0 q)
    (kx : ∀ (E : String) (ce : Cell) (q9 : Addr) (u : SX) (t : State) (H1 : Heap) (locs1 : List Loc), t.heap = H1 → s.vm.Alike t.vm → px u → BX E u t → H.size ≤ H1.size → (∀ q : Nat, q < H.size → ¬ AX q → H1[q]? = H[q]?) → va_S A0 H0 H1 locs1 → H1[q9]? = some ce → ce.vm = .none → s.vm.findClass E = some ce.cls → vx_W p l e R s m args below meth c H1 locs1 (cells + mc) (slots + ms) Q (F0 m pc ls rest) q9)
    (kk : ∀ (r : UInt32) (u : S) (t : State) (H1 : Heap) (locs1 : List Loc), t.heap = H1 → s.vm.Alike t.vm → post r u → B u t → H.size ≤ H1.size → (∀ q : Nat, q < H.size → ¬ A1 q → H1[q]? = H[q]?) → va_S A0 H0 H1 locs1 → W p l e R s m args below meth c H1 locs1 (cells + mc) (slots + ms) Q (F0 m (pc + 3) ls (.float r :: rest))) : W p l e R s m args below meth c H locs cells slots Q (F0 m pc ls st0) := by
  intro T hT X
  rcases hr T hT X with ⟨v, st₀, t, T', L, h0, X', hL, e1, e2, ⟨⟨r, u, hv, hp, hb⟩, hF⟩, st⟩ | ⟨q, st₀, t, T', L, E, ce, h0, X', hL, e1, e2, ⟨u, hp, hb, hF⟩, hce, hcv, hcl, st⟩
  · cases hv
    obtain ⟨k1, k2, k3⟩ := vx_keep h0 e1 hS hA hf hL hF
    obtain ⟨t2, a1, b1⟩ := kk r u t T'.heap (locs ++ L) e1.symm (by rw [← e2]; exact X'.warmed.alike) hp hb k1 k2 k3 T' rfl X'
    exact ⟨t2, st t2 a1, b1⟩
  · obtain ⟨k1, k2, k3⟩ := vx_keep h0 e1 hS hAX hf hL hF
    obtain ⟨t2, a1, b1⟩ := kx E ce q u t T'.heap (locs ++ L) e1.symm (by rw [← e2]; exact X'.warmed.alike) hp hb k1 k2 k3 (by rw [e1]; exact hce) hcv hcl T' rfl X'
    exact ⟨t2, st.trans a1, b1⟩
theorem vx_calld {S SX : Type} {post : UInt64 → S → Prop} {px : SX → Prop} {B : S → State → Prop} {BX : String → SX → State → Prop} {AX : Nat → Prop} (hr : vx_Run p l e R s m args below meth c H locs cells slots mc ms (F0 m pc ls st0) rest (va_Qd post B A1 a) (vx_X px BX AX) free) (hS : va_S A0 H0 H locs) (hA : ∀ q, q < H.size → A1 q → A0 q) (hf : ∀ q, free q → A0 q) (hAX : ∀ q, q < H.size → AX q → A0 q)
    (kx : ∀ (E : String) (ce : Cell) (q9 : Addr) (u : SX) (t : State) (H1 : Heap) (locs1 : List Loc), t.heap = H1 → s.vm.Alike t.vm → px u → BX E u t → H.size ≤ H1.size → (∀ q : Nat, q < H.size → ¬ AX q → H1[q]? = H[q]?) → va_S A0 H0 H1 locs1 → H1[q9]? = some ce → ce.vm = .none → s.vm.findClass E = some ce.cls → vx_W p l e R s m args below meth c H1 locs1 (cells + mc) (slots + ms) Q (F0 m pc ls rest) q9)
    (kk : ∀ (r : UInt64) (u : S) (t : State) (H1 : Heap) (locs1 : List Loc), t.heap = H1 → s.vm.Alike t.vm → post r u → B u t → H.size ≤ H1.size → (∀ q : Nat, q < H.size → ¬ A1 q → H1[q]? = H[q]?) → va_S A0 H0 H1 locs1 → W p l e R s m args below meth c H1 locs1 (cells + mc) (slots + ms) Q (F0 m (pc + 3) ls (.double r :: rest))) : W p l e R s m args below meth c H locs cells slots Q (F0 m pc ls st0) := by
  intro T hT X
  rcases hr T hT X with ⟨v, st₀, t, T', L, h0, X', hL, e1, e2, ⟨⟨r, u, hv, hp, hb⟩, hF⟩, st⟩ | ⟨q, st₀, t, T', L, E, ce, h0, X', hL, e1, e2, ⟨u, hp, hb, hF⟩, hce, hcv, hcl, st⟩
  · cases hv
    obtain ⟨k1, k2, k3⟩ := vx_keep h0 e1 hS hA hf hL hF
    obtain ⟨t2, a1, b1⟩ := kk r u t T'.heap (locs ++ L) e1.symm (by rw [← e2]; exact X'.warmed.alike) hp hb k1 k2 k3 T' rfl X'
    exact ⟨t2, st t2 a1, b1⟩
  · obtain ⟨k1, k2, k3⟩ := vx_keep h0 e1 hS hAX hf hL hF
    obtain ⟨t2, a1, b1⟩ := kx E ce q u t T'.heap (locs ++ L) e1.symm (by rw [← e2]; exact X'.warmed.alike) hp hb k1 k2 k3 (by rw [e1]; exact hce) hcv hcl T' rfl X'
    exact ⟨t2, st.trans a1, b1⟩
theorem vx_callv {S SX : Type} {post : S → Prop} {px : SX → Prop} {B : S → State → Prop} {BX : String → SX → State → Prop} {AX : Nat → Prop} (hr : vx_Run p l e R s m args below meth c H locs cells slots mc ms (F0 m pc ls st0) rest (va_Qv post B A1 a) (vx_X px BX AX) free) (hS : va_S A0 H0 H locs) (hA : ∀ q, q < H.size → A1 q → A0 q) (hf : ∀ q, free q → A0 q) (hAX : ∀ q, q < H.size → AX q → A0 q)
    (kx : ∀ (E : String) (ce : Cell) (q9 : Addr) (u : SX) (t : State) (H1 : Heap) (locs1 : List Loc), t.heap = H1 → s.vm.Alike t.vm → px u → BX E u t → H.size ≤ H1.size → (∀ q : Nat, q < H.size → ¬ AX q → H1[q]? = H[q]?) → va_S A0 H0 H1 locs1 → H1[q9]? = some ce → ce.vm = .none → s.vm.findClass E = some ce.cls → vx_W p l e R s m args below meth c H1 locs1 (cells + mc) (slots + ms) Q (F0 m pc ls rest) q9)
    (kk : ∀ (u : S) (t : State) (H1 : Heap) (locs1 : List Loc), t.heap = H1 → s.vm.Alike t.vm → post u → B u t → H.size ≤ H1.size → (∀ q : Nat, q < H.size → ¬ A1 q → H1[q]? = H[q]?) → va_S A0 H0 H1 locs1 → W p l e R s m args below meth c H1 locs1 (cells + mc) (slots + ms) Q (F0 m (pc + 3) ls (rest))) : W p l e R s m args below meth c H locs cells slots Q (F0 m pc ls st0) := by
  intro T hT X
  rcases hr T hT X with ⟨v, st₀, t, T', L, h0, X', hL, e1, e2, ⟨⟨u, hv, hp, hb⟩, hF⟩, st⟩ | ⟨q, st₀, t, T', L, E, ce, h0, X', hL, e1, e2, ⟨u, hp, hb, hF⟩, hce, hcv, hcl, st⟩
  · cases hv
    obtain ⟨k1, k2, k3⟩ := vx_keep h0 e1 hS hA hf hL hF
    obtain ⟨t2, a1, b1⟩ := kk u t T'.heap (locs ++ L) e1.symm (by rw [← e2]; exact X'.warmed.alike) hp hb k1 k2 k3 T' rfl X'
    exact ⟨t2, st t2 a1, b1⟩
  · obtain ⟨k1, k2, k3⟩ := vx_keep h0 e1 hS hAX hf hL hF
    obtain ⟨t2, a1, b1⟩ := kx E ce q u t T'.heap (locs ++ L) e1.symm (by rw [← e2]; exact X'.warmed.alike) hp hb k1 k2 k3 (by rw [e1]; exact hce) hcv hcl T' rfl X'
    exact ⟨t2, st.trans a1, b1⟩
end Rows
section Ends
variable {p : Program} {l : Launch} {e : Env} {R : Room} {s : State} {m : MethodId} {args : Array Value} {below : List Frame} {meth : Method} {c : Code} {H : Heap} {locs : List Loc} {cells slots : Nat} {Q : State → Prop}
variable {mc ms : Nat} {free : Addr → Prop} {A0 A1 : Nat → Prop} {H0 : Heap} {a : Array Value} {ls : Array Slot} {st0 rest : List Value}
variable {Qc : Array Value → State → Outcome → State → Prop} {XC : String → State → State → Prop}
/-- what a body that may throw owes at its end -/
def vx_MQ (below : List Frame) (Qc : Array Value → State → Outcome → State → Prop) (XC : String → State → State → Prop) (a : Array Value) (s : State) (mc ms : Nat) (free : Addr → Prop) : State → Prop := fun t =>
  ∃ o, t.status = .running ∧ Ended t below o ∧ vx_Q Qc XC mc ms free a s o t
theorem vx_ret {g : JFrame} {mc ms : Nat} (k : W p l e R s m args below meth c H locs cells slots (MQ below Qc args s mc ms free) g) : W p l e R s m args below meth c H locs cells slots (vx_MQ below Qc XC args s mc ms free) g := by
  intro T hT X
  obtain ⟨t, a1, o, b1, b2, b3, b4⟩ := k T hT X
  exact ⟨t, a1, o, b1, b2, Or.inl ⟨b3, b4⟩⟩
/-- not caught here: it goes on to the caller -/
theorem vx_widen {g : JFrame} {q : Addr} {k n : Nat} (h1 : cells ≤ k) (h2 : slots ≤ n) (kk : vx_W p l e R s m args below meth c H locs k n Q g q) : vx_W p l e R s m args below meth c H locs cells slots Q g q := fun T hT X => kk T hT (stand_widen X h1 h2)
theorem vx_out {pc : Nat} {E : String} {ce : Cell} {q : Addr} {mc ms : Nat} (hout : ∀ x ∈ c.exceptionTable.toList, covers x pc = false) (hlocks : meth.locks = false) (hcell : H[q]? = some ce) (hv : ce.vm = .none) (hcl : s.vm.findClass E = some ce.cls)
    (hx : ∀ t : State, t.heap = H → s.vm.Alike t.vm → XC E s t) (hf : ∀ z ∈ locs, free z.base) (hc : cells ≤ mc) (hs : slots ≤ ms) :
    vx_W p l e R s m args below meth c H locs cells slots (vx_MQ below Qc XC args s mc ms free) (F0 m pc ls rest) q := by
  intro T hT X
  obtain ⟨st1, hrun, hend, hW, hsm⟩ := X.leaveThrown q (g := F0 m pc ls rest) rfl rfl rfl hout hlocks
  have hcell9 : (T.setFrames (.throwing q :: below)).heap[q]? = some ce := by
    show T.heap[q]? = some ce
    rw [hT]; exact hcell
  exact ⟨_, st1, .threw q, hrun, hend, Or.inr ⟨q, rfl, E, ce, locs, hx _ hT hW.alike, hcell9, hv, hcl, hW, hsm.mono hc hs, hf⟩⟩
theorem vx_frame {U : State} {k n : Nat} (h : s.sameButNew ({ U with vm := s.vm } : State) locs k n) : s.heap.size ≤ U.heap.size ∧ ∀ q : Nat, q < s.heap.size → (∀ z ∈ locs, z.base ≠ q) → U.heap[q]? = s.heap[q]? := by
  obtain ⟨-, h2, -, -, -, h6⟩ := h
  refine ⟨h2, fun q hq hz => ?_⟩
  obtain ⟨c9, e1, e2, e3, e4⟩ := h6 q _ (Array.getElem?_eq_getElem hq)
  have hs : c9.slots = (s.heap[q]).slots := Array.ext_getElem? fun i => e4 i fun hm => hz _ hm rfl
  have h9 : c9 = s.heap[q] := by
    rw [hs] at e2
    exact e2
  have e5 : U.heap[q]? = some c9 := e1
  rw [e5, h9, Array.getElem?_eq_getElem hq]
end Ends
section Bodies
variable {l : Launch}
theorem vx_ofW {y : MethodName} {ws ws' : List Cond} {rm : Room} {Pc : Array Value → State → Prop} {Qc : Array Value → State → Outcome → State → Prop} {XC : String → State → State → Prop} {mc ms : Nat} {free : Addr → Prop} {cc : ByteArray} {maxL : Nat} {ret : Option FieldType}
    (hy : plainName y.cls = true) (hw : ws = Cond.code y cc maxL ret :: ws')
    (body : ∀ p e s m args below meth c s₁, BodyLoose p l y (headSpec ws rm) cc maxL ret e s m args below meth c s₁ → c.maxLocals = maxL → (∀ x ∈ c.exceptionTable.toList, False) → Pc args s →
      W p l e (headSpec ws rm).room s m args below meth c s.heap [] 0 0 (vx_MQ below Qc XC args s mc ms free) (entryFrame m args maxL)) : vx_Met l y ws rm Pc Qc XC mc ms free := by
  refine MetFree.of_bodyS (code := cc) (maxLocals := maxL) (ret := ret) hy ?_ ?_
  · intro args s m h hn
    obtain ⟨meth, c, h1, h2, h3, h4, h5, h6, -, -⟩ := Cond.code_spec hn (atoms_spec (ws := ws) h _ (by rw [hw]; exact List.mem_cons_self))
    exact ⟨meth, c, h1, h2, h3, h4, h5, h6⟩
  · intro p e s m args below meth c s₁ B hml hP _
    have hh0 : s₁.heap = s.heap := by rw [B.state]; rfl
    have ht : ∀ x ∈ c.exceptionTable.toList, False := by
      obtain ⟨meth9, c9, h1, h2, -, -, -, -, h7, -⟩ := Cond.code_spec B.named (atoms_spec (ws := ws) B.pre _ (by rw [hw]; exact List.mem_cons_self))
      cases Option.some.inj (h1.symm.trans B.method)
      cases Option.some.inj (h2.symm.trans (Stand.of_body B).code)
      intro x hx
      rw [Array.isEmpty_iff.mp h7] at hx
      cases hx
    obtain ⟨t, a1, o, b1, b2, b3⟩ := body p e s m args below meth c s₁ B hml ht hP s₁ hh0 (Stand.of_body B)
    exact ⟨t, o, a1, b1, b2, b3⟩
/-- the table of a body with handlers -/
theorem vx_table {p : Program} {x y : MethodName} {S : Spec} {cc bytes : ByteArray} {maxL maxL' : Nat} {ret ret' : Option FieldType} {e : Env} {s s₁ : State} {m : MethodId} {args : Array Value} {below : List Frame} {meth : Method} {c : Code} {hh : List (Nat × Nat × Nat × Nat)}
    (B : BodyLoose p l y S cc maxL ret e s m args below meth c s₁) (h : (Cond.codeWith y bytes maxL' ret' hh).before args s = true) : c.exceptionTable.toList = tableOf hh := by
  obtain ⟨m9, meth9, c9, hn9, h1, h2, -, -, h6, -⟩ := Cond.codeWith_spec h
  cases Option.some.inj (hn9.symm.trans B.named)
  cases Option.some.inj (h1.symm.trans B.method)
  cases Option.some.inj (h2.symm.trans (Stand.of_body B).code)
  rw [← h6, table_eq]
end Bodies
end VXA
/-! ===== END ===== -/
/-! ===== BEGIN a static call of a method with an exception table ===== -/
section VXS
variable {p : Program} {l : Launch} {e : Env} {R : Room} {s : State} {m : MethodId} {args : Array Value} {below : List Frame} {meth : Method} {c : Code} {T : State} {H : Heap} {locs : List Loc} {cells slots : Nat}
abbrev vx_CSW (R : Room) (s : State) (args : Array Value) (own : String) (index : Nat) (y : MethodName) (bytes : ByteArray) (maxL : Nat) (ret : Option FieldType) (hh : List (Nat × Nat × Nat × Nat)) (ws : List Cond) (rm : Room) (mc ms n : Nat) : Prop :=
  (rm.cells = mc ∧ rm.slots = ms ∧ rm.frames + 1 ≤ R.frames ∧ 8 + (maxL + 11) + rm.locals ≤ R.locals ∧ (∀ w ∈ ws, ∀ (a' : Array Value) (U : State), s.WarmedH U.vm → w.before a' U = true) ∧ Cond.codeWith y bytes maxL ret hh ∈ ws) ∧
  (Cond.codeWith y bytes maxL ret hh).before args s = true ∧ (Cond.initialized y.cls).before args s = true ∧ (y.cls ≠ "java/lang/invoke/MethodHandle" ∧ y.cls ≠ "java/lang/invoke/VarHandle") ∧
  (∀ sig, parseMethodDescriptor y.desc = some sig → n = sig.parameters.length) ∧ (Cond.methodLink own index y).before args s = true ∧ (Cond.static y).before args s = true
theorem vx_cwSW {own : String} {index maxL mc ms : Nat} {y : MethodName} {bytes : ByteArray} {ret : Option FieldType} {hh : List (Nat × Nat × Nat × Nat)} {Ts ws ws' : List Cond} {rm : Room} (n : Nat) (ht : ∀ w ∈ Ts, w.before args s = true) (hT : GoodIn Ts (va_wsS own index y ws)) (hw : ws = Cond.codeWith y bytes maxL ret hh :: ws') (hrc : rm.cells = mc) (hrs : rm.slots = ms)
    (hd : y.cls ≠ "java/lang/invoke/MethodHandle" ∧ y.cls ≠ "java/lang/invoke/VarHandle" ∧ (parseMethodDescriptor y.desc).map (fun d => d.parameters.length) = some n) (hR : rm.frames + 1 ≤ R.frames ∧ 8 + (maxL + 11) + rm.locals ≤ R.locals) :
    vx_CSW R s args own index y bytes maxL ret hh ws rm mc ms n := by
  have ok : ∀ w ∈ va_wsS own index y ws, w.before args s = true := fun w h => ht w (hT w h).1
  have hG : GoodIn Ts ws := fun w h => hT w (by unfold va_wsS; exact List.mem_append_right _ h)
  have hc : Cond.codeWith y bytes maxL ret hh ∈ ws := by rw [hw]; exact List.mem_cons_self
  refine ⟨⟨hrc, hrs, hR.1, hR.2, pay_in ht hG, hc⟩, ht _ (hG _ hc).1, ok _ (by simp [va_wsS]), ⟨hd.1, hd.2.1⟩, fun sig h => ?_, ok _ (by simp [va_wsS]), ok _ (by simp [va_wsS])⟩
  have h2 := hd.2.2
  rw [h] at h2
  exact (Option.some.inj h2).symm
theorem vx_callSW (X : Stand p l e R s m args below meth c T locs cells slots) (hexec : p.tables.exec = Jvm.exec) {own : String} {index : Nat} {y : MethodName} {bytes : ByteArray} {maxL : Nat} {ret : Option FieldType} {hh : List (Nat × Nat × Nat × Nat)}
    (hown : s.vm.findClass own = some m.cls) (hlink : (Cond.methodLink own index y).before args s = true) (hstat : (Cond.static y).before args s = true) (hinit : (Cond.initialized y.cls).before args s = true)
    (hcode : (Cond.codeWith y bytes maxL ret hh).before args s = true) (hy : y.cls ≠ "java/lang/invoke/MethodHandle" ∧ y.cls ≠ "java/lang/invoke/VarHandle")
    {W9 : Nat} {Pre : Pt → Array Value → Prop} {Post : Pt → Array Value → Option Value → Pt → Prop} (hK : Back l R p e below s args y 3 W9 Pre Post)
    {g : JFrame} (hg : g.method = m) (hsize : g.locals.size = c.maxLocals) {argsL rest : List Value} (hlen : ∀ sig, parseMethodDescriptor y.desc = some sig → argsL.length = sig.parameters.length)
    (hstack : g.stack = argsL.reverse ++ rest) (hW : 2 * g.monitorRoom + (rest.map fun v => v.category).sum ≤ W9) (hdg : decode c.code g.pc = .ok (.invokestatic index, 3))
    (hpre : ∀ vm₁, s.WarmedH vm₁ → Pre ⟨T.setVm vm₁, locs, cells, slots⟩ argsL.toArray) :
    ∃ (v : Option Value) (vm₁ : Vm) (B : Pt), s.WarmedH vm₁ ∧ Stand p l e R s m args below meth c B.U B.locs B.cells B.slots ∧ Post ⟨T.setVm vm₁, locs, cells, slots⟩ argsL.toArray v B ∧
      ∀ target, Steps p.tables e below (B.U.setTop { g with pc := g.pc + 3, stack := v.toList ++ rest }) target → Steps p.tables e below (T.setTop g) target := by
  obtain ⟨mk, methM, cM, hnamed, hmethM, -, -, -, -, -, -, hsigM⟩ := Cond.codeWith_spec hcode
  have hstatic : methM.isStatic = true := Cond.static_spec hnamed hmethM hstat
  obtain ⟨kP, hkP, -⟩ := className_of_methodNamed hnamed
  have hinitP : kP.init = .initialized := Cond.initialized_spec (findClass_of_methodNamed hnamed) hkP hinit
  obtain ⟨vm₁, X₁, hstep₁⟩ := X.invokestatic hexec hown hlink hnamed hmethM hstatic hkP hinitP hy (g := g) hg (argsL := argsL) (rest := rest) (hlen _ hsigM) hstack hdg
  obtain ⟨v, B, X', hpost, hsteps⟩ := hK m meth c ⟨T.setVm vm₁, locs, cells, slots⟩ { g with stack := rest } (.invokestatic index) mk argsL.toArray X₁ hg hsize hdg hW (X₁.named hnamed) (hpre vm₁ X₁.warmed)
  exact ⟨v, vm₁, B, X₁.warmed, X', hpost, fun target h => hstep₁ _ fun acts => by rw [doInvoke_state]; exact hsteps.trans h⟩
theorem vx_runSW {y : MethodName} {bytes cc : ByteArray} {maxL nL mc ms n index : Nat} {ret : Option FieldType} {hh : List (Nat × Nat × Nat × Nat)} {ws : List Cond} {rm : Room} {Pc : Array Value → State → Prop} {Qc : Array Value → State → Outcome → State → Prop} {free : Addr → Prop} {Ts : List Cond} {own : String} {As rest : List Value} {g : JFrame}
    (S : CallFix p m c cc nL s args Ts own) (hM : Met l y ws rm Pc Qc mc ms free) (cw : vx_CSW R s args own index y bytes maxL ret hh ws rm mc ms n) (hp : PreS s H Pc As)
    (hg : g.method = m) (hn : As.length = n) (hsize : g.locals.size = nL) (hstack : g.stack = As.reverse ++ rest) (hW : 2 * g.monitorRoom + (rest.map fun v => v.category).sum ≤ 8) (hdg : decode cc g.pc = .ok (.invokestatic index, 3)) (hf : cells + mc ≤ R.cells ∧ slots + ms ≤ R.slots) :
    va_Run p l e R s m args below meth c H locs cells slots mc ms g rest (Qc As.toArray) (free) := by
  obtain ⟨⟨hrc, hrs, hfr, hlo, hws, hcw⟩, hcode, hini, hy, hlen, hl, hstt⟩ := cw
  have hK : Back l R p e below s args y 3 8 (PreOf R mc ms Pc) (PostOf Qc mc ms free) := va_backW (hh := hh) (bytes := bytes) (maxL := maxL) (ret := ret) hM hp.1 hrc hrs hfr hlo hws hcw (fun a' U hW => word_at hW (Or.inl (by first | rfl | simp [Cond.onTables, Cond.keeps, Cond.steady])) hini)
  obtain ⟨hx, hb, hml, ho, -⟩ := S
  intro T hT X
  obtain ⟨v, vm₁, ⟨U', l2, c2, s2⟩, hW₁, X', ⟨g', mk, t, L, e1, e2, hq, h1, hL, h2, h3⟩, st⟩ := vx_callSW X hx (hh := hh) (bytes := bytes) (maxL := maxL) (ret := ret) ho hl hstt hini hcode hy hK hg (hsize.trans hml.symm) (argsL := As) (rest := rest) (fun sig h => hn.trans (hlen sig h)) hstack hW (by rw [hb]; exact hdg)
    (fun vm₁ hW₁ => ⟨hf.1, hf.2, hp.2 (T.setVm vm₁) hT hW₁⟩)
  dsimp only [Pt.U, Pt.locs, Pt.cells, Pt.slots] at X' e1 e2 h1 h2 h3 st
  subst h1; subst h2; subst h3
  exact ⟨v, (T.setVm vm₁).calling g' mk As.toArray, t, U', L, hT, X', hL, e1, e2, hq, st⟩
theorem vx_lt {D : va_G} {cl : List vw_C} {ws : va_W} {H1 : Heap} (h : va_P D cl ws H1) {k : Nat} {q : Nat × va_E} (hk : ws[k]? = some q) : q.1 < H1.size := (h k q hk).lt
end VXS
/-! ===== END ===== -/
/-! ===== BEGIN methods with a table of their own: called by a name, returning or throwing ===== -/
section VXH
/-! vx_backW, vx_callVX, vx_callSX, vx_callVW, vx_runVW, vx_runVX, vx_runSX, vx_ofWH follow the same proofs as their sisters above (Free/Laws.lean, Shelf42/LK1.lean); vx_outP calls Shelf42/NT130.lean (outThrough). -/
section
variable {l : Launch} {R : Room} {p : Program} {e : Env} {below : List Frame} {s : State} {sargs : Array Value} {y : MethodName} {len W9 : Nat}
theorem vx_backW {ws : List Cond} {rm : Room} {Pc : Array Value → State → Prop} {Qc : Array Value → State → Outcome → State → Prop} {XC : String → State → State → Prop} {mc ms : Nat} {free : Addr → Prop} {bytes : ByteArray} {maxL : Nat} {ret : Option FieldType} {hh : List (Nat × Nat × Nat × Nat)}
    (hM : vx_Met l y ws rm Pc Qc XC mc ms free) (hblind : FrameBlind Pc) (hrc : rm.cells = mc) (hrs : rm.slots = ms)
    (hframes : rm.frames + 1 ≤ R.frames) (hlocals : W9 + (maxL + 11) + rm.locals ≤ R.locals)
    (hws : ∀ w ∈ ws, ∀ a' U, s.WarmedH U.vm → w.before a' U = true) (hcode : Cond.codeWith y bytes maxL ret hh ∈ ws) (hinit : ∀ a' U, s.WarmedH U.vm → (Cond.initialized y.cls).before a' U = true) :
    vx_Back l R p e below s sargs y len W9 (PreOf R mc ms Pc) (PostOf Qc mc ms free) (vx_Post XC mc ms free) := by
  intro m meth c A g ig mk a X hg hsize hdg hW hn hp
  have h1 : (headSpec ws rm).pre.before a A.U = true := atoms_intro fun w hw => hws w hw _ _ X.warmed
  have h2 : (Cond.codeWith y bytes maxL ret hh).before a A.U = true := hws _ hcode _ _ X.warmed
  have h3 : (Cond.initialized y.cls).before a A.U = true := hinit _ _ X.warmed
  have h4 : A.cells + (headSpec ws rm).room.cells ≤ R.cells := by rw [show (headSpec ws rm).room.cells = mc from hrc]; exact hp.1
  have h5 : A.slots + (headSpec ws rm).room.slots ≤ R.slots := by rw [show (headSpec ws rm).room.slots = ms from hrs]; exact hp.2.1
  have hPc : Pc a (A.U.calling g mk a) := hblind _ _ _ _ hp.2.2
  obtain ⟨U, Ls, c0, s0⟩ := A
  dsimp only [Pt.U, Pt.locs, Pt.cells, Pt.slots] at h1 h2 h3 h4 h5 X hn hPc ⊢
  obtain ⟨m9, methY, cY, hn9, hmY, hcY, -, hlY, -⟩ := Cond.codeWith_spec h2
  cases Option.some.inj (hn9.symm.trans hn)
  obtain ⟨kY, hkY, -⟩ := className_of_methodNamed hn
  have hinitY : kY.init = .initialized := Cond.initialized_spec (findClass_of_methodNamed hn) hkY h3
  have h : At U g.method c below := by rw [hg]; exact X.here
  have hlocals9 : W9 + (maxL + 11) + (headSpec ws rm).room.locals ≤ R.locals := hlocals
  have happ : (headSpec ws rm).appliesLoose y e.platform (U.calling g mk a) = true :=
    Spec.appliesLoose_calling (g := g) h hdg hn hkY hinitY
      (X.room_calling (g := g) (R' := (headSpec ws rm).room) hsize hmY hcY hframes (by rw [hlY]; omega) h4 h5) h1
  obtain ⟨mid, hmid⟩ := h.above
  have hfr : (U.setTop g).frames = (.java g :: mid) ++ below := by rw [State.frames_setTop' g h.top, hmid]; rfl
  obtain ⟨o, s₂, hsteps, -, hend, hq⟩ := Steps.callFree hM p X.admits X.cas X.clock (acts := []) hfr happ hPc trivial
  have hq' : vx_Q Qc XC mc ms free a (U.calling g mk a) o s₂ := hq
  rw [State.frames_setTop' g h.top] at hend
  obtain ⟨g₀, hg0⟩ := Option.isSome_iff_exists.mp h.top
  obtain ⟨r, hr⟩ := State.topJava?_eq_some.mp hg0
  have hr' : (({ U with heap := s₂.heap, slotsUsed := s₂.slotsUsed } : State).setVm s₂.vm).frames = .java g₀ :: r := hr
  rcases hq' with ⟨hqc, L, hfe, hL⟩ | ⟨q, rfl, E, ce, L, hx, hce, hcv, hcl, hW₂, hsm, hL⟩
  · obtain ⟨⟨v, rfl⟩, hW₂, e2, q2, q3, q4, q5, q6⟩ := id hfe
    have e3 : s₂ = ({ (U.calling g mk a).setFrames s₂.frames with heap := s₂.heap, slotsUsed := s₂.slotsUsed } : State).setVm s₂.vm := by
      have : s₂ = ({ s₂ with vm := (U.calling g mk a).vm } : State).setVm s₂.vm := rfl
      rw [e2] at this
      exact this
    obtain ⟨c₂, i₂, len₂, hc₂, hd₂, hf₂⟩ := hend
    have hW' : U.WarmedH s₂.vm := hW₂
    have hcc : c₂ = c := by
      have h1 : s₂.code? g.method = U.code? g.method := by
        rw [State.code?_eq, State.code?_eq, hW'.alike.method?]
      exact Option.some.inj (hc₂.symm.trans (h1.trans h.code))
    subst hcc
    have hlen : len₂ = len := by rw [hdg] at hd₂; cases hd₂; rfl
    subst hlen
    have hs₂ : s₂ = (({ U with heap := s₂.heap, slotsUsed := s₂.slotsUsed } : State).setVm s₂.vm).setTop { g with pc := g.pc + len₂, stack := v.toList ++ g.stack } := by
      refine e3.trans ?_
      rw [hf₂, State.calling_eq h.top, State.setFrames_setFrames, State.setTop_of_frames _ hr', hr]
      rfl
    have hsame : U.sameButNew ({ U with heap := s₂.heap, slotsUsed := s₂.slotsUsed } : State) L mc ms := by
      refine ⟨?_, q2, q3, q4, q5, q6⟩
      obtain ⟨t, ht, -⟩ := State.frames_cons hr
      show ({ U with heap := s₂.heap, slotsUsed := s₂.slotsUsed } : State) = { U.setFrames U.frames with heap := s₂.heap, slotsUsed := s₂.slotsUsed }
      rw [State.setFrames_self ht]
    subst hg
    refine Or.inl ⟨v, ⟨(({ U with heap := s₂.heap, slotsUsed := s₂.slotsUsed } : State).setVm s₂.vm), Ls ++ L, c0 + mc, s0 + ms⟩,
      ⟨X.admits, X.cas, X.clock, X.frames, X.room, X.hears, X.method, X.code, (X.here.setHeapUsed s₂.heap s₂.slotsUsed).setVm hW'.alike, X.tail, State.WarmedH.trans X.warmed hW', X.limits, X.bytes, X.same.trans (hsame.setVm s.vm)⟩,
      ⟨g, mk, s₂, L, rfl, rfl, hqc, rfl, hL, rfl, rfl⟩, ?_⟩
    show Steps p.tables e below _ ((({ U with heap := s₂.heap, slotsUsed := s₂.slotsUsed } : State).setVm s₂.vm).setTop { g with pc := g.pc + len₂, stack := v.toList ++ g.stack })
    rw [← hs₂]
    exact hsteps
  · obtain ⟨e2, q2, q3, q4, q5, q6⟩ := id hsm
    have e3 : s₂ = ({ (U.calling g mk a).setFrames s₂.frames with heap := s₂.heap, slotsUsed := s₂.slotsUsed } : State).setVm s₂.vm := by
      have : s₂ = ({ s₂ with vm := (U.calling g mk a).vm } : State).setVm s₂.vm := rfl
      rw [e2] at this
      exact this
    have hf₂ : s₂.frames = .throwing q :: .java g :: U.frames.tail := hend
    have hW' : U.WarmedH s₂.vm := hW₂
    have hs₂ : s₂ = ((({ U with heap := s₂.heap, slotsUsed := s₂.slotsUsed } : State).setVm s₂.vm).setTop g).pushFrame (.throwing q) := by
      refine e3.trans ?_
      rw [hf₂, State.calling_eq h.top, State.setFrames_setFrames, State.pushFrame, State.frames_setTop _ hr', State.setTop_of_frames _ hr', State.setFrames_setFrames, hr]
      rfl
    have hsame : U.sameButNew ({ U with heap := s₂.heap, slotsUsed := s₂.slotsUsed } : State) L mc ms := by
      refine ⟨?_, q2, q3, q4, q5, q6⟩
      obtain ⟨t, ht, -⟩ := State.frames_cons hr
      show ({ U with heap := s₂.heap, slotsUsed := s₂.slotsUsed } : State) = { U.setFrames U.frames with heap := s₂.heap, slotsUsed := s₂.slotsUsed }
      rw [State.setFrames_self ht]
    subst hg
    refine Or.inr ⟨q, ⟨(({ U with heap := s₂.heap, slotsUsed := s₂.slotsUsed } : State).setVm s₂.vm), Ls ++ L, c0 + mc, s0 + ms⟩,
      ⟨X.admits, X.cas, X.clock, X.frames, X.room, X.hears, X.method, X.code, (X.here.setHeapUsed s₂.heap s₂.slotsUsed).setVm hW'.alike, X.tail, State.WarmedH.trans X.warmed hW', X.limits, X.bytes, X.same.trans (hsame.setVm s.vm)⟩,
      ⟨g, mk, s₂, L, E, ce, rfl, rfl, hx, hce, hcv, hcl, rfl, hL, rfl, rfl⟩, ?_⟩
    show Steps p.tables e below _ (((({ U with heap := s₂.heap, slotsUsed := s₂.slotsUsed } : State).setVm s₂.vm).setTop g).pushFrame (.throwing q))
    rw [← hs₂]
    exact hsteps
end
variable {p : Program} {l : Launch} {e : Env} {R : Room} {s : State} {m : MethodId} {args : Array Value} {below : List Frame} {meth : Method} {c : Code} {T : State} {H : Heap} {locs : List Loc} {cells slots : Nat}
theorem vx_callVX (X : Stand p l e R s m args below meth c T locs cells slots) (hexec : p.tables.exec = Jvm.exec) {own C : String} {index : Nat} {y : MethodName} {bytes : ByteArray} {maxL : Nat} {ret : Option FieldType} {hh : List (Nat × Nat × Nat × Nat)}
    (hown : s.vm.findClass own = some m.cls) (hlink : (Cond.methodLink own index y).before args s = true) (hinst : (Cond.instanceMethod y).before args s = true) (hsel : (Cond.selects C y y).before args s = true)
    (hcode : (Cond.codeWith y bytes maxL ret hh).before args s = true) (hy : y.cls ≠ "java/lang/invoke/MethodHandle" ∧ y.cls ≠ "java/lang/invoke/VarHandle")
    {W9 : Nat} {Pre : Pt → Array Value → Prop} {Post : Pt → Array Value → Option Value → Pt → Prop} {PostX : Pt → Array Value → Addr → Pt → Prop} (hK : vx_Back l R p e below s args y 3 W9 Pre Post PostX)
    {b : Addr} {cellB : Cell} (hcell : T.heap[b]? = some cellB) (hobj : cellB.vm.isStatics = false) (hcls : s.vm.findClass C = some cellB.cls)
    {g : JFrame} (hg : g.method = m) (hsize : g.locals.size = c.maxLocals) {argsL rest : List Value} (hlen : ∀ sig, parseMethodDescriptor y.desc = some sig → argsL.length = sig.parameters.length)
    (hstack : g.stack = argsL.reverse ++ .ref b :: rest) (hW : 2 * g.monitorRoom + (rest.map fun v => v.category).sum ≤ W9) (hdg : decode c.code g.pc = .ok (.invokevirtual index, 3))
    (hpre : ∀ vm₁, s.WarmedH vm₁ → Pre ⟨T.setVm vm₁, locs, cells, slots⟩ (Value.ref b :: argsL).toArray) :
    (∃ (v : Option Value) (vm₁ : Vm) (B : Pt), s.WarmedH vm₁ ∧ Stand p l e R s m args below meth c B.U B.locs B.cells B.slots ∧ Post ⟨T.setVm vm₁, locs, cells, slots⟩ (Value.ref b :: argsL).toArray v B ∧
      ∀ target, Steps p.tables e below (B.U.setTop { g with pc := g.pc + 3, stack := v.toList ++ rest }) target → Steps p.tables e below (T.setTop g) target) ∨
    (∃ (q : Addr) (vm₁ : Vm) (B : Pt), s.WarmedH vm₁ ∧ Stand p l e R s m args below meth c B.U B.locs B.cells B.slots ∧ PostX ⟨T.setVm vm₁, locs, cells, slots⟩ (Value.ref b :: argsL).toArray q B ∧
      Steps p.tables e below (T.setTop g) ((B.U.setTop { g with stack := rest }).pushFrame (.throwing q))) := by
  obtain ⟨mk, methM, hnamed, hmethM, hstM, habM⟩ := Cond.instanceMethod_spec hinst
  obtain ⟨m8, methM', cM, hn8, hmethM', -, -, -, -, -, -, hsigM⟩ := Cond.codeWith_spec hcode
  cases Option.some.inj (hn8.symm.trans hnamed)
  cases hmethM.symm.trans hmethM'
  obtain ⟨c2, r2, m2, q1, q2, q3, q4, kP, hkP, hkPi⟩ := Cond.selects_spec hsel
  cases hcls.symm.trans q1
  cases (State.methodFound?_of_named hnamed hy).symm.trans q2
  cases hnamed.symm.trans q3
  have hselP : selectMethod e.platform s.vm cellB.cls mk = .method mk := by rw [Launch.admits_selectMethod X.admits]; exact q4
  obtain ⟨vm₁, X₁, hstep₁⟩ := X.invokevirtual hexec hown hlink hnamed hmethM hstM hkP hkPi hy (a := b) (cell := cellB) hcell
    (fun z h => by rw [h] at hobj; cases hobj) hselP hmethM habM hkP hkPi (g := g) hg (argsL := argsL) (rest := rest) (hlen _ hsigM) hstack hdg
  rcases hK m meth c ⟨T.setVm vm₁, locs, cells, slots⟩ { g with stack := rest } (.invokevirtual index) mk (Value.ref b :: argsL).toArray X₁ hg hsize hdg hW (X₁.named hnamed) (hpre vm₁ X₁.warmed) with ⟨v, B, X', hpost, hsteps⟩ | ⟨q, B, X', hpost, hsteps⟩
  · exact Or.inl ⟨v, vm₁, B, X₁.warmed, X', hpost, fun target h => hstep₁ _ fun acts => by rw [doInvoke_state]; exact hsteps.trans h⟩
  · exact Or.inr ⟨q, vm₁, B, X₁.warmed, X', hpost, hstep₁ _ fun acts => by rw [doInvoke_state]; exact hsteps⟩
theorem vx_callSX (X : Stand p l e R s m args below meth c T locs cells slots) (hexec : p.tables.exec = Jvm.exec) {own : String} {index : Nat} {y : MethodName} {bytes : ByteArray} {maxL : Nat} {ret : Option FieldType} {hh : List (Nat × Nat × Nat × Nat)}
    (hown : s.vm.findClass own = some m.cls) (hlink : (Cond.methodLink own index y).before args s = true) (hstat : (Cond.static y).before args s = true) (hinit : (Cond.initialized y.cls).before args s = true)
    (hcode : (Cond.codeWith y bytes maxL ret hh).before args s = true) (hy : y.cls ≠ "java/lang/invoke/MethodHandle" ∧ y.cls ≠ "java/lang/invoke/VarHandle")
    {W9 : Nat} {Pre : Pt → Array Value → Prop} {Post : Pt → Array Value → Option Value → Pt → Prop} {PostX : Pt → Array Value → Addr → Pt → Prop} (hK : vx_Back l R p e below s args y 3 W9 Pre Post PostX)
    {g : JFrame} (hg : g.method = m) (hsize : g.locals.size = c.maxLocals) {argsL rest : List Value} (hlen : ∀ sig, parseMethodDescriptor y.desc = some sig → argsL.length = sig.parameters.length)
    (hstack : g.stack = argsL.reverse ++ rest) (hW : 2 * g.monitorRoom + (rest.map fun v => v.category).sum ≤ W9) (hdg : decode c.code g.pc = .ok (.invokestatic index, 3))
    (hpre : ∀ vm₁, s.WarmedH vm₁ → Pre ⟨T.setVm vm₁, locs, cells, slots⟩ argsL.toArray) :
    (∃ (v : Option Value) (vm₁ : Vm) (B : Pt), s.WarmedH vm₁ ∧ Stand p l e R s m args below meth c B.U B.locs B.cells B.slots ∧ Post ⟨T.setVm vm₁, locs, cells, slots⟩ argsL.toArray v B ∧
      ∀ target, Steps p.tables e below (B.U.setTop { g with pc := g.pc + 3, stack := v.toList ++ rest }) target → Steps p.tables e below (T.setTop g) target) ∨
    (∃ (q : Addr) (vm₁ : Vm) (B : Pt), s.WarmedH vm₁ ∧ Stand p l e R s m args below meth c B.U B.locs B.cells B.slots ∧ PostX ⟨T.setVm vm₁, locs, cells, slots⟩ argsL.toArray q B ∧
      Steps p.tables e below (T.setTop g) ((B.U.setTop { g with stack := rest }).pushFrame (.throwing q))) := by
  obtain ⟨mk, methM, cM, hnamed, hmethM, -, -, -, -, -, -, hsigM⟩ := Cond.codeWith_spec hcode
  have hstatic : methM.isStatic = true := Cond.static_spec hnamed hmethM hstat
  obtain ⟨kP, hkP, -⟩ := className_of_methodNamed hnamed
  have hinitP : kP.init = .initialized := Cond.initialized_spec (findClass_of_methodNamed hnamed) hkP hinit
  obtain ⟨vm₁, X₁, hstep₁⟩ := X.invokestatic hexec hown hlink hnamed hmethM hstatic hkP hinitP hy (g := g) hg (argsL := argsL) (rest := rest) (hlen _ hsigM) hstack hdg
  rcases hK m meth c ⟨T.setVm vm₁, locs, cells, slots⟩ { g with stack := rest } (.invokestatic index) mk argsL.toArray X₁ hg hsize hdg hW (X₁.named hnamed) (hpre vm₁ X₁.warmed) with ⟨v, B, X', hpost, hsteps⟩ | ⟨q, B, X', hpost, hsteps⟩
  · exact Or.inl ⟨v, vm₁, B, X₁.warmed, X', hpost, fun target h => hstep₁ _ fun acts => by rw [doInvoke_state]; exact hsteps.trans h⟩
  · exact Or.inr ⟨q, vm₁, B, X₁.warmed, X', hpost, hstep₁ _ fun acts => by rw [doInvoke_state]; exact hsteps⟩
theorem vx_callVW (X : Stand p l e R s m args below meth c T locs cells slots) (hexec : p.tables.exec = Jvm.exec) {own C : String} {index : Nat} {y : MethodName} {bytes : ByteArray} {maxL : Nat} {ret : Option FieldType} {hh : List (Nat × Nat × Nat × Nat)}
    (hown : s.vm.findClass own = some m.cls) (hlink : (Cond.methodLink own index y).before args s = true) (hinst : (Cond.instanceMethod y).before args s = true) (hsel : (Cond.selects C y y).before args s = true)
    (hcode : (Cond.codeWith y bytes maxL ret hh).before args s = true) (hy : y.cls ≠ "java/lang/invoke/MethodHandle" ∧ y.cls ≠ "java/lang/invoke/VarHandle")
    {W9 : Nat} {Pre : Pt → Array Value → Prop} {Post : Pt → Array Value → Option Value → Pt → Prop} (hK : Back l R p e below s args y 3 W9 Pre Post)
    {b : Addr} {cellB : Cell} (hcell : T.heap[b]? = some cellB) (hobj : cellB.vm.isStatics = false) (hcls : s.vm.findClass C = some cellB.cls)
    {g : JFrame} (hg : g.method = m) (hsize : g.locals.size = c.maxLocals) {argsL rest : List Value} (hlen : ∀ sig, parseMethodDescriptor y.desc = some sig → argsL.length = sig.parameters.length)
    (hstack : g.stack = argsL.reverse ++ .ref b :: rest) (hW : 2 * g.monitorRoom + (rest.map fun v => v.category).sum ≤ W9) (hdg : decode c.code g.pc = .ok (.invokevirtual index, 3))
    (hpre : ∀ vm₁, s.WarmedH vm₁ → Pre ⟨T.setVm vm₁, locs, cells, slots⟩ (Value.ref b :: argsL).toArray) :
    ∃ (v : Option Value) (vm₁ : Vm) (B : Pt), s.WarmedH vm₁ ∧ Stand p l e R s m args below meth c B.U B.locs B.cells B.slots ∧ Post ⟨T.setVm vm₁, locs, cells, slots⟩ (Value.ref b :: argsL).toArray v B ∧
      ∀ target, Steps p.tables e below (B.U.setTop { g with pc := g.pc + 3, stack := v.toList ++ rest }) target → Steps p.tables e below (T.setTop g) target := by
  obtain ⟨mk, methM, hnamed, hmethM, hstM, habM⟩ := Cond.instanceMethod_spec hinst
  obtain ⟨m8, methM', cM, hn8, hmethM', -, -, -, -, -, -, hsigM⟩ := Cond.codeWith_spec hcode
  cases Option.some.inj (hn8.symm.trans hnamed)
  cases hmethM.symm.trans hmethM'
  obtain ⟨c2, r2, m2, q1, q2, q3, q4, kP, hkP, hkPi⟩ := Cond.selects_spec hsel
  cases hcls.symm.trans q1
  cases (State.methodFound?_of_named hnamed hy).symm.trans q2
  cases hnamed.symm.trans q3
  have hselP : selectMethod e.platform s.vm cellB.cls mk = .method mk := by rw [Launch.admits_selectMethod X.admits]; exact q4
  obtain ⟨vm₁, X₁, hstep₁⟩ := X.invokevirtual hexec hown hlink hnamed hmethM hstM hkP hkPi hy (a := b) (cell := cellB) hcell
    (fun z h => by rw [h] at hobj; cases hobj) hselP hmethM habM hkP hkPi (g := g) hg (argsL := argsL) (rest := rest) (hlen _ hsigM) hstack hdg
  obtain ⟨v, B, X', hpost, hsteps⟩ := hK m meth c ⟨T.setVm vm₁, locs, cells, slots⟩ { g with stack := rest } (.invokevirtual index) mk (Value.ref b :: argsL).toArray X₁ hg hsize hdg hW (X₁.named hnamed) (hpre vm₁ X₁.warmed)
  exact ⟨v, vm₁, B, X₁.warmed, X', hpost, fun target h => hstep₁ _ fun acts => by rw [doInvoke_state]; exact hsteps.trans h⟩
abbrev vx_CVW (R : Room) (s : State) (args : Array Value) (own C : String) (index : Nat) (y : MethodName) (bytes : ByteArray) (maxL : Nat) (ret : Option FieldType) (hh : List (Nat × Nat × Nat × Nat)) (ws : List Cond) (rm : Room) (mc ms n : Nat) : Prop :=
  (rm.cells = mc ∧ rm.slots = ms ∧ rm.frames + 1 ≤ R.frames ∧ 8 + (maxL + 11) + rm.locals ≤ R.locals ∧ (∀ w ∈ ws, ∀ (a' : Array Value) (U : State), s.WarmedH U.vm → w.before a' U = true) ∧ Cond.codeWith y bytes maxL ret hh ∈ ws) ∧
  (Cond.codeWith y bytes maxL ret hh).before args s = true ∧ (Cond.initialized y.cls).before args s = true ∧ (y.cls ≠ "java/lang/invoke/MethodHandle" ∧ y.cls ≠ "java/lang/invoke/VarHandle") ∧
  (∀ sig, parseMethodDescriptor y.desc = some sig → n = sig.parameters.length) ∧ (Cond.methodLink own index y).before args s = true ∧ (Cond.instanceMethod y).before args s = true ∧ (Cond.selects C y y).before args s = true
theorem vx_cwVW {own C : String} {index maxL mc ms : Nat} {y : MethodName} {bytes : ByteArray} {ret : Option FieldType} {hh : List (Nat × Nat × Nat × Nat)} {Ts ws ws' : List Cond} {rm : Room} (n : Nat) (ht : ∀ w ∈ Ts, w.before args s = true) (hT : GoodIn Ts (wsV own index C y ws)) (hw : ws = Cond.codeWith y bytes maxL ret hh :: ws') (hrc : rm.cells = mc) (hrs : rm.slots = ms)
    (hd : y.cls = C ∧ y.cls ≠ "java/lang/invoke/MethodHandle" ∧ y.cls ≠ "java/lang/invoke/VarHandle" ∧ (parseMethodDescriptor y.desc).map (fun d => d.parameters.length) = some n) (hR : rm.frames + 1 ≤ R.frames ∧ 8 + (maxL + 11) + rm.locals ≤ R.locals) :
    vx_CVW R s args own C index y bytes maxL ret hh ws rm mc ms n := by
  obtain ⟨hC, hd⟩ := hd
  subst hC
  have ok : ∀ w ∈ wsV own index y.cls y ws, w.before args s = true := fun w h => ht w (hT w h).1
  have hG : GoodIn Ts ws := fun w h => hT w (by unfold wsV; exact List.mem_append_right _ h)
  have hc : Cond.codeWith y bytes maxL ret hh ∈ ws := by rw [hw]; exact List.mem_cons_self
  refine ⟨⟨hrc, hrs, hR.1, hR.2, pay_in ht hG, hc⟩, ht _ (hG _ hc).1, ok _ (by simp [wsV]), ⟨hd.1, hd.2.1⟩, fun sig h => ?_, ok _ (by simp [wsV]), ok _ (by simp [wsV]), ok _ (by simp [wsV])⟩
  have h2 := hd.2.2
  rw [h] at h2
  exact (Option.some.inj h2).symm
theorem vx_runVW {y : MethodName} {bytes cc : ByteArray} {maxL nL mc ms n index : Nat} {ret : Option FieldType} {hh : List (Nat × Nat × Nat × Nat)} {ws : List Cond} {rm : Room} {Pc : Array Value → State → Prop} {Qc : Array Value → State → Outcome → State → Prop} {free : Addr → Prop} {Ts : List Cond} {own C : String} {b : Addr} {As rest : List Value} {g : JFrame}
    (S : CallFix p m c cc nL s args Ts own) (hM : Met l y ws rm Pc Qc mc ms free) (cw : vx_CVW R s args own C index y bytes maxL ret hh ws rm mc ms n) (hp : PreV s H C b Pc As)
    (hg : g.method = m) (hn : As.length = n) (hsize : g.locals.size = nL) (hstack : g.stack = As.reverse ++ .ref b :: rest) (hW : 2 * g.monitorRoom + (rest.map fun v => v.category).sum ≤ 8) (hdg : decode cc g.pc = .ok (.invokevirtual index, 3)) (hf : cells + mc ≤ R.cells ∧ slots + ms ≤ R.slots) :
    va_Run p l e R s m args below meth c H locs cells slots mc ms g rest (Qc (Value.ref b :: As).toArray) free := by
  obtain ⟨⟨hrc, hrs, hfr, hlo, hws, hcw⟩, hcode, hini, hy, hlen, hl, hin, hse⟩ := cw
  have hK : Back l R p e below s args y 3 8 (PreOf R mc ms Pc) (PostOf Qc mc ms free) := va_backW (hh := hh) (bytes := bytes) (maxL := maxL) (ret := ret) hM hp.1 hrc hrs hfr hlo hws hcw (fun a' U hW => word_at hW (Or.inl (by first | rfl | simp [Cond.onTables, Cond.keeps, Cond.steady])) hini)
  obtain ⟨hx, hb, hml, ho, -⟩ := S
  obtain ⟨-, ⟨cellB, hcB, hoB, hclB⟩, hPc⟩ := hp
  intro T hT X
  obtain ⟨v, vm₁, ⟨U', l2, c2, s2⟩, hW₁, X', ⟨g', mk, t, L, e1, e2, hq, h1, hL, h2, h3⟩, st⟩ := vx_callVW X hx (C := C) (hh := hh) (bytes := bytes) (maxL := maxL) (ret := ret) ho hl hin hse hcode hy hK (by rw [hT]; exact hcB) hoB hclB hg (hsize.trans hml.symm) (argsL := As) (rest := rest) (fun sig h => hn.trans (hlen sig h)) hstack hW (by rw [hb]; exact hdg)
    (fun vm₁ hW₁ => ⟨hf.1, hf.2, hPc (T.setVm vm₁) hT hW₁⟩)
  dsimp only [Pt.U, Pt.locs, Pt.cells, Pt.slots] at X' e1 e2 h1 h2 h3 st
  subst h1; subst h2; subst h3
  exact ⟨v, (T.setVm vm₁).calling g' mk (Value.ref b :: As).toArray, t, U', L, hT, X', hL, e1, e2, hq, st⟩
section
variable {y : MethodName} {bytes cc : ByteArray} {maxL nL mc ms n index : Nat} {ret : Option FieldType} {ws : List Cond} {rm : Room} {Pc : Array Value → State → Prop} {Qc : Array Value → State → Outcome → State → Prop} {XC : String → State → State → Prop} {free : Addr → Prop} {Ts : List Cond} {own C : String} {b : Addr} {As rest : List Value} {g : JFrame}
theorem vx_runVX {hh : List (Nat × Nat × Nat × Nat)} (S : CallFix p m c cc nL s args Ts own) (hM : vx_Met l y ws rm Pc Qc XC mc ms free) (cw : vx_CVW R s args own C index y bytes maxL ret hh ws rm mc ms n) (hp : PreV s H C b Pc As)
    (hg : g.method = m) (hn : As.length = n) (hsize : g.locals.size = nL) (hstack : g.stack = As.reverse ++ .ref b :: rest) (hW : 2 * g.monitorRoom + (rest.map fun v => v.category).sum ≤ 8) (hdg : decode cc g.pc = .ok (.invokevirtual index, 3)) (hf : cells + mc ≤ R.cells ∧ slots + ms ≤ R.slots) :
    vx_Run p l e R s m args below meth c H locs cells slots mc ms g rest (Qc (Value.ref b :: As).toArray) XC free := by
  obtain ⟨⟨hrc, hrs, hfr, hlo, hws, hcw⟩, hcode, hini, hy, hlen, hl, hin, hse⟩ := cw
  have hK : vx_Back l R p e below s args y 3 8 (PreOf R mc ms Pc) (PostOf Qc mc ms free) (vx_Post XC mc ms free) := vx_backW (hh := hh) (bytes := bytes) (maxL := maxL) (ret := ret) hM hp.1 hrc hrs hfr hlo hws hcw (fun a' U hW => word_at hW (Or.inl (by first | rfl | simp [Cond.onTables, Cond.keeps, Cond.steady])) hini)
  obtain ⟨hx, hb, hml, ho, -⟩ := S
  obtain ⟨-, ⟨cellB, hcB, hoB, hclB⟩, hPc⟩ := hp
  intro T hT X
  rcases vx_callVX X hx (C := C) (hh := hh) (bytes := bytes) (maxL := maxL) (ret := ret) ho hl hin hse hcode hy hK (by rw [hT]; exact hcB) hoB hclB hg (hsize.trans hml.symm) (argsL := As) (rest := rest) (fun sig h => hn.trans (hlen sig h)) hstack hW (by rw [hb]; exact hdg)
    (fun vm₁ hW₁ => ⟨hf.1, hf.2, hPc (T.setVm vm₁) hT hW₁⟩) with ⟨v, vm₁, ⟨U', l2, c2, s2⟩, hW₁, X', ⟨g', mk, t, L, e1, e2, hq, h1, hL, h2, h3⟩, st⟩ | ⟨q, vm₁, ⟨U', l2, c2, s2⟩, hW₁, X', ⟨g', mk, t, L, E, ce, e1, e2, hq, hce, hcv, hcl, h1, hL, h2, h3⟩, st⟩
  · dsimp only [Pt.U, Pt.locs, Pt.cells, Pt.slots] at X' e1 e2 h1 h2 h3 st
    subst h1; subst h2; subst h3
    exact Or.inl ⟨v, (T.setVm vm₁).calling g' mk (Value.ref b :: As).toArray, t, U', L, hT, X', hL, e1, e2, hq, st⟩
  · dsimp only [Pt.U, Pt.locs, Pt.cells, Pt.slots] at X' e1 e2 h1 h2 h3 st hcl
    subst h1; subst h2; subst h3
    exact Or.inr ⟨q, (T.setVm vm₁).calling g' mk (Value.ref b :: As).toArray, t, U', L, E, ce, hT, X', hL, e1, e2, hq, hce, hcv, vx_cls hW₁ hcl, st⟩
theorem vx_runSX {hh : List (Nat × Nat × Nat × Nat)} (S : CallFix p m c cc nL s args Ts own) (hM : vx_Met l y ws rm Pc Qc XC mc ms free) (cw : vx_CSW R s args own index y bytes maxL ret hh ws rm mc ms n) (hp : PreS s H Pc As)
    (hg : g.method = m) (hn : As.length = n) (hsize : g.locals.size = nL) (hstack : g.stack = As.reverse ++ rest) (hW : 2 * g.monitorRoom + (rest.map fun v => v.category).sum ≤ 8) (hdg : decode cc g.pc = .ok (.invokestatic index, 3)) (hf : cells + mc ≤ R.cells ∧ slots + ms ≤ R.slots) :
    vx_Run p l e R s m args below meth c H locs cells slots mc ms g rest (Qc As.toArray) XC free := by
  obtain ⟨⟨hrc, hrs, hfr, hlo, hws, hcw⟩, hcode, hini, hy, hlen, hl, hstt⟩ := cw
  have hK : vx_Back l R p e below s args y 3 8 (PreOf R mc ms Pc) (PostOf Qc mc ms free) (vx_Post XC mc ms free) := vx_backW (hh := hh) (bytes := bytes) (maxL := maxL) (ret := ret) hM hp.1 hrc hrs hfr hlo hws hcw (fun a' U hW => word_at hW (Or.inl (by first | rfl | simp [Cond.onTables, Cond.keeps, Cond.steady])) hini)
  obtain ⟨hx, hb, hml, ho, -⟩ := S
  intro T hT X
  rcases vx_callSX X hx (hh := hh) (bytes := bytes) (maxL := maxL) (ret := ret) ho hl hstt hini hcode hy hK hg (hsize.trans hml.symm) (argsL := As) (rest := rest) (fun sig h => hn.trans (hlen sig h)) hstack hW (by rw [hb]; exact hdg)
    (fun vm₁ hW₁ => ⟨hf.1, hf.2, hp.2 (T.setVm vm₁) hT hW₁⟩) with ⟨v, vm₁, ⟨U', l2, c2, s2⟩, hW₁, X', ⟨g', mk, t, L, e1, e2, hq, h1, hL, h2, h3⟩, st⟩ | ⟨q, vm₁, ⟨U', l2, c2, s2⟩, hW₁, X', ⟨g', mk, t, L, E, ce, e1, e2, hq, hce, hcv, hcl, h1, hL, h2, h3⟩, st⟩
  · dsimp only [Pt.U, Pt.locs, Pt.cells, Pt.slots] at X' e1 e2 h1 h2 h3 st
    subst h1; subst h2; subst h3
    exact Or.inl ⟨v, (T.setVm vm₁).calling g' mk As.toArray, t, U', L, hT, X', hL, e1, e2, hq, st⟩
  · dsimp only [Pt.U, Pt.locs, Pt.cells, Pt.slots] at X' e1 e2 h1 h2 h3 st hcl
    subst h1; subst h2; subst h3
    exact Or.inr ⟨q, (T.setVm vm₁).calling g' mk As.toArray, t, U', L, E, ce, hT, X', hL, e1, e2, hq, hce, hcv, vx_cls hW₁ hcl, st⟩
end
end VXH
theorem vx_ofWH {l : Launch} {y : MethodName} {ws ws' : List Cond} {rm : Room} {Pc : Array Value → State → Prop} {Qc : Array Value → State → Outcome → State → Prop} {XC : String → State → State → Prop} {mc ms : Nat} {free : Addr → Prop} {cc : ByteArray} {maxL : Nat} {ret : Option FieldType} {hh : List (Nat × Nat × Nat × Nat)}
    (hy : plainName y.cls = true) (hw : ws = Cond.codeWith y cc maxL ret hh :: ws')
    (body : ∀ p e s m args below meth c s₁, BodyLoose p l y (headSpec ws rm) cc maxL ret e s m args below meth c s₁ → c.maxLocals = maxL → Pc args s →
      W p l e (headSpec ws rm).room s m args below meth c s.heap [] 0 0 (vx_MQ below Qc XC args s mc ms free) (entryFrame m args maxL)) : vx_Met l y ws rm Pc Qc XC mc ms free := by
  refine MetFree.of_bodyS (code := cc) (maxLocals := maxL) (ret := ret) hy ?_ ?_
  · intro args s m h hn
    obtain ⟨m9, meth, c, hn9, h1, h2, h3, h4, -, h5, h6, -⟩ := Cond.codeWith_spec (atoms_spec (ws := ws) h _ (by rw [hw]; exact List.mem_cons_self))
    cases hn.symm.trans hn9
    exact ⟨meth, c, h1, h2, h3, h4, h5, h6⟩
  · intro p e s m args below meth c s₁ B hml hP _
    have hh0 : s₁.heap = s.heap := by rw [B.state]; rfl
    obtain ⟨t, a1, o, b1, b2, b3⟩ := body p e s m args below meth c s₁ B hml hP s₁ hh0 (Stand.of_body B)
    exact ⟨t, o, a1, b1, b2, b3⟩
/-! ===== END ===== -/
end
section
section VXB
section Rows
variable {p : Program} {l : Launch} {e : Env} {R : Room} {s : State} {m : MethodId} {args : Array Value} {below : List Frame} {meth : Method} {c : Code} {H : Heap} {locs : List Loc} {cells slots : Nat} {Q : State → Prop}
variable {mc ms : Nat} {free : Addr → Prop} {A0 A1 : Nat → Prop} {H0 : Heap} {a : Array Value} {pc : Nat} {ls : Array Slot} {st0 rest : List Value}
end Rows
section Ends
variable {p : Program} {l : Launch} {e : Env} {R : Room} {s : State} {m : MethodId} {args : Array Value} {below : List Frame} {meth : Method} {c : Code} {H : Heap} {locs : List Loc} {cells slots : Nat} {Q : State → Prop}
variable {mc ms : Nat} {free : Addr → Prop} {A0 A1 : Nat → Prop} {H0 : Heap} {a : Array Value} {ls : Array Slot} {st0 rest : List Value}
variable {Qc : Array Value → State → Outcome → State → Prop} {XC : String → State → State → Prop}
/-- the words of a throw but the four that speak of the heap -/
def vx_no (w : Cond) : Bool := decide (w ≠ .isRef (.static Bundle.tN "UNASSIGNED_STACK" Bundle.steD)) && decide (w ≠ .isRef (.static Bundle.tN "SUPPRESSED_SENTINEL" Bundle.listD)) && decide (w ≠ .laysStatic Bundle.tN "UNASSIGNED_STACK" Bundle.steD) && decide (w ≠ .laysStatic Bundle.tN "SUPPRESSED_SENTINEL" Bundle.listD)
def vx_at0 (own : String) (ic : Nat) (X : String) (names : List String) : List Cond := (Bundle.ownAtoms0 own ic X names).filter vx_no
def vx_atS (own : String) (ic : Nat) (X : String) (names : List String) : List Cond := (Bundle.ownAtoms own ic X names).filter vx_no
/-- a word that the tables alone decide, or a good one -/
def vx_ot (w : Cond) : Bool := w.onTables || goodWord w
theorem vx_ot_at {args a' : Array Value} {s U : State} {w : Cond} (hW : s.WarmedH U.vm) (hvm : s.vm = U.vm) (hg : vx_ot w = true) (h : w.before args s = true) : w.before a' U = true := by
  simp only [vx_ot, Bool.or_eq_true] at hg
  rcases hg with hg | hg
  · exact va_tabs hg hvm h
  · exact word_at hW (good_of_word hg) h
/-- a list's words: the good ones out of the method's own list, the others by premises of their own -/
theorem vx_hat {args : Array Value} {s : State} {L B : List Cond} (h1 : ∀ w ∈ L.filter goodWord, w.before args s = true) (h2 : ∀ w ∈ L.filter (fun w => !goodWord w), w ∈ B) (h3 : ∀ w ∈ B, w.before args s = true) : ∀ w ∈ L, w.before args s = true := by
  intro w hw
  by_cases g : goodWord w = true
  · exact h1 w (List.mem_filter.mpr ⟨hw, g⟩)
  · refine h3 w (h2 w (List.mem_filter.mpr ⟨hw, ?_⟩))
    show (!goodWord w) = true
    cases hgw : goodWord w
    · rfl
    · exact absurd hgw g
theorem vx_c {args : Array Value} {s : State} {w : Cond} {B : List Cond} (h : w.before args s = true) (t : ∀ w ∈ B, w.before args s = true) : ∀ w' ∈ w :: B, w'.before args s = true := fun w' h' => (List.mem_cons.mp h').elim (fun e => by rw [e]; exact h) (t w')
theorem vx_n {args : Array Value} {s : State} : ∀ w ∈ ([] : List Cond), w.before args s = true := fun _ h => nomatch h
theorem vx_own {args : Array Value} {s : State} {L : List Cond} (h1 : ∀ w ∈ L.filter vx_no, w.before args s = true)
    (hU : (Cond.isRef (.static Bundle.tN "UNASSIGNED_STACK" Bundle.steD)).before args s = true) (hN : (Cond.isRef (.static Bundle.tN "SUPPRESSED_SENTINEL" Bundle.listD)).before args s = true)
    (lU : (Cond.laysStatic Bundle.tN "UNASSIGNED_STACK" Bundle.steD).before args s = true) (lN : (Cond.laysStatic Bundle.tN "SUPPRESSED_SENTINEL" Bundle.listD).before args s = true) : ∀ w ∈ L, w.before args s = true := by
  intro w hw
  by_cases e1 : w = .isRef (.static Bundle.tN "UNASSIGNED_STACK" Bundle.steD)
  · rw [e1]; exact hU
  · by_cases e2 : w = .isRef (.static Bundle.tN "SUPPRESSED_SENTINEL" Bundle.listD)
    · rw [e2]; exact hN
    · by_cases e3 : w = .laysStatic Bundle.tN "UNASSIGNED_STACK" Bundle.steD
      · rw [e3]; exact lU
      · by_cases e4 : w = .laysStatic Bundle.tN "SUPPRESSED_SENTINEL" Bundle.listD
        · rw [e4]; exact lN
        · exact h1 w (List.mem_filter.mpr ⟨hw, by unfold vx_no; rw [decide_eq_true e1, decide_eq_true e2, decide_eq_true e3, decide_eq_true e4]; rfl⟩)
/-- where a static field lies, its class's statics cell in H -/
def vx_L (C n d : String) (A : Nat → Prop) (U : State) (H : Heap) : Prop := ∃ (c : ClassId) (k : Class) (i : Nat) (f : Field) (a : Nat) (cell : Cell), U.vm.findClass C = some c ∧ U.fieldFound? C n d = some (c, k, i, f) ∧ f.isStatic = true ∧ k.statics = some a ∧ H[a]? = some cell ∧ cell.vm.isStatics = true ∧ cell.cls = c ∧ f.slot < cell.slots.size ∧ k.staticTypes[f.slot]? = some f.type ∧ ¬ A a
theorem vx_L.moved {C n d : String} {A : Nat → Prop} {u U : State} {H : Heap} (hvm : u.vm.Alike U.vm) (h : vx_L C n d A u H) : vx_L C n d A U H := by
  obtain ⟨c, k, i, f, a, cell, h1, h2, h3, h4, h5, h6, h7, h8, h9, h10⟩ := h
  obtain ⟨k', hi', he⟩ := State.fieldFound?_setVm hvm h2
  exact ⟨c, k', i, f, a, cell, by rw [hvm.findClass]; exact h1, hi', h3, by rw [he]; exact h4, h5, h6, h7, h8, by rw [he]; exact h9, h10⟩
theorem vx_L.kept {C n d : String} {A : Nat → Prop} {U : State} {H H1 : Heap} (h : vx_L C n d A U H) (hq : ∀ a : Nat, a < H.size → ¬ A a → H1[a]? = H[a]?) : vx_L C n d A U H1 := by
  obtain ⟨c, k, i, f, a, cell, h1, h2, h3, h4, h5, h6, h7, h8, h9, h10⟩ := h
  exact ⟨c, k, i, f, a, cell, h1, h2, h3, h4, by rw [hq a (Array.getElem?_eq_some_iff.mp h5).1 h10]; exact h5, h6, h7, h8, h9, h10⟩
theorem vx_L.narrow {C n d : String} {A B : Nat → Prop} {U : State} {H : Heap} (h : vx_L C n d A U H) (hAB : ∀ q, B q → A q) : vx_L C n d B U H := by
  obtain ⟨c, k, i, f, a, cell, h1, h2, h3, h4, h5, h6, h7, h8, h9, h10⟩ := h
  exact ⟨c, k, i, f, a, cell, h1, h2, h3, h4, h5, h6, h7, h8, h9, fun z => h10 (hAB _ z)⟩
theorem vx_L.word {C n d : String} {A : Nat → Prop} {s : State} {args : Array Value} (h : vx_L C n d A s s.heap) : (Cond.laysStatic C n d).before args s = true := by
  obtain ⟨c, k, i, f, a, cell, h1, h2, h3, h4, h5, h6, h7, h8, h9, -⟩ := h
  show (Cond.laysStatic C n d).holds args s none s [] = true
  exact Cond.laysStatic_of h1 h2 h3 h4 h5 h6 h7 h8 h9
/-- .. and what it holds: null or some reference -/
def vx_Zq (C n d : String) (A : Nat → Prop) (U : State) (H : Heap) : Prop := va_Zq C n d A U H ∧ vx_L C n d A U H
theorem vx_Zq.moved {C n d : String} {A : Nat → Prop} {u U : State} {H : Heap} (hvm : u.vm.Alike U.vm) (h : vx_Zq C n d A u H) : vx_Zq C n d A U H := ⟨va_Zq.moved hvm h.1, vx_L.moved hvm h.2⟩
theorem vx_Zq.kept {C n d : String} {A : Nat → Prop} {U : State} {H H1 : Heap} (h : vx_Zq C n d A U H) (hq : ∀ a : Nat, a < H.size → ¬ A a → H1[a]? = H[a]?) : vx_Zq C n d A U H1 := ⟨va_Zq.kept h.1 hq, vx_L.kept h.2 hq⟩
theorem vx_Zq.narrow {C n d : String} {A B : Nat → Prop} {U : State} {H : Heap} (h : vx_Zq C n d A U H) (hAB : ∀ q, B q → A q) : vx_Zq C n d B U H := ⟨va_Zq.narrow h.1 hAB, vx_L.narrow h.2 hAB⟩
theorem vx_Zqof {args : Array Value} {s : State} {C n d : String} {A : Nat → Prop} (hl : (Cond.laysStatic C n d).before args s = true) (hini : (Cond.initialized C).before args s = true) (h : (Cond.isRef (.static C n d)).before args s = true) (hA : ∀ a : Nat, a < s.heap.size → ¬ A a) : vx_Zq C n d A s s.heap := by
  refine ⟨va_Zqof hl hini h hA, ?_⟩
  obtain ⟨c, k, i, f, a, cell, h1, h2, h3, h4, h5, h6, h7, h8, h9⟩ := Cond.laysStatic_spec hl
  exact ⟨c, k, i, f, a, cell, h1, h2, h3, h4, h5, h6, h7, h8, h9, hA a (Array.getElem?_eq_some_iff.mp h5).1⟩
theorem vx_isRef {C n d : String} {v : Value} {A : Nat → Prop} {s : State} {args : Array Value} (h : va_Z C n d v A s s.heap) (hv : v.isRef = true) : (Cond.isRef (.static C n d)).before args s = true := by
  obtain ⟨cf, kf, fi, f, a, cell, h1, h2, h3, h4, h5, h6, h7, -⟩ := h
  have he : (Term.static C n d).eval args s none [] s = some v := by
    simp [Term.eval, State.fieldNamed?, h1, h2, h4, h5, h6, h7]
  simp only [Cond.before, Cond.holds, Cond.value, he]
  cases v <;> simp_all [Value.isRef]
theorem vx_isRefq {C n d : String} {A : Nat → Prop} {s : State} {args : Array Value} (h : va_Zq C n d A s s.heap) : (Cond.isRef (.static C n d)).before args s = true := by
  rcases h with h | ⟨t, h⟩
  · exact vx_isRef h rfl
  · exact vx_isRef h rfl
/-- the same frame, seen from here: as if the method were called anew in this heap -/
theorem vx_rebase {T : State} (X : Stand p l e R s m args below meth c T locs cells slots) {R' : Room} (hf : R'.frames ≤ R.frames) (hl : R'.locals ≤ R.locals) (hc : cells + R'.cells ≤ R.cells) (hs : slots + R'.slots ≤ R.slots) :
    Stand p l e R' ((T.setVm s.vm).setFrames (.invoking m args :: below)) m args below meth c T [] 0 0 := by
  have htop : (T.setVm s.vm).topJava?.isSome := X.here.top
  have hF : ((T.setVm s.vm).setFrames (.invoking m args :: below)).frames = .invoking m args :: below := State.frames_setFrames _ (State.cur_lt_of_top htop)
  obtain ⟨g₀, hg0⟩ := Option.isSome_iff_exists.mp htop
  obtain ⟨r, hr⟩ := State.topJava?_eq_some.mp hg0
  have hl9 : e.platform.stackLimits (T.setVm s.vm).me = e.platform.stackLimits s.me := X.limits
  have hb9 : (T.setVm s.vm).me.stackBytes = s.me.stackBytes := X.bytes
  refine ⟨X.admits, X.cas, X.clock, hF, ?_, X.hears, X.method, X.code, X.here, X.tail, X.warmed, ?_, ?_, ?_⟩
  · have h := X.room
    have hU : ((T.setVm s.vm).setFrames (.invoking m args :: below)).localsInUse = s.localsInUse := by
      rw [State.localsInUse_invoking hF (meth := meth) (c := c) X.method X.code, State.localsInUse_invoking X.frames X.method X.code]
    simp only [State.hasRoom, Bool.and_eq_true, decide_eq_true_eq] at h ⊢
    obtain ⟨⟨⟨⟨h1, h2, h3, h4, h5, h6⟩, h7⟩, h8⟩, h9⟩ := h
    rw [X.frames, List.length_cons] at h2 h3
    have q1 := X.heapSize
    have q2 := X.used
    simp only [hF, hU, List.length_cons, State.stackLimits_setFrames, State.stackBytes_setFrames, hl9, hb9]
    refine ⟨⟨⟨⟨by omega, by omega, by omega, by omega, by omega, h6⟩, ?_⟩, ?_⟩, X.book⟩
    · show T.heap.size + R'.cells ≤ e.platform.maxCells
      omega
    · show T.slotsUsed + R'.slots ≤ e.platform.maxSlots
      omega
  · rw [State.stackLimits_setFrames]; rfl
  · rw [State.stackBytes_setFrames]; rfl
  · refine ⟨?_, Nat.le_refl _, Nat.le_refl _, ?_, ?_, fun a c9 h9 => ⟨c9, h9, rfl, rfl, fun _ _ => rfl⟩⟩
    · obtain ⟨t, ht, -⟩ := State.frames_cons hr
      show T.setVm s.vm = { ((T.setVm s.vm).setFrames (.invoking m args :: below)).setFrames (T.setVm s.vm).frames with heap := T.heap, slotsUsed := T.slotsUsed }
      rw [State.setFrames_setFrames, State.setFrames_self ht]
      rfl
    · show T.slotsUsed = T.slotsUsed + ((T.heap.toList.drop T.heap.size).map (·.slots.size)).sum
      rw [List.drop_eq_nil_of_le (Nat.le_of_eq Array.length_toList)]
      rfl
    · show ((T.heap.toList.drop T.heap.size).map (·.slots.size)).sum ≤ 0
      rw [List.drop_eq_nil_of_le (Nat.le_of_eq Array.length_toList)]
      exact Nat.le_refl _
/-- 'throw new E("text")': new; dup; ldc; invokespecial; athrow -/
theorem vx_throwS {cc : ByteArray} {pc : Nat} (hexec : p.tables.exec = Jvm.exec) (hb : c.code = cc) (hl : l.stackTraces = false) {own cls text : String} {names : List String} {ik is ic mc ms sa : Nat} {A : Nat → Prop}
    (hown : s.vm.findClass own = some m.cls) (hcls : Bundle.fit cls = true) (hnames : ∀ n ∈ names, Bundle.fit n = true)
    (hk : (Cond.classLink own ik cls).before args s = true) (hini : (Cond.initialized cls).before args s = true) (hstr : vk_R own is text sa s) (hat : ∀ w ∈ vx_atS own ic cls names, w.before args s = true)
    (hgood : ∀ w ∈ Cond.classLink own ik cls :: Cond.initialized cls :: vx_atS own ic cls names, vx_ot w = true)
    (hU : vx_Zq Bundle.tN "UNASSIGNED_STACK" Bundle.steD A s s.heap) (hN : vx_Zq Bundle.tN "SUPPRESSED_SENTINEL" Bundle.listD A s s.heap) (hS : va_S A s.heap H locs) (hsize : ls.size = c.maxLocals)
    (d0 : decode cc pc = .ok (.new ik, 3)) (d3 : decode cc (pc + 3) = .ok (.dup, 1)) (d4 : decode cc (pc + 4) = .ok (.ldc is, 2)) (d6 : decode cc (pc + 6) = .ok (.invokespecial ic, 3)) (d9 : decode cc (pc + 9) = .ok (.athrow, 1))
    (hout : ∀ x ∈ c.exceptionTable.toList, covers x (pc + 9) = false)
    (hRframes : names.length + 3 < R.frames) (hRlocals : (rest.map fun v => v.category).sum + (13 * (names.length + 1) + 43) ≤ R.locals) (hRcells : cells + 1 ≤ R.cells) (hRslots : slots + 6 ≤ R.slots) (hlocks : meth.locks = false)
    (hx : ∀ (t : State) (ce : Cell), s.vm.Alike t.vm → H.size ≤ t.heap.size → (∀ q : Nat, q < H.size → t.heap[q]? = H[q]?) → t.heap[H.size]? = some ce → ce.vm = .none → s.vm.findClass cls = some ce.cls → XC cls s t)
    (hf : ∀ z ∈ locs, free z.base) (hc : cells + 1 ≤ mc) (hs : slots + 6 ≤ ms) :
    W p l e R s m args below meth c H locs cells slots (vx_MQ below Qc XC args s mc ms free) (F0 m pc ls rest) := by
  intro T hT X
  have htr : e.platform.stackTraces = false := (show e.platform.stackTraces = l.stackTraces by rw [X.admits.platform]).trans hl
  have Y := vx_rebase X (R' := { frames := R.frames, locals := R.locals, cells := 1, slots := 6 }) (Nat.le_refl _) (Nat.le_refl _) hRcells hRslots
  obtain ⟨s', hA⟩ : ∃ z, z = (T.setVm s.vm).setFrames (.invoking m args :: below) := ⟨_, rfl⟩
  rw [← hA] at Y
  have hvm : s'.vm = s.vm := by rw [hA]; rfl
  have hhp : s'.heap = H := by rw [hA]; exact hT
  have hW0 : s.WarmedH s'.vm := by rw [hvm]; exact State.WarmedH.refl s
  have hat' : ∀ w ∈ vx_atS own ic cls names, w.before args s' = true := fun w hw => vx_ot_at hW0 hvm.symm (hgood w (List.mem_cons_of_mem _ (List.mem_cons_of_mem _ hw))) (hat w hw)
  have hk' : (Cond.classLink own ik cls).before args s' = true := vx_ot_at hW0 hvm.symm (hgood _ List.mem_cons_self) hk
  have hini' : (Cond.initialized cls).before args s' = true := vx_ot_at hW0 hvm.symm (hgood _ (List.mem_cons_of_mem _ List.mem_cons_self)) hini
  have hU' : vx_Zq Bundle.tN "UNASSIGNED_STACK" Bundle.steD A s' s'.heap := by rw [hhp]; exact vx_Zq.moved hW0.alike (hU.kept hS.2.1)
  have hN' : vx_Zq Bundle.tN "SUPPRESSED_SENTINEL" Bundle.listD A s' s'.heap := by rw [hhp]; exact vx_Zq.moved hW0.alike (hN.kept hS.2.1)
  have h : ∀ w ∈ Bundle.ownAtoms own ic cls names, w.before args s' = true := vx_own hat' (vx_isRefq hU'.1) (vx_isRefq hN'.1) hU'.2.word hN'.2.word
  have hown' : s'.vm.findClass own = some m.cls := by rw [hvm]; exact hown
  have hins : (Cond.instantiable cls 6).before args s' = true := h _ (by simp [Bundle.ownAtoms])
  obtain ⟨vm₁, cX, kX, hfX, hkX, -, -, X₁, st1⟩ := Y.newCold hexec (own := own) (C := cls) (index := ik) (n := 6) hown' hk' hins hini'
    (g := F0 m pc ls rest) rfl (by rw [hb]; exact d0) (Nat.le_refl _) (Nat.le_refl _)
  generalize hT1 : (T.setVm vm₁).pushCell { cls := cX, slots := kX.instanceTypes.map defaultValue, vm := .none } = T1 at X₁ st1
  have hcat : (Value.ref T.heap.size).category = 1 := rfl
  have hcellA : T1.heap[T.heap.size]? = some (freshCell cX kX) := by rw [← hT1]; exact State.heap_pushCell_size _ _
  have d3' : decode c.code (pc + 3) = .ok (.dup, 1) := by rw [hb]; exact d3
  have d4' : decode c.code (pc + 4) = .ok (.ldc is, 2) := by rw [hb]; exact d4
  have hstr' : vk_R own is text sa s' := vk_R.warm hW0 hstr
  obtain ⟨U, hsteps, hrun, hend, hW, hsame, ce, hce, hO⟩ := X₁.ctorThrowS hexec htr (own := own) (cls := cls) (names := names) (ic := ic) hown' hcls hnames h (fun x hx => nomatch hx) hfX hkX hcellA (by rw [hhp, hT]; exact Nat.le_refl _) (msg := .ref sa) rfl
    (g := { method := m, pc := pc + 6, locals := ls, stack := .ref sa :: .ref T.heap.size :: .ref T.heap.size :: rest, locked := none }) rfl hsize rfl rfl (rest := rest) rfl
    (by rw [hb]; exact d6) (by rw [hb]; exact d9) hout hRframes (by simp only [List.map_cons, List.sum_cons, hcat]; omega) hlocks
  obtain ⟨f1, f2⟩ := vx_frame hsame
  rw [hhp] at f1 f2
  have hWs : s.WarmedH U.vm := State.WarmedH.trans hW0 hW
  have hcl : s.vm.findClass cls = some ce.cls := by
    have h9 := hO.cls
    rw [hvm] at h9
    exact h9
  have hall : s.sameButNew ({ U with vm := s.vm } : State) locs mc ms := by
    subst hA
    obtain ⟨e1, e2⟩ := hsame
    rw [State.setFrames_setFrames] at e1
    have h2 : (T.setVm s.vm).sameButNew ({ U with vm := s.vm } : State) [] (0 + 1) (0 + 6) := ⟨e1, e2⟩
    have h3 := X.same.trans h2
    rw [List.append_nil] at h3
    exact h3.mono hc hs
  refine ⟨U, ?_, .threw T.heap.size, hrun, hend, Or.inr ⟨T.heap.size, rfl, cls, ce, locs, hx U ce hWs.alike f1 (fun q hq => f2 q hq (fun z hz => nomatch hz)) (by rw [← hT]; exact hce) hO.vm hcl, hce, hO.vm, hcl, hWs, hall, hf⟩⟩
  refine st1 _ ?_
  show Steps p.tables e below (T1.setTop { method := m, pc := pc + 3, locals := ls, stack := .ref T.heap.size :: rest, locked := none }) _
  jvm_step X₁.here [X₁.here.top, hexec, d3', Value.category]
  exact X₁.ldcString hexec (own := own) (text := text) (index := is) (a := sa) hown' hstr'.1 hstr'.2
    (g := { method := m, pc := pc + 4, locals := ls, stack := .ref T.heap.size :: .ref T.heap.size :: rest, locked := none }) rfl d4' _ hsteps
end Ends
end VXB
end
section

/-! THE ABSTRACT MACHINE, its first third: steps on the operand stack, on the locals, branches. A value is the machine's own, but '.ref i' names cell i of the abstract heap and '.retAddr k' the constant object k; ab_rv says which real value that is. -/
def ab_rv (N0 : Nat) (adS : Nat → Nat) (v : Value) : Value := match v with
  | .ref i => .ref (N0 + i)
  | .retAddr k => .ref (adS k)
  | .int x => .int x
  | .long x => .long x
  | .float x => .float x
  | .double x => .double x
  | .null => .null
theorem ab_rv_cat (N0 : Nat) (adS : Nat → Nat) (v : Value) : (ab_rv N0 adS v).category = v.category := by cases v <;> rfl
abbrev ab_L : Type := List (Nat × Value)
def ab_rl (N0 : Nat) (adS : Nat → Nat) (l : ab_L) : ab_L := l.map (fun q => (q.1, ab_rv N0 adS q.2))
/-- the length of an instruction (0: a switch, whose length isn't asked) -/
def ab_len (i : Instr) : Nat := match i with
  | .bipush _ => 2 | .sipush _ => 3 | .iload _ => 2 | .aload _ => 2 | .lload _ => 2 | .istore _ => 2 | .astore _ => 2 | .lstore _ => 2 | .iinc _ _ => 3
  | .ldc _ => 2 | .ldc_w _ => 3 | .ldc2_w _ => 3 | .getstatic _ => 3 | .getfield _ => 3 | .putfield _ => 3 | .new _ => 3 | .newarray _ => 2
  | .invokevirtual _ => 3 | .invokespecial _ => 3 | .invokestatic _ => 3 | .ifCond _ _ => 3 | .if_icmp _ _ => 3 | .if_acmp _ _ => 3 | .ifnull _ => 3 | .ifnonnull _ => 3 | .goto _ => 3
  | .tableswitch _ _ _ _ => 0 | .lookupswitch _ _ => 0 | _ => 1
def ab_ii (f : Int32 → Int32 → Int32) (st : List Value) : Option (List Value) := match st with
  | .int y :: .int x :: r => some (.int (f x y) :: r)
  | _ => none
def ab_dv (f : Int32 → Int32 → Int32) (st : List Value) : Option (List Value) := match st with
  | .int y :: .int x :: r => if y = 0 then none else some (.int (f x y) :: r)
  | _ => none
def ab_i1 (f : Int32 → Value) (st : List Value) : Option (List Value) := match st with
  | .int x :: r => some (f x :: r)
  | _ => none
def ab_ll (f : Int64 → Int64 → Value) (st : List Value) : Option (List Value) := match st with
  | .long y :: .long x :: r => some (f x y :: r)
  | _ => none
def ab_lsh (st : List Value) : Option (List Value) := match st with
  | .int y :: .long x :: r => some (.long (x <<< (y.toInt64 &&& 63)) :: r)
  | _ => none
def ab_s1 (f : Value → List Value) (st : List Value) : Option (List Value) := match st with
  | a :: r => if a.category = 1 then some (f a ++ r) else none
  | _ => none
def ab_s2 (f : Value → Value → List Value) (st : List Value) : Option (List Value) := match st with
  | a :: b :: r => if a.category = 1 ∧ b.category = 1 then some (f a b ++ r) else none
  | _ => none
/-- steps on the operand stack alone -/
def ab_op (i : Instr) (st : List Value) : Option (List Value) := match i with
  | .iconst n => some (.int (Int32.ofInt n) :: st)
  | .bipush n => some (.int (Int8.ofInt n).toInt32 :: st)
  | .sipush n => some (.int (Int16.ofInt n).toInt32 :: st)
  | .lconst n => some (.long (Int64.ofNat (n : Nat)) :: st)
  | .aconst_null => some (.null :: st)
  | .iadd => ab_ii (fun x y => x + y) st
  | .isub => ab_ii (fun x y => x - y) st
  | .imul => ab_ii (fun x y => x * y) st
  | .iand => ab_ii (fun x y => x &&& y) st
  | .ior => ab_ii (fun x y => x ||| y) st
  | .ixor => ab_ii (fun x y => x ^^^ y) st
  | .ishl => ab_ii (fun x y => x <<< (y &&& 31)) st
  | .ishr => ab_ii (fun x y => x >>> (y &&& 31)) st
  | .iushr => ab_ii (fun x y => (x.toUInt32 >>> (y.toUInt32 &&& Int32.toUInt32 31)).toInt32) st
  | .idiv => ab_dv (fun x y => x / y) st
  | .irem => ab_dv (fun x y => x - x / y * y) st
  | .ineg => ab_i1 (fun x => .int (-x)) st
  | .i2b => ab_i1 (fun x => .int x.toInt8.toInt32) st
  | .i2c => ab_i1 (fun x => .int (x.toUInt32 % 65536).toInt32) st
  | .i2l => ab_i1 (fun x => .long x.toInt64) st
  | .lor => ab_ll (fun x y => .long (x ||| y)) st
  | .lcmp => ab_ll (fun x y => .int (lg_cmp x y)) st
  | .lshl => ab_lsh st
  | .dup => ab_s1 (fun a => [a, a]) st
  | .pop => ab_s1 (fun _ => []) st
  | .dup_x1 => ab_s2 (fun a b => [a, b, a]) st
  | .dup2 => ab_s2 (fun a b => [a, b, a, b]) st
  | _ => none
def ab_get (l : ab_L) (i : Nat) : Option Value := (l.find? (fun q => q.1 == i)).map (fun q => q.2)
def ab_k (w : Nat) (v : Option Value) : Option Value := match v with
  | some (.int x) => if w = 0 then some (.int x) else none
  | some (.long x) => if w = 1 then some (.long x) else none
  | some (.ref x) => if w = 2 then some (.ref x) else none
  | some (.retAddr x) => if w = 2 then some (.retAddr x) else none
  | some .null => if w = 2 then some .null else none
  | _ => none
/-- loads: which value comes -/
def ab_ld (i : Instr) (l : ab_L) : Option Value := match i with
  | .iload k => ab_k 0 (ab_get l k)
  | .iload_n k => ab_k 0 (ab_get l k)
  | .lload k => ab_k 1 (ab_get l k)
  | .lload_n k => ab_k 1 (ab_get l k)
  | .aload k => ab_k 2 (ab_get l k)
  | .aload_n k => ab_k 2 (ab_get l k)
  | _ => none
def ab_set1 (l : ab_L) (i : Nat) (v : Value) : ab_L := (i, v) :: l.filter (fun q => !(q.1 == i) && !(q.1 + 1 == i && q.2.category == 2))
def ab_set2 (l : ab_L) (i : Nat) (v : Value) : ab_L := (i, v) :: l.filter (fun q => !(q.1 == i) && (!(q.1 == i + 1) && !(q.1 + 1 == i && q.2.category == 2)))
def ab_st1 (w nL k : Nat) (l : ab_L) (st : List Value) : Option (ab_L × List Value) := match st with
  | v :: r => match ab_k w (some v) with
    | some v' => if k < nL then some (ab_set1 l k v', r) else none
    | none => none
  | _ => none
def ab_st2 (nL k : Nat) (l : ab_L) (st : List Value) : Option (ab_L × List Value) := match st with
  | .long x :: r => if k + 1 < nL then some (ab_set2 l k (.long x), r) else none
  | _ => none
/-- stores and iinc -/
def ab_sto (nL : Nat) (i : Instr) (l : ab_L) (st : List Value) : Option (ab_L × List Value) := match i with
  | .istore k => ab_st1 0 nL k l st
  | .istore_n k => ab_st1 0 nL k l st
  | .astore k => ab_st1 2 nL k l st
  | .astore_n k => ab_st1 2 nL k l st
  | .lstore k => ab_st2 nL k l st
  | .lstore_n k => ab_st2 nL k l st
  | .iinc k n => match ab_get l k with
    | some (.int x) => if k < nL then some (ab_set1 l k (.int (x + Int32.ofInt n)), st) else none
    | _ => none
  | _ => none
def ab_if1 (f : Int32 → Bool) (tgt nxt : Nat) (st : List Value) : Option (Nat × List Value) := match st with
  | .int x :: r => some (bif f x then tgt else nxt, r)
  | _ => none
def ab_if2 (f : Int32 → Int32 → Bool) (tgt nxt : Nat) (st : List Value) : Option (Nat × List Value) := match st with
  | .int y :: .int x :: r => some (bif f x y then tgt else nxt, r)
  | _ => none
def ab_nul (a b : Nat) (st : List Value) : Option (Nat × List Value) := match st with
  | .null :: r => some (a, r)
  | .ref _ :: r => some (b, r)
  | .retAddr _ :: r => some (b, r)
  | _ => none
def ab_tsw (pc : Nat) (dflt lo hi : Int) (offs : Array Int) (st : List Value) : Option (Nat × List Value) := match st with
  | .int x :: r =>
    let off := if x.toInt < lo ∨ hi < x.toInt then some dflt else offs[(x.toInt - lo).toNat]?
    match off with
    | some o => if 0 ≤ (pc : Int) + o then some (((pc : Int) + o).toNat, r) else none
    | none => none
  | _ => none
def ab_lsw (pc : Nat) (dflt : Int) (ps : Array (Int × Int)) (st : List Value) : Option (Nat × List Value) := match st with
  | .int x :: r =>
    if (ps.toList.zip (ps.toList.drop 1)).all (fun (a, next) => a.1 < next.1) = true ∧ 0 ≤ (pc : Int) + Op.lookupswitch.offset ps.toList dflt x.toInt then some (((pc : Int) + Op.lookupswitch.offset ps.toList dflt x.toInt).toNat, r) else none
  | _ => none
/-- branches: where it goes on -/
def ab_br (i : Instr) (pc tgt : Nat) (st : List Value) : Option (Nat × List Value) := match i with
  | .goto _ => some (tgt, st)
  | .ifCond .eq _ => ab_if1 (fun x => x == 0) tgt (pc + 3) st
  | .ifCond .ne _ => ab_if1 (fun x => x != 0) tgt (pc + 3) st
  | .ifCond .lt _ => ab_if1 (fun x => decide (x < 0)) tgt (pc + 3) st
  | .ifCond .ge _ => ab_if1 (fun x => decide (0 ≤ x)) tgt (pc + 3) st
  | .ifCond .gt _ => ab_if1 (fun x => decide (0 < x)) tgt (pc + 3) st
  | .ifCond .le _ => ab_if1 (fun x => decide (x ≤ 0)) tgt (pc + 3) st
  | .if_icmp .eq _ => ab_if2 (fun x y => x == y) tgt (pc + 3) st
  | .if_icmp .ne _ => ab_if2 (fun x y => x != y) tgt (pc + 3) st
  | .if_icmp .lt _ => ab_if2 (fun x y => decide (x < y)) tgt (pc + 3) st
  | .if_icmp .ge _ => ab_if2 (fun x y => decide (y ≤ x)) tgt (pc + 3) st
  | .if_icmp .gt _ => ab_if2 (fun x y => decide (y < x)) tgt (pc + 3) st
  | .if_icmp .le _ => ab_if2 (fun x y => decide (x ≤ y)) tgt (pc + 3) st
  | .ifnull _ => ab_nul tgt (pc + 3) st
  | .ifnonnull _ => ab_nul (pc + 3) tgt st
  | .tableswitch dflt lo hi offs => ab_tsw pc dflt lo hi offs st
  | .lookupswitch dflt ps => ab_lsw pc dflt ps st
  | _ => none
/-- the target that stands beside a branch is the one of its offset -/
def ab_tok (i : Instr) (pc tgt : Nat) : Bool := match i with
  | .goto o => (pc : Int) + o == (tgt : Int)
  | .ifCond _ o => (pc : Int) + o == (tgt : Int)
  | .if_icmp _ o => (pc : Int) + o == (tgt : Int)
  | .if_acmp _ o => (pc : Int) + o == (tgt : Int)
  | .ifnull o => (pc : Int) + o == (tgt : Int)
  | .ifnonnull o => (pc : Int) + o == (tgt : Int)
  | _ => true
theorem ab_rl_get {N0 : Nat} {adS : Nat → Nat} {ls : Array Slot} {nL : Nat} {l : ab_L} (h : lv_has ls nL (ab_rl N0 adS l)) {i : Nat} {v : Value} (hg : ab_get l i = some v) : ls[i]? = some (.val (ab_rv N0 adS v)) := by
  unfold ab_get at hg
  cases hf : l.find? (fun q => q.1 == i) with
  | none => rw [hf] at hg; cases hg
  | some q =>
    rw [hf] at hg
    have h1 : q.1 = i := by simpa using List.find?_some hf
    have h2 := List.mem_of_find?_eq_some hf
    cases hg
    rw [← h1]
    exact h.2.2 (q.1, ab_rv N0 adS q.2) (List.mem_map.mpr ⟨q, h2, rfl⟩)
theorem ab_rl_set1 (N0 : Nat) (adS : Nat → Nat) (l : ab_L) (i : Nat) (v : Value) : (i, ab_rv N0 adS v) :: (ab_rl N0 adS l).filter (fun q => !(q.1 == i) && !(q.1 + 1 == i && q.2.category == 2)) = ab_rl N0 adS (ab_set1 l i v) := by
  unfold ab_rl ab_set1
  rw [List.map_cons, List.filter_map]
  congr 2
  apply List.filter_congr
  intro q _
  simp [Function.comp, ab_rv_cat]
theorem ab_rl_set2 (N0 : Nat) (adS : Nat → Nat) (l : ab_L) (i : Nat) (v : Value) : (i, ab_rv N0 adS v) :: (ab_rl N0 adS l).filter (fun q => !(q.1 == i) && (!(q.1 == i + 1) && !(q.1 + 1 == i && q.2.category == 2))) = ab_rl N0 adS (ab_set2 l i v) := by
  unfold ab_rl ab_set2
  rw [List.map_cons, List.filter_map]
  congr 2
  apply List.filter_congr
  intro q _
  simp [Function.comp, ab_rv_cat]
section AB3
variable {p : Program} {l : Launch} {e : Env} {R : Room} {s : State} {m : MethodId} {args : Array Value} {below : List Frame} {meth : Method} {c : Code} {H : Heap} {locs : List Loc} {cells slots : Nat} {Q : State → Prop} {cc : ByteArray} {pc : Nat} {ls : Array Slot} {N0 : Nat} {adS : Nat → Nat}

set_option maxHeartbeats 4000000 in
theorem ab_op_sim {i : Instr} {st st' : List Value} (hx : p.tables.exec = Jvm.exec) (hb : c.code = cc) (hd : decode cc pc = .ok (i, ab_len i)) (h : ab_op i st = some st')
    (k : W p l e R s m args below meth c H locs cells slots Q (F0 m (pc + ab_len i) ls (st'.map (ab_rv N0 adS)))) : W p l e R s m args below meth c H locs cells slots Q (F0 m pc ls (st.map (ab_rv N0 adS))) := by
  cases i
  case iconst n => cases h; exact lv_iconst hx hb hd rfl k
  case bipush n => cases h; exact lv_bipush hx hb hd rfl k
  case sipush n => cases h; exact lv_sipush hx hb hd rfl k
  case lconst n => cases h; exact lv_lconst hx hb hd rfl k
  case aconst_null => cases h; exact lv_null hx hb hd k
  case iadd => simp only [ab_op, ab_ii] at h; split at h <;> first | (cases h; done) | (cases h; exact lv_iadd hx hb hd k)
  case isub => simp only [ab_op, ab_ii] at h; split at h <;> first | (cases h; done) | (cases h; exact lv_isub hx hb hd k)
  case imul => simp only [ab_op, ab_ii] at h; split at h <;> first | (cases h; done) | (cases h; exact lv_imul hx hb hd k)
  case iand => simp only [ab_op, ab_ii] at h; split at h <;> first | (cases h; done) | (cases h; exact lv_iand hx hb hd k)
  case ior => simp only [ab_op, ab_ii] at h; split at h <;> first | (cases h; done) | (cases h; exact lv_ior hx hb hd k)
  case ixor => simp only [ab_op, ab_ii] at h; split at h <;> first | (cases h; done) | (cases h; exact lv_ixor hx hb hd k)
  case ishl => simp only [ab_op, ab_ii] at h; split at h <;> first | (cases h; done) | (cases h; exact lv_ishl hx hb hd k)
  case ishr => simp only [ab_op, ab_ii] at h; split at h <;> first | (cases h; done) | (cases h; exact lv_ishr hx hb hd k)
  case iushr => simp only [ab_op, ab_ii] at h; split at h <;> first | (cases h; done) | (cases h; exact lv_iushr hx hb hd rfl k)
  case idiv => simp only [ab_op, ab_dv] at h; split at h; (split at h; (cases h); (cases h; exact lv_idiv hx hb hd (by assumption) k)); (cases h)
  case irem => simp only [ab_op, ab_dv] at h; split at h; (split at h; (cases h); (cases h; exact lv_irem hx hb hd (by assumption) k)); (cases h)
  case ineg => simp only [ab_op, ab_i1] at h; split at h <;> first | (cases h; done) | (cases h; exact lv_ineg hx hb hd k)
  case i2b => simp only [ab_op, ab_i1] at h; split at h <;> first | (cases h; done) | (cases h; exact lv_i2b hx hb hd rfl k)
  case i2c => simp only [ab_op, ab_i1] at h; split at h <;> first | (cases h; done) | (cases h; exact lv_i2c hx hb hd rfl k)
  case i2l => simp only [ab_op, ab_i1] at h; split at h <;> first | (cases h; done) | (cases h; exact lv_i2l hx hb hd rfl k)
  case lor => simp only [ab_op, ab_ll] at h; split at h <;> first | (cases h; done) | (cases h; exact lv_lor hx hb hd k)
  case lcmp => simp only [ab_op, ab_ll] at h; split at h <;> first | (cases h; done) | (cases h; exact W.lcmp hx hb hd k)
  case lshl => simp only [ab_op, ab_lsh] at h; split at h <;> first | (cases h; done) | (cases h; exact lv_lshl hx hb hd rfl k)
  case dup => simp only [ab_op, ab_s1] at h; split at h; (split at h; (cases h; rename_i hc; exact lv_dup hx hb hd ((ab_rv_cat _ _ _).trans hc) k); (cases h)); (cases h)
  case pop => simp only [ab_op, ab_s1] at h; split at h; (split at h; (cases h; rename_i hc; exact lv_pop hx hb hd ((ab_rv_cat _ _ _).trans hc) k); (cases h)); (cases h)
  case dup_x1 => simp only [ab_op, ab_s2] at h; split at h; (split at h; (cases h; rename_i hc; exact lv_dup_x1 hx hb hd ((ab_rv_cat _ _ _).trans hc.1) ((ab_rv_cat _ _ _).trans hc.2) k); (cases h)); (cases h)
  case dup2 => simp only [ab_op, ab_s2] at h; split at h; (split at h; (cases h; rename_i hc; exact lv_dup2_11 hx hb hd ((ab_rv_cat _ _ _).trans hc.1) ((ab_rv_cat _ _ _).trans hc.2) k); (cases h)); (cases h)
  all_goals (simp only [ab_op, reduceCtorEq] at h)
set_option maxHeartbeats 4000000 in
theorem ab_ld_sim {i : Instr} {v : Value} {nL : Nat} {lv : ab_L} {rest : List Value} (hx : p.tables.exec = Jvm.exec) (hb : c.code = cc) (hd : decode cc pc = .ok (i, ab_len i)) (hl : lv_has ls nL (ab_rl N0 adS lv)) (h : ab_ld i lv = some v)
    (k : W p l e R s m args below meth c H locs cells slots Q (F0 m (pc + ab_len i) ls (ab_rv N0 adS v :: rest))) : W p l e R s m args below meth c H locs cells slots Q (F0 m pc ls rest) := by
  cases i
  case iload q => simp only [ab_ld, ab_k] at h; split at h <;> first | (cases h; done) | (rename_i hg; split at h <;> first | (cases h; done) | (rename_i hw; first | (exact absurd hw (by decide)) | (cases h; (exact lv_iload hx hb hd (ab_rl_get hl hg) k))))
  case iload_n q => simp only [ab_ld, ab_k] at h; split at h <;> first | (cases h; done) | (rename_i hg; split at h <;> first | (cases h; done) | (rename_i hw; first | (exact absurd hw (by decide)) | (cases h; (exact lv_iload_n hx hb hd rfl (ab_rl_get hl hg) k))))
  case lload q => simp only [ab_ld, ab_k] at h; split at h <;> first | (cases h; done) | (rename_i hg; split at h <;> first | (cases h; done) | (rename_i hw; first | (exact absurd hw (by decide)) | (cases h; (exact lv_lload hx hb hd (ab_rl_get hl hg) k))))
  case lload_n q => simp only [ab_ld, ab_k] at h; split at h <;> first | (cases h; done) | (rename_i hg; split at h <;> first | (cases h; done) | (rename_i hw; first | (exact absurd hw (by decide)) | (cases h; (exact lv_lload_n hx hb hd rfl (ab_rl_get hl hg) k))))
  case aload q => simp only [ab_ld, ab_k] at h; split at h <;> first | (cases h; done) | (rename_i hg; split at h <;> first | (cases h; done) | (rename_i hw; first | (exact absurd hw (by decide)) | (cases h; (first | exact lv_aload hx hb hd (ab_rl_get hl hg) k | exact lv_aloadN hx hb hd (ab_rl_get hl hg) k))))
  case aload_n q => simp only [ab_ld, ab_k] at h; split at h <;> first | (cases h; done) | (rename_i hg; split at h <;> first | (cases h; done) | (rename_i hw; first | (exact absurd hw (by decide)) | (cases h; (first | exact lv_aload_n hx hb hd rfl (ab_rl_get hl hg) k | exact lv_aload_nN hx hb hd rfl (ab_rl_get hl hg) k))))
  all_goals (simp only [ab_ld, reduceCtorEq] at h)
set_option maxHeartbeats 4000000 in
theorem ab_sto_sim {i : Instr} {nL : Nat} {lv lv' : ab_L} {st st' : List Value} (hx : p.tables.exec = Jvm.exec) (hb : c.code = cc) (hd : decode cc pc = .ok (i, ab_len i)) (hl : lv_has ls nL (ab_rl N0 adS lv)) (h : ab_sto nL i lv st = some (lv', st'))
    (k : ∀ ls' : Array Slot, lv_has ls' nL (ab_rl N0 adS lv') → W p l e R s m args below meth c H locs cells slots Q (F0 m (pc + ab_len i) ls' (st'.map (ab_rv N0 adS)))) : W p l e R s m args below meth c H locs cells slots Q (F0 m pc ls (st.map (ab_rv N0 adS))) := by
  cases i
  case istore q =>
    simp only [ab_sto] at h
    unfold ab_st1 at h
    split at h
    · rename_i v r
      cases v <;> simp [ab_k] at h
      · rename_i x; obtain ⟨hn, rfl, rfl⟩ := h; exact lv_istore hx hb hd hl hn (ab_rl_set1 N0 adS lv _ (.int x)) k
    · cases h
  case istore_n q =>
    simp only [ab_sto] at h
    unfold ab_st1 at h
    split at h
    · rename_i v r
      cases v <;> simp [ab_k] at h
      · rename_i x; obtain ⟨hn, rfl, rfl⟩ := h; exact lv_istore_n hx hb hd rfl hl hn (ab_rl_set1 N0 adS lv _ (.int x)) k
    · cases h
  case astore q =>
    simp only [ab_sto] at h
    unfold ab_st1 at h
    split at h
    · rename_i v r
      cases v <;> simp [ab_k] at h
      · obtain ⟨hn, rfl, rfl⟩ := h; exact lv_astoreN hx hb hd hl hn (ab_rl_set1 N0 adS lv _ (.null)) k
      · rename_i x; obtain ⟨hn, rfl, rfl⟩ := h; exact lv_astore hx hb hd hl hn (ab_rl_set1 N0 adS lv _ (.ref x)) k
      · rename_i x; obtain ⟨hn, rfl, rfl⟩ := h; exact lv_astore hx hb hd hl hn (ab_rl_set1 N0 adS lv _ (.retAddr x)) k
    · cases h
  case astore_n q =>
    simp only [ab_sto] at h
    unfold ab_st1 at h
    split at h
    · rename_i v r
      cases v <;> simp [ab_k] at h
      · obtain ⟨hn, rfl, rfl⟩ := h; exact lv_astore_nN hx hb hd rfl hl hn (ab_rl_set1 N0 adS lv _ (.null)) k
      · rename_i x; obtain ⟨hn, rfl, rfl⟩ := h; exact lv_astore_n hx hb hd rfl hl hn (ab_rl_set1 N0 adS lv _ (.ref x)) k
      · rename_i x; obtain ⟨hn, rfl, rfl⟩ := h; exact lv_astore_n hx hb hd rfl hl hn (ab_rl_set1 N0 adS lv _ (.retAddr x)) k
    · cases h
  case lstore q =>
    simp only [ab_sto, ab_st2] at h
    split at h
    · split at h
      · rename_i hn
        cases h
        exact lv_lstore hx hb hd hl hn (ab_rl_set2 N0 adS lv _ (.long _)) k
      · cases h
    · cases h
  case lstore_n q =>
    simp only [ab_sto, ab_st2] at h
    split at h
    · split at h
      · rename_i hn
        cases h
        exact lv_lstore_n hx hb hd rfl hl hn (ab_rl_set2 N0 adS lv _ (.long _)) k
      · cases h
    · cases h
  case iinc q n =>
    simp only [ab_sto] at h
    split at h
    · rename_i x hg
      split at h
      · rename_i hn
        cases h
        unfold ab_get at hg
        cases hf : lv.find? (fun z => z.1 == q) with
        | none => rw [hf] at hg; cases hg
        | some z =>
          rw [hf] at hg
          have h1 : z.1 = q := by simpa using List.find?_some hf
          obtain ⟨j, hj⟩ := List.getElem?_of_mem (List.mem_of_find?_eq_some hf)
          have hz : z = (q, .int x) := by
            cases z
            cases hg
            cases h1
            rfl
          subst hz
          exact lv_iinc hx hb hd hl (k := j) (by unfold ab_rl; rw [List.getElem?_map, hj]; rfl) rfl hn (ab_rl_set1 N0 adS lv _ (.int (x + Int32.ofInt n))) k
      · cases h
    · cases h
  all_goals (simp only [ab_sto, reduceCtorEq] at h)
set_option maxHeartbeats 4000000 in
theorem ab_br_sim {i : Instr} {tgt pc' n : Nat} {st st' : List Value} (hx : p.tables.exec = Jvm.exec) (hb : c.code = cc) (hd : decode cc pc = .ok (i, n)) (hn : n = ab_len i ∨ ab_len i = 0) (ht : ab_tok i pc tgt = true) (h : ab_br i pc tgt st = some (pc', st'))
    (k : W p l e R s m args below meth c H locs cells slots Q (F0 m pc' ls (st'.map (ab_rv N0 adS)))) : W p l e R s m args below meth c H locs cells slots Q (F0 m pc ls (st.map (ab_rv N0 adS))) := by
  cases i
  case goto o =>
    have hn : n = 3 := hn.elim id (fun q => absurd q (by simp [ab_len]))
    subst hn
    have ht2 : (pc : Int) + o = (tgt : Int) := by simpa [ab_tok] using ht
    cases h
    exact lv_goto hx hb hd ht2 k
  case ifCond cd o =>
    have hn : n = 3 := hn.elim id (fun q => absurd q (by simp [ab_len]))
    subst hn
    have ht2 : (pc : Int) + o = (tgt : Int) := by simpa [ab_tok] using ht
    cases cd
    case eq =>
      simp only [ab_br, ab_if1] at h
      split at h
      · rename_i x r
        cases h
        exact lv_if_eq hx hb hd ht2 (fun q => by rw [show (x == 0) = true by simpa using q] at k; exact k) (fun q => by rw [show (x == 0) = false by simpa using q] at k; exact k)
      · cases h
    case ne =>
      simp only [ab_br, ab_if1] at h
      split at h
      · rename_i x r
        cases h
        exact lv_if_ne hx hb hd ht2 (fun q => by rw [show (x != 0) = true by simpa using q] at k; exact k) (fun q => by rw [show (x != 0) = false by simpa using q] at k; exact k)
      · cases h
    case lt =>
      simp only [ab_br, ab_if1] at h
      split at h
      · rename_i x r
        cases h
        exact lv_if_lt hx hb hd ht2 (fun q => by rw [show decide (x < 0) = true by simpa using q] at k; exact k) (fun q => by rw [show decide (x < 0) = false by simpa using q] at k; exact k)
      · cases h
    case ge =>
      simp only [ab_br, ab_if1] at h
      split at h
      · rename_i x r
        cases h
        exact lv_if_ge hx hb hd ht2 (fun q => by rw [show decide (0 ≤ x) = true by simpa using q] at k; exact k) (fun q => by rw [show decide (0 ≤ x) = false by simpa using q] at k; exact k)
      · cases h
    case gt =>
      simp only [ab_br, ab_if1] at h
      split at h
      · rename_i x r
        cases h
        exact lv_if_gt hx hb hd ht2 (fun q => by rw [show decide (0 < x) = true by simpa using q] at k; exact k) (fun q => by rw [show decide (0 < x) = false by simpa using q] at k; exact k)
      · cases h
    case le =>
      simp only [ab_br, ab_if1] at h
      split at h
      · rename_i x r
        cases h
        exact lv_if_le hx hb hd ht2 (fun q => by rw [show decide (x ≤ 0) = true by simpa using q] at k; exact k) (fun q => by rw [show decide (x ≤ 0) = false by simpa using q] at k; exact k)
      · cases h
  case if_icmp cd o =>
    have hn : n = 3 := hn.elim id (fun q => absurd q (by simp [ab_len]))
    subst hn
    have ht2 : (pc : Int) + o = (tgt : Int) := by simpa [ab_tok] using ht
    cases cd
    case eq =>
      simp only [ab_br, ab_if2] at h
      split at h
      · rename_i y x r
        cases h
        exact lv_icmp_eq hx hb hd ht2 (fun q => by rw [show (x == y) = true by simpa using q] at k; exact k) (fun q => by rw [show (x == y) = false by simpa using q] at k; exact k)
      · cases h
    case ne =>
      simp only [ab_br, ab_if2] at h
      split at h
      · rename_i y x r
        cases h
        exact lv_icmp_ne hx hb hd ht2 (fun q => by rw [show (x != y) = true by simpa using q] at k; exact k) (fun q => by rw [show (x != y) = false by simpa using q] at k; exact k)
      · cases h
    case lt =>
      simp only [ab_br, ab_if2] at h
      split at h
      · rename_i y x r
        cases h
        exact lv_icmp_lt hx hb hd ht2 (fun q => by rw [show decide (x < y) = true by simpa using q] at k; exact k) (fun q => by rw [show decide (x < y) = false by simpa using q] at k; exact k)
      · cases h
    case ge =>
      simp only [ab_br, ab_if2] at h
      split at h
      · rename_i y x r
        cases h
        exact lv_icmp_ge hx hb hd ht2 (fun q => by rw [show decide (y ≤ x) = true by simpa using q] at k; exact k) (fun q => by rw [show decide (y ≤ x) = false by simpa using q] at k; exact k)
      · cases h
    case gt =>
      simp only [ab_br, ab_if2] at h
      split at h
      · rename_i y x r
        cases h
        exact lv_icmp_gt hx hb hd ht2 (fun q => by rw [show decide (y < x) = true by simpa using q] at k; exact k) (fun q => by rw [show decide (y < x) = false by simpa using q] at k; exact k)
      · cases h
    case le =>
      simp only [ab_br, ab_if2] at h
      split at h
      · rename_i y x r
        cases h
        exact lv_icmp_le hx hb hd ht2 (fun q => by rw [show decide (x ≤ y) = true by simpa using q] at k; exact k) (fun q => by rw [show decide (x ≤ y) = false by simpa using q] at k; exact k)
      · cases h
  case ifnull o =>
    have hn : n = 3 := hn.elim id (fun q => absurd q (by simp [ab_len]))
    subst hn
    have ht2 : (pc : Int) + o = (tgt : Int) := by simpa [ab_tok] using ht
    simp only [ab_br, ab_nul] at h
    split at h <;> first | (cases h; done) | (cases h; first | exact lv_ifnullN hx hb hd ht2 k | exact lv_ifnull hx hb hd k)
  case ifnonnull o =>
    have hn : n = 3 := hn.elim id (fun q => absurd q (by simp [ab_len]))
    subst hn
    have ht2 : (pc : Int) + o = (tgt : Int) := by simpa [ab_tok] using ht
    simp only [ab_br, ab_nul] at h
    split at h <;> first | (cases h; done) | (cases h; first | exact lv_ifnonnullN hx hb hd k | exact lv_ifnonnull hx hb hd ht2 k)
  case tableswitch dflt lo hi offs =>
    simp only [ab_br, ab_tsw] at h
    split at h
    · rename_i x r
      split at h
      · rename_i o ho
        split at h
        · rename_i h0
          cases h
          by_cases hc : x.toInt < lo ∨ hi < x.toInt
          · rw [if_pos hc] at ho
            cases ho
            exact lv_tableOut hx hb hd hc (by omega) k
          · rw [if_neg hc] at ho
            exact lv_tableIn hx hb hd (fun q => hc (Or.inl q)) (fun q => hc (Or.inr q)) ho (by omega) k
        · cases h
      · cases h
    · cases h
  case lookupswitch dflt ps =>
    simp only [ab_br, ab_lsw] at h
    split at h
    · split at h
      · rename_i h0
        cases h
        exact lv_lookup hx hb hd h0.1 rfl (by omega) k
      · cases h
    · cases h
  all_goals (simp only [ab_br, reduceCtorEq] at h)
end AB3
end
section
/-! THE ABSTRACT MACHINE, its program: classes (their rows are the printed ones), methods, code, pools; each row is checked against the tables' words by its place there. -/
def RX0 : String := "CodeSmith$Assembler"
def TX0 : u_T := fun k => match k with
  | 0 => ("CodeSmith$Assembler", "made", "LCodeSmith$Image;", false)
  | 1 => ("CodeSmith$Assembler", "spare", "LCodeSmith$Image;", false)
  | 2 => ("CodeSmith$Assembler", "tokens", "LCodeSmith$Tokens;", true)
  | 3 => ("CodeSmith$Assembler", "symbols", "LCodeSmith$Symbols;", true)
  | 4 => ("CodeSmith$Assembler", "calculator", "LCodeSmith$Calculator;", true)
  | 5 => ("CodeSmith$Assembler", "again", "Z", false)
  | 6 => ("CodeSmith$Assembler", "section", "I", false)
  | 7 => ("CodeSmith$Assembler", "textEnd", "I", false)
  | 8 => ("CodeSmith$Assembler", "dataEnd", "I", false)
  | 9 => ("CodeSmith$Assembler", "entry", "I", false)
  | 10 => ("CodeSmith$Assembler", "place", "I", false)
  | 11 => ("CodeSmith$Assembler", "d", "I", false)
  | 12 => ("CodeSmith$Assembler", "a", "I", false)
  | 13 => ("CodeSmith$Assembler", "b", "I", false)
  | 14 => ("CodeSmith$Assembler", "value", "I", false)
  | _ => ("CodeSmith$Assembler", "bytes", "I", false)
def tyX0 : Nat → FieldType := fun k => match k with
  | 0 => .object "CodeSmith$Image"
  | 1 => .object "CodeSmith$Image"
  | 2 => .object "CodeSmith$Tokens"
  | 3 => .object "CodeSmith$Symbols"
  | 4 => .object "CodeSmith$Calculator"
  | 5 => .boolean
  | 6 => .int
  | 7 => .int
  | 8 => .int
  | 9 => .int
  | 10 => .int
  | 11 => .int
  | 12 => .int
  | 13 => .int
  | 14 => .int
  | _ => .int
theorem nmX0 : ∀ a, a < 16 → ∀ b, b < 16 → a ≠ b → (TX0 a).2.1 ≠ (TX0 b).2.1 := by decide +kernel
theorem tyX0_ok : ∀ k, k < 16 → parseFieldDescriptor (TX0 k).2.2.1 = some (tyX0 k) := by decide +kernel
def RX1 : String := "CodeSmith$Calculator"
def TX1 : u_T := fun k => match k with
  | 0 => ("CodeSmith$Calculator", "mode", "I", false)
  | 1 => ("CodeSmith$Calculator", "here", "I", false)
  | 2 => ("CodeSmith$Calculator", "dataAddress", "I", false)
  | 3 => ("CodeSmith$Calculator", "early", "Z", false)
  | 4 => ("CodeSmith$Calculator", "tokens", "LCodeSmith$Tokens;", true)
  | _ => ("CodeSmith$Calculator", "symbols", "LCodeSmith$Symbols;", true)
def tyX1 : Nat → FieldType := fun k => match k with
  | 0 => .int
  | 1 => .int
  | 2 => .int
  | 3 => .boolean
  | 4 => .object "CodeSmith$Tokens"
  | _ => .object "CodeSmith$Symbols"
theorem nmX1 : ∀ a, a < 6 → ∀ b, b < 6 → a ≠ b → (TX1 a).2.1 ≠ (TX1 b).2.1 := by decide +kernel
theorem tyX1_ok : ∀ k, k < 6 → parseFieldDescriptor (TX1 k).2.2.1 = some (tyX1 k) := by decide +kernel
def RX2 : String := "CodeSmith$Image"
def TX2 : u_T := fun k => match k with
  | 0 => ("CodeSmith$Image", "length", "I", false)
  | 1 => ("CodeSmith$Image", "textSize", "I", false)
  | 2 => ("CodeSmith$Image", "dataSize", "I", false)
  | 3 => ("CodeSmith$Image", "symbolCount", "I", false)
  | _ => ("CodeSmith$Image", "bytes", "[B", false)
def tyX2 : Nat → FieldType := fun k => match k with
  | 0 => .int
  | 1 => .int
  | 2 => .int
  | 3 => .int
  | _ => .array .byte
theorem nmX2 : ∀ a, a < 5 → ∀ b, b < 5 → a ≠ b → (TX2 a).2.1 ≠ (TX2 b).2.1 := by decide +kernel
theorem tyX2_ok : ∀ k, k < 5 → parseFieldDescriptor (TX2 k).2.2.1 = some (tyX2 k) := by decide +kernel
def RX4 : String := "CodeSmith$Symbols"
def TX4 : u_T := fun k => match k with
  | 0 => ("CodeSmith$Symbols", "count", "I", false)
  | 1 => ("CodeSmith$Symbols", "text", "[B", false)
  | 2 => ("CodeSmith$Symbols", "heads", "[I", true)
  | 3 => ("CodeSmith$Symbols", "nexts", "[I", false)
  | 4 => ("CodeSmith$Symbols", "starts", "[I", false)
  | 5 => ("CodeSmith$Symbols", "lengths", "[I", false)
  | 6 => ("CodeSmith$Symbols", "sections", "[I", false)
  | 7 => ("CodeSmith$Symbols", "values", "[I", false)
  | _ => ("CodeSmith$Symbols", "lines", "[I", false)
def tyX4 : Nat → FieldType := fun k => match k with
  | 0 => .int
  | 1 => .array .byte
  | 2 => .array .int
  | 3 => .array .int
  | 4 => .array .int
  | 5 => .array .int
  | 6 => .array .int
  | 7 => .array .int
  | _ => .array .int
theorem nmX4 : ∀ a, a < 9 → ∀ b, b < 9 → a ≠ b → (TX4 a).2.1 ≠ (TX4 b).2.1 := by decide +kernel
theorem tyX4_ok : ∀ k, k < 9 → parseFieldDescriptor (TX4 k).2.2.1 = some (tyX4 k) := by decide +kernel
def RX5 : String := "CodeSmith$Tokens"
def TX5 : u_T := fun k => match k with
  | 0 => ("CodeSmith$Tokens", "errorLine", "I", false)
  | 1 => ("CodeSmith$Tokens", "errorPlace", "I", false)
  | 2 => ("CodeSmith$Tokens", "errorKind", "I", false)
  | 3 => ("CodeSmith$Tokens", "kind", "I", false)
  | 4 => ("CodeSmith$Tokens", "start", "I", false)
  | 5 => ("CodeSmith$Tokens", "value", "I", false)
  | 6 => ("CodeSmith$Tokens", "line", "I", false)
  | 7 => ("CodeSmith$Tokens", "text", "[B", false)
  | 8 => ("CodeSmith$Tokens", "textEnd", "I", false)
  | 9 => ("CodeSmith$Tokens", "lineStart", "I", false)
  | 10 => ("CodeSmith$Tokens", "lineEnd", "I", false)
  | 11 => ("CodeSmith$Tokens", "kinds", "[I", false)
  | 12 => ("CodeSmith$Tokens", "starts", "[I", false)
  | 13 => ("CodeSmith$Tokens", "values", "[I", false)
  | 14 => ("CodeSmith$Tokens", "count", "I", false)
  | 15 => ("CodeSmith$Tokens", "at", "I", false)
  | 16 => ("CodeSmith$Tokens", "flawed", "I", false)
  | _ => ("CodeSmith$Tokens", "flaw", "I", false)
def tyX5 : Nat → FieldType := fun k => match k with
  | 0 => .int
  | 1 => .int
  | 2 => .int
  | 3 => .int
  | 4 => .int
  | 5 => .int
  | 6 => .int
  | 7 => .array .byte
  | 8 => .int
  | 9 => .int
  | 10 => .int
  | 11 => .array .int
  | 12 => .array .int
  | 13 => .array .int
  | 14 => .int
  | 15 => .int
  | 16 => .int
  | _ => .int
theorem nmX5 : ∀ a, a < 18 → ∀ b, b < 18 → a ≠ b → (TX5 a).2.1 ≠ (TX5 b).2.1 := by decide +kernel
theorem tyX5_ok : ∀ k, k < 18 → parseFieldDescriptor (TX5 k).2.2.1 = some (tyX5 k) := by decide +kernel
def RX6 : String := "CodeSmith"
def TX6 : u_T := fun k => match k with
  | 0 => ("CodeSmith", "tape", "[B", false)
  | 1 => ("CodeSmith", "tapeSize", "I", false)
  | 2 => ("CodeSmith", "tokens", "LCodeSmith$Tokens;", true)
  | _ => ("CodeSmith", "assembler", "LCodeSmith$Assembler;", true)
def tyX6 : Nat → FieldType := fun k => match k with
  | 0 => .array .byte
  | 1 => .int
  | 2 => .object "CodeSmith$Tokens"
  | _ => .object "CodeSmith$Assembler"
theorem nmX6 : ∀ a, a < 4 → ∀ b, b < 4 → a ≠ b → (TX6 a).2.1 ≠ (TX6 b).2.1 := by decide +kernel
theorem tyX6_ok : ∀ k, k < 4 → parseFieldDescriptor (TX6 k).2.2.1 = some (tyX6 k) := by decide +kernel
def RX7 : String := "CodeSmithModel"
def TX7 : u_T := fun k => match k with
  | 0 => ("CodeSmithModel", "registers", "[J", true)
  | 1 => ("CodeSmithModel", "statements", "[J", true)
  | 2 => ("CodeSmithModel", "parts", "[I", true)
  | 3 => ("CodeSmithModel", "thrown", "I", false)
  | 4 => ("CodeSmithModel", "tape", "[B", true)
  | 5 => ("CodeSmithModel", "size", "I", false)
  | 6 => ("CodeSmithModel", "image", "[B", true)
  | 7 => ("CodeSmithModel", "imageSize", "I", false)
  | 8 => ("CodeSmithModel", "textSize", "I", false)
  | 9 => ("CodeSmithModel", "dataSize", "I", false)
  | 10 => ("CodeSmithModel", "names", "I", false)
  | 11 => ("CodeSmithModel", "kind", "I", false)
  | 12 => ("CodeSmithModel", "place", "I", false)
  | 13 => ("CodeSmithModel", "at", "I", false)
  | 14 => ("CodeSmithModel", "length", "I", false)
  | 15 => ("CodeSmithModel", "line", "I", false)
  | 16 => ("CodeSmithModel", "from", "I", false)
  | 17 => ("CodeSmithModel", "to", "I", false)
  | 18 => ("CodeSmithModel", "p", "I", false)
  | 19 => ("CodeSmithModel", "again", "Z", false)
  | 20 => ("CodeSmithModel", "token", "I", false)
  | 21 => ("CodeSmithModel", "start", "I", false)
  | 22 => ("CodeSmithModel", "value", "I", false)
  | 23 => ("CodeSmithModel", "flaw", "I", false)
  | 24 => ("CodeSmithModel", "many", "I", false)
  | 25 => ("CodeSmithModel", "string", "[B", true)
  | 26 => ("CodeSmithModel", "symbols", "I", false)
  | 27 => ("CodeSmithModel", "symbolAt", "[I", true)
  | 28 => ("CodeSmithModel", "symbolSize", "[I", true)
  | 29 => ("CodeSmithModel", "symbolKind", "[I", true)
  | 30 => ("CodeSmithModel", "symbolValue", "[I", true)
  | 31 => ("CodeSmithModel", "symbolLine", "[I", true)
  | 32 => ("CodeSmithModel", "section", "I", false)
  | 33 => ("CodeSmithModel", "here", "I", false)
  | 34 => ("CodeSmithModel", "base", "I", false)
  | 35 => ("CodeSmithModel", "sizes", "[I", true)
  | 36 => ("CodeSmithModel", "bytes", "[B", true)
  | 37 => ("CodeSmithModel", "unfit", "Z", false)
  | 38 => ("CodeSmithModel", "late", "Z", false)
  | 39 => ("CodeSmithModel", "values", "I", false)
  | 40 => ("CodeSmithModel", "signs", "I", false)
  | 41 => ("CodeSmithModel", "depth", "I", false)
  | 42 => ("CodeSmithModel", "pile", "[I", true)
  | 43 => ("CodeSmithModel", "sign", "[I", true)
  | 44 => ("CodeSmithModel", "signAt", "[I", true)
  | 45 => ("CodeSmithModel", "factor", "[I", true)
  | 46 => ("CodeSmithModel", "summand", "[I", true)
  | _ => ("CodeSmithModel", "reg", "I", false)
def tyX7 : Nat → FieldType := fun k => match k with
  | 0 => .array .long
  | 1 => .array .long
  | 2 => .array .int
  | 3 => .int
  | 4 => .array .byte
  | 5 => .int
  | 6 => .array .byte
  | 7 => .int
  | 8 => .int
  | 9 => .int
  | 10 => .int
  | 11 => .int
  | 12 => .int
  | 13 => .int
  | 14 => .int
  | 15 => .int
  | 16 => .int
  | 17 => .int
  | 18 => .int
  | 19 => .boolean
  | 20 => .int
  | 21 => .int
  | 22 => .int
  | 23 => .int
  | 24 => .int
  | 25 => .array .byte
  | 26 => .int
  | 27 => .array .int
  | 28 => .array .int
  | 29 => .array .int
  | 30 => .array .int
  | 31 => .array .int
  | 32 => .int
  | 33 => .int
  | 34 => .int
  | 35 => .array .int
  | 36 => .array .byte
  | 37 => .boolean
  | 38 => .boolean
  | 39 => .int
  | 40 => .int
  | 41 => .int
  | 42 => .array .int
  | 43 => .array .int
  | 44 => .array .int
  | 45 => .array .int
  | 46 => .array .int
  | _ => .int
theorem nmX7 : ∀ a, a < 48 → ∀ b, b < 48 → a ≠ b → (TX7 a).2.1 ≠ (TX7 b).2.1 := by decide +kernel
theorem tyX7_ok : ∀ k, k < 48 → parseFieldDescriptor (TX7 k).2.2.1 = some (tyX7 k) := by decide +kernel
def ab_TE : u_T := fun _ => ("", "", "", false)
abbrev ab_cl : List vw_C := [(RX0, TX0, 16), (RX1, TX1, 6), (RX2, TX2, 5), (RX4, TX4, 9), (RX5, TX5, 18), (RX6, TX6, 4), (RX7, TX7, 48), ("java/lang/IllegalArgumentException", ab_TE, 0)]
def ab_ty : Nat → Nat → FieldType := fun c => match c with
  | 0 => tyX0
  | 1 => tyX1
  | 2 => tyX2
  | 3 => tyX4
  | 4 => tyX5
  | 5 => tyX6
  | 6 => tyX7
  | _ => fun _ => .int
def ab_own : List String := ["CodeSmith", "CodeSmith$Symbols", "CodeSmith$Tokens", "CodeSmith$Calculator", "CodeSmith$Assembler", "CodeSmith$Image", "java/util/Arrays", "java/lang/String", "java/lang/StringLatin1", "java/lang/Integer", "CodeSmithModel"]
def ab_T : List Cond := lw_tbl.filter goodWord
theorem ab_T_in {i : Nat} {w : Cond} (h : lw_tbl[i]? = some w) (g : goodWord w = true) : w ∈ ab_T := List.mem_filter.mpr ⟨List.mem_of_getElem? h, g⟩
theorem ab_T_good : GoodIn lw_tbl ab_T := fun w h => ⟨(List.mem_filter.mp h).1, good_of_word (List.mem_filter.mp h).2⟩
theorem ab_T_goodT {Ts : List Cond} (h : ∀ w ∈ ab_T, w ∈ Ts) : GoodIn Ts ab_T := fun w q => ⟨h w q, good_of_word (List.mem_filter.mp q).2⟩
/-- fields: own class, pool index, class, field, the word's place -/
def ab_pf : List (Nat × Nat × Nat × Nat × Nat) := [(0, 7, 5, 0, 350), (0, 19, 5, 2, 352), (0, 33, 5, 3, 353), (1, 9, 3, 1, 137), (1, 15, 3, 2, 138), (1, 19, 3, 3, 139), (1, 22, 3, 4, 140), (1, 25, 3, 5, 141), (1, 28, 3, 6, 142), (1, 31, 3, 7, 143), (1, 34, 3, 8, 144), (2, 9, 4, 7, 190), (2, 15, 4, 11, 194), (2, 19, 4, 12, 195), (2, 22, 4, 13, 196), (3, 9, 1, 4, 254), (3, 15, 1, 5, 255), (4, 12, 0, 0, 300), (4, 18, 0, 1, 302), (4, 21, 0, 2, 303), (4, 25, 0, 3, 304), (4, 29, 0, 4, 305), (5, 9, 2, 4, 288), (0, 37, 5, 1, 351), (0, 83, 4, 0, 173), (0, 86, 4, 1, 175), (0, 89, 4, 2, 177), (0, 92, 0, 0, 301), (5, 26, 2, 0, 279), (0, 102, 2, 0, 281), (0, 105, 2, 1, 283), (0, 108, 2, 2, 285), (0, 111, 2, 3, 287), (2, 31, 4, 8, 191), (2, 35, 4, 0, 172), (2, 38, 4, 1, 174), (2, 41, 4, 2, 176), (2, 47, 4, 6, 187), (2, 50, 4, 10, 193), (4, 39, 0, 9, 310), (4, 43, 0, 5, 306), (4, 47, 1, 2, 250), (1, 37, 3, 0, 135), (4, 147, 0, 6, 307), (4, 55, 0, 7, 308), (4, 58, 0, 8, 309), (2, 53, 4, 9, 192), (2, 59, 4, 15, 198), (2, 88, 4, 14, 197), (2, 82, 4, 16, 199), (2, 85, 4, 17, 200), (2, 72, 4, 3, 180), (2, 75, 4, 4, 183), (2, 122, 4, 5, 186), (4, 84, 4, 3, 179), (4, 89, 4, 4, 182), (4, 92, 0, 10, 311), (4, 95, 4, 5, 185), (4, 72, 3, 0, 136), (4, 166, 4, 6, 189), (4, 187, 0, 11, 312), (4, 190, 0, 12, 313), (4, 193, 0, 13, 314), (4, 196, 0, 14, 315), (4, 197, 0, 15, 316), (4, 200, 1, 3, 253), (4, 203, 1, 1, 249), (4, 206, 1, 0, 247), (3, 24, 4, 3, 178), (3, 33, 4, 4, 181), (3, 72, 4, 5, 184), (3, 92, 4, 6, 188), (3, 99, 1, 3, 252), (3, 103, 1, 0, 246), (3, 106, 1, 2, 251), (3, 112, 1, 1, 248), (5, 19, 2, 2, 284), (5, 15, 2, 1, 282), (4, 75, 2, 3, 286), (4, 78, 2, 0, 280), (10, 73, 6, 0, 1045), (10, 245, 6, 1, 1046), (10, 248, 6, 2, 1047), (10, 253, 6, 4, 1049), (10, 257, 6, 6, 1051), (10, 260, 6, 25, 1070), (10, 263, 6, 27, 1072), (10, 266, 6, 28, 1073), (10, 269, 6, 29, 1074), (10, 272, 6, 30, 1075), (10, 275, 6, 31, 1076), (10, 278, 6, 35, 1080), (10, 282, 6, 36, 1081), (10, 285, 6, 42, 1087), (10, 288, 6, 43, 1088), (10, 291, 6, 44, 1089), (10, 294, 6, 45, 1090), (10, 297, 6, 46, 1091), (10, 300, 6, 3, 1048), (10, 304, 6, 5, 1050), (10, 557, 6, 14, 1059), (10, 307, 6, 11, 1056), (10, 405, 6, 26, 1071), (10, 408, 6, 19, 1064), (10, 418, 6, 34, 1079), (10, 586, 6, 7, 1052), (10, 477, 6, 32, 1077), (10, 316, 6, 15, 1060), (10, 310, 6, 16, 1061), (10, 325, 6, 17, 1062), (10, 322, 6, 18, 1063), (10, 358, 6, 20, 1065), (10, 349, 6, 21, 1066), (10, 449, 6, 33, 1078), (10, 480, 6, 37, 1082), (10, 352, 6, 22, 1067), (10, 339, 6, 23, 1068), (10, 381, 6, 24, 1069), (10, 313, 6, 12, 1057), (10, 319, 6, 13, 1058), (10, 505, 6, 47, 1092), (10, 430, 6, 39, 1084), (10, 421, 6, 40, 1085), (10, 443, 6, 41, 1086), (10, 415, 6, 38, 1083), (10, 580, 6, 8, 1053), (10, 583, 6, 9, 1054), (10, 589, 6, 10, 1055)]
def ab_pf_ok (q : Nat × Nat × Nat × Nat × Nat) : Bool := match ab_own[q.1]?, ab_cl[q.2.2.1]? with
  | some O, some C => decide (lw_tbl[q.2.2.2.2]? = some (.fieldLink O q.2.1 (C.2.1 q.2.2.2.1).1 (C.2.1 q.2.2.2.1).2.1 (C.2.1 q.2.2.2.1).2.2.1)) && decide (q.2.2.2.1 < C.2.2)
  | _, _ => false
set_option maxRecDepth 100000 in
theorem ab_pf_all : ab_pf.all ab_pf_ok = true := by decide +kernel
def ab_pV : List (Nat × Nat × Nat × Nat × Nat × Nat) := [(0, 54, 8, 385, 387, 0), (0, 96, 13, 405, 406, 407), (0, 58, 16, 421, 422, 423), (0, 62, 18, 430, 431, 432), (0, 66, 22, 445, 446, 447), (0, 70, 42, 523, 524, 525), (0, 73, 17, 889, 427, 428), (0, 76, 102, 890, 891, 892), (0, 79, 105, 905, 906, 907), (2, 44, 17, 426, 427, 428), (4, 33, 19, 434, 435, 436), (4, 52, 21, 441, 443, 1), (2, 56, 23, 449, 451, 2), (2, 62, 41, 519, 521, 13), (2, 125, 24, 453, 455, 3), (2, 100, 25, 460, 462, 4), (2, 129, 26, 464, 466, 5), (2, 132, 30, 478, 480, 7), (2, 146, 29, 474, 476, 6), (2, 149, 32, 486, 488, 9), (2, 152, 34, 493, 495, 10), (2, 155, 35, 497, 499, 11), (2, 158, 39, 512, 514, 12), (2, 161, 31, 482, 484, 8), (2, 170, 36, 501, 502, 503), (2, 173, 38, 508, 509, 510), (4, 81, 43, 527, 529, 14), (4, 98, 45, 536, 537, 538), (4, 102, 65, 717, 719, 23), (4, 106, 46, 694, 541, 542), (4, 114, 66, 723, 725, 24), (4, 120, 67, 727, 729, 25), (4, 123, 85, 803, 805, 34), (4, 126, 86, 809, 811, 35), (4, 129, 87, 813, 815, 36), (4, 133, 89, 828, 830, 37), (4, 137, 92, 842, 844, 40), (4, 141, 99, 876, 878, 45), (4, 144, 101, 885, 887, 47), (4, 151, 44, 532, 533, 534), (4, 155, 47, 609, 611, 16), (4, 159, 51, 696, 627, 628), (4, 163, 61, 697, 699, 21), (4, 169, 62, 701, 702, 703), (2, 78, 46, 540, 541, 542), (4, 173, 48, 613, 614, 615), (4, 176, 58, 682, 683, 684), (2, 94, 49, 617, 619, 17), (2, 97, 50, 621, 623, 18), (2, 178, 51, 626, 627, 628), (2, 104, 52, 630, 631, 632), (2, 110, 54, 640, 641, 642), (7, 335, 53, 634, 635, 636), (7, 492, 55, 644, 645, 646), (1, 47, 59, 686, 688, 19), (1, 51, 60, 690, 692, 20), (1, 55, 63, 705, 707, 22), (4, 209, 68, 731, 732, 733), (4, 212, 82, 791, 793, 33), (3, 19, 69, 735, 737, 26), (3, 36, 45, 743, 537, 538), (3, 40, 68, 766, 732, 733), (3, 44, 80, 783, 785, 31), (3, 52, 71, 744, 746, 27), (3, 56, 74, 758, 760, 28), (3, 59, 75, 762, 764, 29), (3, 62, 76, 767, 769, 30), (3, 87, 58, 748, 683, 684), (3, 95, 72, 749, 750, 751), (3, 75, 46, 753, 541, 542), (3, 109, 73, 754, 755, 756), (3, 81, 51, 772, 627, 628), (3, 115, 81, 787, 789, 32), (4, 262, 83, 795, 796, 797), (4, 265, 84, 799, 800, 801), (4, 215, 36, 807, 502, 503), (4, 218, 38, 808, 509, 510), (4, 226, 88, 819, 820, 821), (2, 91, 48, 823, 614, 615), (4, 238, 52, 832, 631, 632), (4, 242, 54, 833, 641, 642), (4, 246, 90, 834, 836, 38), (4, 249, 91, 838, 840, 39), (4, 268, 93, 846, 848, 41), (4, 271, 94, 850, 852, 42), (4, 282, 97, 862, 864, 43), (4, 258, 98, 872, 874, 44), (4, 254, 100, 881, 883, 46), (4, 61, 103, 894, 895, 896), (5, 22, 83, 898, 796, 797), (4, 65, 73, 909, 755, 756), (4, 69, 106, 910, 911, 912), (5, 46, 84, 915, 800, 801), (5, 51, 107, 917, 919, 48), (10, 592, 114, 1211, 1213, 49), (10, 595, 170, 1432, 1434, 95), (10, 560, 115, 1215, 1217, 50), (10, 545, 116, 1219, 1221, 51), (10, 394, 135, 1291, 1293, 66), (10, 342, 131, 1275, 1277, 62), (10, 387, 117, 1223, 1225, 52), (10, 548, 138, 1303, 1305, 69), (10, 551, 165, 1412, 1414, 90), (10, 554, 167, 1420, 1422, 92), (10, 398, 130, 1271, 1273, 61), (10, 346, 118, 1227, 1229, 53), (10, 335, 119, 1231, 1233, 54), (10, 539, 132, 1279, 1281, 63), (10, 542, 137, 1299, 1301, 68), (10, 361, 123, 1244, 1246, 55), (10, 365, 124, 1248, 1250, 56), (10, 368, 126, 1255, 1257, 57), (10, 371, 128, 1263, 1265, 59), (10, 373, 129, 1267, 1269, 60), (10, 378, 127, 1259, 1261, 58), (10, 412, 133, 1283, 1285, 64), (10, 401, 134, 1287, 1289, 65), (10, 390, 136, 1295, 1297, 67), (10, 512, 139, 1307, 1309, 70), (10, 491, 140, 1311, 1313, 71), (10, 486, 144, 1326, 1328, 74), (10, 502, 145, 1331, 1333, 75), (10, 483, 159, 1385, 1387, 85), (10, 518, 161, 1392, 1394, 86), (10, 521, 163, 1400, 1402, 88), (10, 526, 164, 1405, 1407, 89), (10, 384, 142, 1319, 1321, 73), (10, 495, 141, 1315, 1317, 72), (10, 473, 146, 1335, 1337, 76), (10, 464, 147, 1339, 1341, 77), (10, 467, 156, 1375, 1377, 84), (10, 451, 149, 1347, 1349, 79), (10, 446, 148, 1343, 1345, 78), (10, 454, 153, 1361, 1363, 81), (10, 457, 155, 1369, 1371, 83), (10, 437, 151, 1354, 1356, 80), (10, 440, 154, 1365, 1367, 82), (10, 498, 162, 1396, 1398, 87), (10, 530, 166, 1416, 1418, 91), (10, 533, 168, 1424, 1426, 93), (10, 536, 169, 1428, 1430, 94), (10, 572, 171, 1439, 1441, 96), (10, 563, 172, 1445, 1447, 97), (10, 576, 173, 1449, 1451, 98)]
def ab_pS : List (Nat × Nat × Nat × Nat × Nat) := [(0, 42, 997, 368, 369), (0, 48, 7, 371, 372), (6, 304, 997, 381, 369), (6, 150, 999, 382, 0), (2, 25, 997, 425, 369), (1, 41, 20, 438, 439), (2, 136, 996, 457, 458), (2, 139, 27, 468, 469), (2, 143, 28, 471, 472), (2, 164, 40, 516, 517), (2, 167, 33, 490, 491), (2, 119, 37, 505, 506), (2, 114, 57, 678, 679), (7, 495, 56, 648, 649), (1, 58, 64, 709, 710), (3, 30, 79, 780, 781), (3, 48, 70, 740, 741), (3, 66, 77, 774, 775), (3, 69, 78, 777, 778), (4, 274, 95, 854, 855), (4, 279, 96, 859, 860), (4, 291, 77, 868, 775), (4, 294, 78, 871, 778), (5, 30, 997, 900, 369), (5, 36, 996, 901, 458), (5, 39, 104, 902, 903), (10, 328, 120, 1235, 1236), (10, 355, 121, 1238, 1239), (10, 332, 122, 1241, 1242), (10, 375, 125, 1252, 1253), (10, 515, 143, 1323, 1324), (10, 508, 160, 1389, 1390), (10, 470, 157, 1379, 1380), (10, 427, 158, 1382, 1383), (10, 424, 150, 1351, 1352), (10, 433, 152, 1358, 1359)]
def ab_pI : List (Nat × Nat × Nat × Nat × Nat) := [(0, 1, 998, 126, 127), (0, 15, 1, 131, 132), (0, 18, 2, 168, 169), (0, 27, 3, 242, 243), (0, 30, 4, 269, 270), (1, 3, 998, 134, 127), (2, 3, 998, 171, 127), (3, 3, 998, 245, 127), (4, 3, 998, 272, 127), (4, 11, 5, 275, 276), (5, 3, 998, 278, 127), (10, 1, 998, 926, 127)]
def ab_pN : List (Nat × Nat × Nat × Nat) := [(0, 13, 3, 129), (0, 16, 4, 166), (0, 23, 0, 238), (0, 25, 1, 240), (4, 9, 2, 273), (2, 65, 7, 544)]
def ab_pK : List (Nat × Nat × Nat × Nat) := [(0, 41, 65536, 367), (4, 150, 65536, 531), (3, 23, 65536, 739), (4, 277, 1048575, 857), (4, 278, 1048576, 858), (4, 253, 65420, 880), (5, 29, 65536, 899), (5, 45, 1179403647, 914), (5, 50, 65793, 916), (10, 252, 65536, 1043), (10, 281, 130840, 1044), (10, 476, 65420, 1330), (10, 525, 1048575, 1404), (10, 529, 1048691, 1411), (10, 489, 4293918720, 1409), (10, 490, 1048574, 1410), (10, 569, 1179403647, 1436), (10, 570, 65793, 1437), (10, 571, 15925250, 1438), (10, 575, 2097204, 1444)]
def ab_pL : List (Nat × Nat × Nat × Nat) := [(10, 7, 2053468783, 927), (10, 9, 29281, 928), (10, 11, 29552, 929), (10, 13, 26480, 930), (10, 15, 29808, 931), (10, 17, 29744, 932), (10, 19, 29745, 933), (10, 21, 29746, 934), (10, 23, 29488, 935), (10, 25, 29489, 936), (10, 27, 24880, 937), (10, 29, 24881, 938), (10, 31, 24882, 939), (10, 33, 24883, 940), (10, 35, 24884, 941), (10, 37, 24885, 942), (10, 39, 24886, 943), (10, 41, 24887, 944), (10, 43, 29490, 945), (10, 45, 29491, 946), (10, 47, 29492, 947), (10, 49, 29493, 948), (10, 51, 29494, 949), (10, 53, 29495, 950), (10, 55, 29496, 951), (10, 57, 29497, 952), (10, 59, 7549232, 953), (10, 61, 7549233, 954), (10, 63, 29747, 955), (10, 65, 29748, 956), (10, 67, 29749, 957), (10, 69, 29750, 958), (10, 71, 26224, 959), (10, 79, 6382692, 960), (10, 81, 7566690, 961), (10, 83, 7564396, 962), (10, 85, 7564404, 963), (10, 87, 1936487541, 964), (10, 89, 7892850, 965), (10, 91, 7565932, 966), (10, 93, 7565921, 967), (10, 95, 28530, 968), (10, 97, 6385252, 969), (10, 99, 7173484, 970), (10, 101, 1836412008, 971), (10, 103, 120351097385845, 972), (10, 105, 470121474165, 973), (10, 107, 6580598, 974), (10, 109, 1684633205, 975), (10, 111, 7497069, 976), (10, 113, 1919249781, 977), (10, 115, 1633969257, 978), (10, 117, 1936487529, 979), (10, 119, 495740807541, 980), (10, 121, 2020569705, 981), (10, 123, 7303785, 982), (10, 125, 1634624617, 983), (10, 127, 1936485481, 984), (10, 129, 1936878697, 985), (10, 131, 1936875881, 986), (10, 133, 27746, 987), (10, 135, 27752, 988), (10, 137, 27767, 989), (10, 139, 7103093, 990), (10, 141, 7104629, 991), (10, 143, 29538, 992), (10, 145, 29544, 993), (10, 147, 29559, 994), (10, 149, 6448497, 995), (10, 151, 6450789, 996), (10, 153, 6450292, 997), (10, 155, 6448997, 998), (10, 157, 1651274869, 999), (10, 159, 1650943349, 1000), (10, 161, 6449012, 1001), (10, 163, 6450277, 1002), (10, 165, 1650947189, 1003), (10, 167, 1651271029, 1004), (10, 169, 1650815354, 1005), (10, 171, 1651402106, 1006), (10, 173, 1651274874, 1007), (10, 175, 1650943354, 1008), (10, 177, 1650947194, 1009), (10, 179, 1651271034, 1010), (10, 181, 7107945, 1011), (10, 183, 418581672035, 1012), (10, 185, 6971756, 1013), (10, 187, 1784769650, 1014), (10, 189, 439788397413, 1015), (10, 191, 435459026028, 1016), (10, 193, 111473500447083, 1017), (10, 195, 7237488, 1018), (10, 197, 7497076, 1019), (10, 199, 28022, 1020), (10, 201, 7237492, 1021), (10, 203, 7234919, 1022), (10, 205, 1936028026, 1023), (10, 207, 1936614778, 1024), (10, 209, 1936487546, 1025), (10, 211, 1936159866, 1026), (10, 213, 106, 1027), (10, 215, 1667329132, 1028), (10, 217, 27250, 1029), (10, 219, 27745, 1030), (10, 221, 27753, 1031), (10, 223, 199521302644, 1032), (10, 225, 199252604001, 1033), (10, 227, 199220622437, 1034), (10, 229, 199319710822, 1035), (10, 231, 199572288100, 1036), (10, 233, 50996082600297, 1037), (10, 235, 50996082600314, 1038), (10, 237, 51073341547365, 1039), (10, 239, 50995965552494, 1040), (10, 241, 778400117, 1041), (10, 243, 51021735748204, 1042), (10, 460, 26729, 1373), (10, 462, 27759, 1374), (10, 567, 495873782388, 1443)]
def ab_pG : List (Nat × Nat × Nat × Nat × Nat) := [(7, 38, 1, 1, 638), (4, 179, 500, 2, 721), (4, 222, 439, 0, 817), (4, 231, 440, 0, 825), (4, 285, 412, 0, 869), (4, 288, 448, 0, 866)]
def ab_pT : List (Nat × Nat × Nat × Nat) := [(4, 158, 3, 695), (2, 67, 0, 583), (2, 176, 1, 625), (2, 182, 2, 681), (3, 79, 4, 771), (3, 85, 5, 773), (4, 229, 6, 824), (4, 234, 7, 827)]
def ab_pF2 : List (Nat × Nat × Nat × Nat) := [(4, 109, 4, 1469), (4, 117, 5, 1470), (7, 9, 0, 1466), (7, 15, 1, 1467), (4, 183, 2, 1468), (4, 235, 3, 1471)]
abbrev ab_I : Type := Nat × Instr × Nat × Nat × Nat
/-- an instruction's row: it is decoded so, its length and target are right, its pool entry stands in the pools -/
def ab_eok (o : Nat) (cc : ByteArray) (q : ab_I) : Bool := decide (decode cc q.1 = .ok (q.2.1, q.2.2.1)) && (q.2.2.1 == ab_len q.2.1 || ab_len q.2.1 == 0) && ab_tok q.2.1 q.1 q.2.2.2.1 && (match q.2.1 with
  | .getfield i => ab_pf.any (fun z => z.1 == o && z.2.1 == i && z.2.2.1 == q.2.2.2.1 && z.2.2.2.1 == q.2.2.2.2) || (q.2.2.2.1 == 100 && ab_pF2.any (fun z => z.1 == o && z.2.1 == i && z.2.2.1 == q.2.2.2.2))
  | .putfield i => ab_pf.any (fun z => z.1 == o && z.2.1 == i && z.2.2.1 == q.2.2.2.1 && z.2.2.2.1 == q.2.2.2.2)
  | .invokevirtual i => ab_pV.any (fun z => z.1 == o && z.2.1 == i && z.2.2.1 == q.2.2.2.1)
  | .invokestatic i => ab_pS.any (fun z => z.1 == o && z.2.1 == i && z.2.2.1 == q.2.2.2.1)
  | .invokespecial i => ab_pI.any (fun z => z.1 == o && z.2.1 == i && z.2.2.1 == q.2.2.2.1)
  | .new i => ab_pN.any (fun z => z.1 == o && z.2.1 == i && z.2.2.1 == q.2.2.2.1)
  | .ldc i => (q.2.2.2.2 == 0 && ab_pK.any (fun z => z.1 == o && z.2.1 == i && z.2.2.1 == q.2.2.2.1)) || (q.2.2.2.2 == 1 && ab_pT.any (fun z => z.1 == o && z.2.1 == i && z.2.2.1 == q.2.2.2.1))
  | .ldc_w i => q.2.2.2.2 == 0 && ab_pK.any (fun z => z.1 == o && z.2.1 == i && z.2.2.1 == q.2.2.2.1)
  | .ldc2_w i => ab_pL.any (fun z => z.1 == o && z.2.1 == i && z.2.2.1 == q.2.2.2.1)
  | .getstatic i => ab_pG.any (fun z => z.1 == o && z.2.1 == i && z.2.2.1 == q.2.2.2.1 && ((z.2.2.2.1 == 1) == (q.2.2.2.2 == 1)))
  | _ => true)
/-- a method: own class, name, bytes, locals, what it returns, how many parameters, its code word's place -/
abbrev ab_M : Type := Nat × MethodName × ByteArray × Nat × Option FieldType × Nat × Nat
def ab_hok (q : ab_M) : Bool := decide (lw_tbl[q.2.2.2.2.2.2]? = some (.code q.2.1 q.2.2.1 q.2.2.2.1 q.2.2.2.2.1)) && decide (ab_own[q.1]? = some q.2.1.cls) && Jvm.plainName q.2.1.cls && decide ((parseMethodDescriptor q.2.1.desc).map (fun d => d.parameters.length) = some q.2.2.2.2.2.1) && decide (q.2.1.cls ≠ "java/lang/invoke/MethodHandle" ∧ q.2.1.cls ≠ "java/lang/invoke/VarHandle") && decide (q.2.2.2.1 ≤ 20)
def ab_mok (q : ab_M × List ab_I) : Bool := ab_hok q.1 && q.2.all (ab_eok q.1.1 q.1.2.2.1)
end
section
/-- CodeSmith.<init>()V -/
def ab_c0 : List ab_I := [(0, .aload_n 0, 1, 0, 0), (1, .invokespecial 1, 3, 998, 0), (4, .aload_n 0, 1, 0, 0), (5, .sipush 256, 3, 0, 0), (8, .newarray .byte, 2, 0, 0), (10, .putfield 7, 3, 5, 0), (13, .new 13, 3, 3, 0), (16, .dup, 1, 0, 0), (17, .invokespecial 15, 3, 1, 0), (20, .astore_n 1, 1, 0, 0), (21, .new 16, 3, 4, 0), (24, .dup, 1, 0, 0), (25, .invokespecial 18, 3, 2, 0), (28, .astore_n 2, 1, 0, 0), (29, .aload_n 0, 1, 0, 0), (30, .aload_n 2, 1, 0, 0), (31, .putfield 19, 3, 5, 2), (34, .aload_n 0, 1, 0, 0), (35, .new 23, 3, 0, 0), (38, .dup, 1, 0, 0), (39, .aload_n 2, 1, 0, 0), (40, .aload_n 1, 1, 0, 0), (41, .new 25, 3, 1, 0), (44, .dup, 1, 0, 0), (45, .aload_n 2, 1, 0, 0), (46, .aload_n 1, 1, 0, 0), (47, .invokespecial 27, 3, 3, 2), (50, .invokespecial 30, 3, 4, 3), (53, .putfield 33, 3, 5, 3), (56, .return_, 1, 0, 0)]
abbrev ab_m0 : ab_M := (0, ({ cls := "CodeSmith", name := "<init>", desc := "()V" } : Jvm.MethodName), prog_1_method_1_code, 3, (Option.none : Option Jvm.ClassFile.FieldType), 0, 125)
/-- CodeSmith$Symbols.<init>()V -/
def ab_c1 : List ab_I := [(0, .aload_n 0, 1, 0, 0), (1, .invokespecial 3, 3, 998, 0), (4, .aload_n 0, 1, 0, 0), (5, .iconst 0, 1, 0, 0), (6, .newarray .byte, 2, 0, 0), (8, .putfield 9, 3, 3, 1), (11, .aload_n 0, 1, 0, 0), (12, .sipush 256, 3, 0, 0), (15, .newarray .int, 2, 0, 0), (17, .putfield 15, 3, 3, 2), (20, .aload_n 0, 1, 0, 0), (21, .bipush 16, 2, 0, 0), (23, .newarray .int, 2, 0, 0), (25, .putfield 19, 3, 3, 3), (28, .aload_n 0, 1, 0, 0), (29, .bipush 16, 2, 0, 0), (31, .newarray .int, 2, 0, 0), (33, .putfield 22, 3, 3, 4), (36, .aload_n 0, 1, 0, 0), (37, .bipush 16, 2, 0, 0), (39, .newarray .int, 2, 0, 0), (41, .putfield 25, 3, 3, 5), (44, .aload_n 0, 1, 0, 0), (45, .bipush 16, 2, 0, 0), (47, .newarray .int, 2, 0, 0), (49, .putfield 28, 3, 3, 6), (52, .aload_n 0, 1, 0, 0), (53, .bipush 16, 2, 0, 0), (55, .newarray .int, 2, 0, 0), (57, .putfield 31, 3, 3, 7), (60, .aload_n 0, 1, 0, 0), (61, .bipush 16, 2, 0, 0), (63, .newarray .int, 2, 0, 0), (65, .putfield 34, 3, 3, 8), (68, .return_, 1, 0, 0)]
abbrev ab_m1 : ab_M := (1, ({ cls := "CodeSmith$Symbols", name := "<init>", desc := "()V" } : Jvm.MethodName), prog_6_method_1_code, 1, (Option.none : Option Jvm.ClassFile.FieldType), 0, 133)
/-- CodeSmith$Tokens.<init>()V -/
def ab_c2 : List ab_I := [(0, .aload_n 0, 1, 0, 0), (1, .invokespecial 3, 3, 998, 0), (4, .aload_n 0, 1, 0, 0), (5, .iconst 0, 1, 0, 0), (6, .newarray .byte, 2, 0, 0), (8, .putfield 9, 3, 4, 7), (11, .aload_n 0, 1, 0, 0), (12, .bipush 32, 2, 0, 0), (14, .newarray .int, 2, 0, 0), (16, .putfield 15, 3, 4, 11), (19, .aload_n 0, 1, 0, 0), (20, .bipush 32, 2, 0, 0), (22, .newarray .int, 2, 0, 0), (24, .putfield 19, 3, 4, 12), (27, .aload_n 0, 1, 0, 0), (28, .bipush 32, 2, 0, 0), (30, .newarray .int, 2, 0, 0), (32, .putfield 22, 3, 4, 13), (35, .return_, 1, 0, 0)]
abbrev ab_m2 : ab_M := (2, ({ cls := "CodeSmith$Tokens", name := "<init>", desc := "()V" } : Jvm.MethodName), prog_7_method_1_code, 1, (Option.none : Option Jvm.ClassFile.FieldType), 0, 170)
/-- CodeSmith$Calculator.<init>(LCodeSmith$Tokens;LCodeSmith$Symbols;)V -/
def ab_c3 : List ab_I := [(0, .aload_n 0, 1, 0, 0), (1, .invokespecial 3, 3, 998, 0), (4, .aload_n 0, 1, 0, 0), (5, .aload_n 1, 1, 0, 0), (6, .putfield 9, 3, 1, 4), (9, .aload_n 0, 1, 0, 0), (10, .aload_n 2, 1, 0, 0), (11, .putfield 15, 3, 1, 5), (14, .return_, 1, 0, 0)]
abbrev ab_m3 : ab_M := (3, ({ cls := "CodeSmith$Calculator", name := "<init>", desc := "(LCodeSmith$Tokens;LCodeSmith$Symbols;)V" } : Jvm.MethodName), prog_3_method_1_code, 3, (Option.none : Option Jvm.ClassFile.FieldType), 2, 244)
/-- CodeSmith$Assembler.<init>(LCodeSmith$Tokens;LCodeSmith$Symbols;LCodeSmith$Calculator;)V -/
def ab_c4 : List ab_I := [(0, .aload_n 0, 1, 0, 0), (1, .invokespecial 3, 3, 998, 0), (4, .aload_n 0, 1, 0, 0), (5, .new 9, 3, 2, 0), (8, .dup, 1, 0, 0), (9, .invokespecial 11, 3, 5, 0), (12, .putfield 12, 3, 0, 0), (15, .aload_n 0, 1, 0, 0), (16, .new 9, 3, 2, 0), (19, .dup, 1, 0, 0), (20, .invokespecial 11, 3, 5, 0), (23, .putfield 18, 3, 0, 1), (26, .aload_n 0, 1, 0, 0), (27, .aload_n 1, 1, 0, 0), (28, .putfield 21, 3, 0, 2), (31, .aload_n 0, 1, 0, 0), (32, .aload_n 2, 1, 0, 0), (33, .putfield 25, 3, 0, 3), (36, .aload_n 0, 1, 0, 0), (37, .aload_n 3, 1, 0, 0), (38, .putfield 29, 3, 0, 4), (41, .return_, 1, 0, 0)]
abbrev ab_m4 : ab_M := (4, ({ cls := "CodeSmith$Assembler", name := "<init>", desc := "(LCodeSmith$Tokens;LCodeSmith$Symbols;LCodeSmith$Calculator;)V" } : Jvm.MethodName), prog_2_method_1_code, 4, (Option.none : Option Jvm.ClassFile.FieldType), 3, 271)
/-- CodeSmith$Image.<init>()V -/
def ab_c5 : List ab_I := [(0, .aload_n 0, 1, 0, 0), (1, .invokespecial 3, 3, 998, 0), (4, .aload_n 0, 1, 0, 0), (5, .iconst 0, 1, 0, 0), (6, .newarray .byte, 2, 0, 0), (8, .putfield 9, 3, 2, 4), (11, .return_, 1, 0, 0)]
abbrev ab_m5 : ab_M := (5, ({ cls := "CodeSmith$Image", name := "<init>", desc := "()V" } : Jvm.MethodName), prog_4_method_1_code, 1, (Option.none : Option Jvm.ClassFile.FieldType), 0, 277)
/-- CodeSmith.feed(IIIII)Z -/
def ab_c6 : List ab_I := [(0, .aload_n 0, 1, 0, 0), (1, .getfield 37, 3, 5, 1), (4, .bipush 20, 2, 0, 0), (6, .iadd, 1, 0, 0), (7, .ldc 41, 2, 65536, 0), (9, .if_icmp .le 5, 3, 14, 0), (12, .iconst 0, 1, 0, 0), (13, .ireturn, 1, 0, 0), (14, .aload_n 0, 1, 0, 0), (15, .getfield 37, 3, 5, 1), (18, .bipush 20, 2, 0, 0), (20, .iadd, 1, 0, 0), (21, .aload_n 0, 1, 0, 0), (22, .getfield 7, 3, 5, 0), (25, .arraylength, 1, 0, 0), (26, .if_icmp .le 26, 3, 52, 0), (29, .aload_n 0, 1, 0, 0), (30, .aload_n 0, 1, 0, 0), (31, .getfield 7, 3, 5, 0), (34, .ldc 41, 2, 65536, 0), (36, .aload_n 0, 1, 0, 0), (37, .getfield 7, 3, 5, 0), (40, .arraylength, 1, 0, 0), (41, .iconst 2, 1, 0, 0), (42, .imul, 1, 0, 0), (43, .invokestatic 42, 3, 997, 2), (46, .invokestatic 48, 3, 7, 2), (49, .putfield 7, 3, 5, 0), (52, .aload_n 0, 1, 0, 0), (53, .iload_n 1, 1, 0, 0), (54, .invokevirtual 54, 3, 8, 1), (57, .aload_n 0, 1, 0, 0), (58, .iload_n 2, 1, 0, 0), (59, .invokevirtual 54, 3, 8, 1), (62, .aload_n 0, 1, 0, 0), (63, .iload_n 3, 1, 0, 0), (64, .invokevirtual 54, 3, 8, 1), (67, .aload_n 0, 1, 0, 0), (68, .iload 4, 2, 0, 0), (70, .invokevirtual 54, 3, 8, 1), (73, .aload_n 0, 1, 0, 0), (74, .iload 5, 2, 0, 0), (76, .invokevirtual 54, 3, 8, 1), (79, .iconst 1, 1, 0, 0), (80, .ireturn, 1, 0, 0)]
abbrev ab_m6 : ab_M := (0, ({ cls := "CodeSmith", name := "feed", desc := "(IIIII)Z" } : Jvm.MethodName), prog_1_method_2_code, 6, (Option.some Jvm.ClassFile.FieldType.boolean), 5, 366)
/-- java/util/Arrays.copyOf([BI)[B -/
def ab_c7 : List ab_I := [(0, .iload_n 1, 1, 0, 0), (1, .aload_n 0, 1, 0, 0), (2, .arraylength, 1, 0, 0), (3, .if_icmp .ne 11, 3, 14, 0), (6, .aload_n 0, 1, 0, 0), (13, .areturn, 1, 0, 0), (14, .iload_n 1, 1, 0, 0), (15, .newarray .byte, 2, 0, 0), (17, .astore_n 2, 1, 0, 0), (18, .aload_n 0, 1, 0, 0), (19, .iconst 0, 1, 0, 0), (20, .aload_n 2, 1, 0, 0), (21, .iconst 0, 1, 0, 0), (22, .aload_n 0, 1, 0, 0), (23, .arraylength, 1, 0, 0), (24, .iload_n 1, 1, 0, 0), (25, .invokestatic 304, 3, 997, 2), (28, .invokestatic 150, 3, 999, 5), (31, .aload_n 2, 1, 0, 0), (32, .areturn, 1, 0, 0)]
abbrev ab_m7 : ab_M := (6, ({ cls := "java/util/Arrays", name := "copyOf", desc := "([BI)[B" } : Jvm.MethodName), prog_22_method_121_code, 3, (Option.some (Jvm.ClassFile.FieldType.array Jvm.ClassFile.FieldType.byte)), 2, 373)
/-- CodeSmith.append(I)V -/
def ab_c8 : List ab_I := [(0, .bipush 24, 2, 0, 0), (2, .istore_n 2, 1, 0, 0), (3, .iload_n 2, 1, 0, 0), (4, .ifCond .lt 44, 3, 48, 0), (7, .aload_n 0, 1, 0, 0), (8, .getfield 37, 3, 5, 1), (11, .aload_n 0, 1, 0, 0), (12, .getfield 7, 3, 5, 0), (15, .arraylength, 1, 0, 0), (16, .if_icmp .ge 32, 3, 48, 0), (19, .aload_n 0, 1, 0, 0), (20, .getfield 7, 3, 5, 0), (23, .aload_n 0, 1, 0, 0), (24, .getfield 37, 3, 5, 1), (27, .iload_n 1, 1, 0, 0), (28, .iload_n 2, 1, 0, 0), (29, .ishr, 1, 0, 0), (30, .i2b, 1, 0, 0), (31, .bastore, 1, 0, 0), (32, .aload_n 0, 1, 0, 0), (33, .dup, 1, 0, 0), (34, .getfield 37, 3, 5, 1), (37, .iconst 1, 1, 0, 0), (38, .iadd, 1, 0, 0), (39, .putfield 37, 3, 5, 1), (42, .iinc 2 (-8), 3, 0, 0), (45, .goto (-42), 3, 3, 0), (48, .return_, 1, 0, 0)]
abbrev ab_m8 : ab_M := (0, ({ cls := "CodeSmith", name := "append", desc := "(I)V" } : Jvm.MethodName), prog_1_method_9_code, 3, (Option.none : Option Jvm.ClassFile.FieldType), 1, 388)
/-- CodeSmith.end(I)Z -/
def ab_c9 : List ab_I := [(0, .iload_n 1, 1, 0, 0), (1, .ifCond .lt 11, 3, 12, 0), (4, .iload_n 1, 1, 0, 0), (5, .aload_n 0, 1, 0, 0), (6, .getfield 37, 3, 5, 1), (9, .if_icmp .le 5, 3, 14, 0), (12, .iconst 0, 1, 0, 0), (13, .ireturn, 1, 0, 0), (14, .aload_n 0, 1, 0, 0), (15, .iload_n 1, 1, 0, 0), (16, .putfield 37, 3, 5, 1), (19, .iconst 1, 1, 0, 0), (20, .ireturn, 1, 0, 0)]
abbrev ab_m9 : ab_M := (0, ({ cls := "CodeSmith", name := "end", desc := "(I)Z" } : Jvm.MethodName), prog_1_method_3_code, 2, (Option.some Jvm.ClassFile.FieldType.boolean), 1, 392)
/-- CodeSmith.size()I -/
def ab_c10 : List ab_I := [(0, .aload_n 0, 1, 0, 0), (1, .getfield 37, 3, 5, 1), (4, .ireturn, 1, 0, 0)]
abbrev ab_m10 : ab_M := (0, ({ cls := "CodeSmith", name := "size", desc := "()I" } : Jvm.MethodName), prog_1_method_4_code, 1, (Option.some Jvm.ClassFile.FieldType.int), 0, 396)
/-- CodeSmith.error(I)I -/
def ab_c11 : List ab_I := [(0, .iload_n 1, 1, 0, 0), (1, .tableswitch 51 0 2 #[27, 35, 43], 27, 0, 0), (28, .aload_n 0, 1, 0, 0), (29, .getfield 19, 3, 5, 2), (32, .getfield 83, 3, 4, 0), (35, .ireturn, 1, 0, 0), (36, .aload_n 0, 1, 0, 0), (37, .getfield 19, 3, 5, 2), (40, .getfield 86, 3, 4, 1), (43, .ireturn, 1, 0, 0), (44, .aload_n 0, 1, 0, 0), (45, .getfield 19, 3, 5, 2), (48, .getfield 89, 3, 4, 2), (51, .ireturn, 1, 0, 0), (52, .iconst 0, 1, 0, 0), (53, .ireturn, 1, 0, 0)]
abbrev ab_m11 : ab_M := (0, ({ cls := "CodeSmith", name := "error", desc := "(I)I" } : Jvm.MethodName), prog_1_method_6_code, 2, (Option.some Jvm.ClassFile.FieldType.int), 1, 400)
/-- CodeSmith.image(I)I -/
def ab_c12 : List ab_I := [(0, .aload_n 0, 1, 0, 0), (1, .getfield 33, 3, 5, 3), (4, .getfield 92, 3, 0, 0), (7, .iload_n 1, 1, 0, 0), (8, .invokevirtual 96, 3, 13, 1), (11, .ireturn, 1, 0, 0)]
abbrev ab_m12 : ab_M := (0, ({ cls := "CodeSmith", name := "image", desc := "(I)I" } : Jvm.MethodName), prog_1_method_7_code, 2, (Option.some Jvm.ClassFile.FieldType.int), 1, 404)
/-- CodeSmith$Image.byteAt(I)I -/
def ab_c13 : List ab_I := [(0, .iload_n 1, 1, 0, 0), (1, .ifCond .lt 33, 3, 34, 0), (4, .iload_n 1, 1, 0, 0), (5, .aload_n 0, 1, 0, 0), (6, .getfield 26, 3, 2, 0), (9, .if_icmp .ge 25, 3, 34, 0), (12, .iload_n 1, 1, 0, 0), (13, .aload_n 0, 1, 0, 0), (14, .getfield 9, 3, 2, 4), (17, .arraylength, 1, 0, 0), (18, .if_icmp .ge 16, 3, 34, 0), (21, .aload_n 0, 1, 0, 0), (22, .getfield 9, 3, 2, 4), (25, .iload_n 1, 1, 0, 0), (26, .baload, 1, 0, 0), (27, .sipush 255, 3, 0, 0), (30, .iand, 1, 0, 0), (31, .goto 4, 3, 35, 0), (34, .iconst (-1), 1, 0, 0), (35, .ireturn, 1, 0, 0)]
abbrev ab_m13 : ab_M := (5, ({ cls := "CodeSmith$Image", name := "byteAt", desc := "(I)I" } : Jvm.MethodName), prog_4_method_5_code, 2, (Option.some Jvm.ClassFile.FieldType.int), 1, 408)
/-- CodeSmith.about(I)I -/
def ab_c14 : List ab_I := [(0, .iload_n 1, 1, 0, 0), (1, .tableswitch 75 0 3 #[31, 42, 53, 64], 31, 0, 0), (32, .aload_n 0, 1, 0, 0), (33, .getfield 33, 3, 5, 3), (36, .getfield 92, 3, 0, 0), (39, .getfield 102, 3, 2, 0), (42, .ireturn, 1, 0, 0), (43, .aload_n 0, 1, 0, 0), (44, .getfield 33, 3, 5, 3), (47, .getfield 92, 3, 0, 0), (50, .getfield 105, 3, 2, 1), (53, .ireturn, 1, 0, 0), (54, .aload_n 0, 1, 0, 0), (55, .getfield 33, 3, 5, 3), (58, .getfield 92, 3, 0, 0), (61, .getfield 108, 3, 2, 2), (64, .ireturn, 1, 0, 0), (65, .aload_n 0, 1, 0, 0), (66, .getfield 33, 3, 5, 3), (69, .getfield 92, 3, 0, 0), (72, .getfield 111, 3, 2, 3), (75, .ireturn, 1, 0, 0), (76, .iconst (-1), 1, 0, 0), (77, .ireturn, 1, 0, 0)]
abbrev ab_m14 : ab_M := (0, ({ cls := "CodeSmith", name := "about", desc := "(I)I" } : Jvm.MethodName), prog_1_method_8_code, 2, (Option.some Jvm.ClassFile.FieldType.int), 1, 412)
/-- CodeSmith.assemble()I -/
def ab_c15 : List ab_I := [(0, .aload_n 0, 1, 0, 0), (1, .getfield 37, 3, 5, 1), (4, .istore_n 1, 1, 0, 0), (5, .aload_n 0, 1, 0, 0), (6, .iconst 0, 1, 0, 0), (7, .putfield 37, 3, 5, 1), (10, .aload_n 0, 1, 0, 0), (11, .getfield 19, 3, 5, 2), (14, .aload_n 0, 1, 0, 0), (15, .getfield 7, 3, 5, 0), (18, .iload_n 1, 1, 0, 0), (19, .invokevirtual 58, 3, 16, 2), (22, .aload_n 0, 1, 0, 0), (23, .getfield 33, 3, 5, 3), (26, .aload_n 0, 1, 0, 0), (27, .getfield 7, 3, 5, 0), (30, .invokevirtual 62, 3, 18, 1), (33, .iconst 0, 1, 0, 0), (34, .istore_n 2, 1, 0, 0), (35, .iload_n 2, 1, 0, 0), (36, .ldc 41, 2, 65536, 0), (38, .if_icmp .ge 26, 3, 64, 0), (41, .aload_n 0, 1, 0, 0), (42, .getfield 19, 3, 5, 2), (45, .invokevirtual 66, 3, 22, 0), (48, .ifCond .eq 16, 3, 64, 0), (51, .aload_n 0, 1, 0, 0), (52, .getfield 33, 3, 5, 3), (55, .invokevirtual 70, 3, 42, 0), (58, .iinc 2 1, 3, 0, 0), (61, .goto (-26), 3, 35, 0), (64, .aload_n 0, 1, 0, 0), (65, .getfield 19, 3, 5, 2), (68, .invokevirtual 73, 3, 17, 0), (71, .aload_n 0, 1, 0, 0), (72, .getfield 33, 3, 5, 3), (75, .invokevirtual 76, 3, 102, 0), (78, .iconst 0, 1, 0, 0), (79, .istore_n 2, 1, 0, 0), (80, .iload_n 2, 1, 0, 0), (81, .ldc 41, 2, 65536, 0), (83, .if_icmp .ge 26, 3, 109, 0), (86, .aload_n 0, 1, 0, 0), (87, .getfield 19, 3, 5, 2), (90, .invokevirtual 66, 3, 22, 0), (93, .ifCond .eq 16, 3, 109, 0), (96, .aload_n 0, 1, 0, 0), (97, .getfield 33, 3, 5, 3), (100, .invokevirtual 70, 3, 42, 0), (103, .iinc 2 1, 3, 0, 0), (106, .goto (-26), 3, 80, 0), (109, .aload_n 0, 1, 0, 0), (110, .getfield 33, 3, 5, 3), (113, .invokevirtual 79, 3, 105, 0), (116, .ireturn, 1, 0, 0)]
abbrev ab_m15 : ab_M := (0, ({ cls := "CodeSmith", name := "assemble", desc := "()I" } : Jvm.MethodName), prog_1_method_5_code, 3, (Option.some Jvm.ClassFile.FieldType.int), 0, 420)
def ab_pr0 : List (ab_M × List ab_I) := [(ab_m0, ab_c0), (ab_m1, ab_c1), (ab_m2, ab_c2), (ab_m3, ab_c3), (ab_m4, ab_c4), (ab_m5, ab_c5), (ab_m6, ab_c6), (ab_m7, ab_c7), (ab_m8, ab_c8), (ab_m9, ab_c9), (ab_m10, ab_c10), (ab_m11, ab_c11), (ab_m12, ab_c12), (ab_m13, ab_c13), (ab_m14, ab_c14), (ab_m15, ab_c15)]
set_option maxRecDepth 1000000 in
theorem ab_pr0_ok : ab_pr0.all ab_mok = true := sorry

/-- CodeSmith$Tokens.open([BI)V -/
def ab_c16 : List ab_I := [(0, .aload_n 0, 1, 0, 0), (1, .aload_n 1, 1, 0, 0), (2, .putfield 9, 3, 4, 7), (5, .aload_n 0, 1, 0, 0), (6, .iload_n 2, 1, 0, 0), (7, .aload_n 1, 1, 0, 0), (8, .arraylength, 1, 0, 0), (9, .invokestatic 25, 3, 997, 2), (12, .putfield 31, 3, 4, 8), (15, .aload_n 0, 1, 0, 0), (16, .iconst 0, 1, 0, 0), (17, .putfield 35, 3, 4, 0), (20, .aload_n 0, 1, 0, 0), (21, .iconst 0, 1, 0, 0), (22, .putfield 38, 3, 4, 1), (25, .aload_n 0, 1, 0, 0), (26, .iconst 0, 1, 0, 0), (27, .putfield 41, 3, 4, 2), (30, .aload_n 0, 1, 0, 0), (31, .invokevirtual 44, 3, 17, 0), (34, .return_, 1, 0, 0)]
abbrev ab_m16 : ab_M := (2, ({ cls := "CodeSmith$Tokens", name := "open", desc := "([BI)V" } : Jvm.MethodName), prog_7_method_2_code, 3, (Option.none : Option Jvm.ClassFile.FieldType), 2, 424)
/-- CodeSmith$Tokens.rewind()V -/
def ab_c17 : List ab_I := [(0, .aload_n 0, 1, 0, 0), (1, .iconst 0, 1, 0, 0), (2, .putfield 47, 3, 4, 6), (5, .aload_n 0, 1, 0, 0), (6, .iconst (-1), 1, 0, 0), (7, .putfield 50, 3, 4, 10), (10, .return_, 1, 0, 0)]
abbrev ab_m17 : ab_M := (2, ({ cls := "CodeSmith$Tokens", name := "rewind", desc := "()V" } : Jvm.MethodName), prog_7_method_3_code, 1, (Option.none : Option Jvm.ClassFile.FieldType), 0, 429)
/-- CodeSmith$Assembler.begin([B)V -/
def ab_c18 : List ab_I := [(0, .aload_n 0, 1, 0, 0), (1, .getfield 25, 3, 0, 3), (4, .aload_n 1, 1, 0, 0), (5, .invokevirtual 33, 3, 19, 1), (8, .aload_n 0, 1, 0, 0), (9, .iconst (-1), 1, 0, 0), (10, .putfield 39, 3, 0, 9), (13, .aload_n 0, 1, 0, 0), (14, .iconst 0, 1, 0, 0), (15, .putfield 43, 3, 0, 5), (18, .aload_n 0, 1, 0, 0), (19, .getfield 29, 3, 0, 4), (22, .iconst 0, 1, 0, 0), (23, .putfield 47, 3, 1, 2), (26, .aload_n 0, 1, 0, 0), (27, .invokevirtual 52, 3, 21, 0), (30, .return_, 1, 0, 0)]
abbrev ab_m18 : ab_M := (4, ({ cls := "CodeSmith$Assembler", name := "begin", desc := "([B)V" } : Jvm.MethodName), prog_2_method_2_code, 2, (Option.none : Option Jvm.ClassFile.FieldType), 1, 433)
/-- CodeSmith$Symbols.clear([B)V -/
def ab_c19 : List ab_I := [(0, .aload_n 0, 1, 0, 0), (1, .aload_n 1, 1, 0, 0), (2, .putfield 9, 3, 3, 1), (5, .aload_n 0, 1, 0, 0), (6, .iconst 0, 1, 0, 0), (7, .putfield 37, 3, 3, 0), (10, .aload_n 0, 1, 0, 0), (11, .getfield 15, 3, 3, 2), (14, .iconst (-1), 1, 0, 0), (15, .invokestatic 41, 3, 20, 2), (18, .return_, 1, 0, 0)]
abbrev ab_m19 : ab_M := (1, ({ cls := "CodeSmith$Symbols", name := "clear", desc := "([B)V" } : Jvm.MethodName), prog_6_method_2_code, 2, (Option.none : Option Jvm.ClassFile.FieldType), 1, 437)
/-- java/util/Arrays.fill([II)V -/
def ab_c20 : List ab_I := [(0, .iconst 0, 1, 0, 0), (1, .istore_n 2, 1, 0, 0), (2, .aload_n 0, 1, 0, 0), (3, .arraylength, 1, 0, 0), (4, .istore_n 3, 1, 0, 0), (5, .iload_n 2, 1, 0, 0), (6, .iload_n 3, 1, 0, 0), (7, .if_icmp .ge 13, 3, 20, 0), (10, .aload_n 0, 1, 0, 0), (11, .iload_n 2, 1, 0, 0), (12, .iload_n 1, 1, 0, 0), (13, .iastore, 1, 0, 0), (14, .iinc 2 1, 3, 0, 0), (17, .goto (-12), 3, 5, 0), (20, .return_, 1, 0, 0)]
abbrev ab_m20 : ab_M := (6, ({ cls := "java/util/Arrays", name := "fill", desc := "([II)V" } : Jvm.MethodName), prog_22_method_103_code, 4, (Option.none : Option Jvm.ClassFile.FieldType), 2, 440)
/-- CodeSmith$Assembler.toSectionsBegin()V -/
def ab_c21 : List ab_I := [(0, .aload_n 0, 1, 0, 0), (1, .iconst 0, 1, 0, 0), (2, .putfield 147, 3, 0, 6), (5, .aload_n 0, 1, 0, 0), (6, .iconst 0, 1, 0, 0), (7, .putfield 55, 3, 0, 7), (10, .aload_n 0, 1, 0, 0), (11, .iconst 0, 1, 0, 0), (12, .putfield 58, 3, 0, 8), (15, .return_, 1, 0, 0)]
abbrev ab_m21 : ab_M := (4, ({ cls := "CodeSmith$Assembler", name := "toSectionsBegin", desc := "()V" } : Jvm.MethodName), prog_2_method_6_code, 1, (Option.none : Option Jvm.ClassFile.FieldType), 0, 444)
/-- CodeSmith$Tokens.toNextLine()Z -/
def ab_c22 : List ab_I := [(0, .aload_n 0, 1, 0, 0), (1, .aload_n 0, 1, 0, 0), (2, .getfield 50, 3, 4, 10), (5, .iconst 1, 1, 0, 0), (6, .iadd, 1, 0, 0), (7, .putfield 53, 3, 4, 9), (10, .aload_n 0, 1, 0, 0), (11, .getfield 53, 3, 4, 9), (14, .aload_n 0, 1, 0, 0), (15, .getfield 31, 3, 4, 8), (18, .if_icmp .lt 5, 3, 23, 0), (21, .iconst 0, 1, 0, 0), (22, .ireturn, 1, 0, 0), (23, .aload_n 0, 1, 0, 0), (24, .aload_n 0, 1, 0, 0), (25, .getfield 53, 3, 4, 9), (28, .putfield 50, 3, 4, 10), (31, .aload_n 0, 1, 0, 0), (32, .getfield 50, 3, 4, 10), (35, .aload_n 0, 1, 0, 0), (36, .getfield 31, 3, 4, 8), (39, .if_icmp .ge 30, 3, 69, 0), (42, .aload_n 0, 1, 0, 0), (43, .getfield 9, 3, 4, 7), (46, .aload_n 0, 1, 0, 0), (47, .getfield 50, 3, 4, 10), (50, .baload, 1, 0, 0), (51, .bipush 10, 2, 0, 0), (53, .if_icmp .eq 16, 3, 69, 0), (56, .aload_n 0, 1, 0, 0), (57, .dup, 1, 0, 0), (58, .getfield 50, 3, 4, 10), (61, .iconst 1, 1, 0, 0), (62, .iadd, 1, 0, 0), (63, .putfield 50, 3, 4, 10), (66, .goto (-35), 3, 31, 0), (69, .aload_n 0, 1, 0, 0), (70, .dup, 1, 0, 0), (71, .getfield 47, 3, 4, 6), (74, .iconst 1, 1, 0, 0), (75, .iadd, 1, 0, 0), (76, .putfield 47, 3, 4, 6), (79, .aload_n 0, 1, 0, 0), (80, .invokevirtual 56, 3, 23, 0), (83, .aload_n 0, 1, 0, 0), (84, .iconst (-1), 1, 0, 0), (85, .putfield 59, 3, 4, 15), (88, .aload_n 0, 1, 0, 0), (89, .invokevirtual 62, 3, 41, 0), (92, .iconst 1, 1, 0, 0), (93, .ireturn, 1, 0, 0)]
abbrev ab_m22 : ab_M := (2, ({ cls := "CodeSmith$Tokens", name := "toNextLine", desc := "()Z" } : Jvm.MethodName), prog_7_method_4_code, 1, (Option.some Jvm.ClassFile.FieldType.boolean), 0, 448)
/-- CodeSmith$Tokens.splitLine()V -/
def ab_c23 : List ab_I := [(0, .aload_n 0, 1, 0, 0), (1, .aload_n 0, 1, 0, 0), (2, .getfield 50, 3, 4, 10), (5, .aload_n 0, 1, 0, 0), (6, .getfield 53, 3, 4, 9), (9, .isub, 1, 0, 0), (10, .iconst 1, 1, 0, 0), (11, .iadd, 1, 0, 0), (12, .invokevirtual 125, 3, 24, 1), (15, .aload_n 0, 1, 0, 0), (16, .iconst 0, 1, 0, 0), (17, .putfield 88, 3, 4, 14), (20, .aload_n 0, 1, 0, 0), (21, .iconst (-1), 1, 0, 0), (22, .putfield 82, 3, 4, 16), (25, .aload_n 0, 1, 0, 0), (26, .getfield 53, 3, 4, 9), (29, .istore_n 1, 1, 0, 0), (30, .aload_n 0, 1, 0, 0), (31, .getfield 53, 3, 4, 9), (34, .istore_n 2, 1, 0, 0), (35, .iload_n 2, 1, 0, 0), (36, .aload_n 0, 1, 0, 0), (37, .getfield 50, 3, 4, 10), (40, .if_icmp .ge 71, 3, 111, 0), (43, .iload_n 1, 1, 0, 0), (44, .aload_n 0, 1, 0, 0), (45, .getfield 50, 3, 4, 10), (48, .if_icmp .ge 63, 3, 111, 0), (51, .aload_n 0, 1, 0, 0), (52, .getfield 82, 3, 4, 16), (55, .iconst (-1), 1, 0, 0), (56, .if_icmp .ne 55, 3, 111, 0), (59, .aload_n 0, 1, 0, 0), (60, .iload_n 1, 1, 0, 0), (61, .invokevirtual 100, 3, 25, 1), (64, .istore_n 3, 1, 0, 0), (65, .iload_n 3, 1, 0, 0), (66, .bipush 35, 2, 0, 0), (68, .if_icmp .ne 6, 3, 74, 0), (71, .goto 40, 3, 111, 0), (74, .iload_n 3, 1, 0, 0), (75, .bipush 32, 2, 0, 0), (77, .if_icmp .eq 15, 3, 92, 0), (80, .iload_n 3, 1, 0, 0), (81, .bipush 9, 2, 0, 0), (83, .if_icmp .eq 9, 3, 92, 0), (86, .iload_n 3, 1, 0, 0), (87, .bipush 13, 2, 0, 0), (89, .if_icmp .ne 9, 3, 98, 0), (92, .iinc 1 1, 3, 0, 0), (95, .goto 10, 3, 105, 0), (98, .aload_n 0, 1, 0, 0), (99, .iload_n 1, 1, 0, 0), (100, .iload_n 3, 1, 0, 0), (101, .invokevirtual 129, 3, 26, 2), (104, .istore_n 1, 1, 0, 0), (105, .iinc 2 1, 3, 0, 0), (108, .goto (-73), 3, 35, 0), (111, .aload_n 0, 1, 0, 0), (112, .iconst 0, 1, 0, 0), (113, .iload_n 1, 1, 0, 0), (114, .iconst 0, 1, 0, 0), (115, .invokevirtual 132, 3, 30, 3), (118, .return_, 1, 0, 0)]
abbrev ab_m23 : ab_M := (2, ({ cls := "CodeSmith$Tokens", name := "splitLine", desc := "()V" } : Jvm.MethodName), prog_7_method_15_code, 4, (Option.none : Option Jvm.ClassFile.FieldType), 0, 452)
/-- CodeSmith$Tokens.makeRoom(I)V -/
def ab_c24 : List ab_I := [(0, .iload_n 1, 1, 0, 0), (1, .aload_n 0, 1, 0, 0), (2, .getfield 15, 3, 4, 11), (5, .arraylength, 1, 0, 0), (6, .if_icmp .le 36, 3, 42, 0), (9, .iload_n 1, 1, 0, 0), (10, .aload_n 0, 1, 0, 0), (11, .getfield 15, 3, 4, 11), (14, .arraylength, 1, 0, 0), (15, .iconst 2, 1, 0, 0), (16, .imul, 1, 0, 0), (17, .invokestatic 136, 3, 996, 2), (20, .istore_n 2, 1, 0, 0), (21, .aload_n 0, 1, 0, 0), (22, .iload_n 2, 1, 0, 0), (23, .newarray .int, 2, 0, 0), (25, .putfield 15, 3, 4, 11), (28, .aload_n 0, 1, 0, 0), (29, .iload_n 2, 1, 0, 0), (30, .newarray .int, 2, 0, 0), (32, .putfield 19, 3, 4, 12), (35, .aload_n 0, 1, 0, 0), (36, .iload_n 2, 1, 0, 0), (37, .newarray .int, 2, 0, 0), (39, .putfield 22, 3, 4, 13), (42, .return_, 1, 0, 0)]
abbrev ab_m24 : ab_M := (2, ({ cls := "CodeSmith$Tokens", name := "makeRoom", desc := "(I)V" } : Jvm.MethodName), prog_7_method_16_code, 3, (Option.none : Option Jvm.ClassFile.FieldType), 1, 456)
/-- CodeSmith$Tokens.byteAt(I)I -/
def ab_c25 : List ab_I := [(0, .iload_n 1, 1, 0, 0), (1, .aload_n 0, 1, 0, 0), (2, .getfield 53, 3, 4, 9), (5, .if_icmp .lt 33, 3, 38, 0), (8, .iload_n 1, 1, 0, 0), (9, .aload_n 0, 1, 0, 0), (10, .getfield 50, 3, 4, 10), (13, .if_icmp .ge 25, 3, 38, 0), (16, .iload_n 1, 1, 0, 0), (17, .aload_n 0, 1, 0, 0), (18, .getfield 9, 3, 4, 7), (21, .arraylength, 1, 0, 0), (22, .if_icmp .ge 16, 3, 38, 0), (25, .aload_n 0, 1, 0, 0), (26, .getfield 9, 3, 4, 7), (29, .iload_n 1, 1, 0, 0), (30, .baload, 1, 0, 0), (31, .sipush 255, 3, 0, 0), (34, .iand, 1, 0, 0), (35, .goto 4, 3, 39, 0), (38, .iconst (-1), 1, 0, 0), (39, .ireturn, 1, 0, 0)]
abbrev ab_m25 : ab_M := (2, ({ cls := "CodeSmith$Tokens", name := "byteAt", desc := "(I)I" } : Jvm.MethodName), prog_7_method_14_code, 2, (Option.some Jvm.ClassFile.FieldType.int), 1, 463)
/-- CodeSmith$Tokens.splitToken(II)I -/
def ab_c26 : List ab_I := [(0, .iload_n 2, 1, 0, 0), (1, .invokestatic 139, 3, 27, 1), (4, .ifCond .eq 35, 3, 39, 0), (7, .iload_n 2, 1, 0, 0), (8, .invokestatic 143, 3, 28, 1), (11, .ifCond .ne 28, 3, 39, 0), (14, .iload_n 2, 1, 0, 0), (15, .bipush 46, 2, 0, 0), (17, .if_icmp .ne 16, 3, 33, 0), (20, .aload_n 0, 1, 0, 0), (21, .iload_n 1, 1, 0, 0), (22, .iconst 1, 1, 0, 0), (23, .iadd, 1, 0, 0), (24, .invokevirtual 100, 3, 25, 1), (27, .invokestatic 139, 3, 27, 1), (30, .ifCond .eq 9, 3, 39, 0), (33, .aload_n 0, 1, 0, 0), (34, .iload_n 1, 1, 0, 0), (35, .invokevirtual 146, 3, 29, 1), (38, .ireturn, 1, 0, 0), (39, .iload_n 2, 1, 0, 0), (40, .invokestatic 143, 3, 28, 1), (43, .ifCond .eq 35, 3, 78, 0), (46, .iload_n 2, 1, 0, 0), (47, .bipush 48, 2, 0, 0), (49, .if_icmp .ne 23, 3, 72, 0), (52, .aload_n 0, 1, 0, 0), (53, .iload_n 1, 1, 0, 0), (54, .iconst 1, 1, 0, 0), (55, .iadd, 1, 0, 0), (56, .invokevirtual 100, 3, 25, 1), (59, .bipush 120, 2, 0, 0), (61, .if_icmp .ne 11, 3, 72, 0), (64, .aload_n 0, 1, 0, 0), (65, .iload_n 1, 1, 0, 0), (66, .invokevirtual 149, 3, 32, 1), (69, .goto 8, 3, 77, 0), (72, .aload_n 0, 1, 0, 0), (73, .iload_n 1, 1, 0, 0), (74, .invokevirtual 152, 3, 34, 1), (77, .ireturn, 1, 0, 0), (78, .iload_n 2, 1, 0, 0), (79, .bipush 39, 2, 0, 0), (81, .if_icmp .ne 9, 3, 90, 0), (84, .aload_n 0, 1, 0, 0), (85, .iload_n 1, 1, 0, 0), (86, .invokevirtual 155, 3, 35, 1), (89, .ireturn, 1, 0, 0), (90, .iload_n 2, 1, 0, 0), (91, .bipush 34, 2, 0, 0), (93, .if_icmp .ne 9, 3, 102, 0), (96, .aload_n 0, 1, 0, 0), (97, .iload_n 1, 1, 0, 0), (98, .invokevirtual 158, 3, 39, 1), (101, .ireturn, 1, 0, 0), (102, .iload_n 2, 1, 0, 0), (103, .bipush 60, 2, 0, 0), (105, .if_icmp .eq 9, 3, 114, 0), (108, .iload_n 2, 1, 0, 0), (109, .bipush 62, 2, 0, 0), (111, .if_icmp .ne 32, 3, 143, 0), (114, .aload_n 0, 1, 0, 0), (115, .iload_n 2, 1, 0, 0), (116, .iload_n 1, 1, 0, 0), (117, .iconst 0, 1, 0, 0), (118, .invokevirtual 132, 3, 30, 3), (121, .aload_n 0, 1, 0, 0), (122, .iload_n 1, 1, 0, 0), (123, .iconst 1, 1, 0, 0), (124, .iadd, 1, 0, 0), (125, .invokevirtual 100, 3, 25, 1), (128, .iload_n 2, 1, 0, 0), (129, .if_icmp .eq 10, 3, 139, 0), (132, .aload_n 0, 1, 0, 0), (133, .iload_n 1, 1, 0, 0), (134, .iconst 1, 1, 0, 0), (135, .iadd, 1, 0, 0), (136, .invokevirtual 161, 3, 31, 1), (139, .iload_n 1, 1, 0, 0), (140, .iconst 2, 1, 0, 0), (141, .iadd, 1, 0, 0), (142, .ireturn, 1, 0, 0), (143, .aload_n 0, 1, 0, 0), (144, .iload_n 2, 1, 0, 0), (145, .invokestatic 164, 3, 40, 1), (148, .ifCond .eq 7, 3, 155, 0), (151, .iload_n 2, 1, 0, 0), (152, .goto 4, 3, 156, 0), (155, .iconst 4, 1, 0, 0), (156, .iload_n 1, 1, 0, 0), (157, .iconst 0, 1, 0, 0), (158, .invokevirtual 132, 3, 30, 3), (161, .iload_n 1, 1, 0, 0), (162, .iconst 1, 1, 0, 0), (163, .iadd, 1, 0, 0), (164, .ireturn, 1, 0, 0)]
abbrev ab_m26 : ab_M := (2, ({ cls := "CodeSmith$Tokens", name := "splitToken", desc := "(II)I" } : Jvm.MethodName), prog_7_method_19_code, 3, (Option.some Jvm.ClassFile.FieldType.int), 2, 467)
def ab_pr1 : List (ab_M × List ab_I) := [(ab_m16, ab_c16), (ab_m17, ab_c17), (ab_m18, ab_c18), (ab_m19, ab_c19), (ab_m20, ab_c20), (ab_m21, ab_c21), (ab_m22, ab_c22), (ab_m23, ab_c23), (ab_m24, ab_c24), (ab_m25, ab_c25), (ab_m26, ab_c26)]
set_option maxRecDepth 1000000 in
theorem ab_pr1_ok : ab_pr1.all ab_mok = true := sorry

/-- CodeSmith$Tokens.isOfName(I)Z -/
def ab_c27 : List ab_I := [(0, .iload_n 0, 1, 0, 0), (1, .bipush 97, 2, 0, 0), (3, .if_icmp .lt 9, 3, 12, 0), (6, .iload_n 0, 1, 0, 0), (7, .bipush 122, 2, 0, 0), (9, .if_icmp .le 39, 3, 48, 0), (12, .iload_n 0, 1, 0, 0), (13, .bipush 65, 2, 0, 0), (15, .if_icmp .lt 9, 3, 24, 0), (18, .iload_n 0, 1, 0, 0), (19, .bipush 90, 2, 0, 0), (21, .if_icmp .le 27, 3, 48, 0), (24, .iload_n 0, 1, 0, 0), (25, .bipush 48, 2, 0, 0), (27, .if_icmp .lt 9, 3, 36, 0), (30, .iload_n 0, 1, 0, 0), (31, .bipush 57, 2, 0, 0), (33, .if_icmp .le 15, 3, 48, 0), (36, .iload_n 0, 1, 0, 0), (37, .bipush 95, 2, 0, 0), (39, .if_icmp .eq 9, 3, 48, 0), (42, .iload_n 0, 1, 0, 0), (43, .bipush 46, 2, 0, 0), (45, .if_icmp .ne 7, 3, 52, 0), (48, .iconst 1, 1, 0, 0), (49, .goto 4, 3, 53, 0), (52, .iconst 0, 1, 0, 0), (53, .ireturn, 1, 0, 0)]
abbrev ab_m27 : ab_M := (2, ({ cls := "CodeSmith$Tokens", name := "isOfName", desc := "(I)Z" } : Jvm.MethodName), prog_7_method_28_code, 1, (Option.some Jvm.ClassFile.FieldType.boolean), 1, 470)
/-- CodeSmith$Tokens.isDigit(I)Z -/
def ab_c28 : List ab_I := [(0, .iload_n 0, 1, 0, 0), (1, .bipush 48, 2, 0, 0), (3, .if_icmp .lt 13, 3, 16, 0), (6, .iload_n 0, 1, 0, 0), (7, .bipush 57, 2, 0, 0), (9, .if_icmp .gt 7, 3, 16, 0), (12, .iconst 1, 1, 0, 0), (13, .goto 4, 3, 17, 0), (16, .iconst 0, 1, 0, 0), (17, .ireturn, 1, 0, 0)]
abbrev ab_m28 : ab_M := (2, ({ cls := "CodeSmith$Tokens", name := "isDigit", desc := "(I)Z" } : Jvm.MethodName), prog_7_method_27_code, 1, (Option.some Jvm.ClassFile.FieldType.boolean), 1, 473)
/-- CodeSmith$Tokens.splitName(I)I -/
def ab_c29 : List ab_I := [(0, .iload_n 1, 1, 0, 0), (1, .istore_n 2, 1, 0, 0), (2, .iload_n 2, 1, 0, 0), (3, .aload_n 0, 1, 0, 0), (4, .getfield 50, 3, 4, 10), (7, .if_icmp .ge 20, 3, 27, 0), (10, .aload_n 0, 1, 0, 0), (11, .iload_n 2, 1, 0, 0), (12, .invokevirtual 100, 3, 25, 1), (15, .invokestatic 139, 3, 27, 1), (18, .ifCond .eq 9, 3, 27, 0), (21, .iinc 2 1, 3, 0, 0), (24, .goto (-22), 3, 2, 0), (27, .aload_n 0, 1, 0, 0), (28, .iconst 1, 1, 0, 0), (29, .iload_n 1, 1, 0, 0), (30, .iload_n 2, 1, 0, 0), (31, .iload_n 1, 1, 0, 0), (32, .isub, 1, 0, 0), (33, .invokevirtual 132, 3, 30, 3), (36, .iload_n 2, 1, 0, 0), (37, .iload_n 1, 1, 0, 0), (38, .isub, 1, 0, 0), (39, .bipush 32, 2, 0, 0), (41, .if_icmp .le 11, 3, 52, 0), (44, .aload_n 0, 1, 0, 0), (45, .iload_n 1, 1, 0, 0), (46, .bipush 32, 2, 0, 0), (48, .iadd, 1, 0, 0), (49, .invokevirtual 161, 3, 31, 1), (52, .iload_n 2, 1, 0, 0), (53, .ireturn, 1, 0, 0)]
abbrev ab_m29 : ab_M := (2, ({ cls := "CodeSmith$Tokens", name := "splitName", desc := "(I)I" } : Jvm.MethodName), prog_7_method_20_code, 3, (Option.some Jvm.ClassFile.FieldType.int), 1, 477)
/-- CodeSmith$Tokens.add(III)V -/
def ab_c30 : List ab_I := [(0, .aload_n 0, 1, 0, 0), (1, .getfield 88, 3, 4, 14), (4, .aload_n 0, 1, 0, 0), (5, .getfield 15, 3, 4, 11), (8, .arraylength, 1, 0, 0), (9, .if_icmp .ge 43, 3, 52, 0), (12, .aload_n 0, 1, 0, 0), (13, .getfield 15, 3, 4, 11), (16, .aload_n 0, 1, 0, 0), (17, .getfield 88, 3, 4, 14), (20, .iload_n 1, 1, 0, 0), (21, .iastore, 1, 0, 0), (22, .aload_n 0, 1, 0, 0), (23, .getfield 19, 3, 4, 12), (26, .aload_n 0, 1, 0, 0), (27, .getfield 88, 3, 4, 14), (30, .iload_n 2, 1, 0, 0), (31, .iastore, 1, 0, 0), (32, .aload_n 0, 1, 0, 0), (33, .getfield 22, 3, 4, 13), (36, .aload_n 0, 1, 0, 0), (37, .getfield 88, 3, 4, 14), (40, .iload_n 3, 1, 0, 0), (41, .iastore, 1, 0, 0), (42, .aload_n 0, 1, 0, 0), (43, .dup, 1, 0, 0), (44, .getfield 88, 3, 4, 14), (47, .iconst 1, 1, 0, 0), (48, .iadd, 1, 0, 0), (49, .putfield 88, 3, 4, 14), (52, .return_, 1, 0, 0)]
abbrev ab_m30 : ab_M := (2, ({ cls := "CodeSmith$Tokens", name := "add", desc := "(III)V" } : Jvm.MethodName), prog_7_method_17_code, 4, (Option.none : Option Jvm.ClassFile.FieldType), 3, 481)
/-- CodeSmith$Tokens.spoil(I)V -/
def ab_c31 : List ab_I := [(0, .aload_n 0, 1, 0, 0), (1, .aload_n 0, 1, 0, 0), (2, .getfield 88, 3, 4, 14), (5, .iconst 1, 1, 0, 0), (6, .isub, 1, 0, 0), (7, .putfield 82, 3, 4, 16), (10, .aload_n 0, 1, 0, 0), (11, .iload_n 1, 1, 0, 0), (12, .putfield 85, 3, 4, 17), (15, .return_, 1, 0, 0)]
abbrev ab_m31 : ab_M := (2, ({ cls := "CodeSmith$Tokens", name := "spoil", desc := "(I)V" } : Jvm.MethodName), prog_7_method_18_code, 2, (Option.none : Option Jvm.ClassFile.FieldType), 1, 485)
/-- CodeSmith$Tokens.splitHex(I)I -/
def ab_c32 : List ab_I := [(0, .iconst 0, 1, 0, 0), (1, .istore_n 2, 1, 0, 0), (2, .iload_n 1, 1, 0, 0), (3, .iconst 2, 1, 0, 0), (4, .iadd, 1, 0, 0), (5, .istore_n 3, 1, 0, 0), (6, .iload_n 3, 1, 0, 0), (7, .aload_n 0, 1, 0, 0), (8, .getfield 50, 3, 4, 10), (11, .if_icmp .ge 34, 3, 45, 0), (14, .aload_n 0, 1, 0, 0), (15, .iload_n 3, 1, 0, 0), (16, .invokevirtual 100, 3, 25, 1), (19, .invokestatic 167, 3, 33, 1), (22, .iconst (-1), 1, 0, 0), (23, .if_icmp .eq 22, 3, 45, 0), (26, .iload_n 2, 1, 0, 0), (27, .iconst 4, 1, 0, 0), (28, .ishl, 1, 0, 0), (29, .aload_n 0, 1, 0, 0), (30, .iload_n 3, 1, 0, 0), (31, .invokevirtual 100, 3, 25, 1), (34, .invokestatic 167, 3, 33, 1), (37, .ior, 1, 0, 0), (38, .istore_n 2, 1, 0, 0), (39, .iinc 3 1, 3, 0, 0), (42, .goto (-36), 3, 6, 0), (45, .aload_n 0, 1, 0, 0), (46, .iconst 2, 1, 0, 0), (47, .iload_n 1, 1, 0, 0), (48, .iload_n 2, 1, 0, 0), (49, .invokevirtual 132, 3, 30, 3), (52, .iload_n 3, 1, 0, 0), (53, .iload_n 1, 1, 0, 0), (54, .iconst 2, 1, 0, 0), (55, .iadd, 1, 0, 0), (56, .if_icmp .ne 8, 3, 64, 0), (59, .aload_n 0, 1, 0, 0), (60, .iload_n 3, 1, 0, 0), (61, .invokevirtual 161, 3, 31, 1), (64, .iload_n 3, 1, 0, 0), (65, .ireturn, 1, 0, 0)]
abbrev ab_m32 : ab_M := (2, ({ cls := "CodeSmith$Tokens", name := "splitHex", desc := "(I)I" } : Jvm.MethodName), prog_7_method_22_code, 4, (Option.some Jvm.ClassFile.FieldType.int), 1, 489)
/-- CodeSmith$Tokens.hexDigit(I)I -/
def ab_c33 : List ab_I := [(0, .iload_n 0, 1, 0, 0), (1, .bipush 48, 2, 0, 0), (3, .if_icmp .lt 14, 3, 17, 0), (6, .iload_n 0, 1, 0, 0), (7, .bipush 57, 2, 0, 0), (9, .if_icmp .gt 8, 3, 17, 0), (12, .iload_n 0, 1, 0, 0), (13, .bipush 48, 2, 0, 0), (15, .isub, 1, 0, 0), (16, .ireturn, 1, 0, 0), (17, .iload_n 0, 1, 0, 0), (18, .bipush 97, 2, 0, 0), (20, .if_icmp .lt 17, 3, 37, 0), (23, .iload_n 0, 1, 0, 0), (24, .bipush 102, 2, 0, 0), (26, .if_icmp .gt 11, 3, 37, 0), (29, .iload_n 0, 1, 0, 0), (30, .bipush 97, 2, 0, 0), (32, .isub, 1, 0, 0), (33, .bipush 10, 2, 0, 0), (35, .iadd, 1, 0, 0), (36, .ireturn, 1, 0, 0), (37, .iload_n 0, 1, 0, 0), (38, .bipush 65, 2, 0, 0), (40, .if_icmp .lt 19, 3, 59, 0), (43, .iload_n 0, 1, 0, 0), (44, .bipush 70, 2, 0, 0), (46, .if_icmp .gt 13, 3, 59, 0), (49, .iload_n 0, 1, 0, 0), (50, .bipush 65, 2, 0, 0), (52, .isub, 1, 0, 0), (53, .bipush 10, 2, 0, 0), (55, .iadd, 1, 0, 0), (56, .goto 4, 3, 60, 0), (59, .iconst (-1), 1, 0, 0), (60, .ireturn, 1, 0, 0)]
abbrev ab_m33 : ab_M := (2, ({ cls := "CodeSmith$Tokens", name := "hexDigit", desc := "(I)I" } : Jvm.MethodName), prog_7_method_29_code, 1, (Option.some Jvm.ClassFile.FieldType.int), 1, 492)
/-- CodeSmith$Tokens.splitDecimal(I)I -/
def ab_c34 : List ab_I := [(0, .iconst 0, 1, 0, 0), (1, .istore_n 2, 1, 0, 0), (2, .iload_n 1, 1, 0, 0), (3, .istore_n 3, 1, 0, 0), (4, .iload_n 3, 1, 0, 0), (5, .aload_n 0, 1, 0, 0), (6, .getfield 50, 3, 4, 10), (9, .if_icmp .ge 34, 3, 43, 0), (12, .aload_n 0, 1, 0, 0), (13, .iload_n 3, 1, 0, 0), (14, .invokevirtual 100, 3, 25, 1), (17, .invokestatic 143, 3, 28, 1), (20, .ifCond .eq 23, 3, 43, 0), (23, .iload_n 2, 1, 0, 0), (24, .bipush 10, 2, 0, 0), (26, .imul, 1, 0, 0), (27, .aload_n 0, 1, 0, 0), (28, .iload_n 3, 1, 0, 0), (29, .invokevirtual 100, 3, 25, 1), (32, .bipush 48, 2, 0, 0), (34, .isub, 1, 0, 0), (35, .iadd, 1, 0, 0), (36, .istore_n 2, 1, 0, 0), (37, .iinc 3 1, 3, 0, 0), (40, .goto (-36), 3, 4, 0), (43, .aload_n 0, 1, 0, 0), (44, .iconst 2, 1, 0, 0), (45, .iload_n 1, 1, 0, 0), (46, .iload_n 2, 1, 0, 0), (47, .invokevirtual 132, 3, 30, 3), (50, .iload_n 3, 1, 0, 0), (51, .ireturn, 1, 0, 0)]
abbrev ab_m34 : ab_M := (2, ({ cls := "CodeSmith$Tokens", name := "splitDecimal", desc := "(I)I" } : Jvm.MethodName), prog_7_method_21_code, 4, (Option.some Jvm.ClassFile.FieldType.int), 1, 496)
/-- CodeSmith$Tokens.splitCharacter(I)I -/
def ab_c35 : List ab_I := [(0, .aload_n 0, 1, 0, 0), (1, .iload_n 1, 1, 0, 0), (2, .iconst 1, 1, 0, 0), (3, .iadd, 1, 0, 0), (4, .bipush 39, 2, 0, 0), (6, .invokevirtual 170, 3, 36, 2), (9, .istore_n 2, 1, 0, 0), (10, .iload_n 1, 1, 0, 0), (11, .iconst 1, 1, 0, 0), (12, .iadd, 1, 0, 0), (13, .aload_n 0, 1, 0, 0), (14, .iload_n 1, 1, 0, 0), (15, .iconst 1, 1, 0, 0), (16, .iadd, 1, 0, 0), (17, .invokevirtual 173, 3, 38, 1), (20, .iadd, 1, 0, 0), (21, .istore_n 3, 1, 0, 0), (22, .aload_n 0, 1, 0, 0), (23, .iconst 2, 1, 0, 0), (24, .iload_n 1, 1, 0, 0), (25, .iload_n 2, 1, 0, 0), (26, .invokevirtual 132, 3, 30, 3), (29, .iload_n 2, 1, 0, 0), (30, .iconst (-1), 1, 0, 0), (31, .if_icmp .ne 13, 3, 44, 0), (34, .aload_n 0, 1, 0, 0), (35, .iload_n 3, 1, 0, 0), (36, .iconst 1, 1, 0, 0), (37, .isub, 1, 0, 0), (38, .invokevirtual 161, 3, 31, 1), (41, .goto 18, 3, 59, 0), (44, .aload_n 0, 1, 0, 0), (45, .iload_n 3, 1, 0, 0), (46, .invokevirtual 100, 3, 25, 1), (49, .bipush 39, 2, 0, 0), (51, .if_icmp .eq 8, 3, 59, 0), (54, .aload_n 0, 1, 0, 0), (55, .iload_n 3, 1, 0, 0), (56, .invokevirtual 161, 3, 31, 1), (59, .iload_n 3, 1, 0, 0), (60, .iconst 1, 1, 0, 0), (61, .iadd, 1, 0, 0), (62, .ireturn, 1, 0, 0)]
abbrev ab_m35 : ab_M := (2, ({ cls := "CodeSmith$Tokens", name := "splitCharacter", desc := "(I)I" } : Jvm.MethodName), prog_7_method_23_code, 4, (Option.some Jvm.ClassFile.FieldType.int), 1, 500)
/-- CodeSmith$Tokens.meaning(II)I -/
def ab_c36 : List ab_I := [(0, .aload_n 0, 1, 0, 0), (1, .iload_n 1, 1, 0, 0), (2, .invokevirtual 100, 3, 25, 1), (5, .istore_n 3, 1, 0, 0), (6, .iload_n 3, 1, 0, 0), (7, .bipush 92, 2, 0, 0), (9, .if_icmp .ne 14, 3, 23, 0), (12, .aload_n 0, 1, 0, 0), (13, .iload_n 1, 1, 0, 0), (14, .iconst 1, 1, 0, 0), (15, .iadd, 1, 0, 0), (16, .invokevirtual 100, 3, 25, 1), (19, .invokestatic 119, 3, 37, 1), (22, .ireturn, 1, 0, 0), (23, .iload_n 3, 1, 0, 0), (24, .bipush 32, 2, 0, 0), (26, .if_icmp .lt 18, 3, 44, 0), (29, .iload_n 3, 1, 0, 0), (30, .bipush 126, 2, 0, 0), (32, .if_icmp .gt 12, 3, 44, 0), (35, .iload_n 3, 1, 0, 0), (36, .iload_n 2, 1, 0, 0), (37, .if_icmp .eq 7, 3, 44, 0), (40, .iload_n 3, 1, 0, 0), (41, .goto 4, 3, 45, 0), (44, .iconst (-1), 1, 0, 0), (45, .ireturn, 1, 0, 0)]
abbrev ab_m36 : ab_M := (2, ({ cls := "CodeSmith$Tokens", name := "meaning", desc := "(II)I" } : Jvm.MethodName), prog_7_method_11_code, 4, (Option.some Jvm.ClassFile.FieldType.int), 2, 504)
/-- CodeSmith$Tokens.escaped(I)I -/
def ab_c37 : List ab_I := [(0, .iload_n 0, 1, 0, 0), (1, .lookupswitch 69 #[(34, 67), (39, 67), (48, 65), (92, 67), (110, 59), (116, 62)], 59, 0, 0), (60, .bipush 10, 2, 0, 0), (62, .ireturn, 1, 0, 0), (63, .bipush 9, 2, 0, 0), (65, .ireturn, 1, 0, 0), (66, .iconst 0, 1, 0, 0), (67, .ireturn, 1, 0, 0), (68, .iload_n 0, 1, 0, 0), (69, .ireturn, 1, 0, 0), (70, .iconst (-1), 1, 0, 0), (71, .ireturn, 1, 0, 0)]
abbrev ab_m37 : ab_M := (2, ({ cls := "CodeSmith$Tokens", name := "escaped", desc := "(I)I" } : Jvm.MethodName), prog_7_method_30_code, 1, (Option.some Jvm.ClassFile.FieldType.int), 1, 507)
/-- CodeSmith$Tokens.widthAt(I)I -/
def ab_c38 : List ab_I := [(0, .aload_n 0, 1, 0, 0), (1, .iload_n 1, 1, 0, 0), (2, .invokevirtual 100, 3, 25, 1), (5, .bipush 92, 2, 0, 0), (7, .if_icmp .ne 7, 3, 14, 0), (10, .iconst 2, 1, 0, 0), (11, .goto 4, 3, 15, 0), (14, .iconst 1, 1, 0, 0), (15, .ireturn, 1, 0, 0)]
abbrev ab_m38 : ab_M := (2, ({ cls := "CodeSmith$Tokens", name := "widthAt", desc := "(I)I" } : Jvm.MethodName), prog_7_method_12_code, 2, (Option.some Jvm.ClassFile.FieldType.int), 1, 511)
/-- CodeSmith$Tokens.splitString(I)I -/
def ab_c39 : List ab_I := [(0, .iconst 0, 1, 0, 0), (1, .istore_n 2, 1, 0, 0), (2, .iload_n 1, 1, 0, 0), (3, .iconst 1, 1, 0, 0), (4, .iadd, 1, 0, 0), (5, .istore_n 3, 1, 0, 0), (6, .iload_n 3, 1, 0, 0), (7, .aload_n 0, 1, 0, 0), (8, .getfield 50, 3, 4, 10), (11, .if_icmp .ge 28, 3, 39, 0), (14, .aload_n 0, 1, 0, 0), (15, .iload_n 3, 1, 0, 0), (16, .bipush 34, 2, 0, 0), (18, .invokevirtual 170, 3, 36, 2), (21, .iconst (-1), 1, 0, 0), (22, .if_icmp .eq 17, 3, 39, 0), (25, .iload_n 3, 1, 0, 0), (26, .aload_n 0, 1, 0, 0), (27, .iload_n 3, 1, 0, 0), (28, .invokevirtual 173, 3, 38, 1), (31, .iadd, 1, 0, 0), (32, .istore_n 3, 1, 0, 0), (33, .iinc 2 1, 3, 0, 0), (36, .goto (-30), 3, 6, 0), (39, .aload_n 0, 1, 0, 0), (40, .iconst 3, 1, 0, 0), (41, .iload_n 1, 1, 0, 0), (42, .iload_n 2, 1, 0, 0), (43, .invokevirtual 132, 3, 30, 3), (46, .aload_n 0, 1, 0, 0), (47, .iload_n 3, 1, 0, 0), (48, .invokevirtual 100, 3, 25, 1), (51, .bipush 34, 2, 0, 0), (53, .if_icmp .eq 16, 3, 69, 0), (56, .aload_n 0, 1, 0, 0), (57, .iload_n 3, 1, 0, 0), (58, .aload_n 0, 1, 0, 0), (59, .iload_n 3, 1, 0, 0), (60, .invokevirtual 173, 3, 38, 1), (63, .iadd, 1, 0, 0), (64, .iconst 1, 1, 0, 0), (65, .isub, 1, 0, 0), (66, .invokevirtual 161, 3, 31, 1), (69, .iload_n 3, 1, 0, 0), (70, .iconst 1, 1, 0, 0), (71, .iadd, 1, 0, 0), (72, .ireturn, 1, 0, 0)]
abbrev ab_m39 : ab_M := (2, ({ cls := "CodeSmith$Tokens", name := "splitString", desc := "(I)I" } : Jvm.MethodName), prog_7_method_24_code, 4, (Option.some Jvm.ClassFile.FieldType.int), 1, 515)
def ab_pr2 : List (ab_M × List ab_I) := [(ab_m27, ab_c27), (ab_m28, ab_c28), (ab_m29, ab_c29), (ab_m30, ab_c30), (ab_m31, ab_c31), (ab_m32, ab_c32), (ab_m33, ab_c33), (ab_m34, ab_c34), (ab_m35, ab_c35), (ab_m36, ab_c36), (ab_m37, ab_c37), (ab_m38, ab_c38), (ab_m39, ab_c39)]
set_option maxRecDepth 1000000 in
theorem ab_pr2_ok : ab_pr2.all ab_mok = true := sorry

/-- CodeSmith$Tokens.isSign(I)Z -/
def ab_c40 : List ab_I := [(0, .iload_n 0, 1, 0, 0), (1, .lookupswitch 125 #[(37, 123), (38, 123), (40, 123), (41, 123), (42, 123), (43, 123), (44, 123), (45, 123), (46, 123), (47, 123), (58, 123), (94, 123), (124, 123), (126, 123)], 123, 0, 0), (124, .iconst 1, 1, 0, 0), (125, .ireturn, 1, 0, 0), (126, .iconst 0, 1, 0, 0), (127, .ireturn, 1, 0, 0)]
abbrev ab_m40 : ab_M := (2, ({ cls := "CodeSmith$Tokens", name := "isSign", desc := "(I)Z" } : Jvm.MethodName), prog_7_method_31_code, 1, (Option.some Jvm.ClassFile.FieldType.boolean), 1, 518)
/-- CodeSmith$Tokens.advance()V -/
def ab_c41 : List ab_I := [(0, .aload_n 0, 1, 0, 0), (1, .dup, 1, 0, 0), (2, .getfield 59, 3, 4, 15), (5, .iconst 1, 1, 0, 0), (6, .iadd, 1, 0, 0), (7, .putfield 59, 3, 4, 15), (10, .aload_n 0, 1, 0, 0), (11, .getfield 59, 3, 4, 15), (14, .ifCond .lt 53, 3, 67, 0), (17, .aload_n 0, 1, 0, 0), (18, .getfield 59, 3, 4, 15), (21, .aload_n 0, 1, 0, 0), (22, .getfield 88, 3, 4, 14), (25, .if_icmp .ge 42, 3, 67, 0), (28, .aload_n 0, 1, 0, 0), (29, .aload_n 0, 1, 0, 0), (30, .getfield 15, 3, 4, 11), (33, .aload_n 0, 1, 0, 0), (34, .getfield 59, 3, 4, 15), (37, .iaload, 1, 0, 0), (38, .putfield 72, 3, 4, 3), (41, .aload_n 0, 1, 0, 0), (42, .aload_n 0, 1, 0, 0), (43, .getfield 19, 3, 4, 12), (46, .aload_n 0, 1, 0, 0), (47, .getfield 59, 3, 4, 15), (50, .iaload, 1, 0, 0), (51, .putfield 75, 3, 4, 4), (54, .aload_n 0, 1, 0, 0), (55, .aload_n 0, 1, 0, 0), (56, .getfield 22, 3, 4, 13), (59, .aload_n 0, 1, 0, 0), (60, .getfield 59, 3, 4, 15), (63, .iaload, 1, 0, 0), (64, .putfield 122, 3, 4, 5), (67, .return_, 1, 0, 0)]
abbrev ab_m41 : ab_M := (2, ({ cls := "CodeSmith$Tokens", name := "advance", desc := "()V" } : Jvm.MethodName), prog_7_method_13_code, 1, (Option.none : Option Jvm.ClassFile.FieldType), 0, 522)
/-- CodeSmith$Assembler.readLine()V -/
def ab_c42 : List ab_I := [(0, .aload_n 0, 1, 0, 0), (1, .invokevirtual 81, 3, 43, 0), (4, .aload_n 0, 1, 0, 0), (5, .getfield 21, 3, 0, 2), (8, .getfield 84, 3, 4, 3), (11, .ifCond .ne 4, 3, 15, 0), (14, .return_, 1, 0, 0), (15, .aload_n 0, 1, 0, 0), (16, .aload_n 0, 1, 0, 0), (17, .getfield 21, 3, 0, 2), (20, .getfield 89, 3, 4, 4), (23, .putfield 92, 3, 0, 10), (26, .aload_n 0, 1, 0, 0), (27, .getfield 21, 3, 0, 2), (30, .getfield 95, 3, 4, 5), (33, .istore_n 1, 1, 0, 0), (34, .aload_n 0, 1, 0, 0), (35, .getfield 21, 3, 0, 2), (38, .iconst 1, 1, 0, 0), (39, .invokevirtual 98, 3, 45, 1), (42, .aload_n 0, 1, 0, 0), (43, .aload_n 0, 1, 0, 0), (44, .getfield 92, 3, 0, 10), (47, .iload_n 1, 1, 0, 0), (48, .invokevirtual 102, 3, 65, 2), (51, .astore_n 2, 1, 0, 0), (52, .aload_n 2, 1, 0, 0), (53, .ifnonnull 16, 3, 69, 0), (56, .aload_n 0, 1, 0, 0), (57, .getfield 21, 3, 0, 2), (60, .aload_n 0, 1, 0, 0), (61, .getfield 92, 3, 0, 10), (64, .iconst 3, 1, 0, 0), (65, .invokevirtual 106, 3, 46, 2), (68, .return_, 1, 0, 0), (69, .aload_n 0, 1, 0, 0), (70, .aload_n 2, 1, 0, 0), (71, .getfield 109, 3, 100, 4), (74, .invokevirtual 114, 3, 66, 1), (77, .aload_n 2, 1, 0, 0), (78, .getfield 109, 3, 100, 4), (81, .tableswitch 64 2 6 #[35, 46, 64, 64, 57], 35, 0, 0), (116, .aload_n 0, 1, 0, 0), (117, .aload_n 2, 1, 0, 0), (118, .getfield 117, 3, 100, 5), (121, .invokevirtual 120, 3, 67, 1), (124, .goto 30, 3, 154, 0), (127, .aload_n 0, 1, 0, 0), (128, .aload_n 2, 1, 0, 0), (129, .getfield 117, 3, 100, 5), (132, .invokevirtual 123, 3, 85, 1), (135, .goto 19, 3, 154, 0), (138, .aload_n 0, 1, 0, 0), (139, .invokevirtual 126, 3, 86, 0), (142, .goto 12, 3, 154, 0), (145, .aload_n 0, 1, 0, 0), (146, .aload_n 0, 1, 0, 0), (147, .aload_n 2, 1, 0, 0), (148, .invokevirtual 129, 3, 87, 1), (151, .invokevirtual 133, 3, 89, 1), (154, .aload_n 0, 1, 0, 0), (155, .getfield 21, 3, 0, 2), (158, .getfield 84, 3, 4, 3), (161, .ifCond .eq 18, 3, 179, 0), (164, .aload_n 0, 1, 0, 0), (165, .getfield 21, 3, 0, 2), (168, .aload_n 0, 1, 0, 0), (169, .getfield 21, 3, 0, 2), (172, .getfield 89, 3, 4, 4), (175, .iconst 1, 1, 0, 0), (176, .invokevirtual 106, 3, 46, 2), (179, .aload_n 0, 1, 0, 0), (180, .getfield 43, 3, 0, 5), (183, .ifCond .eq 11, 3, 194, 0), (186, .aload_n 0, 1, 0, 0), (187, .aload_n 2, 1, 0, 0), (188, .invokevirtual 137, 3, 92, 1), (191, .goto 8, 3, 199, 0), (194, .aload_n 0, 1, 0, 0), (195, .aload_n 2, 1, 0, 0), (196, .invokevirtual 141, 3, 99, 1), (199, .aload_n 0, 1, 0, 0), (200, .aload_n 2, 1, 0, 0), (201, .invokevirtual 144, 3, 101, 1), (204, .return_, 1, 0, 0)]
abbrev ab_m42 : ab_M := (4, ({ cls := "CodeSmith$Assembler", name := "readLine", desc := "()V" } : Jvm.MethodName), prog_2_method_5_code, 3, (Option.none : Option Jvm.ClassFile.FieldType), 0, 526)
/-- CodeSmith$Assembler.readLabels()V -/
def ab_c43 : List ab_I := [(0, .iconst 0, 1, 0, 0), (1, .istore_n 1, 1, 0, 0), (2, .iload_n 1, 1, 0, 0), (3, .ldc 150, 2, 65536, 0), (5, .if_icmp .ge 127, 3, 132, 0), (8, .aload_n 0, 1, 0, 0), (9, .getfield 21, 3, 0, 2), (12, .getfield 84, 3, 4, 3), (15, .iconst 1, 1, 0, 0), (16, .if_icmp .ne 116, 3, 132, 0), (19, .aload_n 0, 1, 0, 0), (20, .getfield 21, 3, 0, 2), (23, .invokevirtual 151, 3, 44, 0), (26, .bipush 58, 2, 0, 0), (28, .if_icmp .ne 104, 3, 132, 0), (31, .aload_n 0, 1, 0, 0), (32, .getfield 21, 3, 0, 2), (35, .getfield 89, 3, 4, 4), (38, .istore_n 2, 1, 0, 0), (39, .aload_n 0, 1, 0, 0), (40, .getfield 21, 3, 0, 2), (43, .getfield 95, 3, 4, 5), (46, .istore_n 3, 1, 0, 0), (47, .aload_n 0, 1, 0, 0), (48, .getfield 21, 3, 0, 2), (51, .iconst 1, 1, 0, 0), (52, .invokevirtual 98, 3, 45, 1), (55, .aload_n 0, 1, 0, 0), (56, .getfield 21, 3, 0, 2), (59, .bipush 58, 2, 0, 0), (61, .invokevirtual 98, 3, 45, 1), (64, .aload_n 0, 1, 0, 0), (65, .getfield 43, 3, 0, 5), (68, .ifCond .ne 58, 3, 126, 0), (71, .aload_n 0, 1, 0, 0), (72, .iload_n 2, 1, 0, 0), (73, .iload_n 3, 1, 0, 0), (74, .invokevirtual 155, 3, 47, 2), (77, .aload_n 0, 1, 0, 0), (78, .getfield 21, 3, 0, 2), (81, .iload_n 2, 1, 0, 0), (82, .iload_n 3, 1, 0, 0), (83, .ldc 158, 2, 3, 1), (85, .invokevirtual 159, 3, 51, 3), (88, .ifCond .ne 14, 3, 102, 0), (91, .aload_n 0, 1, 0, 0), (92, .aload_n 0, 1, 0, 0), (93, .getfield 25, 3, 0, 3), (96, .getfield 72, 3, 3, 0), (99, .putfield 39, 3, 0, 9), (102, .aload_n 0, 1, 0, 0), (103, .getfield 25, 3, 0, 3), (106, .iload_n 2, 1, 0, 0), (107, .iload_n 3, 1, 0, 0), (108, .aload_n 0, 1, 0, 0), (109, .getfield 147, 3, 0, 6), (112, .aload_n 0, 1, 0, 0), (113, .invokevirtual 163, 3, 61, 0), (116, .aload_n 0, 1, 0, 0), (117, .getfield 21, 3, 0, 2), (120, .getfield 166, 3, 4, 6), (123, .invokevirtual 169, 3, 62, 5), (126, .iinc 1 1, 3, 0, 0), (129, .goto (-127), 3, 2, 0), (132, .return_, 1, 0, 0)]
abbrev ab_m43 : ab_M := (4, ({ cls := "CodeSmith$Assembler", name := "readLabels", desc := "()V" } : Jvm.MethodName), prog_2_method_8_code, 4, (Option.none : Option Jvm.ClassFile.FieldType), 0, 530)
/-- CodeSmith$Tokens.kindBehind()I -/
def ab_c44 : List ab_I := [(0, .aload_n 0, 1, 0, 0), (1, .getfield 59, 3, 4, 15), (4, .iconst 1, 1, 0, 0), (5, .iadd, 1, 0, 0), (6, .aload_n 0, 1, 0, 0), (7, .getfield 88, 3, 4, 14), (10, .if_icmp .ge 17, 3, 27, 0), (13, .aload_n 0, 1, 0, 0), (14, .getfield 15, 3, 4, 11), (17, .aload_n 0, 1, 0, 0), (18, .getfield 59, 3, 4, 15), (21, .iconst 1, 1, 0, 0), (22, .iadd, 1, 0, 0), (23, .iaload, 1, 0, 0), (24, .goto 4, 3, 28, 0), (27, .iconst 0, 1, 0, 0), (28, .ireturn, 1, 0, 0)]
abbrev ab_m44 : ab_M := (2, ({ cls := "CodeSmith$Tokens", name := "kindBehind", desc := "()I" } : Jvm.MethodName), prog_7_method_7_code, 1, (Option.some Jvm.ClassFile.FieldType.int), 0, 535)
/-- CodeSmith$Tokens.expect(I)V -/
def ab_c45 : List ab_I := [(0, .aload_n 0, 1, 0, 0), (1, .getfield 72, 3, 4, 3), (4, .iload_n 1, 1, 0, 0), (5, .if_icmp .eq 12, 3, 17, 0), (8, .aload_n 0, 1, 0, 0), (9, .aload_n 0, 1, 0, 0), (10, .getfield 75, 3, 4, 4), (13, .iconst 1, 1, 0, 0), (14, .invokevirtual 78, 3, 46, 2), (17, .aload_n 0, 1, 0, 0), (18, .getfield 59, 3, 4, 15), (21, .aload_n 0, 1, 0, 0), (22, .getfield 82, 3, 4, 16), (25, .if_icmp .ne 12, 3, 37, 0), (28, .aload_n 0, 1, 0, 0), (29, .aload_n 0, 1, 0, 0), (30, .getfield 85, 3, 4, 17), (33, .iconst 1, 1, 0, 0), (34, .invokevirtual 78, 3, 46, 2), (37, .aload_n 0, 1, 0, 0), (38, .invokevirtual 62, 3, 41, 0), (41, .return_, 1, 0, 0)]
abbrev ab_m45 : ab_M := (2, ({ cls := "CodeSmith$Tokens", name := "expect", desc := "(I)V" } : Jvm.MethodName), prog_7_method_6_code, 2, (Option.none : Option Jvm.ClassFile.FieldType), 1, 539)
/-- CodeSmith$Tokens.fail(II)V -/
def ab_c46 : List ab_I := [(0, .aload_n 0, 1, 0, 0), (1, .aload_n 0, 1, 0, 0), (2, .getfield 47, 3, 4, 6), (5, .putfield 35, 3, 4, 0), (8, .aload_n 0, 1, 0, 0), (9, .iload_n 1, 1, 0, 0), (10, .aload_n 0, 1, 0, 0), (11, .getfield 53, 3, 4, 9), (14, .isub, 1, 0, 0), (15, .putfield 38, 3, 4, 1), (18, .aload_n 0, 1, 0, 0), (19, .iload_n 2, 1, 0, 0), (20, .putfield 41, 3, 4, 2), (23, .new 65, 3, 7, 0), (26, .dup, 1, 0, 0), (27, .ldc 67, 2, 0, 1), (32, .athrow, 1, 0, 0)]
abbrev ab_m46 : ab_M := (2, ({ cls := "CodeSmith$Tokens", name := "fail", desc := "(II)V" } : Jvm.MethodName), prog_7_method_5_code, 3, (Option.none : Option Jvm.ClassFile.FieldType), 2, 543)
/-- CodeSmith$Assembler.checkNew(II)V -/
def ab_c47 : List ab_I := [(0, .aload_n 0, 1, 0, 0), (1, .getfield 21, 3, 0, 2), (4, .iload_n 1, 1, 0, 0), (5, .iload_n 2, 1, 0, 0), (6, .invokevirtual 173, 3, 48, 2), (9, .iconst (-1), 1, 0, 0), (10, .if_icmp .ne 16, 3, 26, 0), (13, .aload_n 0, 1, 0, 0), (14, .getfield 25, 3, 0, 3), (17, .iload_n 1, 1, 0, 0), (18, .iload_n 2, 1, 0, 0), (19, .invokevirtual 176, 3, 58, 2), (22, .iconst (-1), 1, 0, 0), (23, .if_icmp .eq 12, 3, 35, 0), (26, .aload_n 0, 1, 0, 0), (27, .getfield 21, 3, 0, 2), (30, .iload_n 1, 1, 0, 0), (31, .iconst 2, 1, 0, 0), (32, .invokevirtual 106, 3, 46, 2), (35, .return_, 1, 0, 0)]
abbrev ab_m47 : ab_M := (4, ({ cls := "CodeSmith$Assembler", name := "checkNew", desc := "(II)V" } : Jvm.MethodName), prog_2_method_9_code, 3, (Option.none : Option Jvm.ClassFile.FieldType), 2, 612)
/-- CodeSmith$Tokens.registerNamed(II)I -/
def ab_c48 : List ab_I := [(0, .aload_n 0, 1, 0, 0), (1, .iload_n 1, 1, 0, 0), (2, .iconst 1, 1, 0, 0), (3, .iadd, 1, 0, 0), (4, .iload_n 2, 1, 0, 0), (5, .iconst 1, 1, 0, 0), (6, .isub, 1, 0, 0), (7, .invokevirtual 94, 3, 49, 2), (10, .istore_n 3, 1, 0, 0), (11, .iload_n 3, 1, 0, 0), (12, .iconst (-1), 1, 0, 0), (13, .if_icmp .ne 10, 3, 23, 0), (16, .aload_n 0, 1, 0, 0), (17, .iload_n 1, 1, 0, 0), (18, .iload_n 2, 1, 0, 0), (19, .invokevirtual 97, 3, 50, 2), (22, .ireturn, 1, 0, 0), (23, .aload_n 0, 1, 0, 0), (24, .iload_n 1, 1, 0, 0), (25, .invokevirtual 100, 3, 25, 1), (28, .lookupswitch 124 #[(97, 56), (115, 71), (116, 98), (120, 44)], 44, 0, 0), (72, .iload_n 3, 1, 0, 0), (73, .bipush 31, 2, 0, 0), (75, .if_icmp .gt 7, 3, 82, 0), (78, .iload_n 3, 1, 0, 0), (79, .goto 4, 3, 83, 0), (82, .iconst (-1), 1, 0, 0), (83, .ireturn, 1, 0, 0), (84, .iload_n 3, 1, 0, 0), (85, .bipush 7, 2, 0, 0), (87, .if_icmp .gt 10, 3, 97, 0), (90, .bipush 10, 2, 0, 0), (92, .iload_n 3, 1, 0, 0), (93, .iadd, 1, 0, 0), (94, .goto 4, 3, 98, 0), (97, .iconst (-1), 1, 0, 0), (98, .ireturn, 1, 0, 0), (99, .iload_n 3, 1, 0, 0), (100, .iconst 1, 1, 0, 0), (101, .if_icmp .gt 10, 3, 111, 0), (104, .bipush 8, 2, 0, 0), (106, .iload_n 3, 1, 0, 0), (107, .iadd, 1, 0, 0), (108, .goto 17, 3, 125, 0), (111, .iload_n 3, 1, 0, 0), (112, .bipush 11, 2, 0, 0), (114, .if_icmp .gt 10, 3, 124, 0), (117, .bipush 16, 2, 0, 0), (119, .iload_n 3, 1, 0, 0), (120, .iadd, 1, 0, 0), (121, .goto 4, 3, 125, 0), (124, .iconst (-1), 1, 0, 0), (125, .ireturn, 1, 0, 0), (126, .iload_n 3, 1, 0, 0), (127, .iconst 2, 1, 0, 0), (128, .if_icmp .gt 9, 3, 137, 0), (131, .iconst 5, 1, 0, 0), (132, .iload_n 3, 1, 0, 0), (133, .iadd, 1, 0, 0), (134, .goto 17, 3, 151, 0), (137, .iload_n 3, 1, 0, 0), (138, .bipush 6, 2, 0, 0), (140, .if_icmp .gt 10, 3, 150, 0), (143, .bipush 25, 2, 0, 0), (145, .iload_n 3, 1, 0, 0), (146, .iadd, 1, 0, 0), (147, .goto 4, 3, 151, 0), (150, .iconst (-1), 1, 0, 0), (151, .ireturn, 1, 0, 0), (152, .iconst (-1), 1, 0, 0), (153, .ireturn, 1, 0, 0)]
abbrev ab_m48 : ab_M := (2, ({ cls := "CodeSmith$Tokens", name := "registerNamed", desc := "(II)I" } : Jvm.MethodName), prog_7_method_9_code, 4, (Option.some Jvm.ClassFile.FieldType.int), 2, 616)
def ab_pr3 : List (ab_M × List ab_I) := [(ab_m40, ab_c40), (ab_m41, ab_c41), (ab_m42, ab_c42), (ab_m43, ab_c43), (ab_m44, ab_c44), (ab_m45, ab_c45), (ab_m46, ab_c46), (ab_m47, ab_c47), (ab_m48, ab_c48)]
set_option maxRecDepth 1000000 in
theorem ab_pr3_ok : ab_pr3.all ab_mok = true := sorry

/-- CodeSmith$Tokens.registerDigits(II)I -/
def ab_c49 : List ab_I := [(0, .aload_n 0, 1, 0, 0), (1, .iload_n 1, 1, 0, 0), (2, .invokevirtual 100, 3, 25, 1), (5, .istore_n 3, 1, 0, 0), (6, .iload_n 2, 1, 0, 0), (7, .iconst 1, 1, 0, 0), (8, .if_icmp .lt 15, 3, 23, 0), (11, .iload_n 2, 1, 0, 0), (12, .iconst 2, 1, 0, 0), (13, .if_icmp .gt 10, 3, 23, 0), (16, .iload_n 3, 1, 0, 0), (17, .invokestatic 143, 3, 28, 1), (20, .ifCond .ne 5, 3, 25, 0), (23, .iconst (-1), 1, 0, 0), (24, .ireturn, 1, 0, 0), (25, .iload_n 2, 1, 0, 0), (26, .iconst 1, 1, 0, 0), (27, .if_icmp .ne 8, 3, 35, 0), (30, .iload_n 3, 1, 0, 0), (31, .bipush 48, 2, 0, 0), (33, .isub, 1, 0, 0), (34, .ireturn, 1, 0, 0), (35, .aload_n 0, 1, 0, 0), (36, .iload_n 1, 1, 0, 0), (37, .iconst 1, 1, 0, 0), (38, .iadd, 1, 0, 0), (39, .invokevirtual 100, 3, 25, 1), (42, .istore 4, 2, 0, 0), (44, .iload_n 3, 1, 0, 0), (45, .bipush 48, 2, 0, 0), (47, .if_icmp .eq 27, 3, 74, 0), (50, .iload 4, 2, 0, 0), (52, .invokestatic 143, 3, 28, 1), (55, .ifCond .eq 19, 3, 74, 0), (58, .iload_n 3, 1, 0, 0), (59, .bipush 48, 2, 0, 0), (61, .isub, 1, 0, 0), (62, .bipush 10, 2, 0, 0), (64, .imul, 1, 0, 0), (65, .iload 4, 2, 0, 0), (67, .bipush 48, 2, 0, 0), (69, .isub, 1, 0, 0), (70, .iadd, 1, 0, 0), (71, .goto 4, 3, 75, 0), (74, .iconst (-1), 1, 0, 0), (75, .ireturn, 1, 0, 0)]
abbrev ab_m49 : ab_M := (2, ({ cls := "CodeSmith$Tokens", name := "registerDigits", desc := "(II)I" } : Jvm.MethodName), prog_7_method_25_code, 5, (Option.some Jvm.ClassFile.FieldType.int), 2, 620)
/-- CodeSmith$Tokens.registerSpelled(II)I -/
def ab_c50 : List ab_I := [(0, .iload_n 2, 1, 0, 0), (1, .iconst 4, 1, 0, 0), (2, .if_icmp .ne 20, 3, 22, 0), (5, .aload_n 0, 1, 0, 0), (6, .iload_n 1, 1, 0, 0), (7, .iload_n 2, 1, 0, 0), (8, .ldc 176, 2, 1, 1), (10, .invokevirtual 178, 3, 51, 3), (13, .ifCond .ne 7, 3, 20, 0), (16, .iconst 0, 1, 0, 0), (17, .goto 4, 3, 21, 0), (20, .iconst (-1), 1, 0, 0), (21, .ireturn, 1, 0, 0), (22, .iload_n 2, 1, 0, 0), (23, .iconst 2, 1, 0, 0), (24, .if_icmp .ne 15, 3, 39, 0), (27, .aload_n 0, 1, 0, 0), (28, .iload_n 1, 1, 0, 0), (29, .iconst 1, 1, 0, 0), (30, .iadd, 1, 0, 0), (31, .invokevirtual 100, 3, 25, 1), (34, .bipush 112, 2, 0, 0), (36, .if_icmp .eq 20, 3, 56, 0), (39, .aload_n 0, 1, 0, 0), (40, .iload_n 1, 1, 0, 0), (41, .iload_n 2, 1, 0, 0), (42, .ldc 182, 2, 2, 1), (44, .invokevirtual 178, 3, 51, 3), (47, .ifCond .ne 7, 3, 54, 0), (50, .iconst 1, 1, 0, 0), (51, .goto 4, 3, 55, 0), (54, .iconst (-1), 1, 0, 0), (55, .ireturn, 1, 0, 0), (56, .aload_n 0, 1, 0, 0), (57, .iload_n 1, 1, 0, 0), (58, .invokevirtual 100, 3, 25, 1), (61, .lookupswitch 52 #[(102, 49), (103, 45), (115, 43), (116, 47)], 43, 0, 0), (104, .iconst 2, 1, 0, 0), (105, .ireturn, 1, 0, 0), (106, .iconst 3, 1, 0, 0), (107, .ireturn, 1, 0, 0), (108, .iconst 4, 1, 0, 0), (109, .ireturn, 1, 0, 0), (110, .bipush 8, 2, 0, 0), (112, .ireturn, 1, 0, 0), (113, .iconst (-1), 1, 0, 0), (114, .ireturn, 1, 0, 0)]
abbrev ab_m50 : ab_M := (2, ({ cls := "CodeSmith$Tokens", name := "registerSpelled", desc := "(II)I" } : Jvm.MethodName), prog_7_method_26_code, 3, (Option.some Jvm.ClassFile.FieldType.int), 2, 624)
/-- CodeSmith$Tokens.order(IILjava/lang/String;)I -/
def ab_c51 : List ab_I := [(0, .iconst 0, 1, 0, 0), (1, .istore 4, 2, 0, 0), (3, .iload 4, 2, 0, 0), (5, .iload_n 2, 1, 0, 0), (6, .if_icmp .ge 60, 3, 66, 0), (9, .iload 4, 2, 0, 0), (11, .aload_n 3, 1, 0, 0), (12, .invokevirtual 104, 3, 52, 0), (15, .if_icmp .ge 51, 3, 66, 0), (18, .iload_n 1, 1, 0, 0), (19, .ifCond .lt 47, 3, 66, 0), (22, .iload_n 1, 1, 0, 0), (23, .iload 4, 2, 0, 0), (25, .iadd, 1, 0, 0), (26, .aload_n 0, 1, 0, 0), (27, .getfield 9, 3, 4, 7), (30, .arraylength, 1, 0, 0), (31, .if_icmp .ge 35, 3, 66, 0), (34, .aload_n 0, 1, 0, 0), (35, .getfield 9, 3, 4, 7), (38, .iload_n 1, 1, 0, 0), (39, .iload 4, 2, 0, 0), (41, .iadd, 1, 0, 0), (42, .baload, 1, 0, 0), (43, .aload_n 3, 1, 0, 0), (44, .iload 4, 2, 0, 0), (46, .invokevirtual 110, 3, 54, 1), (49, .isub, 1, 0, 0), (50, .istore 5, 2, 0, 0), (52, .iload 5, 2, 0, 0), (54, .ifCond .eq 6, 3, 60, 0), (57, .iload 5, 2, 0, 0), (59, .ireturn, 1, 0, 0), (60, .iinc 4 1, 3, 0, 0), (63, .goto (-60), 3, 3, 0), (66, .iload_n 2, 1, 0, 0), (67, .aload_n 3, 1, 0, 0), (68, .invokevirtual 104, 3, 52, 0), (71, .invokestatic 114, 3, 57, 2), (74, .ireturn, 1, 0, 0)]
abbrev ab_m51 : ab_M := (2, ({ cls := "CodeSmith$Tokens", name := "order", desc := "(IILjava/lang/String;)I" } : Jvm.MethodName), prog_7_method_10_code, 6, (Option.some Jvm.ClassFile.FieldType.int), 3, 629)
/-- java/lang/String.length()I -/
def ab_c52 : List ab_I := [(0, .aload_n 0, 1, 0, 0), (1, .getfield 9, 3, 100, 0), (4, .arraylength, 1, 0, 0), (5, .aload_n 0, 1, 0, 0), (6, .invokevirtual 335, 3, 53, 0), (9, .ishr, 1, 0, 0), (10, .ireturn, 1, 0, 0)]
abbrev ab_m52 : ab_M := (7, ({ cls := "java/lang/String", name := "length", desc := "()I" } : Jvm.MethodName), prog_17_method_54_code, 1, (Option.some Jvm.ClassFile.FieldType.int), 0, 633)
/-- java/lang/String.coder()B -/
def ab_c53 : List ab_I := [(0, .getstatic 38, 3, 1, 1), (3, .ifCond .eq 10, 3, 13, 0), (6, .aload_n 0, 1, 0, 0), (7, .getfield 15, 3, 100, 1), (10, .goto 4, 3, 14, 0), (13, .iconst 1, 1, 0, 0), (14, .ireturn, 1, 0, 0)]
abbrev ab_m53 : ab_M := (7, ({ cls := "java/lang/String", name := "coder", desc := "()B" } : Jvm.MethodName), prog_17_method_152_code, 1, (Option.some Jvm.ClassFile.FieldType.byte), 0, 637)
/-- java/lang/String.charAt(I)C -/
def ab_c54 : List ab_I := [(0, .aload_n 0, 1, 0, 0), (1, .invokevirtual 492, 3, 55, 0), (4, .ifCond .eq 12, 3, 16, 0), (7, .aload_n 0, 1, 0, 0), (8, .getfield 9, 3, 100, 0), (11, .iload_n 1, 1, 0, 0), (12, .invokestatic 495, 3, 56, 2), (15, .ireturn, 1, 0, 0), (16, .aload_n 0, 1, 0, 0), (17, .getfield 9, 3, 100, 0), (20, .iload_n 1, 1, 0, 0), (24, .ireturn, 1, 0, 0)]
abbrev ab_m54 : ab_M := (7, ({ cls := "java/lang/String", name := "charAt", desc := "(I)C" } : Jvm.MethodName), prog_17_method_56_code, 2, (Option.some Jvm.ClassFile.FieldType.char), 1, 643)
/-- java/lang/String.isLatin1()Z -/
def ab_c55 : List ab_I := [(0, .getstatic 38, 3, 1, 1), (3, .ifCond .eq 14, 3, 17, 0), (6, .aload_n 0, 1, 0, 0), (7, .getfield 15, 3, 100, 1), (10, .ifCond .ne 7, 3, 17, 0), (13, .iconst 1, 1, 0, 0), (14, .goto 4, 3, 18, 0), (17, .iconst 0, 1, 0, 0), (18, .ireturn, 1, 0, 0)]
abbrev ab_m55 : ab_M := (7, ({ cls := "java/lang/String", name := "isLatin1", desc := "()Z" } : Jvm.MethodName), prog_17_method_154_code, 1, (Option.some Jvm.ClassFile.FieldType.boolean), 0, 647)
/-- java/lang/StringLatin1.charAt([BI)C -/
def ab_c56 : List ab_I := [(0, .iload_n 1, 1, 0, 0), (1, .aload_n 0, 1, 0, 0), (2, .arraylength, 1, 0, 0), (6, .aload_n 0, 1, 0, 0), (7, .iload_n 1, 1, 0, 0), (8, .baload, 1, 0, 0), (9, .sipush 255, 3, 0, 0), (12, .iand, 1, 0, 0), (13, .i2c, 1, 0, 0), (14, .ireturn, 1, 0, 0)]
abbrev ab_m56 : ab_M := (8, ({ cls := "java/lang/StringLatin1", name := "charAt", desc := "([BI)C" } : Jvm.MethodName), prog_18_method_2_code, 2, (Option.some Jvm.ClassFile.FieldType.char), 2, 650)
/-- java/lang/Integer.compare(II)I -/
def ab_c57 : List ab_I := [(0, .iload_n 0, 1, 0, 0), (1, .iload_n 1, 1, 0, 0), (2, .if_icmp .ge 7, 3, 9, 0), (5, .iconst (-1), 1, 0, 0), (6, .goto 13, 3, 19, 0), (9, .iload_n 0, 1, 0, 0), (10, .iload_n 1, 1, 0, 0), (11, .if_icmp .ne 7, 3, 18, 0), (14, .iconst 0, 1, 0, 0), (15, .goto 4, 3, 19, 0), (18, .iconst 1, 1, 0, 0), (19, .ireturn, 1, 0, 0)]
abbrev ab_m57 : ab_M := (9, ({ cls := "java/lang/Integer", name := "compare", desc := "(II)I" } : Jvm.MethodName), prog_14_method_40_code, 2, (Option.some Jvm.ClassFile.FieldType.int), 2, 680)
/-- CodeSmith$Symbols.find(II)I -/
def ab_c58 : List ab_I := [(0, .aload_n 0, 1, 0, 0), (1, .getfield 15, 3, 3, 2), (4, .aload_n 0, 1, 0, 0), (5, .iload_n 1, 1, 0, 0), (6, .iload_n 2, 1, 0, 0), (7, .invokevirtual 47, 3, 59, 2), (10, .iaload, 1, 0, 0), (11, .istore_n 3, 1, 0, 0), (12, .iconst 0, 1, 0, 0), (13, .istore 4, 2, 0, 0), (15, .iload 4, 2, 0, 0), (17, .aload_n 0, 1, 0, 0), (18, .getfield 37, 3, 3, 0), (21, .if_icmp .ge 55, 3, 76, 0), (24, .iload_n 3, 1, 0, 0), (25, .ifCond .lt 51, 3, 76, 0), (28, .iload_n 3, 1, 0, 0), (29, .aload_n 0, 1, 0, 0), (30, .getfield 37, 3, 3, 0), (33, .if_icmp .ge 43, 3, 76, 0), (36, .aload_n 0, 1, 0, 0), (37, .getfield 25, 3, 3, 5), (40, .iload_n 3, 1, 0, 0), (41, .iaload, 1, 0, 0), (42, .iload_n 2, 1, 0, 0), (43, .if_icmp .ne 20, 3, 63, 0), (46, .aload_n 0, 1, 0, 0), (47, .aload_n 0, 1, 0, 0), (48, .getfield 22, 3, 3, 4), (51, .iload_n 3, 1, 0, 0), (52, .iaload, 1, 0, 0), (53, .iload_n 1, 1, 0, 0), (54, .iload_n 2, 1, 0, 0), (55, .invokevirtual 51, 3, 60, 3), (58, .ifCond .eq 5, 3, 63, 0), (61, .iload_n 3, 1, 0, 0), (62, .ireturn, 1, 0, 0), (63, .aload_n 0, 1, 0, 0), (64, .getfield 19, 3, 3, 3), (67, .iload_n 3, 1, 0, 0), (68, .iaload, 1, 0, 0), (69, .istore_n 3, 1, 0, 0), (70, .iinc 4 1, 3, 0, 0), (73, .goto (-58), 3, 15, 0), (76, .iconst (-1), 1, 0, 0), (77, .ireturn, 1, 0, 0)]
abbrev ab_m58 : ab_M := (1, ({ cls := "CodeSmith$Symbols", name := "find", desc := "(II)I" } : Jvm.MethodName), prog_6_method_3_code, 5, (Option.some Jvm.ClassFile.FieldType.int), 2, 685)
/-- CodeSmith$Symbols.chainOf(II)I -/
def ab_c59 : List ab_I := [(0, .iconst 0, 1, 0, 0), (1, .istore_n 3, 1, 0, 0), (2, .iload_n 1, 1, 0, 0), (3, .istore 4, 2, 0, 0), (5, .iload 4, 2, 0, 0), (7, .iload_n 1, 1, 0, 0), (8, .iload_n 2, 1, 0, 0), (9, .iadd, 1, 0, 0), (10, .if_icmp .ge 37, 3, 47, 0), (13, .iload 4, 2, 0, 0), (15, .ifCond .lt 32, 3, 47, 0), (18, .iload 4, 2, 0, 0), (20, .aload_n 0, 1, 0, 0), (21, .getfield 9, 3, 3, 1), (24, .arraylength, 1, 0, 0), (25, .if_icmp .ge 22, 3, 47, 0), (28, .iload_n 3, 1, 0, 0), (29, .bipush 31, 2, 0, 0), (31, .imul, 1, 0, 0), (32, .aload_n 0, 1, 0, 0), (33, .getfield 9, 3, 3, 1), (36, .iload 4, 2, 0, 0), (38, .baload, 1, 0, 0), (39, .iadd, 1, 0, 0), (40, .istore_n 3, 1, 0, 0), (41, .iinc 4 1, 3, 0, 0), (44, .goto (-39), 3, 5, 0), (47, .iload_n 3, 1, 0, 0), (48, .iload_n 3, 1, 0, 0), (49, .bipush 8, 2, 0, 0), (51, .iushr, 1, 0, 0), (52, .ixor, 1, 0, 0), (53, .sipush 255, 3, 0, 0), (56, .iand, 1, 0, 0), (57, .ireturn, 1, 0, 0)]
abbrev ab_m59 : ab_M := (1, ({ cls := "CodeSmith$Symbols", name := "chainOf", desc := "(II)I" } : Jvm.MethodName), prog_6_method_7_code, 5, (Option.some Jvm.ClassFile.FieldType.int), 2, 689)
/-- CodeSmith$Symbols.isSame(III)Z -/
def ab_c60 : List ab_I := [(0, .iload_n 1, 1, 0, 0), (1, .ifCond .lt 29, 3, 30, 0), (4, .iload_n 2, 1, 0, 0), (5, .ifCond .lt 25, 3, 30, 0), (8, .iload_n 1, 1, 0, 0), (9, .iload_n 3, 1, 0, 0), (10, .iadd, 1, 0, 0), (11, .aload_n 0, 1, 0, 0), (12, .getfield 9, 3, 3, 1), (15, .arraylength, 1, 0, 0), (16, .if_icmp .gt 14, 3, 30, 0), (19, .iload_n 2, 1, 0, 0), (20, .iload_n 3, 1, 0, 0), (21, .iadd, 1, 0, 0), (22, .aload_n 0, 1, 0, 0), (23, .getfield 9, 3, 3, 1), (26, .arraylength, 1, 0, 0), (27, .if_icmp .le 5, 3, 32, 0), (30, .iconst 0, 1, 0, 0), (31, .ireturn, 1, 0, 0), (32, .iconst 0, 1, 0, 0), (33, .istore 4, 2, 0, 0), (35, .iload 4, 2, 0, 0), (37, .iload_n 3, 1, 0, 0), (38, .if_icmp .ge 32, 3, 70, 0), (41, .aload_n 0, 1, 0, 0), (42, .getfield 9, 3, 3, 1), (45, .iload_n 1, 1, 0, 0), (46, .iload 4, 2, 0, 0), (48, .iadd, 1, 0, 0), (49, .baload, 1, 0, 0), (50, .aload_n 0, 1, 0, 0), (51, .getfield 9, 3, 3, 1), (54, .iload_n 2, 1, 0, 0), (55, .iload 4, 2, 0, 0), (57, .iadd, 1, 0, 0), (58, .baload, 1, 0, 0), (59, .if_icmp .eq 5, 3, 64, 0), (62, .iconst 0, 1, 0, 0), (63, .ireturn, 1, 0, 0), (64, .iinc 4 1, 3, 0, 0), (67, .goto (-32), 3, 35, 0), (70, .iconst 1, 1, 0, 0), (71, .ireturn, 1, 0, 0)]
abbrev ab_m60 : ab_M := (1, ({ cls := "CodeSmith$Symbols", name := "isSame", desc := "(III)Z" } : Jvm.MethodName), prog_6_method_8_code, 5, (Option.some Jvm.ClassFile.FieldType.boolean), 3, 693)
/-- CodeSmith$Assembler.sectionEnd()I -/
def ab_c61 : List ab_I := [(0, .aload_n 0, 1, 0, 0), (1, .getfield 147, 3, 0, 6), (4, .ifCond .ne 10, 3, 14, 0), (7, .aload_n 0, 1, 0, 0), (8, .getfield 55, 3, 0, 7), (11, .goto 7, 3, 18, 0), (14, .aload_n 0, 1, 0, 0), (15, .getfield 58, 3, 0, 8), (18, .ireturn, 1, 0, 0)]
abbrev ab_m61 : ab_M := (4, ({ cls := "CodeSmith$Assembler", name := "sectionEnd", desc := "()I" } : Jvm.MethodName), prog_2_method_7_code, 1, (Option.some Jvm.ClassFile.FieldType.int), 0, 700)
/-- CodeSmith$Symbols.add(IIIII)V -/
def ab_c62 : List ab_I := [(0, .aload_n 0, 1, 0, 0), (1, .getfield 37, 3, 3, 0), (4, .aload_n 0, 1, 0, 0), (5, .getfield 22, 3, 3, 4), (8, .arraylength, 1, 0, 0), (9, .if_icmp .lt 7, 3, 16, 0), (12, .aload_n 0, 1, 0, 0), (13, .invokevirtual 55, 3, 63, 0), (16, .aload_n 0, 1, 0, 0), (17, .iload_n 1, 1, 0, 0), (18, .iload_n 2, 1, 0, 0), (19, .invokevirtual 47, 3, 59, 2), (22, .istore 6, 2, 0, 0), (24, .aload_n 0, 1, 0, 0), (25, .getfield 19, 3, 3, 3), (28, .aload_n 0, 1, 0, 0), (29, .getfield 37, 3, 3, 0), (32, .aload_n 0, 1, 0, 0), (33, .getfield 15, 3, 3, 2), (36, .iload 6, 2, 0, 0), (38, .iaload, 1, 0, 0), (39, .iastore, 1, 0, 0), (40, .aload_n 0, 1, 0, 0), (41, .getfield 15, 3, 3, 2), (44, .iload 6, 2, 0, 0), (46, .aload_n 0, 1, 0, 0), (47, .getfield 37, 3, 3, 0), (50, .iastore, 1, 0, 0), (51, .aload_n 0, 1, 0, 0), (52, .getfield 22, 3, 3, 4), (55, .aload_n 0, 1, 0, 0), (56, .getfield 37, 3, 3, 0), (59, .iload_n 1, 1, 0, 0), (60, .iastore, 1, 0, 0), (61, .aload_n 0, 1, 0, 0), (62, .getfield 25, 3, 3, 5), (65, .aload_n 0, 1, 0, 0), (66, .getfield 37, 3, 3, 0), (69, .iload_n 2, 1, 0, 0), (70, .iastore, 1, 0, 0), (71, .aload_n 0, 1, 0, 0), (72, .getfield 28, 3, 3, 6), (75, .aload_n 0, 1, 0, 0), (76, .getfield 37, 3, 3, 0), (79, .iload_n 3, 1, 0, 0), (80, .iastore, 1, 0, 0), (81, .aload_n 0, 1, 0, 0), (82, .getfield 31, 3, 3, 7), (85, .aload_n 0, 1, 0, 0), (86, .getfield 37, 3, 3, 0), (89, .iload 4, 2, 0, 0), (91, .iastore, 1, 0, 0), (92, .aload_n 0, 1, 0, 0), (93, .getfield 34, 3, 3, 8), (96, .aload_n 0, 1, 0, 0), (97, .getfield 37, 3, 3, 0), (100, .iload 5, 2, 0, 0), (102, .iastore, 1, 0, 0), (103, .aload_n 0, 1, 0, 0), (104, .dup, 1, 0, 0), (105, .getfield 37, 3, 3, 0), (108, .iconst 1, 1, 0, 0), (109, .iadd, 1, 0, 0), (110, .putfield 37, 3, 3, 0), (113, .return_, 1, 0, 0)]
abbrev ab_m62 : ab_M := (1, ({ cls := "CodeSmith$Symbols", name := "add", desc := "(IIIII)V" } : Jvm.MethodName), prog_6_method_4_code, 7, (Option.none : Option Jvm.ClassFile.FieldType), 5, 704)
def ab_pr4 : List (ab_M × List ab_I) := [(ab_m49, ab_c49), (ab_m50, ab_c50), (ab_m51, ab_c51), (ab_m52, ab_c52), (ab_m53, ab_c53), (ab_m54, ab_c54), (ab_m55, ab_c55), (ab_m56, ab_c56), (ab_m57, ab_c57), (ab_m58, ab_c58), (ab_m59, ab_c59), (ab_m60, ab_c60), (ab_m61, ab_c61), (ab_m62, ab_c62)]
set_option maxRecDepth 1000000 in
theorem ab_pr4_ok : ab_pr4.all ab_mok = true := sorry

/-- CodeSmith$Symbols.grow()V -/
def ab_c63 : List ab_I := [(0, .aload_n 0, 1, 0, 0), (1, .getfield 22, 3, 3, 4), (4, .arraylength, 1, 0, 0), (5, .iconst 2, 1, 0, 0), (6, .imul, 1, 0, 0), (7, .istore_n 1, 1, 0, 0), (8, .aload_n 0, 1, 0, 0), (9, .aload_n 0, 1, 0, 0), (10, .getfield 19, 3, 3, 3), (13, .iload_n 1, 1, 0, 0), (14, .invokestatic 58, 3, 64, 2), (17, .putfield 19, 3, 3, 3), (20, .aload_n 0, 1, 0, 0), (21, .aload_n 0, 1, 0, 0), (22, .getfield 22, 3, 3, 4), (25, .iload_n 1, 1, 0, 0), (26, .invokestatic 58, 3, 64, 2), (29, .putfield 22, 3, 3, 4), (32, .aload_n 0, 1, 0, 0), (33, .aload_n 0, 1, 0, 0), (34, .getfield 25, 3, 3, 5), (37, .iload_n 1, 1, 0, 0), (38, .invokestatic 58, 3, 64, 2), (41, .putfield 25, 3, 3, 5), (44, .aload_n 0, 1, 0, 0), (45, .aload_n 0, 1, 0, 0), (46, .getfield 28, 3, 3, 6), (49, .iload_n 1, 1, 0, 0), (50, .invokestatic 58, 3, 64, 2), (53, .putfield 28, 3, 3, 6), (56, .aload_n 0, 1, 0, 0), (57, .aload_n 0, 1, 0, 0), (58, .getfield 31, 3, 3, 7), (61, .iload_n 1, 1, 0, 0), (62, .invokestatic 58, 3, 64, 2), (65, .putfield 31, 3, 3, 7), (68, .aload_n 0, 1, 0, 0), (69, .aload_n 0, 1, 0, 0), (70, .getfield 34, 3, 3, 8), (73, .iload_n 1, 1, 0, 0), (74, .invokestatic 58, 3, 64, 2), (77, .putfield 34, 3, 3, 8), (80, .return_, 1, 0, 0)]
abbrev ab_m63 : ab_M := (1, ({ cls := "CodeSmith$Symbols", name := "grow", desc := "()V" } : Jvm.MethodName), prog_6_method_9_code, 2, (Option.none : Option Jvm.ClassFile.FieldType), 0, 708)
/-- java/util/Arrays.copyOf([II)[I -/
def ab_c64 : List ab_I := [(0, .iload_n 1, 1, 0, 0), (1, .aload_n 0, 1, 0, 0), (2, .arraylength, 1, 0, 0), (3, .if_icmp .ne 11, 3, 14, 0), (6, .aload_n 0, 1, 0, 0), (13, .areturn, 1, 0, 0), (14, .iload_n 1, 1, 0, 0), (15, .newarray .int, 2, 0, 0), (17, .astore_n 2, 1, 0, 0), (18, .aload_n 0, 1, 0, 0), (19, .iconst 0, 1, 0, 0), (20, .aload_n 2, 1, 0, 0), (21, .iconst 0, 1, 0, 0), (22, .aload_n 0, 1, 0, 0), (23, .arraylength, 1, 0, 0), (24, .iload_n 1, 1, 0, 0), (25, .invokestatic 304, 3, 997, 2), (28, .invokestatic 150, 3, 999, 5), (31, .aload_n 2, 1, 0, 0), (32, .areturn, 1, 0, 0)]
abbrev ab_m64 : ab_M := (6, ({ cls := "java/util/Arrays", name := "copyOf", desc := "([II)[I" } : Jvm.MethodName), prog_22_method_123_code, 3, (Option.some (Jvm.ClassFile.FieldType.array Jvm.ClassFile.FieldType.int)), 2, 711)
/-- CodeSmith$Assembler.statementNamed(II)LCodeSmith$Statement; -/
def ab_c65 : List ab_I := [(0, .iconst 0, 1, 0, 0), (1, .istore_n 3, 1, 0, 0), (2, .getstatic 179, 3, 500, 0), (5, .arraylength, 1, 0, 0), (6, .iconst 1, 1, 0, 0), (7, .isub, 1, 0, 0), (8, .istore 4, 2, 0, 0), (10, .iload_n 3, 1, 0, 0), (11, .iload 4, 2, 0, 0), (13, .if_icmp .gt 65, 3, 78, 0), (16, .iload_n 3, 1, 0, 0), (17, .iload 4, 2, 0, 0), (19, .iadd, 1, 0, 0), (20, .iconst 2, 1, 0, 0), (21, .idiv, 1, 0, 0), (22, .istore 5, 2, 0, 0), (24, .aload_n 0, 1, 0, 0), (25, .getfield 21, 3, 0, 2), (28, .iload_n 1, 1, 0, 0), (29, .iload_n 2, 1, 0, 0), (30, .getstatic 179, 3, 500, 0), (33, .iload 5, 2, 0, 0), (35, .aaload, 1, 0, 0), (36, .getfield 183, 3, 100, 2), (39, .invokevirtual 159, 3, 51, 3), (42, .istore 6, 2, 0, 0), (44, .iload 6, 2, 0, 0), (46, .ifCond .ne 10, 3, 56, 0), (49, .getstatic 179, 3, 500, 0), (52, .iload 5, 2, 0, 0), (54, .aaload, 1, 0, 0), (55, .areturn, 1, 0, 0), (56, .iload 6, 2, 0, 0), (58, .ifCond .ge 12, 3, 70, 0), (61, .iload 5, 2, 0, 0), (63, .iconst 1, 1, 0, 0), (64, .isub, 1, 0, 0), (65, .istore 4, 2, 0, 0), (67, .goto 8, 3, 75, 0), (70, .iload 5, 2, 0, 0), (72, .iconst 1, 1, 0, 0), (73, .iadd, 1, 0, 0), (74, .istore_n 3, 1, 0, 0), (75, .goto (-65), 3, 10, 0), (78, .aconst_null, 1, 0, 0), (79, .areturn, 1, 0, 0)]
abbrev ab_m65 : ab_M := (4, ({ cls := "CodeSmith$Assembler", name := "statementNamed", desc := "(II)LCodeSmith$Statement;" } : Jvm.MethodName), prog_2_method_10_code, 7, (Option.some (Jvm.ClassFile.FieldType.object "CodeSmith$Statement")), 2, 720)
/-- CodeSmith$Assembler.clearOperands(I)V -/
def ab_c66 : List ab_I := [(0, .aload_n 0, 1, 0, 0), (1, .iconst 0, 1, 0, 0), (2, .putfield 187, 3, 0, 11), (5, .aload_n 0, 1, 0, 0), (6, .iconst 0, 1, 0, 0), (7, .putfield 190, 3, 0, 12), (10, .aload_n 0, 1, 0, 0), (11, .iconst 0, 1, 0, 0), (12, .putfield 193, 3, 0, 13), (15, .aload_n 0, 1, 0, 0), (16, .iconst 0, 1, 0, 0), (17, .putfield 196, 3, 0, 14), (20, .aload_n 0, 1, 0, 0), (21, .iconst 0, 1, 0, 0), (22, .putfield 197, 3, 0, 15), (25, .aload_n 0, 1, 0, 0), (26, .getfield 29, 3, 0, 4), (29, .iconst 1, 1, 0, 0), (30, .putfield 200, 3, 1, 3), (33, .aload_n 0, 1, 0, 0), (34, .getfield 29, 3, 0, 4), (37, .aload_n 0, 1, 0, 0), (38, .invokevirtual 163, 3, 61, 0), (41, .aload_n 0, 1, 0, 0), (42, .getfield 147, 3, 0, 6), (45, .iconst 1, 1, 0, 0), (46, .if_icmp .ne 13, 3, 59, 0), (49, .aload_n 0, 1, 0, 0), (50, .getfield 29, 3, 0, 4), (53, .getfield 47, 3, 1, 2), (56, .goto 4, 3, 60, 0), (59, .iconst 0, 1, 0, 0), (60, .iadd, 1, 0, 0), (61, .putfield 203, 3, 1, 1), (64, .iload_n 1, 1, 0, 0), (65, .iconst 4, 1, 0, 0), (66, .if_icmp .eq 14, 3, 80, 0), (69, .iload_n 1, 1, 0, 0), (70, .iconst 5, 1, 0, 0), (71, .if_icmp .eq 9, 3, 80, 0), (74, .iload_n 1, 1, 0, 0), (75, .bipush 6, 2, 0, 0), (77, .if_icmp .ne 14, 3, 91, 0), (80, .aload_n 0, 1, 0, 0), (81, .getfield 29, 3, 0, 4), (84, .iconst 0, 1, 0, 0), (85, .putfield 206, 3, 1, 0), (88, .goto 22, 3, 110, 0), (91, .aload_n 0, 1, 0, 0), (92, .getfield 29, 3, 0, 4), (95, .aload_n 0, 1, 0, 0), (96, .getfield 43, 3, 0, 5), (99, .ifCond .eq 7, 3, 106, 0), (102, .iconst 2, 1, 0, 0), (103, .goto 4, 3, 107, 0), (106, .iconst 1, 1, 0, 0), (107, .putfield 206, 3, 1, 0), (110, .return_, 1, 0, 0)]
abbrev ab_m66 : ab_M := (4, ({ cls := "CodeSmith$Assembler", name := "clearOperands", desc := "(I)V" } : Jvm.MethodName), prog_2_method_11_code, 2, (Option.none : Option Jvm.ClassFile.FieldType), 1, 726)
/-- CodeSmith$Assembler.readList(I)V -/
def ab_c67 : List ab_I := [(0, .iconst 0, 1, 0, 0), (1, .istore_n 2, 1, 0, 0), (2, .iload_n 2, 1, 0, 0), (3, .ldc 150, 2, 65536, 0), (5, .if_icmp .ge 47, 3, 52, 0), (8, .aload_n 0, 1, 0, 0), (9, .aload_n 0, 1, 0, 0), (10, .getfield 29, 3, 0, 4), (13, .iconst 1, 1, 0, 0), (14, .iconst 0, 1, 0, 0), (15, .invokevirtual 209, 3, 68, 2), (18, .iload_n 1, 1, 0, 0), (19, .invokevirtual 212, 3, 82, 2), (22, .aload_n 0, 1, 0, 0), (23, .getfield 21, 3, 0, 2), (26, .getfield 84, 3, 4, 3), (29, .bipush 44, 2, 0, 0), (31, .if_icmp .eq 6, 3, 37, 0), (34, .goto 18, 3, 52, 0), (37, .aload_n 0, 1, 0, 0), (38, .getfield 21, 3, 0, 2), (41, .bipush 44, 2, 0, 0), (43, .invokevirtual 98, 3, 45, 1), (46, .iinc 2 1, 3, 0, 0), (49, .goto (-47), 3, 2, 0), (52, .return_, 1, 0, 0)]
abbrev ab_m67 : ab_M := (4, ({ cls := "CodeSmith$Assembler", name := "readList", desc := "(I)V" } : Jvm.MethodName), prog_2_method_12_code, 3, (Option.none : Option Jvm.ClassFile.FieldType), 1, 730)
/-- CodeSmith$Calculator.expression(II)I -/
def ab_c68 : List ab_I := [(0, .aload_n 0, 1, 0, 0), (1, .iload_n 2, 1, 0, 0), (2, .invokevirtual 19, 3, 69, 1), (5, .istore_n 3, 1, 0, 0), (6, .iconst 0, 1, 0, 0), (7, .istore 4, 2, 0, 0), (9, .iload 4, 2, 0, 0), (11, .ldc 23, 2, 65536, 0), (13, .if_icmp .ge 75, 3, 88, 0), (16, .aload_n 0, 1, 0, 0), (17, .getfield 9, 3, 1, 4), (20, .getfield 24, 3, 4, 3), (23, .istore 5, 2, 0, 0), (25, .iload 5, 2, 0, 0), (27, .invokestatic 30, 3, 79, 1), (30, .istore 6, 2, 0, 0), (32, .iload 6, 2, 0, 0), (34, .iload_n 1, 1, 0, 0), (35, .if_icmp .ge 6, 3, 41, 0), (38, .goto 50, 3, 88, 0), (41, .aload_n 0, 1, 0, 0), (42, .getfield 9, 3, 1, 4), (45, .getfield 33, 3, 4, 4), (48, .istore 7, 2, 0, 0), (50, .aload_n 0, 1, 0, 0), (51, .getfield 9, 3, 1, 4), (54, .iload 5, 2, 0, 0), (56, .invokevirtual 36, 3, 45, 1), (59, .aload_n 0, 1, 0, 0), (60, .iload 6, 2, 0, 0), (62, .iconst 1, 1, 0, 0), (63, .iadd, 1, 0, 0), (64, .iload_n 2, 1, 0, 0), (65, .invokevirtual 40, 3, 68, 2), (68, .istore 8, 2, 0, 0), (70, .aload_n 0, 1, 0, 0), (71, .iload 5, 2, 0, 0), (73, .iload_n 3, 1, 0, 0), (74, .iload 8, 2, 0, 0), (76, .iload 7, 2, 0, 0), (78, .invokevirtual 44, 3, 80, 4), (81, .istore_n 3, 1, 0, 0), (82, .iinc 4 1, 3, 0, 0), (85, .goto (-76), 3, 9, 0), (88, .iload_n 3, 1, 0, 0), (89, .ireturn, 1, 0, 0)]
abbrev ab_m68 : ab_M := (3, ({ cls := "CodeSmith$Calculator", name := "expression", desc := "(II)I" } : Jvm.MethodName), prog_3_method_2_code, 9, (Option.some Jvm.ClassFile.FieldType.int), 2, 734)
/-- CodeSmith$Calculator.operand(I)I -/
def ab_c69 : List ab_I := [(0, .iconst 1, 1, 0, 0), (1, .istore_n 2, 1, 0, 0), (2, .iconst 0, 1, 0, 0), (3, .istore_n 3, 1, 0, 0), (4, .iconst 0, 1, 0, 0), (5, .istore 4, 2, 0, 0), (7, .iload 4, 2, 0, 0), (9, .ldc 23, 2, 65536, 0), (11, .if_icmp .ge 67, 3, 78, 0), (14, .aload_n 0, 1, 0, 0), (15, .getfield 9, 3, 1, 4), (18, .getfield 24, 3, 4, 3), (21, .invokestatic 48, 3, 70, 1), (24, .ifCond .eq 54, 3, 78, 0), (27, .aload_n 0, 1, 0, 0), (28, .getfield 9, 3, 1, 4), (31, .getfield 24, 3, 4, 3), (34, .bipush 126, 2, 0, 0), (36, .if_icmp .ne 7, 3, 43, 0), (39, .iload_n 3, 1, 0, 0), (40, .iload_n 2, 1, 0, 0), (41, .isub, 1, 0, 0), (42, .istore_n 3, 1, 0, 0), (43, .aload_n 0, 1, 0, 0), (44, .getfield 9, 3, 1, 4), (47, .getfield 24, 3, 4, 3), (50, .bipush 43, 2, 0, 0), (52, .if_icmp .eq 6, 3, 58, 0), (55, .iload_n 2, 1, 0, 0), (56, .ineg, 1, 0, 0), (57, .istore_n 2, 1, 0, 0), (58, .aload_n 0, 1, 0, 0), (59, .getfield 9, 3, 1, 4), (62, .aload_n 0, 1, 0, 0), (63, .getfield 9, 3, 1, 4), (66, .getfield 24, 3, 4, 3), (69, .invokevirtual 36, 3, 45, 1), (72, .iinc 4 1, 3, 0, 0), (75, .goto (-68), 3, 7, 0), (78, .aload_n 0, 1, 0, 0), (79, .getfield 9, 3, 1, 4), (82, .getfield 24, 3, 4, 3), (85, .lookupswitch 107 #[(1, 43), (37, 71), (40, 61), (46, 52)], 43, 0, 0), (128, .iload_n 2, 1, 0, 0), (129, .aload_n 0, 1, 0, 0), (130, .invokevirtual 52, 3, 71, 0), (133, .imul, 1, 0, 0), (134, .iload_n 3, 1, 0, 0), (135, .iadd, 1, 0, 0), (136, .ireturn, 1, 0, 0), (137, .iload_n 2, 1, 0, 0), (138, .aload_n 0, 1, 0, 0), (139, .invokevirtual 56, 3, 74, 0), (142, .imul, 1, 0, 0), (143, .iload_n 3, 1, 0, 0), (144, .iadd, 1, 0, 0), (145, .ireturn, 1, 0, 0), (146, .iload_n 2, 1, 0, 0), (147, .aload_n 0, 1, 0, 0), (148, .iload_n 1, 1, 0, 0), (149, .invokevirtual 59, 3, 75, 1), (152, .imul, 1, 0, 0), (153, .iload_n 3, 1, 0, 0), (154, .iadd, 1, 0, 0), (155, .ireturn, 1, 0, 0), (156, .aload_n 0, 1, 0, 0), (157, .invokevirtual 62, 3, 76, 0), (160, .istore 4, 2, 0, 0), (162, .aload_n 0, 1, 0, 0), (163, .iload_n 1, 1, 0, 0), (164, .invokevirtual 59, 3, 75, 1), (167, .istore 5, 2, 0, 0), (169, .iload_n 2, 1, 0, 0), (170, .iload 4, 2, 0, 0), (172, .ifCond .eq 11, 3, 183, 0), (175, .iload 5, 2, 0, 0), (177, .invokestatic 66, 3, 77, 1), (180, .goto 8, 3, 188, 0), (183, .iload 5, 2, 0, 0), (185, .invokestatic 69, 3, 78, 1), (188, .imul, 1, 0, 0), (189, .iload_n 3, 1, 0, 0), (190, .iadd, 1, 0, 0), (191, .ireturn, 1, 0, 0), (192, .aload_n 0, 1, 0, 0), (193, .getfield 9, 3, 1, 4), (196, .getfield 72, 3, 4, 5), (199, .istore 6, 2, 0, 0), (201, .aload_n 0, 1, 0, 0), (202, .getfield 9, 3, 1, 4), (205, .iconst 2, 1, 0, 0), (206, .invokevirtual 36, 3, 45, 1), (209, .iload_n 2, 1, 0, 0), (210, .iload 6, 2, 0, 0), (212, .imul, 1, 0, 0), (213, .iload_n 3, 1, 0, 0), (214, .iadd, 1, 0, 0), (215, .ireturn, 1, 0, 0)]
abbrev ab_m69 : ab_M := (3, ({ cls := "CodeSmith$Calculator", name := "operand", desc := "(I)I" } : Jvm.MethodName), prog_3_method_3_code, 7, (Option.some Jvm.ClassFile.FieldType.int), 1, 738)
def ab_pr5 : List (ab_M × List ab_I) := [(ab_m63, ab_c63), (ab_m64, ab_c64), (ab_m65, ab_c65), (ab_m66, ab_c66), (ab_m67, ab_c67), (ab_m68, ab_c68), (ab_m69, ab_c69)]
set_option maxRecDepth 1000000 in
theorem ab_pr5_ok : ab_pr5.all ab_mok = true := sorry

/-- CodeSmith$Calculator.isPrefix(I)Z -/
def ab_c70 : List ab_I := [(0, .iload_n 0, 1, 0, 0), (1, .bipush 45, 2, 0, 0), (3, .if_icmp .eq 15, 3, 18, 0), (6, .iload_n 0, 1, 0, 0), (7, .bipush 43, 2, 0, 0), (9, .if_icmp .eq 9, 3, 18, 0), (12, .iload_n 0, 1, 0, 0), (13, .bipush 126, 2, 0, 0), (15, .if_icmp .ne 7, 3, 22, 0), (18, .iconst 1, 1, 0, 0), (19, .goto 4, 3, 23, 0), (22, .iconst 0, 1, 0, 0), (23, .ireturn, 1, 0, 0)]
abbrev ab_m70 : ab_M := (3, ({ cls := "CodeSmith$Calculator", name := "isPrefix", desc := "(I)Z" } : Jvm.MethodName), prog_3_method_12_code, 1, (Option.some Jvm.ClassFile.FieldType.boolean), 1, 742)
/-- CodeSmith$Calculator.named()I -/
def ab_c71 : List ab_I := [(0, .aload_n 0, 1, 0, 0), (1, .getfield 9, 3, 1, 4), (4, .getfield 33, 3, 4, 4), (7, .istore_n 1, 1, 0, 0), (8, .aload_n 0, 1, 0, 0), (9, .getfield 9, 3, 1, 4), (12, .getfield 72, 3, 4, 5), (15, .istore_n 2, 1, 0, 0), (16, .aload_n 0, 1, 0, 0), (17, .getfield 9, 3, 1, 4), (20, .iconst 1, 1, 0, 0), (21, .invokevirtual 36, 3, 45, 1), (24, .aload_n 0, 1, 0, 0), (25, .getfield 15, 3, 1, 5), (28, .iload_n 1, 1, 0, 0), (29, .iload_n 2, 1, 0, 0), (30, .invokevirtual 87, 3, 58, 2), (33, .istore_n 3, 1, 0, 0), (34, .aload_n 0, 1, 0, 0), (35, .getfield 15, 3, 1, 5), (38, .iload_n 3, 1, 0, 0), (39, .aload_n 0, 1, 0, 0), (40, .getfield 9, 3, 1, 4), (43, .getfield 92, 3, 4, 6), (46, .invokevirtual 95, 3, 72, 2), (49, .ifCond .ne 24, 3, 73, 0), (52, .aload_n 0, 1, 0, 0), (53, .iconst 0, 1, 0, 0), (54, .putfield 99, 3, 1, 3), (57, .aload_n 0, 1, 0, 0), (58, .getfield 103, 3, 1, 0), (61, .ifCond .ne 12, 3, 73, 0), (64, .aload_n 0, 1, 0, 0), (65, .getfield 9, 3, 1, 4), (68, .iload_n 1, 1, 0, 0), (69, .iconst 4, 1, 0, 0), (70, .invokevirtual 75, 3, 46, 2), (73, .iload_n 3, 1, 0, 0), (74, .iconst (-1), 1, 0, 0), (75, .if_icmp .ne 21, 3, 96, 0), (78, .aload_n 0, 1, 0, 0), (79, .getfield 103, 3, 1, 0), (82, .iconst 2, 1, 0, 0), (83, .if_icmp .ne 13, 3, 96, 0), (86, .aload_n 0, 1, 0, 0), (87, .getfield 9, 3, 1, 4), (90, .iload_n 1, 1, 0, 0), (91, .bipush 8, 2, 0, 0), (93, .invokevirtual 75, 3, 46, 2), (96, .aload_n 0, 1, 0, 0), (97, .getfield 15, 3, 1, 5), (100, .iload_n 3, 1, 0, 0), (101, .aload_n 0, 1, 0, 0), (102, .getfield 106, 3, 1, 2), (105, .invokevirtual 109, 3, 73, 2), (108, .ireturn, 1, 0, 0)]
abbrev ab_m71 : ab_M := (3, ({ cls := "CodeSmith$Calculator", name := "named", desc := "()I" } : Jvm.MethodName), prog_3_method_6_code, 4, (Option.some Jvm.ClassFile.FieldType.int), 0, 747)
/-- CodeSmith$Symbols.isConstantBefore(II)Z -/
def ab_c72 : List ab_I := [(0, .iload_n 1, 1, 0, 0), (1, .ifCond .lt 35, 3, 36, 0), (4, .iload_n 1, 1, 0, 0), (5, .aload_n 0, 1, 0, 0), (6, .getfield 37, 3, 3, 0), (9, .if_icmp .ge 27, 3, 36, 0), (12, .aload_n 0, 1, 0, 0), (13, .getfield 28, 3, 3, 6), (16, .iload_n 1, 1, 0, 0), (17, .iaload, 1, 0, 0), (18, .iconst 2, 1, 0, 0), (19, .if_icmp .ne 17, 3, 36, 0), (22, .aload_n 0, 1, 0, 0), (23, .getfield 34, 3, 3, 8), (26, .iload_n 1, 1, 0, 0), (27, .iaload, 1, 0, 0), (28, .iload_n 2, 1, 0, 0), (29, .if_icmp .ge 7, 3, 36, 0), (32, .iconst 1, 1, 0, 0), (33, .goto 4, 3, 37, 0), (36, .iconst 0, 1, 0, 0), (37, .ireturn, 1, 0, 0)]
abbrev ab_m72 : ab_M := (1, ({ cls := "CodeSmith$Symbols", name := "isConstantBefore", desc := "(II)Z" } : Jvm.MethodName), prog_6_method_5_code, 3, (Option.some Jvm.ClassFile.FieldType.boolean), 2, 752)
/-- CodeSmith$Symbols.valueOf(II)I -/
def ab_c73 : List ab_I := [(0, .iload_n 1, 1, 0, 0), (1, .ifCond .lt 11, 3, 12, 0), (4, .iload_n 1, 1, 0, 0), (5, .aload_n 0, 1, 0, 0), (6, .getfield 37, 3, 3, 0), (9, .if_icmp .lt 5, 3, 14, 0), (12, .iconst 0, 1, 0, 0), (13, .ireturn, 1, 0, 0), (14, .aload_n 0, 1, 0, 0), (15, .getfield 28, 3, 3, 6), (18, .iload_n 1, 1, 0, 0), (19, .iaload, 1, 0, 0), (20, .iconst 1, 1, 0, 0), (21, .if_icmp .ne 14, 3, 35, 0), (24, .iload_n 2, 1, 0, 0), (25, .aload_n 0, 1, 0, 0), (26, .getfield 31, 3, 3, 7), (29, .iload_n 1, 1, 0, 0), (30, .iaload, 1, 0, 0), (31, .iadd, 1, 0, 0), (32, .goto 9, 3, 41, 0), (35, .aload_n 0, 1, 0, 0), (36, .getfield 31, 3, 3, 7), (39, .iload_n 1, 1, 0, 0), (40, .iaload, 1, 0, 0), (41, .ireturn, 1, 0, 0)]
abbrev ab_m73 : ab_M := (1, ({ cls := "CodeSmith$Symbols", name := "valueOf", desc := "(II)I" } : Jvm.MethodName), prog_6_method_6_code, 3, (Option.some Jvm.ClassFile.FieldType.int), 2, 757)
/-- CodeSmith$Calculator.addressHere()I -/
def ab_c74 : List ab_I := [(0, .aload_n 0, 1, 0, 0), (1, .iconst 0, 1, 0, 0), (2, .putfield 99, 3, 1, 3), (5, .aload_n 0, 1, 0, 0), (6, .getfield 103, 3, 1, 0), (9, .ifCond .ne 18, 3, 27, 0), (12, .aload_n 0, 1, 0, 0), (13, .getfield 9, 3, 1, 4), (16, .aload_n 0, 1, 0, 0), (17, .getfield 9, 3, 1, 4), (20, .getfield 33, 3, 4, 4), (23, .iconst 4, 1, 0, 0), (24, .invokevirtual 75, 3, 46, 2), (27, .aload_n 0, 1, 0, 0), (28, .getfield 9, 3, 1, 4), (31, .bipush 46, 2, 0, 0), (33, .invokevirtual 36, 3, 45, 1), (36, .aload_n 0, 1, 0, 0), (37, .getfield 112, 3, 1, 1), (40, .ireturn, 1, 0, 0)]
abbrev ab_m74 : ab_M := (3, ({ cls := "CodeSmith$Calculator", name := "addressHere", desc := "()I" } : Jvm.MethodName), prog_3_method_7_code, 1, (Option.some Jvm.ClassFile.FieldType.int), 0, 761)
/-- CodeSmith$Calculator.bracketed(I)I -/
def ab_c75 : List ab_I := [(0, .iload_n 1, 1, 0, 0), (1, .bipush 16, 2, 0, 0), (3, .if_icmp .lt 18, 3, 21, 0), (6, .aload_n 0, 1, 0, 0), (7, .getfield 9, 3, 1, 4), (10, .aload_n 0, 1, 0, 0), (11, .getfield 9, 3, 1, 4), (14, .getfield 33, 3, 4, 4), (17, .iconst 1, 1, 0, 0), (18, .invokevirtual 75, 3, 46, 2), (21, .aload_n 0, 1, 0, 0), (22, .getfield 9, 3, 1, 4), (25, .bipush 40, 2, 0, 0), (27, .invokevirtual 36, 3, 45, 1), (30, .aload_n 0, 1, 0, 0), (31, .iconst 1, 1, 0, 0), (32, .iload_n 1, 1, 0, 0), (33, .iconst 1, 1, 0, 0), (34, .iadd, 1, 0, 0), (35, .invokevirtual 40, 3, 68, 2), (38, .istore_n 2, 1, 0, 0), (39, .aload_n 0, 1, 0, 0), (40, .getfield 9, 3, 1, 4), (43, .bipush 41, 2, 0, 0), (45, .invokevirtual 36, 3, 45, 1), (48, .iload_n 2, 1, 0, 0), (49, .ireturn, 1, 0, 0)]
abbrev ab_m75 : ab_M := (3, ({ cls := "CodeSmith$Calculator", name := "bracketed", desc := "(I)I" } : Jvm.MethodName), prog_3_method_4_code, 3, (Option.some Jvm.ClassFile.FieldType.int), 1, 765)
/-- CodeSmith$Calculator.readHighOrLow()Z -/
def ab_c76 : List ab_I := [(0, .aload_n 0, 1, 0, 0), (1, .getfield 9, 3, 1, 4), (4, .bipush 37, 2, 0, 0), (6, .invokevirtual 36, 3, 45, 1), (9, .aload_n 0, 1, 0, 0), (10, .getfield 9, 3, 1, 4), (13, .getfield 33, 3, 4, 4), (16, .istore_n 1, 1, 0, 0), (17, .aload_n 0, 1, 0, 0), (18, .getfield 9, 3, 1, 4), (21, .iload_n 1, 1, 0, 0), (22, .aload_n 0, 1, 0, 0), (23, .getfield 9, 3, 1, 4), (26, .getfield 72, 3, 4, 5), (29, .ldc 79, 2, 4, 1), (31, .invokevirtual 81, 3, 51, 3), (34, .ifCond .ne 7, 3, 41, 0), (37, .iconst 1, 1, 0, 0), (38, .goto 4, 3, 42, 0), (41, .iconst 0, 1, 0, 0), (42, .istore_n 2, 1, 0, 0), (43, .aload_n 0, 1, 0, 0), (44, .getfield 9, 3, 1, 4), (47, .iload_n 1, 1, 0, 0), (48, .aload_n 0, 1, 0, 0), (49, .getfield 9, 3, 1, 4), (52, .getfield 72, 3, 4, 5), (55, .ldc 85, 2, 5, 1), (57, .invokevirtual 81, 3, 51, 3), (60, .ifCond .ne 7, 3, 67, 0), (63, .iconst 1, 1, 0, 0), (64, .goto 4, 3, 68, 0), (67, .iconst 0, 1, 0, 0), (68, .istore_n 3, 1, 0, 0), (69, .aload_n 0, 1, 0, 0), (70, .getfield 9, 3, 1, 4), (73, .iconst 1, 1, 0, 0), (74, .invokevirtual 36, 3, 45, 1), (77, .iload_n 2, 1, 0, 0), (78, .ifCond .ne 16, 3, 94, 0), (81, .iload_n 3, 1, 0, 0), (82, .ifCond .ne 12, 3, 94, 0), (85, .aload_n 0, 1, 0, 0), (86, .getfield 9, 3, 1, 4), (89, .iload_n 1, 1, 0, 0), (90, .iconst 1, 1, 0, 0), (91, .invokevirtual 75, 3, 46, 2), (94, .iload_n 2, 1, 0, 0), (95, .ireturn, 1, 0, 0)]
abbrev ab_m76 : ab_M := (3, ({ cls := "CodeSmith$Calculator", name := "readHighOrLow", desc := "()Z" } : Jvm.MethodName), prog_3_method_5_code, 4, (Option.some Jvm.ClassFile.FieldType.boolean), 0, 770)
/-- CodeSmith$Calculator.highPart(I)I -/
def ab_c77 : List ab_I := [(0, .iload_n 0, 1, 0, 0), (1, .iload_n 0, 1, 0, 0), (2, .invokestatic 69, 3, 78, 1), (5, .isub, 1, 0, 0), (6, .bipush 12, 2, 0, 0), (8, .iushr, 1, 0, 0), (9, .ireturn, 1, 0, 0)]
abbrev ab_m77 : ab_M := (3, ({ cls := "CodeSmith$Calculator", name := "highPart", desc := "(I)I" } : Jvm.MethodName), prog_3_method_11_code, 1, (Option.some Jvm.ClassFile.FieldType.int), 1, 776)
/-- CodeSmith$Calculator.lowPart(I)I -/
def ab_c78 : List ab_I := [(0, .iload_n 0, 1, 0, 0), (1, .bipush 20, 2, 0, 0), (3, .ishl, 1, 0, 0), (4, .bipush 20, 2, 0, 0), (6, .ishr, 1, 0, 0), (7, .ireturn, 1, 0, 0)]
abbrev ab_m78 : ab_M := (3, ({ cls := "CodeSmith$Calculator", name := "lowPart", desc := "(I)I" } : Jvm.MethodName), prog_3_method_10_code, 1, (Option.some Jvm.ClassFile.FieldType.int), 1, 779)
/-- CodeSmith$Calculator.levelOf(I)I -/
def ab_c79 : List ab_I := [(0, .iload_n 0, 1, 0, 0), (1, .lookupswitch 104 #[(37, 91), (38, 98), (42, 91), (43, 94), (45, 94), (47, 91), (60, 96), (62, 96), (94, 100), (124, 102)], 91, 0, 0), (92, .bipush 6, 2, 0, 0), (94, .ireturn, 1, 0, 0), (95, .iconst 5, 1, 0, 0), (96, .ireturn, 1, 0, 0), (97, .iconst 4, 1, 0, 0), (98, .ireturn, 1, 0, 0), (99, .iconst 3, 1, 0, 0), (100, .ireturn, 1, 0, 0), (101, .iconst 2, 1, 0, 0), (102, .ireturn, 1, 0, 0), (103, .iconst 1, 1, 0, 0), (104, .ireturn, 1, 0, 0), (105, .iconst 0, 1, 0, 0), (106, .ireturn, 1, 0, 0)]
abbrev ab_m79 : ab_M := (3, ({ cls := "CodeSmith$Calculator", name := "levelOf", desc := "(I)I" } : Jvm.MethodName), prog_3_method_13_code, 1, (Option.some Jvm.ClassFile.FieldType.int), 1, 782)
/-- CodeSmith$Calculator.joined(IIII)I -/
def ab_c80 : List ab_I := [(0, .iload_n 1, 1, 0, 0), (1, .lookupswitch 113 #[(38, 101), (42, 75), (43, 79), (45, 83), (60, 87), (62, 94), (94, 105), (124, 109)], 75, 0, 0), (76, .iload_n 2, 1, 0, 0), (77, .iload_n 3, 1, 0, 0), (78, .imul, 1, 0, 0), (79, .ireturn, 1, 0, 0), (80, .iload_n 2, 1, 0, 0), (81, .iload_n 3, 1, 0, 0), (82, .iadd, 1, 0, 0), (83, .ireturn, 1, 0, 0), (84, .iload_n 2, 1, 0, 0), (85, .iload_n 3, 1, 0, 0), (86, .isub, 1, 0, 0), (87, .ireturn, 1, 0, 0), (88, .iload_n 2, 1, 0, 0), (89, .iload_n 3, 1, 0, 0), (90, .bipush 31, 2, 0, 0), (92, .iand, 1, 0, 0), (93, .ishl, 1, 0, 0), (94, .ireturn, 1, 0, 0), (95, .iload_n 2, 1, 0, 0), (96, .iload_n 3, 1, 0, 0), (97, .bipush 31, 2, 0, 0), (99, .iand, 1, 0, 0), (100, .ishr, 1, 0, 0), (101, .ireturn, 1, 0, 0), (102, .iload_n 2, 1, 0, 0), (103, .iload_n 3, 1, 0, 0), (104, .iand, 1, 0, 0), (105, .ireturn, 1, 0, 0), (106, .iload_n 2, 1, 0, 0), (107, .iload_n 3, 1, 0, 0), (108, .ixor, 1, 0, 0), (109, .ireturn, 1, 0, 0), (110, .iload_n 2, 1, 0, 0), (111, .iload_n 3, 1, 0, 0), (112, .ior, 1, 0, 0), (113, .ireturn, 1, 0, 0), (114, .iload_n 3, 1, 0, 0), (115, .ifCond .ne 10, 3, 125, 0), (118, .aload_n 0, 1, 0, 0), (119, .iload 4, 2, 0, 0), (121, .invokevirtual 115, 3, 81, 1), (124, .ireturn, 1, 0, 0), (125, .iload_n 1, 1, 0, 0), (126, .bipush 47, 2, 0, 0), (128, .if_icmp .ne 9, 3, 137, 0), (131, .iload_n 2, 1, 0, 0), (132, .iload_n 3, 1, 0, 0), (133, .idiv, 1, 0, 0), (134, .goto 6, 3, 140, 0), (137, .iload_n 2, 1, 0, 0), (138, .iload_n 3, 1, 0, 0), (139, .irem, 1, 0, 0), (140, .ireturn, 1, 0, 0)]
abbrev ab_m80 : ab_M := (3, ({ cls := "CodeSmith$Calculator", name := "joined", desc := "(IIII)I" } : Jvm.MethodName), prog_3_method_8_code, 5, (Option.some Jvm.ClassFile.FieldType.int), 4, 786)
/-- CodeSmith$Calculator.dividedByZero(I)I -/
def ab_c81 : List ab_I := [(0, .aload_n 0, 1, 0, 0), (1, .iconst 0, 1, 0, 0), (2, .putfield 99, 3, 1, 3), (5, .aload_n 0, 1, 0, 0), (6, .getfield 103, 3, 1, 0), (9, .ifCond .ne 12, 3, 21, 0), (12, .aload_n 0, 1, 0, 0), (13, .getfield 9, 3, 1, 4), (16, .iload_n 1, 1, 0, 0), (17, .iconst 5, 1, 0, 0), (18, .invokevirtual 75, 3, 46, 2), (21, .aload_n 0, 1, 0, 0), (22, .getfield 103, 3, 1, 0), (25, .iconst 2, 1, 0, 0), (26, .if_icmp .ne 13, 3, 39, 0), (29, .aload_n 0, 1, 0, 0), (30, .getfield 9, 3, 1, 4), (33, .iload_n 1, 1, 0, 0), (34, .bipush 9, 2, 0, 0), (36, .invokevirtual 75, 3, 46, 2), (39, .iconst 0, 1, 0, 0), (40, .ireturn, 1, 0, 0)]
abbrev ab_m81 : ab_M := (3, ({ cls := "CodeSmith$Calculator", name := "dividedByZero", desc := "(I)I" } : Jvm.MethodName), prog_3_method_9_code, 2, (Option.some Jvm.ClassFile.FieldType.int), 1, 790)
/-- CodeSmith$Assembler.put(II)V -/
def ab_c82 : List ab_I := [(0, .aload_n 0, 1, 0, 0), (1, .getfield 43, 3, 0, 5), (4, .ifCond .eq 33, 3, 37, 0), (7, .aload_n 0, 1, 0, 0), (8, .getfield 18, 3, 0, 1), (11, .aload_n 0, 1, 0, 0), (12, .getfield 18, 3, 0, 1), (15, .aload_n 0, 1, 0, 0), (16, .getfield 147, 3, 0, 6), (19, .invokevirtual 262, 3, 83, 1), (22, .aload_n 0, 1, 0, 0), (23, .invokevirtual 163, 3, 61, 0), (26, .iadd, 1, 0, 0), (27, .aload_n 0, 1, 0, 0), (28, .getfield 197, 3, 0, 15), (31, .iadd, 1, 0, 0), (32, .iload_n 1, 1, 0, 0), (33, .iload_n 2, 1, 0, 0), (34, .invokevirtual 265, 3, 84, 3), (37, .aload_n 0, 1, 0, 0), (38, .dup, 1, 0, 0), (39, .getfield 197, 3, 0, 15), (42, .iload_n 2, 1, 0, 0), (43, .iadd, 1, 0, 0), (44, .putfield 197, 3, 0, 15), (47, .return_, 1, 0, 0)]
abbrev ab_m82 : ab_M := (4, ({ cls := "CodeSmith$Assembler", name := "put", desc := "(II)V" } : Jvm.MethodName), prog_2_method_23_code, 3, (Option.none : Option Jvm.ClassFile.FieldType), 2, 794)
def ab_pr6 : List (ab_M × List ab_I) := [(ab_m70, ab_c70), (ab_m71, ab_c71), (ab_m72, ab_c72), (ab_m73, ab_c73), (ab_m74, ab_c74), (ab_m75, ab_c75), (ab_m76, ab_c76), (ab_m77, ab_c77), (ab_m78, ab_c78), (ab_m79, ab_c79), (ab_m80, ab_c80), (ab_m81, ab_c81), (ab_m82, ab_c82)]
set_option maxRecDepth 1000000 in
theorem ab_pr6_ok : ab_pr6.all ab_mok = true := sorry

/-- CodeSmith$Image.placeOf(I)I -/
def ab_c83 : List ab_I := [(0, .aload_n 0, 1, 0, 0), (1, .getfield 19, 3, 2, 2), (4, .ifCond .le 7, 3, 11, 0), (7, .iconst 2, 1, 0, 0), (8, .goto 4, 3, 12, 0), (11, .iconst 1, 1, 0, 0), (12, .istore_n 2, 1, 0, 0), (13, .bipush 52, 2, 0, 0), (15, .iload_n 2, 1, 0, 0), (16, .bipush 32, 2, 0, 0), (18, .imul, 1, 0, 0), (19, .iadd, 1, 0, 0), (20, .istore_n 3, 1, 0, 0), (21, .iload_n 1, 1, 0, 0), (22, .ifCond .ne 7, 3, 29, 0), (25, .iload_n 3, 1, 0, 0), (26, .goto 9, 3, 35, 0), (29, .iload_n 3, 1, 0, 0), (30, .aload_n 0, 1, 0, 0), (31, .getfield 15, 3, 2, 1), (34, .iadd, 1, 0, 0), (35, .ireturn, 1, 0, 0)]
abbrev ab_m83 : ab_M := (5, ({ cls := "CodeSmith$Image", name := "placeOf", desc := "(I)I" } : Jvm.MethodName), prog_4_method_3_code, 4, (Option.some Jvm.ClassFile.FieldType.int), 1, 798)
/-- CodeSmith$Image.put(III)V -/
def ab_c84 : List ab_I := [(0, .iconst 0, 1, 0, 0), (1, .istore 4, 2, 0, 0), (3, .iload 4, 2, 0, 0), (5, .iload_n 3, 1, 0, 0), (6, .if_icmp .ge 53, 3, 59, 0), (9, .iload_n 1, 1, 0, 0), (10, .ifCond .lt 49, 3, 59, 0), (13, .iload_n 1, 1, 0, 0), (14, .iload 4, 2, 0, 0), (16, .iadd, 1, 0, 0), (17, .aload_n 0, 1, 0, 0), (18, .getfield 26, 3, 2, 0), (21, .if_icmp .ge 38, 3, 59, 0), (24, .iload_n 1, 1, 0, 0), (25, .iload 4, 2, 0, 0), (27, .iadd, 1, 0, 0), (28, .aload_n 0, 1, 0, 0), (29, .getfield 9, 3, 2, 4), (32, .arraylength, 1, 0, 0), (33, .if_icmp .ge 26, 3, 59, 0), (36, .aload_n 0, 1, 0, 0), (37, .getfield 9, 3, 2, 4), (40, .iload_n 1, 1, 0, 0), (41, .iload 4, 2, 0, 0), (43, .iadd, 1, 0, 0), (44, .iload_n 2, 1, 0, 0), (45, .bipush 8, 2, 0, 0), (47, .iload 4, 2, 0, 0), (49, .imul, 1, 0, 0), (50, .ishr, 1, 0, 0), (51, .i2b, 1, 0, 0), (52, .bastore, 1, 0, 0), (53, .iinc 4 1, 3, 0, 0), (56, .goto (-53), 3, 3, 0), (59, .return_, 1, 0, 0)]
abbrev ab_m84 : ab_M := (5, ({ cls := "CodeSmith$Image", name := "put", desc := "(III)V" } : Jvm.MethodName), prog_4_method_4_code, 5, (Option.none : Option Jvm.ClassFile.FieldType), 3, 802)
/-- CodeSmith$Assembler.readString(I)V -/
def ab_c85 : List ab_I := [(0, .aload_n 0, 1, 0, 0), (1, .getfield 21, 3, 0, 2), (4, .getfield 89, 3, 4, 4), (7, .iconst 1, 1, 0, 0), (8, .iadd, 1, 0, 0), (9, .istore_n 2, 1, 0, 0), (10, .aload_n 0, 1, 0, 0), (11, .getfield 21, 3, 0, 2), (14, .getfield 95, 3, 4, 5), (17, .istore_n 3, 1, 0, 0), (18, .aload_n 0, 1, 0, 0), (19, .getfield 21, 3, 0, 2), (22, .iconst 3, 1, 0, 0), (23, .invokevirtual 98, 3, 45, 1), (26, .iconst 0, 1, 0, 0), (27, .istore 4, 2, 0, 0), (29, .iload 4, 2, 0, 0), (31, .iload_n 3, 1, 0, 0), (32, .if_icmp .ge 35, 3, 67, 0), (35, .aload_n 0, 1, 0, 0), (36, .aload_n 0, 1, 0, 0), (37, .getfield 21, 3, 0, 2), (40, .iload_n 2, 1, 0, 0), (41, .bipush 34, 2, 0, 0), (43, .invokevirtual 215, 3, 36, 2), (46, .iconst 1, 1, 0, 0), (47, .invokevirtual 212, 3, 82, 2), (50, .iload_n 2, 1, 0, 0), (51, .aload_n 0, 1, 0, 0), (52, .getfield 21, 3, 0, 2), (55, .iload_n 2, 1, 0, 0), (56, .invokevirtual 218, 3, 38, 1), (59, .iadd, 1, 0, 0), (60, .istore_n 2, 1, 0, 0), (61, .iinc 4 1, 3, 0, 0), (64, .goto (-35), 3, 29, 0), (67, .iconst 0, 1, 0, 0), (68, .istore 4, 2, 0, 0), (70, .iload 4, 2, 0, 0), (72, .iload_n 1, 1, 0, 0), (73, .if_icmp .ge 15, 3, 88, 0), (76, .aload_n 0, 1, 0, 0), (77, .iconst 0, 1, 0, 0), (78, .iconst 1, 1, 0, 0), (79, .invokevirtual 212, 3, 82, 2), (82, .iinc 4 1, 3, 0, 0), (85, .goto (-15), 3, 70, 0), (88, .return_, 1, 0, 0)]
abbrev ab_m85 : ab_M := (4, ({ cls := "CodeSmith$Assembler", name := "readString", desc := "(I)V" } : Jvm.MethodName), prog_2_method_13_code, 5, (Option.none : Option Jvm.ClassFile.FieldType), 1, 806)
/-- CodeSmith$Assembler.readConstant()V -/
def ab_c86 : List ab_I := [(0, .aload_n 0, 1, 0, 0), (1, .getfield 21, 3, 0, 2), (4, .getfield 89, 3, 4, 4), (7, .istore_n 1, 1, 0, 0), (8, .aload_n 0, 1, 0, 0), (9, .getfield 21, 3, 0, 2), (12, .getfield 95, 3, 4, 5), (15, .istore_n 2, 1, 0, 0), (16, .aload_n 0, 1, 0, 0), (17, .getfield 21, 3, 0, 2), (20, .iconst 1, 1, 0, 0), (21, .invokevirtual 98, 3, 45, 1), (24, .aload_n 0, 1, 0, 0), (25, .getfield 43, 3, 0, 5), (28, .ifCond .ne 9, 3, 37, 0), (31, .aload_n 0, 1, 0, 0), (32, .iload_n 1, 1, 0, 0), (33, .iload_n 2, 1, 0, 0), (34, .invokevirtual 155, 3, 47, 2), (37, .aload_n 0, 1, 0, 0), (38, .getfield 21, 3, 0, 2), (41, .bipush 44, 2, 0, 0), (43, .invokevirtual 98, 3, 45, 1), (46, .aload_n 0, 1, 0, 0), (47, .getfield 29, 3, 0, 4), (50, .iconst 1, 1, 0, 0), (51, .iconst 0, 1, 0, 0), (52, .invokevirtual 209, 3, 68, 2), (55, .istore_n 3, 1, 0, 0), (56, .aload_n 0, 1, 0, 0), (57, .getfield 43, 3, 0, 5), (60, .ifCond .ne 21, 3, 81, 0), (63, .aload_n 0, 1, 0, 0), (64, .getfield 25, 3, 0, 3), (67, .iload_n 1, 1, 0, 0), (68, .iload_n 2, 1, 0, 0), (69, .iconst 2, 1, 0, 0), (70, .iload_n 3, 1, 0, 0), (71, .aload_n 0, 1, 0, 0), (72, .getfield 21, 3, 0, 2), (75, .getfield 166, 3, 4, 6), (78, .invokevirtual 169, 3, 62, 5), (81, .return_, 1, 0, 0)]
abbrev ab_m86 : ab_M := (4, ({ cls := "CodeSmith$Assembler", name := "readConstant", desc := "()V" } : Jvm.MethodName), prog_2_method_14_code, 4, (Option.none : Option Jvm.ClassFile.FieldType), 0, 812)
/-- CodeSmith$Assembler.patternOf(LCodeSmith$Statement;)Ljava/lang/String; -/
def ab_c87 : List ab_I := [(0, .aload_n 1, 1, 0, 0), (1, .getstatic 222, 3, 439, 0), (4, .if_acmp .ne 23, 3, 27, 0), (7, .aload_n 0, 1, 0, 0), (8, .getfield 21, 3, 0, 2), (11, .iconst 0, 1, 0, 0), (12, .invokevirtual 226, 3, 88, 1), (15, .iconst (-1), 1, 0, 0), (16, .if_icmp .ne 11, 3, 27, 0), (19, .aload_n 0, 1, 0, 0), (20, .iconst 1, 1, 0, 0), (21, .putfield 187, 3, 0, 11), (24, .ldc 229, 2, 6, 1), (26, .areturn, 1, 0, 0), (27, .aload_n 1, 1, 0, 0), (28, .getstatic 231, 3, 440, 0), (31, .if_acmp .ne 23, 3, 54, 0), (34, .aload_n 0, 1, 0, 0), (35, .getfield 21, 3, 0, 2), (38, .invokevirtual 151, 3, 44, 0), (41, .bipush 44, 2, 0, 0), (43, .if_icmp .eq 11, 3, 54, 0), (46, .aload_n 0, 1, 0, 0), (47, .iconst 1, 1, 0, 0), (48, .putfield 187, 3, 0, 11), (51, .ldc 234, 2, 7, 1), (53, .areturn, 1, 0, 0), (54, .aload_n 1, 1, 0, 0), (55, .getfield 235, 3, 100, 3), (58, .areturn, 1, 0, 0)]
abbrev ab_m87 : ab_M := (4, ({ cls := "CodeSmith$Assembler", name := "patternOf", desc := "(LCodeSmith$Statement;)Ljava/lang/String;" } : Jvm.MethodName), prog_2_method_15_code, 2, (Option.some (Jvm.ClassFile.FieldType.object "java/lang/String")), 1, 816)
/-- CodeSmith$Tokens.registerAhead(I)I -/
def ab_c88 : List ab_I := [(0, .aload_n 0, 1, 0, 0), (1, .getfield 59, 3, 4, 15), (4, .iload_n 1, 1, 0, 0), (5, .iadd, 1, 0, 0), (6, .istore_n 2, 1, 0, 0), (7, .iload_n 2, 1, 0, 0), (8, .ifCond .lt 21, 3, 29, 0), (11, .iload_n 2, 1, 0, 0), (12, .aload_n 0, 1, 0, 0), (13, .getfield 88, 3, 4, 14), (16, .if_icmp .ge 13, 3, 29, 0), (19, .aload_n 0, 1, 0, 0), (20, .getfield 15, 3, 4, 11), (23, .iload_n 2, 1, 0, 0), (24, .iaload, 1, 0, 0), (25, .iconst 1, 1, 0, 0), (26, .if_icmp .eq 5, 3, 31, 0), (29, .iconst (-1), 1, 0, 0), (30, .ireturn, 1, 0, 0), (31, .aload_n 0, 1, 0, 0), (32, .aload_n 0, 1, 0, 0), (33, .getfield 19, 3, 4, 12), (36, .iload_n 2, 1, 0, 0), (37, .iaload, 1, 0, 0), (38, .aload_n 0, 1, 0, 0), (39, .getfield 22, 3, 4, 13), (42, .iload_n 2, 1, 0, 0), (43, .iaload, 1, 0, 0), (44, .invokevirtual 91, 3, 48, 2), (47, .ireturn, 1, 0, 0)]
abbrev ab_m88 : ab_M := (2, ({ cls := "CodeSmith$Tokens", name := "registerAhead", desc := "(I)I" } : Jvm.MethodName), prog_7_method_8_code, 3, (Option.some Jvm.ClassFile.FieldType.int), 1, 822)
/-- CodeSmith$Assembler.readOperands(Ljava/lang/String;)V -/
def ab_c89 : List ab_I := [(0, .iconst 0, 1, 0, 0), (1, .istore_n 2, 1, 0, 0), (2, .iload_n 2, 1, 0, 0), (3, .aload_n 1, 1, 0, 0), (4, .invokevirtual 238, 3, 52, 0), (7, .if_icmp .ge 164, 3, 171, 0), (10, .aload_n 1, 1, 0, 0), (11, .iload_n 2, 1, 0, 0), (12, .invokevirtual 242, 3, 54, 1), (15, .istore_n 3, 1, 0, 0), (16, .iload_n 3, 1, 0, 0), (17, .tableswitch 140 97 110 #[82, 93, 140, 71, 115, 140, 140, 140, 140, 140, 140, 140, 140, 104], 71, 0, 0), (88, .aload_n 0, 1, 0, 0), (89, .aload_n 0, 1, 0, 0), (90, .invokevirtual 246, 3, 90, 0), (93, .putfield 187, 3, 0, 11), (96, .goto 69, 3, 165, 0), (99, .aload_n 0, 1, 0, 0), (100, .aload_n 0, 1, 0, 0), (101, .invokevirtual 246, 3, 90, 0), (104, .putfield 190, 3, 0, 12), (107, .goto 58, 3, 165, 0), (110, .aload_n 0, 1, 0, 0), (111, .aload_n 0, 1, 0, 0), (112, .invokevirtual 246, 3, 90, 0), (115, .putfield 193, 3, 0, 13), (118, .goto 47, 3, 165, 0), (121, .aload_n 0, 1, 0, 0), (122, .getfield 21, 3, 0, 2), (125, .iconst 1, 1, 0, 0), (126, .invokevirtual 98, 3, 45, 1), (129, .goto 36, 3, 165, 0), (132, .aload_n 0, 1, 0, 0), (133, .aload_n 1, 1, 0, 0), (134, .iload_n 2, 1, 0, 0), (135, .invokevirtual 249, 3, 91, 2), (138, .ifCond .ne 27, 3, 165, 0), (141, .aload_n 0, 1, 0, 0), (142, .aload_n 0, 1, 0, 0), (143, .getfield 29, 3, 0, 4), (146, .iconst 1, 1, 0, 0), (147, .iconst 0, 1, 0, 0), (148, .invokevirtual 209, 3, 68, 2), (151, .putfield 196, 3, 0, 14), (154, .goto 11, 3, 165, 0), (157, .aload_n 0, 1, 0, 0), (158, .getfield 21, 3, 0, 2), (161, .iload_n 3, 1, 0, 0), (162, .invokevirtual 98, 3, 45, 1), (165, .iinc 2 1, 3, 0, 0), (168, .goto (-166), 3, 2, 0), (171, .return_, 1, 0, 0)]
abbrev ab_m89 : ab_M := (4, ({ cls := "CodeSmith$Assembler", name := "readOperands", desc := "(Ljava/lang/String;)V" } : Jvm.MethodName), prog_2_method_16_code, 4, (Option.none : Option Jvm.ClassFile.FieldType), 1, 831)
/-- CodeSmith$Assembler.readRegister()I -/
def ab_c90 : List ab_I := [(0, .aload_n 0, 1, 0, 0), (1, .getfield 21, 3, 0, 2), (4, .getfield 89, 3, 4, 4), (7, .istore_n 1, 1, 0, 0), (8, .aload_n 0, 1, 0, 0), (9, .getfield 21, 3, 0, 2), (12, .iconst 0, 1, 0, 0), (13, .invokevirtual 226, 3, 88, 1), (16, .istore_n 2, 1, 0, 0), (17, .aload_n 0, 1, 0, 0), (18, .getfield 21, 3, 0, 2), (21, .iconst 1, 1, 0, 0), (22, .invokevirtual 98, 3, 45, 1), (25, .iload_n 2, 1, 0, 0), (26, .iconst (-1), 1, 0, 0), (27, .if_icmp .ne 12, 3, 39, 0), (30, .aload_n 0, 1, 0, 0), (31, .getfield 21, 3, 0, 2), (34, .iload_n 1, 1, 0, 0), (35, .iconst 1, 1, 0, 0), (36, .invokevirtual 106, 3, 46, 2), (39, .iload_n 2, 1, 0, 0), (40, .ireturn, 1, 0, 0)]
abbrev ab_m90 : ab_M := (4, ({ cls := "CodeSmith$Assembler", name := "readRegister", desc := "()I" } : Jvm.MethodName), prog_2_method_17_code, 3, (Option.some Jvm.ClassFile.FieldType.int), 0, 837)
/-- CodeSmith$Assembler.isBaseAlone(Ljava/lang/String;I)Z -/
def ab_c91 : List ab_I := [(0, .iload_n 2, 1, 0, 0), (1, .iconst 1, 1, 0, 0), (2, .iadd, 1, 0, 0), (3, .aload_n 1, 1, 0, 0), (4, .invokevirtual 238, 3, 52, 0), (7, .if_icmp .ge 43, 3, 50, 0), (10, .aload_n 1, 1, 0, 0), (11, .iload_n 2, 1, 0, 0), (12, .iconst 1, 1, 0, 0), (13, .iadd, 1, 0, 0), (14, .invokevirtual 242, 3, 54, 1), (17, .bipush 40, 2, 0, 0), (19, .if_icmp .ne 31, 3, 50, 0), (22, .aload_n 0, 1, 0, 0), (23, .getfield 21, 3, 0, 2), (26, .getfield 84, 3, 4, 3), (29, .bipush 40, 2, 0, 0), (31, .if_icmp .ne 19, 3, 50, 0), (34, .aload_n 0, 1, 0, 0), (35, .getfield 21, 3, 0, 2), (38, .iconst 1, 1, 0, 0), (39, .invokevirtual 226, 3, 88, 1), (42, .iconst (-1), 1, 0, 0), (43, .if_icmp .eq 7, 3, 50, 0), (46, .iconst 1, 1, 0, 0), (47, .goto 4, 3, 51, 0), (50, .iconst 0, 1, 0, 0), (51, .ireturn, 1, 0, 0)]
abbrev ab_m91 : ab_M := (4, ({ cls := "CodeSmith$Assembler", name := "isBaseAlone", desc := "(Ljava/lang/String;I)Z" } : Jvm.MethodName), prog_2_method_18_code, 3, (Option.some Jvm.ClassFile.FieldType.boolean), 2, 841)
def ab_pr7 : List (ab_M × List ab_I) := [(ab_m83, ab_c83), (ab_m84, ab_c84), (ab_m85, ab_c85), (ab_m86, ab_c86), (ab_m87, ab_c87), (ab_m88, ab_c88), (ab_m89, ab_c89), (ab_m90, ab_c90), (ab_m91, ab_c91)]
set_option maxRecDepth 1000000 in
theorem ab_pr7_ok : ab_pr7.all ab_mok = true := sorry

abbrev ab_m92 : ab_M := (4, ({ cls := "CodeSmith$Assembler", name := "putInstruction", desc := "(LCodeSmith$Statement;)V" } : Jvm.MethodName), prog_2_method_24_code, 4, (Option.none : Option Jvm.ClassFile.FieldType), 1, 845)
def ab_c92_0 : List ab_I := [(0, .aload_n 1, 1, 0, 0), (1, .getfield 117, 3, 100, 5), (4, .aload_n 0, 1, 0, 0), (5, .getfield 187, 3, 0, 11), (8, .bipush 7, 2, 0, 0), (10, .ishl, 1, 0, 0), (11, .ior, 1, 0, 0), (12, .aload_n 0, 1, 0, 0), (13, .getfield 190, 3, 0, 12), (16, .bipush 15, 2, 0, 0), (18, .ishl, 1, 0, 0), (19, .ior, 1, 0, 0), (20, .aload_n 0, 1, 0, 0), (21, .getfield 193, 3, 0, 13), (24, .bipush 20, 2, 0, 0), (26, .ishl, 1, 0, 0), (27, .ior, 1, 0, 0), (28, .istore_n 2, 1, 0, 0), (29, .aload_n 0, 1, 0, 0), (30, .getfield 196, 3, 0, 14), (33, .aload_n 0, 1, 0, 0), (34, .getfield 29, 3, 0, 4), (37, .getfield 203, 3, 1, 1), (40, .isub, 1, 0, 0), (41, .istore_n 3, 1, 0, 0), (42, .aload_n 1, 1, 0, 0), (43, .getfield 109, 3, 100, 4), (46, .tableswitch 286 7 15 #[50, 59, 90, 118, 162, 184, 213, 235, 242], 50, 0, 0), (96, .aload_n 0, 1, 0, 0), (97, .iload_n 2, 1, 0, 0), (98, .iconst 4, 1, 0, 0), (99, .invokevirtual 212, 3, 82, 2), (102, .goto 230, 3, 332, 0), (105, .aload_n 0, 1, 0, 0), (106, .aload_n 0, 1, 0, 0), (107, .getfield 196, 3, 0, 14), (110, .sipush (-2048), 3, 0, 0), (113, .sipush 2047, 3, 0, 0), (116, .invokevirtual 268, 3, 93, 3), (119, .aload_n 0, 1, 0, 0), (120, .iload_n 2, 1, 0, 0), (121, .aload_n 0, 1, 0, 0), (122, .getfield 196, 3, 0, 14), (125, .bipush 20, 2, 0, 0), (127, .ishl, 1, 0, 0)]
set_option maxRecDepth 1000000 in
theorem ab_c92_0_ok : ab_c92_0.all (ab_eok 4 prog_2_method_24_code) = true := sorry
def ab_c92_1 : List ab_I := [(128, .ior, 1, 0, 0), (129, .iconst 4, 1, 0, 0), (130, .invokevirtual 212, 3, 82, 2), (133, .goto 199, 3, 332, 0), (136, .aload_n 0, 1, 0, 0), (137, .aload_n 0, 1, 0, 0), (138, .getfield 196, 3, 0, 14), (141, .iconst 0, 1, 0, 0), (142, .bipush 31, 2, 0, 0), (144, .invokevirtual 268, 3, 93, 3), (147, .aload_n 0, 1, 0, 0), (148, .iload_n 2, 1, 0, 0), (149, .aload_n 0, 1, 0, 0), (150, .getfield 196, 3, 0, 14), (153, .bipush 20, 2, 0, 0), (155, .ishl, 1, 0, 0), (156, .ior, 1, 0, 0), (157, .iconst 4, 1, 0, 0), (158, .invokevirtual 212, 3, 82, 2), (161, .goto 171, 3, 332, 0), (164, .aload_n 0, 1, 0, 0), (165, .aload_n 0, 1, 0, 0), (166, .getfield 196, 3, 0, 14), (169, .sipush (-2048), 3, 0, 0), (172, .sipush 2047, 3, 0, 0), (175, .invokevirtual 268, 3, 93, 3), (178, .aload_n 0, 1, 0, 0), (179, .iload_n 2, 1, 0, 0), (180, .aload_n 0, 1, 0, 0), (181, .getfield 196, 3, 0, 14), (184, .iconst 5, 1, 0, 0), (185, .ishr, 1, 0, 0), (186, .bipush 25, 2, 0, 0), (188, .ishl, 1, 0, 0), (189, .ior, 1, 0, 0), (190, .aload_n 0, 1, 0, 0), (191, .getfield 196, 3, 0, 14), (194, .bipush 31, 2, 0, 0), (196, .iand, 1, 0, 0), (197, .bipush 7, 2, 0, 0), (199, .ishl, 1, 0, 0), (200, .ior, 1, 0, 0), (201, .iconst 4, 1, 0, 0), (202, .invokevirtual 212, 3, 82, 2), (205, .goto 127, 3, 332, 0)]
set_option maxRecDepth 1000000 in
theorem ab_c92_1_ok : ab_c92_1.all (ab_eok 4 prog_2_method_24_code) = true := sorry
def ab_c92_2 : List ab_I := [(208, .aload_n 0, 1, 0, 0), (209, .iload_n 3, 1, 0, 0), (210, .sipush 4096, 3, 0, 0), (213, .invokevirtual 271, 3, 94, 2), (216, .aload_n 0, 1, 0, 0), (217, .iload_n 2, 1, 0, 0), (218, .iload_n 3, 1, 0, 0), (219, .invokestatic 274, 3, 95, 1), (222, .ior, 1, 0, 0), (223, .iconst 4, 1, 0, 0), (224, .invokevirtual 212, 3, 82, 2), (227, .goto 105, 3, 332, 0), (230, .aload_n 0, 1, 0, 0), (231, .aload_n 0, 1, 0, 0), (232, .getfield 196, 3, 0, 14), (235, .iconst 0, 1, 0, 0), (236, .ldc_w 277, 3, 1048575, 0), (239, .invokevirtual 268, 3, 93, 3), (242, .aload_n 0, 1, 0, 0), (243, .iload_n 2, 1, 0, 0), (244, .aload_n 0, 1, 0, 0), (245, .getfield 196, 3, 0, 14), (248, .bipush 12, 2, 0, 0), (250, .ishl, 1, 0, 0), (251, .ior, 1, 0, 0), (252, .iconst 4, 1, 0, 0), (253, .invokevirtual 212, 3, 82, 2), (256, .goto 76, 3, 332, 0), (259, .aload_n 0, 1, 0, 0), (260, .iload_n 3, 1, 0, 0), (261, .ldc_w 278, 3, 1048576, 0), (264, .invokevirtual 271, 3, 94, 2), (267, .aload_n 0, 1, 0, 0), (268, .iload_n 2, 1, 0, 0), (269, .iload_n 3, 1, 0, 0), (270, .invokestatic 279, 3, 96, 1), (273, .ior, 1, 0, 0), (274, .iconst 4, 1, 0, 0), (275, .invokevirtual 212, 3, 82, 2), (278, .goto 54, 3, 332, 0), (281, .aload_n 0, 1, 0, 0), (282, .invokevirtual 282, 3, 97, 0), (285, .goto 47, 3, 332, 0), (288, .aload_n 0, 1, 0, 0), (289, .invokevirtual 258, 3, 98, 0)]
set_option maxRecDepth 1000000 in
theorem ab_c92_2_ok : ab_c92_2.all (ab_eok 4 prog_2_method_24_code) = true := sorry
def ab_c92_3 : List ab_I := [(292, .ifCond .eq 33, 3, 325, 0), (295, .aload_n 0, 1, 0, 0), (296, .getstatic 285, 3, 412, 0), (299, .getfield 117, 3, 100, 5), (302, .aload_n 0, 1, 0, 0), (303, .getfield 187, 3, 0, 11), (306, .bipush 7, 2, 0, 0), (308, .ishl, 1, 0, 0), (309, .ior, 1, 0, 0), (310, .aload_n 0, 1, 0, 0), (311, .getfield 196, 3, 0, 14), (314, .bipush 20, 2, 0, 0), (316, .ishl, 1, 0, 0), (317, .ior, 1, 0, 0), (318, .iconst 4, 1, 0, 0), (319, .invokevirtual 212, 3, 82, 2), (322, .goto 10, 3, 332, 0), (325, .aload_n 0, 1, 0, 0), (326, .invokevirtual 282, 3, 97, 0), (329, .goto 3, 3, 332, 0), (332, .return_, 1, 0, 0)]
set_option maxRecDepth 1000000 in
theorem ab_c92_3_ok : ab_c92_3.all (ab_eok 4 prog_2_method_24_code) = true := sorry
/-- CodeSmith$Assembler.putInstruction(LCodeSmith$Statement;)V -/
def ab_c92 : List ab_I := ab_c92_0 ++ (ab_c92_1 ++ (ab_c92_2 ++ (ab_c92_3)))
def ab_pr8 : List (ab_M × List ab_I) := [(ab_m92, ab_c92)]
set_option maxRecDepth 1000000 in
theorem ab_m92_w : lw_tbl[845]? = some (.code ({ cls := "CodeSmith$Assembler", name := "putInstruction", desc := "(LCodeSmith$Statement;)V" } : Jvm.MethodName) prog_2_method_24_code 4 (Option.none : Option Jvm.ClassFile.FieldType)) := rfl
set_option maxRecDepth 1000000 in
theorem ab_m92_h : ab_hok ab_m92 = true := sorry
theorem ab_c92_all : ab_c92.all (ab_eok 4 prog_2_method_24_code) = true := sorry
theorem ab_pr8_ok : ab_pr8.all ab_mok = true := sorry

/-- CodeSmith$Assembler.checkNumber(III)V -/
def ab_c93 : List ab_I := [(0, .iload_n 1, 1, 0, 0), (1, .iload_n 2, 1, 0, 0), (2, .if_icmp .lt 8, 3, 10, 0), (5, .iload_n 1, 1, 0, 0), (6, .iload_n 3, 1, 0, 0), (7, .if_icmp .le 16, 3, 23, 0), (10, .aload_n 0, 1, 0, 0), (11, .getfield 21, 3, 0, 2), (14, .aload_n 0, 1, 0, 0), (15, .getfield 92, 3, 0, 10), (18, .bipush 10, 2, 0, 0), (20, .invokevirtual 106, 3, 46, 2), (23, .return_, 1, 0, 0)]
abbrev ab_m93 : ab_M := (4, ({ cls := "CodeSmith$Assembler", name := "checkNumber", desc := "(III)V" } : Jvm.MethodName), prog_2_method_26_code, 4, (Option.none : Option Jvm.ClassFile.FieldType), 3, 849)
/-- CodeSmith$Assembler.checkDistance(II)V -/
def ab_c94 : List ab_I := [(0, .iload_n 1, 1, 0, 0), (1, .iconst 1, 1, 0, 0), (2, .iand, 1, 0, 0), (3, .ifCond .ne 14, 3, 17, 0), (6, .iload_n 1, 1, 0, 0), (7, .iload_n 2, 1, 0, 0), (8, .ineg, 1, 0, 0), (9, .if_icmp .lt 8, 3, 17, 0), (12, .iload_n 1, 1, 0, 0), (13, .iload_n 2, 1, 0, 0), (14, .if_icmp .lt 16, 3, 30, 0), (17, .aload_n 0, 1, 0, 0), (18, .getfield 21, 3, 0, 2), (21, .aload_n 0, 1, 0, 0), (22, .getfield 92, 3, 0, 10), (25, .bipush 10, 2, 0, 0), (27, .invokevirtual 106, 3, 46, 2), (30, .return_, 1, 0, 0)]
abbrev ab_m94 : ab_M := (4, ({ cls := "CodeSmith$Assembler", name := "checkDistance", desc := "(II)V" } : Jvm.MethodName), prog_2_method_27_code, 3, (Option.none : Option Jvm.ClassFile.FieldType), 2, 853)
/-- CodeSmith$Assembler.branchBits(I)I -/
def ab_c95 : List ab_I := [(0, .iload_n 0, 1, 0, 0), (1, .bipush 12, 2, 0, 0), (3, .ishr, 1, 0, 0), (4, .bipush 31, 2, 0, 0), (6, .ishl, 1, 0, 0), (7, .iload_n 0, 1, 0, 0), (8, .iconst 5, 1, 0, 0), (9, .ishr, 1, 0, 0), (10, .bipush 63, 2, 0, 0), (12, .iand, 1, 0, 0), (13, .bipush 25, 2, 0, 0), (15, .ishl, 1, 0, 0), (16, .ior, 1, 0, 0), (17, .iload_n 0, 1, 0, 0), (18, .iconst 1, 1, 0, 0), (19, .ishr, 1, 0, 0), (20, .bipush 15, 2, 0, 0), (22, .iand, 1, 0, 0), (23, .bipush 8, 2, 0, 0), (25, .ishl, 1, 0, 0), (26, .ior, 1, 0, 0), (27, .iload_n 0, 1, 0, 0), (28, .bipush 11, 2, 0, 0), (30, .ishr, 1, 0, 0), (31, .iconst 1, 1, 0, 0), (32, .iand, 1, 0, 0), (33, .bipush 7, 2, 0, 0), (35, .ishl, 1, 0, 0), (36, .ior, 1, 0, 0), (37, .ireturn, 1, 0, 0)]
abbrev ab_m95 : ab_M := (4, ({ cls := "CodeSmith$Assembler", name := "branchBits", desc := "(I)I" } : Jvm.MethodName), prog_2_method_28_code, 1, (Option.some Jvm.ClassFile.FieldType.int), 1, 856)
/-- CodeSmith$Assembler.jumpBits(I)I -/
def ab_c96 : List ab_I := [(0, .iload_n 0, 1, 0, 0), (1, .bipush 20, 2, 0, 0), (3, .ishr, 1, 0, 0), (4, .bipush 31, 2, 0, 0), (6, .ishl, 1, 0, 0), (7, .iload_n 0, 1, 0, 0), (8, .iconst 1, 1, 0, 0), (9, .ishr, 1, 0, 0), (10, .sipush 1023, 3, 0, 0), (13, .iand, 1, 0, 0), (14, .bipush 21, 2, 0, 0), (16, .ishl, 1, 0, 0), (17, .ior, 1, 0, 0), (18, .iload_n 0, 1, 0, 0), (19, .bipush 11, 2, 0, 0), (21, .ishr, 1, 0, 0), (22, .iconst 1, 1, 0, 0), (23, .iand, 1, 0, 0), (24, .bipush 20, 2, 0, 0), (26, .ishl, 1, 0, 0), (27, .ior, 1, 0, 0), (28, .iload_n 0, 1, 0, 0), (29, .bipush 12, 2, 0, 0), (31, .ishr, 1, 0, 0), (32, .sipush 255, 3, 0, 0), (35, .iand, 1, 0, 0), (36, .bipush 12, 2, 0, 0), (38, .ishl, 1, 0, 0), (39, .ior, 1, 0, 0), (40, .ireturn, 1, 0, 0)]
abbrev ab_m96 : ab_M := (4, ({ cls := "CodeSmith$Assembler", name := "jumpBits", desc := "(I)I" } : Jvm.MethodName), prog_2_method_29_code, 1, (Option.some Jvm.ClassFile.FieldType.int), 1, 861)
/-- CodeSmith$Assembler.putAddress()V -/
def ab_c97 : List ab_I := [(0, .aload_n 0, 1, 0, 0), (1, .getstatic 288, 3, 448, 0), (4, .getfield 117, 3, 100, 5), (7, .aload_n 0, 1, 0, 0), (8, .getfield 187, 3, 0, 11), (11, .bipush 7, 2, 0, 0), (13, .ishl, 1, 0, 0), (14, .ior, 1, 0, 0), (15, .aload_n 0, 1, 0, 0), (16, .getfield 196, 3, 0, 14), (19, .invokestatic 291, 3, 77, 1), (22, .bipush 12, 2, 0, 0), (24, .ishl, 1, 0, 0), (25, .ior, 1, 0, 0), (26, .iconst 4, 1, 0, 0), (27, .invokevirtual 212, 3, 82, 2), (30, .aload_n 0, 1, 0, 0), (31, .getstatic 285, 3, 412, 0), (34, .getfield 117, 3, 100, 5), (37, .aload_n 0, 1, 0, 0), (38, .getfield 187, 3, 0, 11), (41, .bipush 7, 2, 0, 0), (43, .ishl, 1, 0, 0), (44, .ior, 1, 0, 0), (45, .aload_n 0, 1, 0, 0), (46, .getfield 187, 3, 0, 11), (49, .bipush 15, 2, 0, 0), (51, .ishl, 1, 0, 0), (52, .ior, 1, 0, 0), (53, .aload_n 0, 1, 0, 0), (54, .getfield 196, 3, 0, 14), (57, .invokestatic 294, 3, 78, 1), (60, .bipush 20, 2, 0, 0), (62, .ishl, 1, 0, 0), (63, .ior, 1, 0, 0), (64, .iconst 4, 1, 0, 0), (65, .invokevirtual 212, 3, 82, 2), (68, .return_, 1, 0, 0)]
abbrev ab_m97 : ab_M := (4, ({ cls := "CodeSmith$Assembler", name := "putAddress", desc := "()V" } : Jvm.MethodName), prog_2_method_25_code, 1, (Option.none : Option Jvm.ClassFile.FieldType), 0, 865)
/-- CodeSmith$Assembler.isShort()Z -/
def ab_c98 : List ab_I := [(0, .aload_n 0, 1, 0, 0), (1, .getfield 29, 3, 0, 4), (4, .getfield 200, 3, 1, 3), (7, .ifCond .eq 27, 3, 34, 0), (10, .aload_n 0, 1, 0, 0), (11, .getfield 196, 3, 0, 14), (14, .sipush (-2048), 3, 0, 0), (17, .if_icmp .lt 17, 3, 34, 0), (20, .aload_n 0, 1, 0, 0), (21, .getfield 196, 3, 0, 14), (24, .sipush 2047, 3, 0, 0), (27, .if_icmp .gt 7, 3, 34, 0), (30, .iconst 1, 1, 0, 0), (31, .goto 4, 3, 35, 0), (34, .iconst 0, 1, 0, 0), (35, .ireturn, 1, 0, 0)]
abbrev ab_m98 : ab_M := (4, ({ cls := "CodeSmith$Assembler", name := "isShort", desc := "()Z" } : Jvm.MethodName), prog_2_method_22_code, 1, (Option.some Jvm.ClassFile.FieldType.boolean), 0, 875)
/-- CodeSmith$Assembler.check(LCodeSmith$Statement;)V -/
def ab_c99 : List ab_I := [(0, .aload_n 1, 1, 0, 0), (1, .getfield 109, 3, 100, 4), (4, .bipush 7, 2, 0, 0), (6, .if_icmp .lt 25, 3, 31, 0), (9, .aload_n 0, 1, 0, 0), (10, .invokevirtual 163, 3, 61, 0), (13, .iconst 3, 1, 0, 0), (14, .iand, 1, 0, 0), (15, .ifCond .eq 16, 3, 31, 0), (18, .aload_n 0, 1, 0, 0), (19, .getfield 21, 3, 0, 2), (22, .aload_n 0, 1, 0, 0), (23, .getfield 92, 3, 0, 10), (26, .bipush 7, 2, 0, 0), (28, .invokevirtual 106, 3, 46, 2), (31, .aload_n 1, 1, 0, 0), (32, .getfield 109, 3, 100, 4), (35, .iconst 4, 1, 0, 0), (36, .if_icmp .ne 32, 3, 68, 0), (39, .aload_n 0, 1, 0, 0), (40, .getfield 196, 3, 0, 14), (43, .ifCond .lt 12, 3, 55, 0), (46, .aload_n 0, 1, 0, 0), (47, .getfield 196, 3, 0, 14), (50, .ldc 253, 2, 65420, 0), (52, .if_icmp .le 16, 3, 68, 0), (55, .aload_n 0, 1, 0, 0), (56, .getfield 21, 3, 0, 2), (59, .aload_n 0, 1, 0, 0), (60, .getfield 92, 3, 0, 10), (63, .bipush 6, 2, 0, 0), (65, .invokevirtual 106, 3, 46, 2), (68, .aload_n 1, 1, 0, 0), (69, .getfield 109, 3, 100, 4), (72, .iconst 5, 1, 0, 0), (73, .if_icmp .ne 32, 3, 105, 0), (76, .aload_n 0, 1, 0, 0), (77, .getfield 196, 3, 0, 14), (80, .ifCond .lt 12, 3, 92, 0), (83, .aload_n 0, 1, 0, 0), (84, .getfield 196, 3, 0, 14), (87, .bipush 12, 2, 0, 0), (89, .if_icmp .le 16, 3, 105, 0), (92, .aload_n 0, 1, 0, 0), (93, .getfield 21, 3, 0, 2), (96, .aload_n 0, 1, 0, 0), (97, .getfield 92, 3, 0, 10), (100, .bipush 6, 2, 0, 0), (102, .invokevirtual 106, 3, 46, 2), (105, .aload_n 0, 1, 0, 0), (106, .getfield 55, 3, 0, 7), (109, .aload_n 0, 1, 0, 0), (110, .getfield 58, 3, 0, 8), (113, .iadd, 1, 0, 0), (114, .aload_n 0, 1, 0, 0), (115, .aload_n 1, 1, 0, 0), (116, .invokevirtual 254, 3, 100, 1), (119, .iadd, 1, 0, 0), (120, .ldc 253, 2, 65420, 0), (122, .if_icmp .le 16, 3, 138, 0), (125, .aload_n 0, 1, 0, 0), (126, .getfield 21, 3, 0, 2), (129, .aload_n 0, 1, 0, 0), (130, .getfield 92, 3, 0, 10), (133, .bipush 6, 2, 0, 0), (135, .invokevirtual 106, 3, 46, 2), (138, .return_, 1, 0, 0)]
abbrev ab_m99 : ab_M := (4, ({ cls := "CodeSmith$Assembler", name := "check", desc := "(LCodeSmith$Statement;)V" } : Jvm.MethodName), prog_2_method_19_code, 2, (Option.none : Option Jvm.ClassFile.FieldType), 1, 879)
/-- CodeSmith$Assembler.bytesOf(LCodeSmith$Statement;)I -/
def ab_c100 : List ab_I := [(0, .aload_n 1, 1, 0, 0), (1, .getfield 109, 3, 100, 4), (4, .tableswitch 124 0 15 #[80, 80, 82, 82, 87, 92, 80, 124, 124, 124, 124, 124, 124, 124, 107, 110], 80, 0, 0), (84, .iconst 0, 1, 0, 0), (85, .ireturn, 1, 0, 0), (86, .aload_n 0, 1, 0, 0), (87, .getfield 197, 3, 0, 15), (90, .ireturn, 1, 0, 0), (91, .aload_n 0, 1, 0, 0), (92, .getfield 196, 3, 0, 14), (95, .ireturn, 1, 0, 0), (96, .aload_n 0, 1, 0, 0), (97, .invokevirtual 163, 3, 61, 0), (100, .ineg, 1, 0, 0), (101, .iconst 1, 1, 0, 0), (102, .aload_n 0, 1, 0, 0), (103, .getfield 196, 3, 0, 14), (106, .ishl, 1, 0, 0), (107, .iconst 1, 1, 0, 0), (108, .isub, 1, 0, 0), (109, .iand, 1, 0, 0), (110, .ireturn, 1, 0, 0), (111, .bipush 8, 2, 0, 0), (113, .ireturn, 1, 0, 0), (114, .aload_n 0, 1, 0, 0), (115, .invokevirtual 258, 3, 98, 0), (118, .ifCond .eq 7, 3, 125, 0), (121, .iconst 4, 1, 0, 0), (122, .goto 5, 3, 127, 0), (125, .bipush 8, 2, 0, 0), (127, .ireturn, 1, 0, 0), (128, .iconst 4, 1, 0, 0), (129, .ireturn, 1, 0, 0)]
abbrev ab_m100 : ab_M := (4, ({ cls := "CodeSmith$Assembler", name := "bytesOf", desc := "(LCodeSmith$Statement;)I" } : Jvm.MethodName), prog_2_method_21_code, 2, (Option.some Jvm.ClassFile.FieldType.int), 1, 884)
/-- CodeSmith$Assembler.goOn(LCodeSmith$Statement;)V -/
def ab_c101 : List ab_I := [(0, .aload_n 0, 1, 0, 0), (1, .aload_n 1, 1, 0, 0), (2, .invokevirtual 254, 3, 100, 1), (5, .istore_n 2, 1, 0, 0), (6, .aload_n 0, 1, 0, 0), (7, .getfield 147, 3, 0, 6), (10, .ifCond .ne 16, 3, 26, 0), (13, .aload_n 0, 1, 0, 0), (14, .dup, 1, 0, 0), (15, .getfield 55, 3, 0, 7), (18, .iload_n 2, 1, 0, 0), (19, .iadd, 1, 0, 0), (20, .putfield 55, 3, 0, 7), (23, .goto 13, 3, 36, 0), (26, .aload_n 0, 1, 0, 0), (27, .dup, 1, 0, 0), (28, .getfield 58, 3, 0, 8), (31, .iload_n 2, 1, 0, 0), (32, .iadd, 1, 0, 0), (33, .putfield 58, 3, 0, 8), (36, .aload_n 1, 1, 0, 0), (37, .getfield 109, 3, 100, 4), (40, .iconst 1, 1, 0, 0), (41, .if_icmp .ne 11, 3, 52, 0), (44, .aload_n 0, 1, 0, 0), (45, .aload_n 1, 1, 0, 0), (46, .getfield 117, 3, 100, 5), (49, .putfield 147, 3, 0, 6), (52, .return_, 1, 0, 0)]
abbrev ab_m101 : ab_M := (4, ({ cls := "CodeSmith$Assembler", name := "goOn", desc := "(LCodeSmith$Statement;)V" } : Jvm.MethodName), prog_2_method_20_code, 3, (Option.none : Option Jvm.ClassFile.FieldType), 1, 888)
/-- CodeSmith$Assembler.beginAgain()V -/
def ab_c102 : List ab_I := [(0, .aload_n 0, 1, 0, 0), (1, .iconst 1, 1, 0, 0), (2, .putfield 43, 3, 0, 5), (5, .aload_n 0, 1, 0, 0), (6, .getfield 18, 3, 0, 1), (9, .aload_n 0, 1, 0, 0), (10, .getfield 55, 3, 0, 7), (13, .aload_n 0, 1, 0, 0), (14, .getfield 58, 3, 0, 8), (17, .invokevirtual 61, 3, 103, 2), (20, .aload_n 0, 1, 0, 0), (21, .getfield 29, 3, 0, 4), (24, .aload_n 0, 1, 0, 0), (25, .getfield 55, 3, 0, 7), (28, .sipush 4096, 3, 0, 0), (31, .iadd, 1, 0, 0), (32, .iconst 1, 1, 0, 0), (33, .isub, 1, 0, 0), (34, .sipush 4096, 3, 0, 0), (37, .idiv, 1, 0, 0), (38, .sipush 4096, 3, 0, 0), (41, .imul, 1, 0, 0), (42, .putfield 47, 3, 1, 2), (45, .aload_n 0, 1, 0, 0), (46, .invokevirtual 52, 3, 21, 0), (49, .return_, 1, 0, 0)]
abbrev ab_m102 : ab_M := (4, ({ cls := "CodeSmith$Assembler", name := "beginAgain", desc := "()V" } : Jvm.MethodName), prog_2_method_3_code, 1, (Option.none : Option Jvm.ClassFile.FieldType), 0, 893)
/-- CodeSmith$Image.prepare(II)V -/
def ab_c103 : List ab_I := [(0, .aload_n 0, 1, 0, 0), (1, .iload_n 1, 1, 0, 0), (2, .putfield 15, 3, 2, 1), (5, .aload_n 0, 1, 0, 0), (6, .iload_n 2, 1, 0, 0), (7, .putfield 19, 3, 2, 2), (10, .aload_n 0, 1, 0, 0), (11, .aload_n 0, 1, 0, 0), (12, .iconst 1, 1, 0, 0), (13, .invokevirtual 22, 3, 83, 1), (16, .iload_n 2, 1, 0, 0), (17, .iadd, 1, 0, 0), (18, .putfield 26, 3, 2, 0), (21, .aload_n 0, 1, 0, 0), (22, .getfield 26, 3, 2, 0), (25, .aload_n 0, 1, 0, 0), (26, .getfield 9, 3, 2, 4), (29, .arraylength, 1, 0, 0), (30, .if_icmp .le 31, 3, 61, 0), (33, .aload_n 0, 1, 0, 0), (34, .aload_n 0, 1, 0, 0), (35, .getfield 26, 3, 2, 0), (38, .ldc 29, 2, 65536, 0), (40, .aload_n 0, 1, 0, 0), (41, .getfield 9, 3, 2, 4), (44, .arraylength, 1, 0, 0), (45, .iconst 2, 1, 0, 0), (46, .imul, 1, 0, 0), (47, .invokestatic 30, 3, 997, 2), (50, .invokestatic 36, 3, 996, 2), (53, .newarray .byte, 2, 0, 0), (55, .putfield 9, 3, 2, 4), (58, .goto 11, 3, 69, 0), (61, .aload_n 0, 1, 0, 0), (62, .getfield 9, 3, 2, 4), (65, .iconst 0, 1, 0, 0), (66, .invokestatic 39, 3, 104, 2), (69, .return_, 1, 0, 0)]
abbrev ab_m103 : ab_M := (5, ({ cls := "CodeSmith$Image", name := "prepare", desc := "(II)V" } : Jvm.MethodName), prog_4_method_2_code, 3, (Option.none : Option Jvm.ClassFile.FieldType), 2, 897)
def ab_pr9 : List (ab_M × List ab_I) := [(ab_m93, ab_c93), (ab_m94, ab_c94), (ab_m95, ab_c95), (ab_m96, ab_c96), (ab_m97, ab_c97), (ab_m98, ab_c98), (ab_m99, ab_c99), (ab_m100, ab_c100), (ab_m101, ab_c101), (ab_m102, ab_c102), (ab_m103, ab_c103)]
set_option maxRecDepth 1000000 in
theorem ab_pr9_ok : ab_pr9.all ab_mok = true := sorry

/-- java/util/Arrays.fill([BB)V -/
def ab_c104 : List ab_I := [(0, .iconst 0, 1, 0, 0), (1, .istore_n 2, 1, 0, 0), (2, .aload_n 0, 1, 0, 0), (3, .arraylength, 1, 0, 0), (4, .istore_n 3, 1, 0, 0), (5, .iload_n 2, 1, 0, 0), (6, .iload_n 3, 1, 0, 0), (7, .if_icmp .ge 13, 3, 20, 0), (10, .aload_n 0, 1, 0, 0), (11, .iload_n 2, 1, 0, 0), (12, .iload_n 1, 1, 0, 0), (13, .bastore, 1, 0, 0), (14, .iinc 2 1, 3, 0, 0), (17, .goto (-12), 3, 5, 0), (20, .return_, 1, 0, 0)]
abbrev ab_m104 : ab_M := (6, ({ cls := "java/util/Arrays", name := "fill", desc := "([BB)V" } : Jvm.MethodName), prog_22_method_109_code, 4, (Option.none : Option Jvm.ClassFile.FieldType), 2, 904)
/-- CodeSmith$Assembler.finish()I -/
def ab_c105 : List ab_I := [(0, .aload_n 0, 1, 0, 0), (1, .getfield 18, 3, 0, 1), (4, .aload_n 0, 1, 0, 0), (5, .getfield 25, 3, 0, 3), (8, .aload_n 0, 1, 0, 0), (9, .getfield 39, 3, 0, 9), (12, .aload_n 0, 1, 0, 0), (13, .getfield 29, 3, 0, 4), (16, .getfield 47, 3, 1, 2), (19, .invokevirtual 65, 3, 73, 2), (22, .aload_n 0, 1, 0, 0), (23, .getfield 29, 3, 0, 4), (26, .getfield 47, 3, 1, 2), (29, .invokevirtual 69, 3, 106, 2), (32, .aload_n 0, 1, 0, 0), (33, .getfield 18, 3, 0, 1), (36, .aload_n 0, 1, 0, 0), (37, .getfield 25, 3, 0, 3), (40, .getfield 72, 3, 3, 0), (43, .putfield 75, 3, 2, 3), (46, .aload_n 0, 1, 0, 0), (47, .getfield 12, 3, 0, 0), (50, .astore_n 1, 1, 0, 0), (51, .aload_n 0, 1, 0, 0), (52, .aload_n 0, 1, 0, 0), (53, .getfield 18, 3, 0, 1), (56, .putfield 12, 3, 0, 0), (59, .aload_n 0, 1, 0, 0), (60, .aload_n 1, 1, 0, 0), (61, .putfield 18, 3, 0, 1), (64, .aload_n 0, 1, 0, 0), (65, .getfield 12, 3, 0, 0), (68, .getfield 78, 3, 2, 0), (71, .ireturn, 1, 0, 0)]
abbrev ab_m105 : ab_M := (4, ({ cls := "CodeSmith$Assembler", name := "finish", desc := "()I" } : Jvm.MethodName), prog_2_method_4_code, 2, (Option.some Jvm.ClassFile.FieldType.int), 0, 908)
/-- CodeSmith$Image.putHead(II)V -/
def ab_c106 : List ab_I := [(0, .aload_n 0, 1, 0, 0), (1, .iconst 0, 1, 0, 0), (2, .ldc 45, 2, 1179403647, 0), (4, .iconst 4, 1, 0, 0), (5, .invokevirtual 46, 3, 84, 3), (8, .aload_n 0, 1, 0, 0), (9, .iconst 4, 1, 0, 0), (10, .ldc 50, 2, 65793, 0), (12, .iconst 4, 1, 0, 0), (13, .invokevirtual 46, 3, 84, 3), (16, .aload_n 0, 1, 0, 0), (17, .bipush 16, 2, 0, 0), (19, .iconst 2, 1, 0, 0), (20, .iconst 2, 1, 0, 0), (21, .invokevirtual 46, 3, 84, 3), (24, .aload_n 0, 1, 0, 0), (25, .bipush 18, 2, 0, 0), (27, .sipush 243, 3, 0, 0), (30, .iconst 2, 1, 0, 0), (31, .invokevirtual 46, 3, 84, 3), (34, .aload_n 0, 1, 0, 0), (35, .bipush 20, 2, 0, 0), (37, .iconst 1, 1, 0, 0), (38, .iconst 4, 1, 0, 0), (39, .invokevirtual 46, 3, 84, 3), (42, .aload_n 0, 1, 0, 0), (43, .bipush 24, 2, 0, 0), (45, .iload_n 1, 1, 0, 0), (46, .iconst 4, 1, 0, 0), (47, .invokevirtual 46, 3, 84, 3), (50, .aload_n 0, 1, 0, 0), (51, .bipush 28, 2, 0, 0), (53, .bipush 52, 2, 0, 0), (55, .iconst 4, 1, 0, 0), (56, .invokevirtual 46, 3, 84, 3), (59, .aload_n 0, 1, 0, 0), (60, .bipush 40, 2, 0, 0), (62, .bipush 52, 2, 0, 0), (64, .iconst 2, 1, 0, 0), (65, .invokevirtual 46, 3, 84, 3), (68, .aload_n 0, 1, 0, 0), (69, .bipush 42, 2, 0, 0), (71, .bipush 32, 2, 0, 0), (73, .iconst 2, 1, 0, 0), (74, .invokevirtual 46, 3, 84, 3), (77, .aload_n 0, 1, 0, 0), (78, .bipush 44, 2, 0, 0), (80, .aload_n 0, 1, 0, 0), (81, .getfield 19, 3, 2, 2), (84, .ifCond .le 7, 3, 91, 0), (87, .iconst 2, 1, 0, 0), (88, .goto 4, 3, 92, 0), (91, .iconst 1, 1, 0, 0), (92, .iconst 2, 1, 0, 0), (93, .invokevirtual 46, 3, 84, 3), (96, .aload_n 0, 1, 0, 0), (97, .bipush 52, 2, 0, 0), (99, .aload_n 0, 1, 0, 0), (100, .iconst 0, 1, 0, 0), (101, .invokevirtual 22, 3, 83, 1), (104, .iconst 0, 1, 0, 0), (105, .aload_n 0, 1, 0, 0), (106, .getfield 15, 3, 2, 1), (109, .iconst 5, 1, 0, 0), (110, .invokevirtual 51, 3, 107, 5), (113, .aload_n 0, 1, 0, 0), (114, .getfield 19, 3, 2, 2), (117, .ifCond .le 21, 3, 138, 0), (120, .aload_n 0, 1, 0, 0), (121, .bipush 84, 2, 0, 0), (123, .aload_n 0, 1, 0, 0), (124, .iconst 1, 1, 0, 0), (125, .invokevirtual 22, 3, 83, 1), (128, .iload_n 2, 1, 0, 0), (129, .aload_n 0, 1, 0, 0), (130, .getfield 19, 3, 2, 2), (133, .bipush 6, 2, 0, 0), (135, .invokevirtual 51, 3, 107, 5), (138, .return_, 1, 0, 0)]
abbrev ab_m106 : ab_M := (5, ({ cls := "CodeSmith$Image", name := "putHead", desc := "(II)V" } : Jvm.MethodName), prog_4_method_6_code, 3, (Option.none : Option Jvm.ClassFile.FieldType), 2, 913)
/-- CodeSmith$Image.putPart(IIIII)V -/
def ab_c107 : List ab_I := [(0, .aload_n 0, 1, 0, 0), (1, .iload_n 1, 1, 0, 0), (2, .iconst 1, 1, 0, 0), (3, .iconst 4, 1, 0, 0), (4, .invokevirtual 46, 3, 84, 3), (7, .aload_n 0, 1, 0, 0), (8, .iload_n 1, 1, 0, 0), (9, .iconst 4, 1, 0, 0), (10, .iadd, 1, 0, 0), (11, .iload_n 2, 1, 0, 0), (12, .iconst 4, 1, 0, 0), (13, .invokevirtual 46, 3, 84, 3), (16, .aload_n 0, 1, 0, 0), (17, .iload_n 1, 1, 0, 0), (18, .bipush 8, 2, 0, 0), (20, .iadd, 1, 0, 0), (21, .iload_n 3, 1, 0, 0), (22, .iconst 4, 1, 0, 0), (23, .invokevirtual 46, 3, 84, 3), (26, .aload_n 0, 1, 0, 0), (27, .iload_n 1, 1, 0, 0), (28, .bipush 12, 2, 0, 0), (30, .iadd, 1, 0, 0), (31, .iload_n 3, 1, 0, 0), (32, .iconst 4, 1, 0, 0), (33, .invokevirtual 46, 3, 84, 3), (36, .aload_n 0, 1, 0, 0), (37, .iload_n 1, 1, 0, 0), (38, .bipush 16, 2, 0, 0), (40, .iadd, 1, 0, 0), (41, .iload 4, 2, 0, 0), (43, .iconst 4, 1, 0, 0), (44, .invokevirtual 46, 3, 84, 3), (47, .aload_n 0, 1, 0, 0), (48, .iload_n 1, 1, 0, 0), (49, .bipush 20, 2, 0, 0), (51, .iadd, 1, 0, 0), (52, .iload 4, 2, 0, 0), (54, .iconst 4, 1, 0, 0), (55, .invokevirtual 46, 3, 84, 3), (58, .aload_n 0, 1, 0, 0), (59, .iload_n 1, 1, 0, 0), (60, .bipush 24, 2, 0, 0), (62, .iadd, 1, 0, 0), (63, .iload 5, 2, 0, 0), (65, .iconst 4, 1, 0, 0), (66, .invokevirtual 46, 3, 84, 3), (69, .aload_n 0, 1, 0, 0), (70, .iload_n 1, 1, 0, 0), (71, .bipush 28, 2, 0, 0), (73, .iadd, 1, 0, 0), (74, .sipush 4096, 3, 0, 0), (77, .iconst 4, 1, 0, 0), (78, .invokevirtual 46, 3, 84, 3), (81, .return_, 1, 0, 0)]
abbrev ab_m107 : ab_M := (5, ({ cls := "CodeSmith$Image", name := "putPart", desc := "(IIIII)V" } : Jvm.MethodName), prog_4_method_7_code, 6, (Option.none : Option Jvm.ClassFile.FieldType), 5, 920)
def ab_pr10 : List (ab_M × List ab_I) := [(ab_m104, ab_c104), (ab_m105, ab_c105), (ab_m106, ab_c106), (ab_m107, ab_c107)]
set_option maxRecDepth 1000000 in
theorem ab_pr10_ok : ab_pr10.all ab_mok = true := sorry

abbrev ab_m108 : ab_M := (10, ({ cls := "CodeSmithModel", name := "<init>", desc := "()V" } : Jvm.MethodName), prog_9_method_1_code, 1, (Option.none : Option Jvm.ClassFile.FieldType), 0, 925)
def ab_c108_0 : List ab_I := [(0, .aload_n 0, 1, 0, 0), (1, .invokespecial 1, 3, 998, 0), (4, .aload_n 0, 1, 0, 0), (5, .bipush 33, 2, 0, 0), (7, .newarray .long, 2, 0, 0), (9, .dup, 1, 0, 0), (10, .iconst 0, 1, 0, 0), (11, .ldc2_w 7, 3, 2053468783, 0), (14, .lastore, 1, 0, 0), (15, .dup, 1, 0, 0), (16, .iconst 1, 1, 0, 0), (17, .ldc2_w 9, 3, 29281, 0), (20, .lastore, 1, 0, 0), (21, .dup, 1, 0, 0), (22, .iconst 2, 1, 0, 0), (23, .ldc2_w 11, 3, 29552, 0), (26, .lastore, 1, 0, 0), (27, .dup, 1, 0, 0), (28, .iconst 3, 1, 0, 0), (29, .ldc2_w 13, 3, 26480, 0), (32, .lastore, 1, 0, 0), (33, .dup, 1, 0, 0), (34, .iconst 4, 1, 0, 0), (35, .ldc2_w 15, 3, 29808, 0), (38, .lastore, 1, 0, 0), (39, .dup, 1, 0, 0), (40, .iconst 5, 1, 0, 0), (41, .ldc2_w 17, 3, 29744, 0), (44, .lastore, 1, 0, 0), (45, .dup, 1, 0, 0), (46, .bipush 6, 2, 0, 0), (48, .ldc2_w 19, 3, 29745, 0), (51, .lastore, 1, 0, 0), (52, .dup, 1, 0, 0), (53, .bipush 7, 2, 0, 0), (55, .ldc2_w 21, 3, 29746, 0), (58, .lastore, 1, 0, 0), (59, .dup, 1, 0, 0), (60, .bipush 8, 2, 0, 0), (62, .ldc2_w 23, 3, 29488, 0), (65, .lastore, 1, 0, 0), (66, .dup, 1, 0, 0), (67, .bipush 9, 2, 0, 0), (69, .ldc2_w 25, 3, 29489, 0), (72, .lastore, 1, 0, 0)]
set_option maxRecDepth 1000000 in
theorem ab_c108_0_ok : ab_c108_0.all (ab_eok 10 prog_9_method_1_code) = true := sorry
def ab_c108_1 : List ab_I := [(73, .dup, 1, 0, 0), (74, .bipush 10, 2, 0, 0), (76, .ldc2_w 27, 3, 24880, 0), (79, .lastore, 1, 0, 0), (80, .dup, 1, 0, 0), (81, .bipush 11, 2, 0, 0), (83, .ldc2_w 29, 3, 24881, 0), (86, .lastore, 1, 0, 0), (87, .dup, 1, 0, 0), (88, .bipush 12, 2, 0, 0), (90, .ldc2_w 31, 3, 24882, 0), (93, .lastore, 1, 0, 0), (94, .dup, 1, 0, 0), (95, .bipush 13, 2, 0, 0), (97, .ldc2_w 33, 3, 24883, 0), (100, .lastore, 1, 0, 0), (101, .dup, 1, 0, 0), (102, .bipush 14, 2, 0, 0), (104, .ldc2_w 35, 3, 24884, 0), (107, .lastore, 1, 0, 0), (108, .dup, 1, 0, 0), (109, .bipush 15, 2, 0, 0), (111, .ldc2_w 37, 3, 24885, 0), (114, .lastore, 1, 0, 0), (115, .dup, 1, 0, 0), (116, .bipush 16, 2, 0, 0), (118, .ldc2_w 39, 3, 24886, 0), (121, .lastore, 1, 0, 0), (122, .dup, 1, 0, 0), (123, .bipush 17, 2, 0, 0), (125, .ldc2_w 41, 3, 24887, 0), (128, .lastore, 1, 0, 0), (129, .dup, 1, 0, 0), (130, .bipush 18, 2, 0, 0), (132, .ldc2_w 43, 3, 29490, 0), (135, .lastore, 1, 0, 0), (136, .dup, 1, 0, 0), (137, .bipush 19, 2, 0, 0), (139, .ldc2_w 45, 3, 29491, 0), (142, .lastore, 1, 0, 0), (143, .dup, 1, 0, 0), (144, .bipush 20, 2, 0, 0), (146, .ldc2_w 47, 3, 29492, 0), (149, .lastore, 1, 0, 0), (150, .dup, 1, 0, 0)]
set_option maxRecDepth 1000000 in
theorem ab_c108_1_ok : ab_c108_1.all (ab_eok 10 prog_9_method_1_code) = true := sorry
def ab_c108_2 : List ab_I := [(151, .bipush 21, 2, 0, 0), (153, .ldc2_w 49, 3, 29493, 0), (156, .lastore, 1, 0, 0), (157, .dup, 1, 0, 0), (158, .bipush 22, 2, 0, 0), (160, .ldc2_w 51, 3, 29494, 0), (163, .lastore, 1, 0, 0), (164, .dup, 1, 0, 0), (165, .bipush 23, 2, 0, 0), (167, .ldc2_w 53, 3, 29495, 0), (170, .lastore, 1, 0, 0), (171, .dup, 1, 0, 0), (172, .bipush 24, 2, 0, 0), (174, .ldc2_w 55, 3, 29496, 0), (177, .lastore, 1, 0, 0), (178, .dup, 1, 0, 0), (179, .bipush 25, 2, 0, 0), (181, .ldc2_w 57, 3, 29497, 0), (184, .lastore, 1, 0, 0), (185, .dup, 1, 0, 0), (186, .bipush 26, 2, 0, 0), (188, .ldc2_w 59, 3, 7549232, 0), (191, .lastore, 1, 0, 0), (192, .dup, 1, 0, 0), (193, .bipush 27, 2, 0, 0), (195, .ldc2_w 61, 3, 7549233, 0), (198, .lastore, 1, 0, 0), (199, .dup, 1, 0, 0), (200, .bipush 28, 2, 0, 0), (202, .ldc2_w 63, 3, 29747, 0), (205, .lastore, 1, 0, 0), (206, .dup, 1, 0, 0), (207, .bipush 29, 2, 0, 0), (209, .ldc2_w 65, 3, 29748, 0), (212, .lastore, 1, 0, 0), (213, .dup, 1, 0, 0), (214, .bipush 30, 2, 0, 0), (216, .ldc2_w 67, 3, 29749, 0), (219, .lastore, 1, 0, 0), (220, .dup, 1, 0, 0), (221, .bipush 31, 2, 0, 0), (223, .ldc2_w 69, 3, 29750, 0), (226, .lastore, 1, 0, 0), (227, .dup, 1, 0, 0), (228, .bipush 32, 2, 0, 0)]
set_option maxRecDepth 1000000 in
theorem ab_c108_2_ok : ab_c108_2.all (ab_eok 10 prog_9_method_1_code) = true := sorry
def ab_c108_3 : List ab_I := [(230, .ldc2_w 71, 3, 26224, 0), (233, .lastore, 1, 0, 0), (234, .putfield 73, 3, 6, 0), (237, .aload_n 0, 1, 0, 0), (238, .bipush 83, 2, 0, 0), (240, .newarray .long, 2, 0, 0), (242, .dup, 1, 0, 0), (243, .iconst 0, 1, 0, 0), (244, .ldc2_w 79, 3, 6382692, 0), (247, .lastore, 1, 0, 0), (248, .dup, 1, 0, 0), (249, .iconst 1, 1, 0, 0), (250, .ldc2_w 81, 3, 7566690, 0), (253, .lastore, 1, 0, 0), (254, .dup, 1, 0, 0), (255, .iconst 2, 1, 0, 0), (256, .ldc2_w 83, 3, 7564396, 0), (259, .lastore, 1, 0, 0), (260, .dup, 1, 0, 0), (261, .iconst 3, 1, 0, 0), (262, .ldc2_w 85, 3, 7564404, 0), (265, .lastore, 1, 0, 0), (266, .dup, 1, 0, 0), (267, .iconst 4, 1, 0, 0), (268, .ldc2_w 87, 3, 1936487541, 0), (271, .lastore, 1, 0, 0), (272, .dup, 1, 0, 0), (273, .iconst 5, 1, 0, 0), (274, .ldc2_w 89, 3, 7892850, 0), (277, .lastore, 1, 0, 0), (278, .dup, 1, 0, 0), (279, .bipush 6, 2, 0, 0), (281, .ldc2_w 91, 3, 7565932, 0), (284, .lastore, 1, 0, 0), (285, .dup, 1, 0, 0), (286, .bipush 7, 2, 0, 0), (288, .ldc2_w 93, 3, 7565921, 0), (291, .lastore, 1, 0, 0), (292, .dup, 1, 0, 0), (293, .bipush 8, 2, 0, 0), (295, .ldc2_w 95, 3, 28530, 0), (298, .lastore, 1, 0, 0), (299, .dup, 1, 0, 0), (300, .bipush 9, 2, 0, 0), (302, .ldc2_w 97, 3, 6385252, 0)]
set_option maxRecDepth 1000000 in
theorem ab_c108_3_ok : ab_c108_3.all (ab_eok 10 prog_9_method_1_code) = true := sorry
def ab_c108_4 : List ab_I := [(305, .lastore, 1, 0, 0), (306, .dup, 1, 0, 0), (307, .bipush 10, 2, 0, 0), (309, .ldc2_w 99, 3, 7173484, 0), (312, .lastore, 1, 0, 0), (313, .dup, 1, 0, 0), (314, .bipush 11, 2, 0, 0), (316, .ldc2_w 101, 3, 1836412008, 0), (319, .lastore, 1, 0, 0), (320, .dup, 1, 0, 0), (321, .bipush 12, 2, 0, 0), (323, .ldc2_w 103, 3, 120351097385845, 0), (326, .lastore, 1, 0, 0), (327, .dup, 1, 0, 0), (328, .bipush 13, 2, 0, 0), (330, .ldc2_w 105, 3, 470121474165, 0), (333, .lastore, 1, 0, 0), (334, .dup, 1, 0, 0), (335, .bipush 14, 2, 0, 0), (337, .ldc2_w 107, 3, 6580598, 0), (340, .lastore, 1, 0, 0), (341, .dup, 1, 0, 0), (342, .bipush 15, 2, 0, 0), (344, .ldc2_w 109, 3, 1684633205, 0), (347, .lastore, 1, 0, 0), (348, .dup, 1, 0, 0), (349, .bipush 16, 2, 0, 0), (351, .ldc2_w 111, 3, 7497069, 0), (354, .lastore, 1, 0, 0), (355, .dup, 1, 0, 0), (356, .bipush 17, 2, 0, 0), (358, .ldc2_w 113, 3, 1919249781, 0), (361, .lastore, 1, 0, 0), (362, .dup, 1, 0, 0), (363, .bipush 18, 2, 0, 0), (365, .ldc2_w 115, 3, 1633969257, 0), (368, .lastore, 1, 0, 0), (369, .dup, 1, 0, 0), (370, .bipush 19, 2, 0, 0), (372, .ldc2_w 117, 3, 1936487529, 0), (375, .lastore, 1, 0, 0), (376, .dup, 1, 0, 0), (377, .bipush 20, 2, 0, 0), (379, .ldc2_w 119, 3, 495740807541, 0), (382, .lastore, 1, 0, 0)]
set_option maxRecDepth 1000000 in
theorem ab_c108_4_ok : ab_c108_4.all (ab_eok 10 prog_9_method_1_code) = true := sorry

def ab_c108_5 : List ab_I := [(383, .dup, 1, 0, 0), (384, .bipush 21, 2, 0, 0), (386, .ldc2_w 121, 3, 2020569705, 0), (389, .lastore, 1, 0, 0), (390, .dup, 1, 0, 0), (391, .bipush 22, 2, 0, 0), (393, .ldc2_w 123, 3, 7303785, 0), (396, .lastore, 1, 0, 0), (397, .dup, 1, 0, 0), (398, .bipush 23, 2, 0, 0), (400, .ldc2_w 125, 3, 1634624617, 0), (403, .lastore, 1, 0, 0), (404, .dup, 1, 0, 0), (405, .bipush 24, 2, 0, 0), (407, .ldc2_w 127, 3, 1936485481, 0), (410, .lastore, 1, 0, 0), (411, .dup, 1, 0, 0), (412, .bipush 25, 2, 0, 0), (414, .ldc2_w 129, 3, 1936878697, 0), (417, .lastore, 1, 0, 0), (418, .dup, 1, 0, 0), (419, .bipush 26, 2, 0, 0), (421, .ldc2_w 131, 3, 1936875881, 0), (424, .lastore, 1, 0, 0), (425, .dup, 1, 0, 0), (426, .bipush 27, 2, 0, 0), (428, .ldc2_w 133, 3, 27746, 0), (431, .lastore, 1, 0, 0), (432, .dup, 1, 0, 0), (433, .bipush 28, 2, 0, 0), (435, .ldc2_w 135, 3, 27752, 0), (438, .lastore, 1, 0, 0), (439, .dup, 1, 0, 0), (440, .bipush 29, 2, 0, 0), (442, .ldc2_w 137, 3, 27767, 0), (445, .lastore, 1, 0, 0), (446, .dup, 1, 0, 0), (447, .bipush 30, 2, 0, 0), (449, .ldc2_w 139, 3, 7103093, 0), (452, .lastore, 1, 0, 0), (453, .dup, 1, 0, 0), (454, .bipush 31, 2, 0, 0), (456, .ldc2_w 141, 3, 7104629, 0), (459, .lastore, 1, 0, 0), (460, .dup, 1, 0, 0)]
set_option maxRecDepth 1000000 in
theorem ab_c108_5_ok : ab_c108_5.all (ab_eok 10 prog_9_method_1_code) = true := sorry
def ab_c108_6 : List ab_I := [(461, .bipush 32, 2, 0, 0), (463, .ldc2_w 143, 3, 29538, 0), (466, .lastore, 1, 0, 0), (467, .dup, 1, 0, 0), (468, .bipush 33, 2, 0, 0), (470, .ldc2_w 145, 3, 29544, 0), (473, .lastore, 1, 0, 0), (474, .dup, 1, 0, 0), (475, .bipush 34, 2, 0, 0), (477, .ldc2_w 147, 3, 29559, 0), (480, .lastore, 1, 0, 0), (481, .dup, 1, 0, 0), (482, .bipush 35, 2, 0, 0), (484, .ldc2_w 149, 3, 6448497, 0), (487, .lastore, 1, 0, 0), (488, .dup, 1, 0, 0), (489, .bipush 36, 2, 0, 0), (491, .ldc2_w 151, 3, 6450789, 0), (494, .lastore, 1, 0, 0), (495, .dup, 1, 0, 0), (496, .bipush 37, 2, 0, 0), (498, .ldc2_w 153, 3, 6450292, 0), (501, .lastore, 1, 0, 0), (502, .dup, 1, 0, 0), (503, .bipush 38, 2, 0, 0), (505, .ldc2_w 155, 3, 6448997, 0), (508, .lastore, 1, 0, 0), (509, .dup, 1, 0, 0), (510, .bipush 39, 2, 0, 0), (512, .ldc2_w 157, 3, 1651274869, 0), (515, .lastore, 1, 0, 0), (516, .dup, 1, 0, 0), (517, .bipush 40, 2, 0, 0), (519, .ldc2_w 159, 3, 1650943349, 0), (522, .lastore, 1, 0, 0), (523, .dup, 1, 0, 0), (524, .bipush 41, 2, 0, 0), (526, .ldc2_w 161, 3, 6449012, 0), (529, .lastore, 1, 0, 0), (530, .dup, 1, 0, 0), (531, .bipush 42, 2, 0, 0), (533, .ldc2_w 163, 3, 6450277, 0), (536, .lastore, 1, 0, 0), (537, .dup, 1, 0, 0), (538, .bipush 43, 2, 0, 0)]
set_option maxRecDepth 1000000 in
theorem ab_c108_6_ok : ab_c108_6.all (ab_eok 10 prog_9_method_1_code) = true := sorry
def ab_c108_7 : List ab_I := [(540, .ldc2_w 165, 3, 1650947189, 0), (543, .lastore, 1, 0, 0), (544, .dup, 1, 0, 0), (545, .bipush 44, 2, 0, 0), (547, .ldc2_w 167, 3, 1651271029, 0), (550, .lastore, 1, 0, 0), (551, .dup, 1, 0, 0), (552, .bipush 45, 2, 0, 0), (554, .ldc2_w 169, 3, 1650815354, 0), (557, .lastore, 1, 0, 0), (558, .dup, 1, 0, 0), (559, .bipush 46, 2, 0, 0), (561, .ldc2_w 171, 3, 1651402106, 0), (564, .lastore, 1, 0, 0), (565, .dup, 1, 0, 0), (566, .bipush 47, 2, 0, 0), (568, .ldc2_w 173, 3, 1651274874, 0), (571, .lastore, 1, 0, 0), (572, .dup, 1, 0, 0), (573, .bipush 48, 2, 0, 0), (575, .ldc2_w 175, 3, 1650943354, 0), (578, .lastore, 1, 0, 0), (579, .dup, 1, 0, 0), (580, .bipush 49, 2, 0, 0), (582, .ldc2_w 177, 3, 1650947194, 0), (585, .lastore, 1, 0, 0), (586, .dup, 1, 0, 0), (587, .bipush 50, 2, 0, 0), (589, .ldc2_w 179, 3, 1651271034, 0), (592, .lastore, 1, 0, 0), (593, .dup, 1, 0, 0), (594, .bipush 51, 2, 0, 0), (596, .ldc2_w 181, 3, 7107945, 0), (599, .lastore, 1, 0, 0), (600, .dup, 1, 0, 0), (601, .bipush 52, 2, 0, 0), (603, .ldc2_w 183, 3, 418581672035, 0), (606, .lastore, 1, 0, 0), (607, .dup, 1, 0, 0), (608, .bipush 53, 2, 0, 0), (610, .ldc2_w 185, 3, 6971756, 0), (613, .lastore, 1, 0, 0), (614, .dup, 1, 0, 0), (615, .bipush 54, 2, 0, 0), (617, .ldc2_w 187, 3, 1784769650, 0)]
set_option maxRecDepth 1000000 in
theorem ab_c108_7_ok : ab_c108_7.all (ab_eok 10 prog_9_method_1_code) = true := sorry
def ab_c108_8 : List ab_I := [(620, .lastore, 1, 0, 0), (621, .dup, 1, 0, 0), (622, .bipush 55, 2, 0, 0), (624, .ldc2_w 189, 3, 439788397413, 0), (627, .lastore, 1, 0, 0), (628, .dup, 1, 0, 0), (629, .bipush 56, 2, 0, 0), (631, .ldc2_w 191, 3, 435459026028, 0), (634, .lastore, 1, 0, 0), (635, .dup, 1, 0, 0), (636, .bipush 57, 2, 0, 0), (638, .ldc2_w 193, 3, 111473500447083, 0), (641, .lastore, 1, 0, 0), (642, .dup, 1, 0, 0), (643, .bipush 58, 2, 0, 0), (645, .ldc2_w 195, 3, 7237488, 0), (648, .lastore, 1, 0, 0), (649, .dup, 1, 0, 0), (650, .bipush 59, 2, 0, 0), (652, .ldc2_w 197, 3, 7497076, 0), (655, .lastore, 1, 0, 0), (656, .dup, 1, 0, 0), (657, .bipush 60, 2, 0, 0), (659, .ldc2_w 199, 3, 28022, 0), (662, .lastore, 1, 0, 0), (663, .dup, 1, 0, 0), (664, .bipush 61, 2, 0, 0), (666, .ldc2_w 201, 3, 7237492, 0), (669, .lastore, 1, 0, 0), (670, .dup, 1, 0, 0), (671, .bipush 62, 2, 0, 0), (673, .ldc2_w 203, 3, 7234919, 0), (676, .lastore, 1, 0, 0), (677, .dup, 1, 0, 0), (678, .bipush 63, 2, 0, 0), (680, .ldc2_w 205, 3, 1936028026, 0), (683, .lastore, 1, 0, 0), (684, .dup, 1, 0, 0), (685, .bipush 64, 2, 0, 0), (687, .ldc2_w 207, 3, 1936614778, 0), (690, .lastore, 1, 0, 0), (691, .dup, 1, 0, 0), (692, .bipush 65, 2, 0, 0), (694, .ldc2_w 209, 3, 1936487546, 0), (697, .lastore, 1, 0, 0)]
set_option maxRecDepth 1000000 in
theorem ab_c108_8_ok : ab_c108_8.all (ab_eok 10 prog_9_method_1_code) = true := sorry
def ab_c108_9 : List ab_I := [(698, .dup, 1, 0, 0), (699, .bipush 66, 2, 0, 0), (701, .ldc2_w 211, 3, 1936159866, 0), (704, .lastore, 1, 0, 0), (705, .dup, 1, 0, 0), (706, .bipush 67, 2, 0, 0), (708, .ldc2_w 213, 3, 106, 0), (711, .lastore, 1, 0, 0), (712, .dup, 1, 0, 0), (713, .bipush 68, 2, 0, 0), (715, .ldc2_w 215, 3, 1667329132, 0), (718, .lastore, 1, 0, 0), (719, .dup, 1, 0, 0), (720, .bipush 69, 2, 0, 0), (722, .ldc2_w 217, 3, 27250, 0), (725, .lastore, 1, 0, 0), (726, .dup, 1, 0, 0), (727, .bipush 70, 2, 0, 0), (729, .ldc2_w 219, 3, 27745, 0), (732, .lastore, 1, 0, 0), (733, .dup, 1, 0, 0), (734, .bipush 71, 2, 0, 0), (736, .ldc2_w 221, 3, 27753, 0), (739, .lastore, 1, 0, 0), (740, .dup, 1, 0, 0), (741, .bipush 72, 2, 0, 0), (743, .ldc2_w 223, 3, 199521302644, 0), (746, .lastore, 1, 0, 0), (747, .dup, 1, 0, 0), (748, .bipush 73, 2, 0, 0), (750, .ldc2_w 225, 3, 199252604001, 0), (753, .lastore, 1, 0, 0), (754, .dup, 1, 0, 0), (755, .bipush 74, 2, 0, 0), (757, .ldc2_w 227, 3, 199220622437, 0), (760, .lastore, 1, 0, 0), (761, .dup, 1, 0, 0), (762, .bipush 75, 2, 0, 0), (764, .ldc2_w 229, 3, 199319710822, 0), (767, .lastore, 1, 0, 0), (768, .dup, 1, 0, 0), (769, .bipush 76, 2, 0, 0), (771, .ldc2_w 231, 3, 199572288100, 0), (774, .lastore, 1, 0, 0), (775, .dup, 1, 0, 0)]
set_option maxRecDepth 1000000 in
theorem ab_c108_9_ok : ab_c108_9.all (ab_eok 10 prog_9_method_1_code) = true := sorry

def ab_c108_10 : List ab_I := [(776, .bipush 77, 2, 0, 0), (778, .ldc2_w 233, 3, 50996082600297, 0), (781, .lastore, 1, 0, 0), (782, .dup, 1, 0, 0), (783, .bipush 78, 2, 0, 0), (785, .ldc2_w 235, 3, 50996082600314, 0), (788, .lastore, 1, 0, 0), (789, .dup, 1, 0, 0), (790, .bipush 79, 2, 0, 0), (792, .ldc2_w 237, 3, 51073341547365, 0), (795, .lastore, 1, 0, 0), (796, .dup, 1, 0, 0), (797, .bipush 80, 2, 0, 0), (799, .ldc2_w 239, 3, 50995965552494, 0), (802, .lastore, 1, 0, 0), (803, .dup, 1, 0, 0), (804, .bipush 81, 2, 0, 0), (806, .ldc2_w 241, 3, 778400117, 0), (809, .lastore, 1, 0, 0), (810, .dup, 1, 0, 0), (811, .bipush 82, 2, 0, 0), (813, .ldc2_w 243, 3, 51021735748204, 0), (816, .lastore, 1, 0, 0), (817, .putfield 245, 3, 6, 1), (820, .aload_n 0, 1, 0, 0), (821, .bipush 51, 2, 0, 0), (823, .newarray .int, 2, 0, 0), (825, .dup, 1, 0, 0), (826, .iconst 0, 1, 0, 0), (827, .iconst 0, 1, 0, 0), (828, .iastore, 1, 0, 0), (829, .dup, 1, 0, 0), (830, .iconst 1, 1, 0, 0), (831, .iconst 0, 1, 0, 0), (832, .iastore, 1, 0, 0), (833, .dup, 1, 0, 0), (834, .iconst 2, 1, 0, 0), (835, .iconst 1, 1, 0, 0), (836, .iastore, 1, 0, 0), (837, .dup, 1, 0, 0), (838, .iconst 3, 1, 0, 0), (839, .iconst 2, 1, 0, 0), (840, .iastore, 1, 0, 0), (841, .dup, 1, 0, 0), (842, .iconst 4, 1, 0, 0)]
set_option maxRecDepth 1000000 in
theorem ab_c108_10_ok : ab_c108_10.all (ab_eok 10 prog_9_method_1_code) = true := sorry
def ab_c108_11 : List ab_I := [(843, .iconst 3, 1, 0, 0), (844, .iastore, 1, 0, 0), (845, .dup, 1, 0, 0), (846, .iconst 5, 1, 0, 0), (847, .iconst 4, 1, 0, 0), (848, .iastore, 1, 0, 0), (849, .dup, 1, 0, 0), (850, .bipush 6, 2, 0, 0), (852, .iconst 5, 1, 0, 0), (853, .iastore, 1, 0, 0), (854, .dup, 1, 0, 0), (855, .bipush 7, 2, 0, 0), (857, .iconst 5, 1, 0, 0), (858, .iastore, 1, 0, 0), (859, .dup, 1, 0, 0), (860, .bipush 8, 2, 0, 0), (862, .bipush 6, 2, 0, 0), (864, .iastore, 1, 0, 0), (865, .dup, 1, 0, 0), (866, .bipush 9, 2, 0, 0), (868, .bipush 7, 2, 0, 0), (870, .iastore, 1, 0, 0), (871, .dup, 1, 0, 0), (872, .bipush 10, 2, 0, 0), (874, .iconst 0, 1, 0, 0), (875, .iastore, 1, 0, 0), (876, .dup, 1, 0, 0), (877, .bipush 11, 2, 0, 0), (879, .iconst 1, 1, 0, 0), (880, .iastore, 1, 0, 0), (881, .dup, 1, 0, 0), (882, .bipush 12, 2, 0, 0), (884, .iconst 2, 1, 0, 0), (885, .iastore, 1, 0, 0), (886, .dup, 1, 0, 0), (887, .bipush 13, 2, 0, 0), (889, .iconst 3, 1, 0, 0), (890, .iastore, 1, 0, 0), (891, .dup, 1, 0, 0), (892, .bipush 14, 2, 0, 0), (894, .iconst 4, 1, 0, 0), (895, .iastore, 1, 0, 0), (896, .dup, 1, 0, 0), (897, .bipush 15, 2, 0, 0), (899, .iconst 5, 1, 0, 0)]
set_option maxRecDepth 1000000 in
theorem ab_c108_11_ok : ab_c108_11.all (ab_eok 10 prog_9_method_1_code) = true := sorry
def ab_c108_12 : List ab_I := [(900, .iastore, 1, 0, 0), (901, .dup, 1, 0, 0), (902, .bipush 16, 2, 0, 0), (904, .bipush 6, 2, 0, 0), (906, .iastore, 1, 0, 0), (907, .dup, 1, 0, 0), (908, .bipush 17, 2, 0, 0), (910, .bipush 7, 2, 0, 0), (912, .iastore, 1, 0, 0), (913, .dup, 1, 0, 0), (914, .bipush 18, 2, 0, 0), (916, .iconst 0, 1, 0, 0), (917, .iastore, 1, 0, 0), (918, .dup, 1, 0, 0), (919, .bipush 19, 2, 0, 0), (921, .iconst 2, 1, 0, 0), (922, .iastore, 1, 0, 0), (923, .dup, 1, 0, 0), (924, .bipush 20, 2, 0, 0), (926, .iconst 3, 1, 0, 0), (927, .iastore, 1, 0, 0), (928, .dup, 1, 0, 0), (929, .bipush 21, 2, 0, 0), (931, .iconst 4, 1, 0, 0), (932, .iastore, 1, 0, 0), (933, .dup, 1, 0, 0), (934, .bipush 22, 2, 0, 0), (936, .bipush 6, 2, 0, 0), (938, .iastore, 1, 0, 0), (939, .dup, 1, 0, 0), (940, .bipush 23, 2, 0, 0), (942, .bipush 7, 2, 0, 0), (944, .iastore, 1, 0, 0), (945, .dup, 1, 0, 0), (946, .bipush 24, 2, 0, 0), (948, .iconst 1, 1, 0, 0), (949, .iastore, 1, 0, 0), (950, .dup, 1, 0, 0), (951, .bipush 25, 2, 0, 0), (953, .iconst 5, 1, 0, 0), (954, .iastore, 1, 0, 0), (955, .dup, 1, 0, 0), (956, .bipush 26, 2, 0, 0), (958, .iconst 5, 1, 0, 0), (959, .iastore, 1, 0, 0)]
set_option maxRecDepth 1000000 in
theorem ab_c108_12_ok : ab_c108_12.all (ab_eok 10 prog_9_method_1_code) = true := sorry
def ab_c108_13 : List ab_I := [(960, .dup, 1, 0, 0), (961, .bipush 27, 2, 0, 0), (963, .iconst 0, 1, 0, 0), (964, .iastore, 1, 0, 0), (965, .dup, 1, 0, 0), (966, .bipush 28, 2, 0, 0), (968, .iconst 1, 1, 0, 0), (969, .iastore, 1, 0, 0), (970, .dup, 1, 0, 0), (971, .bipush 29, 2, 0, 0), (973, .iconst 2, 1, 0, 0), (974, .iastore, 1, 0, 0), (975, .dup, 1, 0, 0), (976, .bipush 30, 2, 0, 0), (978, .iconst 4, 1, 0, 0), (979, .iastore, 1, 0, 0), (980, .dup, 1, 0, 0), (981, .bipush 31, 2, 0, 0), (983, .iconst 5, 1, 0, 0), (984, .iastore, 1, 0, 0), (985, .dup, 1, 0, 0), (986, .bipush 32, 2, 0, 0), (988, .iconst 0, 1, 0, 0), (989, .iastore, 1, 0, 0), (990, .dup, 1, 0, 0), (991, .bipush 33, 2, 0, 0), (993, .iconst 1, 1, 0, 0), (994, .iastore, 1, 0, 0), (995, .dup, 1, 0, 0), (996, .bipush 34, 2, 0, 0), (998, .iconst 2, 1, 0, 0), (999, .iastore, 1, 0, 0), (1000, .dup, 1, 0, 0), (1001, .bipush 35, 2, 0, 0), (1003, .iconst 0, 1, 0, 0), (1004, .iastore, 1, 0, 0), (1005, .dup, 1, 0, 0), (1006, .bipush 36, 2, 0, 0), (1008, .iconst 1, 1, 0, 0), (1009, .iastore, 1, 0, 0), (1010, .dup, 1, 0, 0), (1011, .bipush 37, 2, 0, 0), (1013, .iconst 4, 1, 0, 0), (1014, .iastore, 1, 0, 0), (1015, .dup, 1, 0, 0)]
set_option maxRecDepth 1000000 in
theorem ab_c108_13_ok : ab_c108_13.all (ab_eok 10 prog_9_method_1_code) = true := sorry
def ab_c108_14 : List ab_I := [(1016, .bipush 38, 2, 0, 0), (1018, .iconst 5, 1, 0, 0), (1019, .iastore, 1, 0, 0), (1020, .dup, 1, 0, 0), (1021, .bipush 39, 2, 0, 0), (1023, .bipush 6, 2, 0, 0), (1025, .iastore, 1, 0, 0), (1026, .dup, 1, 0, 0), (1027, .bipush 40, 2, 0, 0), (1029, .bipush 7, 2, 0, 0), (1031, .iastore, 1, 0, 0), (1032, .dup, 1, 0, 0), (1033, .bipush 41, 2, 0, 0), (1035, .iconst 4, 1, 0, 0), (1036, .iastore, 1, 0, 0), (1037, .dup, 1, 0, 0), (1038, .bipush 42, 2, 0, 0), (1040, .iconst 5, 1, 0, 0), (1041, .iastore, 1, 0, 0), (1042, .dup, 1, 0, 0), (1043, .bipush 43, 2, 0, 0), (1045, .bipush 6, 2, 0, 0), (1047, .iastore, 1, 0, 0), (1048, .dup, 1, 0, 0), (1049, .bipush 44, 2, 0, 0), (1051, .bipush 7, 2, 0, 0), (1053, .iastore, 1, 0, 0), (1054, .dup, 1, 0, 0), (1055, .bipush 45, 2, 0, 0), (1057, .iconst 0, 1, 0, 0), (1058, .iastore, 1, 0, 0), (1059, .dup, 1, 0, 0), (1060, .bipush 46, 2, 0, 0), (1062, .iconst 1, 1, 0, 0), (1063, .iastore, 1, 0, 0), (1064, .dup, 1, 0, 0), (1065, .bipush 47, 2, 0, 0), (1067, .iconst 4, 1, 0, 0), (1068, .iastore, 1, 0, 0), (1069, .dup, 1, 0, 0), (1070, .bipush 48, 2, 0, 0), (1072, .iconst 5, 1, 0, 0), (1073, .iastore, 1, 0, 0), (1074, .dup, 1, 0, 0), (1075, .bipush 49, 2, 0, 0)]
set_option maxRecDepth 1000000 in
theorem ab_c108_14_ok : ab_c108_14.all (ab_eok 10 prog_9_method_1_code) = true := sorry

def ab_c108_15 : List ab_I := [(1077, .iconst 4, 1, 0, 0), (1078, .iastore, 1, 0, 0), (1079, .dup, 1, 0, 0), (1080, .bipush 50, 2, 0, 0), (1082, .iconst 5, 1, 0, 0), (1083, .iastore, 1, 0, 0), (1084, .putfield 248, 3, 6, 2), (1087, .aload_n 0, 1, 0, 0), (1088, .ldc 252, 2, 65536, 0), (1090, .newarray .byte, 2, 0, 0), (1092, .putfield 253, 3, 6, 4), (1095, .aload_n 0, 1, 0, 0), (1096, .ldc 252, 2, 65536, 0), (1098, .newarray .byte, 2, 0, 0), (1100, .putfield 257, 3, 6, 6), (1103, .aload_n 0, 1, 0, 0), (1104, .ldc 252, 2, 65536, 0), (1106, .newarray .byte, 2, 0, 0), (1108, .putfield 260, 3, 6, 25), (1111, .aload_n 0, 1, 0, 0), (1112, .sipush 17500, 3, 0, 0), (1115, .newarray .int, 2, 0, 0), (1117, .putfield 263, 3, 6, 27), (1120, .aload_n 0, 1, 0, 0), (1121, .sipush 17500, 3, 0, 0), (1124, .newarray .int, 2, 0, 0), (1126, .putfield 266, 3, 6, 28), (1129, .aload_n 0, 1, 0, 0), (1130, .sipush 17500, 3, 0, 0), (1133, .newarray .int, 2, 0, 0), (1135, .putfield 269, 3, 6, 29), (1138, .aload_n 0, 1, 0, 0), (1139, .sipush 17500, 3, 0, 0), (1142, .newarray .int, 2, 0, 0), (1144, .putfield 272, 3, 6, 30), (1147, .aload_n 0, 1, 0, 0), (1148, .sipush 17500, 3, 0, 0), (1151, .newarray .int, 2, 0, 0), (1153, .putfield 275, 3, 6, 31), (1156, .aload_n 0, 1, 0, 0), (1157, .iconst 2, 1, 0, 0), (1158, .newarray .int, 2, 0, 0), (1160, .putfield 278, 3, 6, 35), (1163, .aload_n 0, 1, 0, 0), (1164, .ldc_w 281, 3, 130840, 0)]
set_option maxRecDepth 1000000 in
theorem ab_c108_15_ok : ab_c108_15.all (ab_eok 10 prog_9_method_1_code) = true := sorry
def ab_c108_16 : List ab_I := [(1167, .newarray .byte, 2, 0, 0), (1169, .putfield 282, 3, 6, 36), (1172, .aload_n 0, 1, 0, 0), (1173, .sipush 160, 3, 0, 0), (1176, .newarray .int, 2, 0, 0), (1178, .putfield 285, 3, 6, 42), (1181, .aload_n 0, 1, 0, 0), (1182, .sipush 160, 3, 0, 0), (1185, .newarray .int, 2, 0, 0), (1187, .putfield 288, 3, 6, 43), (1190, .aload_n 0, 1, 0, 0), (1191, .sipush 160, 3, 0, 0), (1194, .newarray .int, 2, 0, 0), (1196, .putfield 291, 3, 6, 44), (1199, .aload_n 0, 1, 0, 0), (1200, .sipush 160, 3, 0, 0), (1203, .newarray .int, 2, 0, 0), (1205, .putfield 294, 3, 6, 45), (1208, .aload_n 0, 1, 0, 0), (1209, .sipush 160, 3, 0, 0), (1212, .newarray .int, 2, 0, 0), (1214, .putfield 297, 3, 6, 46), (1217, .return_, 1, 0, 0)]
set_option maxRecDepth 1000000 in
theorem ab_c108_16_ok : ab_c108_16.all (ab_eok 10 prog_9_method_1_code) = true := sorry
/-- CodeSmithModel.<init>()V -/
def ab_c108 : List ab_I := ab_c108_0 ++ (ab_c108_1 ++ (ab_c108_2 ++ (ab_c108_3 ++ (ab_c108_4 ++ (ab_c108_5 ++ (ab_c108_6 ++ (ab_c108_7 ++ (ab_c108_8 ++ (ab_c108_9 ++ (ab_c108_10 ++ (ab_c108_11 ++ (ab_c108_12 ++ (ab_c108_13 ++ (ab_c108_14 ++ (ab_c108_15 ++ (ab_c108_16))))))))))))))))
def ab_pr11 : List (ab_M × List ab_I) := [(ab_m108, ab_c108)]
set_option maxRecDepth 1000000 in
theorem ab_m108_w : lw_tbl[925]? = some (.code ({ cls := "CodeSmithModel", name := "<init>", desc := "()V" } : Jvm.MethodName) prog_9_method_1_code 1 (Option.none : Option Jvm.ClassFile.FieldType)) := rfl
set_option maxRecDepth 1000000 in
theorem ab_m108_h : ab_hok ab_m108 = true := sorry
theorem ab_c108_all : ab_c108.all (ab_eok 10 prog_9_method_1_code) = true := sorry
theorem ab_pr11_ok : ab_pr11.all ab_mok = true := sorry

/-- CodeSmithModel.thrown()I -/
def ab_c109 : List ab_I := [(0, .aload_n 0, 1, 0, 0), (1, .getfield 300, 3, 6, 3), (4, .ireturn, 1, 0, 0)]
abbrev ab_m109 : ab_M := (10, ({ cls := "CodeSmithModel", name := "thrown", desc := "()I" } : Jvm.MethodName), prog_9_method_2_code, 1, (Option.some Jvm.ClassFile.FieldType.int), 0, 1194)
/-- CodeSmithModel.feed(IIIII)Z -/
def ab_c110 : List ab_I := [(0, .aload_n 0, 1, 0, 0), (1, .iconst 0, 1, 0, 0), (2, .putfield 300, 3, 6, 3), (5, .aload_n 0, 1, 0, 0), (6, .getfield 304, 3, 6, 5), (9, .bipush 20, 2, 0, 0), (11, .iadd, 1, 0, 0), (12, .ldc 252, 2, 65536, 0), (14, .if_icmp .le 5, 3, 19, 0), (17, .iconst 0, 1, 0, 0), (18, .ireturn, 1, 0, 0), (19, .iconst 0, 1, 0, 0), (20, .istore 6, 2, 0, 0), (22, .iload 6, 2, 0, 0), (24, .bipush 20, 2, 0, 0), (26, .if_icmp .ge 83, 3, 109, 0), (29, .iload 6, 2, 0, 0), (31, .iconst 4, 1, 0, 0), (32, .if_icmp .ge 7, 3, 39, 0), (35, .iload_n 1, 1, 0, 0), (36, .goto 39, 3, 75, 0), (39, .iload 6, 2, 0, 0), (41, .bipush 8, 2, 0, 0), (43, .if_icmp .ge 7, 3, 50, 0), (46, .iload_n 2, 1, 0, 0), (47, .goto 28, 3, 75, 0), (50, .iload 6, 2, 0, 0), (52, .bipush 12, 2, 0, 0), (54, .if_icmp .ge 7, 3, 61, 0), (57, .iload_n 3, 1, 0, 0), (58, .goto 17, 3, 75, 0), (61, .iload 6, 2, 0, 0), (63, .bipush 16, 2, 0, 0), (65, .if_icmp .ge 8, 3, 73, 0), (68, .iload 4, 2, 0, 0), (70, .goto 5, 3, 75, 0), (73, .iload 5, 2, 0, 0), (75, .istore 7, 2, 0, 0), (77, .aload_n 0, 1, 0, 0), (78, .getfield 253, 3, 6, 4), (81, .aload_n 0, 1, 0, 0), (82, .getfield 304, 3, 6, 5), (85, .iload 6, 2, 0, 0), (87, .iadd, 1, 0, 0), (88, .iload 7, 2, 0, 0), (90, .bipush 24, 2, 0, 0), (92, .bipush 8, 2, 0, 0), (94, .iload 6, 2, 0, 0), (96, .iconst 4, 1, 0, 0), (97, .irem, 1, 0, 0), (98, .imul, 1, 0, 0), (99, .isub, 1, 0, 0), (100, .ishr, 1, 0, 0), (101, .i2b, 1, 0, 0), (102, .bastore, 1, 0, 0), (103, .iinc 6 1, 3, 0, 0), (106, .goto (-84), 3, 22, 0), (109, .aload_n 0, 1, 0, 0), (110, .dup, 1, 0, 0), (111, .getfield 304, 3, 6, 5), (114, .bipush 20, 2, 0, 0), (116, .iadd, 1, 0, 0), (117, .putfield 304, 3, 6, 5), (120, .iconst 1, 1, 0, 0), (121, .ireturn, 1, 0, 0)]
abbrev ab_m110 : ab_M := (10, ({ cls := "CodeSmithModel", name := "feed", desc := "(IIIII)Z" } : Jvm.MethodName), prog_9_method_3_code, 8, (Option.some Jvm.ClassFile.FieldType.boolean), 5, 1198)
/-- CodeSmithModel.end(I)Z -/
def ab_c111 : List ab_I := [(0, .aload_n 0, 1, 0, 0), (1, .iconst 0, 1, 0, 0), (2, .putfield 300, 3, 6, 3), (5, .iload_n 1, 1, 0, 0), (6, .ifCond .lt 11, 3, 17, 0), (9, .iload_n 1, 1, 0, 0), (10, .aload_n 0, 1, 0, 0), (11, .getfield 304, 3, 6, 5), (14, .if_icmp .le 5, 3, 19, 0), (17, .iconst 0, 1, 0, 0), (18, .ireturn, 1, 0, 0), (19, .aload_n 0, 1, 0, 0), (20, .iload_n 1, 1, 0, 0), (21, .putfield 304, 3, 6, 5), (24, .iconst 1, 1, 0, 0), (25, .ireturn, 1, 0, 0)]
abbrev ab_m111 : ab_M := (10, ({ cls := "CodeSmithModel", name := "end", desc := "(I)Z" } : Jvm.MethodName), prog_9_method_4_code, 2, (Option.some Jvm.ClassFile.FieldType.boolean), 1, 1202)
/-- CodeSmithModel.size()I -/
def ab_c112 : List ab_I := [(0, .aload_n 0, 1, 0, 0), (1, .iconst 0, 1, 0, 0), (2, .putfield 300, 3, 6, 3), (5, .aload_n 0, 1, 0, 0), (6, .getfield 304, 3, 6, 5), (9, .ireturn, 1, 0, 0)]
abbrev ab_m112 : ab_M := (10, ({ cls := "CodeSmithModel", name := "size", desc := "()I" } : Jvm.MethodName), prog_9_method_5_code, 1, (Option.some Jvm.ClassFile.FieldType.int), 0, 1206)
/-- CodeSmithModel.assemble()I -/
def ab_c113 : List ab_I := [(0, .aload_n 0, 1, 0, 0), (1, .aload_n 0, 1, 0, 0), (2, .getfield 304, 3, 6, 5), (5, .putfield 557, 3, 6, 14), (8, .aload_n 0, 1, 0, 0), (9, .iconst 0, 1, 0, 0), (10, .putfield 304, 3, 6, 5), (13, .aload_n 0, 1, 0, 0), (14, .iconst 0, 1, 0, 0), (15, .putfield 307, 3, 6, 11), (18, .aload_n 0, 1, 0, 0), (19, .iconst 0, 1, 0, 0), (20, .putfield 405, 3, 6, 26), (23, .aload_n 0, 1, 0, 0), (24, .iconst 0, 1, 0, 0), (25, .putfield 408, 3, 6, 19), (28, .aload_n 0, 1, 0, 0), (29, .iconst 0, 1, 0, 0), (30, .putfield 418, 3, 6, 34), (33, .aload_n 0, 1, 0, 0), (34, .invokevirtual 592, 3, 114, 0), (37, .aload_n 0, 1, 0, 0), (38, .aload_n 0, 1, 0, 0), (39, .getfield 278, 3, 6, 35), (42, .iconst 0, 1, 0, 0), (43, .iaload, 1, 0, 0), (44, .sipush 4095, 3, 0, 0), (47, .iadd, 1, 0, 0), (48, .sipush 4096, 3, 0, 0), (51, .idiv, 1, 0, 0), (52, .sipush 4096, 3, 0, 0), (55, .imul, 1, 0, 0), (56, .putfield 418, 3, 6, 34), (59, .aload_n 0, 1, 0, 0), (60, .iconst 1, 1, 0, 0), (61, .putfield 408, 3, 6, 19), (64, .aload_n 0, 1, 0, 0), (65, .getfield 307, 3, 6, 11), (68, .ifCond .ne 7, 3, 75, 0), (71, .aload_n 0, 1, 0, 0), (72, .invokevirtual 592, 3, 114, 0), (75, .aload_n 0, 1, 0, 0), (76, .aload_n 0, 1, 0, 0), (77, .getfield 307, 3, 6, 11), (80, .ifCond .le 7, 3, 87, 0), (83, .iconst 1, 1, 0, 0), (84, .goto 4, 3, 88, 0), (87, .iconst 0, 1, 0, 0), (88, .putfield 300, 3, 6, 3), (91, .aload_n 0, 1, 0, 0), (92, .getfield 300, 3, 6, 3), (95, .ifCond .le 5, 3, 100, 0), (98, .iconst 0, 1, 0, 0), (99, .ireturn, 1, 0, 0), (100, .aload_n 0, 1, 0, 0), (101, .invokevirtual 595, 3, 170, 0), (104, .aload_n 0, 1, 0, 0), (105, .getfield 586, 3, 6, 7), (108, .ireturn, 1, 0, 0)]
abbrev ab_m113 : ab_M := (10, ({ cls := "CodeSmithModel", name := "assemble", desc := "()I" } : Jvm.MethodName), prog_9_method_66_code, 1, (Option.some Jvm.ClassFile.FieldType.int), 0, 1210)
/-- CodeSmithModel.pass()V -/
def ab_c114 : List ab_I := [(0, .aload_n 0, 1, 0, 0), (1, .iconst 0, 1, 0, 0), (2, .putfield 477, 3, 6, 32), (5, .aload_n 0, 1, 0, 0), (6, .getfield 278, 3, 6, 35), (9, .iconst 0, 1, 0, 0), (10, .iconst 0, 1, 0, 0), (11, .iastore, 1, 0, 0), (12, .aload_n 0, 1, 0, 0), (13, .getfield 278, 3, 6, 35), (16, .iconst 1, 1, 0, 0), (17, .iconst 0, 1, 0, 0), (18, .iastore, 1, 0, 0), (19, .aload_n 0, 1, 0, 0), (20, .iconst 0, 1, 0, 0), (21, .putfield 316, 3, 6, 15), (24, .iconst 0, 1, 0, 0), (25, .istore_n 1, 1, 0, 0), (26, .iload_n 1, 1, 0, 0), (27, .aload_n 0, 1, 0, 0), (28, .getfield 557, 3, 6, 14), (31, .if_icmp .ge 73, 3, 104, 0), (34, .aload_n 0, 1, 0, 0), (35, .getfield 307, 3, 6, 11), (38, .ifCond .ne 66, 3, 104, 0), (41, .aload_n 0, 1, 0, 0), (42, .dup, 1, 0, 0), (43, .getfield 316, 3, 6, 15), (46, .iconst 1, 1, 0, 0), (47, .iadd, 1, 0, 0), (48, .putfield 316, 3, 6, 15), (51, .aload_n 0, 1, 0, 0), (52, .iload_n 1, 1, 0, 0), (53, .putfield 310, 3, 6, 16), (56, .iload_n 1, 1, 0, 0), (57, .aload_n 0, 1, 0, 0), (58, .getfield 557, 3, 6, 14), (61, .if_icmp .ge 20, 3, 81, 0), (64, .aload_n 0, 1, 0, 0), (65, .getfield 253, 3, 6, 4), (68, .iload_n 1, 1, 0, 0), (69, .baload, 1, 0, 0), (70, .bipush 10, 2, 0, 0), (72, .if_icmp .eq 9, 3, 81, 0), (75, .iinc 1 1, 3, 0, 0), (78, .goto (-22), 3, 56, 0), (81, .aload_n 0, 1, 0, 0), (82, .iload_n 1, 1, 0, 0), (83, .putfield 325, 3, 6, 17), (86, .aload_n 0, 1, 0, 0), (87, .aload_n 0, 1, 0, 0), (88, .getfield 310, 3, 6, 16), (91, .putfield 322, 3, 6, 18), (94, .aload_n 0, 1, 0, 0), (95, .invokevirtual 560, 3, 115, 0), (98, .iinc 1 1, 3, 0, 0), (101, .goto (-75), 3, 26, 0), (104, .return_, 1, 0, 0)]
abbrev ab_m114 : ab_M := (10, ({ cls := "CodeSmithModel", name := "pass", desc := "()V" } : Jvm.MethodName), prog_9_method_61_code, 2, (Option.none : Option Jvm.ClassFile.FieldType), 0, 1214)
/-- CodeSmithModel.statement()V -/
def ab_c115 : List ab_I := [(0, .aload_n 0, 1, 0, 0), (1, .invokevirtual 545, 3, 116, 0), (4, .aload_n 0, 1, 0, 0), (5, .getfield 307, 3, 6, 11), (8, .ifCond .gt 10, 3, 18, 0), (11, .aload_n 0, 1, 0, 0), (12, .getfield 358, 3, 6, 20), (15, .ifCond .ne 4, 3, 19, 0), (18, .return_, 1, 0, 0), (19, .aload_n 0, 1, 0, 0), (20, .getfield 358, 3, 6, 20), (23, .iconst 1, 1, 0, 0), (24, .if_icmp .ne 27, 3, 51, 0), (27, .aload_n 0, 1, 0, 0), (28, .aload_n 0, 1, 0, 0), (29, .getfield 245, 3, 6, 1), (32, .aload_n 0, 1, 0, 0), (33, .getfield 349, 3, 6, 21), (36, .aload_n 0, 1, 0, 0), (37, .getfield 322, 3, 6, 18), (40, .aload_n 0, 1, 0, 0), (41, .getfield 349, 3, 6, 21), (44, .isub, 1, 0, 0), (45, .invokevirtual 394, 3, 135, 3), (48, .goto 4, 3, 52, 0), (51, .iconst (-1), 1, 0, 0), (52, .istore_n 1, 1, 0, 0), (53, .iload_n 1, 1, 0, 0), (54, .ifCond .ge 25, 3, 79, 0), (57, .aload_n 0, 1, 0, 0), (58, .aload_n 0, 1, 0, 0), (59, .getfield 358, 3, 6, 20), (62, .iconst 1, 1, 0, 0), (63, .if_icmp .ne 7, 3, 70, 0), (66, .iconst 3, 1, 0, 0), (67, .goto 4, 3, 71, 0), (70, .iconst 1, 1, 0, 0), (71, .aload_n 0, 1, 0, 0), (72, .getfield 349, 3, 6, 21), (75, .invokevirtual 342, 3, 131, 2), (78, .return_, 1, 0, 0), (79, .aload_n 0, 1, 0, 0), (80, .getfield 349, 3, 6, 21), (83, .istore_n 2, 1, 0, 0), (84, .aload_n 0, 1, 0, 0), (85, .aload_n 0, 1, 0, 0), (86, .getfield 278, 3, 6, 35), (89, .aload_n 0, 1, 0, 0), (90, .getfield 477, 3, 6, 32), (93, .iaload, 1, 0, 0), (94, .aload_n 0, 1, 0, 0), (95, .getfield 477, 3, 6, 32), (98, .iconst 1, 1, 0, 0), (99, .if_icmp .ne 10, 3, 109, 0), (102, .aload_n 0, 1, 0, 0), (103, .getfield 418, 3, 6, 34), (106, .goto 4, 3, 110, 0), (109, .iconst 0, 1, 0, 0), (110, .iadd, 1, 0, 0), (111, .putfield 449, 3, 6, 33), (114, .aload_n 0, 1, 0, 0), (115, .iconst 0, 1, 0, 0), (116, .putfield 480, 3, 6, 37), (119, .aload_n 0, 1, 0, 0), (120, .invokevirtual 387, 3, 117, 0), (123, .iload_n 1, 1, 0, 0), (124, .bipush 60, 2, 0, 0), (126, .if_icmp .ge 11, 3, 137, 0), (129, .aload_n 0, 1, 0, 0), (130, .iload_n 1, 1, 0, 0), (131, .invokevirtual 548, 3, 138, 1), (134, .goto 22, 3, 156, 0), (137, .iload_n 1, 1, 0, 0), (138, .bipush 72, 2, 0, 0), (140, .if_icmp .ge 11, 3, 151, 0), (143, .aload_n 0, 1, 0, 0), (144, .iload_n 1, 1, 0, 0), (145, .invokevirtual 551, 3, 165, 1), (148, .goto 8, 3, 156, 0), (151, .aload_n 0, 1, 0, 0), (152, .iload_n 1, 1, 0, 0), (153, .invokevirtual 554, 3, 167, 1), (156, .aload_n 0, 1, 0, 0), (157, .getfield 358, 3, 6, 20), (160, .ifCond .eq 12, 3, 172, 0), (163, .aload_n 0, 1, 0, 0), (164, .iconst 1, 1, 0, 0), (165, .aload_n 0, 1, 0, 0), (166, .getfield 349, 3, 6, 21), (169, .invokevirtual 342, 3, 131, 2), (172, .iload_n 1, 1, 0, 0), (173, .bipush 72, 2, 0, 0), (175, .if_icmp .ge 19, 3, 194, 0), (178, .aload_n 0, 1, 0, 0), (179, .getfield 449, 3, 6, 33), (182, .iconst 4, 1, 0, 0), (183, .irem, 1, 0, 0), (184, .ifCond .eq 10, 3, 194, 0), (187, .aload_n 0, 1, 0, 0), (188, .bipush 7, 2, 0, 0), (190, .iload_n 2, 1, 0, 0), (191, .invokevirtual 342, 3, 131, 2), (194, .aload_n 0, 1, 0, 0), (195, .getfield 408, 3, 6, 19), (198, .ifCond .ne 36, 3, 234, 0), (201, .aload_n 0, 1, 0, 0), (202, .getfield 480, 3, 6, 37), (205, .ifCond .ne 22, 3, 227, 0), (208, .aload_n 0, 1, 0, 0), (209, .getfield 278, 3, 6, 35), (212, .iconst 0, 1, 0, 0), (213, .iaload, 1, 0, 0), (214, .aload_n 0, 1, 0, 0), (215, .getfield 278, 3, 6, 35), (218, .iconst 1, 1, 0, 0), (219, .iaload, 1, 0, 0), (220, .iadd, 1, 0, 0), (221, .ldc_w 476, 3, 65420, 0), (224, .if_icmp .le 10, 3, 234, 0), (227, .aload_n 0, 1, 0, 0), (228, .bipush 6, 2, 0, 0), (230, .iload_n 2, 1, 0, 0), (231, .invokevirtual 342, 3, 131, 2), (234, .aload_n 0, 1, 0, 0), (235, .getfield 408, 3, 6, 19), (238, .ifCond .eq 17, 3, 255, 0), (241, .aload_n 0, 1, 0, 0), (242, .getfield 480, 3, 6, 37), (245, .ifCond .eq 10, 3, 255, 0), (248, .aload_n 0, 1, 0, 0), (249, .bipush 10, 2, 0, 0), (251, .iload_n 2, 1, 0, 0), (252, .invokevirtual 342, 3, 131, 2), (255, .return_, 1, 0, 0)]
abbrev ab_m115 : ab_M := (10, ({ cls := "CodeSmithModel", name := "statement", desc := "()V" } : Jvm.MethodName), prog_9_method_60_code, 3, (Option.none : Option Jvm.ClassFile.FieldType), 0, 1218)
def ab_pr12 : List (ab_M × List ab_I) := [(ab_m109, ab_c109), (ab_m110, ab_c110), (ab_m111, ab_c111), (ab_m112, ab_c112), (ab_m113, ab_c113), (ab_m114, ab_c114), (ab_m115, ab_c115)]
set_option maxRecDepth 1000000 in
theorem ab_pr12_ok : ab_pr12.all ab_mok = true := sorry

/-- CodeSmithModel.labels()V -/
def ab_c116 : List ab_I := [(0, .aload_n 0, 1, 0, 0), (1, .invokevirtual 387, 3, 117, 0), (4, .iconst 1, 1, 0, 0), (5, .istore_n 1, 1, 0, 0), (6, .iload_n 1, 1, 0, 0), (7, .ifCond .eq 138, 3, 145, 0), (10, .aload_n 0, 1, 0, 0), (11, .getfield 307, 3, 6, 11), (14, .ifCond .ne 131, 3, 145, 0), (17, .aload_n 0, 1, 0, 0), (18, .getfield 358, 3, 6, 20), (21, .iconst 1, 1, 0, 0), (22, .if_icmp .ne 123, 3, 145, 0), (25, .aload_n 0, 1, 0, 0), (26, .invokevirtual 398, 3, 130, 0), (29, .aload_n 0, 1, 0, 0), (30, .getfield 322, 3, 6, 18), (33, .aload_n 0, 1, 0, 0), (34, .getfield 349, 3, 6, 21), (37, .isub, 1, 0, 0), (38, .istore_n 2, 1, 0, 0), (39, .aload_n 0, 1, 0, 0), (40, .invokevirtual 346, 3, 118, 0), (43, .aload_n 0, 1, 0, 0), (44, .getfield 307, 3, 6, 11), (47, .ifCond .ne 17, 3, 64, 0), (50, .aload_n 0, 1, 0, 0), (51, .iconst 0, 1, 0, 0), (52, .invokevirtual 335, 3, 119, 1), (55, .bipush 58, 2, 0, 0), (57, .if_icmp .ne 7, 3, 64, 0), (60, .iconst 1, 1, 0, 0), (61, .goto 4, 3, 65, 0), (64, .iconst 0, 1, 0, 0), (65, .istore_n 1, 1, 0, 0), (66, .aload_n 0, 1, 0, 0), (67, .aload_n 0, 1, 0, 0), (68, .getfield 349, 3, 6, 21), (71, .iload_n 2, 1, 0, 0), (72, .iadd, 1, 0, 0), (73, .putfield 322, 3, 6, 18), (76, .iload_n 1, 1, 0, 0), (77, .ifCond .eq 7, 3, 84, 0), (80, .aload_n 0, 1, 0, 0), (81, .invokevirtual 539, 3, 132, 0), (84, .iload_n 1, 1, 0, 0), (85, .ifCond .eq 27, 3, 112, 0), (88, .aload_n 0, 1, 0, 0), (89, .iconst 2, 1, 0, 0), (90, .aload_n 0, 1, 0, 0), (91, .getfield 477, 3, 6, 32), (94, .iadd, 1, 0, 0), (95, .aload_n 0, 1, 0, 0), (96, .getfield 349, 3, 6, 21), (99, .iload_n 2, 1, 0, 0), (100, .aload_n 0, 1, 0, 0), (101, .getfield 278, 3, 6, 35), (104, .aload_n 0, 1, 0, 0), (105, .getfield 477, 3, 6, 32), (108, .iaload, 1, 0, 0), (109, .invokevirtual 542, 3, 137, 4), (112, .iload_n 1, 1, 0, 0), (113, .ifCond .eq 14, 3, 127, 0), (116, .aload_n 0, 1, 0, 0), (117, .getfield 307, 3, 6, 11), (120, .ifCond .ne 7, 3, 127, 0), (123, .aload_n 0, 1, 0, 0), (124, .invokevirtual 387, 3, 117, 0), (127, .iload_n 1, 1, 0, 0), (128, .ifCond .eq 14, 3, 142, 0), (131, .aload_n 0, 1, 0, 0), (132, .getfield 307, 3, 6, 11), (135, .ifCond .ne 7, 3, 142, 0), (138, .aload_n 0, 1, 0, 0), (139, .invokevirtual 387, 3, 117, 0), (142, .goto (-136), 3, 6, 0), (145, .return_, 1, 0, 0)]
abbrev ab_m116 : ab_M := (10, ({ cls := "CodeSmithModel", name := "labels", desc := "()V" } : Jvm.MethodName), prog_9_method_59_code, 3, (Option.none : Option Jvm.ClassFile.FieldType), 0, 1222)
/-- CodeSmithModel.next()V -/
def ab_c117 : List ab_I := [(0, .aload_n 0, 1, 0, 0), (1, .invokevirtual 346, 3, 118, 0), (4, .aload_n 0, 1, 0, 0), (5, .aload_n 0, 1, 0, 0), (6, .getfield 322, 3, 6, 18), (9, .putfield 349, 3, 6, 21), (12, .aload_n 0, 1, 0, 0), (13, .iconst 0, 1, 0, 0), (14, .putfield 352, 3, 6, 22), (17, .aload_n 0, 1, 0, 0), (18, .iconst (-1), 1, 0, 0), (19, .putfield 339, 3, 6, 23), (22, .aload_n 0, 1, 0, 0), (23, .iconst 0, 1, 0, 0), (24, .invokevirtual 335, 3, 119, 1), (27, .istore_n 1, 1, 0, 0), (28, .aload_n 0, 1, 0, 0), (29, .aload_n 0, 1, 0, 0), (30, .getfield 322, 3, 6, 18), (33, .aload_n 0, 1, 0, 0), (34, .getfield 325, 3, 6, 17), (37, .if_icmp .eq 9, 3, 46, 0), (40, .iload_n 1, 1, 0, 0), (41, .bipush 35, 2, 0, 0), (43, .if_icmp .ne 7, 3, 50, 0), (46, .iconst 0, 1, 0, 0), (47, .goto 59, 3, 106, 0), (50, .iload_n 1, 1, 0, 0), (51, .invokestatic 328, 3, 120, 1), (54, .ifCond .eq 24, 3, 78, 0), (57, .iload_n 1, 1, 0, 0), (58, .bipush 46, 2, 0, 0), (60, .if_icmp .ne 14, 3, 74, 0), (63, .aload_n 0, 1, 0, 0), (64, .iconst 1, 1, 0, 0), (65, .invokevirtual 335, 3, 119, 1), (68, .invokestatic 355, 3, 121, 1), (71, .ifCond .eq 7, 3, 78, 0), (74, .iconst 1, 1, 0, 0), (75, .goto 31, 3, 106, 0), (78, .iload_n 1, 1, 0, 0), (79, .invokestatic 332, 3, 122, 1), (82, .ifCond .ne 9, 3, 91, 0), (85, .iload_n 1, 1, 0, 0), (86, .bipush 39, 2, 0, 0), (88, .if_icmp .ne 7, 3, 95, 0), (91, .iconst 2, 1, 0, 0), (92, .goto 14, 3, 106, 0), (95, .iload_n 1, 1, 0, 0), (96, .bipush 34, 2, 0, 0), (98, .if_icmp .ne 7, 3, 105, 0), (101, .iconst 3, 1, 0, 0), (102, .goto 4, 3, 106, 0), (105, .iconst 4, 1, 0, 0), (106, .putfield 358, 3, 6, 20), (109, .aload_n 0, 1, 0, 0), (110, .getfield 358, 3, 6, 20), (113, .iconst 1, 1, 0, 0), (114, .if_icmp .ne 27, 3, 141, 0), (117, .aload_n 0, 1, 0, 0), (118, .iconst 0, 1, 0, 0), (119, .invokevirtual 335, 3, 119, 1), (122, .invokestatic 355, 3, 121, 1), (125, .ifCond .eq 16, 3, 141, 0), (128, .aload_n 0, 1, 0, 0), (129, .dup, 1, 0, 0), (130, .getfield 322, 3, 6, 18), (133, .iconst 1, 1, 0, 0), (134, .iadd, 1, 0, 0), (135, .putfield 322, 3, 6, 18), (138, .goto (-29), 3, 109, 0), (141, .aload_n 0, 1, 0, 0), (142, .getfield 358, 3, 6, 20), (145, .iconst 1, 1, 0, 0), (146, .if_icmp .ne 28, 3, 174, 0), (149, .aload_n 0, 1, 0, 0), (150, .getfield 322, 3, 6, 18), (153, .aload_n 0, 1, 0, 0), (154, .getfield 349, 3, 6, 21), (157, .isub, 1, 0, 0), (158, .bipush 32, 2, 0, 0), (160, .if_icmp .le 14, 3, 174, 0), (163, .aload_n 0, 1, 0, 0), (164, .aload_n 0, 1, 0, 0), (165, .getfield 349, 3, 6, 21), (168, .bipush 32, 2, 0, 0), (170, .iadd, 1, 0, 0), (171, .invokevirtual 361, 3, 123, 1), (174, .iload_n 1, 1, 0, 0), (175, .invokestatic 332, 3, 122, 1), (178, .ifCond .eq 7, 3, 185, 0), (181, .aload_n 0, 1, 0, 0), (182, .invokevirtual 365, 3, 124, 0), (185, .iload_n 1, 1, 0, 0), (186, .bipush 39, 2, 0, 0), (188, .if_icmp .ne 7, 3, 195, 0), (191, .aload_n 0, 1, 0, 0), (192, .invokevirtual 368, 3, 126, 0), (195, .aload_n 0, 1, 0, 0), (196, .getfield 358, 3, 6, 20), (199, .iconst 3, 1, 0, 0), (200, .if_icmp .ne 7, 3, 207, 0), (203, .aload_n 0, 1, 0, 0), (204, .invokevirtual 371, 3, 128, 0), (207, .aload_n 0, 1, 0, 0), (208, .getfield 358, 3, 6, 20), (211, .iconst 4, 1, 0, 0), (212, .if_icmp .ne 8, 3, 220, 0), (215, .aload_n 0, 1, 0, 0), (216, .iload_n 1, 1, 0, 0), (217, .invokevirtual 373, 3, 129, 1), (220, .return_, 1, 0, 0)]
abbrev ab_m117 : ab_M := (10, ({ cls := "CodeSmithModel", name := "next", desc := "()V" } : Jvm.MethodName), prog_9_method_15_code, 2, (Option.none : Option Jvm.ClassFile.FieldType), 0, 1226)
/-- CodeSmithModel.blanks()V -/
def ab_c118 : List ab_I := [(0, .aload_n 0, 1, 0, 0), (1, .iconst 0, 1, 0, 0), (2, .invokevirtual 335, 3, 119, 1), (5, .bipush 32, 2, 0, 0), (7, .if_icmp .eq 23, 3, 30, 0), (10, .aload_n 0, 1, 0, 0), (11, .iconst 0, 1, 0, 0), (12, .invokevirtual 335, 3, 119, 1), (15, .bipush 9, 2, 0, 0), (17, .if_icmp .eq 13, 3, 30, 0), (20, .aload_n 0, 1, 0, 0), (21, .iconst 0, 1, 0, 0), (22, .invokevirtual 335, 3, 119, 1), (25, .bipush 13, 2, 0, 0), (27, .if_icmp .ne 16, 3, 43, 0), (30, .aload_n 0, 1, 0, 0), (31, .dup, 1, 0, 0), (32, .getfield 322, 3, 6, 18), (35, .iconst 1, 1, 0, 0), (36, .iadd, 1, 0, 0), (37, .putfield 322, 3, 6, 18), (40, .goto (-40), 3, 0, 0), (43, .return_, 1, 0, 0)]
abbrev ab_m118 : ab_M := (10, ({ cls := "CodeSmithModel", name := "blanks", desc := "()V" } : Jvm.MethodName), prog_9_method_12_code, 1, (Option.none : Option Jvm.ClassFile.FieldType), 0, 1230)
/-- CodeSmithModel.here(I)I -/
def ab_c119 : List ab_I := [(0, .aload_n 0, 1, 0, 0), (1, .getfield 322, 3, 6, 18), (4, .iload_n 1, 1, 0, 0), (5, .iadd, 1, 0, 0), (6, .aload_n 0, 1, 0, 0), (7, .getfield 325, 3, 6, 17), (10, .if_icmp .ge 21, 3, 31, 0), (13, .aload_n 0, 1, 0, 0), (14, .getfield 253, 3, 6, 4), (17, .aload_n 0, 1, 0, 0), (18, .getfield 322, 3, 6, 18), (21, .iload_n 1, 1, 0, 0), (22, .iadd, 1, 0, 0), (23, .baload, 1, 0, 0), (24, .sipush 255, 3, 0, 0), (27, .iand, 1, 0, 0), (28, .goto 4, 3, 32, 0), (31, .iconst 0, 1, 0, 0), (32, .ireturn, 1, 0, 0)]
abbrev ab_m119 : ab_M := (10, ({ cls := "CodeSmithModel", name := "here", desc := "(I)I" } : Jvm.MethodName), prog_9_method_7_code, 2, (Option.some Jvm.ClassFile.FieldType.int), 1, 1234)
/-- CodeSmithModel.begins(I)Z -/
def ab_c120 : List ab_I := [(0, .iload_n 0, 1, 0, 0), (1, .bipush 97, 2, 0, 0), (3, .if_icmp .lt 9, 3, 12, 0), (6, .iload_n 0, 1, 0, 0), (7, .bipush 122, 2, 0, 0), (9, .if_icmp .le 27, 3, 36, 0), (12, .iload_n 0, 1, 0, 0), (13, .bipush 65, 2, 0, 0), (15, .if_icmp .lt 9, 3, 24, 0), (18, .iload_n 0, 1, 0, 0), (19, .bipush 90, 2, 0, 0), (21, .if_icmp .le 15, 3, 36, 0), (24, .iload_n 0, 1, 0, 0), (25, .bipush 95, 2, 0, 0), (27, .if_icmp .eq 9, 3, 36, 0), (30, .iload_n 0, 1, 0, 0), (31, .bipush 46, 2, 0, 0), (33, .if_icmp .ne 7, 3, 40, 0), (36, .iconst 1, 1, 0, 0), (37, .goto 4, 3, 41, 0), (40, .iconst 0, 1, 0, 0), (41, .ireturn, 1, 0, 0)]
abbrev ab_m120 : ab_M := (10, ({ cls := "CodeSmithModel", name := "begins", desc := "(I)Z" } : Jvm.MethodName), prog_9_method_9_code, 1, (Option.some Jvm.ClassFile.FieldType.boolean), 1, 1237)
/-- CodeSmithModel.isName(I)Z -/
def ab_c121 : List ab_I := [(0, .iload_n 0, 1, 0, 0), (1, .invokestatic 328, 3, 120, 1), (4, .ifCond .ne 10, 3, 14, 0), (7, .iload_n 0, 1, 0, 0), (8, .invokestatic 332, 3, 122, 1), (11, .ifCond .eq 7, 3, 18, 0), (14, .iconst 1, 1, 0, 0), (15, .goto 4, 3, 19, 0), (18, .iconst 0, 1, 0, 0), (19, .ireturn, 1, 0, 0)]
abbrev ab_m121 : ab_M := (10, ({ cls := "CodeSmithModel", name := "isName", desc := "(I)Z" } : Jvm.MethodName), prog_9_method_10_code, 1, (Option.some Jvm.ClassFile.FieldType.boolean), 1, 1240)
/-- CodeSmithModel.isDigit(I)Z -/
def ab_c122 : List ab_I := [(0, .iload_n 0, 1, 0, 0), (1, .bipush 48, 2, 0, 0), (3, .if_icmp .lt 13, 3, 16, 0), (6, .iload_n 0, 1, 0, 0), (7, .bipush 57, 2, 0, 0), (9, .if_icmp .gt 7, 3, 16, 0), (12, .iconst 1, 1, 0, 0), (13, .goto 4, 3, 17, 0), (16, .iconst 0, 1, 0, 0), (17, .ireturn, 1, 0, 0)]
abbrev ab_m122 : ab_M := (10, ({ cls := "CodeSmithModel", name := "isDigit", desc := "(I)Z" } : Jvm.MethodName), prog_9_method_8_code, 1, (Option.some Jvm.ClassFile.FieldType.boolean), 1, 1243)
/-- CodeSmithModel.flawed(I)V -/
def ab_c123 : List ab_I := [(0, .aload_n 0, 1, 0, 0), (1, .aload_n 0, 1, 0, 0), (2, .getfield 339, 3, 6, 23), (5, .ifCond .ge 7, 3, 12, 0), (8, .iload_n 1, 1, 0, 0), (9, .goto 7, 3, 16, 0), (12, .aload_n 0, 1, 0, 0), (13, .getfield 339, 3, 6, 23), (16, .putfield 339, 3, 6, 23), (19, .return_, 1, 0, 0)]
abbrev ab_m123 : ab_M := (10, ({ cls := "CodeSmithModel", name := "flawed", desc := "(I)V" } : Jvm.MethodName), prog_9_method_13_code, 2, (Option.none : Option Jvm.ClassFile.FieldType), 1, 1247)
/-- CodeSmithModel.number()V -/
def ab_c124 : List ab_I := [(0, .aload_n 0, 1, 0, 0), (1, .iconst 0, 1, 0, 0), (2, .invokevirtual 335, 3, 119, 1), (5, .bipush 48, 2, 0, 0), (7, .if_icmp .ne 17, 3, 24, 0), (10, .aload_n 0, 1, 0, 0), (11, .iconst 1, 1, 0, 0), (12, .invokevirtual 335, 3, 119, 1), (15, .bipush 120, 2, 0, 0), (17, .if_icmp .ne 7, 3, 24, 0), (20, .iconst 1, 1, 0, 0), (21, .goto 4, 3, 25, 0), (24, .iconst 0, 1, 0, 0), (25, .istore_n 1, 1, 0, 0), (26, .aload_n 0, 1, 0, 0), (27, .dup, 1, 0, 0), (28, .getfield 322, 3, 6, 18), (31, .iload_n 1, 1, 0, 0), (32, .ifCond .eq 7, 3, 39, 0), (35, .iconst 2, 1, 0, 0), (36, .goto 4, 3, 40, 0), (39, .iconst 0, 1, 0, 0), (40, .iadd, 1, 0, 0), (41, .putfield 322, 3, 6, 18), (44, .iload_n 1, 1, 0, 0), (45, .ifCond .eq 22, 3, 67, 0), (48, .aload_n 0, 1, 0, 0), (49, .iconst 0, 1, 0, 0), (50, .invokevirtual 335, 3, 119, 1), (53, .invokestatic 375, 3, 125, 1), (56, .ifCond .ge 11, 3, 67, 0), (59, .aload_n 0, 1, 0, 0), (60, .aload_n 0, 1, 0, 0), (61, .getfield 322, 3, 6, 18), (64, .invokevirtual 361, 3, 123, 1), (67, .iload_n 1, 1, 0, 0), (68, .ifCond .eq 17, 3, 85, 0), (71, .aload_n 0, 1, 0, 0), (72, .iconst 0, 1, 0, 0), (73, .invokevirtual 335, 3, 119, 1), (76, .invokestatic 375, 3, 125, 1), (79, .ifCond .lt 59, 3, 138, 0), (82, .goto 14, 3, 96, 0), (85, .aload_n 0, 1, 0, 0), (86, .iconst 0, 1, 0, 0), (87, .invokevirtual 335, 3, 119, 1), (90, .invokestatic 332, 3, 122, 1), (93, .ifCond .eq 45, 3, 138, 0), (96, .aload_n 0, 1, 0, 0), (97, .aload_n 0, 1, 0, 0), (98, .getfield 352, 3, 6, 22), (101, .iload_n 1, 1, 0, 0), (102, .ifCond .eq 8, 3, 110, 0), (105, .bipush 16, 2, 0, 0), (107, .goto 5, 3, 112, 0), (110, .bipush 10, 2, 0, 0), (112, .imul, 1, 0, 0), (113, .aload_n 0, 1, 0, 0), (114, .iconst 0, 1, 0, 0), (115, .invokevirtual 335, 3, 119, 1), (118, .invokestatic 375, 3, 125, 1), (121, .iadd, 1, 0, 0), (122, .putfield 352, 3, 6, 22), (125, .aload_n 0, 1, 0, 0), (126, .dup, 1, 0, 0), (127, .getfield 322, 3, 6, 18), (130, .iconst 1, 1, 0, 0), (131, .iadd, 1, 0, 0), (132, .putfield 322, 3, 6, 18), (135, .goto (-68), 3, 67, 0), (138, .return_, 1, 0, 0)]
abbrev ab_m124 : ab_M := (10, ({ cls := "CodeSmithModel", name := "number", desc := "()V" } : Jvm.MethodName), prog_9_method_16_code, 2, (Option.none : Option Jvm.ClassFile.FieldType), 0, 1251)
def ab_pr13 : List (ab_M × List ab_I) := [(ab_m116, ab_c116), (ab_m117, ab_c117), (ab_m118, ab_c118), (ab_m119, ab_c119), (ab_m120, ab_c120), (ab_m121, ab_c121), (ab_m122, ab_c122), (ab_m123, ab_c123), (ab_m124, ab_c124)]
set_option maxRecDepth 1000000 in
theorem ab_pr13_ok : ab_pr13.all ab_mok = true := sorry

/-- CodeSmithModel.hex(I)I -/
def ab_c125 : List ab_I := [(0, .iload_n 0, 1, 0, 0), (1, .invokestatic 332, 3, 122, 1), (4, .ifCond .eq 10, 3, 14, 0), (7, .iload_n 0, 1, 0, 0), (8, .bipush 48, 2, 0, 0), (10, .isub, 1, 0, 0), (11, .goto 48, 3, 59, 0), (14, .iload_n 0, 1, 0, 0), (15, .bipush 97, 2, 0, 0), (17, .if_icmp .lt 19, 3, 36, 0), (20, .iload_n 0, 1, 0, 0), (21, .bipush 102, 2, 0, 0), (23, .if_icmp .gt 13, 3, 36, 0), (26, .iload_n 0, 1, 0, 0), (27, .bipush 97, 2, 0, 0), (29, .isub, 1, 0, 0), (30, .bipush 10, 2, 0, 0), (32, .iadd, 1, 0, 0), (33, .goto 26, 3, 59, 0), (36, .iload_n 0, 1, 0, 0), (37, .bipush 65, 2, 0, 0), (39, .if_icmp .lt 19, 3, 58, 0), (42, .iload_n 0, 1, 0, 0), (43, .bipush 70, 2, 0, 0), (45, .if_icmp .gt 13, 3, 58, 0), (48, .iload_n 0, 1, 0, 0), (49, .bipush 65, 2, 0, 0), (51, .isub, 1, 0, 0), (52, .bipush 10, 2, 0, 0), (54, .iadd, 1, 0, 0), (55, .goto 4, 3, 59, 0), (58, .iconst (-1), 1, 0, 0), (59, .ireturn, 1, 0, 0)]
abbrev ab_m125 : ab_M := (10, ({ cls := "CodeSmithModel", name := "hex", desc := "(I)I" } : Jvm.MethodName), prog_9_method_11_code, 1, (Option.some Jvm.ClassFile.FieldType.int), 1, 1254)
/-- CodeSmithModel.letter()V -/
def ab_c126 : List ab_I := [(0, .aload_n 0, 1, 0, 0), (1, .dup, 1, 0, 0), (2, .getfield 322, 3, 6, 18), (5, .iconst 1, 1, 0, 0), (6, .iadd, 1, 0, 0), (7, .putfield 322, 3, 6, 18), (10, .aload_n 0, 1, 0, 0), (11, .aload_n 0, 1, 0, 0), (12, .bipush 39, 2, 0, 0), (14, .invokevirtual 378, 3, 127, 1), (17, .putfield 352, 3, 6, 22), (20, .aload_n 0, 1, 0, 0), (21, .iconst 0, 1, 0, 0), (22, .invokevirtual 335, 3, 119, 1), (25, .bipush 39, 2, 0, 0), (27, .if_icmp .eq 11, 3, 38, 0), (30, .aload_n 0, 1, 0, 0), (31, .aload_n 0, 1, 0, 0), (32, .getfield 322, 3, 6, 18), (35, .invokevirtual 361, 3, 123, 1), (38, .aload_n 0, 1, 0, 0), (39, .dup, 1, 0, 0), (40, .getfield 322, 3, 6, 18), (43, .iconst 1, 1, 0, 0), (44, .iadd, 1, 0, 0), (45, .putfield 322, 3, 6, 18), (48, .return_, 1, 0, 0)]
abbrev ab_m126 : ab_M := (10, ({ cls := "CodeSmithModel", name := "letter", desc := "()V" } : Jvm.MethodName), prog_9_method_18_code, 1, (Option.none : Option Jvm.ClassFile.FieldType), 0, 1258)
/-- CodeSmithModel.character(I)I -/
def ab_c127 : List ab_I := [(0, .aload_n 0, 1, 0, 0), (1, .iconst 0, 1, 0, 0), (2, .invokevirtual 335, 3, 119, 1), (5, .istore_n 2, 1, 0, 0), (6, .iload_n 2, 1, 0, 0), (7, .bipush 92, 2, 0, 0), (9, .if_icmp .ne 100, 3, 109, 0), (12, .aload_n 0, 1, 0, 0), (13, .dup, 1, 0, 0), (14, .getfield 322, 3, 6, 18), (17, .iconst 1, 1, 0, 0), (18, .iadd, 1, 0, 0), (19, .putfield 322, 3, 6, 18), (22, .aload_n 0, 1, 0, 0), (23, .iconst 0, 1, 0, 0), (24, .invokevirtual 335, 3, 119, 1), (27, .istore_n 2, 1, 0, 0), (28, .iload_n 2, 1, 0, 0), (29, .bipush 110, 2, 0, 0), (31, .if_icmp .ne 8, 3, 39, 0), (34, .bipush 10, 2, 0, 0), (36, .goto 47, 3, 83, 0), (39, .iload_n 2, 1, 0, 0), (40, .bipush 116, 2, 0, 0), (42, .if_icmp .ne 8, 3, 50, 0), (45, .bipush 9, 2, 0, 0), (47, .goto 36, 3, 83, 0), (50, .iload_n 2, 1, 0, 0), (51, .bipush 48, 2, 0, 0), (53, .if_icmp .ne 7, 3, 60, 0), (56, .iconst 0, 1, 0, 0), (57, .goto 26, 3, 83, 0), (60, .iload_n 2, 1, 0, 0), (61, .bipush 92, 2, 0, 0), (63, .if_icmp .eq 15, 3, 78, 0), (66, .iload_n 2, 1, 0, 0), (67, .bipush 39, 2, 0, 0), (69, .if_icmp .eq 9, 3, 78, 0), (72, .iload_n 2, 1, 0, 0), (73, .bipush 34, 2, 0, 0), (75, .if_icmp .ne 7, 3, 82, 0), (78, .iload_n 2, 1, 0, 0), (79, .goto 4, 3, 83, 0), (82, .iconst (-1), 1, 0, 0), (83, .istore_n 3, 1, 0, 0), (84, .iload_n 3, 1, 0, 0), (85, .iconst (-1), 1, 0, 0), (86, .if_icmp .ne 11, 3, 97, 0), (89, .aload_n 0, 1, 0, 0), (90, .aload_n 0, 1, 0, 0), (91, .getfield 322, 3, 6, 18), (94, .invokevirtual 361, 3, 123, 1), (97, .aload_n 0, 1, 0, 0), (98, .dup, 1, 0, 0), (99, .getfield 322, 3, 6, 18), (102, .iconst 1, 1, 0, 0), (103, .iadd, 1, 0, 0), (104, .putfield 322, 3, 6, 18), (107, .iload_n 3, 1, 0, 0), (108, .ireturn, 1, 0, 0), (109, .iload_n 2, 1, 0, 0), (110, .bipush 32, 2, 0, 0), (112, .if_icmp .lt 14, 3, 126, 0), (115, .iload_n 2, 1, 0, 0), (116, .bipush 126, 2, 0, 0), (118, .if_icmp .gt 8, 3, 126, 0), (121, .iload_n 2, 1, 0, 0), (122, .iload_n 1, 1, 0, 0), (123, .if_icmp .ne 11, 3, 134, 0), (126, .aload_n 0, 1, 0, 0), (127, .aload_n 0, 1, 0, 0), (128, .getfield 322, 3, 6, 18), (131, .invokevirtual 361, 3, 123, 1), (134, .aload_n 0, 1, 0, 0), (135, .dup, 1, 0, 0), (136, .getfield 322, 3, 6, 18), (139, .iconst 1, 1, 0, 0), (140, .iadd, 1, 0, 0), (141, .putfield 322, 3, 6, 18), (144, .iload_n 2, 1, 0, 0), (145, .ireturn, 1, 0, 0)]
abbrev ab_m127 : ab_M := (10, ({ cls := "CodeSmithModel", name := "character", desc := "(I)I" } : Jvm.MethodName), prog_9_method_17_code, 4, (Option.some Jvm.ClassFile.FieldType.int), 1, 1262)
/-- CodeSmithModel.string()V -/
def ab_c128 : List ab_I := [(0, .aload_n 0, 1, 0, 0), (1, .iconst 0, 1, 0, 0), (2, .putfield 381, 3, 6, 24), (5, .aload_n 0, 1, 0, 0), (6, .dup, 1, 0, 0), (7, .getfield 322, 3, 6, 18), (10, .iconst 1, 1, 0, 0), (11, .iadd, 1, 0, 0), (12, .putfield 322, 3, 6, 18), (15, .aload_n 0, 1, 0, 0), (16, .getfield 339, 3, 6, 23), (19, .ifCond .ge 42, 3, 61, 0), (22, .aload_n 0, 1, 0, 0), (23, .iconst 0, 1, 0, 0), (24, .invokevirtual 335, 3, 119, 1), (27, .bipush 34, 2, 0, 0), (29, .if_icmp .eq 32, 3, 61, 0), (32, .aload_n 0, 1, 0, 0), (33, .getfield 260, 3, 6, 25), (36, .aload_n 0, 1, 0, 0), (37, .getfield 381, 3, 6, 24), (40, .aload_n 0, 1, 0, 0), (41, .bipush 34, 2, 0, 0), (43, .invokevirtual 378, 3, 127, 1), (46, .i2b, 1, 0, 0), (47, .bastore, 1, 0, 0), (48, .aload_n 0, 1, 0, 0), (49, .dup, 1, 0, 0), (50, .getfield 381, 3, 6, 24), (53, .iconst 1, 1, 0, 0), (54, .iadd, 1, 0, 0), (55, .putfield 381, 3, 6, 24), (58, .goto (-43), 3, 15, 0), (61, .aload_n 0, 1, 0, 0), (62, .dup, 1, 0, 0), (63, .getfield 322, 3, 6, 18), (66, .iconst 1, 1, 0, 0), (67, .iadd, 1, 0, 0), (68, .putfield 322, 3, 6, 18), (71, .return_, 1, 0, 0)]
abbrev ab_m128 : ab_M := (10, ({ cls := "CodeSmithModel", name := "string", desc := "()V" } : Jvm.MethodName), prog_9_method_19_code, 1, (Option.none : Option Jvm.ClassFile.FieldType), 0, 1266)
/-- CodeSmithModel.sign(I)V -/
def ab_c129 : List ab_I := [(0, .aload_n 0, 1, 0, 0), (1, .iload_n 1, 1, 0, 0), (2, .putfield 352, 3, 6, 22), (5, .iload_n 1, 1, 0, 0), (6, .bipush 44, 2, 0, 0), (8, .if_icmp .eq 81, 3, 89, 0), (11, .iload_n 1, 1, 0, 0), (12, .bipush 58, 2, 0, 0), (14, .if_icmp .eq 75, 3, 89, 0), (17, .iload_n 1, 1, 0, 0), (18, .bipush 40, 2, 0, 0), (20, .if_icmp .eq 69, 3, 89, 0), (23, .iload_n 1, 1, 0, 0), (24, .bipush 41, 2, 0, 0), (26, .if_icmp .eq 63, 3, 89, 0), (29, .iload_n 1, 1, 0, 0), (30, .bipush 43, 2, 0, 0), (32, .if_icmp .eq 57, 3, 89, 0), (35, .iload_n 1, 1, 0, 0), (36, .bipush 45, 2, 0, 0), (38, .if_icmp .eq 51, 3, 89, 0), (41, .iload_n 1, 1, 0, 0), (42, .bipush 42, 2, 0, 0), (44, .if_icmp .eq 45, 3, 89, 0), (47, .iload_n 1, 1, 0, 0), (48, .bipush 47, 2, 0, 0), (50, .if_icmp .eq 39, 3, 89, 0), (53, .iload_n 1, 1, 0, 0), (54, .bipush 37, 2, 0, 0), (56, .if_icmp .eq 33, 3, 89, 0), (59, .iload_n 1, 1, 0, 0), (60, .bipush 38, 2, 0, 0), (62, .if_icmp .eq 27, 3, 89, 0), (65, .iload_n 1, 1, 0, 0), (66, .bipush 124, 2, 0, 0), (68, .if_icmp .eq 21, 3, 89, 0), (71, .iload_n 1, 1, 0, 0), (72, .bipush 94, 2, 0, 0), (74, .if_icmp .eq 15, 3, 89, 0), (77, .iload_n 1, 1, 0, 0), (78, .bipush 126, 2, 0, 0), (80, .if_icmp .eq 9, 3, 89, 0), (83, .iload_n 1, 1, 0, 0), (84, .bipush 46, 2, 0, 0), (86, .if_icmp .ne 7, 3, 93, 0), (89, .iconst 1, 1, 0, 0), (90, .goto 4, 3, 94, 0), (93, .iconst 0, 1, 0, 0), (94, .istore_n 2, 1, 0, 0), (95, .iload_n 1, 1, 0, 0), (96, .bipush 60, 2, 0, 0), (98, .if_icmp .eq 9, 3, 107, 0), (101, .iload_n 1, 1, 0, 0), (102, .bipush 62, 2, 0, 0), (104, .if_icmp .ne 7, 3, 111, 0), (107, .iconst 1, 1, 0, 0), (108, .goto 4, 3, 112, 0), (111, .iconst 0, 1, 0, 0), (112, .istore_n 3, 1, 0, 0), (113, .aload_n 0, 1, 0, 0), (114, .dup, 1, 0, 0), (115, .getfield 322, 3, 6, 18), (118, .iconst 1, 1, 0, 0), (119, .iadd, 1, 0, 0), (120, .putfield 322, 3, 6, 18), (123, .iload_n 2, 1, 0, 0), (124, .ifCond .ne 15, 3, 139, 0), (127, .iload_n 3, 1, 0, 0), (128, .ifCond .ne 11, 3, 139, 0), (131, .aload_n 0, 1, 0, 0), (132, .aload_n 0, 1, 0, 0), (133, .getfield 349, 3, 6, 21), (136, .invokevirtual 361, 3, 123, 1), (139, .iload_n 3, 1, 0, 0), (140, .ifCond .eq 20, 3, 160, 0), (143, .aload_n 0, 1, 0, 0), (144, .iconst 0, 1, 0, 0), (145, .invokevirtual 335, 3, 119, 1), (148, .iload_n 1, 1, 0, 0), (149, .if_icmp .eq 11, 3, 160, 0), (152, .aload_n 0, 1, 0, 0), (153, .aload_n 0, 1, 0, 0), (154, .getfield 322, 3, 6, 18), (157, .invokevirtual 361, 3, 123, 1), (160, .aload_n 0, 1, 0, 0), (161, .dup, 1, 0, 0), (162, .getfield 322, 3, 6, 18), (165, .iload_n 3, 1, 0, 0), (166, .ifCond .eq 7, 3, 173, 0), (169, .iconst 1, 1, 0, 0), (170, .goto 4, 3, 174, 0), (173, .iconst 0, 1, 0, 0), (174, .iadd, 1, 0, 0), (175, .putfield 322, 3, 6, 18), (178, .return_, 1, 0, 0)]
abbrev ab_m129 : ab_M := (10, ({ cls := "CodeSmithModel", name := "sign", desc := "(I)V" } : Jvm.MethodName), prog_9_method_20_code, 4, (Option.none : Option Jvm.ClassFile.FieldType), 1, 1270)
/-- CodeSmithModel.takes()V -/
def ab_c130 : List ab_I := [(0, .aload_n 0, 1, 0, 0), (1, .getfield 339, 3, 6, 23), (4, .ifCond .lt 12, 3, 16, 0), (7, .aload_n 0, 1, 0, 0), (8, .iconst 1, 1, 0, 0), (9, .aload_n 0, 1, 0, 0), (10, .getfield 339, 3, 6, 23), (13, .invokevirtual 342, 3, 131, 2), (16, .return_, 1, 0, 0)]
abbrev ab_m130 : ab_M := (10, ({ cls := "CodeSmithModel", name := "takes", desc := "()V" } : Jvm.MethodName), prog_9_method_14_code, 1, (Option.none : Option Jvm.ClassFile.FieldType), 0, 1274)
/-- CodeSmithModel.fail(II)V -/
def ab_c131 : List ab_I := [(0, .aload_n 0, 1, 0, 0), (1, .getfield 307, 3, 6, 11), (4, .ifCond .ne 26, 3, 30, 0), (7, .aload_n 0, 1, 0, 0), (8, .iload_n 1, 1, 0, 0), (9, .putfield 307, 3, 6, 11), (12, .aload_n 0, 1, 0, 0), (13, .iload_n 2, 1, 0, 0), (14, .aload_n 0, 1, 0, 0), (15, .getfield 310, 3, 6, 16), (18, .isub, 1, 0, 0), (19, .putfield 313, 3, 6, 12), (22, .aload_n 0, 1, 0, 0), (23, .aload_n 0, 1, 0, 0), (24, .getfield 316, 3, 6, 15), (27, .putfield 319, 3, 6, 13), (30, .return_, 1, 0, 0)]
abbrev ab_m131 : ab_M := (10, ({ cls := "CodeSmithModel", name := "fail", desc := "(II)V" } : Jvm.MethodName), prog_9_method_6_code, 3, (Option.none : Option Jvm.ClassFile.FieldType), 2, 1278)
/-- CodeSmithModel.mustBeNew()V -/
def ab_c132 : List ab_I := [(0, .aload_n 0, 1, 0, 0), (1, .getfield 408, 3, 6, 19), (4, .ifCond .ne 52, 3, 56, 0), (7, .aload_n 0, 1, 0, 0), (8, .aload_n 0, 1, 0, 0), (9, .getfield 349, 3, 6, 21), (12, .aload_n 0, 1, 0, 0), (13, .getfield 322, 3, 6, 18), (16, .aload_n 0, 1, 0, 0), (17, .getfield 349, 3, 6, 21), (20, .isub, 1, 0, 0), (21, .invokevirtual 412, 3, 133, 2), (24, .ifCond .ge 23, 3, 47, 0), (27, .aload_n 0, 1, 0, 0), (28, .aload_n 0, 1, 0, 0), (29, .getfield 349, 3, 6, 21), (32, .aload_n 0, 1, 0, 0), (33, .getfield 322, 3, 6, 18), (36, .aload_n 0, 1, 0, 0), (37, .getfield 349, 3, 6, 21), (40, .isub, 1, 0, 0), (41, .invokevirtual 401, 3, 134, 2), (44, .ifCond .lt 12, 3, 56, 0), (47, .aload_n 0, 1, 0, 0), (48, .iconst 2, 1, 0, 0), (49, .aload_n 0, 1, 0, 0), (50, .getfield 349, 3, 6, 21), (53, .invokevirtual 342, 3, 131, 2), (56, .return_, 1, 0, 0)]
abbrev ab_m132 : ab_M := (10, ({ cls := "CodeSmithModel", name := "mustBeNew", desc := "()V" } : Jvm.MethodName), prog_9_method_30_code, 1, (Option.none : Option Jvm.ClassFile.FieldType), 0, 1282)
def ab_pr14 : List (ab_M × List ab_I) := [(ab_m125, ab_c125), (ab_m126, ab_c126), (ab_m127, ab_c127), (ab_m128, ab_c128), (ab_m129, ab_c129), (ab_m130, ab_c130), (ab_m131, ab_c131), (ab_m132, ab_c132)]
set_option maxRecDepth 1000000 in
theorem ab_pr14_ok : ab_pr14.all ab_mok = true := sorry

/-- CodeSmithModel.symbol(II)I -/
def ab_c133 : List ab_I := [(0, .iconst (-1), 1, 0, 0), (1, .istore_n 3, 1, 0, 0), (2, .iconst 0, 1, 0, 0), (3, .istore 4, 2, 0, 0), (5, .iload 4, 2, 0, 0), (7, .aload_n 0, 1, 0, 0), (8, .getfield 405, 3, 6, 26), (11, .if_icmp .ge 97, 3, 108, 0), (14, .iload_n 3, 1, 0, 0), (15, .ifCond .ge 93, 3, 108, 0), (18, .aload_n 0, 1, 0, 0), (19, .getfield 266, 3, 6, 28), (22, .iload 4, 2, 0, 0), (24, .iaload, 1, 0, 0), (25, .iload_n 2, 1, 0, 0), (26, .if_icmp .ne 7, 3, 33, 0), (29, .iconst 1, 1, 0, 0), (30, .goto 4, 3, 34, 0), (33, .iconst 0, 1, 0, 0), (34, .istore 5, 2, 0, 0), (36, .iconst 0, 1, 0, 0), (37, .istore 6, 2, 0, 0), (39, .iload 6, 2, 0, 0), (41, .iload_n 2, 1, 0, 0), (42, .if_icmp .ge 48, 3, 90, 0), (45, .iload 5, 2, 0, 0), (47, .ifCond .eq 43, 3, 90, 0), (50, .aload_n 0, 1, 0, 0), (51, .getfield 253, 3, 6, 4), (54, .aload_n 0, 1, 0, 0), (55, .getfield 263, 3, 6, 27), (58, .iload 4, 2, 0, 0), (60, .iaload, 1, 0, 0), (61, .iload 6, 2, 0, 0), (63, .iadd, 1, 0, 0), (64, .baload, 1, 0, 0), (65, .aload_n 0, 1, 0, 0), (66, .getfield 253, 3, 6, 4), (69, .iload_n 1, 1, 0, 0), (70, .iload 6, 2, 0, 0), (72, .iadd, 1, 0, 0), (73, .baload, 1, 0, 0), (74, .if_icmp .ne 7, 3, 81, 0), (77, .iconst 1, 1, 0, 0), (78, .goto 4, 3, 82, 0), (81, .iconst 0, 1, 0, 0), (82, .istore 5, 2, 0, 0), (84, .iinc 6 1, 3, 0, 0), (87, .goto (-48), 3, 39, 0), (90, .iload 5, 2, 0, 0), (92, .ifCond .eq 8, 3, 100, 0), (95, .iload 4, 2, 0, 0), (97, .goto 4, 3, 101, 0), (100, .iconst (-1), 1, 0, 0), (101, .istore_n 3, 1, 0, 0), (102, .iinc 4 1, 3, 0, 0), (105, .goto (-100), 3, 5, 0), (108, .iload_n 3, 1, 0, 0), (109, .ireturn, 1, 0, 0)]
abbrev ab_m133 : ab_M := (10, ({ cls := "CodeSmithModel", name := "symbol", desc := "(II)I" } : Jvm.MethodName), prog_9_method_28_code, 7, (Option.some Jvm.ClassFile.FieldType.int), 2, 1286)
/-- CodeSmithModel.registerAt(II)I -/
def ab_c134 : List ab_I := [(0, .aload_n 0, 1, 0, 0), (1, .aload_n 0, 1, 0, 0), (2, .getfield 73, 3, 6, 0), (5, .iload_n 1, 1, 0, 0), (6, .iload_n 2, 1, 0, 0), (7, .invokevirtual 394, 3, 135, 3), (10, .istore_n 3, 1, 0, 0), (11, .iload_n 2, 1, 0, 0), (12, .iconst 2, 1, 0, 0), (13, .if_icmp .ne 17, 3, 30, 0), (16, .aload_n 0, 1, 0, 0), (17, .getfield 253, 3, 6, 4), (20, .iload_n 1, 1, 0, 0), (21, .iconst 1, 1, 0, 0), (22, .iadd, 1, 0, 0), (23, .baload, 1, 0, 0), (24, .invokestatic 375, 3, 125, 1), (27, .goto 51, 3, 78, 0), (30, .iload_n 2, 1, 0, 0), (31, .iconst 3, 1, 0, 0), (32, .if_icmp .ne 45, 3, 77, 0), (35, .aload_n 0, 1, 0, 0), (36, .getfield 253, 3, 6, 4), (39, .iload_n 1, 1, 0, 0), (40, .iconst 1, 1, 0, 0), (41, .iadd, 1, 0, 0), (42, .baload, 1, 0, 0), (43, .bipush 48, 2, 0, 0), (45, .if_icmp .eq 32, 3, 77, 0), (48, .bipush 10, 2, 0, 0), (50, .aload_n 0, 1, 0, 0), (51, .getfield 253, 3, 6, 4), (54, .iload_n 1, 1, 0, 0), (55, .iconst 1, 1, 0, 0), (56, .iadd, 1, 0, 0), (57, .baload, 1, 0, 0), (58, .invokestatic 375, 3, 125, 1), (61, .imul, 1, 0, 0), (62, .aload_n 0, 1, 0, 0), (63, .getfield 253, 3, 6, 4), (66, .iload_n 1, 1, 0, 0), (67, .iconst 2, 1, 0, 0), (68, .iadd, 1, 0, 0), (69, .baload, 1, 0, 0), (70, .invokestatic 375, 3, 125, 1), (73, .iadd, 1, 0, 0), (74, .goto 4, 3, 78, 0), (77, .iconst (-1), 1, 0, 0), (78, .istore 4, 2, 0, 0), (80, .iload_n 2, 1, 0, 0), (81, .iconst 1, 1, 0, 0), (82, .if_icmp .le 60, 3, 142, 0), (85, .iload_n 2, 1, 0, 0), (86, .iconst 4, 1, 0, 0), (87, .if_icmp .ge 55, 3, 142, 0), (90, .aload_n 0, 1, 0, 0), (91, .getfield 253, 3, 6, 4), (94, .iload_n 1, 1, 0, 0), (95, .baload, 1, 0, 0), (96, .bipush 120, 2, 0, 0), (98, .if_icmp .ne 44, 3, 142, 0), (101, .aload_n 0, 1, 0, 0), (102, .getfield 253, 3, 6, 4), (105, .iload_n 1, 1, 0, 0), (106, .iconst 1, 1, 0, 0), (107, .iadd, 1, 0, 0), (108, .baload, 1, 0, 0), (109, .invokestatic 332, 3, 122, 1), (112, .ifCond .eq 30, 3, 142, 0), (115, .aload_n 0, 1, 0, 0), (116, .getfield 253, 3, 6, 4), (119, .iload_n 1, 1, 0, 0), (120, .iload_n 2, 1, 0, 0), (121, .iadd, 1, 0, 0), (122, .iconst 1, 1, 0, 0), (123, .isub, 1, 0, 0), (124, .baload, 1, 0, 0), (125, .invokestatic 332, 3, 122, 1), (128, .ifCond .eq 14, 3, 142, 0), (131, .iload 4, 2, 0, 0), (133, .bipush 32, 2, 0, 0), (135, .if_icmp .ge 7, 3, 142, 0), (138, .iconst 1, 1, 0, 0), (139, .goto 4, 3, 143, 0), (142, .iconst 0, 1, 0, 0), (143, .istore 5, 2, 0, 0), (145, .iload_n 3, 1, 0, 0), (146, .bipush 32, 2, 0, 0), (148, .if_icmp .ne 8, 3, 156, 0), (151, .bipush 8, 2, 0, 0), (153, .goto 22, 3, 175, 0), (156, .iload_n 3, 1, 0, 0), (157, .ifCond .lt 7, 3, 164, 0), (160, .iload_n 3, 1, 0, 0), (161, .goto 14, 3, 175, 0), (164, .iload 5, 2, 0, 0), (166, .ifCond .eq 8, 3, 174, 0), (169, .iload 4, 2, 0, 0), (171, .goto 4, 3, 175, 0), (174, .iconst (-1), 1, 0, 0), (175, .ireturn, 1, 0, 0)]
abbrev ab_m134 : ab_M := (10, ({ cls := "CodeSmithModel", name := "registerAt", desc := "(II)I" } : Jvm.MethodName), prog_9_method_25_code, 6, (Option.some Jvm.ClassFile.FieldType.int), 2, 1290)
/-- CodeSmithModel.word([JII)I -/
def ab_c135 : List ab_I := [(0, .aload_n 1, 1, 0, 0), (1, .arraylength, 1, 0, 0), (2, .iconst 1, 1, 0, 0), (3, .isub, 1, 0, 0), (4, .istore 4, 2, 0, 0), (6, .iload 4, 2, 0, 0), (8, .ifCond .lt 23, 3, 31, 0), (11, .aload_n 1, 1, 0, 0), (12, .iload 4, 2, 0, 0), (14, .laload, 1, 0, 0), (15, .aload_n 0, 1, 0, 0), (16, .iload_n 2, 1, 0, 0), (17, .iload_n 3, 1, 0, 0), (18, .invokevirtual 390, 3, 136, 2), (21, .lcmp, 1, 0, 0), (22, .ifCond .eq 9, 3, 31, 0), (25, .iinc 4 (-1), 3, 0, 0), (28, .goto (-22), 3, 6, 0), (31, .iload 4, 2, 0, 0), (33, .ireturn, 1, 0, 0)]
abbrev ab_m135 : ab_M := (10, ({ cls := "CodeSmithModel", name := "word", desc := "([JII)I" } : Jvm.MethodName), prog_9_method_24_code, 5, (Option.some Jvm.ClassFile.FieldType.int), 3, 1294)
/-- CodeSmithModel.packed(II)J -/
def ab_c136 : List ab_I := [(0, .lconst 0, 1, 0, 0), (1, .lstore_n 3, 1, 0, 0), (2, .iconst 0, 1, 0, 0), (3, .istore 5, 2, 0, 0), (5, .iload 5, 2, 0, 0), (7, .iload_n 2, 1, 0, 0), (8, .if_icmp .ge 35, 3, 43, 0), (11, .iload_n 2, 1, 0, 0), (12, .bipush 9, 2, 0, 0), (14, .if_icmp .ge 29, 3, 43, 0), (17, .lload_n 3, 1, 0, 0), (18, .bipush 8, 2, 0, 0), (20, .lshl, 1, 0, 0), (21, .aload_n 0, 1, 0, 0), (22, .getfield 253, 3, 6, 4), (25, .iload_n 1, 1, 0, 0), (26, .iload 5, 2, 0, 0), (28, .iadd, 1, 0, 0), (29, .baload, 1, 0, 0), (30, .sipush 255, 3, 0, 0), (33, .iand, 1, 0, 0), (34, .i2l, 1, 0, 0), (35, .lor, 1, 0, 0), (36, .lstore_n 3, 1, 0, 0), (37, .iinc 5 1, 3, 0, 0), (40, .goto (-35), 3, 5, 0), (43, .lload_n 3, 1, 0, 0), (44, .lreturn, 1, 0, 0)]
abbrev ab_m136 : ab_M := (10, ({ cls := "CodeSmithModel", name := "packed", desc := "(II)J" } : Jvm.MethodName), prog_9_method_23_code, 6, (Option.some Jvm.ClassFile.FieldType.long), 2, 1298)
/-- CodeSmithModel.define(IIII)V -/
def ab_c137 : List ab_I := [(0, .aload_n 0, 1, 0, 0), (1, .getfield 408, 3, 6, 19), (4, .ifCond .eq 4, 3, 8, 0), (7, .return_, 1, 0, 0), (8, .aload_n 0, 1, 0, 0), (9, .dup, 1, 0, 0), (10, .getfield 405, 3, 6, 26), (13, .dup_x1, 1, 0, 0), (14, .iconst 1, 1, 0, 0), (15, .iadd, 1, 0, 0), (16, .putfield 405, 3, 6, 26), (19, .istore 5, 2, 0, 0), (21, .aload_n 0, 1, 0, 0), (22, .getfield 263, 3, 6, 27), (25, .iload 5, 2, 0, 0), (27, .iload_n 2, 1, 0, 0), (28, .iastore, 1, 0, 0), (29, .aload_n 0, 1, 0, 0), (30, .getfield 266, 3, 6, 28), (33, .iload 5, 2, 0, 0), (35, .iload_n 3, 1, 0, 0), (36, .iastore, 1, 0, 0), (37, .aload_n 0, 1, 0, 0), (38, .getfield 269, 3, 6, 29), (41, .iload 5, 2, 0, 0), (43, .iload_n 1, 1, 0, 0), (44, .iastore, 1, 0, 0), (45, .aload_n 0, 1, 0, 0), (46, .getfield 272, 3, 6, 30), (49, .iload 5, 2, 0, 0), (51, .iload 4, 2, 0, 0), (53, .iastore, 1, 0, 0), (54, .aload_n 0, 1, 0, 0), (55, .getfield 275, 3, 6, 31), (58, .iload 5, 2, 0, 0), (60, .aload_n 0, 1, 0, 0), (61, .getfield 316, 3, 6, 15), (64, .iastore, 1, 0, 0), (65, .return_, 1, 0, 0)]
abbrev ab_m137 : ab_M := (10, ({ cls := "CodeSmithModel", name := "define", desc := "(IIII)V" } : Jvm.MethodName), prog_9_method_29_code, 6, (Option.none : Option Jvm.ClassFile.FieldType), 4, 1302)
def ab_pr15 : List (ab_M × List ab_I) := [(ab_m133, ab_c133), (ab_m134, ab_c134), (ab_m135, ab_c135), (ab_m136, ab_c136), (ab_m137, ab_c137)]
set_option maxRecDepth 1000000 in
theorem ab_pr15_ok : ab_pr15.all ab_mok = true := sorry

abbrev ab_m138 : ab_M := (10, ({ cls := "CodeSmithModel", name := "instruction", desc := "(I)V" } : Jvm.MethodName), prog_9_method_54_code, 6, (Option.none : Option Jvm.ClassFile.FieldType), 1, 1306)
def ab_c138_0 : List ab_I := [(0, .iload_n 1, 1, 0, 0), (1, .bipush 51, 2, 0, 0), (3, .if_icmp .ge 12, 3, 15, 0), (6, .aload_n 0, 1, 0, 0), (7, .getfield 248, 3, 6, 2), (10, .iload_n 1, 1, 0, 0), (11, .iaload, 1, 0, 0), (12, .goto 4, 3, 16, 0), (15, .iconst 0, 1, 0, 0), (16, .istore_n 2, 1, 0, 0), (17, .iload_n 1, 1, 0, 0), (18, .bipush 18, 2, 0, 0), (20, .if_icmp .ge 60, 3, 80, 0), (23, .aload_n 0, 1, 0, 0), (24, .invokevirtual 512, 3, 139, 0), (27, .istore_n 3, 1, 0, 0), (28, .aload_n 0, 1, 0, 0), (29, .invokevirtual 512, 3, 139, 0), (32, .istore 4, 2, 0, 0), (34, .aload_n 0, 1, 0, 0), (35, .iload_n 1, 1, 0, 0), (36, .iconst 1, 1, 0, 0), (37, .if_icmp .eq 9, 3, 46, 0), (40, .iload_n 1, 1, 0, 0), (41, .bipush 7, 2, 0, 0), (43, .if_icmp .ne 8, 3, 51, 0), (46, .bipush 32, 2, 0, 0), (48, .goto 14, 3, 62, 0), (51, .iload_n 1, 1, 0, 0), (52, .bipush 9, 2, 0, 0), (54, .if_icmp .le 7, 3, 61, 0), (57, .iconst 1, 1, 0, 0), (58, .goto 4, 3, 62, 0), (61, .iconst 0, 1, 0, 0), (62, .aload_n 0, 1, 0, 0), (63, .invokevirtual 491, 3, 140, 0), (66, .iload 4, 2, 0, 0), (68, .iload_n 2, 1, 0, 0), (69, .iload_n 3, 1, 0, 0), (70, .invokestatic 515, 3, 143, 5), (73, .iconst 4, 1, 0, 0), (74, .invokevirtual 486, 3, 144, 2), (77, .goto 523, 3, 600, 0), (80, .iload_n 1, 1, 0, 0), (81, .bipush 27, 2, 0, 0)]
set_option maxRecDepth 1000000 in
theorem ab_c138_0_ok : ab_c138_0.all (ab_eok 10 prog_9_method_54_code) = true := sorry
def ab_c138_1 : List ab_I := [(83, .if_icmp .ge 85, 3, 168, 0), (86, .aload_n 0, 1, 0, 0), (87, .invokevirtual 512, 3, 139, 0), (90, .istore_n 3, 1, 0, 0), (91, .aload_n 0, 1, 0, 0), (92, .invokevirtual 512, 3, 139, 0), (95, .istore 4, 2, 0, 0), (97, .aload_n 0, 1, 0, 0), (98, .aload_n 0, 1, 0, 0), (99, .invokevirtual 502, 3, 145, 0), (102, .iload_n 1, 1, 0, 0), (103, .bipush 24, 2, 0, 0), (105, .if_icmp .ge 9, 3, 114, 0), (108, .sipush (-2048), 3, 0, 0), (111, .goto 4, 3, 115, 0), (114, .iconst 0, 1, 0, 0), (115, .iload_n 1, 1, 0, 0), (116, .bipush 24, 2, 0, 0), (118, .if_icmp .ge 9, 3, 127, 0), (121, .sipush 2047, 3, 0, 0), (124, .goto 5, 3, 129, 0), (127, .bipush 31, 2, 0, 0), (129, .invokevirtual 483, 3, 159, 3), (132, .istore 5, 2, 0, 0), (134, .aload_n 0, 1, 0, 0), (135, .iload_n 1, 1, 0, 0), (136, .bipush 26, 2, 0, 0), (138, .if_icmp .ne 12, 3, 150, 0), (141, .iload 5, 2, 0, 0), (143, .sipush 1024, 3, 0, 0), (146, .ior, 1, 0, 0), (147, .goto 5, 3, 152, 0), (150, .iload 5, 2, 0, 0), (152, .iload 4, 2, 0, 0), (154, .iload_n 2, 1, 0, 0), (155, .iload_n 3, 1, 0, 0), (156, .bipush 19, 2, 0, 0), (158, .invokestatic 508, 3, 160, 5), (161, .iconst 4, 1, 0, 0), (162, .invokevirtual 486, 3, 144, 2), (165, .goto 435, 3, 600, 0), (168, .iload_n 1, 1, 0, 0), (169, .bipush 35, 2, 0, 0), (171, .if_icmp .ge 80, 3, 251, 0), (174, .aload_n 0, 1, 0, 0)]
set_option maxRecDepth 1000000 in
theorem ab_c138_1_ok : ab_c138_1.all (ab_eok 10 prog_9_method_54_code) = true := sorry
def ab_c138_2 : List ab_I := [(175, .invokevirtual 512, 3, 139, 0), (178, .istore_n 3, 1, 0, 0), (179, .aload_n 0, 1, 0, 0), (180, .invokevirtual 518, 3, 161, 0), (183, .istore 4, 2, 0, 0), (185, .aload_n 0, 1, 0, 0), (186, .iload_n 1, 1, 0, 0), (187, .bipush 32, 2, 0, 0), (189, .if_icmp .ge 18, 3, 207, 0), (192, .iload 4, 2, 0, 0), (194, .aload_n 0, 1, 0, 0), (195, .getfield 505, 3, 6, 47), (198, .iload_n 2, 1, 0, 0), (199, .iload_n 3, 1, 0, 0), (200, .iconst 3, 1, 0, 0), (201, .invokestatic 508, 3, 160, 5), (204, .goto 40, 3, 244, 0), (207, .iload 4, 2, 0, 0), (209, .iconst 5, 1, 0, 0), (210, .ishr, 1, 0, 0), (211, .bipush 25, 2, 0, 0), (213, .ishl, 1, 0, 0), (214, .iload_n 3, 1, 0, 0), (215, .bipush 20, 2, 0, 0), (217, .ishl, 1, 0, 0), (218, .ior, 1, 0, 0), (219, .aload_n 0, 1, 0, 0), (220, .getfield 505, 3, 6, 47), (223, .bipush 15, 2, 0, 0), (225, .ishl, 1, 0, 0), (226, .ior, 1, 0, 0), (227, .iload_n 2, 1, 0, 0), (228, .bipush 12, 2, 0, 0), (230, .ishl, 1, 0, 0), (231, .ior, 1, 0, 0), (232, .iload 4, 2, 0, 0), (234, .bipush 31, 2, 0, 0), (236, .iand, 1, 0, 0), (237, .bipush 7, 2, 0, 0), (239, .ishl, 1, 0, 0), (240, .ior, 1, 0, 0), (241, .bipush 35, 2, 0, 0), (243, .ior, 1, 0, 0), (244, .iconst 4, 1, 0, 0), (245, .invokevirtual 486, 3, 144, 2)]
set_option maxRecDepth 1000000 in
theorem ab_c138_2_ok : ab_c138_2.all (ab_eok 10 prog_9_method_54_code) = true := sorry
def ab_c138_3 : List ab_I := [(248, .goto 352, 3, 600, 0), (251, .iload_n 1, 1, 0, 0), (252, .bipush 51, 2, 0, 0), (254, .if_icmp .ge 83, 3, 337, 0), (257, .aload_n 0, 1, 0, 0), (258, .invokevirtual 512, 3, 139, 0), (261, .istore_n 3, 1, 0, 0), (262, .iload_n 1, 1, 0, 0), (263, .bipush 45, 2, 0, 0), (265, .if_icmp .ge 10, 3, 275, 0), (268, .aload_n 0, 1, 0, 0), (269, .invokevirtual 512, 3, 139, 0), (272, .goto 4, 3, 276, 0), (275, .iconst 0, 1, 0, 0), (276, .istore 4, 2, 0, 0), (278, .iload_n 1, 1, 0, 0), (279, .bipush 40, 2, 0, 0), (281, .if_icmp .le 9, 3, 290, 0), (284, .iload_n 1, 1, 0, 0), (285, .bipush 45, 2, 0, 0), (287, .if_icmp .lt 9, 3, 296, 0), (290, .iload_n 1, 1, 0, 0), (291, .bipush 48, 2, 0, 0), (293, .if_icmp .le 7, 3, 300, 0), (296, .iconst 1, 1, 0, 0), (297, .goto 4, 3, 301, 0), (300, .iconst 0, 1, 0, 0), (301, .istore 5, 2, 0, 0), (303, .aload_n 0, 1, 0, 0), (304, .iload_n 2, 1, 0, 0), (305, .iload 5, 2, 0, 0), (307, .ifCond .eq 8, 3, 315, 0), (310, .iload 4, 2, 0, 0), (312, .goto 4, 3, 316, 0), (315, .iload_n 3, 1, 0, 0), (316, .iload 5, 2, 0, 0), (318, .ifCond .eq 7, 3, 325, 0), (321, .iload_n 3, 1, 0, 0), (322, .goto 5, 3, 327, 0), (325, .iload 4, 2, 0, 0), (327, .aload_n 0, 1, 0, 0), (328, .invokevirtual 502, 3, 145, 0), (331, .invokevirtual 521, 3, 163, 4), (334, .goto 266, 3, 600, 0), (337, .iload_n 1, 1, 0, 0)]
set_option maxRecDepth 1000000 in
theorem ab_c138_3_ok : ab_c138_3.all (ab_eok 10 prog_9_method_54_code) = true := sorry
def ab_c138_4 : List ab_I := [(338, .bipush 53, 2, 0, 0), (340, .if_icmp .ge 50, 3, 390, 0), (343, .aload_n 0, 1, 0, 0), (344, .invokevirtual 512, 3, 139, 0), (347, .istore_n 3, 1, 0, 0), (348, .aload_n 0, 1, 0, 0), (349, .aload_n 0, 1, 0, 0), (350, .aload_n 0, 1, 0, 0), (351, .invokevirtual 502, 3, 145, 0), (354, .iconst 0, 1, 0, 0), (355, .ldc_w 525, 3, 1048575, 0), (358, .invokevirtual 483, 3, 159, 3), (361, .bipush 12, 2, 0, 0), (363, .ishl, 1, 0, 0), (364, .iload_n 3, 1, 0, 0), (365, .bipush 7, 2, 0, 0), (367, .ishl, 1, 0, 0), (368, .ior, 1, 0, 0), (369, .iload_n 1, 1, 0, 0), (370, .bipush 51, 2, 0, 0), (372, .if_icmp .ne 8, 3, 380, 0), (375, .bipush 55, 2, 0, 0), (377, .goto 5, 3, 382, 0), (380, .bipush 23, 2, 0, 0), (382, .ior, 1, 0, 0), (383, .iconst 4, 1, 0, 0), (384, .invokevirtual 486, 3, 144, 2), (387, .goto 213, 3, 600, 0), (390, .iload_n 1, 1, 0, 0), (391, .bipush 53, 2, 0, 0), (393, .if_icmp .ne 59, 3, 452, 0), (396, .aload_n 0, 1, 0, 0), (397, .getfield 307, 3, 6, 11), (400, .ifCond .ne 38, 3, 438, 0), (403, .aload_n 0, 1, 0, 0), (404, .getfield 358, 3, 6, 20), (407, .iconst 1, 1, 0, 0), (408, .if_icmp .ne 30, 3, 438, 0), (411, .aload_n 0, 1, 0, 0), (412, .aload_n 0, 1, 0, 0), (413, .getfield 349, 3, 6, 21), (416, .aload_n 0, 1, 0, 0), (417, .getfield 322, 3, 6, 18), (420, .aload_n 0, 1, 0, 0), (421, .getfield 349, 3, 6, 21)]
set_option maxRecDepth 1000000 in
theorem ab_c138_4_ok : ab_c138_4.all (ab_eok 10 prog_9_method_54_code) = true := sorry

def ab_c138_5 : List ab_I := [(424, .isub, 1, 0, 0), (425, .invokevirtual 401, 3, 134, 2), (428, .ifCond .lt 10, 3, 438, 0), (431, .aload_n 0, 1, 0, 0), (432, .invokevirtual 512, 3, 139, 0), (435, .goto 4, 3, 439, 0), (438, .iconst 1, 1, 0, 0), (439, .istore_n 3, 1, 0, 0), (440, .aload_n 0, 1, 0, 0), (441, .iload_n 3, 1, 0, 0), (442, .aload_n 0, 1, 0, 0), (443, .invokevirtual 502, 3, 145, 0), (446, .invokevirtual 526, 3, 164, 2), (449, .goto 151, 3, 600, 0), (452, .iload_n 1, 1, 0, 0), (453, .bipush 54, 2, 0, 0), (455, .if_icmp .ne 86, 3, 541, 0), (458, .aload_n 0, 1, 0, 0), (459, .invokevirtual 491, 3, 140, 0), (462, .istore_n 3, 1, 0, 0), (463, .aload_n 0, 1, 0, 0), (464, .bipush 44, 2, 0, 0), (466, .invokevirtual 384, 3, 142, 1), (469, .ifCond .ne 7, 3, 476, 0), (472, .iconst 1, 1, 0, 0), (473, .goto 4, 3, 477, 0), (476, .iconst 0, 1, 0, 0), (477, .istore 4, 2, 0, 0), (479, .iload 4, 2, 0, 0), (481, .ifCond .ne 7, 3, 488, 0), (484, .aload_n 0, 1, 0, 0), (485, .invokevirtual 387, 3, 117, 0), (488, .iload 4, 2, 0, 0), (490, .ifCond .eq 7, 3, 497, 0), (493, .iconst 0, 1, 0, 0), (494, .goto 7, 3, 501, 0), (497, .aload_n 0, 1, 0, 0), (498, .invokevirtual 518, 3, 161, 0), (501, .istore 5, 2, 0, 0), (503, .aload_n 0, 1, 0, 0), (504, .iload 4, 2, 0, 0), (506, .ifCond .eq 15, 3, 521, 0), (509, .iconst 0, 1, 0, 0), (510, .iload_n 3, 1, 0, 0), (511, .iconst 0, 1, 0, 0)]
set_option maxRecDepth 1000000 in
theorem ab_c138_5_ok : ab_c138_5.all (ab_eok 10 prog_9_method_54_code) = true := sorry
def ab_c138_6 : List ab_I := [(512, .iconst 1, 1, 0, 0), (513, .bipush 103, 2, 0, 0), (515, .invokestatic 508, 3, 160, 5), (518, .goto 16, 3, 534, 0), (521, .iload 5, 2, 0, 0), (523, .aload_n 0, 1, 0, 0), (524, .getfield 505, 3, 6, 47), (527, .iconst 0, 1, 0, 0), (528, .iload_n 3, 1, 0, 0), (529, .bipush 103, 2, 0, 0), (531, .invokestatic 508, 3, 160, 5), (534, .iconst 4, 1, 0, 0), (535, .invokevirtual 486, 3, 144, 2), (538, .goto 62, 3, 600, 0), (541, .aload_n 0, 1, 0, 0), (542, .iload_n 1, 1, 0, 0), (543, .bipush 55, 2, 0, 0), (545, .if_icmp .ne 8, 3, 553, 0), (548, .bipush 15, 2, 0, 0), (550, .goto 46, 3, 596, 0), (553, .iload_n 1, 1, 0, 0), (554, .bipush 56, 2, 0, 0), (556, .if_icmp .ne 8, 3, 564, 0), (559, .bipush 115, 2, 0, 0), (561, .goto 35, 3, 596, 0), (564, .iload_n 1, 1, 0, 0), (565, .bipush 57, 2, 0, 0), (567, .if_icmp .ne 9, 3, 576, 0), (570, .ldc_w 529, 3, 1048691, 0), (573, .goto 23, 3, 596, 0), (576, .iload_n 1, 1, 0, 0), (577, .bipush 58, 2, 0, 0), (579, .if_icmp .ne 8, 3, 587, 0), (582, .bipush 19, 2, 0, 0), (584, .goto 12, 3, 596, 0), (587, .iconst 0, 1, 0, 0), (588, .iconst 1, 1, 0, 0), (589, .iconst 0, 1, 0, 0), (590, .iconst 0, 1, 0, 0), (591, .bipush 103, 2, 0, 0), (593, .invokestatic 508, 3, 160, 5), (596, .iconst 4, 1, 0, 0), (597, .invokevirtual 486, 3, 144, 2), (600, .return_, 1, 0, 0)]
set_option maxRecDepth 1000000 in
theorem ab_c138_6_ok : ab_c138_6.all (ab_eok 10 prog_9_method_54_code) = true := sorry
/-- CodeSmithModel.instruction(I)V -/
def ab_c138 : List ab_I := ab_c138_0 ++ (ab_c138_1 ++ (ab_c138_2 ++ (ab_c138_3 ++ (ab_c138_4 ++ (ab_c138_5 ++ (ab_c138_6))))))
def ab_pr16 : List (ab_M × List ab_I) := [(ab_m138, ab_c138)]
set_option maxRecDepth 1000000 in
theorem ab_m138_w : lw_tbl[1306]? = some (.code ({ cls := "CodeSmithModel", name := "instruction", desc := "(I)V" } : Jvm.MethodName) prog_9_method_54_code 6 (Option.none : Option Jvm.ClassFile.FieldType)) := rfl
set_option maxRecDepth 1000000 in
theorem ab_m138_h : ab_hok ab_m138 = true := sorry
theorem ab_c138_all : ab_c138.all (ab_eok 10 prog_9_method_54_code) = true := sorry
theorem ab_pr16_ok : ab_pr16.all ab_mok = true := sorry

/-- CodeSmithModel.registerAndComma()I -/
def ab_c139 : List ab_I := [(0, .aload_n 0, 1, 0, 0), (1, .invokevirtual 491, 3, 140, 0), (4, .istore_n 1, 1, 0, 0), (5, .aload_n 0, 1, 0, 0), (6, .bipush 44, 2, 0, 0), (8, .invokevirtual 495, 3, 141, 1), (11, .iload_n 1, 1, 0, 0), (12, .ireturn, 1, 0, 0)]
abbrev ab_m139 : ab_M := (10, ({ cls := "CodeSmithModel", name := "registerAndComma", desc := "()I" } : Jvm.MethodName), prog_9_method_51_code, 2, (Option.some Jvm.ClassFile.FieldType.int), 0, 1310)
/-- CodeSmithModel.register()I -/
def ab_c140 : List ab_I := [(0, .aload_n 0, 1, 0, 0), (1, .getfield 358, 3, 6, 20), (4, .iconst 1, 1, 0, 0), (5, .if_icmp .ne 7, 3, 12, 0), (8, .aload_n 0, 1, 0, 0), (9, .invokevirtual 398, 3, 130, 0), (12, .aload_n 0, 1, 0, 0), (13, .getfield 307, 3, 6, 11), (16, .ifCond .ne 31, 3, 47, 0), (19, .aload_n 0, 1, 0, 0), (20, .getfield 358, 3, 6, 20), (23, .iconst 1, 1, 0, 0), (24, .if_icmp .ne 23, 3, 47, 0), (27, .aload_n 0, 1, 0, 0), (28, .aload_n 0, 1, 0, 0), (29, .getfield 349, 3, 6, 21), (32, .aload_n 0, 1, 0, 0), (33, .getfield 322, 3, 6, 18), (36, .aload_n 0, 1, 0, 0), (37, .getfield 349, 3, 6, 21), (40, .isub, 1, 0, 0), (41, .invokevirtual 401, 3, 134, 2), (44, .goto 4, 3, 48, 0), (47, .iconst (-1), 1, 0, 0), (48, .istore_n 1, 1, 0, 0), (49, .iload_n 1, 1, 0, 0), (50, .ifCond .ge 15, 3, 65, 0), (53, .aload_n 0, 1, 0, 0), (54, .iconst 1, 1, 0, 0), (55, .aload_n 0, 1, 0, 0), (56, .getfield 349, 3, 6, 21), (59, .invokevirtual 342, 3, 131, 2), (62, .goto 7, 3, 69, 0), (65, .aload_n 0, 1, 0, 0), (66, .invokevirtual 387, 3, 117, 0), (69, .iload_n 1, 1, 0, 0), (70, .ifCond .ge 7, 3, 77, 0), (73, .iconst 0, 1, 0, 0), (74, .goto 4, 3, 78, 0), (77, .iload_n 1, 1, 0, 0), (78, .ireturn, 1, 0, 0)]
abbrev ab_m140 : ab_M := (10, ({ cls := "CodeSmithModel", name := "register", desc := "()I" } : Jvm.MethodName), prog_9_method_26_code, 2, (Option.some Jvm.ClassFile.FieldType.int), 0, 1314)
/-- CodeSmithModel.need(I)V -/
def ab_c141 : List ab_I := [(0, .aload_n 0, 1, 0, 0), (1, .iload_n 1, 1, 0, 0), (2, .invokevirtual 384, 3, 142, 1), (5, .ifCond .ne 15, 3, 20, 0), (8, .aload_n 0, 1, 0, 0), (9, .iconst 1, 1, 0, 0), (10, .aload_n 0, 1, 0, 0), (11, .getfield 349, 3, 6, 21), (14, .invokevirtual 342, 3, 131, 2), (17, .goto 7, 3, 24, 0), (20, .aload_n 0, 1, 0, 0), (21, .invokevirtual 387, 3, 117, 0), (24, .return_, 1, 0, 0)]
abbrev ab_m141 : ab_M := (10, ({ cls := "CodeSmithModel", name := "need", desc := "(I)V" } : Jvm.MethodName), prog_9_method_22_code, 2, (Option.none : Option Jvm.ClassFile.FieldType), 1, 1318)
/-- CodeSmithModel.is(I)Z -/
def ab_c142 : List ab_I := [(0, .aload_n 0, 1, 0, 0), (1, .getfield 307, 3, 6, 11), (4, .ifCond .ne 23, 3, 27, 0), (7, .aload_n 0, 1, 0, 0), (8, .getfield 358, 3, 6, 20), (11, .iconst 4, 1, 0, 0), (12, .if_icmp .ne 15, 3, 27, 0), (15, .aload_n 0, 1, 0, 0), (16, .getfield 352, 3, 6, 22), (19, .iload_n 1, 1, 0, 0), (20, .if_icmp .ne 7, 3, 27, 0), (23, .iconst 1, 1, 0, 0), (24, .goto 4, 3, 28, 0), (27, .iconst 0, 1, 0, 0), (28, .ireturn, 1, 0, 0)]
abbrev ab_m142 : ab_M := (10, ({ cls := "CodeSmithModel", name := "is", desc := "(I)Z" } : Jvm.MethodName), prog_9_method_21_code, 2, (Option.some Jvm.ClassFile.FieldType.boolean), 1, 1322)
/-- CodeSmithModel.both(IIIII)I -/
def ab_c143 : List ab_I := [(0, .iload_n 0, 1, 0, 0), (1, .bipush 25, 2, 0, 0), (3, .ishl, 1, 0, 0), (4, .iload_n 1, 1, 0, 0), (5, .bipush 20, 2, 0, 0), (7, .ishl, 1, 0, 0), (8, .ior, 1, 0, 0), (9, .iload_n 2, 1, 0, 0), (10, .bipush 15, 2, 0, 0), (12, .ishl, 1, 0, 0), (13, .ior, 1, 0, 0), (14, .iload_n 3, 1, 0, 0), (15, .bipush 12, 2, 0, 0), (17, .ishl, 1, 0, 0), (18, .ior, 1, 0, 0), (19, .iload 4, 2, 0, 0), (21, .bipush 7, 2, 0, 0), (23, .ishl, 1, 0, 0), (24, .ior, 1, 0, 0), (25, .bipush 51, 2, 0, 0), (27, .ior, 1, 0, 0), (28, .ireturn, 1, 0, 0)]
abbrev ab_m143 : ab_M := (10, ({ cls := "CodeSmithModel", name := "both", desc := "(IIIII)I" } : Jvm.MethodName), prog_9_method_48_code, 5, (Option.some Jvm.ClassFile.FieldType.int), 5, 1325)
/-- CodeSmithModel.put(II)V -/
def ab_c144 : List ab_I := [(0, .iconst 0, 1, 0, 0), (1, .istore_n 3, 1, 0, 0), (2, .iload_n 3, 1, 0, 0), (3, .iload_n 2, 1, 0, 0), (4, .if_icmp .ge 48, 3, 52, 0), (7, .aload_n 0, 1, 0, 0), (8, .getfield 408, 3, 6, 19), (11, .ifCond .eq 41, 3, 52, 0), (14, .aload_n 0, 1, 0, 0), (15, .getfield 282, 3, 6, 36), (18, .ldc_w 476, 3, 65420, 0), (21, .aload_n 0, 1, 0, 0), (22, .getfield 477, 3, 6, 32), (25, .imul, 1, 0, 0), (26, .aload_n 0, 1, 0, 0), (27, .getfield 278, 3, 6, 35), (30, .aload_n 0, 1, 0, 0), (31, .getfield 477, 3, 6, 32), (34, .iaload, 1, 0, 0), (35, .iadd, 1, 0, 0), (36, .iload_n 3, 1, 0, 0), (37, .iadd, 1, 0, 0), (38, .iload_n 1, 1, 0, 0), (39, .bipush 8, 2, 0, 0), (41, .iload_n 3, 1, 0, 0), (42, .imul, 1, 0, 0), (43, .ishr, 1, 0, 0), (44, .i2b, 1, 0, 0), (45, .bastore, 1, 0, 0), (46, .iinc 3 1, 3, 0, 0), (49, .goto (-47), 3, 2, 0), (52, .aload_n 0, 1, 0, 0), (53, .getfield 278, 3, 6, 35), (56, .aload_n 0, 1, 0, 0), (57, .getfield 477, 3, 6, 32), (60, .dup2, 1, 0, 0), (61, .iaload, 1, 0, 0), (62, .iload_n 2, 1, 0, 0), (63, .iadd, 1, 0, 0), (64, .iastore, 1, 0, 0), (65, .return_, 1, 0, 0)]
abbrev ab_m144 : ab_M := (10, ({ cls := "CodeSmithModel", name := "put", desc := "(II)V" } : Jvm.MethodName), prog_9_method_45_code, 4, (Option.none : Option Jvm.ClassFile.FieldType), 2, 1329)
/-- CodeSmithModel.later()I -/
def ab_c145 : List ab_I := [(0, .aload_n 0, 1, 0, 0), (1, .aload_n 0, 1, 0, 0), (2, .getfield 408, 3, 6, 19), (5, .ifCond .eq 7, 3, 12, 0), (8, .iconst 2, 1, 0, 0), (9, .goto 4, 3, 13, 0), (12, .iconst 1, 1, 0, 0), (13, .invokevirtual 473, 3, 146, 1), (16, .ireturn, 1, 0, 0)]
abbrev ab_m145 : ab_M := (10, ({ cls := "CodeSmithModel", name := "later", desc := "()I" } : Jvm.MethodName), prog_9_method_44_code, 1, (Option.some Jvm.ClassFile.FieldType.int), 0, 1334)
/-- CodeSmithModel.expression(I)I -/
def ab_c146 : List ab_I := [(0, .aload_n 0, 1, 0, 0), (1, .iconst 0, 1, 0, 0), (2, .putfield 430, 3, 6, 39), (5, .aload_n 0, 1, 0, 0), (6, .iconst 0, 1, 0, 0), (7, .putfield 421, 3, 6, 40), (10, .aload_n 0, 1, 0, 0), (11, .iconst 0, 1, 0, 0), (12, .putfield 443, 3, 6, 41), (15, .iconst 0, 1, 0, 0), (16, .istore_n 2, 1, 0, 0), (17, .iconst 1, 1, 0, 0), (18, .istore_n 3, 1, 0, 0), (19, .iload_n 3, 1, 0, 0), (20, .ifCond .eq 195, 3, 215, 0), (23, .aload_n 0, 1, 0, 0), (24, .getfield 307, 3, 6, 11), (27, .ifCond .ne 188, 3, 215, 0), (30, .iload_n 2, 1, 0, 0), (31, .ifCond .ne 27, 3, 58, 0), (34, .aload_n 0, 1, 0, 0), (35, .iload_n 1, 1, 0, 0), (36, .invokevirtual 464, 3, 147, 1), (39, .istore_n 2, 1, 0, 0), (40, .iload_n 2, 1, 0, 0), (41, .ifCond .eq (-22), 3, 19, 0), (44, .aload_n 0, 1, 0, 0), (45, .getfield 307, 3, 6, 11), (48, .ifCond .ne (-29), 3, 19, 0), (51, .aload_n 0, 1, 0, 0), (52, .invokevirtual 387, 3, 117, 0), (55, .goto (-36), 3, 19, 0), (58, .aload_n 0, 1, 0, 0), (59, .iload_n 1, 1, 0, 0), (60, .invokevirtual 467, 3, 156, 1), (63, .ifCond .eq 8, 3, 71, 0), (66, .iconst 0, 1, 0, 0), (67, .istore_n 2, 1, 0, 0), (68, .goto (-49), 3, 19, 0), (71, .aload_n 0, 1, 0, 0), (72, .getfield 443, 3, 6, 41), (75, .ifCond .le 119, 3, 194, 0), (78, .aload_n 0, 1, 0, 0), (79, .bipush 41, 2, 0, 0), (81, .invokevirtual 384, 3, 142, 1), (84, .ifCond .eq 110, 3, 194, 0), (87, .aload_n 0, 1, 0, 0), (88, .dup, 1, 0, 0), (89, .getfield 443, 3, 6, 41), (92, .iconst 1, 1, 0, 0), (93, .isub, 1, 0, 0), (94, .putfield 443, 3, 6, 41), (97, .aload_n 0, 1, 0, 0), (98, .dup, 1, 0, 0), (99, .getfield 421, 3, 6, 40), (102, .iconst 1, 1, 0, 0), (103, .isub, 1, 0, 0), (104, .putfield 421, 3, 6, 40), (107, .aload_n 0, 1, 0, 0), (108, .getfield 285, 3, 6, 42), (111, .aload_n 0, 1, 0, 0), (112, .getfield 430, 3, 6, 39), (115, .iconst 1, 1, 0, 0), (116, .isub, 1, 0, 0), (117, .iaload, 1, 0, 0), (118, .istore 4, 2, 0, 0), (120, .aload_n 0, 1, 0, 0), (121, .getfield 285, 3, 6, 42), (124, .aload_n 0, 1, 0, 0), (125, .getfield 430, 3, 6, 39), (128, .iconst 1, 1, 0, 0), (129, .isub, 1, 0, 0), (130, .aload_n 0, 1, 0, 0), (131, .getfield 288, 3, 6, 43), (134, .aload_n 0, 1, 0, 0), (135, .getfield 421, 3, 6, 40), (138, .iaload, 1, 0, 0), (139, .iconst 2, 1, 0, 0), (140, .if_icmp .ne 11, 3, 151, 0), (143, .iload 4, 2, 0, 0), (145, .invokestatic 470, 3, 157, 1), (148, .goto 26, 3, 174, 0), (151, .aload_n 0, 1, 0, 0), (152, .getfield 288, 3, 6, 43), (155, .aload_n 0, 1, 0, 0), (156, .getfield 421, 3, 6, 40), (159, .iaload, 1, 0, 0), (160, .iconst 3, 1, 0, 0), (161, .if_icmp .ne 11, 3, 172, 0), (164, .iload 4, 2, 0, 0), (166, .invokestatic 427, 3, 158, 1), (169, .goto 5, 3, 174, 0), (172, .iload 4, 2, 0, 0), (174, .iastore, 1, 0, 0), (175, .aload_n 0, 1, 0, 0), (176, .iload_n 1, 1, 0, 0), (177, .invokevirtual 451, 3, 149, 1), (180, .aload_n 0, 1, 0, 0), (181, .getfield 307, 3, 6, 11), (184, .ifCond .ne 7, 3, 191, 0), (187, .aload_n 0, 1, 0, 0), (188, .invokevirtual 387, 3, 117, 0), (191, .goto (-172), 3, 19, 0), (194, .iconst 0, 1, 0, 0), (195, .istore_n 3, 1, 0, 0), (196, .aload_n 0, 1, 0, 0), (197, .getfield 443, 3, 6, 41), (200, .ifCond .le (-181), 3, 19, 0), (203, .aload_n 0, 1, 0, 0), (204, .iconst 1, 1, 0, 0), (205, .aload_n 0, 1, 0, 0), (206, .getfield 349, 3, 6, 21), (209, .invokevirtual 342, 3, 131, 2), (212, .goto (-193), 3, 19, 0), (215, .aload_n 0, 1, 0, 0), (216, .getfield 307, 3, 6, 11), (219, .ifCond .ne 12, 3, 231, 0), (222, .aload_n 0, 1, 0, 0), (223, .getfield 285, 3, 6, 42), (226, .iconst 0, 1, 0, 0), (227, .iaload, 1, 0, 0), (228, .goto 4, 3, 232, 0), (231, .iconst 0, 1, 0, 0), (232, .ireturn, 1, 0, 0)]
abbrev ab_m146 : ab_M := (10, ({ cls := "CodeSmithModel", name := "expression", desc := "(I)I" } : Jvm.MethodName), prog_9_method_43_code, 5, (Option.some Jvm.ClassFile.FieldType.int), 1, 1338)
def ab_pr17 : List (ab_M × List ab_I) := [(ab_m139, ab_c139), (ab_m140, ab_c140), (ab_m141, ab_c141), (ab_m142, ab_c142), (ab_m143, ab_c143), (ab_m144, ab_c144), (ab_m145, ab_c145), (ab_m146, ab_c146)]
set_option maxRecDepth 1000000 in
theorem ab_pr17_ok : ab_pr17.all ab_mok = true := sorry

abbrev ab_m147 : ab_M := (10, ({ cls := "CodeSmithModel", name := "operandBegins", desc := "(I)Z" } : Jvm.MethodName), prog_9_method_41_code, 4, (Option.some Jvm.ClassFile.FieldType.boolean), 1, 1342)
def ab_c147_0 : List ab_I := [(0, .aload_n 0, 1, 0, 0), (1, .getfield 358, 3, 6, 20), (4, .iconst 2, 1, 0, 0), (5, .if_icmp .eq 20, 3, 25, 0), (8, .aload_n 0, 1, 0, 0), (9, .getfield 358, 3, 6, 20), (12, .iconst 1, 1, 0, 0), (13, .if_icmp .eq 12, 3, 25, 0), (16, .aload_n 0, 1, 0, 0), (17, .bipush 46, 2, 0, 0), (19, .invokevirtual 384, 3, 142, 1), (22, .ifCond .eq 115, 3, 137, 0), (25, .aload_n 0, 1, 0, 0), (26, .invokevirtual 398, 3, 130, 0), (29, .aload_n 0, 1, 0, 0), (30, .getfield 358, 3, 6, 20), (33, .iconst 2, 1, 0, 0), (34, .if_icmp .ne 10, 3, 44, 0), (37, .aload_n 0, 1, 0, 0), (38, .getfield 352, 3, 6, 22), (41, .goto 23, 3, 64, 0), (44, .aload_n 0, 1, 0, 0), (45, .getfield 358, 3, 6, 20), (48, .iconst 1, 1, 0, 0), (49, .if_icmp .ne 11, 3, 60, 0), (52, .aload_n 0, 1, 0, 0), (53, .iload_n 1, 1, 0, 0), (54, .invokevirtual 446, 3, 148, 1), (57, .goto 7, 3, 64, 0), (60, .aload_n 0, 1, 0, 0), (61, .getfield 449, 3, 6, 33), (64, .istore_n 2, 1, 0, 0), (65, .aload_n 0, 1, 0, 0), (66, .aload_n 0, 1, 0, 0), (67, .getfield 415, 3, 6, 38), (70, .ifCond .ne 11, 3, 81, 0), (73, .aload_n 0, 1, 0, 0), (74, .getfield 358, 3, 6, 20), (77, .iconst 4, 1, 0, 0), (78, .if_icmp .ne 7, 3, 85, 0), (81, .iconst 1, 1, 0, 0), (82, .goto 4, 3, 86, 0), (85, .iconst 0, 1, 0, 0), (86, .putfield 415, 3, 6, 38), (89, .aload_n 0, 1, 0, 0)]
set_option maxRecDepth 1000000 in
theorem ab_c147_0_ok : ab_c147_0.all (ab_eok 10 prog_9_method_41_code) = true := sorry
def ab_c147_1 : List ab_I := [(90, .getfield 358, 3, 6, 20), (93, .iconst 4, 1, 0, 0), (94, .if_icmp .ne 16, 3, 110, 0), (97, .iload_n 1, 1, 0, 0), (98, .ifCond .ne 12, 3, 110, 0), (101, .aload_n 0, 1, 0, 0), (102, .iconst 4, 1, 0, 0), (103, .aload_n 0, 1, 0, 0), (104, .getfield 349, 3, 6, 21), (107, .invokevirtual 342, 3, 131, 2), (110, .aload_n 0, 1, 0, 0), (111, .getfield 285, 3, 6, 42), (114, .aload_n 0, 1, 0, 0), (115, .getfield 430, 3, 6, 39), (118, .iload_n 2, 1, 0, 0), (119, .iastore, 1, 0, 0), (120, .aload_n 0, 1, 0, 0), (121, .dup, 1, 0, 0), (122, .getfield 430, 3, 6, 39), (125, .iconst 1, 1, 0, 0), (126, .iadd, 1, 0, 0), (127, .putfield 430, 3, 6, 39), (130, .aload_n 0, 1, 0, 0), (131, .iload_n 1, 1, 0, 0), (132, .invokevirtual 451, 3, 149, 1), (135, .iconst 1, 1, 0, 0), (136, .ireturn, 1, 0, 0), (137, .aload_n 0, 1, 0, 0), (138, .bipush 45, 2, 0, 0), (140, .invokevirtual 384, 3, 142, 1), (143, .ifCond .ne 21, 3, 164, 0), (146, .aload_n 0, 1, 0, 0), (147, .bipush 43, 2, 0, 0), (149, .invokevirtual 384, 3, 142, 1), (152, .ifCond .ne 12, 3, 164, 0), (155, .aload_n 0, 1, 0, 0), (156, .bipush 126, 2, 0, 0), (158, .invokevirtual 384, 3, 142, 1), (161, .ifCond .eq 18, 3, 179, 0), (164, .aload_n 0, 1, 0, 0), (165, .aload_n 0, 1, 0, 0), (166, .getfield 352, 3, 6, 22), (169, .invokevirtual 454, 3, 153, 1), (172, .aload_n 0, 1, 0, 0), (173, .invokevirtual 387, 3, 117, 0)]
set_option maxRecDepth 1000000 in
theorem ab_c147_1_ok : ab_c147_1.all (ab_eok 10 prog_9_method_41_code) = true := sorry
def ab_c147_2 : List ab_I := [(176, .goto 164, 3, 340, 0), (179, .aload_n 0, 1, 0, 0), (180, .bipush 40, 2, 0, 0), (182, .invokevirtual 384, 3, 142, 1), (185, .ifCond .eq 11, 3, 196, 0), (188, .aload_n 0, 1, 0, 0), (189, .iconst 1, 1, 0, 0), (190, .invokevirtual 457, 3, 155, 1), (193, .goto 147, 3, 340, 0), (196, .aload_n 0, 1, 0, 0), (197, .bipush 37, 2, 0, 0), (199, .invokevirtual 384, 3, 142, 1), (202, .ifCond .eq 129, 3, 331, 0), (205, .aload_n 0, 1, 0, 0), (206, .invokevirtual 387, 3, 117, 0), (209, .aload_n 0, 1, 0, 0), (210, .getfield 358, 3, 6, 20), (213, .iconst 1, 1, 0, 0), (214, .if_icmp .ne 7, 3, 221, 0), (217, .aload_n 0, 1, 0, 0), (218, .invokevirtual 398, 3, 130, 0), (221, .aload_n 0, 1, 0, 0), (222, .getfield 307, 3, 6, 11), (225, .ifCond .ne 31, 3, 256, 0), (228, .aload_n 0, 1, 0, 0), (229, .getfield 358, 3, 6, 20), (232, .iconst 1, 1, 0, 0), (233, .if_icmp .ne 23, 3, 256, 0), (236, .aload_n 0, 1, 0, 0), (237, .aload_n 0, 1, 0, 0), (238, .getfield 349, 3, 6, 21), (241, .aload_n 0, 1, 0, 0), (242, .getfield 322, 3, 6, 18), (245, .aload_n 0, 1, 0, 0), (246, .getfield 349, 3, 6, 21), (249, .isub, 1, 0, 0), (250, .invokevirtual 390, 3, 136, 2), (253, .goto 4, 3, 257, 0), (256, .lconst 0, 1, 0, 0), (257, .lstore_n 2, 1, 0, 0), (258, .lload_n 2, 1, 0, 0), (259, .ldc2_w 460, 3, 26729, 0), (262, .lcmp, 1, 0, 0), (263, .ifCond .eq 23, 3, 286, 0), (266, .lload_n 2, 1, 0, 0)]
set_option maxRecDepth 1000000 in
theorem ab_c147_2_ok : ab_c147_2.all (ab_eok 10 prog_9_method_41_code) = true := sorry
def ab_c147_3 : List ab_I := [(267, .ldc2_w 462, 3, 27759, 0), (270, .lcmp, 1, 0, 0), (271, .ifCond .eq 15, 3, 286, 0), (274, .aload_n 0, 1, 0, 0), (275, .iconst 1, 1, 0, 0), (276, .aload_n 0, 1, 0, 0), (277, .getfield 349, 3, 6, 21), (280, .invokevirtual 342, 3, 131, 2), (283, .goto 7, 3, 290, 0), (286, .aload_n 0, 1, 0, 0), (287, .invokevirtual 387, 3, 117, 0), (290, .aload_n 0, 1, 0, 0), (291, .bipush 40, 2, 0, 0), (293, .invokevirtual 384, 3, 142, 1), (296, .ifCond .ne 15, 3, 311, 0), (299, .aload_n 0, 1, 0, 0), (300, .iconst 1, 1, 0, 0), (301, .aload_n 0, 1, 0, 0), (302, .getfield 349, 3, 6, 21), (305, .invokevirtual 342, 3, 131, 2), (308, .goto 20, 3, 328, 0), (311, .aload_n 0, 1, 0, 0), (312, .lload_n 2, 1, 0, 0), (313, .ldc2_w 460, 3, 26729, 0), (316, .lcmp, 1, 0, 0), (317, .ifCond .ne 7, 3, 324, 0), (320, .iconst 2, 1, 0, 0), (321, .goto 4, 3, 325, 0), (324, .iconst 3, 1, 0, 0), (325, .invokevirtual 457, 3, 155, 1), (328, .goto 12, 3, 340, 0), (331, .aload_n 0, 1, 0, 0), (332, .iconst 1, 1, 0, 0), (333, .aload_n 0, 1, 0, 0), (334, .getfield 349, 3, 6, 21), (337, .invokevirtual 342, 3, 131, 2), (340, .iconst 0, 1, 0, 0), (341, .ireturn, 1, 0, 0)]
set_option maxRecDepth 1000000 in
theorem ab_c147_3_ok : ab_c147_3.all (ab_eok 10 prog_9_method_41_code) = true := sorry
/-- CodeSmithModel.operandBegins(I)Z -/
def ab_c147 : List ab_I := ab_c147_0 ++ (ab_c147_1 ++ (ab_c147_2 ++ (ab_c147_3)))
def ab_pr18 : List (ab_M × List ab_I) := [(ab_m147, ab_c147)]
set_option maxRecDepth 1000000 in
theorem ab_m147_w : lw_tbl[1342]? = some (.code ({ cls := "CodeSmithModel", name := "operandBegins", desc := "(I)Z" } : Jvm.MethodName) prog_9_method_41_code 4 (Option.some Jvm.ClassFile.FieldType.boolean)) := rfl
set_option maxRecDepth 1000000 in
theorem ab_m147_h : ab_hok ab_m147 = true := sorry
theorem ab_c147_all : ab_c147.all (ab_eok 10 prog_9_method_41_code) = true := sorry
theorem ab_pr18_ok : ab_pr18.all ab_mok = true := sorry

/-- CodeSmithModel.nameValue(I)I -/
def ab_c148 : List ab_I := [(0, .aload_n 0, 1, 0, 0), (1, .aload_n 0, 1, 0, 0), (2, .getfield 349, 3, 6, 21), (5, .aload_n 0, 1, 0, 0), (6, .getfield 322, 3, 6, 18), (9, .aload_n 0, 1, 0, 0), (10, .getfield 349, 3, 6, 21), (13, .isub, 1, 0, 0), (14, .invokevirtual 412, 3, 133, 2), (17, .istore_n 2, 1, 0, 0), (18, .iload_n 1, 1, 0, 0), (19, .iconst 1, 1, 0, 0), (20, .if_icmp .eq 10, 3, 30, 0), (23, .aload_n 0, 1, 0, 0), (24, .getfield 307, 3, 6, 11), (27, .ifCond .le 5, 3, 32, 0), (30, .iconst 0, 1, 0, 0), (31, .ireturn, 1, 0, 0), (32, .iload_n 1, 1, 0, 0), (33, .iconst 2, 1, 0, 0), (34, .if_icmp .ne 15, 3, 49, 0), (37, .iload_n 2, 1, 0, 0), (38, .ifCond .lt 7, 3, 45, 0), (41, .iconst 1, 1, 0, 0), (42, .goto 39, 3, 81, 0), (45, .iconst 0, 1, 0, 0), (46, .goto 35, 3, 81, 0), (49, .iload_n 2, 1, 0, 0), (50, .ifCond .lt 30, 3, 80, 0), (53, .aload_n 0, 1, 0, 0), (54, .getfield 269, 3, 6, 29), (57, .iload_n 2, 1, 0, 0), (58, .iaload, 1, 0, 0), (59, .iconst 1, 1, 0, 0), (60, .if_icmp .ne 20, 3, 80, 0), (63, .aload_n 0, 1, 0, 0), (64, .getfield 275, 3, 6, 31), (67, .iload_n 2, 1, 0, 0), (68, .iaload, 1, 0, 0), (69, .aload_n 0, 1, 0, 0), (70, .getfield 316, 3, 6, 15), (73, .if_icmp .ge 7, 3, 80, 0), (76, .iconst 1, 1, 0, 0), (77, .goto 4, 3, 81, 0), (80, .iconst 0, 1, 0, 0), (81, .istore_n 3, 1, 0, 0), (82, .aload_n 0, 1, 0, 0), (83, .aload_n 0, 1, 0, 0), (84, .getfield 415, 3, 6, 38), (87, .ifCond .ne 7, 3, 94, 0), (90, .iload_n 3, 1, 0, 0), (91, .ifCond .ne 7, 3, 98, 0), (94, .iconst 1, 1, 0, 0), (95, .goto 4, 3, 99, 0), (98, .iconst 0, 1, 0, 0), (99, .putfield 415, 3, 6, 38), (102, .iload_n 3, 1, 0, 0), (103, .ifCond .ne 26, 3, 129, 0), (106, .iload_n 1, 1, 0, 0), (107, .iconst 3, 1, 0, 0), (108, .if_icmp .eq 21, 3, 129, 0), (111, .aload_n 0, 1, 0, 0), (112, .iload_n 1, 1, 0, 0), (113, .ifCond .ne 7, 3, 120, 0), (116, .iconst 4, 1, 0, 0), (117, .goto 5, 3, 122, 0), (120, .bipush 8, 2, 0, 0), (122, .aload_n 0, 1, 0, 0), (123, .getfield 349, 3, 6, 21), (126, .invokevirtual 342, 3, 131, 2), (129, .iload_n 3, 1, 0, 0), (130, .ifCond .eq 31, 3, 161, 0), (133, .aload_n 0, 1, 0, 0), (134, .getfield 272, 3, 6, 30), (137, .iload_n 2, 1, 0, 0), (138, .iaload, 1, 0, 0), (139, .aload_n 0, 1, 0, 0), (140, .getfield 269, 3, 6, 29), (143, .iload_n 2, 1, 0, 0), (144, .iaload, 1, 0, 0), (145, .iconst 3, 1, 0, 0), (146, .if_icmp .ne 10, 3, 156, 0), (149, .aload_n 0, 1, 0, 0), (150, .getfield 418, 3, 6, 34), (153, .goto 4, 3, 157, 0), (156, .iconst 0, 1, 0, 0), (157, .iadd, 1, 0, 0), (158, .goto 4, 3, 162, 0), (161, .iconst 0, 1, 0, 0), (162, .ireturn, 1, 0, 0)]
abbrev ab_m148 : ab_M := (10, ({ cls := "CodeSmithModel", name := "nameValue", desc := "(I)I" } : Jvm.MethodName), prog_9_method_31_code, 4, (Option.some Jvm.ClassFile.FieldType.int), 1, 1346)
/-- CodeSmithModel.operand(I)V -/
def ab_c149 : List ab_I := [(0, .aload_n 0, 1, 0, 0), (1, .getfield 421, 3, 6, 40), (4, .ifCond .le 70, 3, 74, 0), (7, .aload_n 0, 1, 0, 0), (8, .getfield 288, 3, 6, 43), (11, .aload_n 0, 1, 0, 0), (12, .getfield 421, 3, 6, 40), (15, .iconst 1, 1, 0, 0), (16, .isub, 1, 0, 0), (17, .iaload, 1, 0, 0), (18, .iconst 4, 1, 0, 0), (19, .if_icmp .ne 55, 3, 74, 0), (22, .aload_n 0, 1, 0, 0), (23, .dup, 1, 0, 0), (24, .getfield 421, 3, 6, 40), (27, .iconst 1, 1, 0, 0), (28, .isub, 1, 0, 0), (29, .putfield 421, 3, 6, 40), (32, .aload_n 0, 1, 0, 0), (33, .getfield 285, 3, 6, 42), (36, .aload_n 0, 1, 0, 0), (37, .getfield 430, 3, 6, 39), (40, .iconst 1, 1, 0, 0), (41, .isub, 1, 0, 0), (42, .aload_n 0, 1, 0, 0), (43, .getfield 294, 3, 6, 45), (46, .aload_n 0, 1, 0, 0), (47, .getfield 421, 3, 6, 40), (50, .iaload, 1, 0, 0), (51, .aload_n 0, 1, 0, 0), (52, .getfield 285, 3, 6, 42), (55, .aload_n 0, 1, 0, 0), (56, .getfield 430, 3, 6, 39), (59, .iconst 1, 1, 0, 0), (60, .isub, 1, 0, 0), (61, .iaload, 1, 0, 0), (62, .imul, 1, 0, 0), (63, .aload_n 0, 1, 0, 0), (64, .getfield 297, 3, 6, 46), (67, .aload_n 0, 1, 0, 0), (68, .getfield 421, 3, 6, 40), (71, .iaload, 1, 0, 0), (72, .iadd, 1, 0, 0), (73, .iastore, 1, 0, 0), (74, .aload_n 0, 1, 0, 0), (75, .getfield 421, 3, 6, 40), (78, .ifCond .le 27, 3, 105, 0), (81, .aload_n 0, 1, 0, 0), (82, .getfield 288, 3, 6, 43), (85, .aload_n 0, 1, 0, 0), (86, .getfield 421, 3, 6, 40), (89, .iconst 1, 1, 0, 0), (90, .isub, 1, 0, 0), (91, .iaload, 1, 0, 0), (92, .invokestatic 424, 3, 150, 1), (95, .bipush 6, 2, 0, 0), (97, .if_icmp .ne 8, 3, 105, 0), (100, .aload_n 0, 1, 0, 0), (101, .iload_n 1, 1, 0, 0), (102, .invokevirtual 437, 3, 151, 1), (105, .return_, 1, 0, 0)]
abbrev ab_m149 : ab_M := (10, ({ cls := "CodeSmithModel", name := "operand", desc := "(I)V" } : Jvm.MethodName), prog_9_method_38_code, 2, (Option.none : Option Jvm.ClassFile.FieldType), 1, 1350)
/-- CodeSmithModel.level(I)I -/
def ab_c150 : List ab_I := [(0, .iload_n 0, 1, 0, 0), (1, .bipush 42, 2, 0, 0), (3, .if_icmp .eq 15, 3, 18, 0), (6, .iload_n 0, 1, 0, 0), (7, .bipush 47, 2, 0, 0), (9, .if_icmp .eq 9, 3, 18, 0), (12, .iload_n 0, 1, 0, 0), (13, .bipush 37, 2, 0, 0), (15, .if_icmp .ne 8, 3, 23, 0), (18, .bipush 6, 2, 0, 0), (20, .goto 66, 3, 86, 0), (23, .iload_n 0, 1, 0, 0), (24, .bipush 43, 2, 0, 0), (26, .if_icmp .eq 9, 3, 35, 0), (29, .iload_n 0, 1, 0, 0), (30, .bipush 45, 2, 0, 0), (32, .if_icmp .ne 7, 3, 39, 0), (35, .iconst 5, 1, 0, 0), (36, .goto 50, 3, 86, 0), (39, .iload_n 0, 1, 0, 0), (40, .bipush 60, 2, 0, 0), (42, .if_icmp .eq 9, 3, 51, 0), (45, .iload_n 0, 1, 0, 0), (46, .bipush 62, 2, 0, 0), (48, .if_icmp .ne 7, 3, 55, 0), (51, .iconst 4, 1, 0, 0), (52, .goto 34, 3, 86, 0), (55, .iload_n 0, 1, 0, 0), (56, .bipush 38, 2, 0, 0), (58, .if_icmp .ne 7, 3, 65, 0), (61, .iconst 3, 1, 0, 0), (62, .goto 24, 3, 86, 0), (65, .iload_n 0, 1, 0, 0), (66, .bipush 94, 2, 0, 0), (68, .if_icmp .ne 7, 3, 75, 0), (71, .iconst 2, 1, 0, 0), (72, .goto 14, 3, 86, 0), (75, .iload_n 0, 1, 0, 0), (76, .bipush 124, 2, 0, 0), (78, .if_icmp .ne 7, 3, 85, 0), (81, .iconst 1, 1, 0, 0), (82, .goto 4, 3, 86, 0), (85, .iconst 0, 1, 0, 0), (86, .ireturn, 1, 0, 0)]
abbrev ab_m150 : ab_M := (10, ({ cls := "CodeSmithModel", name := "level", desc := "(I)I" } : Jvm.MethodName), prog_9_method_33_code, 1, (Option.some Jvm.ClassFile.FieldType.int), 1, 1353)
/-- CodeSmithModel.reduce(I)V -/
def ab_c151 : List ab_I := [(0, .aload_n 0, 1, 0, 0), (1, .dup, 1, 0, 0), (2, .getfield 421, 3, 6, 40), (5, .iconst 1, 1, 0, 0), (6, .isub, 1, 0, 0), (7, .putfield 421, 3, 6, 40), (10, .aload_n 0, 1, 0, 0), (11, .dup, 1, 0, 0), (12, .getfield 430, 3, 6, 39), (15, .iconst 1, 1, 0, 0), (16, .isub, 1, 0, 0), (17, .putfield 430, 3, 6, 39), (20, .aload_n 0, 1, 0, 0), (21, .getfield 288, 3, 6, 43), (24, .aload_n 0, 1, 0, 0), (25, .getfield 421, 3, 6, 40), (28, .iaload, 1, 0, 0), (29, .istore_n 2, 1, 0, 0), (30, .iload_n 2, 1, 0, 0), (31, .bipush 47, 2, 0, 0), (33, .if_icmp .eq 9, 3, 42, 0), (36, .iload_n 2, 1, 0, 0), (37, .bipush 37, 2, 0, 0), (39, .if_icmp .ne 19, 3, 58, 0), (42, .aload_n 0, 1, 0, 0), (43, .getfield 285, 3, 6, 42), (46, .aload_n 0, 1, 0, 0), (47, .getfield 430, 3, 6, 39), (50, .iaload, 1, 0, 0), (51, .ifCond .ne 7, 3, 58, 0), (54, .iconst 1, 1, 0, 0), (55, .goto 4, 3, 59, 0), (58, .iconst 0, 1, 0, 0), (59, .istore_n 3, 1, 0, 0), (60, .aload_n 0, 1, 0, 0), (61, .aload_n 0, 1, 0, 0), (62, .getfield 415, 3, 6, 38), (65, .ifCond .ne 7, 3, 72, 0), (68, .iload_n 3, 1, 0, 0), (69, .ifCond .eq 7, 3, 76, 0), (72, .iconst 1, 1, 0, 0), (73, .goto 4, 3, 77, 0), (76, .iconst 0, 1, 0, 0), (77, .putfield 415, 3, 6, 38), (80, .iload_n 3, 1, 0, 0), (81, .ifCond .eq 36, 3, 117, 0), (84, .iload_n 1, 1, 0, 0), (85, .iconst 1, 1, 0, 0), (86, .if_icmp .eq 31, 3, 117, 0), (89, .iload_n 1, 1, 0, 0), (90, .iconst 3, 1, 0, 0), (91, .if_icmp .eq 26, 3, 117, 0), (94, .aload_n 0, 1, 0, 0), (95, .iload_n 1, 1, 0, 0), (96, .ifCond .ne 7, 3, 103, 0), (99, .iconst 5, 1, 0, 0), (100, .goto 5, 3, 105, 0), (103, .bipush 9, 2, 0, 0), (105, .aload_n 0, 1, 0, 0), (106, .getfield 291, 3, 6, 44), (109, .aload_n 0, 1, 0, 0), (110, .getfield 421, 3, 6, 40), (113, .iaload, 1, 0, 0), (114, .invokevirtual 342, 3, 131, 2), (117, .aload_n 0, 1, 0, 0), (118, .getfield 285, 3, 6, 42), (121, .aload_n 0, 1, 0, 0), (122, .getfield 430, 3, 6, 39), (125, .iconst 1, 1, 0, 0), (126, .isub, 1, 0, 0), (127, .iload_n 3, 1, 0, 0), (128, .ifCond .eq 7, 3, 135, 0), (131, .iconst 0, 1, 0, 0), (132, .goto 27, 3, 159, 0), (135, .iload_n 2, 1, 0, 0), (136, .aload_n 0, 1, 0, 0), (137, .getfield 285, 3, 6, 42), (140, .aload_n 0, 1, 0, 0), (141, .getfield 430, 3, 6, 39), (144, .iconst 1, 1, 0, 0), (145, .isub, 1, 0, 0), (146, .iaload, 1, 0, 0), (147, .aload_n 0, 1, 0, 0), (148, .getfield 285, 3, 6, 42), (151, .aload_n 0, 1, 0, 0), (152, .getfield 430, 3, 6, 39), (155, .iaload, 1, 0, 0), (156, .invokestatic 433, 3, 152, 3), (159, .iastore, 1, 0, 0), (160, .return_, 1, 0, 0)]
abbrev ab_m151 : ab_M := (10, ({ cls := "CodeSmithModel", name := "reduce", desc := "(I)V" } : Jvm.MethodName), prog_9_method_37_code, 4, (Option.none : Option Jvm.ClassFile.FieldType), 1, 1357)
/-- CodeSmithModel.worked(III)I -/
def ab_c152 : List ab_I := [(0, .iload_n 0, 1, 0, 0), (1, .bipush 42, 2, 0, 0), (3, .if_icmp .ne 9, 3, 12, 0), (6, .iload_n 1, 1, 0, 0), (7, .iload_n 2, 1, 0, 0), (8, .imul, 1, 0, 0), (9, .goto 18, 3, 27, 0), (12, .iload_n 0, 1, 0, 0), (13, .bipush 43, 2, 0, 0), (15, .if_icmp .ne 9, 3, 24, 0), (18, .iload_n 1, 1, 0, 0), (19, .iload_n 2, 1, 0, 0), (20, .iadd, 1, 0, 0), (21, .goto 6, 3, 27, 0), (24, .iload_n 1, 1, 0, 0), (25, .iload_n 2, 1, 0, 0), (26, .isub, 1, 0, 0), (27, .istore_n 3, 1, 0, 0), (28, .iload_n 0, 1, 0, 0), (29, .bipush 38, 2, 0, 0), (31, .if_icmp .ne 9, 3, 40, 0), (34, .iload_n 1, 1, 0, 0), (35, .iload_n 2, 1, 0, 0), (36, .iand, 1, 0, 0), (37, .goto 18, 3, 55, 0), (40, .iload_n 0, 1, 0, 0), (41, .bipush 94, 2, 0, 0), (43, .if_icmp .ne 9, 3, 52, 0), (46, .iload_n 1, 1, 0, 0), (47, .iload_n 2, 1, 0, 0), (48, .ixor, 1, 0, 0), (49, .goto 6, 3, 55, 0), (52, .iload_n 1, 1, 0, 0), (53, .iload_n 2, 1, 0, 0), (54, .ior, 1, 0, 0), (55, .istore 4, 2, 0, 0), (57, .iload_n 0, 1, 0, 0), (58, .invokestatic 424, 3, 150, 1), (61, .iconst 4, 1, 0, 0), (62, .if_icmp .ne 21, 3, 83, 0), (65, .iload_n 0, 1, 0, 0), (66, .bipush 60, 2, 0, 0), (68, .if_icmp .ne 9, 3, 77, 0), (71, .iload_n 1, 1, 0, 0), (72, .iload_n 2, 1, 0, 0), (73, .ishl, 1, 0, 0), (74, .goto 47, 3, 121, 0), (77, .iload_n 1, 1, 0, 0), (78, .iload_n 2, 1, 0, 0), (79, .ishr, 1, 0, 0), (80, .goto 41, 3, 121, 0), (83, .iload_n 0, 1, 0, 0), (84, .invokestatic 424, 3, 150, 1), (87, .iconst 4, 1, 0, 0), (88, .if_icmp .ge 8, 3, 96, 0), (91, .iload 4, 2, 0, 0), (93, .goto 28, 3, 121, 0), (96, .iload_n 0, 1, 0, 0), (97, .bipush 47, 2, 0, 0), (99, .if_icmp .ne 9, 3, 108, 0), (102, .iload_n 1, 1, 0, 0), (103, .iload_n 2, 1, 0, 0), (104, .idiv, 1, 0, 0), (105, .goto 16, 3, 121, 0), (108, .iload_n 0, 1, 0, 0), (109, .bipush 37, 2, 0, 0), (111, .if_icmp .ne 9, 3, 120, 0), (114, .iload_n 1, 1, 0, 0), (115, .iload_n 2, 1, 0, 0), (116, .irem, 1, 0, 0), (117, .goto 4, 3, 121, 0), (120, .iload_n 3, 1, 0, 0), (121, .ireturn, 1, 0, 0)]
abbrev ab_m152 : ab_M := (10, ({ cls := "CodeSmithModel", name := "worked", desc := "(III)I" } : Jvm.MethodName), prog_9_method_34_code, 5, (Option.some Jvm.ClassFile.FieldType.int), 3, 1360)
def ab_pr19 : List (ab_M × List ab_I) := [(ab_m148, ab_c148), (ab_m149, ab_c149), (ab_m150, ab_c150), (ab_m151, ab_c151), (ab_m152, ab_c152)]
set_option maxRecDepth 1000000 in
theorem ab_pr19_ok : ab_pr19.all ab_mok = true := sorry

/-- CodeSmithModel.before(I)V -/
def ab_c153 : List ab_I := [(0, .aload_n 0, 1, 0, 0), (1, .getfield 421, 3, 6, 40), (4, .ifCond .eq 18, 3, 22, 0), (7, .aload_n 0, 1, 0, 0), (8, .getfield 288, 3, 6, 43), (11, .aload_n 0, 1, 0, 0), (12, .getfield 421, 3, 6, 40), (15, .iconst 1, 1, 0, 0), (16, .isub, 1, 0, 0), (17, .iaload, 1, 0, 0), (18, .iconst 4, 1, 0, 0), (19, .if_icmp .eq 12, 3, 31, 0), (22, .aload_n 0, 1, 0, 0), (23, .iconst 4, 1, 0, 0), (24, .aload_n 0, 1, 0, 0), (25, .getfield 349, 3, 6, 21), (28, .invokevirtual 440, 3, 154, 2), (31, .aload_n 0, 1, 0, 0), (32, .getfield 421, 3, 6, 40), (35, .iconst 1, 1, 0, 0), (36, .isub, 1, 0, 0), (37, .istore_n 2, 1, 0, 0), (38, .aload_n 0, 1, 0, 0), (39, .getfield 297, 3, 6, 46), (42, .iload_n 2, 1, 0, 0), (43, .dup2, 1, 0, 0), (44, .iaload, 1, 0, 0), (45, .iload_n 1, 1, 0, 0), (46, .bipush 126, 2, 0, 0), (48, .if_icmp .ne 12, 3, 60, 0), (51, .aload_n 0, 1, 0, 0), (52, .getfield 294, 3, 6, 45), (55, .iload_n 2, 1, 0, 0), (56, .iaload, 1, 0, 0), (57, .goto 4, 3, 61, 0), (60, .iconst 0, 1, 0, 0), (61, .isub, 1, 0, 0), (62, .iastore, 1, 0, 0), (63, .aload_n 0, 1, 0, 0), (64, .getfield 294, 3, 6, 45), (67, .iload_n 2, 1, 0, 0), (68, .iload_n 1, 1, 0, 0), (69, .bipush 43, 2, 0, 0), (71, .if_icmp .ne 12, 3, 83, 0), (74, .aload_n 0, 1, 0, 0), (75, .getfield 294, 3, 6, 45), (78, .iload_n 2, 1, 0, 0), (79, .iaload, 1, 0, 0), (80, .goto 10, 3, 90, 0), (83, .aload_n 0, 1, 0, 0), (84, .getfield 294, 3, 6, 45), (87, .iload_n 2, 1, 0, 0), (88, .iaload, 1, 0, 0), (89, .ineg, 1, 0, 0), (90, .iastore, 1, 0, 0), (91, .return_, 1, 0, 0)]
abbrev ab_m153 : ab_M := (10, ({ cls := "CodeSmithModel", name := "before", desc := "(I)V" } : Jvm.MethodName), prog_9_method_39_code, 3, (Option.none : Option Jvm.ClassFile.FieldType), 1, 1364)
/-- CodeSmithModel.push(II)V -/
def ab_c154 : List ab_I := [(0, .aload_n 0, 1, 0, 0), (1, .getfield 288, 3, 6, 43), (4, .aload_n 0, 1, 0, 0), (5, .getfield 421, 3, 6, 40), (8, .iload_n 1, 1, 0, 0), (9, .iastore, 1, 0, 0), (10, .aload_n 0, 1, 0, 0), (11, .getfield 291, 3, 6, 44), (14, .aload_n 0, 1, 0, 0), (15, .getfield 421, 3, 6, 40), (18, .iload_n 2, 1, 0, 0), (19, .iastore, 1, 0, 0), (20, .aload_n 0, 1, 0, 0), (21, .getfield 294, 3, 6, 45), (24, .aload_n 0, 1, 0, 0), (25, .getfield 421, 3, 6, 40), (28, .iconst 1, 1, 0, 0), (29, .iastore, 1, 0, 0), (30, .aload_n 0, 1, 0, 0), (31, .getfield 297, 3, 6, 46), (34, .aload_n 0, 1, 0, 0), (35, .getfield 421, 3, 6, 40), (38, .iconst 0, 1, 0, 0), (39, .iastore, 1, 0, 0), (40, .aload_n 0, 1, 0, 0), (41, .dup, 1, 0, 0), (42, .getfield 421, 3, 6, 40), (45, .iconst 1, 1, 0, 0), (46, .iadd, 1, 0, 0), (47, .putfield 421, 3, 6, 40), (50, .return_, 1, 0, 0)]
abbrev ab_m154 : ab_M := (10, ({ cls := "CodeSmithModel", name := "push", desc := "(II)V" } : Jvm.MethodName), prog_9_method_32_code, 3, (Option.none : Option Jvm.ClassFile.FieldType), 2, 1368)
/-- CodeSmithModel.bracket(I)V -/
def ab_c155 : List ab_I := [(0, .aload_n 0, 1, 0, 0), (1, .getfield 443, 3, 6, 41), (4, .bipush 16, 2, 0, 0), (6, .if_icmp .ne 12, 3, 18, 0), (9, .aload_n 0, 1, 0, 0), (10, .iconst 1, 1, 0, 0), (11, .aload_n 0, 1, 0, 0), (12, .getfield 349, 3, 6, 21), (15, .invokevirtual 342, 3, 131, 2), (18, .aload_n 0, 1, 0, 0), (19, .dup, 1, 0, 0), (20, .getfield 443, 3, 6, 41), (23, .iconst 1, 1, 0, 0), (24, .iadd, 1, 0, 0), (25, .putfield 443, 3, 6, 41), (28, .aload_n 0, 1, 0, 0), (29, .iload_n 1, 1, 0, 0), (30, .aload_n 0, 1, 0, 0), (31, .getfield 349, 3, 6, 21), (34, .invokevirtual 440, 3, 154, 2), (37, .aload_n 0, 1, 0, 0), (38, .invokevirtual 387, 3, 117, 0), (41, .return_, 1, 0, 0)]
abbrev ab_m155 : ab_M := (10, ({ cls := "CodeSmithModel", name := "bracket", desc := "(I)V" } : Jvm.MethodName), prog_9_method_40_code, 2, (Option.none : Option Jvm.ClassFile.FieldType), 1, 1372)
/-- CodeSmithModel.goesOn(I)Z -/
def ab_c156 : List ab_I := [(0, .aload_n 0, 1, 0, 0), (1, .getfield 358, 3, 6, 20), (4, .iconst 4, 1, 0, 0), (5, .if_icmp .ne 20, 3, 25, 0), (8, .aload_n 0, 1, 0, 0), (9, .getfield 307, 3, 6, 11), (12, .ifCond .ne 13, 3, 25, 0), (15, .aload_n 0, 1, 0, 0), (16, .getfield 352, 3, 6, 22), (19, .invokestatic 424, 3, 150, 1), (22, .goto 4, 3, 26, 0), (25, .iconst 0, 1, 0, 0), (26, .istore_n 2, 1, 0, 0), (27, .iload_n 2, 1, 0, 0), (28, .ifCond .le 58, 3, 86, 0), (31, .aload_n 0, 1, 0, 0), (32, .invokevirtual 398, 3, 130, 0), (35, .aload_n 0, 1, 0, 0), (36, .getfield 421, 3, 6, 40), (39, .ifCond .le 29, 3, 68, 0), (42, .aload_n 0, 1, 0, 0), (43, .getfield 288, 3, 6, 43), (46, .aload_n 0, 1, 0, 0), (47, .getfield 421, 3, 6, 40), (50, .iconst 1, 1, 0, 0), (51, .isub, 1, 0, 0), (52, .iaload, 1, 0, 0), (53, .invokestatic 424, 3, 150, 1), (56, .iload_n 2, 1, 0, 0), (57, .if_icmp .lt 11, 3, 68, 0), (60, .aload_n 0, 1, 0, 0), (61, .iload_n 1, 1, 0, 0), (62, .invokevirtual 437, 3, 151, 1), (65, .goto (-30), 3, 35, 0), (68, .aload_n 0, 1, 0, 0), (69, .aload_n 0, 1, 0, 0), (70, .getfield 352, 3, 6, 22), (73, .aload_n 0, 1, 0, 0), (74, .getfield 349, 3, 6, 21), (77, .invokevirtual 440, 3, 154, 2), (80, .aload_n 0, 1, 0, 0), (81, .invokevirtual 387, 3, 117, 0), (84, .iconst 1, 1, 0, 0), (85, .ireturn, 1, 0, 0), (86, .aload_n 0, 1, 0, 0), (87, .getfield 421, 3, 6, 40), (90, .ifCond .le 28, 3, 118, 0), (93, .aload_n 0, 1, 0, 0), (94, .getfield 288, 3, 6, 43), (97, .aload_n 0, 1, 0, 0), (98, .getfield 421, 3, 6, 40), (101, .iconst 1, 1, 0, 0), (102, .isub, 1, 0, 0), (103, .iaload, 1, 0, 0), (104, .invokestatic 424, 3, 150, 1), (107, .ifCond .le 11, 3, 118, 0), (110, .aload_n 0, 1, 0, 0), (111, .iload_n 1, 1, 0, 0), (112, .invokevirtual 437, 3, 151, 1), (115, .goto (-29), 3, 86, 0), (118, .iconst 0, 1, 0, 0), (119, .ireturn, 1, 0, 0)]
abbrev ab_m156 : ab_M := (10, ({ cls := "CodeSmithModel", name := "goesOn", desc := "(I)Z" } : Jvm.MethodName), prog_9_method_42_code, 3, (Option.some Jvm.ClassFile.FieldType.boolean), 1, 1378)
/-- CodeSmithModel.high(I)I -/
def ab_c157 : List ab_I := [(0, .iload_n 0, 1, 0, 0), (1, .iload_n 0, 1, 0, 0), (2, .invokestatic 427, 3, 158, 1), (5, .isub, 1, 0, 0), (6, .bipush 12, 2, 0, 0), (8, .iushr, 1, 0, 0), (9, .ireturn, 1, 0, 0)]
abbrev ab_m157 : ab_M := (10, ({ cls := "CodeSmithModel", name := "high", desc := "(I)I" } : Jvm.MethodName), prog_9_method_36_code, 1, (Option.some Jvm.ClassFile.FieldType.int), 1, 1381)
/-- CodeSmithModel.low(I)I -/
def ab_c158 : List ab_I := [(0, .iload_n 0, 1, 0, 0), (1, .sipush 4095, 3, 0, 0), (4, .iand, 1, 0, 0), (5, .sipush 2047, 3, 0, 0), (8, .if_icmp .le 15, 3, 23, 0), (11, .iload_n 0, 1, 0, 0), (12, .sipush 4095, 3, 0, 0), (15, .iand, 1, 0, 0), (16, .sipush 4096, 3, 0, 0), (19, .isub, 1, 0, 0), (20, .goto 8, 3, 28, 0), (23, .iload_n 0, 1, 0, 0), (24, .sipush 4095, 3, 0, 0), (27, .iand, 1, 0, 0), (28, .ireturn, 1, 0, 0)]
abbrev ab_m158 : ab_M := (10, ({ cls := "CodeSmithModel", name := "low", desc := "(I)I" } : Jvm.MethodName), prog_9_method_35_code, 1, (Option.some Jvm.ClassFile.FieldType.int), 1, 1384)
/-- CodeSmithModel.within(III)I -/
def ab_c159 : List ab_I := [(0, .aload_n 0, 1, 0, 0), (1, .aload_n 0, 1, 0, 0), (2, .getfield 480, 3, 6, 37), (5, .ifCond .ne 20, 3, 25, 0), (8, .aload_n 0, 1, 0, 0), (9, .getfield 408, 3, 6, 19), (12, .ifCond .eq 17, 3, 29, 0), (15, .iload_n 1, 1, 0, 0), (16, .iload_n 2, 1, 0, 0), (17, .if_icmp .lt 8, 3, 25, 0), (20, .iload_n 1, 1, 0, 0), (21, .iload_n 3, 1, 0, 0), (22, .if_icmp .le 7, 3, 29, 0), (25, .iconst 1, 1, 0, 0), (26, .goto 4, 3, 30, 0), (29, .iconst 0, 1, 0, 0), (30, .putfield 480, 3, 6, 37), (33, .iload_n 1, 1, 0, 0), (34, .ireturn, 1, 0, 0)]
abbrev ab_m159 : ab_M := (10, ({ cls := "CodeSmithModel", name := "within", desc := "(III)I" } : Jvm.MethodName), prog_9_method_46_code, 4, (Option.some Jvm.ClassFile.FieldType.int), 3, 1388)
/-- CodeSmithModel.immediate(IIIII)I -/
def ab_c160 : List ab_I := [(0, .iload_n 0, 1, 0, 0), (1, .bipush 20, 2, 0, 0), (3, .ishl, 1, 0, 0), (4, .iload_n 1, 1, 0, 0), (5, .bipush 15, 2, 0, 0), (7, .ishl, 1, 0, 0), (8, .ior, 1, 0, 0), (9, .iload_n 2, 1, 0, 0), (10, .bipush 12, 2, 0, 0), (12, .ishl, 1, 0, 0), (13, .ior, 1, 0, 0), (14, .iload_n 3, 1, 0, 0), (15, .bipush 7, 2, 0, 0), (17, .ishl, 1, 0, 0), (18, .ior, 1, 0, 0), (19, .iload 4, 2, 0, 0), (21, .ior, 1, 0, 0), (22, .ireturn, 1, 0, 0)]
abbrev ab_m160 : ab_M := (10, ({ cls := "CodeSmithModel", name := "immediate", desc := "(IIIII)I" } : Jvm.MethodName), prog_9_method_47_code, 5, (Option.some Jvm.ClassFile.FieldType.int), 5, 1391)
/-- CodeSmithModel.memory()I -/
def ab_c161 : List ab_I := [(0, .aload_n 0, 1, 0, 0), (1, .bipush 40, 2, 0, 0), (3, .invokevirtual 384, 3, 142, 1), (6, .ifCond .eq 14, 3, 20, 0), (9, .aload_n 0, 1, 0, 0), (10, .invokevirtual 498, 3, 162, 0), (13, .ifCond .eq 7, 3, 20, 0), (16, .iconst 0, 1, 0, 0), (17, .goto 17, 3, 34, 0), (20, .aload_n 0, 1, 0, 0), (21, .aload_n 0, 1, 0, 0), (22, .invokevirtual 502, 3, 145, 0), (25, .sipush (-2048), 3, 0, 0), (28, .sipush 2047, 3, 0, 0), (31, .invokevirtual 483, 3, 159, 3), (34, .istore_n 1, 1, 0, 0), (35, .aload_n 0, 1, 0, 0), (36, .bipush 40, 2, 0, 0), (38, .invokevirtual 495, 3, 141, 1), (41, .aload_n 0, 1, 0, 0), (42, .aload_n 0, 1, 0, 0), (43, .invokevirtual 491, 3, 140, 0), (46, .putfield 505, 3, 6, 47), (49, .aload_n 0, 1, 0, 0), (50, .bipush 41, 2, 0, 0), (52, .invokevirtual 495, 3, 141, 1), (55, .iload_n 1, 1, 0, 0), (56, .ireturn, 1, 0, 0)]
abbrev ab_m161 : ab_M := (10, ({ cls := "CodeSmithModel", name := "memory", desc := "()I" } : Jvm.MethodName), prog_9_method_52_code, 2, (Option.some Jvm.ClassFile.FieldType.int), 0, 1395)
/-- CodeSmithModel.registerFollows()Z -/
def ab_c162 : List ab_I := [(0, .aload_n 0, 1, 0, 0), (1, .getfield 322, 3, 6, 18), (4, .istore_n 1, 1, 0, 0), (5, .aload_n 0, 1, 0, 0), (6, .invokevirtual 346, 3, 118, 0), (9, .iconst 0, 1, 0, 0), (10, .istore_n 2, 1, 0, 0), (11, .aload_n 0, 1, 0, 0), (12, .iconst 0, 1, 0, 0), (13, .invokevirtual 335, 3, 119, 1), (16, .invokestatic 328, 3, 120, 1), (19, .ifCond .eq 20, 3, 39, 0), (22, .aload_n 0, 1, 0, 0), (23, .iload_n 2, 1, 0, 0), (24, .invokevirtual 335, 3, 119, 1), (27, .invokestatic 355, 3, 121, 1), (30, .ifCond .eq 9, 3, 39, 0), (33, .iinc 2 1, 3, 0, 0), (36, .goto (-25), 3, 11, 0), (39, .iload_n 2, 1, 0, 0), (40, .ifCond .le 24, 3, 64, 0), (43, .iload_n 2, 1, 0, 0), (44, .iconst 5, 1, 0, 0), (45, .if_icmp .ge 19, 3, 64, 0), (48, .aload_n 0, 1, 0, 0), (49, .aload_n 0, 1, 0, 0), (50, .getfield 322, 3, 6, 18), (53, .iload_n 2, 1, 0, 0), (54, .invokevirtual 401, 3, 134, 2), (57, .ifCond .lt 7, 3, 64, 0), (60, .iconst 1, 1, 0, 0), (61, .goto 4, 3, 65, 0), (64, .iconst 0, 1, 0, 0), (65, .istore_n 3, 1, 0, 0), (66, .aload_n 0, 1, 0, 0), (67, .iload_n 1, 1, 0, 0), (68, .putfield 322, 3, 6, 18), (71, .iload_n 3, 1, 0, 0), (72, .ireturn, 1, 0, 0)]
abbrev ab_m162 : ab_M := (10, ({ cls := "CodeSmithModel", name := "registerFollows", desc := "()Z" } : Jvm.MethodName), prog_9_method_27_code, 4, (Option.some Jvm.ClassFile.FieldType.boolean), 0, 1399)
/-- CodeSmithModel.branch(IIII)V -/
def ab_c163 : List ab_I := [(0, .aload_n 0, 1, 0, 0), (1, .iload 4, 2, 0, 0), (3, .aload_n 0, 1, 0, 0), (4, .getfield 449, 3, 6, 33), (7, .isub, 1, 0, 0), (8, .sipush (-4096), 3, 0, 0), (11, .sipush 4094, 3, 0, 0), (14, .invokevirtual 483, 3, 159, 3), (17, .istore 5, 2, 0, 0), (19, .aload_n 0, 1, 0, 0), (20, .aload_n 0, 1, 0, 0), (21, .getfield 480, 3, 6, 37), (24, .ifCond .ne 17, 3, 41, 0), (27, .aload_n 0, 1, 0, 0), (28, .getfield 408, 3, 6, 19), (31, .ifCond .eq 14, 3, 45, 0), (34, .iload 5, 2, 0, 0), (36, .iconst 2, 1, 0, 0), (37, .irem, 1, 0, 0), (38, .ifCond .eq 7, 3, 45, 0), (41, .iconst 1, 1, 0, 0), (42, .goto 4, 3, 46, 0), (45, .iconst 0, 1, 0, 0), (46, .putfield 480, 3, 6, 37), (49, .aload_n 0, 1, 0, 0), (50, .iload 5, 2, 0, 0), (52, .bipush 12, 2, 0, 0), (54, .ishr, 1, 0, 0), (55, .iconst 1, 1, 0, 0), (56, .iand, 1, 0, 0), (57, .bipush 31, 2, 0, 0), (59, .ishl, 1, 0, 0), (60, .iload 5, 2, 0, 0), (62, .iconst 5, 1, 0, 0), (63, .ishr, 1, 0, 0), (64, .bipush 63, 2, 0, 0), (66, .iand, 1, 0, 0), (67, .bipush 25, 2, 0, 0), (69, .ishl, 1, 0, 0), (70, .ior, 1, 0, 0), (71, .iload_n 3, 1, 0, 0), (72, .bipush 20, 2, 0, 0), (74, .ishl, 1, 0, 0), (75, .ior, 1, 0, 0), (76, .iload_n 2, 1, 0, 0), (77, .bipush 15, 2, 0, 0), (79, .ishl, 1, 0, 0), (80, .ior, 1, 0, 0), (81, .iload_n 1, 1, 0, 0), (82, .bipush 12, 2, 0, 0), (84, .ishl, 1, 0, 0), (85, .ior, 1, 0, 0), (86, .iload 5, 2, 0, 0), (88, .iconst 1, 1, 0, 0), (89, .ishr, 1, 0, 0), (90, .bipush 15, 2, 0, 0), (92, .iand, 1, 0, 0), (93, .bipush 8, 2, 0, 0), (95, .ishl, 1, 0, 0), (96, .ior, 1, 0, 0), (97, .iload 5, 2, 0, 0), (99, .bipush 11, 2, 0, 0), (101, .ishr, 1, 0, 0), (102, .iconst 1, 1, 0, 0), (103, .iand, 1, 0, 0), (104, .bipush 7, 2, 0, 0), (106, .ishl, 1, 0, 0), (107, .ior, 1, 0, 0), (108, .bipush 99, 2, 0, 0), (110, .ior, 1, 0, 0), (111, .iconst 4, 1, 0, 0), (112, .invokevirtual 486, 3, 144, 2), (115, .return_, 1, 0, 0)]
abbrev ab_m163 : ab_M := (10, ({ cls := "CodeSmithModel", name := "branch", desc := "(IIII)V" } : Jvm.MethodName), prog_9_method_49_code, 6, (Option.none : Option Jvm.ClassFile.FieldType), 4, 1403)
def ab_pr20 : List (ab_M × List ab_I) := [(ab_m153, ab_c153), (ab_m154, ab_c154), (ab_m155, ab_c155), (ab_m156, ab_c156), (ab_m157, ab_c157), (ab_m158, ab_c158), (ab_m159, ab_c159), (ab_m160, ab_c160), (ab_m161, ab_c161), (ab_m162, ab_c162), (ab_m163, ab_c163)]
set_option maxRecDepth 1000000 in
theorem ab_pr20_ok : ab_pr20.all ab_mok = true := sorry

/-- CodeSmithModel.jump(II)V -/
def ab_c164 : List ab_I := [(0, .aload_n 0, 1, 0, 0), (1, .iload_n 2, 1, 0, 0), (2, .aload_n 0, 1, 0, 0), (3, .getfield 449, 3, 6, 33), (6, .isub, 1, 0, 0), (7, .ldc_w 489, 3, 4293918720, 0), (10, .ldc_w 490, 3, 1048574, 0), (13, .invokevirtual 483, 3, 159, 3), (16, .istore_n 3, 1, 0, 0), (17, .aload_n 0, 1, 0, 0), (18, .aload_n 0, 1, 0, 0), (19, .getfield 480, 3, 6, 37), (22, .ifCond .ne 16, 3, 38, 0), (25, .aload_n 0, 1, 0, 0), (26, .getfield 408, 3, 6, 19), (29, .ifCond .eq 13, 3, 42, 0), (32, .iload_n 3, 1, 0, 0), (33, .iconst 2, 1, 0, 0), (34, .irem, 1, 0, 0), (35, .ifCond .eq 7, 3, 42, 0), (38, .iconst 1, 1, 0, 0), (39, .goto 4, 3, 43, 0), (42, .iconst 0, 1, 0, 0), (43, .putfield 480, 3, 6, 37), (46, .aload_n 0, 1, 0, 0), (47, .iload_n 3, 1, 0, 0), (48, .bipush 20, 2, 0, 0), (50, .ishr, 1, 0, 0), (51, .iconst 1, 1, 0, 0), (52, .iand, 1, 0, 0), (53, .bipush 31, 2, 0, 0), (55, .ishl, 1, 0, 0), (56, .iload_n 3, 1, 0, 0), (57, .iconst 1, 1, 0, 0), (58, .ishr, 1, 0, 0), (59, .sipush 1023, 3, 0, 0), (62, .iand, 1, 0, 0), (63, .bipush 21, 2, 0, 0), (65, .ishl, 1, 0, 0), (66, .ior, 1, 0, 0), (67, .iload_n 3, 1, 0, 0), (68, .bipush 11, 2, 0, 0), (70, .ishr, 1, 0, 0), (71, .iconst 1, 1, 0, 0), (72, .iand, 1, 0, 0), (73, .bipush 20, 2, 0, 0), (75, .ishl, 1, 0, 0), (76, .ior, 1, 0, 0), (77, .iload_n 3, 1, 0, 0), (78, .bipush 12, 2, 0, 0), (80, .ishr, 1, 0, 0), (81, .sipush 255, 3, 0, 0), (84, .iand, 1, 0, 0), (85, .bipush 12, 2, 0, 0), (87, .ishl, 1, 0, 0), (88, .ior, 1, 0, 0), (89, .iload_n 1, 1, 0, 0), (90, .bipush 7, 2, 0, 0), (92, .ishl, 1, 0, 0), (93, .ior, 1, 0, 0), (94, .bipush 111, 2, 0, 0), (96, .ior, 1, 0, 0), (97, .iconst 4, 1, 0, 0), (98, .invokevirtual 486, 3, 144, 2), (101, .return_, 1, 0, 0)]
abbrev ab_m164 : ab_M := (10, ({ cls := "CodeSmithModel", name := "jump", desc := "(II)V" } : Jvm.MethodName), prog_9_method_50_code, 4, (Option.none : Option Jvm.ClassFile.FieldType), 2, 1408)
def ab_pr21 : List (ab_M × List ab_I) := [(ab_m164, ab_c164)]
set_option maxRecDepth 1000000 in
theorem ab_pr21_ok : ab_pr21.all ab_mok = true := sorry

abbrev ab_m165 : ab_M := (10, ({ cls := "CodeSmithModel", name := "other", desc := "(I)V" } : Jvm.MethodName), prog_9_method_55_code, 6, (Option.none : Option Jvm.ClassFile.FieldType), 1, 1415)
def ab_c165_0 : List ab_I := [(0, .iload_n 1, 1, 0, 0), (1, .bipush 67, 2, 0, 0), (3, .if_icmp .ge 135, 3, 138, 0), (6, .aload_n 0, 1, 0, 0), (7, .invokevirtual 512, 3, 139, 0), (10, .istore_n 2, 1, 0, 0), (11, .aload_n 0, 1, 0, 0), (12, .invokevirtual 491, 3, 140, 0), (15, .istore_n 3, 1, 0, 0), (16, .aload_n 0, 1, 0, 0), (17, .iload_n 1, 1, 0, 0), (18, .bipush 60, 2, 0, 0), (20, .if_icmp .ne 15, 3, 35, 0), (23, .iconst 0, 1, 0, 0), (24, .iload_n 3, 1, 0, 0), (25, .iconst 0, 1, 0, 0), (26, .iload_n 2, 1, 0, 0), (27, .bipush 19, 2, 0, 0), (29, .invokestatic 508, 3, 160, 5), (32, .goto 99, 3, 131, 0), (35, .iload_n 1, 1, 0, 0), (36, .bipush 61, 2, 0, 0), (38, .if_icmp .ne 15, 3, 53, 0), (41, .iconst (-1), 1, 0, 0), (42, .iload_n 3, 1, 0, 0), (43, .iconst 4, 1, 0, 0), (44, .iload_n 2, 1, 0, 0), (45, .bipush 19, 2, 0, 0), (47, .invokestatic 508, 3, 160, 5), (50, .goto 81, 3, 131, 0), (53, .iload_n 1, 1, 0, 0), (54, .bipush 62, 2, 0, 0), (56, .if_icmp .ne 15, 3, 71, 0), (59, .bipush 32, 2, 0, 0), (61, .iload_n 3, 1, 0, 0), (62, .iconst 0, 1, 0, 0), (63, .iconst 0, 1, 0, 0), (64, .iload_n 2, 1, 0, 0), (65, .invokestatic 515, 3, 143, 5), (68, .goto 63, 3, 131, 0), (71, .iload_n 1, 1, 0, 0), (72, .bipush 63, 2, 0, 0), (74, .if_icmp .ne 15, 3, 89, 0), (77, .iconst 1, 1, 0, 0), (78, .iload_n 3, 1, 0, 0)]
set_option maxRecDepth 1000000 in
theorem ab_c165_0_ok : ab_c165_0.all (ab_eok 10 prog_9_method_55_code) = true := sorry
def ab_c165_1 : List ab_I := [(79, .iconst 3, 1, 0, 0), (80, .iload_n 2, 1, 0, 0), (81, .bipush 19, 2, 0, 0), (83, .invokestatic 508, 3, 160, 5), (86, .goto 45, 3, 131, 0), (89, .iload_n 1, 1, 0, 0), (90, .bipush 64, 2, 0, 0), (92, .if_icmp .ne 14, 3, 106, 0), (95, .iconst 0, 1, 0, 0), (96, .iload_n 3, 1, 0, 0), (97, .iconst 0, 1, 0, 0), (98, .iconst 3, 1, 0, 0), (99, .iload_n 2, 1, 0, 0), (100, .invokestatic 515, 3, 143, 5), (103, .goto 28, 3, 131, 0), (106, .iload_n 1, 1, 0, 0), (107, .bipush 65, 2, 0, 0), (109, .if_icmp .ne 14, 3, 123, 0), (112, .iconst 0, 1, 0, 0), (113, .iconst 0, 1, 0, 0), (114, .iload_n 3, 1, 0, 0), (115, .iconst 2, 1, 0, 0), (116, .iload_n 2, 1, 0, 0), (117, .invokestatic 515, 3, 143, 5), (120, .goto 11, 3, 131, 0), (123, .iconst 0, 1, 0, 0), (124, .iload_n 3, 1, 0, 0), (125, .iconst 0, 1, 0, 0), (126, .iconst 2, 1, 0, 0), (127, .iload_n 2, 1, 0, 0), (128, .invokestatic 515, 3, 143, 5), (131, .iconst 4, 1, 0, 0), (132, .invokevirtual 486, 3, 144, 2), (135, .goto 203, 3, 338, 0), (138, .iload_n 1, 1, 0, 0), (139, .bipush 69, 2, 0, 0), (141, .if_icmp .ge 18, 3, 159, 0), (144, .aload_n 0, 1, 0, 0), (145, .iload_n 1, 1, 0, 0), (146, .bipush 67, 2, 0, 0), (148, .isub, 1, 0, 0), (149, .aload_n 0, 1, 0, 0), (150, .invokevirtual 502, 3, 145, 0), (153, .invokevirtual 526, 3, 164, 2), (156, .goto 182, 3, 338, 0)]
set_option maxRecDepth 1000000 in
theorem ab_c165_1_ok : ab_c165_1.all (ab_eok 10 prog_9_method_55_code) = true := sorry
def ab_c165_2 : List ab_I := [(159, .iload_n 1, 1, 0, 0), (160, .bipush 69, 2, 0, 0), (162, .if_icmp .ne 23, 3, 185, 0), (165, .aload_n 0, 1, 0, 0), (166, .iconst 0, 1, 0, 0), (167, .aload_n 0, 1, 0, 0), (168, .invokevirtual 491, 3, 140, 0), (171, .iconst 0, 1, 0, 0), (172, .iconst 0, 1, 0, 0), (173, .bipush 103, 2, 0, 0), (175, .invokestatic 508, 3, 160, 5), (178, .iconst 4, 1, 0, 0), (179, .invokevirtual 486, 3, 144, 2), (182, .goto 156, 3, 338, 0), (185, .aload_n 0, 1, 0, 0), (186, .invokevirtual 512, 3, 139, 0), (189, .istore_n 2, 1, 0, 0), (190, .aload_n 0, 1, 0, 0), (191, .getfield 349, 3, 6, 21), (194, .istore_n 3, 1, 0, 0), (195, .aload_n 0, 1, 0, 0), (196, .iload_n 1, 1, 0, 0), (197, .bipush 70, 2, 0, 0), (199, .if_icmp .ne 7, 3, 206, 0), (202, .iconst 1, 1, 0, 0), (203, .goto 4, 3, 207, 0), (206, .iconst 0, 1, 0, 0), (207, .putfield 415, 3, 6, 38), (210, .aload_n 0, 1, 0, 0), (211, .aload_n 0, 1, 0, 0), (212, .getfield 415, 3, 6, 38), (215, .ifCond .eq 18, 3, 233, 0), (218, .aload_n 0, 1, 0, 0), (219, .getfield 408, 3, 6, 19), (222, .ifCond .eq 7, 3, 229, 0), (225, .iconst 2, 1, 0, 0), (226, .goto 8, 3, 234, 0), (229, .iconst 1, 1, 0, 0), (230, .goto 4, 3, 234, 0), (233, .iconst 3, 1, 0, 0), (234, .invokevirtual 473, 3, 146, 1), (237, .istore 4, 2, 0, 0), (239, .iload_n 1, 1, 0, 0), (240, .bipush 71, 2, 0, 0), (242, .if_icmp .ne 30, 3, 272, 0)]
set_option maxRecDepth 1000000 in
theorem ab_c165_2_ok : ab_c165_2.all (ab_eok 10 prog_9_method_55_code) = true := sorry
def ab_c165_3 : List ab_I := [(245, .aload_n 0, 1, 0, 0), (246, .getfield 415, 3, 6, 38), (249, .ifCond .ne 23, 3, 272, 0), (252, .iload 4, 2, 0, 0), (254, .sipush (-2048), 3, 0, 0), (257, .if_icmp .lt 15, 3, 272, 0), (260, .iload 4, 2, 0, 0), (262, .sipush 2047, 3, 0, 0), (265, .if_icmp .gt 7, 3, 272, 0), (268, .iconst 1, 1, 0, 0), (269, .goto 4, 3, 273, 0), (272, .iconst 0, 1, 0, 0), (273, .istore 5, 2, 0, 0), (275, .iload_n 1, 1, 0, 0), (276, .bipush 71, 2, 0, 0), (278, .if_icmp .ne 30, 3, 308, 0), (281, .iload 5, 2, 0, 0), (283, .ifCond .ne 25, 3, 308, 0), (286, .aload_n 0, 1, 0, 0), (287, .getfield 307, 3, 6, 11), (290, .ifCond .ne 18, 3, 308, 0), (293, .aload_n 0, 1, 0, 0), (294, .iload_n 3, 1, 0, 0), (295, .putfield 322, 3, 6, 18), (298, .aload_n 0, 1, 0, 0), (299, .invokevirtual 387, 3, 117, 0), (302, .aload_n 0, 1, 0, 0), (303, .invokevirtual 502, 3, 145, 0), (306, .istore 4, 2, 0, 0), (308, .iload 5, 2, 0, 0), (310, .ifCond .eq 21, 3, 331, 0), (313, .aload_n 0, 1, 0, 0), (314, .iload 4, 2, 0, 0), (316, .iconst 0, 1, 0, 0), (317, .iconst 0, 1, 0, 0), (318, .iload_n 2, 1, 0, 0), (319, .bipush 19, 2, 0, 0), (321, .invokestatic 508, 3, 160, 5), (324, .iconst 4, 1, 0, 0), (325, .invokevirtual 486, 3, 144, 2), (328, .goto 10, 3, 338, 0), (331, .aload_n 0, 1, 0, 0), (332, .iload_n 2, 1, 0, 0), (333, .iload 4, 2, 0, 0), (335, .invokevirtual 530, 3, 166, 2)]
set_option maxRecDepth 1000000 in
theorem ab_c165_3_ok : ab_c165_3.all (ab_eok 10 prog_9_method_55_code) = true := sorry
def ab_c165_4 : List ab_I := [(338, .return_, 1, 0, 0)]
set_option maxRecDepth 1000000 in
theorem ab_c165_4_ok : ab_c165_4.all (ab_eok 10 prog_9_method_55_code) = true := sorry

/-- CodeSmithModel.other(I)V -/
def ab_c165 : List ab_I := ab_c165_0 ++ (ab_c165_1 ++ (ab_c165_2 ++ (ab_c165_3 ++ (ab_c165_4))))
def ab_pr22 : List (ab_M × List ab_I) := [(ab_m165, ab_c165)]
set_option maxRecDepth 1000000 in
theorem ab_m165_w : lw_tbl[1415]? = some (.code ({ cls := "CodeSmithModel", name := "other", desc := "(I)V" } : Jvm.MethodName) prog_9_method_55_code 6 (Option.none : Option Jvm.ClassFile.FieldType)) := rfl
set_option maxRecDepth 1000000 in
theorem ab_m165_h : ab_hok ab_m165 = true := sorry
theorem ab_c165_all : ab_c165.all (ab_eok 10 prog_9_method_55_code) = true := sorry
theorem ab_pr22_ok : ab_pr22.all ab_mok = true := sorry

/-- CodeSmithModel.far(II)V -/
def ab_c166 : List ab_I := [(0, .aload_n 0, 1, 0, 0), (1, .iload_n 2, 1, 0, 0), (2, .invokestatic 470, 3, 157, 1), (5, .bipush 12, 2, 0, 0), (7, .ishl, 1, 0, 0), (8, .iload_n 1, 1, 0, 0), (9, .bipush 7, 2, 0, 0), (11, .ishl, 1, 0, 0), (12, .ior, 1, 0, 0), (13, .bipush 55, 2, 0, 0), (15, .ior, 1, 0, 0), (16, .iconst 4, 1, 0, 0), (17, .invokevirtual 486, 3, 144, 2), (20, .aload_n 0, 1, 0, 0), (21, .iload_n 2, 1, 0, 0), (22, .invokestatic 427, 3, 158, 1), (25, .iload_n 1, 1, 0, 0), (26, .iconst 0, 1, 0, 0), (27, .iload_n 1, 1, 0, 0), (28, .bipush 19, 2, 0, 0), (30, .invokestatic 508, 3, 160, 5), (33, .iconst 4, 1, 0, 0), (34, .invokevirtual 486, 3, 144, 2), (37, .return_, 1, 0, 0)]
abbrev ab_m166 : ab_M := (10, ({ cls := "CodeSmithModel", name := "far", desc := "(II)V" } : Jvm.MethodName), prog_9_method_53_code, 3, (Option.none : Option Jvm.ClassFile.FieldType), 2, 1419)
def ab_pr23 : List (ab_M × List ab_I) := [(ab_m166, ab_c166)]
set_option maxRecDepth 1000000 in
theorem ab_pr23_ok : ab_pr23.all ab_mok = true := sorry

abbrev ab_m167 : ab_M := (10, ({ cls := "CodeSmithModel", name := "directive", desc := "(I)V" } : Jvm.MethodName), prog_9_method_56_code, 5, (Option.none : Option Jvm.ClassFile.FieldType), 1, 1423)
def ab_c167_0 : List ab_I := [(0, .iload_n 1, 1, 0, 0), (1, .bipush 74, 2, 0, 0), (3, .if_icmp .ge 14, 3, 17, 0), (6, .aload_n 0, 1, 0, 0), (7, .iload_n 1, 1, 0, 0), (8, .bipush 72, 2, 0, 0), (10, .isub, 1, 0, 0), (11, .putfield 477, 3, 6, 32), (14, .goto 272, 3, 286, 0), (17, .iload_n 1, 1, 0, 0), (18, .bipush 77, 2, 0, 0), (20, .if_icmp .ge 62, 3, 82, 0), (23, .iload_n 1, 1, 0, 0), (24, .bipush 74, 2, 0, 0), (26, .if_icmp .ne 7, 3, 33, 0), (29, .iconst 1, 1, 0, 0), (30, .goto 14, 3, 44, 0), (33, .iload_n 1, 1, 0, 0), (34, .bipush 75, 2, 0, 0), (36, .if_icmp .ne 7, 3, 43, 0), (39, .iconst 2, 1, 0, 0), (40, .goto 4, 3, 44, 0), (43, .iconst 4, 1, 0, 0), (44, .istore_n 2, 1, 0, 0), (45, .aload_n 0, 1, 0, 0), (46, .aload_n 0, 1, 0, 0), (47, .invokevirtual 502, 3, 145, 0), (50, .iload_n 2, 1, 0, 0), (51, .invokevirtual 486, 3, 144, 2), (54, .aload_n 0, 1, 0, 0), (55, .bipush 44, 2, 0, 0), (57, .invokevirtual 384, 3, 142, 1), (60, .ifCond .eq 19, 3, 79, 0), (63, .aload_n 0, 1, 0, 0), (64, .invokevirtual 387, 3, 117, 0), (67, .aload_n 0, 1, 0, 0), (68, .aload_n 0, 1, 0, 0), (69, .invokevirtual 502, 3, 145, 0), (72, .iload_n 2, 1, 0, 0), (73, .invokevirtual 486, 3, 144, 2), (76, .goto (-22), 3, 54, 0), (79, .goto 207, 3, 286, 0), (82, .iload_n 1, 1, 0, 0), (83, .bipush 79, 2, 0, 0), (85, .if_icmp .ge 81, 3, 166, 0)]
set_option maxRecDepth 1000000 in
theorem ab_c167_0_ok : ab_c167_0.all (ab_eok 10 prog_9_method_56_code) = true := sorry
def ab_c167_1 : List ab_I := [(88, .aload_n 0, 1, 0, 0), (89, .getfield 358, 3, 6, 20), (92, .iconst 3, 1, 0, 0), (93, .if_icmp .eq 12, 3, 105, 0), (96, .aload_n 0, 1, 0, 0), (97, .iconst 1, 1, 0, 0), (98, .aload_n 0, 1, 0, 0), (99, .getfield 349, 3, 6, 21), (102, .invokevirtual 342, 3, 131, 2), (105, .aload_n 0, 1, 0, 0), (106, .invokevirtual 398, 3, 130, 0), (109, .iconst 0, 1, 0, 0), (110, .istore_n 2, 1, 0, 0), (111, .iload_n 2, 1, 0, 0), (112, .aload_n 0, 1, 0, 0), (113, .getfield 381, 3, 6, 24), (116, .if_icmp .ge 27, 3, 143, 0), (119, .aload_n 0, 1, 0, 0), (120, .getfield 307, 3, 6, 11), (123, .ifCond .ne 20, 3, 143, 0), (126, .aload_n 0, 1, 0, 0), (127, .aload_n 0, 1, 0, 0), (128, .getfield 260, 3, 6, 25), (131, .iload_n 2, 1, 0, 0), (132, .baload, 1, 0, 0), (133, .iconst 1, 1, 0, 0), (134, .invokevirtual 486, 3, 144, 2), (137, .iinc 2 1, 3, 0, 0), (140, .goto (-29), 3, 111, 0), (143, .aload_n 0, 1, 0, 0), (144, .iconst 0, 1, 0, 0), (145, .iload_n 1, 1, 0, 0), (146, .bipush 78, 2, 0, 0), (148, .if_icmp .ne 7, 3, 155, 0), (151, .iconst 1, 1, 0, 0), (152, .goto 4, 3, 156, 0), (155, .iconst 0, 1, 0, 0), (156, .invokevirtual 486, 3, 144, 2), (159, .aload_n 0, 1, 0, 0), (160, .invokevirtual 387, 3, 117, 0), (163, .goto 123, 3, 286, 0), (166, .iload_n 1, 1, 0, 0), (167, .bipush 81, 2, 0, 0), (169, .if_icmp .ge 112, 3, 281, 0), (172, .aload_n 0, 1, 0, 0)]
set_option maxRecDepth 1000000 in
theorem ab_c167_1_ok : ab_c167_1.all (ab_eok 10 prog_9_method_56_code) = true := sorry
def ab_c167_2 : List ab_I := [(173, .iconst 0, 1, 0, 0), (174, .invokevirtual 473, 3, 146, 1), (177, .istore_n 2, 1, 0, 0), (178, .iload_n 2, 1, 0, 0), (179, .ifCond .lt 25, 3, 204, 0), (182, .iload_n 2, 1, 0, 0), (183, .iload_n 1, 1, 0, 0), (184, .bipush 79, 2, 0, 0), (186, .if_icmp .ne 9, 3, 195, 0), (189, .ldc_w 476, 3, 65420, 0), (192, .goto 5, 3, 197, 0), (195, .bipush 12, 2, 0, 0), (197, .if_icmp .gt 7, 3, 204, 0), (200, .iconst 1, 1, 0, 0), (201, .goto 4, 3, 205, 0), (204, .iconst 0, 1, 0, 0), (205, .istore_n 3, 1, 0, 0), (206, .aload_n 0, 1, 0, 0), (207, .iload_n 3, 1, 0, 0), (208, .ifCond .ne 7, 3, 215, 0), (211, .iconst 1, 1, 0, 0), (212, .goto 4, 3, 216, 0), (215, .iconst 0, 1, 0, 0), (216, .putfield 480, 3, 6, 37), (219, .iload_n 3, 1, 0, 0), (220, .ifCond .eq 15, 3, 235, 0), (223, .iload_n 1, 1, 0, 0), (224, .bipush 80, 2, 0, 0), (226, .if_icmp .ne 9, 3, 235, 0), (229, .iconst 1, 1, 0, 0), (230, .iload_n 2, 1, 0, 0), (231, .ishl, 1, 0, 0), (232, .goto 4, 3, 236, 0), (235, .iconst 1, 1, 0, 0), (236, .istore 4, 2, 0, 0), (238, .aload_n 0, 1, 0, 0), (239, .iload_n 3, 1, 0, 0), (240, .ifCond .ne 7, 3, 247, 0), (243, .iconst 0, 1, 0, 0), (244, .goto 31, 3, 275, 0), (247, .iload_n 1, 1, 0, 0), (248, .bipush 79, 2, 0, 0), (250, .if_icmp .ne 7, 3, 257, 0), (253, .iload_n 2, 1, 0, 0), (254, .goto 21, 3, 275, 0)]
set_option maxRecDepth 1000000 in
theorem ab_c167_2_ok : ab_c167_2.all (ab_eok 10 prog_9_method_56_code) = true := sorry
def ab_c167_3 : List ab_I := [(257, .iload 4, 2, 0, 0), (259, .aload_n 0, 1, 0, 0), (260, .getfield 278, 3, 6, 35), (263, .aload_n 0, 1, 0, 0), (264, .getfield 477, 3, 6, 32), (267, .iaload, 1, 0, 0), (268, .iload 4, 2, 0, 0), (270, .irem, 1, 0, 0), (271, .isub, 1, 0, 0), (272, .iload 4, 2, 0, 0), (274, .irem, 1, 0, 0), (275, .invokevirtual 533, 3, 168, 1), (278, .goto 8, 3, 286, 0), (281, .aload_n 0, 1, 0, 0), (282, .iload_n 1, 1, 0, 0), (283, .invokevirtual 536, 3, 169, 1), (286, .return_, 1, 0, 0)]
set_option maxRecDepth 1000000 in
theorem ab_c167_3_ok : ab_c167_3.all (ab_eok 10 prog_9_method_56_code) = true := sorry
/-- CodeSmithModel.directive(I)V -/
def ab_c167 : List ab_I := ab_c167_0 ++ (ab_c167_1 ++ (ab_c167_2 ++ (ab_c167_3)))
def ab_pr24 : List (ab_M × List ab_I) := [(ab_m167, ab_c167)]
set_option maxRecDepth 1000000 in
theorem ab_m167_w : lw_tbl[1423]? = some (.code ({ cls := "CodeSmithModel", name := "directive", desc := "(I)V" } : Jvm.MethodName) prog_9_method_56_code 5 (Option.none : Option Jvm.ClassFile.FieldType)) := rfl
set_option maxRecDepth 1000000 in
theorem ab_m167_h : ab_hok ab_m167 = true := sorry
theorem ab_c167_all : ab_c167.all (ab_eok 10 prog_9_method_56_code) = true := sorry
theorem ab_pr24_ok : ab_pr24.all ab_mok = true := sorry

/-- CodeSmithModel.gap(I)V -/
def ab_c168 : List ab_I := [(0, .iconst 0, 1, 0, 0), (1, .istore_n 2, 1, 0, 0), (2, .iload_n 2, 1, 0, 0), (3, .iload_n 1, 1, 0, 0), (4, .if_icmp .ge 42, 3, 46, 0), (7, .aload_n 0, 1, 0, 0), (8, .getfield 408, 3, 6, 19), (11, .ifCond .eq 35, 3, 46, 0), (14, .aload_n 0, 1, 0, 0), (15, .getfield 282, 3, 6, 36), (18, .ldc_w 476, 3, 65420, 0), (21, .aload_n 0, 1, 0, 0), (22, .getfield 477, 3, 6, 32), (25, .imul, 1, 0, 0), (26, .aload_n 0, 1, 0, 0), (27, .getfield 278, 3, 6, 35), (30, .aload_n 0, 1, 0, 0), (31, .getfield 477, 3, 6, 32), (34, .iaload, 1, 0, 0), (35, .iadd, 1, 0, 0), (36, .iload_n 2, 1, 0, 0), (37, .iadd, 1, 0, 0), (38, .iconst 0, 1, 0, 0), (39, .bastore, 1, 0, 0), (40, .iinc 2 1, 3, 0, 0), (43, .goto (-41), 3, 2, 0), (46, .aload_n 0, 1, 0, 0), (47, .getfield 278, 3, 6, 35), (50, .aload_n 0, 1, 0, 0), (51, .getfield 477, 3, 6, 32), (54, .dup2, 1, 0, 0), (55, .iaload, 1, 0, 0), (56, .iload_n 1, 1, 0, 0), (57, .iadd, 1, 0, 0), (58, .iastore, 1, 0, 0), (59, .return_, 1, 0, 0)]
abbrev ab_m168 : ab_M := (10, ({ cls := "CodeSmithModel", name := "gap", desc := "(I)V" } : Jvm.MethodName), prog_9_method_57_code, 3, (Option.none : Option Jvm.ClassFile.FieldType), 1, 1427)
/-- CodeSmithModel.constant(I)V -/
def ab_c169 : List ab_I := [(0, .aload_n 0, 1, 0, 0), (1, .getfield 358, 3, 6, 20), (4, .iconst 1, 1, 0, 0), (5, .if_icmp .eq 12, 3, 17, 0), (8, .aload_n 0, 1, 0, 0), (9, .iconst 1, 1, 0, 0), (10, .aload_n 0, 1, 0, 0), (11, .getfield 349, 3, 6, 21), (14, .invokevirtual 342, 3, 131, 2), (17, .aload_n 0, 1, 0, 0), (18, .invokevirtual 398, 3, 130, 0), (21, .aload_n 0, 1, 0, 0), (22, .getfield 349, 3, 6, 21), (25, .istore_n 2, 1, 0, 0), (26, .aload_n 0, 1, 0, 0), (27, .getfield 322, 3, 6, 18), (30, .aload_n 0, 1, 0, 0), (31, .getfield 349, 3, 6, 21), (34, .isub, 1, 0, 0), (35, .istore_n 3, 1, 0, 0), (36, .iload_n 1, 1, 0, 0), (37, .bipush 81, 2, 0, 0), (39, .if_icmp .ne 7, 3, 46, 0), (42, .aload_n 0, 1, 0, 0), (43, .invokevirtual 539, 3, 132, 0), (46, .aload_n 0, 1, 0, 0), (47, .getfield 307, 3, 6, 11), (50, .ifCond .ne 7, 3, 57, 0), (53, .aload_n 0, 1, 0, 0), (54, .invokevirtual 387, 3, 117, 0), (57, .iload_n 1, 1, 0, 0), (58, .bipush 82, 2, 0, 0), (60, .if_icmp .ne 4, 3, 64, 0), (63, .return_, 1, 0, 0), (64, .aload_n 0, 1, 0, 0), (65, .bipush 44, 2, 0, 0), (67, .invokevirtual 495, 3, 141, 1), (70, .aload_n 0, 1, 0, 0), (71, .iconst 1, 1, 0, 0), (72, .iload_n 2, 1, 0, 0), (73, .iload_n 3, 1, 0, 0), (74, .aload_n 0, 1, 0, 0), (75, .getfield 307, 3, 6, 11), (78, .ifCond .ne 11, 3, 89, 0), (81, .aload_n 0, 1, 0, 0), (82, .iconst 0, 1, 0, 0), (83, .invokevirtual 473, 3, 146, 1), (86, .goto 4, 3, 90, 0), (89, .iconst 0, 1, 0, 0), (90, .invokevirtual 542, 3, 137, 4), (93, .return_, 1, 0, 0)]
abbrev ab_m169 : ab_M := (10, ({ cls := "CodeSmithModel", name := "constant", desc := "(I)V" } : Jvm.MethodName), prog_9_method_58_code, 4, (Option.none : Option Jvm.ClassFile.FieldType), 1, 1431)
def ab_pr25 : List (ab_M × List ab_I) := [(ab_m168, ab_c168), (ab_m169, ab_c169)]
set_option maxRecDepth 1000000 in
theorem ab_pr25_ok : ab_pr25.all ab_mok = true := sorry

abbrev ab_m170 : ab_M := (10, ({ cls := "CodeSmithModel", name := "build", desc := "()V" } : Jvm.MethodName), prog_9_method_65_code, 4, (Option.none : Option Jvm.ClassFile.FieldType), 0, 1435)
def ab_c170_0 : List ab_I := [(0, .aload_n 0, 1, 0, 0), (1, .getfield 278, 3, 6, 35), (4, .iconst 1, 1, 0, 0), (5, .iaload, 1, 0, 0), (6, .ifCond .le 7, 3, 13, 0), (9, .iconst 2, 1, 0, 0), (10, .goto 4, 3, 14, 0), (13, .iconst 1, 1, 0, 0), (14, .istore_n 1, 1, 0, 0), (15, .bipush 52, 2, 0, 0), (17, .bipush 32, 2, 0, 0), (19, .iload_n 1, 1, 0, 0), (20, .imul, 1, 0, 0), (21, .iadd, 1, 0, 0), (22, .istore_n 2, 1, 0, 0), (23, .iconst 0, 1, 0, 0), (24, .istore_n 3, 1, 0, 0), (25, .iload_n 3, 1, 0, 0), (26, .bipush 13, 2, 0, 0), (28, .if_icmp .ge 105, 3, 133, 0), (31, .aload_n 0, 1, 0, 0), (32, .iconst 4, 1, 0, 0), (33, .iload_n 3, 1, 0, 0), (34, .imul, 1, 0, 0), (35, .iload_n 3, 1, 0, 0), (36, .ifCond .ne 9, 3, 45, 0), (39, .ldc_w 569, 3, 1179403647, 0), (42, .goto 81, 3, 123, 0), (45, .iload_n 3, 1, 0, 0), (46, .iconst 1, 1, 0, 0), (47, .if_icmp .ne 9, 3, 56, 0), (50, .ldc_w 570, 3, 65793, 0), (53, .goto 70, 3, 123, 0), (56, .iload_n 3, 1, 0, 0), (57, .iconst 4, 1, 0, 0), (58, .if_icmp .ne 9, 3, 67, 0), (61, .ldc_w 571, 3, 15925250, 0), (64, .goto 59, 3, 123, 0), (67, .iload_n 3, 1, 0, 0), (68, .iconst 5, 1, 0, 0), (69, .if_icmp .ne 7, 3, 76, 0), (72, .iconst 1, 1, 0, 0), (73, .goto 50, 3, 123, 0), (76, .iload_n 3, 1, 0, 0), (77, .bipush 6, 2, 0, 0)]
set_option maxRecDepth 1000000 in
theorem ab_c170_0_ok : ab_c170_0.all (ab_eok 10 prog_9_method_65_code) = true := sorry
def ab_c170_1 : List ab_I := [(79, .if_icmp .ne 10, 3, 89, 0), (82, .aload_n 0, 1, 0, 0), (83, .invokevirtual 572, 3, 171, 0), (86, .goto 37, 3, 123, 0), (89, .iload_n 3, 1, 0, 0), (90, .bipush 7, 2, 0, 0), (92, .if_icmp .ne 8, 3, 100, 0), (95, .bipush 52, 2, 0, 0), (97, .goto 26, 3, 123, 0), (100, .iload_n 3, 1, 0, 0), (101, .bipush 10, 2, 0, 0), (103, .if_icmp .ne 9, 3, 112, 0), (106, .ldc_w 575, 3, 2097204, 0), (109, .goto 14, 3, 123, 0), (112, .iload_n 3, 1, 0, 0), (113, .bipush 11, 2, 0, 0), (115, .if_icmp .ne 7, 3, 122, 0), (118, .iload_n 1, 1, 0, 0), (119, .goto 4, 3, 123, 0), (122, .iconst 0, 1, 0, 0), (123, .iconst 4, 1, 0, 0), (124, .invokevirtual 563, 3, 172, 3), (127, .iinc 3 1, 3, 0, 0), (130, .goto (-105), 3, 25, 0), (133, .aload_n 0, 1, 0, 0), (134, .iconst 0, 1, 0, 0), (135, .iload_n 2, 1, 0, 0), (136, .iconst 0, 1, 0, 0), (137, .aload_n 0, 1, 0, 0), (138, .getfield 278, 3, 6, 35), (141, .iconst 0, 1, 0, 0), (142, .iaload, 1, 0, 0), (143, .iconst 5, 1, 0, 0), (144, .invokevirtual 576, 3, 173, 5), (147, .iload_n 1, 1, 0, 0), (148, .iconst 2, 1, 0, 0), (149, .if_icmp .ne 28, 3, 177, 0), (152, .aload_n 0, 1, 0, 0), (153, .iconst 1, 1, 0, 0), (154, .iload_n 2, 1, 0, 0), (155, .aload_n 0, 1, 0, 0), (156, .getfield 278, 3, 6, 35), (159, .iconst 0, 1, 0, 0), (160, .iaload, 1, 0, 0), (161, .iadd, 1, 0, 0)]
set_option maxRecDepth 1000000 in
theorem ab_c170_1_ok : ab_c170_1.all (ab_eok 10 prog_9_method_65_code) = true := sorry
def ab_c170_2 : List ab_I := [(162, .aload_n 0, 1, 0, 0), (163, .getfield 418, 3, 6, 34), (166, .aload_n 0, 1, 0, 0), (167, .getfield 278, 3, 6, 35), (170, .iconst 1, 1, 0, 0), (171, .iaload, 1, 0, 0), (172, .bipush 6, 2, 0, 0), (174, .invokevirtual 576, 3, 173, 5), (177, .aload_n 0, 1, 0, 0), (178, .aload_n 0, 1, 0, 0), (179, .getfield 278, 3, 6, 35), (182, .iconst 0, 1, 0, 0), (183, .iaload, 1, 0, 0), (184, .putfield 580, 3, 6, 8), (187, .aload_n 0, 1, 0, 0), (188, .aload_n 0, 1, 0, 0), (189, .getfield 278, 3, 6, 35), (192, .iconst 1, 1, 0, 0), (193, .iaload, 1, 0, 0), (194, .putfield 583, 3, 6, 9), (197, .iconst 0, 1, 0, 0), (198, .istore_n 3, 1, 0, 0), (199, .iload_n 3, 1, 0, 0), (200, .aload_n 0, 1, 0, 0), (201, .getfield 580, 3, 6, 8), (204, .aload_n 0, 1, 0, 0), (205, .getfield 583, 3, 6, 9), (208, .iadd, 1, 0, 0), (209, .if_icmp .ge 49, 3, 258, 0), (212, .aload_n 0, 1, 0, 0), (213, .getfield 257, 3, 6, 6), (216, .iload_n 2, 1, 0, 0), (217, .iload_n 3, 1, 0, 0), (218, .iadd, 1, 0, 0), (219, .iload_n 3, 1, 0, 0), (220, .aload_n 0, 1, 0, 0), (221, .getfield 580, 3, 6, 8), (224, .if_icmp .ge 12, 3, 236, 0), (227, .aload_n 0, 1, 0, 0), (228, .getfield 282, 3, 6, 36), (231, .iload_n 3, 1, 0, 0), (232, .baload, 1, 0, 0), (233, .goto 18, 3, 251, 0), (236, .aload_n 0, 1, 0, 0), (237, .getfield 282, 3, 6, 36)]
set_option maxRecDepth 1000000 in
theorem ab_c170_2_ok : ab_c170_2.all (ab_eok 10 prog_9_method_65_code) = true := sorry
def ab_c170_3 : List ab_I := [(240, .ldc_w 476, 3, 65420, 0), (243, .iload_n 3, 1, 0, 0), (244, .iadd, 1, 0, 0), (245, .aload_n 0, 1, 0, 0), (246, .getfield 580, 3, 6, 8), (249, .isub, 1, 0, 0), (250, .baload, 1, 0, 0), (251, .bastore, 1, 0, 0), (252, .iinc 3 1, 3, 0, 0), (255, .goto (-56), 3, 199, 0), (258, .aload_n 0, 1, 0, 0), (259, .iload_n 2, 1, 0, 0), (260, .aload_n 0, 1, 0, 0), (261, .getfield 580, 3, 6, 8), (264, .iadd, 1, 0, 0), (265, .aload_n 0, 1, 0, 0), (266, .getfield 583, 3, 6, 9), (269, .iadd, 1, 0, 0), (270, .putfield 586, 3, 6, 7), (273, .aload_n 0, 1, 0, 0), (274, .aload_n 0, 1, 0, 0), (275, .getfield 405, 3, 6, 26), (278, .putfield 589, 3, 6, 10), (281, .return_, 1, 0, 0)]
set_option maxRecDepth 1000000 in
theorem ab_c170_3_ok : ab_c170_3.all (ab_eok 10 prog_9_method_65_code) = true := sorry
/-- CodeSmithModel.build()V -/
def ab_c170 : List ab_I := ab_c170_0 ++ (ab_c170_1 ++ (ab_c170_2 ++ (ab_c170_3)))
def ab_pr26 : List (ab_M × List ab_I) := [(ab_m170, ab_c170)]
set_option maxRecDepth 1000000 in
theorem ab_m170_w : lw_tbl[1435]? = some (.code ({ cls := "CodeSmithModel", name := "build", desc := "()V" } : Jvm.MethodName) prog_9_method_65_code 4 (Option.none : Option Jvm.ClassFile.FieldType)) := rfl
set_option maxRecDepth 1000000 in
theorem ab_m170_h : ab_hok ab_m170 = true := sorry
theorem ab_c170_all : ab_c170.all (ab_eok 10 prog_9_method_65_code) = true := sorry
theorem ab_pr26_ok : ab_pr26.all ab_mok = true := sorry

/-- CodeSmithModel.entry()I -/
def ab_c171 : List ab_I := [(0, .iconst 0, 1, 0, 0), (1, .istore_n 1, 1, 0, 0), (2, .iconst 0, 1, 0, 0), (3, .istore_n 2, 1, 0, 0), (4, .iload_n 2, 1, 0, 0), (5, .aload_n 0, 1, 0, 0), (6, .getfield 405, 3, 6, 26), (9, .if_icmp .ge 87, 3, 96, 0), (12, .aload_n 0, 1, 0, 0), (13, .getfield 266, 3, 6, 28), (16, .iload_n 2, 1, 0, 0), (17, .iaload, 1, 0, 0), (18, .iconst 5, 1, 0, 0), (19, .if_icmp .ne 35, 3, 54, 0), (22, .aload_n 0, 1, 0, 0), (23, .getfield 269, 3, 6, 29), (26, .iload_n 2, 1, 0, 0), (27, .iaload, 1, 0, 0), (28, .iconst 1, 1, 0, 0), (29, .if_icmp .le 25, 3, 54, 0), (32, .aload_n 0, 1, 0, 0), (33, .aload_n 0, 1, 0, 0), (34, .getfield 263, 3, 6, 27), (37, .iload_n 2, 1, 0, 0), (38, .iaload, 1, 0, 0), (39, .iconst 5, 1, 0, 0), (40, .invokevirtual 390, 3, 136, 2), (43, .ldc2_w 567, 3, 495873782388, 0), (46, .lcmp, 1, 0, 0), (47, .ifCond .ne 7, 3, 54, 0), (50, .iconst 1, 1, 0, 0), (51, .goto 4, 3, 55, 0), (54, .iconst 0, 1, 0, 0), (55, .istore_n 3, 1, 0, 0), (56, .iload_n 3, 1, 0, 0), (57, .ifCond .eq 31, 3, 88, 0), (60, .aload_n 0, 1, 0, 0), (61, .getfield 272, 3, 6, 30), (64, .iload_n 2, 1, 0, 0), (65, .iaload, 1, 0, 0), (66, .aload_n 0, 1, 0, 0), (67, .getfield 269, 3, 6, 29), (70, .iload_n 2, 1, 0, 0), (71, .iaload, 1, 0, 0), (72, .iconst 3, 1, 0, 0), (73, .if_icmp .ne 10, 3, 83, 0), (76, .aload_n 0, 1, 0, 0), (77, .getfield 418, 3, 6, 34), (80, .goto 4, 3, 84, 0), (83, .iconst 0, 1, 0, 0), (84, .iadd, 1, 0, 0), (85, .goto 4, 3, 89, 0), (88, .iload_n 1, 1, 0, 0), (89, .istore_n 1, 1, 0, 0), (90, .iinc 2 1, 3, 0, 0), (93, .goto (-89), 3, 4, 0), (96, .iload_n 1, 1, 0, 0), (97, .ireturn, 1, 0, 0)]
abbrev ab_m171 : ab_M := (10, ({ cls := "CodeSmithModel", name := "entry", desc := "()I" } : Jvm.MethodName), prog_9_method_64_code, 4, (Option.some Jvm.ClassFile.FieldType.int), 0, 1442)
/-- CodeSmithModel.lay(III)V -/
def ab_c172 : List ab_I := [(0, .iconst 0, 1, 0, 0), (1, .istore 4, 2, 0, 0), (3, .iload 4, 2, 0, 0), (5, .iload_n 3, 1, 0, 0), (6, .if_icmp .ge 26, 3, 32, 0), (9, .aload_n 0, 1, 0, 0), (10, .getfield 257, 3, 6, 6), (13, .iload_n 1, 1, 0, 0), (14, .iload 4, 2, 0, 0), (16, .iadd, 1, 0, 0), (17, .iload_n 2, 1, 0, 0), (18, .bipush 8, 2, 0, 0), (20, .iload 4, 2, 0, 0), (22, .imul, 1, 0, 0), (23, .ishr, 1, 0, 0), (24, .i2b, 1, 0, 0), (25, .bastore, 1, 0, 0), (26, .iinc 4 1, 3, 0, 0), (29, .goto (-26), 3, 3, 0), (32, .return_, 1, 0, 0)]
abbrev ab_m172 : ab_M := (10, ({ cls := "CodeSmithModel", name := "lay", desc := "(III)V" } : Jvm.MethodName), prog_9_method_62_code, 5, (Option.none : Option Jvm.ClassFile.FieldType), 3, 1448)
/-- CodeSmithModel.part(IIIII)V -/
def ab_c173 : List ab_I := [(0, .iconst 0, 1, 0, 0), (1, .istore 6, 2, 0, 0), (3, .iload 6, 2, 0, 0), (5, .bipush 8, 2, 0, 0), (7, .if_icmp .ge 82, 3, 89, 0), (10, .aload_n 0, 1, 0, 0), (11, .bipush 52, 2, 0, 0), (13, .bipush 32, 2, 0, 0), (15, .iload_n 1, 1, 0, 0), (16, .imul, 1, 0, 0), (17, .iadd, 1, 0, 0), (18, .iconst 4, 1, 0, 0), (19, .iload 6, 2, 0, 0), (21, .imul, 1, 0, 0), (22, .iadd, 1, 0, 0), (23, .iload 6, 2, 0, 0), (25, .ifCond .ne 7, 3, 32, 0), (28, .iconst 1, 1, 0, 0), (29, .goto 50, 3, 79, 0), (32, .iload 6, 2, 0, 0), (34, .iconst 1, 1, 0, 0), (35, .if_icmp .ne 7, 3, 42, 0), (38, .iload_n 2, 1, 0, 0), (39, .goto 40, 3, 79, 0), (42, .iload 6, 2, 0, 0), (44, .iconst 4, 1, 0, 0), (45, .if_icmp .ge 7, 3, 52, 0), (48, .iload_n 3, 1, 0, 0), (49, .goto 30, 3, 79, 0), (52, .iload 6, 2, 0, 0), (54, .bipush 6, 2, 0, 0), (56, .if_icmp .ge 8, 3, 64, 0), (59, .iload 4, 2, 0, 0), (61, .goto 18, 3, 79, 0), (64, .iload 6, 2, 0, 0), (66, .bipush 6, 2, 0, 0), (68, .if_icmp .ne 8, 3, 76, 0), (71, .iload 5, 2, 0, 0), (73, .goto 6, 3, 79, 0), (76, .sipush 4096, 3, 0, 0), (79, .iconst 4, 1, 0, 0), (80, .invokevirtual 563, 3, 172, 3), (83, .iinc 6 1, 3, 0, 0), (86, .goto (-83), 3, 3, 0), (89, .return_, 1, 0, 0)]
abbrev ab_m173 : ab_M := (10, ({ cls := "CodeSmithModel", name := "part", desc := "(IIIII)V" } : Jvm.MethodName), prog_9_method_63_code, 7, (Option.none : Option Jvm.ClassFile.FieldType), 5, 1452)
/-- CodeSmithModel.error(I)I -/
def ab_c174 : List ab_I := [(0, .aload_n 0, 1, 0, 0), (1, .iconst 0, 1, 0, 0), (2, .putfield 300, 3, 6, 3), (5, .aload_n 0, 1, 0, 0), (6, .getfield 307, 3, 6, 11), (9, .ifCond .ne 7, 3, 16, 0), (12, .iconst 0, 1, 0, 0), (13, .goto 39, 3, 52, 0), (16, .iload_n 1, 1, 0, 0), (17, .ifCond .ne 10, 3, 27, 0), (20, .aload_n 0, 1, 0, 0), (21, .getfield 319, 3, 6, 13), (24, .goto 28, 3, 52, 0), (27, .iload_n 1, 1, 0, 0), (28, .iconst 1, 1, 0, 0), (29, .if_icmp .ne 10, 3, 39, 0), (32, .aload_n 0, 1, 0, 0), (33, .getfield 313, 3, 6, 12), (36, .goto 16, 3, 52, 0), (39, .iload_n 1, 1, 0, 0), (40, .iconst 2, 1, 0, 0), (41, .if_icmp .ne 10, 3, 51, 0), (44, .aload_n 0, 1, 0, 0), (45, .getfield 307, 3, 6, 11), (48, .goto 4, 3, 52, 0), (51, .iconst 0, 1, 0, 0), (52, .ireturn, 1, 0, 0)]
abbrev ab_m174 : ab_M := (10, ({ cls := "CodeSmithModel", name := "error", desc := "(I)I" } : Jvm.MethodName), prog_9_method_67_code, 2, (Option.some Jvm.ClassFile.FieldType.int), 1, 1456)
/-- CodeSmithModel.image(I)I -/
def ab_c175 : List ab_I := [(0, .aload_n 0, 1, 0, 0), (1, .iconst 0, 1, 0, 0), (2, .putfield 300, 3, 6, 3), (5, .iload_n 1, 1, 0, 0), (6, .ifCond .lt 24, 3, 30, 0), (9, .iload_n 1, 1, 0, 0), (10, .aload_n 0, 1, 0, 0), (11, .getfield 586, 3, 6, 7), (14, .if_icmp .ge 16, 3, 30, 0), (17, .aload_n 0, 1, 0, 0), (18, .getfield 257, 3, 6, 6), (21, .iload_n 1, 1, 0, 0), (22, .baload, 1, 0, 0), (23, .sipush 255, 3, 0, 0), (26, .iand, 1, 0, 0), (27, .goto 4, 3, 31, 0), (30, .iconst (-1), 1, 0, 0), (31, .ireturn, 1, 0, 0)]
abbrev ab_m175 : ab_M := (10, ({ cls := "CodeSmithModel", name := "image", desc := "(I)I" } : Jvm.MethodName), prog_9_method_68_code, 2, (Option.some Jvm.ClassFile.FieldType.int), 1, 1460)
/-- CodeSmithModel.about(I)I -/
def ab_c176 : List ab_I := [(0, .aload_n 0, 1, 0, 0), (1, .iconst 0, 1, 0, 0), (2, .putfield 300, 3, 6, 3), (5, .iload_n 1, 1, 0, 0), (6, .ifCond .lt 8, 3, 14, 0), (9, .iload_n 1, 1, 0, 0), (10, .iconst 3, 1, 0, 0), (11, .if_icmp .le 7, 3, 18, 0), (14, .iconst (-1), 1, 0, 0), (15, .goto 53, 3, 68, 0), (18, .aload_n 0, 1, 0, 0), (19, .getfield 586, 3, 6, 7), (22, .ifCond .ne 7, 3, 29, 0), (25, .iconst 0, 1, 0, 0), (26, .goto 42, 3, 68, 0), (29, .iload_n 1, 1, 0, 0), (30, .ifCond .ne 10, 3, 40, 0), (33, .aload_n 0, 1, 0, 0), (34, .getfield 586, 3, 6, 7), (37, .goto 31, 3, 68, 0), (40, .iload_n 1, 1, 0, 0), (41, .iconst 1, 1, 0, 0), (42, .if_icmp .ne 10, 3, 52, 0), (45, .aload_n 0, 1, 0, 0), (46, .getfield 580, 3, 6, 8), (49, .goto 19, 3, 68, 0), (52, .iload_n 1, 1, 0, 0), (53, .iconst 2, 1, 0, 0), (54, .if_icmp .ne 10, 3, 64, 0), (57, .aload_n 0, 1, 0, 0), (58, .getfield 583, 3, 6, 9), (61, .goto 7, 3, 68, 0), (64, .aload_n 0, 1, 0, 0), (65, .getfield 589, 3, 6, 10), (68, .ireturn, 1, 0, 0)]
abbrev ab_m176 : ab_M := (10, ({ cls := "CodeSmithModel", name := "about", desc := "(I)I" } : Jvm.MethodName), prog_9_method_69_code, 2, (Option.some Jvm.ClassFile.FieldType.int), 1, 1464)
def ab_pr27 : List (ab_M × List ab_I) := [(ab_m171, ab_c171), (ab_m172, ab_c172), (ab_m173, ab_c173), (ab_m174, ab_c174), (ab_m175, ab_c175), (ab_m176, ab_c176)]
set_option maxRecDepth 1000000 in
theorem ab_pr27_ok : ab_pr27.all ab_mok = true := sorry

def ab_prog : List (ab_M × List ab_I) := ab_pr0 ++ (ab_pr1 ++ (ab_pr2 ++ (ab_pr3 ++ (ab_pr4 ++ (ab_pr5 ++ (ab_pr6 ++ (ab_pr7 ++ (ab_pr8 ++ (ab_pr9 ++ (ab_pr10 ++ (ab_pr11 ++ (ab_pr12 ++ (ab_pr13 ++ (ab_pr14 ++ (ab_pr15 ++ (ab_pr16 ++ (ab_pr17 ++ (ab_pr18 ++ (ab_pr19 ++ (ab_pr20 ++ (ab_pr21 ++ (ab_pr22 ++ (ab_pr23 ++ (ab_pr24 ++ (ab_pr25 ++ (ab_pr26 ++ (ab_pr27)))))))))))))))))))))))))))
theorem ab_prog_ok : ab_prog.all ab_mok = true := by
  simp only [ab_prog, List.all_append, ab_pr0_ok, ab_pr1_ok, ab_pr2_ok, ab_pr3_ok, ab_pr4_ok, ab_pr5_ok, ab_pr6_ok, ab_pr7_ok, ab_pr8_ok, ab_pr9_ok, ab_pr10_ok, ab_pr11_ok, ab_pr12_ok, ab_pr13_ok, ab_pr14_ok, ab_pr15_ok, ab_pr16_ok, ab_pr17_ok, ab_pr18_ok, ab_pr19_ok, ab_pr20_ok, ab_pr21_ok, ab_pr22_ok, ab_pr23_ok, ab_pr24_ok, ab_pr25_ok, ab_pr26_ok, ab_pr27_ok, Bool.and_self]
end
section
/-! THE ABSTRACT MACHINE, its second third: the heap. Cell i lies at N0 + i. An array: (its type: 0 byte, 1 int, 2 long; its length; what it holds); an object: (its number in ab_cl; its fields). -/
abbrev ab_C : Type := (Nat × vp_A) ⊕ (Nat × List Value)
abbrev ab_H : Type := List ab_C
def ab_E (cA : Nat → ClassId) (N0 : Nat) (adS : Nat → Nat) (x : ab_C) : va_E := match x with
  | .inl a => .inl (cA a.1, a.2)
  | .inr o => .inr (o.1, o.2.map (ab_rv N0 adS))
def ab_ws (cA : Nat → ClassId) (N0 : Nat) (adS : Nat → Nat) (h : ab_H) : va_W := h.mapIdx (fun i x => (N0 + i, ab_E cA N0 adS x))
abbrev ab_tys (cA : Nat → ClassId) : List (ClassId × FieldType) := [(cA 0, .byte), (cA 1, .int), (cA 2, .long)]
abbrev ab_A (N0 : Nat) : Nat → Prop := fun q => N0 ≤ q
theorem ab_ws_get (cA : Nat → ClassId) (N0 : Nat) (adS : Nat → Nat) (h : ab_H) (i : Nat) : (ab_ws cA N0 adS h)[i]? = (h[i]?).map (fun x => (N0 + i, ab_E cA N0 adS x)) := by
  simp [ab_ws, List.getElem?_mapIdx]
theorem ab_ws_at {cA : Nat → ClassId} {N0 : Nat} {adS : Nat → Nat} {h : ab_H} {i : Nat} {x : ab_C} (e : h[i]? = some x) : (ab_ws cA N0 adS h)[i]? = some (N0 + i, ab_E cA N0 adS x) := by
  rw [ab_ws_get, e]; rfl
theorem ab_ws_set (cA : Nat → ClassId) (N0 : Nat) (adS : Nat → Nat) (h : ab_H) (i : Nat) (x : ab_C) : (ab_ws cA N0 adS h).set i (N0 + i, ab_E cA N0 adS x) = ab_ws cA N0 adS (h.set i x) := by
  apply List.ext_getElem?
  intro j
  rw [ab_ws_get, List.getElem?_set, List.getElem?_set, ab_ws_get]
  have hl : (ab_ws cA N0 adS h).length = h.length := by simp [ab_ws]
  rw [hl]
  by_cases hj : i = j
  · subst hj
    by_cases hk : i < h.length
    · simp [hk]
    · simp [hk]
  · simp [hj]
theorem ab_ws_push (cA : Nat → ClassId) (N0 : Nat) (adS : Nat → Nat) (h : ab_H) (x : ab_C) : ab_ws cA N0 adS h ++ [(N0 + h.length, ab_E cA N0 adS x)] = ab_ws cA N0 adS (h ++ [x]) := by
  simp [ab_ws, List.mapIdx_append]
theorem ab_ws_D (cA : Nat → ClassId) (N0 : Nat) (adS : Nat → Nat) (h : ab_H) : va_D (ab_A N0) (ab_ws cA N0 adS h) := by
  refine ⟨fun i j p q hp hq e => ?_, fun k q hq => ?_⟩
  · rw [ab_ws_get] at hp hq
    cases h1 : h[i]? with
    | none => rw [h1] at hp; cases hp
    | some x =>
      cases h2 : h[j]? with
      | none => rw [h2] at hq; cases hq
      | some y =>
        rw [h1] at hp; rw [h2] at hq
        cases hp; cases hq
        have e : N0 + i = N0 + j := e
        omega
  · rw [ab_ws_get] at hq
    cases h1 : h[k]? with
    | none => rw [h1] at hq; cases hq
    | some x => rw [h1] at hq; cases hq; exact Nat.le_add_right _ _
/-- the heap H holds the abstract heap h -/
def ab_Wd (D : va_G) (cA : Nat → ClassId) (N0 : Nat) (adS : Nat → Nat) (h : ab_H) (H : Heap) : Prop := va_P D ab_cl (ab_ws cA N0 adS h) H
def ab_sz1 (x : ab_C) : Nat := match x with
  | .inl a => a.2.1
  | .inr o => if o.1 = 7 then 6 else o.2.length
def ab_sz (h : ab_H) : Nat := (h.map ab_sz1).sum
def ab_fit (ty : FieldType) (v : Value) : Bool := match ty, v with
  | .int, .int _ => true
  | .long, .long _ => true
  | .boolean, .int x => x == 0 || x == 1
  | .object _, .null => true
  | .object _, .ref _ => true
  | .object _, .retAddr _ => true
  | .array _, .null => true
  | .array _, .ref _ => true
  | .array _, .retAddr _ => true
  | _, _ => false
theorem ab_fit_ok {N0 : Nat} {adS : Nat → Nat} {ty : FieldType} {v : Value} (h : ab_fit ty v = true) : narrow ty (ab_rv N0 adS v) = ab_rv N0 adS v ∧ fits ty (ab_rv N0 adS v) = true := by
  cases ty <;> cases v <;> first | exact absurd h Bool.false_ne_true | exact ⟨rfl, rfl⟩ | skip
  case boolean.int x =>
    simp only [ab_fit, Bool.or_eq_true, beq_iff_eq] at h
    rcases h with rfl | rfl
    · exact ⟨show narrow .boolean (.int 0) = .int 0 by decide, show fits .boolean (.int 0) = true by decide⟩
    · exact ⟨show narrow .boolean (.int 1) = .int 1 by decide, show fits .boolean (.int 1) = true by decide⟩
def ab_fin (ci k : Nat) : Bool := match ab_cl[ci]? with
  | some C => (C.2.1 k).2.2.2
  | none => true
def ab_cn (ci : Nat) : String := match ab_cl[ci]? with
  | some C => C.1
  | none => ""
def ab_fget (ci k : Nat) (h : ab_H) (st : List Value) : Option (List Value) := match st with
  | .ref i :: r => match h[i]? with
    | some (.inr o) => if o.1 = ci ∧ ci < 7 then (match o.2[k]? with | some v => some (v :: r) | none => none) else none
    | _ => none
  | _ => none
def ab_fput (ini : Bool) (own : String) (ci k : Nat) (h : ab_H) (st : List Value) : Option (List Value × ab_H) := match st with
  | v :: .ref i :: r => match h[i]? with
    | some (.inr o) => if o.1 = ci ∧ ci < 7 ∧ k < o.2.length ∧ ab_fit (ab_ty ci k) v = true ∧ (ab_fin ci k = false ∨ (ini = true ∧ ab_cn ci = own)) then some (r, h.set i (.inr (o.1, o.2.set k v))) else none
    | _ => none
  | _ => none
def ab_alen (h : ab_H) (st : List Value) : Option (List Value) := match st with
  | .ref i :: r => match h[i]? with
    | some (.inl a) => if a.1 < 3 then some (.int (Int32.ofNat a.2.1) :: r) else none
    | _ => none
  | _ => none
def ab_ald (t : Nat) (h : ab_H) (st : List Value) : Option (List Value) := match st with
  | .int j :: .ref i :: r => match h[i]? with
    | some (.inl (t', n, .inl f)) => if t' = t ∧ ¬ (j < 0 ∨ n ≤ j.toNatClampNeg) then some (.int (f j.toNatClampNeg) :: r) else none
    | _ => none
  | _ => none
def ab_lald (h : ab_H) (st : List Value) : Option (List Value) := match st with
  | .int j :: .ref i :: r => match h[i]? with
    | some (.inl (t', n, .inr (.inl f))) => if t' = 2 ∧ ¬ (j < 0 ∨ n ≤ j.toNatClampNeg) then some (.long (f j.toNatClampNeg) :: r) else none
    | _ => none
  | _ => none
def ab_ast (t : Nat) (h : ab_H) (st : List Value) : Option (List Value × ab_H) := match st with
  | .int x :: .int j :: .ref i :: r => match h[i]? with
    | some (.inl (t', n, .inl f)) => if t' = t ∧ ¬ (j < 0 ∨ n ≤ j.toNatClampNeg) then some (r, h.set i (.inl (t', n, .inl (upd f j.toNatClampNeg (if t = 0 then x.toInt8.toInt32 else x))))) else none
    | _ => none
  | _ => none
def ab_last (h : ab_H) (st : List Value) : Option (List Value × ab_H) := match st with
  | .long x :: .int j :: .ref i :: r => match h[i]? with
    | some (.inl (t', n, .inr (.inl f))) => if t' = 2 ∧ ¬ (j < 0 ∨ n ≤ j.toNatClampNeg) then some (r, h.set i (.inl (t', n, .inr (.inl (vp_updL f j.toNatClampNeg x))))) else none
    | _ => none
  | _ => none
def ab_dfl (ci : Nat) : List Value := match ab_cl[ci]? with
  | some C => (List.range C.2.2).map (fun k => defaultValue (ab_ty ci k))
  | none => []
def ab_nw (ci : Nat) (h : ab_H) (st : List Value) : Option (List Value × ab_H) := if ci < 7 then some (.ref h.length :: st, h ++ [.inr (ci, ab_dfl ci)]) else none
def ab_at (a : ArrayType) : Nat := match a with
  | .byte => 0
  | .int => 1
  | .long => 2
  | _ => 3
def ab_a0 (t n : Nat) : ab_C := if t = 2 then .inl (2, n, .inr (.inl (fun _ => 0))) else .inl (t, n, .inl (fun _ => 0))
def ab_nwa (a : ArrayType) (h : ab_H) (st : List Value) : Option (List Value × ab_H) := match st with
  | .int n :: r => if ab_at a < 3 ∧ ¬ n < 0 ∧ n.toNatClampNeg ≤ 1000000 then some (.ref h.length :: r, h ++ [ab_a0 (ab_at a) n.toNatClampNeg]) else none
  | _ => none
/-- steps on the heap (a, b: the pool's answer) -/
def ab_hp (ini : Bool) (own : String) (i : Instr) (a b : Nat) (h : ab_H) (st : List Value) : Option (List Value × ab_H) := match i with
  | .getfield _ => (ab_fget a b h st).map (fun q => (q, h))
  | .putfield _ => ab_fput ini own a b h st
  | .arraylength => (ab_alen h st).map (fun q => (q, h))
  | .iaload => (ab_ald 1 h st).map (fun q => (q, h))
  | .baload => (ab_ald 0 h st).map (fun q => (q, h))
  | .laload => (ab_lald h st).map (fun q => (q, h))
  | .iastore => ab_ast 1 h st
  | .bastore => ab_ast 0 h st
  | .lastore => ab_last h st
  | .new _ => ab_nw a h st
  | .newarray t => ab_nwa t h st
  | _ => none
end
section
/-! What the tables say of the classes, the pools' rows, and: the machine follows the heap steps. -/
def ab_clw : Bool := ab_cl.all (fun C => (u_ws C.1 C.2.1 C.2.2).all (fun w => decide (w ∈ lw_tbl) && goodWord w))
set_option maxRecDepth 1000000 in
theorem ab_clw_ok : ab_clw = true := by decide +kernel
theorem ab_cl_in {ci : Nat} {C : vw_C} (h : ab_cl[ci]? = some C) : ∀ w ∈ u_ws C.1 C.2.1 C.2.2, w ∈ ab_T := by
  intro w hw
  have h1 := List.all_eq_true.mp ab_clw_ok C (List.mem_of_getElem? h)
  have h2 := List.all_eq_true.mp h1 w hw
  rw [Bool.and_eq_true] at h2
  exact List.mem_filter.mpr ⟨of_decide_eq_true h2.1, h2.2⟩
theorem ab_cl_nm {ci : Nat} {C : vw_C} (h : ab_cl[ci]? = some C) : ∀ a, a < C.2.2 → ∀ b, b < C.2.2 → a ≠ b → (C.2.1 a).2.1 ≠ (C.2.1 b).2.1 := by
  match ci, h with
  | 0, h => cases h; exact nmX0
  | 1, h => cases h; exact nmX1
  | 2, h => cases h; exact nmX2
  | 3, h => cases h; exact nmX4
  | 4, h => cases h; exact nmX5
  | 5, h => cases h; exact nmX6
  | 6, h => cases h; exact nmX7
  | 7, h => cases h; exact fun a ha => absurd ha (Nat.not_lt_zero _)
  | n + 8, h => simp at h
theorem ab_cl_ty {ci : Nat} {C : vw_C} (h : ab_cl[ci]? = some C) : ∀ k, k < C.2.2 → parseFieldDescriptor (C.2.1 k).2.2.1 = some (ab_ty ci k) := by
  match ci, h with
  | 0, h => cases h; exact tyX0_ok
  | 1, h => cases h; exact tyX1_ok
  | 2, h => cases h; exact tyX2_ok
  | 3, h => cases h; exact tyX4_ok
  | 4, h => cases h; exact tyX5_ok
  | 5, h => cases h; exact tyX6_ok
  | 6, h => cases h; exact tyX7_ok
  | 7, h => cases h; exact fun a ha => absurd ha (Nat.not_lt_zero _)
  | n + 8, h => simp at h
theorem ab_dcw : ab_cl.all (fun C => (List.range C.2.2).all (fun k => decide ((C.2.1 k).1 = C.1))) = true := by decide +kernel
theorem ab_cl_dc {ci : Nat} {C : vw_C} (h : ab_cl[ci]? = some C) (k : Nat) (hk : k < C.2.2) : (C.2.1 k).1 = C.1 := by
  have h1 := List.all_eq_true.mp ab_dcw C (List.mem_of_getElem? h)
  exact of_decide_eq_true (List.all_eq_true.mp h1 k (List.mem_range.mpr hk))
def ab_insw : Bool := (List.range 7).all (fun ci => match ab_cl[ci]? with
  | some C => decide (Cond.instantiable C.1 C.2.2 ∈ lw_tbl) && decide (Cond.initialized C.1 ∈ lw_tbl) && goodWord (Cond.instantiable C.1 C.2.2) && goodWord (Cond.initialized C.1)
  | none => false)
set_option maxRecDepth 1000000 in
theorem ab_insw_ok : ab_insw = true := by decide +kernel
theorem ab_cl_ins {ci : Nat} {C : vw_C} (hc : ci < 7) (h : ab_cl[ci]? = some C) : Cond.instantiable C.1 C.2.2 ∈ ab_T ∧ Cond.initialized C.1 ∈ ab_T := by
  have h1 := List.all_eq_true.mp ab_insw_ok ci (List.mem_range.mpr hc)
  rw [h] at h1
  simp only [Bool.and_eq_true, decide_eq_true_eq] at h1
  exact ⟨List.mem_filter.mpr ⟨h1.1.1.1, h1.1.2⟩, List.mem_filter.mpr ⟨h1.1.1.2, h1.2⟩⟩
set_option maxRecDepth 1000000 in
theorem ab_arrw : (Cond.arrayClass .byte) ∈ lw_tbl ∧ (Cond.arrayClass .int) ∈ lw_tbl ∧ (Cond.arrayClass .long) ∈ lw_tbl := by decide +kernel
/-- the row of an instruction that names a field -/
theorem ab_pf_use {o i a b : Nat} {own : String} (ho : ab_own[o]? = some own) (h : ab_pf.any (fun z => z.1 == o && z.2.1 == i && z.2.2.1 == a && z.2.2.2.1 == b) = true) :
    ∃ C : vw_C, ab_cl[a]? = some C ∧ b < C.2.2 ∧ Cond.fieldLink own i (C.2.1 b).1 (C.2.1 b).2.1 (C.2.1 b).2.2.1 ∈ ab_T := by
  obtain ⟨z, hz, hq⟩ := List.any_eq_true.mp h
  have h1 := List.all_eq_true.mp ab_pf_all z hz
  simp only [Bool.and_eq_true, beq_iff_eq] at hq
  obtain ⟨⟨⟨e1, e2⟩, e3⟩, e4⟩ := hq
  unfold ab_pf_ok at h1
  rw [e1, ho, e3] at h1
  cases hC : ab_cl[a]? with
  | none => rw [hC] at h1; cases h1
  | some C =>
    rw [hC] at h1
    simp only [Bool.and_eq_true, decide_eq_true_eq] at h1
    rw [e2, e4] at h1
    exact ⟨C, rfl, h1.2, ab_T_in h1.1 rfl⟩
def ab_pN_ok (q : Nat × Nat × Nat × Nat) : Bool := match ab_own[q.1]?, ab_cl[q.2.2.1]? with
  | some O, some C => decide (lw_tbl[q.2.2.2]? = some (.classLink O q.2.1 C.1))
  | _, _ => false
set_option maxRecDepth 1000000 in
theorem ab_pN_all : ab_pN.all ab_pN_ok = true := by decide +kernel
theorem ab_pN_use {o i a : Nat} {own : String} (ho : ab_own[o]? = some own) (h : ab_pN.any (fun z => z.1 == o && z.2.1 == i && z.2.2.1 == a) = true) : ∃ C : vw_C, ab_cl[a]? = some C ∧ Cond.classLink own i C.1 ∈ ab_T := by
  obtain ⟨z, hz, hq⟩ := List.any_eq_true.mp h
  have h1 := List.all_eq_true.mp ab_pN_all z hz
  simp only [Bool.and_eq_true, beq_iff_eq] at hq
  obtain ⟨⟨e1, e2⟩, e3⟩ := hq
  unfold ab_pN_ok at h1
  rw [e1, ho, e3] at h1
  cases hC : ab_cl[a]? with
  | none => rw [hC] at h1; cases h1
  | some C =>
    rw [hC] at h1
    rw [e2] at h1
    exact ⟨C, rfl, ab_T_in (of_decide_eq_true h1) rfl⟩
theorem ab_sz_set {h : ab_H} {i : Nat} {x y : ab_C} (e : h[i]? = some x) (hz : ab_sz1 y = ab_sz1 x) : ab_sz (h.set i y) = ab_sz h := by
  unfold ab_sz
  rw [List.map_set, hz]
  congr 1
  apply List.ext_getElem?
  intro j
  rw [List.getElem?_set]
  by_cases hj : i = j
  · subst hj
    obtain ⟨hlt, hxe⟩ := List.getElem?_eq_some_iff.mp e
    simp [hlt, hxe]
  · simp [hj]
theorem ab_sz_push (h : ab_H) (x : ab_C) : ab_sz (h ++ [x]) = ab_sz h + ab_sz1 x := by
  simp [ab_sz]
theorem ab_dfl_len {ci : Nat} {C : vw_C} (h : ab_cl[ci]? = some C) : (ab_dfl ci).length = C.2.2 := by
  unfold ab_dfl
  rw [h]
  simp
section AB7
variable {p : Program} {l : Launch} {e : Env} {R : Room} {s : State} {m : MethodId} {args : Array Value} {below : List Frame} {meth : Method} {c : Code} {H : Heap} {locs : List Loc} {cells slots : Nat} {Q : State → Prop} {cc : ByteArray} {pc : Nat} {ls : Array Slot} {N0 : Nat} {adS : Nat → Nat} {D : va_G} {cA : Nat → ClassId} {h h' : ab_H} {own : String} {Ts : List Cond} {st st' : List Value} {o a b idx : Nat} {ini : Bool}
/-- what comes behind a heap step -/
def ab_kk (p : Program) (l : Launch) (e : Env) (R : Room) (s : State) (m : MethodId) (args : Array Value) (below : List Frame) (meth : Method) (c : Code) (cells slots : Nat) (Q : State → Prop) (D : va_G) (cA : Nat → ClassId) (N0 : Nat) (adS : Nat → Nat) (h h' : ab_H) (g : JFrame) : Prop :=
  ∀ (H' : Heap) (locs' : List Loc) (cells' slots' : Nat), ab_Wd D cA N0 adS h' H' → va_S (ab_A N0) s.heap H' locs' → cells' + h.length = cells + h'.length → slots' + ab_sz h = slots + ab_sz h' → W p l e R s m args below meth c H' locs' cells' slots' Q g
/-- how large the heap is: the machine's own book says it -/
theorem ab_size {g : JFrame} {n0 : Nat} (hs : s.heap.size = N0 + n0) (hc : cells + n0 = h.length) (hW : ab_Wd D cA N0 adS h H) (k : H.size = N0 + h.length → W p l e R s m args below meth c H locs cells slots Q g) : W p l e R s m args below meth c H locs cells slots Q g := by
  intro T hT X
  refine k ?_ T hT X
  have h1 : s.heap.size ≤ T.heap.size := X.same.2.1
  have h2 : T.heap.size ≤ s.heap.size + cells := X.same.2.2.1
  rw [hT] at h1 h2
  cases hl : h.length with
  | zero => omega
  | succ n =>
    obtain ⟨x, hx⟩ : ∃ x, h[n]? = some x := ⟨h[n]'(by omega), List.getElem?_eq_getElem _⟩
    have h3 := (hW n _ (ab_ws_at hx)).lt
    have h3 : N0 + n < H.size := h3
    omega
theorem ab_get_sim (hx : p.tables.exec = Jvm.exec) (hb : c.code = cc) (hown : s.vm.findClass own = some m.cls) (hts : ∀ w ∈ Ts, w.before args s = true) (hT : ∀ w ∈ ab_T, w ∈ Ts) (hK : va_K D ab_cl (ab_tys cA) s) (hW : ab_Wd D cA N0 adS h H)
    (ho : ab_own[o]? = some own) (hp : a < 7 → ab_pf.any (fun z => z.1 == o && z.2.1 == idx && z.2.2.1 == a && z.2.2.2.1 == b) = true) (hd : decode cc pc = .ok (.getfield idx, 3)) (hh : ab_fget a b h st = some st')
    (k : W p l e R s m args below meth c H locs cells slots Q (F0 m (pc + 3) ls (st'.map (ab_rv N0 adS)))) : W p l e R s m args below meth c H locs cells slots Q (F0 m pc ls (st.map (ab_rv N0 adS))) := by
  unfold ab_fget at hh
  split at hh
  · rename_i i r
    split at hh
    · rename_i ob hob
      split at hh
      · rename_i hc
        split at hh
        · rename_i v hv
          cases hh
          obtain ⟨hc1, hc2⟩ := hc
          obtain ⟨C, hC, hbC, hlk⟩ := ab_pf_use ho (hp hc2)
          subst hc1
          have hi := ab_ws_at (cA := cA) (N0 := N0) (adS := adS) hob
          exact va_get (T := C.2.1) (N := C.2.2) (C := C.1) (ref := (C.2.1 b).1) hx hb hts (fun w hw => hT w (ab_cl_in hC w hw)) hown hK hW i hi hC b hbC (hts _ (hT _ hlk)) (fun _ q => q) (v := ab_rv N0 adS v) (by rw [List.getElem?_map, hv]; rfl) hd k
        · cases hh
      · cases hh
    · cases hh
  · cases hh
theorem ab_put_sim (hx : p.tables.exec = Jvm.exec) (hb : c.code = cc) (hown : s.vm.findClass own = some m.cls) (hts : ∀ w ∈ Ts, w.before args s = true) (hT : ∀ w ∈ ab_T, w ∈ Ts) (hK : va_K D ab_cl (ab_tys cA) s) (hW : ab_Wd D cA N0 adS h H) (hS : va_S (ab_A N0) s.heap H locs)
    (ho : ab_own[o]? = some own) (hini : ini = true → meth.name = "<init>") (hp : ab_pf.any (fun z => z.1 == o && z.2.1 == idx && z.2.2.1 == a && z.2.2.2.1 == b) = true) (hd : decode cc pc = .ok (.putfield idx, 3)) (hh : ab_fput ini own a b h st = some (st', h'))
    (k : ab_kk p l e R s m args below meth c cells slots Q D cA N0 adS h h' (F0 m (pc + 3) ls (st'.map (ab_rv N0 adS)))) : W p l e R s m args below meth c H locs cells slots Q (F0 m pc ls (st.map (ab_rv N0 adS))) := by
  unfold ab_fput at hh
  split at hh
  · rename_i v i r
    split at hh
    · rename_i ob hob
      split at hh
      · rename_i hc
        cases hh
        obtain ⟨hc1, hc2, hbl, hf, hfin⟩ := hc
        obtain ⟨C, hC, hbC, hlk⟩ := ab_pf_use ho hp
        subst hc1
        have hi := ab_ws_at (cA := cA) (N0 := N0) (adS := adS) hob
        obtain ⟨hf1, hf2⟩ := ab_fit_ok (N0 := N0) (adS := adS) hf
        have kk : ∀ (H1 : Heap) (locs1 : List Loc), va_P D ab_cl ((ab_ws cA N0 adS h).set i (N0 + i, .inr (ob.1, (ob.2.map (ab_rv N0 adS)).set b (ab_rv N0 adS v)))) H1 → va_D (ab_A N0) ((ab_ws cA N0 adS h).set i (N0 + i, .inr (ob.1, (ob.2.map (ab_rv N0 adS)).set b (ab_rv N0 adS v)))) → va_S (ab_A N0) s.heap H1 locs1 → W p l e R s m args below meth c H1 locs1 cells slots Q (F0 m (pc + 3) ls (st'.map (ab_rv N0 adS))) := by
          intro H1 locs1 h1 _ h3
          have e1 : ((ab_ws cA N0 adS h).set i (N0 + i, .inr (ob.1, (ob.2.map (ab_rv N0 adS)).set b (ab_rv N0 adS v)))) = ab_ws cA N0 adS (h.set i (.inr (ob.1, ob.2.set b v))) := by
            rw [← ab_ws_set]
            show _ = (ab_ws cA N0 adS h).set i (N0 + i, .inr (ob.1, (ob.2.set b v).map (ab_rv N0 adS)))
            rw [List.map_set]
          rw [e1] at h1
          exact k H1 locs1 cells slots h1 h3 (by rw [List.length_set]) (by rw [ab_sz_set hob (by simp [ab_sz1])])
        have hty := ab_cl_ty hC
        by_cases hfb : (C.2.1 b).2.2.2 = false
        · exact va_put (T := C.2.1) (N := C.2.2) (C := C.1) (ref := (C.2.1 b).1) hx hb hts (fun w hw => hT w (ab_cl_in hC w hw)) (ab_ty ob.1) hty (ab_cl_nm hC) hown hK hW (ab_ws_D cA N0 adS h) hS i hi hC b hbC (hts _ (hT _ hlk)) (fun _ q => q) hfb (hty b hbC) hf1 hf2 (by rw [List.length_map]; exact hbl) hd kk
        · have hfb' : (C.2.1 b).2.2.2 = true := by simpa using hfb
          have h9 : ab_fin ob.1 b = true := by unfold ab_fin; rw [hC]; exact hfb'
          rcases hfin with h8 | ⟨h8, h7⟩
          · rw [h9] at h8; cases h8
          · have h6 : (C.2.1 b).1 = own := by
              have h5 : ab_cn ob.1 = C.1 := by unfold ab_cn; rw [hC]
              rw [← h7, h5]
              exact ab_cl_dc hC b hbC
            exact va_putF (T := C.2.1) (N := C.2.2) (C := C.1) (ref := (C.2.1 b).1) hx hb hts (fun w hw => hT w (ab_cl_in hC w hw)) (ab_ty ob.1) hty (ab_cl_nm hC) hown hK hW (ab_ws_D cA N0 adS h) hS i hi hC b hbC (hts _ (hT _ hlk)) (fun _ q => q) hfb' (hini h8) h6 (hty b hbC) hf1 hf2 (by rw [List.length_map]; exact hbl) hd kk
      · cases hh
    · cases hh
  · cases hh
theorem ab_tys_at {cA : Nat → ClassId} {t : Nat} (ht : t < 3) : (ab_tys cA)[t]? = some (cA t, (if t = 0 then .byte else if t = 1 then .int else .long : FieldType)) := by
  match t, ht with
  | 0, _ => rfl
  | 1, _ => rfl
  | 2, _ => rfl
theorem ab_alen_sim (hx : p.tables.exec = Jvm.exec) (hb : c.code = cc) (hK : va_K D ab_cl (ab_tys cA) s) (hW : ab_Wd D cA N0 adS h H) (hd : decode cc pc = .ok (.arraylength, 1)) (hh : ab_alen h st = some st')
    (k : W p l e R s m args below meth c H locs cells slots Q (F0 m (pc + 1) ls (st'.map (ab_rv N0 adS)))) : W p l e R s m args below meth c H locs cells slots Q (F0 m pc ls (st.map (ab_rv N0 adS))) := by
  unfold ab_alen at hh
  split at hh
  · rename_i i r
    split at hh
    · rename_i ob hob
      split at hh
      · rename_i hc
        cases hh
        exact va_alen hx hb hK hW i ob.1 (ab_ws_at (cA := cA) (N0 := N0) (adS := adS) hob) (ab_tys_at hc) rfl hd k
      · cases hh
    · cases hh
  · cases hh
theorem ab_ald_sim {ty : Instr} {t : Nat} (ht : (ty = .baload ∧ t = 0) ∨ (ty = .iaload ∧ t = 1)) (hx : p.tables.exec = Jvm.exec) (hb : c.code = cc) (hK : va_K D ab_cl (ab_tys cA) s) (hW : ab_Wd D cA N0 adS h H) (hd : decode cc pc = .ok (ty, 1)) (hh : ab_ald t h st = some st')
    (k : W p l e R s m args below meth c H locs cells slots Q (F0 m (pc + 1) ls (st'.map (ab_rv N0 adS)))) : W p l e R s m args below meth c H locs cells slots Q (F0 m pc ls (st.map (ab_rv N0 adS))) := by
  unfold ab_ald at hh
  split at hh
  · rename_i j i r
    split at hh
    · rename_i t' n f hob
      split at hh
      · rename_i hc
        cases hh
        obtain ⟨hc1, hc2⟩ := hc
        subst hc1
        rcases ht with ⟨rfl, rfl⟩ | ⟨rfl, rfl⟩
        · exact va_bald hx hb hK hW i 0 (ab_ws_at (cA := cA) (N0 := N0) (adS := adS) hob) rfl hc2 hd k
        · exact va_iald hx hb hK hW i 1 (ab_ws_at (cA := cA) (N0 := N0) (adS := adS) hob) rfl hc2 hd k
      · cases hh
    · cases hh
  · cases hh
theorem ab_lald_sim (hx : p.tables.exec = Jvm.exec) (hb : c.code = cc) (hK : va_K D ab_cl (ab_tys cA) s) (hW : ab_Wd D cA N0 adS h H) (hd : decode cc pc = .ok (.laload, 1)) (hh : ab_lald h st = some st')
    (k : W p l e R s m args below meth c H locs cells slots Q (F0 m (pc + 1) ls (st'.map (ab_rv N0 adS)))) : W p l e R s m args below meth c H locs cells slots Q (F0 m pc ls (st.map (ab_rv N0 adS))) := by
  unfold ab_lald at hh
  split at hh
  · rename_i j i r
    split at hh
    · rename_i t' n f hob
      split at hh
      · rename_i hc
        cases hh
        obtain ⟨hc1, hc2⟩ := hc
        subst hc1
        exact va_lald hx hb hK hW i 2 (ab_ws_at (cA := cA) (N0 := N0) (adS := adS) hob) rfl hc2 hd k
      · cases hh
    · cases hh
  · cases hh
theorem ab_ast_sim {ty : Instr} {t : Nat} (ht : (ty = .bastore ∧ t = 0) ∨ (ty = .iastore ∧ t = 1)) (hx : p.tables.exec = Jvm.exec) (hb : c.code = cc) (hK : va_K D ab_cl (ab_tys cA) s) (hW : ab_Wd D cA N0 adS h H) (hS : va_S (ab_A N0) s.heap H locs) (hd : decode cc pc = .ok (ty, 1)) (hh : ab_ast t h st = some (st', h'))
    (k : ab_kk p l e R s m args below meth c cells slots Q D cA N0 adS h h' (F0 m (pc + 1) ls (st'.map (ab_rv N0 adS)))) : W p l e R s m args below meth c H locs cells slots Q (F0 m pc ls (st.map (ab_rv N0 adS))) := by
  unfold ab_ast at hh
  split at hh
  · rename_i x j i r
    split at hh
    · rename_i t' n f hob
      split at hh
      · rename_i hc
        cases hh
        obtain ⟨hc1, hc2⟩ := hc
        subst hc1
        rcases ht with ⟨rfl, rfl⟩ | ⟨rfl, rfl⟩
        · refine va_bast hx hb hK hW (ab_ws_D cA N0 adS h) hS i 0 (ab_ws_at (cA := cA) (N0 := N0) (adS := adS) hob) rfl hc2 hd (fun H1 locs1 h1 _ h3 => ?_)
          rw [vp_nar_byte] at h1
          have e1 := ab_ws_set cA N0 adS h i (.inl (0, n, .inl (upd f j.toNatClampNeg x.toInt8.toInt32)))
          exact k H1 locs1 cells slots (by unfold ab_Wd; rw [if_pos rfl, ← e1]; exact h1) h3 (by rw [List.length_set]) (by rw [if_pos rfl, ab_sz_set (y := .inl (0, n, .inl (upd f j.toNatClampNeg x.toInt8.toInt32))) hob rfl])
        · refine va_iast hx hb hK hW (ab_ws_D cA N0 adS h) hS i 1 (ab_ws_at (cA := cA) (N0 := N0) (adS := adS) hob) rfl hc2 hd (fun H1 locs1 h1 _ h3 => ?_)
          have e1 := ab_ws_set cA N0 adS h i (.inl (1, n, .inl (upd f j.toNatClampNeg x)))
          exact k H1 locs1 cells slots (by unfold ab_Wd; rw [if_neg (by decide), ← e1]; exact h1) h3 (by rw [List.length_set]) (by rw [if_neg (by decide), ab_sz_set (y := .inl (1, n, .inl (upd f j.toNatClampNeg x))) hob rfl])
      · cases hh
    · cases hh
  · cases hh
theorem ab_last_sim (hx : p.tables.exec = Jvm.exec) (hb : c.code = cc) (hK : va_K D ab_cl (ab_tys cA) s) (hW : ab_Wd D cA N0 adS h H) (hS : va_S (ab_A N0) s.heap H locs) (hd : decode cc pc = .ok (.lastore, 1)) (hh : ab_last h st = some (st', h'))
    (k : ab_kk p l e R s m args below meth c cells slots Q D cA N0 adS h h' (F0 m (pc + 1) ls (st'.map (ab_rv N0 adS)))) : W p l e R s m args below meth c H locs cells slots Q (F0 m pc ls (st.map (ab_rv N0 adS))) := by
  unfold ab_last at hh
  split at hh
  · rename_i x j i r
    split at hh
    · rename_i t' n f hob
      split at hh
      · rename_i hc
        cases hh
        obtain ⟨hc1, hc2⟩ := hc
        subst hc1
        refine va_last hx hb hK hW (ab_ws_D cA N0 adS h) hS i 2 (ab_ws_at (cA := cA) (N0 := N0) (adS := adS) hob) rfl hc2 hd (fun H1 locs1 h1 _ h3 => ?_)
        have e1 := ab_ws_set cA N0 adS h i (.inl (2, n, .inr (.inl (vp_updL f j.toNatClampNeg x))))
        exact k H1 locs1 cells slots (by unfold ab_Wd; rw [← e1]; exact h1) h3 (by rw [List.length_set]) (by rw [ab_sz_set (y := .inl (2, n, .inr (.inl (vp_updL f j.toNatClampNeg x)))) hob rfl])
      · cases hh
    · cases hh
  · cases hh
/-- where a new cell lies -/
theorem ab_new_q {q : Nat} {x : va_E} {H1 : Heap} (hD : va_D (ab_A N0) (ab_ws cA N0 adS h ++ [(q, x)])) (hP : va_P D ab_cl (ab_ws cA N0 adS h ++ [(q, x)]) H1) (hz : H1.size ≤ N0 + h.length + 1) : q = N0 + h.length := by
  have hl : (ab_ws cA N0 adS h).length = h.length := by simp [ab_ws]
  have e0 : (ab_ws cA N0 adS h ++ [(q, x)])[h.length]? = some (q, x) := by
    rw [List.getElem?_append_right (by omega), hl]; simp
  have h1 : q < H1.size := (hP _ _ e0).lt
  have h2 : N0 ≤ q := hD.2 _ _ e0
  rcases Nat.lt_or_ge q (N0 + h.length) with h3 | h3
  · obtain ⟨y, hy⟩ : ∃ y, h[q - N0]? = some y := ⟨h[q - N0]'(by omega), List.getElem?_eq_getElem _⟩
    have e1 : (ab_ws cA N0 adS h ++ [(q, x)])[q - N0]? = some (N0 + (q - N0), ab_E cA N0 adS y) := by
      rw [List.getElem?_append_left (by omega)]; exact ab_ws_at hy
    have := hD.1 _ _ _ _ e1 e0 (show N0 + (q - N0) = q by omega)
    omega
  · omega
end AB7
end
section
/-! New cells; the three natives (Math.min, Math.max, System.arraycopy); the heap step as one. -/
theorem ab_rv_dfl (N0 : Nat) (adS : Nat → Nat) (t : FieldType) : ab_rv N0 adS (defaultValue t) = defaultValue t := by cases t <;> rfl
section AB7C
variable {p : Program} {l : Launch} {e : Env} {R : Room} {s : State} {m : MethodId} {args : Array Value} {below : List Frame} {meth : Method} {c : Code} {H : Heap} {locs : List Loc} {cells slots : Nat} {Q : State → Prop} {cc : ByteArray} {pc : Nat} {ls : Array Slot} {N0 : Nat} {adS : Nat → Nat} {D : va_G} {cA : Nat → ClassId} {h h' : ab_H} {own : String} {Ts : List Cond} {st st' : List Value} {o a b idx n0 : Nat} {ini : Bool}
theorem ab_nw_sim (hx : p.tables.exec = Jvm.exec) (hb : c.code = cc) (hown : s.vm.findClass own = some m.cls) (hts : ∀ w ∈ Ts, w.before args s = true) (hT : ∀ w ∈ ab_T, w ∈ Ts) (hK : va_K D ab_cl (ab_tys cA) s) (hW : ab_Wd D cA N0 adS h H) (hS : va_S (ab_A N0) s.heap H locs)
    (ho : ab_own[o]? = some own) (hs : s.heap.size = N0 + n0) (hc : cells + n0 = h.length) (hR1 : cells + h'.length ≤ R.cells + h.length) (hR2 : slots + ab_sz h' ≤ R.slots + ab_sz h) (hp : ab_pN.any (fun z => z.1 == o && z.2.1 == idx && z.2.2.1 == a) = true) (hd : decode cc pc = .ok (.new idx, 3)) (hh : ab_nw a h st = some (st', h'))
    (k : ab_kk p l e R s m args below meth c cells slots Q D cA N0 adS h h' (F0 m (pc + 3) ls (st'.map (ab_rv N0 adS)))) : W p l e R s m args below meth c H locs cells slots Q (F0 m pc ls (st.map (ab_rv N0 adS))) := by
  unfold ab_nw at hh
  split at hh
  · rename_i ha
    cases hh
    obtain ⟨C, hC, hlk⟩ := ab_pN_use ho hp
    obtain ⟨hi1, hi2⟩ := ab_cl_ins ha hC
    have hl := ab_dfl_len hC
    have hz1 : ab_sz1 (.inr (a, ab_dfl a)) = C.2.2 := by
      simp only [ab_sz1]
      rw [if_neg (by omega), hl]
    rw [List.length_append, List.length_singleton] at hR1
    rw [ab_sz_push, hz1] at hR2
    refine va_new (C := C.1) (T := C.2.1) (N := C.2.2) (ci := a) (fs := (ab_dfl a).map (ab_rv N0 adS)) hx hb hts (fun w hw => hT w (ab_cl_in hC w hw)) (ab_ty a) (ab_cl_ty hC) hown (hts _ (hT _ hlk)) (hts _ (hT _ hi1)) (hts _ (hT _ hi2)) hK hW (ab_ws_D cA N0 adS h) hS (fun q hq => Nat.le_trans (by omega) hq) hC ?_ (by omega) (by omega) hd (fun q H1 hP1 hD1 hS1 => ?_)
    · intro j hj
      unfold vp_V ab_dfl
      rw [hC]
      simp [List.getD, hj, ab_rv_dfl]
    · intro T hT9 X
      have hz : T.heap.size ≤ s.heap.size + (cells + 1) := X.same.2.2.1
      rw [hT9] at hz
      have hq := ab_new_q hD1 hP1 (by omega)
      subst hq
      exact k H1 locs (cells + 1) (slots + C.2.2) (by unfold ab_Wd; rw [← ab_ws_push]; exact hP1) hS1 (by rw [List.length_append, List.length_singleton]; omega) (by rw [ab_sz_push, hz1]; omega) T hT9 X
  · cases hh
theorem ab_nwa_sim {ty : ArrayType} (hx : p.tables.exec = Jvm.exec) (hb : c.code = cc) (hts : ∀ w ∈ Ts, w.before args s = true) (hT : ∀ w ∈ ab_T, w ∈ Ts) (hK : va_K D ab_cl (ab_tys cA) s) (hW : ab_Wd D cA N0 adS h H) (hS : va_S (ab_A N0) s.heap H locs)
    (hs : s.heap.size = N0 + n0) (hc : cells + n0 = h.length) (hR1 : cells + h'.length ≤ R.cells + h.length) (hR2 : slots + ab_sz h' ≤ R.slots + ab_sz h) (hd : decode cc pc = .ok (.newarray ty, 2)) (hh : ab_nwa ty h st = some (st', h'))
    (k : ab_kk p l e R s m args below meth c cells slots Q D cA N0 adS h h' (F0 m (pc + 2) ls (st'.map (ab_rv N0 adS)))) : W p l e R s m args below meth c H locs cells slots Q (F0 m pc ls (st.map (ab_rv N0 adS))) := by
  unfold ab_nwa at hh
  split at hh
  · rename_i n r
    split at hh
    · rename_i hq0
      cases hh
      obtain ⟨ht, hn, hn2⟩ := hq0
      have hz1 : ab_sz1 (ab_a0 (ab_at ty) n.toNatClampNeg) = n.toNatClampNeg := by
        unfold ab_a0
        split <;> rfl
      rw [List.length_append, List.length_singleton] at hR1
      rw [ab_sz_push, hz1] at hR2
      have go : ∀ (t : Nat) (fty : FieldType) (a0 : vp_A), ab_at ty = t → newarray.typeOf ty = fty → (Cond.arrayClass fty) ∈ lw_tbl → (ab_tys cA)[t]? = some (cA t, fty) → (∀ (U : State) (cB : ClassId), va_RA U cB fty ↔ U.vm.findClass ("[" ++ fty.toString) = some cB) → ab_a0 (ab_at ty) n.toNatClampNeg = .inl (t, a0) → (∀ cB : ClassId, vp_cell cB a0 = arrV cB n.toNatClampNeg (fun _ => defaultValue fty)) → componentBytes fty ≤ 8 →
          W p l e R s m args below meth c H locs cells slots Q (F0 m pc ls (.int n :: r.map (ab_rv N0 adS))) := by
        intro t fty a0 h1 h2 h3 h4 h5 h6 h7 h8
        subst h2
        refine va_newa (a0 := a0) hx hb (hts _ (hT _ (List.mem_filter.mpr ⟨h3, rfl⟩))) rfl hK hW (ab_ws_D cA N0 adS h) hS (fun q hq => Nat.le_trans (by omega) hq) h7 hn rfl (by
          have := Nat.mul_le_mul hn2 h8
          omega) (by omega) (by omega) hd (fun q cB H1 hK1 hP1 hD1 hS1 => ?_)
        intro T hT9 X
        have hz : T.heap.size ≤ s.heap.size + (cells + 1) := X.same.2.2.1
        rw [hT9] at hz
        have hq := ab_new_q hD1 hP1 (by omega)
        subst hq
        have hB : va_RA s cB (newarray.typeOf ty) := (hK1.2 3 (cB, newarray.typeOf ty) rfl).2
        have hA9 : va_RA s (cA t) (newarray.typeOf ty) := (hK.2 t _ h4).2
        have heq : cB = cA t := Option.some.inj (((h5 s cB).mp hB).symm.trans ((h5 s (cA t)).mp hA9))
        subst heq
        exact k H1 locs (cells + 1) (slots + n.toNatClampNeg) (by unfold ab_Wd; rw [← ab_ws_push, h6]; exact hP1) hS1 (by rw [List.length_append, List.length_singleton]; omega) (by rw [ab_sz_push, hz1]; omega) T hT9 X
      cases ty <;> first | (exact absurd ht (by decide)) | skip
      · exact go 0 .byte (n.toNatClampNeg, .inl (fun _ => 0)) rfl rfl ab_arrw.1 rfl (fun _ _ => Iff.rfl) rfl (fun _ => rfl) (by decide)
      · exact go 1 .int (n.toNatClampNeg, .inl (fun _ => 0)) rfl rfl ab_arrw.2.1 rfl (fun _ _ => Iff.rfl) rfl (fun _ => rfl) (by decide)
      · exact go 2 .long (n.toNatClampNeg, .inr (.inl (fun _ => 0))) rfl rfl ab_arrw.2.2 rfl (fun _ _ => Iff.rfl) rfl (fun _ => rfl) (by decide)
    · cases hh
  · cases hh
end AB7C
end
section
/-! THE ABSTRACT MACHINE, the constant objects. '.retAddr k': k < 106 the string k, 200 + k its byte array, 400 + e the enum's constant e, 500 the array of these. -/
def ab_strs : List (List Int32) := [[116, 104, 101, 32, 116, 101, 120, 116, 32, 104, 97, 115, 32, 97, 110, 32, 101, 114, 114, 111, 114], [122, 101, 114, 111], [114, 97], [115, 116, 97, 114, 116], [104, 105], [108, 111], [101], [97], [106, 97, 108], [100, 44, 101], [106, 97, 108, 114], [100, 44, 101, 40, 97, 41], [108, 117, 105], [97, 100, 100, 105], [100, 44, 97, 44, 101], [46, 97, 108, 105, 103, 110], [101], [46, 97, 115, 99, 105, 105], [], [46, 97, 115, 99, 105, 122], [46, 98, 121, 116, 101], [46, 100, 97, 116, 97], [46, 101, 113, 117], [46, 103, 108, 111, 98, 108], [110], [46, 104, 97, 108, 102], [46, 115, 112, 97, 99, 101], [46, 116, 101, 120, 116], [46, 119, 111, 114, 100], [97, 100, 100], [100, 44, 97, 44, 98], [97, 110, 100], [97, 110, 100, 105], [97, 117, 105, 112, 99], [98, 101, 113], [97, 44, 98, 44, 101], [98, 101, 113, 122], [97, 44, 101], [98, 103, 101], [98, 103, 101, 117], [98, 103, 101, 122], [98, 103, 116], [98, 44, 97, 44, 101], [98, 103, 116, 117], [98, 103, 116, 122], [98, 44, 101], [98, 108, 101], [98, 108, 101, 117], [98, 108, 101, 122], [98, 108, 116], [98, 108, 116, 117], [98, 108, 116, 122], [98, 110, 101], [98, 110, 101, 122], [99, 97, 108, 108], [100, 105, 118], [100, 105, 118, 117], [101, 98, 114, 101, 97, 107], [101, 99, 97, 108, 108], [102, 101, 110, 99, 101], [106], [106, 114], [97], [108, 97], [108, 98], [108, 98, 117], [108, 104], [108, 104, 117], [108, 105], [108, 119], [109, 117, 108], [109, 117, 108, 104], [109, 117, 108, 104, 115, 117], [109, 117, 108, 104, 117], [109, 118], [100, 44, 97], [110, 101, 103], [100, 44, 98], [110, 111, 112], [110, 111, 116], [111, 114], [111, 114, 105], [114, 101, 109], [114, 101, 109, 117], [114, 101, 116], [115, 98], [98, 44, 101, 40, 97, 41], [115, 101, 113, 122], [115, 103, 116, 122], [115, 104], [115, 108, 108], [115, 108, 108, 105], [115, 108, 116], [115, 108, 116, 105], [115, 108, 116, 105, 117], [115, 108, 116, 117], [115, 108, 116, 122], [115, 110, 101, 122], [115, 114, 97], [115, 114, 97, 105], [115, 114, 108], [115, 114, 108, 105], [115, 117, 98], [115, 119], [120, 111, 114], [120, 111, 114, 105]]
/-- spelling, pattern, form, code -/
def ab_enm : List (Nat × Nat × Int32 × Int32) := [(15, 16, 5, 0), (17, 18, 3, 0), (19, 18, 3, 1), (20, 18, 2, 1), (21, 18, 1, 1), (22, 18, 6, 0), (23, 24, 0, 0), (25, 18, 2, 2), (26, 16, 4, 0), (27, 18, 1, 0), (28, 18, 2, 4), (29, 30, 7, 51), (13, 14, 8, 19), (31, 30, 7, 28723), (32, 14, 8, 28691), (33, 9, 12, 23), (34, 35, 11, 99), (36, 37, 11, 99), (38, 35, 11, 20579), (39, 35, 11, 28771), (40, 37, 11, 20579), (41, 42, 11, 16483), (43, 42, 11, 24675), (44, 45, 11, 16483), (46, 42, 11, 20579), (47, 42, 11, 28771), (48, 45, 11, 20579), (49, 35, 11, 16483), (50, 35, 11, 24675), (51, 37, 11, 16483), (52, 35, 11, 4195), (53, 37, 11, 4195), (54, 16, 13, 239), (55, 30, 7, 33570867), (56, 30, 7, 33574963), (57, 18, 7, 1048691), (58, 18, 7, 115), (59, 18, 7, 15), (60, 16, 13, 111), (8, 9, 13, 111), (10, 11, 8, 103), (61, 62, 7, 103), (63, 9, 14, 0), (64, 11, 8, 3), (65, 11, 8, 16387), (66, 11, 8, 4099), (67, 11, 8, 20483), (68, 9, 15, 0), (12, 9, 12, 55), (69, 11, 8, 8195), (70, 30, 7, 33554483), (71, 30, 7, 33558579), (72, 30, 7, 33562675), (73, 30, 7, 33566771), (74, 75, 7, 19), (76, 77, 7, 1073741875), (78, 18, 7, 19), (79, 75, 7, -1032173), (80, 30, 7, 24627), (81, 14, 8, 24595), (82, 30, 7, 33579059), (83, 30, 7, 33583155), (84, 18, 7, 32871), (85, 86, 10, 35), (87, 75, 7, 1060883), (88, 77, 7, 8243), (89, 86, 10, 4131), (90, 30, 7, 4147), (91, 14, 9, 4115), (92, 30, 7, 8243), (93, 14, 8, 8211), (94, 14, 8, 12307), (95, 30, 7, 12339), (96, 75, 7, 8243), (97, 77, 7, 12339), (98, 30, 7, 1073762355), (99, 14, 9, 1073762323), (100, 30, 7, 20531), (101, 14, 9, 20499), (102, 30, 7, 1073741875), (103, 86, 10, 8227), (104, 30, 7, 16435), (105, 14, 8, 16403)]
def ab_sfv (b k : Nat) : Option Value := match b with
  | 0 => if k < 106 then some (.retAddr (200 + k)) else none
  | 1 => if k < 106 then some (.int 0) else none
  | 2 => if 400 ≤ k then (match ab_enm[k - 400]? with | some q => some (.retAddr q.1) | none => none) else none
  | 3 => if 400 ≤ k then (match ab_enm[k - 400]? with | some q => some (.retAddr q.2.1) | none => none) else none
  | 4 => if 400 ≤ k then (match ab_enm[k - 400]? with | some q => some (.int q.2.2.1) | none => none) else none
  | 5 => if 400 ≤ k then (match ab_enm[k - 400]? with | some q => some (.int q.2.2.2) | none => none) else none
  | _ => none
def ab_sfget (b : Nat) (st : List Value) : Option (List Value) := match st with
  | .retAddr k :: r => match ab_sfv b k with
    | some v => some (v :: r)
    | none => none
  | _ => none
def ab_slen (st : List Value) : Option (List Value) := match st with
  | .retAddr k :: r => if k = 500 then some (.int 83 :: r) else if 200 ≤ k then (match ab_strs[k - 200]? with | some s => some (.int (Int32.ofNat s.length) :: r) | none => none) else none
  | _ => none
def ab_sbld (st : List Value) : Option (List Value) := match st with
  | .int j :: .retAddr k :: r => if 200 ≤ k then (match ab_strs[k - 200]? with | some s => if ¬ (j < 0 ∨ s.length ≤ j.toNatClampNeg) then some (.int (s.getD j.toNatClampNeg 0) :: r) else none | none => none) else none
  | _ => none
def ab_sald (st : List Value) : Option (List Value) := match st with
  | .int j :: .retAddr k :: r => if k = 500 ∧ ¬ (j < 0 ∨ 83 ≤ j.toNatClampNeg) then some (.retAddr (400 + j.toNatClampNeg) :: r) else none
  | _ => none
/-- constants, statics, and what constant objects hold -/
def ab_con (i : Instr) (a b : Nat) (st : List Value) : Option (List Value) := match i with
  | .ldc _ => if b = 0 then some (.int (Int32.ofNat a) :: st) else some (.retAddr a :: st)
  | .ldc_w _ => if b = 0 then some (.int (Int32.ofNat a) :: st) else none
  | .ldc2_w _ => some (.long (Int64.ofNat a) :: st)
  | .getstatic _ => if b = 1 then some (.int (Int32.ofNat a) :: st) else some (.retAddr a :: st)
  | .getfield _ => if a = 100 then ab_sfget b st else none
  | .arraylength => ab_slen st
  | .baload => ab_sbld st
  | .aaload => ab_sald st
  | _ => none
def ab_acmp (i : Instr) (pc tgt : Nat) (st : List Value) : Option (Nat × List Value) := match i with
  | .if_acmp .ne _ => match st with
    | .retAddr y :: .retAddr x :: r => if (400 ≤ x ∧ x < 483) ∧ (400 ≤ y ∧ y < 483) then some (bif x == y then pc + 3 else tgt, r) else none
    | _ => none
  | _ => none
def ab_sfn : List (String × String × String) := [("java/lang/String", "value", "[B"), ("java/lang/String", "coder", "B"), ("CodeSmith$Statement", "spelling", "Ljava/lang/String;"), ("CodeSmith$Statement", "pattern", "Ljava/lang/String;"), ("CodeSmith$Statement", "form", "I"), ("CodeSmith$Statement", "code", "I")]
def ab_gsn : List (Nat × String × String) := [(439, "JAL", "LCodeSmith$Statement;"), (440, "JALR", "LCodeSmith$Statement;"), (412, "ADDI", "LCodeSmith$Statement;"), (448, "LUI", "LCodeSmith$Statement;")]
def ab_srn : List (String × Nat × String × Nat) := [("CodeSmith$Tokens", 67, "the text has an error", 0), ("CodeSmith$Tokens", 176, "zero", 1), ("CodeSmith$Tokens", 182, "ra", 2), ("CodeSmith$Assembler", 158, "start", 3), ("CodeSmith$Calculator", 79, "hi", 4), ("CodeSmith$Calculator", 85, "lo", 5), ("CodeSmith$Assembler", 229, "e", 6), ("CodeSmith$Assembler", 234, "a", 7)]
def ab_nst : List (String × Nat × MethodName × String) := [("CodeSmith", 15, ⟨"CodeSmith$Symbols", "<init>", "()V"⟩, "CodeSmith"), ("CodeSmith", 18, ⟨"CodeSmith$Tokens", "<init>", "()V"⟩, "CodeSmith"), ("CodeSmith$Assembler", 11, ⟨"CodeSmith$Image", "<init>", "()V"⟩, "CodeSmith")]
def ab_nwl : List Cond := [.castable "java/lang/IllegalArgumentException" "java/lang/IllegalArgumentException", .declares ⟨"java/lang/RuntimeException", "<init>", "(Ljava/lang/String;)V"⟩, .declares ⟨"java/lang/Exception", "<init>", "(Ljava/lang/String;)V"⟩, .declares ⟨"java/lang/Throwable", "<init>", "(Ljava/lang/String;)V"⟩]
theorem ab_nwl_warm {s U : State} {w : Cond} (hW : s.WarmedH U.vm) (hw : w ∈ ab_nwl) (h : va_Nw w s) : va_Nw w U := by
  simp only [ab_nwl, List.mem_cons, List.not_mem_nil, or_false] at hw
  rcases hw with rfl | rfl | rfl | rfl
  · exact h.warmC hW
  · exact h.warmD hW
  · exact h.warmD hW
  · exact h.warmD hW
/-- what the statement gives of the constant objects -/
def ab_SW (N0 : Nat) (adS : Nat → Nat) (U : State) (H : Heap) : Prop :=
  (∀ k : Nat, k < 106 → va_O "java/lang/String" (adS k) (ab_A N0) U H ∧ va_T .byte (adS (200 + k)) ((ab_strs.getD k []).length) (fun j => .int ((ab_strs.getD k []).getD j 0)) (ab_A N0) U H) ∧
  (∀ b k : Nat, ∀ v : Value, ab_sfv b k = some v → ∀ f, ab_sfn[b]? = some f → va_OF f.1 f.2.1 f.2.2 (ab_rv N0 adS v) (adS k) (ab_A N0) U H) ∧
  va_T (.object "CodeSmith$Statement") (adS 500) 83 (fun j => .ref (adS (400 + j))) (ab_A N0) U H ∧
  (∀ q ∈ ab_gsn, va_Z "CodeSmith$Statement" q.2.1 q.2.2 (.ref (adS q.1)) (ab_A N0) U H) ∧
  va_Z "CodeSmith" "STATEMENTS" "[LCodeSmith$Statement;" (.ref (adS 500)) (ab_A N0) U H ∧
  va_Z "java/lang/String" "COMPACT_STRINGS" "Z" (.int 1) (ab_A N0) U H ∧
  (∀ q ∈ ab_srn, vk_R q.1 q.2.1 q.2.2.1 (adS q.2.2.2) U) ∧
  (∀ i j : Nat, i < 83 → j < 83 → adS (400 + i) = adS (400 + j) → i = j) ∧
  (vx_Zq Bundle.tN "UNASSIGNED_STACK" Bundle.steD (ab_A N0) U H ∧ (∀ w ∈ ab_nwl, va_Nw w U)) ∧ vx_Zq Bundle.tN "SUPPRESSED_SENTINEL" Bundle.listD (ab_A N0) U H ∧
  va_Nw (.fieldLinkNest "CodeSmith$Assembler" 179 "CodeSmith" "STATEMENTS" "[LCodeSmith$Statement;" "CodeSmith") U ∧
  (∀ q ∈ ab_nst, va_Nw (.methodLinkNest q.1 q.2.1 q.2.2.1 q.2.2.2) U)
theorem ab_SW.go {N0 : Nat} {adS : Nat → Nat} {s U : State} {H H1 : Heap} (hW : s.WarmedH U.vm) (hq : ∀ a : Nat, a < H.size → ¬ ab_A N0 a → H1[a]? = H[a]?) (h : ab_SW N0 adS s H) : ab_SW N0 adS U H1 := by
  obtain ⟨h1, h2, h3, h4, h5, h6, h7, h8, h9, h10, h11, h12⟩ := h
  exact ⟨fun k hk => ⟨((h1 k hk).1.moved hW.alike).kept hq, ((h1 k hk).2.moved hW.alike).kept hq⟩, fun b k v hv f hf => ((h2 b k v hv f hf).moved hW.alike).kept hq, (h3.moved hW.alike).kept hq, fun q hq9 => ((h4 q hq9).moved hW.alike).kept hq, (h5.moved hW.alike).kept hq, (h6.moved hW.alike).kept hq, fun q hq9 => (h7 q hq9).warm hW, h8, ⟨(h9.1.moved hW.alike).kept hq, fun w hw => ab_nwl_warm hW hw (h9.2 w hw)⟩, (h10.moved hW.alike).kept hq, h11.warmF hW, fun q hq9 => (h12 q hq9).warmM hW⟩
theorem ab_SW.same {N0 : Nat} {adS : Nat → Nat} {s U : State} {H : Heap} (hv : U.vm = s.vm) (h : ab_SW N0 adS s H) : ab_SW N0 adS U H := by
  refine ab_SW.go (s := s) ?_ (fun _ _ _ => rfl) h
  rw [hv]; exact State.WarmedH.refl s
def ab_pF2_ok (q : Nat × Nat × Nat × Nat) : Bool := match ab_own[q.1]?, ab_sfn[q.2.2.1]? with
  | some O, some f => decide (lw_tbl[q.2.2.2]? = some (.fieldLink O q.2.1 f.1 f.2.1 f.2.2))
  | _, _ => false
set_option maxRecDepth 1000000 in
theorem ab_pF2_all : ab_pF2.all ab_pF2_ok = true := by decide +kernel
theorem ab_pF2_use {o i b : Nat} {own : String} (ho : ab_own[o]? = some own) (h : ab_pF2.any (fun z => z.1 == o && z.2.1 == i && z.2.2.1 == b) = true) : ∃ f, ab_sfn[b]? = some f ∧ Cond.fieldLink own i f.1 f.2.1 f.2.2 ∈ ab_T := by
  obtain ⟨z, hz, hq⟩ := List.any_eq_true.mp h
  have h1 := List.all_eq_true.mp ab_pF2_all z hz
  simp only [Bool.and_eq_true, beq_iff_eq] at hq
  obtain ⟨⟨e1, e2⟩, e3⟩ := hq
  unfold ab_pF2_ok at h1
  rw [e1, ho, e3] at h1
  cases hC : ab_sfn[b]? with
  | none => rw [hC] at h1; cases h1
  | some C =>
    rw [hC] at h1
    rw [e2] at h1
    exact ⟨C, rfl, ab_T_in (of_decide_eq_true h1) rfl⟩
def ab_pK_ok (q : Nat × Nat × Nat × Nat) : Bool := match ab_own[q.1]? with
  | some O => decide (lw_tbl[q.2.2.2]? = some (.constant O q.2.1 (Int32.ofNat q.2.2.1)))
  | _ => false
set_option maxRecDepth 1000000 in
theorem ab_pK_all : ab_pK.all ab_pK_ok = true := by decide +kernel
theorem ab_pK_use {o i a : Nat} {own : String} (ho : ab_own[o]? = some own) (h : ab_pK.any (fun z => z.1 == o && z.2.1 == i && z.2.2.1 == a) = true) : Cond.constant own i (Int32.ofNat a) ∈ lw_tbl := by
  obtain ⟨z, hz, hq⟩ := List.any_eq_true.mp h
  have h1 := List.all_eq_true.mp ab_pK_all z hz
  simp only [Bool.and_eq_true, beq_iff_eq] at hq
  obtain ⟨⟨e1, e2⟩, e3⟩ := hq
  unfold ab_pK_ok at h1
  rw [e1, ho, e2, e3] at h1
  exact List.mem_of_getElem? (of_decide_eq_true h1)
def ab_pL_ok (q : Nat × Nat × Nat × Nat) : Bool := match ab_own[q.1]? with
  | some O => decide (lw_tbl[q.2.2.2]? = some (.constantLong O q.2.1 (Int64.ofNat q.2.2.1)))
  | _ => false
set_option maxRecDepth 1000000 in
theorem ab_pL_all : ab_pL.all ab_pL_ok = true := by decide +kernel
theorem ab_pL_use {o i a : Nat} {own : String} (ho : ab_own[o]? = some own) (h : ab_pL.any (fun z => z.1 == o && z.2.1 == i && z.2.2.1 == a) = true) : Cond.constantLong own i (Int64.ofNat a) ∈ lw_tbl := by
  obtain ⟨z, hz, hq⟩ := List.any_eq_true.mp h
  have h1 := List.all_eq_true.mp ab_pL_all z hz
  simp only [Bool.and_eq_true, beq_iff_eq] at hq
  obtain ⟨⟨e1, e2⟩, e3⟩ := hq
  unfold ab_pL_ok at h1
  rw [e1, ho, e2, e3] at h1
  exact List.mem_of_getElem? (of_decide_eq_true h1)
theorem ab_goodc (own : String) (i : Nat) (v : Int32) : goodWord (.constant own i v) = true := rfl
theorem ab_goodl (own : String) (i : Nat) (v : Int64) : goodWord (.constantLong own i v) = true := rfl
def ab_pT_ok (q : Nat × Nat × Nat × Nat) : Bool := match ab_own[q.1]? with
  | some O => ab_srn.any (fun z => z.1 == O && z.2.1 == q.2.1 && z.2.2.2 == q.2.2.1)
  | _ => false
theorem ab_pT_all : ab_pT.all ab_pT_ok = true := by decide +kernel
theorem ab_pT_use {o i a : Nat} {own : String} (ho : ab_own[o]? = some own) (h : ab_pT.any (fun z => z.1 == o && z.2.1 == i && z.2.2.1 == a) = true) : ∃ tx, (own, i, tx, a) ∈ ab_srn := by
  obtain ⟨z, hz, hq⟩ := List.any_eq_true.mp h
  have h1 := List.all_eq_true.mp ab_pT_all z hz
  simp only [Bool.and_eq_true, beq_iff_eq] at hq
  obtain ⟨⟨e1, e2⟩, e3⟩ := hq
  unfold ab_pT_ok at h1
  rw [e1, ho, e2, e3] at h1
  obtain ⟨y, hy, hy2⟩ := List.any_eq_true.mp h1
  simp only [Bool.and_eq_true, beq_iff_eq] at hy2
  obtain ⟨⟨g1, g2⟩, g3⟩ := hy2
  obtain ⟨y1, y2, y3, y4⟩ := y
  simp only at g1 g2 g3
  subst g1; subst g2; subst g3
  exact ⟨y3, hy⟩
def ab_pG_ok (q : Nat × Nat × Nat × Nat × Nat) : Bool := match ab_own[q.1]? with
  | some O => (q.2.2.2.1 == 0 && ab_gsn.any (fun z => z.1 == q.2.2.1 && decide (lw_tbl[q.2.2.2.2]? = some (.fieldLink O q.2.1 "CodeSmith$Statement" z.2.1 z.2.2)))) || (q.2.2.2.1 == 1 && q.2.2.1 == 1 && decide (lw_tbl[q.2.2.2.2]? = some (.fieldLink O q.2.1 "java/lang/String" "COMPACT_STRINGS" "Z"))) || (q.2.2.2.1 == 2 && q.2.2.1 == 500 && O == "CodeSmith$Assembler" && q.2.1 == 179)
  | _ => false
set_option maxRecDepth 1000000 in
theorem ab_pG_all : ab_pG.all ab_pG_ok = true := by decide +kernel
end
section
section AB8
variable {p : Program} {l : Launch} {e : Env} {R : Room} {s : State} {m : MethodId} {args : Array Value} {below : List Frame} {meth : Method} {c : Code} {H : Heap} {locs : List Loc} {cells slots : Nat} {Q : State → Prop} {cc : ByteArray} {pc : Nat} {ls : Array Slot} {N0 : Nat} {adS : Nat → Nat} {own : String} {Ts : List Cond} {st st' : List Value} {o a b len : Nat} {i : Instr}
/-- an instruction's row, taken apart -/
theorem ab_eok_dec (h : ab_eok o cc (pc, i, len, a, b) = true) : decode cc pc = .ok (i, len) ∧ (len = ab_len i ∨ ab_len i = 0) ∧ ab_tok i pc a = true := by
  unfold ab_eok at h
  simp only [Bool.and_eq_true, decide_eq_true_eq, Bool.or_eq_true, beq_iff_eq] at h
  exact ⟨h.1.1.1, h.1.1.2, h.1.2⟩
theorem ab_eok_len (h : ab_eok o cc (pc, i, len, a, b) = true) (hn : ab_len i ≠ 0) : decode cc pc = .ok (i, ab_len i) := by
  obtain ⟨h1, h2, -⟩ := ab_eok_dec h
  rcases h2 with h2 | h2
  · rw [← h2]; exact h1
  · exact absurd h2 hn
theorem ab_con_sim (hx : p.tables.exec = Jvm.exec) (hb : c.code = cc) (hown : s.vm.findClass own = some m.cls) (hts : ∀ w ∈ Ts, w.before args s = true) (hT : ∀ w ∈ ab_T, w ∈ Ts) (hSW : ab_SW N0 adS s s.heap) (hS : va_S (ab_A N0) s.heap H locs) (ho : ab_own[o]? = some own)
    (hk : ab_eok o cc (pc, i, len, a, b) = true) (h : ab_con i a b st = some st') (k : W p l e R s m args below meth c H locs cells slots Q (F0 m (pc + ab_len i) ls (st'.map (ab_rv N0 adS)))) : W p l e R s m args below meth c H locs cells slots Q (F0 m pc ls (st.map (ab_rv N0 adS))) := by
  obtain ⟨w1, w2, w3, w4, w5, w6, w7, w8, w9, w10, w11, w12⟩ := hSW
  cases i
  case ldc idx =>
    have hd := ab_eok_len hk (by simp [ab_len])
    unfold ab_eok at hk
    simp only [Bool.and_eq_true, Bool.or_eq_true, beq_iff_eq] at hk
    rcases hk.2 with ⟨h1, h2⟩ | ⟨h1, h2⟩
    · simp only [ab_con] at h
      rw [if_pos h1] at h
      cases h
      exact lv_ldc hx hb hown (hts _ (hT _ (List.mem_filter.mpr ⟨ab_pK_use ho h2, ab_goodc _ _ _⟩))) hd k
    · simp only [ab_con] at h
      rw [if_neg (by omega)] at h
      cases h
      obtain ⟨tx, htx⟩ := ab_pT_use ho h2
      exact va_ldcS hx hb hown (w7 _ htx) hd k
  case ldc_w idx =>
    have hd := ab_eok_len hk (by simp [ab_len])
    unfold ab_eok at hk
    simp only [Bool.and_eq_true, Bool.or_eq_true, beq_iff_eq] at hk
    simp only [ab_con] at h
    rw [if_pos hk.2.1] at h
    cases h
    exact lv_ldcw hx hb hown (hts _ (hT _ (List.mem_filter.mpr ⟨ab_pK_use ho hk.2.2, ab_goodc _ _ _⟩))) hd k
  case ldc2_w idx =>
    have hd := ab_eok_len hk (by simp [ab_len])
    unfold ab_eok at hk
    rw [Bool.and_eq_true] at hk
    cases h
    exact lv_ldc2 hx hb hown (hts _ (hT _ (List.mem_filter.mpr ⟨ab_pL_use ho hk.2, ab_goodl _ _ _⟩))) hd k
  case getstatic idx =>
    have hd := ab_eok_len hk (by simp [ab_len])
    unfold ab_eok at hk
    rw [Bool.and_eq_true] at hk
    obtain ⟨z, hz, hq⟩ := List.any_eq_true.mp hk.2
    have h1 := List.all_eq_true.mp ab_pG_all z hz
    simp only [Bool.and_eq_true, beq_iff_eq] at hq
    obtain ⟨⟨⟨e1, e2⟩, e3⟩, e4⟩ := hq
    unfold ab_pG_ok at h1
    rw [e1, ho] at h1
    simp only [Bool.and_eq_true, Bool.or_eq_true, beq_iff_eq, e2, e3] at h1
    rcases h1 with (⟨g1, g2⟩ | ⟨⟨g1, g2⟩, g3⟩) | ⟨⟨⟨g1, g2⟩, g3⟩, g4⟩
    · have hb1 : b ≠ 1 := by
        intro hb1
        rw [g1, hb1] at e4
        exact absurd e4 (by decide)
      simp only [ab_con] at h
      rw [if_neg hb1] at h
      cases h
      obtain ⟨y, hy, hy2⟩ := List.any_eq_true.mp g2
      simp only [Bool.and_eq_true, beq_iff_eq, decide_eq_true_eq] at hy2
      rw [← hy2.1] at k
      exact va_gets hx hb (w4 y hy) hS hown (hts _ (hT _ (ab_T_in hy2.2 rfl))) (fun _ q => q) hd k
    · have hb1 : b = 1 := by
        rw [g1] at e4
        simpa using e4
      subst g2
      simp only [ab_con] at h
      rw [if_pos hb1] at h
      cases h
      exact va_gets hx hb w6 hS hown (hts _ (hT _ (ab_T_in (of_decide_eq_true g3) rfl))) (fun _ q => q) hd k
    · have hb1 : b ≠ 1 := by
        intro hb1
        rw [g1, hb1] at e4
        exact absurd e4 (by decide)
      subst g2; subst g3; subst g4
      simp only [ab_con] at h
      rw [if_neg hb1] at h
      cases h
      exact va_getsN hx hb w5 hS hown (va_Nw.use rfl w11) (fun _ q => q) hd k
  case getfield idx =>
    have hd := ab_eok_len hk (by simp [ab_len])
    simp only [ab_con] at h
    split at h
    · rename_i ha
      unfold ab_eok at hk
      simp only [Bool.and_eq_true, Bool.or_eq_true, beq_iff_eq] at hk
      have hp : ab_pF2.any (fun z => z.1 == o && z.2.1 == idx && z.2.2.1 == b) = true := by
        rcases hk.2 with h1 | h1
        · obtain ⟨C, hC, -, -⟩ := ab_pf_use ho h1
          rw [ha] at hC
          simp at hC
        · exact h1.2
      obtain ⟨f, hf, hlk⟩ := ab_pF2_use ho hp
      unfold ab_sfget at h
      split at h
      · rename_i q r
        split at h
        · rename_i v hv
          cases h
          exact vk_getf hx hb (w2 b q v hv f hf) hS hown (hts _ (hT _ hlk)) (fun _ q => q) hd k
        · cases h
      · cases h
    · cases h
  case arraylength =>
    have hd := ab_eok_len hk (by simp [ab_len])
    simp only [ab_con, ab_slen] at h
    split at h
    · rename_i q r
      split at h
      · rename_i h5
        cases h
        subst h5
        exact va_tlen hx hb w3 hS rfl hd k
      · split at h
        · rename_i h2
          split at h
          · rename_i t ht
            cases h
            have h3 : q - 200 < 106 := (List.getElem?_eq_some_iff.mp ht).1
            have h4 := (w1 (q - 200) h3).2
            rw [show 200 + (q - 200) = q by omega] at h4
            have h6 : ab_strs.getD (q - 200) [] = t := by rw [List.getD_eq_getElem?_getD, ht]; rfl
            rw [h6] at h4
            exact va_tlen hx hb h4 hS rfl hd k
          · cases h
        · cases h
    · cases h
  case baload =>
    have hd := ab_eok_len hk (by simp [ab_len])
    simp only [ab_con, ab_sbld] at h
    split at h
    · rename_i j q r
      split at h
      · rename_i h2
        split at h
        · rename_i t ht
          split at h
          · rename_i hj
            cases h
            have h3 : q - 200 < 106 := (List.getElem?_eq_some_iff.mp ht).1
            have h4 := (w1 (q - 200) h3).2
            rw [show 200 + (q - 200) = q by omega] at h4
            have h6 : ab_strs.getD (q - 200) [] = t := by rw [List.getD_eq_getElem?_getD, ht]; rfl
            rw [h6] at h4
            exact va_tb hx hb h4 hS hj rfl hd k
          · cases h
        · cases h
      · cases h
    · cases h
  case aaload =>
    have hd := ab_eok_len hk (by simp [ab_len])
    simp only [ab_con, ab_sald] at h
    split at h
    · rename_i j q r
      split at h
      · rename_i hj
        cases h
        obtain ⟨hj1, hj2⟩ := hj
        subst hj1
        exact vb_tq hx hb w3 hS hj2 rfl hd k
      · cases h
    · cases h
  all_goals (simp only [ab_con, reduceCtorEq] at h)
theorem ab_acmp_sim {pc' : Nat} (hx : p.tables.exec = Jvm.exec) (hb : c.code = cc) (hSW : ab_SW N0 adS s s.heap) (hk : ab_eok o cc (pc, i, len, a, b) = true) (h : ab_acmp i pc a st = some (pc', st'))
    (k : W p l e R s m args below meth c H locs cells slots Q (F0 m pc' ls (st'.map (ab_rv N0 adS)))) : W p l e R s m args below meth c H locs cells slots Q (F0 m pc ls (st.map (ab_rv N0 adS))) := by
  unfold ab_acmp at h
  split at h
  · rename_i off
    have hd := ab_eok_len hk (by simp [ab_len])
    have ht := (ab_eok_dec hk).2.2
    have ht2 : (pc : Int) + off = (a : Int) := by simpa [ab_tok] using ht
    split at h
    · rename_i y x r
      split at h
      · rename_i hc
        cases h
        obtain ⟨⟨c1, c2⟩, c3, c4⟩ := hc
        have hinj : adS x = adS y → x = y := by
          intro q
          have h9 := hSW.2.2.2.2.2.2.2.1 (x - 400) (y - 400) (by omega) (by omega) (by rw [show 400 + (x - 400) = x by omega, show 400 + (y - 400) = y by omega]; exact q)
          omega
        refine lv_acmp_ne (rx := some (adS x)) (ry := some (adS y)) hx hb hd ht2 (fun q => ?_) (fun q => ?_)
        · have h9 : (x == y) = false := by
            simp only [beq_eq_false_iff_ne, ne_eq]
            intro h8
            exact q (by rw [h8])
          rw [h9] at k
          exact k
        · have h9 : (x == y) = true := by
            simp only [beq_iff_eq]
            exact hinj (Option.some.inj q)
          rw [h9] at k
          exact k
      · cases h
    · cases h
  · cases h
end AB8
end
section
/-! THE ABSTRACT MACHINE, whole: natives, calls, returns, throws; ab_go n d mi pc l st h: at most n steps and d calls deep, from place pc of method mi. Its answer: (returned v, or thrown; the heap). -/
def ab_cat (r : List Value) : Nat := (r.map fun v => v.category).sum
def ab_cpy (h : ab_H) (st : List Value) : Option (List Value × ab_H) := match st with
  | .int n :: .int dp :: .ref j1 :: .int sp :: .ref j0 :: r => match h[j0]?, h[j1]? with
    | some (.inl (t0, n0, .inl f)), some (.inl (t1, n1, .inl g)) => if t0 = 1 ∧ t1 = 1 ∧ ¬ sp < 0 ∧ ¬ dp < 0 ∧ ¬ n < 0 ∧ sp.toNatClampNeg + n.toNatClampNeg ≤ n0 ∧ dp.toNatClampNeg + n.toNatClampNeg ≤ n1 ∧ ab_cat r ≤ 8 then some (r, h.set j1 (.inl (t1, n1, .inl (va_cpy f g sp.toNatClampNeg dp.toNatClampNeg n.toNatClampNeg))))
      else if t0 = 0 ∧ t1 = 0 ∧ ¬ sp < 0 ∧ ¬ dp < 0 ∧ ¬ n < 0 ∧ sp.toNatClampNeg + n.toNatClampNeg ≤ n0 ∧ dp.toNatClampNeg + n.toNatClampNeg ≤ n1 ∧ ab_cat r ≤ 8 ∧ (∀ i, i < n.toNatClampNeg → fits .byte (.int (f (sp.toNatClampNeg + i))) = true) then some (r, h.set j1 (.inl (t1, n1, .inl (va_cpy f g sp.toNatClampNeg dp.toNatClampNeg n.toNatClampNeg)))) else none
    | _, _ => none
  | _ => none
def ab_mm (f : Int32 → Int32 → Int32) (h : ab_H) (st : List Value) : Option (List Value × ab_H) := match st with
  | .int y :: .int x :: r => if ab_cat r ≤ 8 then some (.int (f x y) :: r, h) else none
  | _ => none
def ab_obj (h : ab_H) (st : List Value) : Option (List Value × ab_H) := match st with
  | .ref _ :: r => if ab_cat r ≤ 8 then some (r, h) else none
  | _ => none
def ab_nat (i : Instr) (a : Nat) (h : ab_H) (st : List Value) : Option (List Value × ab_H) := match i with
  | .invokestatic _ => if a = 997 then ab_mm (fun x y => if y < x then y else x) h st else if a = 996 then ab_mm (fun x y => if x < y then y else x) h st else if a = 999 then ab_cpy h st else none
  | .invokespecial _ => if a = 998 then ab_obj h st else none
  | _ => none
def ab_nx (M : ab_M) (i : Instr) (a b pc : Nat) (l : ab_L) (st : List Value) (h : ab_H) : Option (Nat × ab_L × List Value × ab_H) :=
  match ab_op i st with
  | some st' => some (pc + ab_len i, l, st', h)
  | none => match ab_ld i l with
    | some v => some (pc + ab_len i, l, v :: st, h)
    | none => match ab_sto M.2.2.2.1 i l st with
      | some q => some (pc + ab_len i, q.1, q.2, h)
      | none => match ab_br i pc a st with
        | some q => some (q.1, l, q.2, h)
        | none => match ab_hp (M.2.1.name == "<init>") M.2.1.cls i a b h st with
          | some q => some (pc + ab_len i, l, q.1, q.2)
          | none => match ab_con i a b st with
            | some st' => some (pc + ab_len i, l, st', h)
            | none => match ab_acmp i pc a st with
              | some q => some (q.1, l, q.2, h)
              | none => match ab_nat i a h st with
                | some q => some (pc + 3, l, q.1, q.2)
                | none => none
def ab_nar (ty : FieldType) (v : Int32) : Bool := match ty with
  | .int => true
  | .boolean => v == 0 || v == 1
  | ty => decide (narrow ty (.int v) = .int v)
def ab_isr (rt : Option FieldType) : Bool := match rt with
  | some (.object _) => true
  | some (.array _) => true
  | _ => false
def ab_ret (rt : Option FieldType) (i : Instr) (st : List Value) : Option (Option Value) := match i with
  | .return_ => match st, rt with
    | [], none => some none
    | _, _ => none
  | .ireturn => match st, rt with
    | [.int v], some ty => if ab_nar ty v = true then some (some (.int v)) else none
    | _, _ => none
  | .lreturn => match st, rt with
    | [.long v], some .long => some (some (.long v))
    | _, _ => none
  | .areturn => match st with
    | [.ref j] => if ab_isr rt = true then some (some (.ref j)) else none
    | [.retAddr j] => if ab_isr rt = true then some (some (.retAddr j)) else none
    | [.null] => if ab_isr rt = true then some (some .null) else none
    | _ => none
  | _ => none
/-- the one place that throws: Tokens.fail's 'new' (its five instructions are one step here) -/
def ab_thr (mi pc : Nat) (st : List Value) : Bool := mi == 46 && pc == 23 && decide (ab_cat st ≤ 8)
/-- a call: its arguments, and what stays on the stack -/
def ab_inv (i : Instr) (a b : Nat) (C : String) (h : ab_H) (st : List Value) : Option (List Value × List Value) := match i with
  | .invokevirtual _ => match st.drop b with
    | .ref j :: r => match h[j]? with
      | some (.inr ob) => if ab_cn ob.1 = C ∧ (st.take b).length = b ∧ ab_cat r ≤ 8 then some (.ref j :: (st.take b).reverse, r) else none
      | _ => none
    | .retAddr k :: r => if "java/lang/String" = C ∧ k < 106 ∧ (st.take b).length = b ∧ ab_cat r ≤ 8 then some (.retAddr k :: (st.take b).reverse, r) else none
    | _ => none
  | .invokestatic _ => if (st.take b).length = b ∧ ab_cat (st.drop b) ≤ 8 then some ((st.take b).reverse, st.drop b) else none
  | .invokespecial _ => match st.drop b with
    | .ref j :: r => if (st.take b).length = b ∧ ab_cat r ≤ 8 then some (.ref j :: (st.take b).reverse, r) else none
    | _ => none
  | _ => none
/-- a constructor's call: its callee doesn't throw -/
def ab_sp (i : Instr) : Bool := match i with
  | .invokespecial _ => true
  | _ => false
def ab_fetch (code : List ab_I) (pc : Nat) : Option (Instr × Nat × Nat × Nat) := match code.find? (fun q => q.1 == pc) with
  | some q => some q.2
  | none => none
def ab_go : Nat → Nat → Nat → Nat → ab_L → List Value → ab_H → Option ((Option Value ⊕ Unit) × ab_H)
  | 0, _, _, _, _, _, _ => none
  | n + 1, d, mi, pc, l, st, h => match ab_prog[mi]? with
    | none => none
    | some P => match ab_fetch P.2 pc with
      | none => none
      | some q => match ab_nx P.1 q.1 q.2.2.1 q.2.2.2 pc l st h with
        | some z => ab_go n d mi z.1 z.2.1 z.2.2.1 z.2.2.2
        | none => match ab_ret P.1.2.2.2.2.1 q.1 st with
          | some v => some (.inl v, h)
          | none => bif ab_thr mi pc st then some (.inr (), h ++ [.inr (7, [])]) else match ab_prog[q.2.2.1]? with
            | none => none
            | some P2 => match ab_inv q.1 q.2.2.1 P2.1.2.2.2.2.2.1 P2.1.2.1.cls h st with
              | none => none
              | some z => match d with
                | 0 => none
                | d' + 1 => if (lg_sl z.1).length ≤ P2.1.2.2.2.1 then (match ab_go n d' q.2.2.1 0 (lv_args 0 z.1) [] h with
                  | none => none
                  | some (.inl v, h') => ab_go n (d' + 1) mi (pc + 3) l (v.toList ++ z.2) h'
                  | some (.inr u, h') => bif ab_sp q.1 then none else some (.inr u, h')) else none
theorem ab_set_mono {h : ab_H} {i : Nat} {x y : ab_C} (e : h[i]? = some x) (hz : ab_sz1 y = ab_sz1 x) : h.length ≤ (h.set i y).length ∧ ab_sz h ≤ ab_sz (h.set i y) := by
  rw [ab_sz_set e hz]; simp
/-- the heap only grows -/
theorem ab_hp_mono {ini : Bool} {own : String} {i : Instr} {a b : Nat} {h h' : ab_H} {st st' : List Value} (e : ab_hp ini own i a b h st = some (st', h')) : h.length ≤ h'.length ∧ ab_sz h ≤ ab_sz h' := by
  cases i <;> simp only [ab_hp, reduceCtorEq] at e
  case getfield => cases hq : ab_fget a b h st <;> rw [hq] at e <;> cases e; exact ⟨Nat.le_refl _, Nat.le_refl _⟩
  case arraylength => cases hq : ab_alen h st <;> rw [hq] at e <;> cases e; exact ⟨Nat.le_refl _, Nat.le_refl _⟩
  case iaload => cases hq : ab_ald 1 h st <;> rw [hq] at e <;> cases e; exact ⟨Nat.le_refl _, Nat.le_refl _⟩
  case baload => cases hq : ab_ald 0 h st <;> rw [hq] at e <;> cases e; exact ⟨Nat.le_refl _, Nat.le_refl _⟩
  case laload => cases hq : ab_lald h st <;> rw [hq] at e <;> cases e; exact ⟨Nat.le_refl _, Nat.le_refl _⟩
  case putfield =>
    unfold ab_fput at e
    split at e
    · split at e
      · rename_i ob hob
        split at e
        · cases e
          exact ab_set_mono hob (by simp [ab_sz1])
        · cases e
      · cases e
    · cases e
  case iastore =>
    unfold ab_ast at e
    split at e
    · split at e
      · rename_i hob
        split at e
        · cases e
          exact ab_set_mono hob rfl
        · cases e
      · cases e
    · cases e
  case bastore =>
    unfold ab_ast at e
    split at e
    · split at e
      · rename_i hob
        split at e
        · cases e
          exact ab_set_mono hob rfl
        · cases e
      · cases e
    · cases e
  case lastore =>
    unfold ab_last at e
    split at e
    · split at e
      · rename_i hob
        split at e
        · cases e
          exact ab_set_mono hob rfl
        · cases e
      · cases e
    · cases e
  case new =>
    unfold ab_nw at e
    split at e
    · cases e
      rw [ab_sz_push]
      simp
    · cases e
  case newarray =>
    unfold ab_nwa at e
    split at e
    · split at e
      · cases e
        rw [ab_sz_push]
        simp
      · cases e
    · cases e
theorem ab_nat_mono {i : Instr} {a : Nat} {h h' : ab_H} {st st' : List Value} (e : ab_nat i a h st = some (st', h')) : h.length ≤ h'.length ∧ ab_sz h ≤ ab_sz h' := by
  have hmm : ∀ f, ab_mm f h st = some (st', h') → h.length ≤ h'.length ∧ ab_sz h ≤ ab_sz h' := by
    intro f e
    unfold ab_mm at e
    split at e
    · split at e
      · cases e; exact ⟨Nat.le_refl _, Nat.le_refl _⟩
      · cases e
    · cases e
  cases i <;> simp only [ab_nat, reduceCtorEq] at e
  case invokespecial =>
    split at e
    · unfold ab_obj at e
      split at e
      · split at e
        · cases e; exact ⟨Nat.le_refl _, Nat.le_refl _⟩
        · cases e
      · cases e
    · cases e
  case invokestatic =>
    split at e
    · exact hmm _ e
    · split at e
      · exact hmm _ e
      · split at e
        · unfold ab_cpy at e
          split at e
          · split at e
            · rename_i hob
              split at e
              · cases e
                exact ab_set_mono hob rfl
              · split at e
                · cases e
                  exact ab_set_mono hob rfl
                · cases e
            · cases e
          · cases e
        · cases e
theorem ab_nx_mono {M : ab_M} {i : Instr} {a b pc : Nat} {l : ab_L} {st : List Value} {h : ab_H} {z : Nat × ab_L × List Value × ab_H} (e : ab_nx M i a b pc l st h = some z) : h.length ≤ z.2.2.2.length ∧ ab_sz h ≤ ab_sz z.2.2.2 := by
  unfold ab_nx at e
  repeat' split at e
  all_goals first | (cases e; exact ⟨Nat.le_refl _, Nat.le_refl _⟩) | (cases e; done) | (cases e; rename_i hq; exact ab_hp_mono hq) | (cases e; rename_i hq; exact ab_nat_mono hq)
theorem ab_go_mono : ∀ (n d mi pc : Nat) (l : ab_L) (st : List Value) (h : ab_H) (o : Option Value ⊕ Unit) (h' : ab_H), ab_go n d mi pc l st h = some (o, h') → h.length ≤ h'.length ∧ ab_sz h ≤ ab_sz h' := by
  intro n
  induction n with
  | zero => intro d mi pc l st h o h' e; cases e
  | succ n ih =>
    intro d mi pc l st h o h' e
    unfold ab_go at e
    split at e
    · cases e
    · split at e
      · cases e
      · split at e
        · rename_i hz
          have h1 := ab_nx_mono hz
          have h2 := ih _ _ _ _ _ _ _ _ e
          exact ⟨Nat.le_trans h1.1 h2.1, Nat.le_trans h1.2 h2.2⟩
        · split at e
          · cases e; exact ⟨Nat.le_refl _, Nat.le_refl _⟩
          · cases hb : ab_thr _ _ st with
            | true =>
              rw [hb] at e
              cases e
              rw [ab_sz_push]
              simp
            | false =>
              rw [hb] at e
              simp only [cond_false] at e
              split at e
              · cases e
              · split at e
                · cases e
                · split at e
                  · cases e
                  · rename_i d'
                    split at e
                    · split at e
                      · cases e
                      · rename_i hq
                        have h1 := ih _ _ _ _ _ _ _ _ hq
                        have h2 := ih _ _ _ _ _ _ _ _ e
                        exact ⟨Nat.le_trans h1.1 h2.1, Nat.le_trans h1.2 h2.2⟩
                      · rename_i hq
                        revert e
                        cases ab_sp _ with
                        | true => intro e; cases e
                        | false =>
                          intro e
                          cases e
                          exact ih _ _ _ _ _ _ _ _ hq
                    · cases e
end
section
/-! THE MACHINE FOLLOWS THE ABSTRACT MACHINE. First: what the tables say of a call. -/
def ab_pV_ok (q : Nat × Nat × Nat × Nat × Nat × Nat) : Bool := match ab_own[q.1]?, ab_prog[q.2.2.1]? with
  | some O, some P => decide (lw_tbl[q.2.2.2.1]? = some (.methodLink O q.2.1 P.1.2.1)) && decide (lw_tbl[q.2.2.2.2.1]? = some (.instanceMethod P.1.2.1)) && decide (lw_tbl[q.2.2.2.2.2]? = some (.selects P.1.2.1.cls P.1.2.1 P.1.2.1))
  | _, _ => false
set_option maxRecDepth 1000000 in
theorem ab_pV_all : ab_pV.all ab_pV_ok = true := by decide +kernel
def ab_pS_ok (q : Nat × Nat × Nat × Nat × Nat) : Bool := match ab_own[q.1]? with
  | some O => if q.2.2.1 = 999 then decide (lw_tbl[q.2.2.2.1]? = some (.methodLink O q.2.1 arraycopyName)) else if q.2.2.1 = 997 then decide (lw_tbl[q.2.2.2.1]? = some (.methodLink O q.2.1 Lib.Math.min.name)) else if q.2.2.1 = 996 then decide (lw_tbl[q.2.2.2.1]? = some (.methodLink O q.2.1 Lib.Math.max.name)) else (match ab_prog[q.2.2.1]? with
    | some P => decide (lw_tbl[q.2.2.2.1]? = some (.methodLink O q.2.1 P.1.2.1)) && decide (lw_tbl[q.2.2.2.2]? = some (.static P.1.2.1))
    | none => false)
  | _ => false
set_option maxRecDepth 1000000 in
theorem ab_pS_all : ab_pS.all ab_pS_ok = true := by decide +kernel
def ab_pI_ok (q : Nat × Nat × Nat × Nat × Nat) : Bool := match ab_own[q.1]? with
  | some O => if q.2.2.1 = 998 then decide (lw_tbl[q.2.2.2.1]? = some (.methodLink O q.2.1 Lib.objectInit)) else (match ab_prog[q.2.2.1]? with
    | some P => (decide (lw_tbl[q.2.2.2.1]? = some (.methodLink O q.2.1 P.1.2.1)) || ab_nst.any (fun z => decide (z.1 = O) && decide (z.2.1 = q.2.1) && decide (z.2.2.1 = P.1.2.1))) && decide (lw_tbl[q.2.2.2.2]? = some (.instanceMethod P.1.2.1)) && decide (P.1.2.1.name = "<init>") && decide (P.1.2.2.2.2.1 = none)
    | none => false)
  | _ => false
set_option maxRecDepth 1000000 in
theorem ab_pI_all : ab_pI.all ab_pI_ok = true := by decide +kernel
set_option maxRecDepth 1000000 in
theorem ab_own_ini : ab_own.all (fun O => decide (Cond.initialized O ∈ lw_tbl)) = true := by decide +kernel
set_option maxRecDepth 1000000 in
theorem ab_natw : Cond.native arraycopyName ∈ lw_tbl ∧ Cond.static arraycopyName ∈ lw_tbl ∧ Cond.initialized "java/lang/System" ∈ lw_tbl ∧ Cond.static Lib.Math.min.name ∈ lw_tbl ∧ Cond.static Lib.Math.max.name ∈ lw_tbl ∧ Cond.initialized "java/lang/Math" ∈ lw_tbl ∧ Cond.code Lib.Math.min.name Lib.Math.min.code 2 (some .int) ∈ lw_tbl ∧ Cond.code Lib.Math.max.name Lib.Math.max.code 2 (some .int) ∈ lw_tbl ∧ Cond.instanceMethod Lib.objectInit ∈ lw_tbl ∧ Cond.code Lib.objectInit ⟨#[0xb1]⟩ 1 none ∈ lw_tbl := by decide +kernel
theorem ab_prog_at {mi : Nat} {P : ab_M × List ab_I} (h : ab_prog[mi]? = some P) : ab_hok P.1 = true ∧ P.2.all (ab_eok P.1.1 P.1.2.2.1) = true := by
  have h1 := List.all_eq_true.mp ab_prog_ok P (List.mem_of_getElem? h)
  unfold ab_mok at h1
  rw [Bool.and_eq_true] at h1
  exact h1
theorem ab_hok_at {M : ab_M} (h : ab_hok M = true) : Cond.code M.2.1 M.2.2.1 M.2.2.2.1 M.2.2.2.2.1 ∈ ab_T ∧ ab_own[M.1]? = some M.2.1.cls ∧ Jvm.plainName M.2.1.cls = true ∧ (parseMethodDescriptor M.2.1.desc).map (fun d => d.parameters.length) = some M.2.2.2.2.2.1 ∧ (M.2.1.cls ≠ "java/lang/invoke/MethodHandle" ∧ M.2.1.cls ≠ "java/lang/invoke/VarHandle") ∧ M.2.2.2.1 ≤ 20 := by
  unfold ab_hok at h
  simp only [Bool.and_eq_true, decide_eq_true_eq] at h
  obtain ⟨⟨⟨⟨⟨h1, h2⟩, h3⟩, h4⟩, h5⟩, h6⟩ := h
  exact ⟨ab_T_in h1 rfl, h2, h3, h4, h5, h6⟩
theorem ab_own_T {o : Nat} {O : String} (h : ab_own[o]? = some O) : Cond.initialized O ∈ ab_T := List.mem_filter.mpr ⟨of_decide_eq_true (List.all_eq_true.mp ab_own_ini O (List.mem_of_getElem? h)), rfl⟩
theorem ab_fetch_ok {o : Nat} {cc : ByteArray} {code : List ab_I} {pc : Nat} {q : Instr × Nat × Nat × Nat} (h : code.all (ab_eok o cc) = true) (e : ab_fetch code pc = some q) : ab_eok o cc (pc, q) = true := by
  unfold ab_fetch at e
  split at e
  · rename_i z hz
    cases e
    have h1 : z.1 = pc := by simpa using List.find?_some hz
    have h2 := List.all_eq_true.mp h z (List.mem_of_find?_eq_some hz)
    rw [← h1]
    exact h2
  · cases e
theorem ab_rl_args (N0 : Nat) (adS : Nat → Nat) : ∀ (vs : List Value) (i : Nat), lv_args i (vs.map (ab_rv N0 adS)) = ab_rl N0 adS (lv_args i vs) := by
  intro vs
  induction vs with
  | nil => intro i; rfl
  | cons v vs ih =>
    intro i
    show (i, ab_rv N0 adS v) :: lv_args (if (ab_rv N0 adS v).category = 2 then i + 2 else i + 1) (vs.map (ab_rv N0 adS)) = ab_rl N0 adS ((i, v) :: lv_args (if v.category = 2 then i + 2 else i + 1) vs)
    rw [ih, ab_rv_cat]
    rfl
theorem ab_lg_len (N0 : Nat) (adS : Nat → Nat) : ∀ vs : List Value, (lg_sl (vs.map (ab_rv N0 adS))).length = (lg_sl vs).length := by
  intro vs
  induction vs with
  | nil => rfl
  | cons v vs ih =>
    simp only [lg_sl, List.map_cons, List.flatMap_cons, List.length_append] at ih ⊢
    rw [ih, ab_rv_cat]
    congr 1
    split <;> rfl
theorem ab_cat_rv (N0 : Nat) (adS : Nat → Nat) (r : List Value) : ((r.map (ab_rv N0 adS)).map fun v => v.category).sum = ab_cat r := by
  unfold ab_cat
  rw [List.map_map]
  congr 1
  apply List.map_congr_left
  intro v _
  exact ab_rv_cat N0 adS v
/-- a callee that doesn't throw -/
theorem ab_toMet {l : Launch} {y : MethodName} {ws : List Cond} {rm : Room} {Pc : Array Value → State → Prop} {Qc : Array Value → State → Outcome → State → Prop} {XC : String → State → State → Prop} {mc ms : Nat} {free : Addr → Prop} (hX : ∀ E st t, ¬ XC E st t) (h : vx_Met l y ws rm Pc Qc XC mc ms free) : Met l y ws rm Pc Qc mc ms free := by
  intro p e ha hc hk s m args below hf happ hP hK
  obtain ⟨n, o, h1, h2, h3, h4⟩ := h p e ha hc hk s m args below hf happ hP hK
  refine ⟨n, o, h1, h2, h3, ?_⟩
  rcases h4 with h4 | ⟨q, -, E, ce, L, hx, -⟩
  · exact h4
  · exact absurd hx (hX _ _ _)
def ab_Q (D : va_G) (cA : Nat → ClassId) (N0 : Nat) (adS : Nat → Nat) (o : Option Value ⊕ Unit) (h' : ab_H) : Array Value → State → Outcome → State → Prop := fun _ st oc t => ∃ v, o = .inl v ∧ oc = .returned (v.map (ab_rv N0 adS)) ∧ ab_Wd D cA N0 adS h' t.heap ∧ va_F (ab_A N0) st t
def ab_X (D : va_G) (cA : Nat → ClassId) (N0 : Nat) (adS : Nat → Nat) (o : Option Value ⊕ Unit) (h' : ab_H) : String → State → State → Prop := fun E st t => o = .inr () ∧ E = "java/lang/IllegalArgumentException" ∧ ab_Wd D cA N0 adS h' t.heap ∧ va_F (ab_A N0) st t
def ab_P (D : va_G) (cA : Nat → ClassId) (N0 : Nat) (adS : Nat → Nat) (vs : List Value) (h : ab_H) : Array Value → State → Prop := va_Pc (vs.map (ab_rv N0 adS)) (fun U => va_K D ab_cl (ab_tys cA) U ∧ ab_Wd D cA N0 adS h U.heap ∧ U.heap.size = N0 + h.length ∧ ab_SW N0 adS U U.heap)
theorem ab_P_blind (D : va_G) (cA : Nat → ClassId) (N0 : Nat) (adS : Nat → Nat) (vs : List Value) (h : ab_H) : FrameBlind (ab_P D cA N0 adS vs h) := by
  intro a U g mk q
  obtain ⟨q1, q2, q3, q4, q5⟩ := q
  exact ⟨q1, va_K.moved (u := U) (U := U.calling g mk a) (Vm.Alike.refl U.vm) q2, q3, q4, ab_SW.same (s := U) (U := U.calling g mk a) rfl q5⟩
abbrev ab_wm (M : ab_M) : List Cond := .code M.2.1 M.2.2.1 M.2.2.2.1 M.2.2.2.2.1 :: ab_T
def ab_rm (d mc ms : Nat) : Room := { frames := d + 10, cells := mc, slots := ms, locals := 40 * d + 200 }
/-- what holds all along a method's body -/
def ab_Cx (p : Program) (l : Launch) (s : State) (m : MethodId) (args : Array Value) (meth : Method) (c : Code) (M : ab_M) : Prop :=
  p.tables.exec = Jvm.exec ∧ c.code = M.2.2.1 ∧ c.maxLocals = M.2.2.2.1 ∧ s.vm.findClass M.2.1.cls = some m.cls ∧ (∀ w ∈ ab_wm M, w.before args s = true) ∧ meth.sig.returnType = M.2.2.2.2.1 ∧ meth.locks = false ∧ (∀ x ∈ c.exceptionTable.toList, False) ∧ meth.name = M.2.1.name ∧ l.stackTraces = false
end
section
section AB10
variable {p : Program} {l : Launch} {e : Env} {R : Room} {s : State} {m : MethodId} {args : Array Value} {below : List Frame} {meth : Method} {c : Code} {H : Heap} {locs : List Loc} {cells slots : Nat} {Q : State → Prop} {pc : Nat} {ls : Array Slot} {N0 : Nat} {adS : Nat → Nat} {D : va_G} {cA : Nat → ClassId} {h h' : ab_H} {M : ab_M} {st st' : List Value} {a b len n0 : Nat} {i : Instr} {lv : ab_L}
theorem ab_pS_use {o idx a : Nat} {own : String} (ho : ab_own[o]? = some own) (h : ab_pS.any (fun z => z.1 == o && z.2.1 == idx && z.2.2.1 == a) = true) : ∃ z, ab_pS_ok z = true ∧ z.1 = o ∧ z.2.1 = idx ∧ z.2.2.1 = a := by
  obtain ⟨z, hz, hq⟩ := List.any_eq_true.mp h
  simp only [Bool.and_eq_true, beq_iff_eq] at hq
  exact ⟨z, List.all_eq_true.mp ab_pS_all z hz, hq.1.1, hq.1.2, hq.2⟩
theorem ab_pI_use {o idx a : Nat} {own : String} (ho : ab_own[o]? = some own) (h : ab_pI.any (fun z => z.1 == o && z.2.1 == idx && z.2.2.1 == a) = true) : ∃ z, ab_pI_ok z = true ∧ z.1 = o ∧ z.2.1 = idx ∧ z.2.2.1 = a := by
  obtain ⟨z, hz, hq⟩ := List.any_eq_true.mp h
  simp only [Bool.and_eq_true, beq_iff_eq] at hq
  exact ⟨z, List.all_eq_true.mp ab_pI_all z hz, hq.1.1, hq.1.2, hq.2⟩
theorem ab_T_w {w : Cond} (h : w ∈ lw_tbl) (g : goodWord w = true) {M : ab_M} : w ∈ ab_wm M := List.mem_cons_of_mem _ (List.mem_filter.mpr ⟨h, g⟩)
/-- the natives -/
theorem ab_nat_sim (X : ab_Cx p l s m args meth c M) (hM : ab_hok M = true) (hK : va_K D ab_cl (ab_tys cA) s) (hW : ab_Wd D cA N0 adS h H) (hS : va_S (ab_A N0) s.heap H locs) (hls : ls.size = M.2.2.2.1) (hf : 10 ≤ R.frames) (hlo : 200 ≤ R.locals) (hc1 : cells ≤ R.cells) (hc2 : slots ≤ R.slots)
    (hk : ab_eok M.1 M.2.2.1 (pc, i, len, a, b) = true) (hh : ab_nat i a h st = some (st', h')) (k : ab_kk p l e R s m args below meth c cells slots Q D cA N0 adS h h' (F0 m (pc + 3) ls (st'.map (ab_rv N0 adS)))) : W p l e R s m args below meth c H locs cells slots Q (F0 m pc ls (st.map (ab_rv N0 adS))) := by
  obtain ⟨hx, hb, hml, hown, hts, hr, hlocks, hex, hnm, hl⟩ := X
  obtain ⟨-, ho, -, -, -, -⟩ := ab_hok_at hM
  obtain ⟨n1, n2, n3, n4, n5, n6, n7, n8, n9, n10⟩ := ab_natw
  cases i
  case invokestatic idx =>
    have hd := ab_eok_len hk (by simp [ab_len])
    unfold ab_eok at hk
    rw [Bool.and_eq_true] at hk
    obtain ⟨z, hz, e1, e2, e3⟩ := ab_pS_use ho hk.2
    unfold ab_pS_ok at hz
    rw [e1, ho, e2, e3] at hz
    simp only [ab_nat] at hh
    split at hh
    · rename_i ha
      subst ha
      simp only [Nat.reduceEqDiff, if_false, if_true, decide_eq_true_eq] at hz
      unfold ab_mm at hh
      split at hh
      · rename_i y x r
        split at hh
        · rename_i hr8
          cases hh
          refine va_mmin hx hb (by rw [hml, hls]) hown (hts _ (List.mem_cons_of_mem _ (ab_T_in hz rfl))) (hts _ (ab_T_w n4 rfl)) (hts _ (ab_T_w n6 rfl)) (hts _ (ab_T_w n7 rfl)) (by omega) (by rw [ab_cat_rv]; omega) hc1 hc2 hd ?_
          exact k H locs cells slots hW hS rfl rfl
        · cases hh
      · cases hh
    · split at hh
      · rename_i ha
        subst ha
        simp only [Nat.reduceEqDiff, if_false, if_true, decide_eq_true_eq] at hz
        unfold ab_mm at hh
        split at hh
        · rename_i y x r
          split at hh
          · rename_i hr8
            cases hh
            refine va_mmax hx hb (by rw [hml, hls]) hown (hts _ (List.mem_cons_of_mem _ (ab_T_in hz rfl))) (hts _ (ab_T_w n5 rfl)) (hts _ (ab_T_w n6 rfl)) (hts _ (ab_T_w n8 rfl)) (by omega) (by rw [ab_cat_rv]; omega) hc1 hc2 hd ?_
            exact k H locs cells slots hW hS rfl rfl
          · cases hh
        · cases hh
      · split at hh
        · rename_i ha
          subst ha
          simp only [if_true, decide_eq_true_eq] at hz
          unfold ab_cpy at hh
          split at hh
          · rename_i nn dp j1 sp j0 r
            split at hh
            · rename_i t0 n0 f t1 n1' g hj0 hj1
              have go : ∀ (t : Nat) (ty : FieldType), t0 = t → t1 = t → (ab_tys cA)[t]? = some (cA t, ty) → refKind ty = false → ¬ sp < 0 → ¬ dp < 0 → ¬ nn < 0 → sp.toNatClampNeg + nn.toNatClampNeg ≤ n0 → dp.toNatClampNeg + nn.toNatClampNeg ≤ n1' → ab_cat r ≤ 8 → (∀ i, i < nn.toNatClampNeg → fits ty (.int (f (sp.toNatClampNeg + i))) = true) → st' = r → h' = h.set j1 (.inl (t1, n1', .inl (va_cpy f g sp.toNatClampNeg dp.toNatClampNeg nn.toNatClampNeg))) → W p l e R s m args below meth c H locs cells slots Q (F0 m pc ls (.int nn :: .int dp :: .ref (N0 + j1) :: .int sp :: .ref (N0 + j0) :: r.map (ab_rv N0 adS))) := by
                intro t ty q1 q2 q3 q4 q5 q6 q7 q8 q9 q10 q11 q12 q13
                subst q1; subst q12; subst q13
                refine va_copyi hx hb (by rw [hml, hls]) hown (hts _ (List.mem_cons_of_mem _ (ab_T_in hz rfl))) (hts _ (ab_T_w n1 rfl)) (hts _ (ab_T_w n2 rfl)) (hts _ (ab_T_w n3 rfl)) hK hW (ab_ws_D cA N0 adS h) hS j0 j1 t0 t0 (ab_ws_at (cA := cA) (N0 := N0) (adS := adS) hj0) (by rw [← q2]; exact ab_ws_at (cA := cA) (N0 := N0) (adS := adS) hj1) q3 q3 q4 q5 q6 q7 q8 q9 q11 (by omega) (by rw [ab_cat_rv]; simp [nativeFrameWords]; omega) hd (fun H1 locs1 g1 _ g3 => ?_)
                have e9 := ab_ws_set cA N0 adS h j1 (.inl (t1, n1', .inl (va_cpy f g sp.toNatClampNeg dp.toNatClampNeg nn.toNatClampNeg)))
                exact k H1 locs1 cells slots (by unfold ab_Wd; rw [← e9]; simp only [ab_E]; rw [q2]; exact g1) g3 (by rw [List.length_set]) (by rw [ab_sz_set (y := .inl (t1, n1', .inl (va_cpy f g sp.toNatClampNeg dp.toNatClampNeg nn.toNatClampNeg))) hj1 rfl])
              split at hh
              · rename_i hc
                cases hh
                exact go 1 .int hc.1 hc.2.1 rfl rfl hc.2.2.1 hc.2.2.2.1 hc.2.2.2.2.1 hc.2.2.2.2.2.1 hc.2.2.2.2.2.2.1 hc.2.2.2.2.2.2.2 (fun _ _ => rfl) rfl rfl
              · split at hh
                · rename_i hc
                  cases hh
                  exact go 0 .byte hc.1 hc.2.1 rfl rfl hc.2.2.1 hc.2.2.2.1 hc.2.2.2.2.1 hc.2.2.2.2.2.1 hc.2.2.2.2.2.2.1 hc.2.2.2.2.2.2.2.1 hc.2.2.2.2.2.2.2.2 rfl rfl
                · cases hh
            · cases hh
          · cases hh
        · cases hh
  case invokespecial idx =>
    have hd := ab_eok_len hk (by simp [ab_len])
    unfold ab_eok at hk
    rw [Bool.and_eq_true] at hk
    obtain ⟨z, hz, e1, e2, e3⟩ := ab_pI_use ho hk.2
    unfold ab_pI_ok at hz
    rw [e1, ho, e2, e3] at hz
    simp only [ab_nat] at hh
    split at hh
    · rename_i ha
      subst ha
      simp only [if_true, decide_eq_true_eq] at hz
      unfold ab_obj at hh
      split at hh
      · rename_i j r
        split at hh
        · rename_i hr8
          cases hh
          refine W.objInit hx hb hown (hts _ (List.mem_cons_of_mem _ (ab_T_in hz rfl))) (hts _ (ab_T_w n9 rfl)) (hts _ (ab_T_w n10 rfl)) rfl (by rw [hml]; exact hls) rfl hd (by omega) (by
            show 2 * 0 + _ + 12 ≤ _
            rw [ab_cat_rv]; omega) ?_
          exact k H locs cells slots hW hS rfl rfl
        · cases hh
      · cases hh
    · cases hh
  all_goals (simp only [ab_nat, reduceCtorEq] at hh)
/-- any step that stays in the method -/
theorem ab_nx_sim {z : Nat × ab_L × List Value × ab_H} (X : ab_Cx p l s m args meth c M) (hM : ab_hok M = true) (hl9 : lv_has ls M.2.2.2.1 (ab_rl N0 adS lv)) (hK : va_K D ab_cl (ab_tys cA) s) (hW : ab_Wd D cA N0 adS h H) (hS : va_S (ab_A N0) s.heap H locs) (hSW : ab_SW N0 adS s s.heap) (hf : 10 ≤ R.frames) (hlo : 200 ≤ R.locals)
    (hs : s.heap.size = N0 + n0) (hc : cells + n0 = h.length) (hc1 : cells ≤ R.cells) (hc2 : slots ≤ R.slots) (hR1 : cells + z.2.2.2.length ≤ R.cells + h.length) (hR2 : slots + ab_sz z.2.2.2 ≤ R.slots + ab_sz h) (hk : ab_eok M.1 M.2.2.1 (pc, i, len, a, b) = true) (hh : ab_nx M i a b pc lv st h = some z)
    (k : ∀ (ls' : Array Slot), lv_has ls' M.2.2.2.1 (ab_rl N0 adS z.2.1) → ab_kk p l e R s m args below meth c cells slots Q D cA N0 adS h z.2.2.2 (F0 m z.1 ls' (z.2.2.1.map (ab_rv N0 adS)))) : W p l e R s m args below meth c H locs cells slots Q (F0 m pc ls (st.map (ab_rv N0 adS))) := by
  obtain ⟨hx, hb, hml, hown, hts, hr, hlocks, hex, hnm, hl⟩ := id X
  obtain ⟨-, ho, -, -, -, -⟩ := ab_hok_at hM
  have hT : ∀ w ∈ ab_T, w ∈ ab_wm M := fun w hw => List.mem_cons_of_mem _ hw
  have hdl := (ab_eok_dec hk)
  unfold ab_nx at hh
  split at hh
  · rename_i s1 h1
    cases hh
    have hn : ab_len i ≠ 0 := by intro h0; cases i <;> simp [ab_len] at h0 <;> simp [ab_op] at h1
    exact ab_op_sim hx hb (ab_eok_len hk hn) h1 (k ls hl9 H locs cells slots hW hS rfl rfl)
  · split at hh
    · rename_i v h1
      cases hh
      have hn : ab_len i ≠ 0 := by intro h0; cases i <;> simp [ab_len] at h0 <;> simp [ab_ld] at h1
      exact ab_ld_sim hx hb (ab_eok_len hk hn) hl9 h1 (k ls hl9 H locs cells slots hW hS rfl rfl)
    · split at hh
      · rename_i q h1
        cases hh
        have hn : ab_len i ≠ 0 := by intro h0; cases i <;> simp [ab_len] at h0 <;> simp [ab_sto] at h1
        exact ab_sto_sim hx hb (ab_eok_len hk hn) hl9 h1 (fun ls' hl' => k ls' hl' H locs cells slots hW hS rfl rfl)
      · split at hh
        · rename_i q h1
          cases hh
          exact ab_br_sim hx hb hdl.1 hdl.2.1 hdl.2.2 h1 (k ls hl9 H locs cells slots hW hS rfl rfl)
        · split at hh
          · rename_i q h1
            cases hh
            have hn : ab_len i ≠ 0 := by intro h0; cases i <;> simp [ab_len] at h0 <;> simp [ab_hp] at h1
            have hd := ab_eok_len hk hn
            have kk := k ls hl9
            cases i
            case getfield idx =>
              simp only [ab_hp] at h1
              cases hq : ab_fget a b h st with
              | none => rw [hq] at h1; cases h1
              | some s1 =>
                rw [hq] at h1
                cases h1
                refine ab_get_sim (Ts := ab_wm M) hx hb hown hts hT hK hW ho (fun ha => ?_) hd hq (kk H locs cells slots hW hS rfl rfl)
                unfold ab_eok at hk
                simp only [Bool.and_eq_true, Bool.or_eq_true, beq_iff_eq] at hk
                rcases hk.2 with h8 | h8
                · exact h8
                · omega
            case putfield idx =>
              unfold ab_eok at hk
              rw [Bool.and_eq_true] at hk
              exact ab_put_sim (Ts := ab_wm M) hx hb hown hts hT hK hW hS ho (fun h8 => by rw [hnm]; simpa using h8) hk.2 hd h1 kk
            case arraylength =>
              simp only [ab_hp] at h1
              cases hq : ab_alen h st with
              | none => rw [hq] at h1; cases h1
              | some s1 => rw [hq] at h1; cases h1; exact ab_alen_sim hx hb hK hW hd hq (kk H locs cells slots hW hS rfl rfl)
            case iaload =>
              simp only [ab_hp] at h1
              cases hq : ab_ald 1 h st with
              | none => rw [hq] at h1; cases h1
              | some s1 => rw [hq] at h1; cases h1; exact ab_ald_sim (Or.inr ⟨rfl, rfl⟩) hx hb hK hW hd hq (kk H locs cells slots hW hS rfl rfl)
            case baload =>
              simp only [ab_hp] at h1
              cases hq : ab_ald 0 h st with
              | none => rw [hq] at h1; cases h1
              | some s1 => rw [hq] at h1; cases h1; exact ab_ald_sim (Or.inl ⟨rfl, rfl⟩) hx hb hK hW hd hq (kk H locs cells slots hW hS rfl rfl)
            case laload =>
              simp only [ab_hp] at h1
              cases hq : ab_lald h st with
              | none => rw [hq] at h1; cases h1
              | some s1 => rw [hq] at h1; cases h1; exact ab_lald_sim hx hb hK hW hd hq (kk H locs cells slots hW hS rfl rfl)
            case iastore => exact ab_ast_sim (Or.inr ⟨rfl, rfl⟩) hx hb hK hW hS hd h1 kk
            case bastore => exact ab_ast_sim (Or.inl ⟨rfl, rfl⟩) hx hb hK hW hS hd h1 kk
            case lastore => exact ab_last_sim hx hb hK hW hS hd h1 kk
            case new idx =>
              unfold ab_eok at hk
              rw [Bool.and_eq_true] at hk
              exact ab_nw_sim (Ts := ab_wm M) hx hb hown hts hT hK hW hS ho hs hc hR1 hR2 hk.2 hd h1 kk
            case newarray ty => exact ab_nwa_sim (Ts := ab_wm M) hx hb hts hT hK hW hS hs hc hR1 hR2 hd h1 kk
            all_goals (simp only [ab_hp, reduceCtorEq] at h1)
          · split at hh
            · rename_i s1 h1
              cases hh
              exact ab_con_sim (Ts := ab_wm M) hx hb hown hts hT hSW hS ho hk h1 (k ls hl9 H locs cells slots hW hS rfl rfl)
            · split at hh
              · rename_i q h1
                cases hh
                exact ab_acmp_sim hx hb hSW hk h1 (k ls hl9 H locs cells slots hW hS rfl rfl)
              · split at hh
                · rename_i q h1
                  cases hh
                  exact ab_nat_sim X hM hK hW hS hl9.1 hf hlo hc1 hc2 hk h1 (k ls hl9)
                · cases hh
end AB10
end
section
/-! Returns, the throw, calls; the whole by induction on the steps. -/
abbrev ab_IAE : String := "java/lang/IllegalArgumentException"
abbrev ab_chain : List String := ["java/lang/RuntimeException", "java/lang/Exception"]
abbrev ab_thl : List Cond := Cond.classLink "CodeSmith$Tokens" 65 ab_IAE :: Cond.initialized ab_IAE :: vx_atS "CodeSmith$Tokens" 69 ab_IAE ab_chain
set_option maxRecDepth 1000000 in
theorem ab_thw1 : ab_thl.all (fun w => decide (w ∈ lw_tbl) && vx_ot w && (goodWord w || decide (w ∈ ab_nwl))) = true := by decide +kernel
set_option maxRecDepth 100000 in
theorem ab_prog46 : ab_prog[46]? = some (ab_m46, ab_c46) := rfl
section AB10C
variable {p : Program} {l : Launch} {e : Env} {R : Room} {s : State} {m : MethodId} {args : Array Value} {below : List Frame} {meth : Method} {c : Code} {H : Heap} {locs : List Loc} {cells slots : Nat} {Q : State → Prop} {pc : Nat} {ls : Array Slot} {N0 : Nat} {adS : Nat → Nat} {D : va_G} {cA : Nat → ClassId} {h h' : ab_H} {M : ab_M} {st st' : List Value} {a b len n0 : Nat} {i : Instr} {lv : ab_L}
theorem ab_ret_sim {v : Option Value} (X : ab_Cx p l s m args meth c M) (hW : ab_Wd D cA N0 adS h H) (hS : va_S (ab_A N0) s.heap H locs) (hk : ab_eok M.1 M.2.2.1 (pc, i, len, a, b) = true) (h1 : ab_ret M.2.2.2.2.1 i st = some v) :
    W p l e R s m args below meth c H locs cells slots (vx_MQ below (ab_Q D cA N0 adS (.inl v) h) (ab_X D cA N0 adS (.inl v) h) args s cells slots (ab_A N0)) (F0 m pc ls (st.map (ab_rv N0 adS))) := by
  obtain ⟨hx, hb, hml, hown, hts, hr, hlocks, hex, hnm, hl⟩ := X
  have hq : ∀ (w : Option Value), v.map (ab_rv N0 adS) = w → ∀ t : State, t.heap = H → s.WarmedH t.vm → ab_Q D cA N0 adS (.inl v) h args s (.returned w) t := fun w hw t ht _ => ⟨v, rfl, by rw [hw], by rw [ht]; exact hW, hS.F ht⟩
  apply vx_ret
  cases i
  case return_ =>
    have hd := ab_eok_len hk (by simp [ab_len])
    simp only [ab_ret] at h1
    split at h1
    · rename_i hrt
      cases h1
      exact W.vret hx hb (hr.trans hrt) (hq none rfl) hS.2.2 hd hlocks
    · cases h1
  case ireturn =>
    have hd := ab_eok_len hk (by simp [ab_len])
    simp only [ab_ret] at h1
    split at h1
    · rename_i x ty hrt
      split at h1
      · rename_i hn
        cases h1
        refine W.zret hx hb (hr.trans hrt) ?_ (hq _ rfl) hS.2.2 hd hlocks
        cases ty <;> simp only [ab_nar] at hn <;> first | rfl | exact of_decide_eq_true hn | skip
        rw [Bool.or_eq_true, beq_iff_eq, beq_iff_eq] at hn
        rcases hn with rfl | rfl <;> decide
      · cases h1
    · cases h1
  case lreturn =>
    have hd := ab_eok_len hk (by simp [ab_len])
    simp only [ab_ret] at h1
    split at h1
    · rename_i x hrt
      cases h1
      exact W.lret hx hb (hr.trans hrt) (hq _ rfl) hS.2.2 hd hlocks
    · cases h1
  case areturn =>
    have hd := ab_eok_len hk (by simp [ab_len])
    have hrr : ab_isr M.2.2.2.2.1 = true → ∃ rt, M.2.2.2.2.1 = some rt ∧ ((∃ n, rt = .object n) ∨ ∃ t, rt = .array t) := by
      intro hi
      unfold ab_isr at hi
      split at hi
      · rename_i n hn
        exact ⟨_, hn, Or.inl ⟨n, rfl⟩⟩
      · rename_i n hn
        exact ⟨_, hn, Or.inr ⟨n, rfl⟩⟩
      · cases hi
    simp only [ab_ret] at h1
    split at h1
    · split at h1
      · rename_i hi
        cases h1
        obtain ⟨rt, e1, e2⟩ := hrr hi
        exact W.aret hx hb (hr.trans e1) e2 (Or.inr ⟨_, rfl⟩) (hq _ rfl) hS.2.2 hd hlocks
      · cases h1
    · split at h1
      · rename_i hi
        cases h1
        obtain ⟨rt, e1, e2⟩ := hrr hi
        exact W.aret hx hb (hr.trans e1) e2 (Or.inr ⟨_, rfl⟩) (hq _ rfl) hS.2.2 hd hlocks
      · cases h1
    · split at h1
      · rename_i hi
        cases h1
        obtain ⟨rt, e1, e2⟩ := hrr hi
        exact W.aret hx hb (hr.trans e1) e2 (Or.inl rfl) (hq _ rfl) hS.2.2 hd hlocks
      · cases h1
    · cases h1
  all_goals (simp only [ab_ret, reduceCtorEq] at h1)
theorem ab_thr_sim {mc ms : Nat} (X : ab_Cx p l s m args meth c ab_m46) (hK : va_K D ab_cl (ab_tys cA) s) (hW : ab_Wd D cA N0 adS h H) (hS : va_S (ab_A N0) s.heap H locs) (hSW : ab_SW N0 adS s s.heap) (hs : s.heap.size = N0 + n0) (hc : cells + n0 = h.length) (hst : ab_cat st ≤ 8) (hsz : ls.size = c.maxLocals)
    (hf : 10 ≤ R.frames) (hlo : 200 ≤ R.locals) (hR1 : cells + 1 ≤ R.cells) (hR2 : slots + 6 ≤ R.slots) (hm1 : cells + 1 ≤ mc) (hm2 : slots + 6 ≤ ms) :
    W p l e R s m args below meth c H locs cells slots (vx_MQ below (ab_Q D cA N0 adS (.inr ()) (h ++ [.inr (7, [])])) (ab_X D cA N0 adS (.inr ()) (h ++ [.inr (7, [])])) args s mc ms (ab_A N0)) (F0 m 23 ls (st.map (ab_rv N0 adS))) := by
  refine ab_size hs hc hW (fun hz => ?_)
  have hcas := hSW.2.2.2.2.2.2.2.2.1.2
  have hU := hSW.2.2.2.2.2.2.2.2.1.1
  have hN := hSW.2.2.2.2.2.2.2.2.2.1
  obtain ⟨hx, hb, hml, hown, hts, hr, hlocks, hex, hnm, hl⟩ := X
  have hall : ∀ w ∈ ab_thl, w.before args s = true := by
    intro w hw
    have h1 := List.all_eq_true.mp ab_thw1 w hw
    simp only [Bool.and_eq_true, Bool.or_eq_true, decide_eq_true_eq] at h1
    rcases h1.2 with h2 | h2
    · exact hts w (ab_T_w h1.1.1 h2)
    · exact va_Nw.use (by simp only [ab_nwl, List.mem_cons, List.not_mem_nil, or_false] at h2; rcases h2 with rfl | rfl | rfl | rfl <;> rfl) (hcas w h2)
  refine vx_throwS (names := ab_chain) (own := "CodeSmith$Tokens") (cls := ab_IAE) (text := "the text has an error") (ik := 65) (is := 67) (ic := 69) (sa := adS 0) hx hb hl hown (by decide +kernel) (by decide +kernel) (hall _ List.mem_cons_self) (hall _ (List.mem_cons_of_mem _ List.mem_cons_self)) (hSW.2.2.2.2.2.2.1 ("CodeSmith$Tokens", 67, "the text has an error", 0) (by decide +kernel)) (fun w hw => hall w (List.mem_cons_of_mem _ (List.mem_cons_of_mem _ hw)))
    (fun w hw => by
      have h1 := List.all_eq_true.mp ab_thw1 w hw
      simp only [Bool.and_eq_true] at h1
      exact h1.1.2) hU hN hS hsz (by decide +kernel) (by decide +kernel) (by decide +kernel) (by decide +kernel) (by decide +kernel) (fun x hx9 => (hex x hx9).elim) (by show 2 + 3 < R.frames; omega) (by rw [ab_cat_rv]; show ab_cat st + (13 * 3 + 43) ≤ R.locals; omega) hR1 hR2 hlocks ?_ hS.2.2 hm1 hm2
  intro t ce hvm hle hpre hce hcv hcl
  refine ⟨rfl, rfl, ?_, ?_⟩
  · unfold ab_Wd
    rw [← ab_ws_push]
    refine va_P.app (fun k q hq => (hW k q hq).kept (hpre q.1 (hW k q hq).lt)) (fun k q hq => ?_)
    have hk : k < 1 := (List.getElem?_eq_some_iff.mp hq).1
    rw [show k = 0 by omega] at hq
    cases hq
    have h7 := (hK.1 7 _ rfl).2
    refine ⟨_, rfl, ce, by rw [← hz]; exact hce, ?_, hcv, fun k hk => absurd hk (Nat.not_lt_zero _)⟩
    exact Option.some.inj (hcl.symm.trans h7.1)
  · exact ⟨Nat.le_trans hS.1 hle, fun q h1 h2 => (hpre q (Nat.lt_of_lt_of_le h1 hS.1)).trans (hS.2.1 q h1 h2)⟩
end AB10C
section AB10D
variable {p : Program} {l : Launch} {e : Env} {R : Room} {s : State} {m : MethodId} {args : Array Value} {below : List Frame} {meth : Method} {c : Code} {H : Heap} {locs : List Loc} {cells slots : Nat} {Q : State → Prop} {pc : Nat} {ls : Array Slot} {N0 : Nat} {adS : Nat → Nat} {D : va_G} {cA : Nat → ClassId} {h h2 : ab_H} {M M2 : ab_M} {st rest vs : List Value} {a b len mc2 ms2 d2 idx : Nat} {i : Instr} {lv : ab_L} {o2 : Option Value ⊕ Unit} {st0 rst : List Value} {av : Array Value}
theorem ab_run_k (hr : vx_Run p l e R s m args below meth c H locs cells slots mc2 ms2 (F0 m pc ls st0) rst (ab_Q D cA N0 adS o2 h2 av) (ab_X D cA N0 adS o2 h2) (ab_A N0)) (hS : va_S (ab_A N0) s.heap H locs)
    (kr : ∀ v, o2 = .inl v → ∀ (H1 : Heap) (locs1 : List Loc), ab_Wd D cA N0 adS h2 H1 → va_S (ab_A N0) s.heap H1 locs1 → W p l e R s m args below meth c H1 locs1 (cells + mc2) (slots + ms2) Q (F0 m (pc + 3) ls ((v.map (ab_rv N0 adS)).toList ++ rst)))
    (kx : o2 = .inr () → ∀ (H1 : Heap) (locs1 : List Loc) (ce : Cell) (q : Addr), ab_Wd D cA N0 adS h2 H1 → va_S (ab_A N0) s.heap H1 locs1 → H1[q]? = some ce → ce.vm = .none → s.vm.findClass ab_IAE = some ce.cls → vx_W p l e R s m args below meth c H1 locs1 (cells + mc2) (slots + ms2) Q (F0 m pc ls rst) q) :
    W p l e R s m args below meth c H locs cells slots Q (F0 m pc ls st0) := by
  intro T hT X
  rcases hr T hT X with ⟨v, st₀, t, T', L, h0, X', hL, e1, e2, hq, st⟩ | ⟨q, st₀, t, T', L, E, ce, h0, X', hL, e1, e2, hq, hce, hcv, hcl, st⟩
  · obtain ⟨w, hw1, hw2, hw3, hw4⟩ := hq
    cases hw2
    obtain ⟨k1, k2, k3⟩ := vx_keep (A0 := ab_A N0) (A1 := ab_A N0) (free := ab_A N0) h0 e1 hS (fun _ _ h => h) (fun _ h => h) hL hw4
    obtain ⟨t2, a1, b1⟩ := kr w hw1 T'.heap (locs ++ L) (by rw [e1]; exact hw3) k3 T' rfl X'
    exact ⟨t2, st t2 a1, b1⟩
  · obtain ⟨hw1, hw2, hw3, hw4⟩ := hq
    subst hw2
    obtain ⟨k1, k2, k3⟩ := vx_keep (A0 := ab_A N0) (A1 := ab_A N0) (free := ab_A N0) h0 e1 hS (fun _ _ h => h) (fun _ h => h) hL hw4
    obtain ⟨t2, a1, b1⟩ := kx hw1 T'.heap (locs ++ L) ce q (by rw [e1]; exact hw3) k3 (by rw [e1]; exact hce) hcv hcl T' rfl X'
    exact ⟨t2, st.trans a1, b1⟩
theorem ab_run_m (hr : va_Run p l e R s m args below meth c H locs cells slots mc2 ms2 (F0 m pc ls st0) rst (ab_Q D cA N0 adS o2 h2 av) (ab_A N0)) (hS : va_S (ab_A N0) s.heap H locs)
    (kr : ∀ v, o2 = .inl v → ∀ (H1 : Heap) (locs1 : List Loc), ab_Wd D cA N0 adS h2 H1 → va_S (ab_A N0) s.heap H1 locs1 → W p l e R s m args below meth c H1 locs1 (cells + mc2) (slots + ms2) Q (F0 m (pc + 3) ls ((v.map (ab_rv N0 adS)).toList ++ rst))) :
    W p l e R s m args below meth c H locs cells slots Q (F0 m pc ls st0) := by
  intro T hT X
  obtain ⟨v, st₀, t, T', L, h0, X', hL, e1, e2, hq, st⟩ := hr T hT X
  obtain ⟨w, hw1, hw2, hw3, hw4⟩ := hq
  cases hw2
  obtain ⟨k1, k2, k3⟩ := vx_keep (A0 := ab_A N0) (A1 := ab_A N0) (free := ab_A N0) h0 e1 hS (fun _ _ h => h) (fun _ h => h) hL hw4
  obtain ⟨t2, a1, b1⟩ := kr w hw1 T'.heap (locs ++ L) (by rw [e1]; exact hw3) k3 T' rfl X'
  exact ⟨t2, st t2 a1, b1⟩
/-- a callee's start holds where the caller stands -/
theorem ab_pre (hK : va_K D ab_cl (ab_tys cA) s) (hW : ab_Wd D cA N0 adS h H) (hz : H.size = N0 + h.length) (hS : va_S (ab_A N0) s.heap H locs) (hSW : ab_SW N0 adS s s.heap) (vs : List Value) : ∀ U : State, U.heap = H → s.WarmedH U.vm → ab_P D cA N0 adS vs h (vs.map (ab_rv N0 adS)).toArray U := by
  intro U hU hWm
  refine ⟨rfl, va_K.moved hWm.alike hK, by rw [hU]; exact hW, by rw [hU]; exact hz, ?_⟩
  rw [hU]
  exact hSW.go hWm hS.2.1
end AB10D
end
section
theorem ab_good (M M2 : ab_M) (h2 : ab_hok M2 = true) : GoodIn (ab_wm M) (ab_wm M2) := by
  have hg := ab_T_goodT (Ts := ab_wm M) (fun w hw => List.mem_cons_of_mem _ hw)
  intro w hw
  rcases List.mem_cons.mp hw with rfl | hw
  · exact hg _ (ab_hok_at h2).1
  · exact hg w hw
section AB10E
variable {p : Program} {l : Launch} {e : Env} {s : State} {m : MethodId} {args : Array Value} {below : List Frame} {meth : Method} {c : Code} {H : Heap} {locs : List Loc} {cells slots : Nat} {Q : State → Prop} {pc : Nat} {ls : Array Slot} {N0 : Nat} {adS : Nat → Nat} {D : va_G} {cA : Nat → ClassId} {h h2 : ab_H} {M : ab_M} {P2 : ab_M × List ab_I} {st rest vs : List Value} {a b len mc ms mc2 ms2 d2 : Nat} {i : Instr} {o2 : Option Value ⊕ Unit}
theorem ab_split {st : List Value} {np : Nat} {x : Value} {r : List Value} (N0 : Nat) (adS : Nat → Nat) (hd : st.drop np = x :: r) : st.map (ab_rv N0 adS) = ((st.take np).reverse.map (ab_rv N0 adS)).reverse ++ ab_rv N0 adS x :: r.map (ab_rv N0 adS) := by
  have h1 : st = st.take np ++ (x :: r) := by rw [← hd, List.take_append_drop]
  conv => lhs; rw [h1]
  rw [List.map_append, List.map_cons, ← List.map_reverse, List.reverse_reverse]
theorem ab_call_sim (X : ab_Cx p l s m args meth c M) (hM : ab_hok M = true) (hP2 : ab_prog[a]? = some P2) (hls : ls.size = M.2.2.2.1) (hK : va_K D ab_cl (ab_tys cA) s) (hW : ab_Wd D cA N0 adS h H) (hz : H.size = N0 + h.length) (hS : va_S (ab_A N0) s.heap H locs) (hSW : ab_SW N0 adS s s.heap) (hk : ab_eok M.1 M.2.2.1 (pc, i, len, a, b) = true)
    (hi : ab_inv i a P2.1.2.2.2.2.2.1 P2.1.2.1.cls h st = some (vs, rest)) (hsp : ∀ idx, i = .invokespecial idx → ∀ u, o2 ≠ .inr u)
    (hm : vx_Met l P2.1.2.1 (ab_wm P2.1) (ab_rm d2 mc2 ms2) (ab_P D cA N0 adS vs h) (ab_Q D cA N0 adS o2 h2) (ab_X D cA N0 adS o2 h2) mc2 ms2 (ab_A N0)) (hf : cells + mc2 ≤ mc ∧ slots + ms2 ≤ ms)
    (kr : ∀ v, o2 = .inl v → ∀ (H1 : Heap) (locs1 : List Loc), ab_Wd D cA N0 adS h2 H1 → va_S (ab_A N0) s.heap H1 locs1 → W p l e (ab_rm (d2 + 1) mc ms) s m args below meth c H1 locs1 (cells + mc2) (slots + ms2) Q (F0 m (pc + 3) ls ((v.toList ++ rest).map (ab_rv N0 adS))))
    (kx : o2 = .inr () → ∀ (H1 : Heap) (locs1 : List Loc) (ce : Cell) (q : Addr), ab_Wd D cA N0 adS h2 H1 → va_S (ab_A N0) s.heap H1 locs1 → H1[q]? = some ce → ce.vm = .none → s.vm.findClass ab_IAE = some ce.cls → vx_W p l e (ab_rm (d2 + 1) mc ms) s m args below meth c H1 locs1 (cells + mc2) (slots + ms2) Q (F0 m pc ls (rest.map (ab_rv N0 adS))) q) :
    W p l e (ab_rm (d2 + 1) mc ms) s m args below meth c H locs cells slots Q (F0 m pc ls (st.map (ab_rv N0 adS))) := by
  obtain ⟨hx, hb, hml, hown, hts, hr, hlocks, hex, hnm, hl⟩ := id X
  obtain ⟨-, ho, -, -, -, -⟩ := ab_hok_at hM
  have hok2 := (ab_prog_at hP2).1
  obtain ⟨g1, g2, g3, g4, g5, g6⟩ := ab_hok_at hok2
  have hT : ∀ w ∈ ab_T, w ∈ ab_wm M := fun w hw => List.mem_cons_of_mem _ hw
  have hini : (Cond.initialized P2.1.2.1.cls).before args s = true := hts _ (hT _ (ab_own_T g2))
  have hG := ab_good M P2.1 hok2
  have hRm : (ab_rm d2 mc2 ms2).frames + 1 ≤ (ab_rm (d2 + 1) mc ms).frames ∧ 8 + (P2.1.2.2.2.1 + 11) + (ab_rm d2 mc2 ms2).locals ≤ (ab_rm (d2 + 1) mc ms).locals := by
    refine ⟨?_, ?_⟩
    · show d2 + 10 + 1 ≤ d2 + 1 + 10
      omega
    · show 8 + (P2.1.2.2.2.1 + 11) + (40 * d2 + 200) ≤ 40 * (d2 + 1) + 200
      omega
  have S : CallFix p m c M.2.2.1 M.2.2.2.1 s args (ab_wm M) M.2.1.cls := ⟨hx, hb, hml, hown, hts⟩
  have ktoL : ∀ v : Option Value, ((v.map (ab_rv N0 adS)).toList ++ rest.map (ab_rv N0 adS)) = (v.toList ++ rest).map (ab_rv N0 adS) := by
    intro v; cases v <;> simp
  cases i
  case invokevirtual idx =>
    have hd := ab_eok_len hk (by simp [ab_len])
    unfold ab_eok at hk
    rw [Bool.and_eq_true] at hk
    obtain ⟨z, hz9, hq⟩ := List.any_eq_true.mp hk.2
    have h1 := List.all_eq_true.mp ab_pV_all z hz9
    simp only [Bool.and_eq_true, beq_iff_eq] at hq
    obtain ⟨⟨e1, e2⟩, e3⟩ := hq
    unfold ab_pV_ok at h1
    rw [e1, ho, e3, hP2] at h1
    simp only [Bool.and_eq_true, decide_eq_true_eq] at h1
    rw [e2] at h1
    have hlk := hts _ (hT _ (ab_T_in h1.1.1 rfl))
    have hin := hts _ (hT _ (ab_T_in h1.1.2 rfl))
    have hse := hts _ (hT _ (ab_T_in h1.2 rfl))
    have cw : CallW (ab_rm (d2 + 1) mc ms) s args M.2.1.cls P2.1.2.1.cls idx P2.1.2.1 P2.1.2.2.1 P2.1.2.2.2.1 P2.1.2.2.2.2.1 (ab_wm P2.1) (ab_rm d2 mc2 ms2) mc2 ms2 P2.1.2.2.2.2.2.1 := ⟨callB_of _ hts hG rfl rfl rfl hini hlk ⟨g5.1, g5.2, g4⟩ hRm, hin, hse⟩
    simp only [ab_inv] at hi
    split at hi
    · rename_i j r hdr
      split at hi
      · rename_i ob hob
        split at hi
        · rename_i hc
          cases hi
          have he := ab_ws_at (cA := cA) (N0 := N0) (adS := adS) hob
          obtain ⟨rr, hrr, -⟩ := hW j _ he
          have hrc : ∃ cell : Cell, H[N0 + j]? = some cell ∧ cell.vm.isStatics = false ∧ s.vm.findClass P2.1.2.1.cls = some cell.cls := by
            have h9 := va_recv hK hW hrr he
            have h8 : rr.1 = P2.1.2.1.cls := by rw [← hc.1]; unfold ab_cn; rw [hrr]
            rw [h8] at h9
            exact h9
          refine ab_run_k (vx_runV (As := (st.take P2.1.2.2.2.2.2.1).reverse.map (ab_rv N0 adS)) (b := N0 + j) (rest := rest.map (ab_rv N0 adS)) S hm cw ⟨ab_P_blind _ _ _ _ _ _, hrc, ab_pre hK hW hz hS hSW (.ref j :: (st.take P2.1.2.2.2.2.2.1).reverse)⟩ rfl (by rw [List.length_map, List.length_reverse]; exact hc.2.1) hls (ab_split N0 adS hdr) (by show 2 * 0 + _ ≤ 8; rw [ab_cat_rv]; omega) hd hf) hS (fun v hv H1 locs1 q1 q2 => by rw [ktoL]; exact kr v hv H1 locs1 q1 q2) kx
        · cases hi
      · cases hi
    · rename_i k r hdr
      split at hi
      · rename_i hc
        cases hi
        have hrc : ∃ cell : Cell, H[adS k]? = some cell ∧ cell.vm.isStatics = false ∧ s.vm.findClass P2.1.2.1.cls = some cell.cls := by
          obtain ⟨cell, q1, q2, q3, q4⟩ := (hSW.1 k hc.2.1).1
          refine ⟨cell, ?_, q2, by rw [← hc.1]; exact q3⟩
          rw [hS.2.1 (adS k) (Array.getElem?_eq_some_iff.mp q1).1 q4]
          exact q1
        refine ab_run_k (vx_runV (As := (st.take P2.1.2.2.2.2.2.1).reverse.map (ab_rv N0 adS)) (b := adS k) (rest := rest.map (ab_rv N0 adS)) S hm cw ⟨ab_P_blind _ _ _ _ _ _, hrc, ab_pre hK hW hz hS hSW (.retAddr k :: (st.take P2.1.2.2.2.2.2.1).reverse)⟩ rfl (by rw [List.length_map, List.length_reverse]; exact hc.2.2.1) hls (ab_split N0 adS hdr) (by show 2 * 0 + _ ≤ 8; rw [ab_cat_rv]; omega) hd hf) hS (fun v hv H1 locs1 q1 q2 => by rw [ktoL]; exact kr v hv H1 locs1 q1 q2) kx
      · cases hi
    · cases hi
  case invokestatic idx =>
    have hd := ab_eok_len hk (by simp [ab_len])
    unfold ab_eok at hk
    rw [Bool.and_eq_true] at hk
    obtain ⟨z, hz9, e1, e2, e3⟩ := ab_pS_use ho hk.2
    unfold ab_pS_ok at hz9
    rw [e1, ho, e3] at hz9
    have hlt : a < 900 := by
      have h8 := (List.getElem?_eq_some_iff.mp hP2).1
      have h7 : ab_prog.length = 177 := by rfl
      omega
    simp only [show ¬ a = 999 by omega, show ¬ a = 997 by omega, show ¬ a = 996 by omega, if_false, hP2] at hz9
    simp only [Bool.and_eq_true, decide_eq_true_eq] at hz9
    rw [e2] at hz9
    have cw : CallB (ab_rm (d2 + 1) mc ms) s args M.2.1.cls idx P2.1.2.1 P2.1.2.2.1 P2.1.2.2.2.1 P2.1.2.2.2.2.1 (ab_wm P2.1) (ab_rm d2 mc2 ms2) mc2 ms2 P2.1.2.2.2.2.2.1 ∧ (Cond.static P2.1.2.1).before args s = true := ⟨callB_of _ hts hG rfl rfl rfl hini (hts _ (hT _ (ab_T_in hz9.1 rfl))) ⟨g5.1, g5.2, g4⟩ hRm, hts _ (hT _ (ab_T_in hz9.2 rfl))⟩
    simp only [ab_inv] at hi
    split at hi
    · rename_i hc
      cases hi
      refine ab_run_k (vx_runS (As := (st.take P2.1.2.2.2.2.2.1).reverse.map (ab_rv N0 adS)) (rest := (st.drop P2.1.2.2.2.2.2.1).map (ab_rv N0 adS)) S hm cw ⟨ab_P_blind _ _ _ _ _ _, ab_pre hK hW hz hS hSW (st.take P2.1.2.2.2.2.2.1).reverse⟩ rfl (by rw [List.length_map, List.length_reverse]; exact hc.1) hls (by
        show st.map (ab_rv N0 adS) = _
        rw [← List.map_reverse, List.reverse_reverse, ← List.map_append, List.take_append_drop]) (by show 2 * 0 + _ ≤ 8; rw [ab_cat_rv]; omega) hd hf) hS (fun v hv H1 locs1 q1 q2 => by rw [ktoL]; exact kr v hv H1 locs1 q1 q2) kx
    · cases hi
  case invokespecial idx =>
    have hd := ab_eok_len hk (by simp [ab_len])
    unfold ab_eok at hk
    rw [Bool.and_eq_true] at hk
    obtain ⟨z, hz9, e1, e2, e3⟩ := ab_pI_use ho hk.2
    unfold ab_pI_ok at hz9
    rw [e1, ho, e3] at hz9
    have hlt : a < 900 := by
      have h8 := (List.getElem?_eq_some_iff.mp hP2).1
      have h7 : ab_prog.length = 177 := by rfl
      omega
    simp only [show ¬ a = 998 by omega, if_false, hP2] at hz9
    simp only [Bool.and_eq_true, Bool.or_eq_true, decide_eq_true_eq] at hz9
    rw [e2] at hz9
    obtain ⟨⟨⟨q1, q2⟩, q3⟩, q4⟩ := hz9
    have hin := hts _ (hT _ (ab_T_in q2 rfl))
    have hM0 : Met l P2.1.2.1 (ab_wm P2.1) (ab_rm d2 mc2 ms2) (ab_P D cA N0 adS vs h) (ab_Q D cA N0 adS o2 h2) mc2 ms2 (ab_A N0) := ab_toMet (fun E s9 t hX => hsp idx rfl () hX.1) hm
    have hwe : ab_wm P2.1 = Cond.code P2.1.2.1 P2.1.2.2.1 P2.1.2.2.2.1 none :: ab_T := by unfold ab_wm; rw [q4]
    simp only [ab_inv] at hi
    split at hi
    · rename_i j r hdr
      split at hi
      · rename_i hc
        cases hi
        have hst : (F0 m pc ls (st.map (ab_rv N0 adS))).stack = ((st.take P2.1.2.2.2.2.2.1).reverse.map (ab_rv N0 adS)).reverse ++ .ref (N0 + j) :: rest.map (ab_rv N0 adS) := ab_split N0 adS hdr
        rcases q1 with q1 | q1
        · refine ab_run_m (va_runI (bytes := P2.1.2.2.1) (maxL := P2.1.2.2.2.1) (As := (st.take P2.1.2.2.2.2.2.1).reverse.map (ab_rv N0 adS)) (b := N0 + j) (rest := rest.map (ab_rv N0 adS)) S hM0 ⟨callB_of _ hts hG hwe rfl rfl hini (hts _ (hT _ (ab_T_in q1 rfl))) ⟨g5.1, g5.2, g4⟩ hRm, q3, hin⟩ ⟨ab_P_blind _ _ _ _ _ _, ab_pre hK hW hz hS hSW (.ref j :: (st.take P2.1.2.2.2.2.2.1).reverse)⟩ rfl (by rw [List.length_map, List.length_reverse]; exact hc.1) hls hst (by show 2 * 0 + _ ≤ 8; rw [ab_cat_rv]; omega) hd hf) hS (fun v hv H1 locs1 q1 q2 => by rw [ktoL]; exact kr v hv H1 locs1 q1 q2)
        · obtain ⟨y, hy, hy2⟩ := List.any_eq_true.mp q1
          simp only [Bool.and_eq_true, decide_eq_true_eq] at hy2
          obtain ⟨⟨w1, w2⟩, w3⟩ := hy2
          have hnl := hSW.2.2.2.2.2.2.2.2.2.2.2 y hy
          rw [w1, w2, w3] at hnl
          refine ab_run_m (va_runIN (bytes := P2.1.2.2.1) (maxL := P2.1.2.2.2.1) (host := y.2.2.2) (As := (st.take P2.1.2.2.2.2.2.1).reverse.map (ab_rv N0 adS)) (b := N0 + j) (rest := rest.map (ab_rv N0 adS)) S hM0 ⟨va_cnB _ hts hG hwe rfl rfl hnl hini ⟨g5.1, g5.2, g4⟩ hRm, q3, hin⟩ ⟨ab_P_blind _ _ _ _ _ _, ab_pre hK hW hz hS hSW (.ref j :: (st.take P2.1.2.2.2.2.2.1).reverse)⟩ rfl (by rw [List.length_map, List.length_reverse]; exact hc.1) hls hst (by show 2 * 0 + _ ≤ 8; rw [ab_cat_rv]; omega) hd hf) hS (fun v hv H1 locs1 q1 q2 => by rw [ktoL]; exact kr v hv H1 locs1 q1 q2)
      · cases hi
    · cases hi
  all_goals (simp only [ab_inv, reduceCtorEq] at hi)
end AB10E
end
section
/-- at fuel n: from any place of a method the machine comes to the end that the abstract machine comes to -/
def ab_Fr (l : Launch) (n : Nat) : Prop := ∀ (d mi : Nat) (P : ab_M × List ab_I) (pc : Nat) (lv : ab_L) (st : List Value) (h : ab_H) (o : Option Value ⊕ Unit) (h' : ab_H), ab_prog[mi]? = some P → ab_go n d mi pc lv st h = some (o, h') →
  ∀ (p : Program) (e : Env) (s : State) (m : MethodId) (args : Array Value) (below : List Frame) (meth : Method) (c : Code) (H : Heap) (locs : List Loc) (cells slots : Nat) (ls : Array Slot) (N0 : Nat) (adS : Nat → Nat) (D : va_G) (cA : Nat → ClassId) (n0 z0 mc ms : Nat),
    ab_Cx p l s m args meth c P.1 → lv_has ls P.1.2.2.2.1 (ab_rl N0 adS lv) → va_K D ab_cl (ab_tys cA) s → ab_Wd D cA N0 adS h H → va_S (ab_A N0) s.heap H locs → ab_SW N0 adS s s.heap → s.heap.size = N0 + n0 → cells + n0 = h.length → slots + z0 = ab_sz h → mc + n0 = h'.length → ms + z0 = ab_sz h' →
    W p l e (ab_rm d mc ms) s m args below meth c H locs cells slots (vx_MQ below (ab_Q D cA N0 adS o h') (ab_X D cA N0 adS o h') args s mc ms (ab_A N0)) (F0 m pc ls (st.map (ab_rv N0 adS)))
theorem ab_met_of {l : Launch} {n : Nat} (hF : ab_Fr l n) (hl : l.stackTraces = false) (D : va_G) (cA : Nat → ClassId) (N0 : Nat) (adS : Nat → Nat) {d mi : Nat} {P : ab_M × List ab_I} {vs : List Value} {h h' : ab_H} {o : Option Value ⊕ Unit} {mc ms : Nat} (hP : ab_prog[mi]? = some P) (hg : ab_go n d mi 0 (lv_args 0 vs) [] h = some (o, h')) (hlen : (lg_sl vs).length ≤ P.1.2.2.2.1) (hmc : mc + h.length = h'.length) (hms : ms + ab_sz h = ab_sz h') :
    vx_Met l P.1.2.1 (ab_wm P.1) (ab_rm d mc ms) (ab_P D cA N0 adS vs h) (ab_Q D cA N0 adS o h') (ab_X D cA N0 adS o h') mc ms (ab_A N0) := by
  refine vx_ofW (cc := P.1.2.2.1) (maxL := P.1.2.2.2.1) (ret := P.1.2.2.2.2.1) (ab_hok_at (ab_prog_at hP).1).2.2.1 rfl ?_
  intro p e s m args below meth c s₁ B hml htab hv
  obtain ⟨rfl, hK, hW, hz, hSW⟩ := hv
  rw [lg_entry_eq]
  have hlv := lv_entry (vs.map (ab_rv N0 adS)) (n := P.1.2.2.2.1) (by rw [ab_lg_len]; exact hlen)
  rw [ab_rl_args] at hlv
  exact hF d mi P 0 (lv_args 0 vs) [] h o h' hP hg p e s m _ below meth c s.heap [] 0 0 _ N0 adS D cA h.length (ab_sz h) mc ms ⟨B.exec, B.bytes, hml, findClass_of_methodNamed B.named, atoms_spec (ws := ab_wm P.1) B.pre, B.returns, B.notSynchronized, htab, (name_of_methodNamed B.named B.method).1, hl⟩ hlv hK hW va_S.rf hSW hz (by omega) (by omega) hmc hms
set_option maxHeartbeats 4000000 in
/-- THE MACHINE FOLLOWS THE ABSTRACT MACHINE -/
theorem ab_frame (l : Launch) (hl : l.stackTraces = false) : ∀ n, ab_Fr l n := by
  intro n
  induction n with
  | zero => intro d mi P pc lv st h o h' hP hg; cases hg
  | succ n ih =>
    intro d mi P pc lv st h o h' hP hg p e s m args below meth c H locs cells slots ls N0 adS D cA n0 z0 mc ms X hlv hK hW hS hSW hs hc hsl hmc hms
    have hmono := ab_go_mono _ _ _ _ _ _ _ _ _ hg
    obtain ⟨hok, hcode⟩ := ab_prog_at hP
    have hfr : 10 ≤ (ab_rm d mc ms).frames := by show 10 ≤ d + 10; omega
    have hlo : 200 ≤ (ab_rm d mc ms).locals := by show 200 ≤ 40 * d + 200; omega
    have hRc : (ab_rm d mc ms).cells = mc := rfl
    have hRs : (ab_rm d mc ms).slots = ms := rfl
    unfold ab_go at hg
    rw [hP] at hg
    simp only at hg
    cases hf : ab_fetch P.2 pc with
    | none => rw [hf] at hg; cases hg
    | some q =>
      rw [hf] at hg
      simp only at hg
      have hk := ab_fetch_ok hcode hf
      obtain ⟨i, len, a, b⟩ := q
      simp only at hg hk
      cases hnx : ab_nx P.1 i a b pc lv st h with
      | some z =>
        rw [hnx] at hg
        simp only at hg
        have hm2 := ab_go_mono _ _ _ _ _ _ _ _ _ hg
        refine ab_nx_sim X hok hlv hK hW hS hSW hfr hlo hs hc (by rw [hRc]; omega) (by rw [hRs]; omega) (by rw [hRc]; omega) (by rw [hRs]; omega) hk hnx (fun ls' hlv' H' locs' cells' slots' hW' hS' hc' hs' => ?_)
        exact ih d mi P z.1 z.2.1 z.2.2.1 z.2.2.2 o h' hP hg p e s m args below meth c H' locs' cells' slots' ls' N0 adS D cA n0 z0 mc ms X hlv' hK hW' hS' hSW hs (by omega) (by omega) hmc hms
      | none =>
        rw [hnx] at hg
        simp only at hg
        cases hrt : ab_ret P.1.2.2.2.2.1 i st with
        | some v =>
          rw [hrt] at hg
          cases hg
          have h1 : cells = mc := by omega
          have h2 : slots = ms := by omega
          subst h1; subst h2
          exact ab_ret_sim X hW hS hk hrt
        | none =>
          rw [hrt] at hg
          simp only at hg
          cases ht : ab_thr mi pc st with
          | true =>
            rw [ht] at hg
            cases hg
            unfold ab_thr at ht
            simp only [Bool.and_eq_true, beq_iff_eq, decide_eq_true_eq] at ht
            obtain ⟨⟨rfl, rfl⟩, h8⟩ := ht
            rw [ab_prog46] at hP
            cases hP
            rw [List.length_append, List.length_singleton] at hmc
            rw [ab_sz_push] at hms
            have h6 : ab_sz1 (.inr (7, [])) = 6 := rfl
            rw [h6] at hms
            exact ab_thr_sim X hK hW hS hSW hs hc h8 (by rw [X.2.2.1]; exact hlv.1) hfr hlo (by rw [hRc]; omega) (by rw [hRs]; omega) (by omega) (by omega)
          | false =>
            rw [ht] at hg
            simp only [cond_false] at hg
            cases hP2 : ab_prog[a]? with
            | none => rw [hP2] at hg; cases hg
            | some P2 =>
              rw [hP2] at hg
              simp only at hg
              cases hi : ab_inv i a P2.1.2.2.2.2.2.1 P2.1.2.1.cls h st with
              | none => rw [hi] at hg; cases hg
              | some z =>
                rw [hi] at hg
                simp only at hg
                cases d with
                | zero => cases hg
                | succ d' =>
                  simp only at hg
                  by_cases hdl : (lg_sl z.1).length ≤ P2.1.2.2.2.1
                  · rw [if_pos hdl] at hg
                    cases hcl : ab_go n d' a 0 (lv_args 0 z.1) [] h with
                    | none => rw [hcl] at hg; cases hg
                    | some r =>
                      obtain ⟨o2, h2⟩ := r
                      rw [hcl] at hg
                      have hm2 := ab_go_mono _ _ _ _ _ _ _ _ _ hcl
                      obtain ⟨mc2, hmc2⟩ : ∃ k, k + h.length = h2.length := ⟨h2.length - h.length, by omega⟩
                      obtain ⟨ms2, hms2⟩ : ∃ k, k + ab_sz h = ab_sz h2 := ⟨ab_sz h2 - ab_sz h, by omega⟩
                      have hmet := ab_met_of ih hl D cA N0 adS hP2 hcl hdl hmc2 hms2
                      cases o2 with
                      | inl v =>
                        simp only at hg
                        have hm3 := ab_go_mono _ _ _ _ _ _ _ _ _ hg
                        refine ab_size hs hc hW (fun hz => ?_)
                        refine ab_call_sim (vs := z.1) (rest := z.2) X hok hP2 hlv.1 hK hW hz hS hSW hk hi (fun _ _ _ h9 => by cases h9) hmet ⟨by omega, by omega⟩ (fun w hw H1 locs1 q1 q2 => ?_) (fun h9 => by cases h9)
                        cases hw
                        exact ih (d' + 1) mi P (pc + 3) lv (v.toList ++ z.2) h2 o h' hP hg p e s m args below meth c H1 locs1 (cells + mc2) (slots + ms2) ls N0 adS D cA n0 z0 mc ms X hlv hK q1 q2 hSW hs (by omega) (by omega) hmc hms
                      | inr u =>
                        simp only at hg
                        cases hsp : ab_sp i with
                        | true => rw [hsp] at hg; cases hg
                        | false =>
                          rw [hsp] at hg
                          cases hg
                          refine ab_size hs hc hW (fun hz => ?_)
                          refine ab_call_sim (vs := z.1) (rest := z.2) X hok hP2 hlv.1 hK hW hz hS hSW hk hi (fun idx h9 _ _ => by rw [h9] at hsp; cases hsp) hmet ⟨by omega, by omega⟩ (fun w hw => by cases hw) (fun h9 H1 locs1 ce q q1 q2 q3 q4 q5 => ?_)
                          obtain ⟨hx, hb, hml, hown, hts, hr, hlocks, hex, hnm, -⟩ := X
                          exact vx_out (fun x hx9 => (hex x hx9).elim) hlocks q3 q4 q5 (fun t ht _ => ⟨h9, rfl, by rw [ht]; exact q1, q2.F ht⟩) q2.2.2 (by omega) (by omega)
                  · rw [if_neg hdl] at hg
                    cases hg
end
section
/-! the catching row of the printed names (it wants the whole library) -/
section VXCat
variable {p : Program} {l : Launch} {e : Env} {R : Room} {s : State} {m : MethodId} {args : Array Value} {below : List Frame} {meth : Method} {c : Code} {H : Heap} {locs : List Loc} {cells slots : Nat} {Q : State → Prop}
variable {mc ms : Nat} {free : Addr → Prop} {A0 A1 : Nat → Prop} {H0 : Heap} {a : Array Value} {pc : Nat} {ls : Array Slot} {st0 rest : List Value}
/-- caught by the row x of this method's table; the rows ahead don't take it -/
theorem vx_catch {own name : String} {E : String} {ce : Cell} {q : Addr} (hown : s.vm.findClass own = some m.cls) (pre : List ExceptionTableEntry) (x : ExceptionTableEntry) (suf : List ExceptionTableEntry) (hsplit : c.exceptionTable.toList = pre ++ x :: suf)
    (hpass : ∀ z ∈ pre, covers z pc = false ∨ (z.catchType ≠ 0 ∧ ∃ nm : String, (Cond.classLink own z.catchType nm).before args s = true ∧ va_Nc E nm s)) (hx : covers x pc = true) (h0 : x.catchType ≠ 0)
    (hlink : (Cond.classLink own x.catchType name).before args s = true) (hcast : (Cond.castable E name).before args s = true) (hcell : H[q]? = some ce) (hv : ce.vm = .none) (hcl : s.vm.findClass E = some ce.cls)
    (kk : W p l e R s m args below meth c H locs cells slots Q (F0 m x.handlerPc ls [.ref q])) : vx_W p l e R s m args below meth c H locs cells slots Q (F0 m pc ls rest) q := by
  intro T hT X
  have hpl : e.platform.magicAccessors = ({} : Platform).magicAccessors := by rw [X.admits.platform]
  obtain ⟨c3, c4, hc3, hc4, hasg⟩ := Cond.castable_spec hcast
  cases Option.some.inj (hc3.symm.trans hcl)
  obtain ⟨c5, hc5, hcl5⟩ := Cond.classLink_spec hown hlink e.platform hpl
  cases Option.some.inj (hc4.symm.trans hc5)
  obtain ⟨vm', X', st⟩ := Jvm.Stand.thenCaughtThrough X q (g := F0 m pc ls rest) rfl (Steps.refl _) (by rw [hT]; exact hcell) (by rw [hv]; rfl) (by obtain ⟨k9, h9, -⟩ := Vm.findClass_spec hcl; exact ⟨k9, h9⟩) pre x suf hsplit
    (fun z hz => by
      rcases hpass z hz with h | ⟨hz0, nm, hl1, hn1⟩
      · exact Or.inl h
      · obtain ⟨c6, hc6, hcl6⟩ := Cond.classLink_spec hown hl1 e.platform hpl
        obtain ⟨a8, b8, h1, h2, h3⟩ := hn1
        cases Option.some.inj (h1.symm.trans hcl)
        cases Option.some.inj (h2.symm.trans hc6)
        exact Or.inr ⟨hz0, _, hcl6, h3⟩) hx (Or.inr ⟨h0, c4, hcl5, hasg⟩)
  obtain ⟨t, a1, b1⟩ := kk (T.setVm vm') hT X'
  exact ⟨t, st.trans a1, b1⟩
end VXCat
end
section
/-! THE LAW's own helper (its catch): CodeSmithLaw.assemble, as one step of the abstract machine. -/
def ab_yla : MethodName := ⟨"CodeSmithLaw", "assemble", "(LCodeSmith;[J)I"⟩
abbrev ab_hla : List (Nat × Nat × Nat × Nat) := [(0, 8, 11, 13)]
abbrev ab_wla : List Cond := .codeWith ab_yla method_3_code 3 (some .int) ab_hla :: ab_T
def ab_la (n d : Nat) (h : ab_H) (x o : Nat) : Option (Int32 × ab_H) := match ab_go n d 15 0 [(0, .ref x)] [] h with
  | some (.inl (some (.int v)), h1) => (match ab_last h1 [.long v.toInt64, .int 0, .ref o] with
    | some ([], h2) => some (0, h2)
    | _ => none)
  | some (.inr _, h1) => some (1, h1)
  | _ => none
set_option maxRecDepth 1000000 in
theorem ab_law_w : Cond.codeWith ab_yla method_3_code 3 (some .int) ab_hla ∈ lw_tbl ∧ Cond.methodLink "CodeSmithLaw" 7 ⟨"CodeSmith", "assemble", "()I"⟩ ∈ lw_tbl ∧ Cond.instanceMethod ⟨"CodeSmith", "assemble", "()I"⟩ ∈ lw_tbl ∧ Cond.selects "CodeSmith" ⟨"CodeSmith", "assemble", "()I"⟩ ⟨"CodeSmith", "assemble", "()I"⟩ ∈ lw_tbl ∧ Cond.classLink "CodeSmithLaw" 13 ab_IAE ∈ lw_tbl ∧ Cond.initialized "CodeSmith" ∈ lw_tbl ∧ Cond.initialized "CodeSmithLaw" ∈ lw_tbl ∧ Cond.static ab_yla ∈ lw_tbl ∧ Cond.methodLink "CodeSmithLaw" 33 ab_yla ∈ lw_tbl := by decide +kernel
set_option maxRecDepth 100000 in
theorem ab_prog15 : ab_prog[15]? = some (ab_m15, ab_c15) := rfl
theorem ab_la_mono {n d : Nat} {h : ab_H} {x o : Nat} {v : Int32} {h' : ab_H} (e : ab_la n d h x o = some (v, h')) : h.length ≤ h'.length ∧ ab_sz h ≤ ab_sz h' := by
  unfold ab_la at e
  split at e
  · rename_i w h1 hg
    have h2 := ab_go_mono _ _ _ _ _ _ _ _ _ hg
    split at e
    · rename_i h3 hl
      cases e
      have h4 : ab_hp false "" .lastore 0 0 h1 [.long w.toInt64, .int 0, .ref o] = some ([], h') := hl
      have h5 := ab_hp_mono h4
      exact ⟨Nat.le_trans h2.1 h5.1, Nat.le_trans h2.2 h5.2⟩
    · cases e
  · rename_i h1 hg
    cases e
    exact ab_go_mono _ _ _ _ _ _ _ _ _ hg
  · cases e
theorem dla_0 : decode method_3_code 0 = .ok (.aload_n 1, 1) := by decide +kernel
theorem dla_1 : decode method_3_code 1 = .ok (.iconst 0, 1) := by decide +kernel
theorem dla_2 : decode method_3_code 2 = .ok (.aload_n 0, 1) := by decide +kernel
theorem dla_3 : decode method_3_code 3 = .ok (.invokevirtual 7, 3) := by decide +kernel
theorem dla_6 : decode method_3_code 6 = .ok (.i2l, 1) := by decide +kernel
theorem dla_7 : decode method_3_code 7 = .ok (.lastore, 1) := by decide +kernel
theorem dla_8 : decode method_3_code 8 = .ok (.goto 6, 3) := by decide +kernel
theorem dla_11 : decode method_3_code 11 = .ok (.astore_n 2, 1) := by decide +kernel
theorem dla_12 : decode method_3_code 12 = .ok (.iconst 1, 1) := by decide +kernel
theorem dla_13 : decode method_3_code 13 = .ok (.ireturn, 1) := by decide +kernel
theorem dla_14 : decode method_3_code 14 = .ok (.iconst 0, 1) := by decide +kernel
theorem dla_15 : decode method_3_code 15 = .ok (.ireturn, 1) := by decide +kernel
set_option maxHeartbeats 4000000 in
theorem ab_la_met {l : Launch} (hl : l.stackTraces = false) (D : va_G) (cA : Nat → ClassId) (N0 : Nat) (adS : Nat → Nat) {n d : Nat} {h h' : ab_H} {x o : Nat} {v : Int32} {mc ms : Nat} (e : ab_la n d h x o = some (v, h')) (hx9 : ∃ fs, h[x]? = some (.inr (5, fs))) (hmc : mc + h.length = h'.length) (hms : ms + ab_sz h = ab_sz h') :
    Met l ab_yla ab_wla (ab_rm (d + 1) mc ms) (ab_P D cA N0 adS [.ref x, .ref o] h) (ab_Q D cA N0 adS (.inl (some (.int v))) h') mc ms (ab_A N0) := by
  refine va_MetW (cc := method_3_code) (maxL := 3) (ret := some .int) (hh := ab_hla) (by decide) rfl ?_
  intro p e9 s m args below meth c s₁ B hml hv
  obtain ⟨rfl, hK, hW, hz, hSW⟩ := hv
  have hts := atoms_spec (ws := ab_wla) B.pre
  have hx := B.exec
  have hb := B.bytes
  have hr := B.returns
  have hown : s.vm.findClass "CodeSmithLaw" = some m.cls := findClass_of_methodNamed B.named
  have hlocks := B.notSynchronized
  have htab := vx_table (x := ab_yla) B (hts _ List.mem_cons_self)
  obtain ⟨w1, w2, w3, w4, w5, w6, w7, w8, w9⟩ := ab_law_w
  have hT : ∀ w ∈ ab_T, w ∈ ab_wla := fun w hw => List.mem_cons_of_mem _ hw
  have hG : GoodIn ab_wla (ab_wm ab_m15) := by
    have hg := ab_T_goodT (Ts := ab_wla) hT
    intro w hw
    rcases List.mem_cons.mp hw with rfl | hw
    · exact hg _ (ab_hok_at (ab_prog_at ab_prog15).1).1
    · exact hg w hw
  have hlv := lv_entry ([.ref (N0 + x), .ref (N0 + o)]) (n := 3) (Nat.le_of_ble_eq_true rfl)
  rw [show (List.map (ab_rv N0 adS) [Value.ref x, Value.ref o]).toArray = ([Value.ref (N0 + x), Value.ref (N0 + o)] : List Value).toArray from rfl, lg_entry_eq]
  generalize (lg_sl ([Value.ref (N0 + x), Value.ref (N0 + o)]) ++ List.replicate (3 - (lg_sl ([Value.ref (N0 + x), Value.ref (N0 + o)])).length) Slot.unset).toArray = ls at hlv ⊢
  have hlv : lv_has ls 3 [(0, .ref (N0 + x)), (1, .ref (N0 + o))] := hlv
  refine lv_aload_n hx hb dla_0 rfl (lv_at hlv 1 rfl) ?_
  refine lv_iconst (v := 0) hx hb dla_1 (by decide) ?_
  refine lv_aload_n hx hb dla_2 rfl (lv_at hlv 0 rfl) ?_
  have S : CallFix p m c method_3_code 3 s (List.map (ab_rv N0 adS) [Value.ref x, Value.ref o]).toArray ab_wla "CodeSmithLaw" := ⟨hx, hb, hml, hown, hts⟩
  have hmo := ab_la_mono e
  -- the callee
  have key : ∀ (o2 : Option Value ⊕ Unit) (h2 : ab_H), ab_go n d 15 0 [(0, .ref x)] [] h = some (o2, h2) → (∀ w, o2 = .inl w → ∃ (i : Int32) (h3 : ab_H), w = some (.int i) ∧ ab_last h2 [.long i.toInt64, .int 0, .ref o] = some ([], h3) ∧ v = 0 ∧ h' = h3) → (o2 = .inr () → v = 1 ∧ h' = h2) →
      W p l e9 (ab_rm (d + 1) mc ms) s m (List.map (ab_rv N0 adS) [Value.ref x, Value.ref o]).toArray below meth c s.heap [] 0 0 (MQ below (ab_Q D cA N0 adS (.inl (some (.int v))) h') (List.map (ab_rv N0 adS) [Value.ref x, Value.ref o]).toArray s mc ms (ab_A N0)) (F0 m 3 ls [.ref (N0 + x), .int 0, .ref (N0 + o)]) := by
    intro o2 h2 hg hr1 hr2
    have hm2 := ab_go_mono _ _ _ _ _ _ _ _ _ hg
    have hle : h2.length ≤ h'.length ∧ ab_sz h2 ≤ ab_sz h' := by
      rcases o2 with w | u
      · obtain ⟨i, h3, -, q2, -, q4⟩ := hr1 w rfl
        have h4 : ab_hp false "" .lastore 0 0 h2 [.long i.toInt64, .int 0, .ref o] = some ([], h3) := q2
        rw [q4]
        exact ab_hp_mono h4
      · obtain ⟨-, q⟩ := hr2 rfl
        rw [q]; exact ⟨Nat.le_refl _, Nat.le_refl _⟩
    obtain ⟨mc2, hmc2⟩ : ∃ k, k + h.length = h2.length := ⟨h2.length - h.length, by omega⟩
    obtain ⟨ms2, hms2⟩ : ∃ k, k + ab_sz h = ab_sz h2 := ⟨ab_sz h2 - ab_sz h, by omega⟩
    have hmet := ab_met_of (ab_frame l hl n) hl D cA N0 adS (vs := [.ref x]) ab_prog15 hg (by show 1 ≤ 3; decide) hmc2 hms2
    have cw : CallW (ab_rm (d + 1) mc ms) s (List.map (ab_rv N0 adS) [Value.ref x, Value.ref o]).toArray "CodeSmithLaw" "CodeSmith" 7 ab_m15.2.1 ab_m15.2.2.1 ab_m15.2.2.2.1 ab_m15.2.2.2.2.1 (ab_wm ab_m15) (ab_rm d mc2 ms2) mc2 ms2 0 := by
      refine ⟨callB_of _ hts hG rfl rfl rfl (hts _ (hT _ (List.mem_filter.mpr ⟨w6, rfl⟩))) (hts _ (hT _ (List.mem_filter.mpr ⟨w2, rfl⟩))) (by decide +kernel) ⟨?_, ?_⟩, hts _ (hT _ (List.mem_filter.mpr ⟨w3, rfl⟩)), hts _ (hT _ (List.mem_filter.mpr ⟨w4, rfl⟩))⟩
      · show d + 10 + 1 ≤ d + 1 + 10
        omega
      · show 8 + (ab_m15.2.2.2.1 + 11) + (40 * d + 200) ≤ 40 * (d + 1) + 200
        have h20 : ab_m15.2.2.2.1 ≤ 20 := (ab_hok_at (ab_prog_at ab_prog15).1).2.2.2.2.2
        omega
    obtain ⟨fs, hfs⟩ := hx9
    have he := ab_ws_at (cA := cA) (N0 := N0) (adS := adS) hfs
    have hrc := va_recv hK hW (ci := 5) rfl he
    refine ab_run_k (vx_runV (As := []) (b := N0 + x) (rest := [.int 0, .ref (N0 + o)]) S hmet cw ⟨ab_P_blind _ _ _ _ _ _, hrc, ab_pre hK hW hz va_S.rf hSW [.ref x]⟩ rfl rfl hlv.1 rfl (lv_room (Nat.le_of_ble_eq_true rfl)) dla_3 ⟨?_, ?_⟩) va_S.rf (fun w hw H1 locs1 q1 q2 => ?_) (fun hw H1 locs1 ce q q1 q2 q3 q4 q5 => ?_)
    · show 0 + mc2 ≤ mc
      omega
    · show 0 + ms2 ≤ ms
      omega
    · obtain ⟨i, h3, r1, r2, r3, r4⟩ := hr1 w hw
      subst r1; subst r3; subst r4
      refine lv_i2l hx hb dla_6 rfl ?_
      refine ab_last_sim (st := [.long i.toInt64, .int 0, .ref o]) (st' := []) hx hb hK q1 q2 dla_7 r2 (fun H2 locs2 c2 s2 g1 g2 g3 g4 => ?_)
      refine lv_goto (tgt := 14) hx hb dla_8 (by decide) ?_
      refine lv_iconst (v := 0) hx hb dla_14 (by decide) ?_
      have e1 : c2 = mc := by omega
      have e2 : s2 = ms := by omega
      subst e1; subst e2
      exact W.iret hx hb hr (fun t ht _ => ⟨some (.int 0), rfl, rfl, by rw [ht]; exact g1, g2.F ht⟩) g2.2.2 dla_15 hlocks
    · obtain ⟨r1, r2⟩ := hr2 hw
      subst r1; subst r2
      refine vx_catch (own := "CodeSmithLaw") (name := ab_IAE) (E := ab_IAE) hown [] _ [] htab (fun z hz9 => nomatch hz9) (by decide) (by decide) (hts _ (hT _ (List.mem_filter.mpr ⟨w5, rfl⟩))) (va_Nw.use rfl (hSW.2.2.2.2.2.2.2.2.1.2 _ List.mem_cons_self)) q3 q4 q5 ?_
      refine lv_astore_n (lv' := [(2, .ref q), (0, .ref (N0 + x)), (1, .ref (N0 + o))]) hx hb dla_11 rfl hlv (by decide) rfl (fun ls2 hlv2 => ?_)
      refine lv_iconst (v := 1) hx hb dla_12 (by decide) ?_
      have e1 : 0 + mc2 = mc := by omega
      have e2 : 0 + ms2 = ms := by omega
      rw [e1, e2]
      exact W.iret hx hb hr (fun t ht _ => ⟨some (.int 1), rfl, rfl, by rw [ht]; exact q1, q2.F ht⟩) q2.2.2 dla_13 hlocks
  unfold ab_la at e
  split at e
  · rename_i w h1 hg
    split at e
    · rename_i h2 hl9
      cases e
      exact key _ _ hg (fun y hy => by cases hy; exact ⟨w, h', rfl, hl9, rfl, rfl⟩) (fun hy => by cases hy)
    · cases e
  · rename_i u h1 hg
    cases e
    exact key _ _ hg (fun y hy => by cases hy) (fun _ => ⟨rfl, rfl⟩)
  · cases e
end
section
/-! THE LAW's BODY as a run of the abstract machine: the script is the constant array 600. -/
def ab_lc : List ab_I := [(0, .new 8, 3, 5, 0), (3, .dup, 1, 0, 0), (4, .invokespecial 15, 3, 0, 0), (7, .astore_n 1, 1, 0, 0), (8, .new 16, 3, 6, 0), (11, .dup, 1, 0, 0), (12, .invokespecial 18, 3, 108, 0), (15, .astore_n 2, 1, 0, 0), (16, .iconst 1, 1, 0, 0), (17, .newarray .long, 2, 0, 0), (19, .astore_n 3, 1, 0, 0), (20, .iconst 0, 1, 0, 0), (21, .istore 4, 2, 0, 0), (23, .iload 4, 2, 0, 0), (25, .aload_n 0, 1, 0, 0), (26, .arraylength, 1, 0, 0), (27, .bipush 6, 2, 0, 0), (29, .isub, 1, 0, 0), (30, .if_icmp .gt 290, 3, 320, 0), (33, .aload_n 0, 1, 0, 0), (34, .iload 4, 2, 0, 0), (36, .iaload, 1, 0, 0), (37, .bipush 7, 2, 0, 0), (39, .iand, 1, 0, 0), (40, .tableswitch 274 0 6 #[44, 117, 142, 155, 199, 224, 249], 44, 0, 0), (84, .aload_n 1, 1, 0, 0), (85, .aload_n 0, 1, 0, 0), (86, .iload 4, 2, 0, 0), (88, .iconst 1, 1, 0, 0), (89, .iadd, 1, 0, 0), (90, .iaload, 1, 0, 0), (91, .aload_n 0, 1, 0, 0), (92, .iload 4, 2, 0, 0), (94, .iconst 2, 1, 0, 0), (95, .iadd, 1, 0, 0), (96, .iaload, 1, 0, 0), (97, .aload_n 0, 1, 0, 0), (98, .iload 4, 2, 0, 0), (100, .iconst 3, 1, 0, 0), (101, .iadd, 1, 0, 0), (102, .iaload, 1, 0, 0), (103, .aload_n 0, 1, 0, 0), (104, .iload 4, 2, 0, 0), (106, .iconst 4, 1, 0, 0), (107, .iadd, 1, 0, 0), (108, .iaload, 1, 0, 0), (109, .aload_n 0, 1, 0, 0), (110, .iload 4, 2, 0, 0), (112, .iconst 5, 1, 0, 0), (113, .iadd, 1, 0, 0), (114, .iaload, 1, 0, 0), (115, .invokevirtual 19, 3, 6, 0), (118, .aload_n 2, 1, 0, 0), (119, .aload_n 0, 1, 0, 0), (120, .iload 4, 2, 0, 0), (122, .iconst 1, 1, 0, 0), (123, .iadd, 1, 0, 0), (124, .iaload, 1, 0, 0), (125, .aload_n 0, 1, 0, 0), (126, .iload 4, 2, 0, 0), (128, .iconst 2, 1, 0, 0), (129, .iadd, 1, 0, 0), (130, .iaload, 1, 0, 0), (131, .aload_n 0, 1, 0, 0), (132, .iload 4, 2, 0, 0), (134, .iconst 3, 1, 0, 0), (135, .iadd, 1, 0, 0), (136, .iaload, 1, 0, 0), (137, .aload_n 0, 1, 0, 0), (138, .iload 4, 2, 0, 0), (140, .iconst 4, 1, 0, 0), (141, .iadd, 1, 0, 0), (142, .iaload, 1, 0, 0), (143, .aload_n 0, 1, 0, 0), (144, .iload 4, 2, 0, 0), (146, .iconst 5, 1, 0, 0), (147, .iadd, 1, 0, 0), (148, .iaload, 1, 0, 0), (149, .invokevirtual 23, 3, 110, 0), (152, .if_icmp .eq 162, 3, 314, 0), (155, .iconst 0, 1, 0, 0), (156, .ireturn, 1, 0, 0), (157, .aload_n 1, 1, 0, 0), (158, .aload_n 0, 1, 0, 0), (159, .iload 4, 2, 0, 0), (161, .iconst 1, 1, 0, 0), (162, .iadd, 1, 0, 0), (163, .iaload, 1, 0, 0), (164, .invokevirtual 24, 3, 9, 0), (167, .aload_n 2, 1, 0, 0), (168, .aload_n 0, 1, 0, 0), (169, .iload 4, 2, 0, 0), (171, .iconst 1, 1, 0, 0), (172, .iadd, 1, 0, 0), (173, .iaload, 1, 0, 0), (174, .invokevirtual 28, 3, 111, 0), (177, .if_icmp .eq 137, 3, 314, 0), (180, .iconst 0, 1, 0, 0), (181, .ireturn, 1, 0, 0), (182, .aload_n 1, 1, 0, 0), (183, .invokevirtual 29, 3, 10, 0), (186, .aload_n 2, 1, 0, 0), (187, .invokevirtual 32, 3, 112, 0), (190, .if_icmp .eq 124, 3, 314, 0), (193, .iconst 0, 1, 0, 0), (194, .ireturn, 1, 0, 0), (195, .aload_n 1, 1, 0, 0), (196, .aload_n 3, 1, 0, 0), (197, .invokestatic 33, 3, 0, 0), (200, .istore 5, 2, 0, 0), (202, .aload_n 2, 1, 0, 0), (203, .invokevirtual 38, 3, 113, 0), (206, .istore 6, 2, 0, 0), (208, .aload_n 2, 1, 0, 0), (209, .invokevirtual 39, 3, 109, 0), (212, .iload 5, 2, 0, 0), (214, .if_icmp .eq 5, 3, 219, 0), (217, .iconst 0, 1, 0, 0), (218, .ireturn, 1, 0, 0), (219, .iload 5, 2, 0, 0), (221, .ifCond .ne 15, 3, 236, 0), (224, .aload_n 3, 1, 0, 0), (225, .iconst 0, 1, 0, 0), (226, .laload, 1, 0, 0), (227, .iload 6, 2, 0, 0), (229, .i2l, 1, 0, 0), (230, .lcmp, 1, 0, 0), (231, .ifCond .eq 5, 3, 236, 0), (234, .iconst 0, 1, 0, 0), (235, .ireturn, 1, 0, 0), (236, .goto 78, 3, 314, 0), (239, .aload_n 1, 1, 0, 0), (240, .aload_n 0, 1, 0, 0), (241, .iload 4, 2, 0, 0), (243, .iconst 1, 1, 0, 0), (244, .iadd, 1, 0, 0), (245, .iaload, 1, 0, 0), (246, .invokevirtual 42, 3, 11, 0), (249, .aload_n 2, 1, 0, 0), (250, .aload_n 0, 1, 0, 0), (251, .iload 4, 2, 0, 0), (253, .iconst 1, 1, 0, 0), (254, .iadd, 1, 0, 0), (255, .iaload, 1, 0, 0), (256, .invokevirtual 46, 3, 174, 0), (259, .if_icmp .eq 55, 3, 314, 0), (262, .iconst 0, 1, 0, 0), (263, .ireturn, 1, 0, 0), (264, .aload_n 1, 1, 0, 0), (265, .aload_n 0, 1, 0, 0), (266, .iload 4, 2, 0, 0), (268, .iconst 1, 1, 0, 0), (269, .iadd, 1, 0, 0), (270, .iaload, 1, 0, 0), (271, .invokevirtual 47, 3, 12, 0), (274, .aload_n 2, 1, 0, 0), (275, .aload_n 0, 1, 0, 0), (276, .iload 4, 2, 0, 0), (278, .iconst 1, 1, 0, 0), (279, .iadd, 1, 0, 0), (280, .iaload, 1, 0, 0), (281, .invokevirtual 50, 3, 175, 0), (284, .if_icmp .eq 30, 3, 314, 0), (287, .iconst 0, 1, 0, 0), (288, .ireturn, 1, 0, 0), (289, .aload_n 1, 1, 0, 0), (290, .aload_n 0, 1, 0, 0), (291, .iload 4, 2, 0, 0), (293, .iconst 1, 1, 0, 0), (294, .iadd, 1, 0, 0), (295, .iaload, 1, 0, 0), (296, .invokevirtual 51, 3, 14, 0), (299, .aload_n 2, 1, 0, 0), (300, .aload_n 0, 1, 0, 0), (301, .iload 4, 2, 0, 0), (303, .iconst 1, 1, 0, 0), (304, .iadd, 1, 0, 0), (305, .iaload, 1, 0, 0), (306, .invokevirtual 54, 3, 176, 0), (309, .if_icmp .eq 5, 3, 314, 0), (312, .iconst 0, 1, 0, 0), (313, .ireturn, 1, 0, 0), (314, .iinc 4 6, 3, 0, 0), (317, .goto (-294), 3, 23, 0), (320, .iconst 1, 1, 0, 0), (321, .ireturn, 1, 0, 0)]
def ab_lv : List (Nat × Nat × Nat × Nat × Nat) := [(19, 6, 363, 364, 365), (23, 110, 1195, 1196, 1197), (24, 9, 389, 390, 391), (28, 111, 1199, 1200, 1201), (29, 10, 393, 394, 395), (32, 112, 1203, 1204, 1205), (38, 113, 1207, 1208, 1209), (39, 109, 1191, 1192, 1193), (42, 11, 397, 398, 399), (46, 174, 1453, 1454, 1455), (47, 12, 401, 402, 403), (50, 175, 1457, 1458, 1459), (51, 14, 409, 410, 411), (54, 176, 1461, 1462, 1463)]
def ab_li : List (Nat × Nat × Nat × Nat) := [(15, 0, 123, 124), (18, 108, 923, 924)]
def ab_ln9 : List (Nat × Nat) := [(8, 5), (16, 6)]
def ab_leok (q : ab_I) : Bool := decide (decode code q.1 = .ok (q.2.1, q.2.2.1)) && (q.2.2.1 == ab_len q.2.1 || ab_len q.2.1 == 0) && ab_tok q.2.1 q.1 q.2.2.2.1 && (match q.2.1 with
  | .invokevirtual i => ab_lv.any (fun z => z.1 == i && z.2.1 == q.2.2.2.1)
  | .invokespecial i => ab_li.any (fun z => z.1 == i && z.2.1 == q.2.2.2.1)
  | .invokestatic i => i == 33
  | .new i => ab_ln9.any (fun z => z.1 == i && z.2 == q.2.2.2.1)
  | _ => true)
set_option maxRecDepth 1000000 in
theorem ab_lc_ok : ab_lc.all ab_leok = true := by decide +kernel
def ab_lv_ok (q : Nat × Nat × Nat × Nat × Nat) : Bool := match ab_prog[q.2.1]? with
  | some P => decide (lw_tbl[q.2.2.1]? = some (.methodLink "CodeSmithLaw" q.1 P.1.2.1)) && decide (lw_tbl[q.2.2.2.1]? = some (.instanceMethod P.1.2.1)) && decide (lw_tbl[q.2.2.2.2]? = some (.selects P.1.2.1.cls P.1.2.1 P.1.2.1))
  | none => false
set_option maxRecDepth 1000000 in
theorem ab_lv_all : ab_lv.all ab_lv_ok = true := by decide +kernel
def ab_li_ok (q : Nat × Nat × Nat × Nat) : Bool := match ab_prog[q.2.1]? with
  | some P => decide (lw_tbl[q.2.2.1]? = some (.methodLink "CodeSmithLaw" q.1 P.1.2.1)) && decide (lw_tbl[q.2.2.2]? = some (.instanceMethod P.1.2.1)) && decide (P.1.2.1.name = "<init>") && decide (P.1.2.2.2.2.1 = none)
  | none => false
set_option maxRecDepth 1000000 in
theorem ab_li_all : ab_li.all ab_li_ok = true := by decide +kernel
set_option maxRecDepth 1000000 in
theorem ab_ln9_w : Cond.classLink "CodeSmithLaw" 8 "CodeSmith" ∈ lw_tbl ∧ Cond.classLink "CodeSmithLaw" 16 "CodeSmithModel" ∈ lw_tbl := by decide +kernel
def ab_lx (xs : Nat → Int32) (L : Nat) (i : Instr) (h : ab_H) (st : List Value) : Option (List Value) := match i with
  | .arraylength => match st with
    | .retAddr k :: r => if k = 600 then some (.int (Int32.ofNat L) :: r) else none
    | _ => none
  | .iaload => match st with
    | .int j :: .retAddr k :: r => if k = 600 ∧ ¬ (j < 0 ∨ L ≤ j.toNatClampNeg) then some (.int (xs j.toNatClampNeg) :: r) else none
    | _ => none
  | .laload => ab_lald h st
  | _ => none
def ab_lnw (i : Instr) (a : Nat) (h : ab_H) (st : List Value) : Option (List Value × ab_H) := match i with
  | .new _ => ab_nw a h st
  | .newarray t => ab_nwa t h st
  | _ => none
def ab_ln (xs : Nat → Int32) (L : Nat) (i : Instr) (a pc : Nat) (l : ab_L) (st : List Value) (h : ab_H) : Option (Nat × ab_L × List Value × ab_H) :=
  match ab_op i st with
  | some st' => some (pc + ab_len i, l, st', h)
  | none => match ab_ld i l with
    | some v => some (pc + ab_len i, l, v :: st, h)
    | none => match ab_sto 7 i l st with
      | some q => some (pc + ab_len i, q.1, q.2, h)
      | none => match ab_br i pc a st with
        | some q => some (q.1, l, q.2, h)
        | none => match ab_lx xs L i h st with
          | some st' => some (pc + ab_len i, l, st', h)
          | none => match ab_lnw i a h st with
            | some q => some (pc + ab_len i, l, q.1, q.2)
            | none => none
def ab_lret (i : Instr) (st : List Value) : Option Int32 := match i with
  | .ireturn => match st with
    | [.int v] => some v
    | _ => none
  | _ => none
def ab_lc2 (n d : Nat) (i : Instr) (a : Nat) (h : ab_H) (st : List Value) : Option (Option Value × List Value × ab_H) := match ab_prog[a]? with
  | none => none
  | some P2 => match ab_inv i a P2.1.2.2.2.2.2.1 P2.1.2.1.cls h st with
    | none => none
    | some z => if (lg_sl z.1).length ≤ P2.1.2.2.2.1 then (match ab_go n d a 0 (lv_args 0 z.1) [] h with
      | some (.inl v, h') => some (v, z.2, h')
      | _ => none) else none
def ab_lcs (n d : Nat) (h : ab_H) (st : List Value) : Option (Option Value × List Value × ab_H) := match st with
  | .ref o :: .ref x :: r => match h[x]? with
    | some (.inr ob) => if ob.1 = 5 ∧ ab_cat r ≤ 8 then (match ab_la n d h x o with
      | some z => some (some (.int z.1), r, z.2)
      | none => none) else none
    | _ => none
  | _ => none
def ab_lcl (n d : Nat) (i : Instr) (a : Nat) (h : ab_H) (st : List Value) : Option (Option Value × List Value × ab_H) := match i with
  | .invokestatic _ => ab_lcs n d h st
  | .invokevirtual _ => ab_lc2 n d i a h st
  | .invokespecial _ => ab_lc2 n d i a h st
  | _ => none
def ab_law (xs : Nat → Int32) (L : Nat) : Nat → Nat → Nat → ab_L → List Value → ab_H → Option (Int32 × ab_H)
  | 0, _, _, _, _, _ => none
  | n + 1, d, pc, l, st, h => match ab_fetch ab_lc pc with
    | none => none
    | some q => match ab_ln xs L q.1 q.2.2.1 pc l st h with
      | some z => ab_law xs L n d z.1 z.2.1 z.2.2.1 z.2.2.2
      | none => match ab_lret q.1 st with
        | some v => some (v, h)
        | none => match ab_lcl n d q.1 q.2.2.1 h st with
          | none => none
          | some z => ab_law xs L n d (pc + 3) l (z.1.toList ++ z.2.1) z.2.2
end
section
/-! the skeleton's head (its lw_ret for any room) -/
def R_law : String := "CodeSmithLaw"
def lw_P (b : Addr) (xs : List Int32) (args : Array Value) (s : State) : Prop := args = #[.ref b] ∧ s.IntsAt b xs ∧ xs.length ≤ 3072 ∧ (Jvm.Cond.and given_1 narrow_1).before args s = true
def lw_Q (_ : Array Value) (s : State) (o : Outcome) (t : State) : Prop := o = .returned (some (.int 1)) ∧ Framed s o t [] 61024 8913034
def lw_Z (below : List Frame) (a : Array Value) (s : State) : State → Prop := fun t => ∃ o, t.status = .running ∧ Ended t below o ∧ lw_Q a s o t
/-- the law's own end, with 1 on the stack, nothing written that was there before, its room as the claim has it -/
theorem lw_ret {p : Program} {l : Launch} {e : Env} {R : Room} {s : State} {m : MethodId} {below : List Frame} {meth : Method} {c : Code} {b : Nat} (hx : p.tables.exec = Jvm.exec) (hb : c.code = code) (hr : meth.sig.returnType = ret) (hlocks : meth.locks = false) {pc : Nat} {H : Heap} {ls : Array Slot} (hdg : decode code pc = .ok (.ireturn, 1)) : W p l e R s m #[Value.ref b] below meth c H [] 61024 8913034 (lw_Z below #[Value.ref b] s) (F0 m pc ls [.int 1]) := by
  intro T hT X
  obtain ⟨fs, hret, hrun, hended, hW, hframe⟩ := X.leave (v := some (.int 1)) (hlocks := hlocks) (fun h => by rw [hr] at h; cases h)
  have hmeth' : T.vm.method? m = some meth := X.method'
  refine ⟨T.setFrames fs, ?_, .returned (some (.int 1)), hrun, hended, rfl, ⟨_, rfl⟩, hW, hframe⟩
  jvm_step X.here [X.here.top, hx, hb, hdg, hmeth', hr, ret, narrow_b1]
  (try refine ⟨rfl, ?_⟩); (try refine ⟨rfl, ?_⟩)
  first | (intro acts; rw [hret _ acts rfl rfl rfl]) | rw [hret _ _ rfl rfl rfl]
  exact Steps.refl _
/-- what holds at the law's entry: the machine, the code, the tables' words (any of lw_tbl by 'hts w (by decide +kernel)'), the script of L ints xs at the cell b, what the Statement gives of the start (any of its parts by flat_of_before) -/
def lw_At (p : Program) (s : State) (m : MethodId) (meth : Method) (c : Code) (b L : Nat) (xs : Nat → Int32) : Prop :=
  p.tables.exec = Jvm.exec ∧ c.code = code ∧ meth.sig.returnType = ret ∧ c.maxLocals = 7 ∧ s.vm.findClass R_law = some m.cls ∧ (∀ w ∈ lw_tbl, w.before #[Value.ref b] s = true) ∧ va_X b L xs s s.heap ∧ b < s.heap.size ∧ meth.locks = false ∧ (Jvm.Cond.and given_1 narrow_1).before #[Value.ref b] s = true
end
section
theorem ab_T_tbl : ∀ w ∈ ab_T, w ∈ lw_tbl := fun w hw => (List.mem_filter.mp hw).1
theorem ab_ln_mono {xs : Nat → Int32} {L : Nat} {i : Instr} {a pc : Nat} {l : ab_L} {st : List Value} {h : ab_H} {z : Nat × ab_L × List Value × ab_H} (e : ab_ln xs L i a pc l st h = some z) : h.length ≤ z.2.2.2.length ∧ ab_sz h ≤ ab_sz z.2.2.2 := by
  have hw : ∀ q, ab_lnw i a h st = some q → h.length ≤ q.2.length ∧ ab_sz h ≤ ab_sz q.2 := by
    intro q hq
    cases i <;> simp only [ab_lnw, reduceCtorEq] at hq
    case new idx => exact ab_hp_mono (ini := false) (own := "") (i := .new idx) (a := a) (b := 0) (st := st) (st' := q.1) hq
    case newarray t => exact ab_hp_mono (ini := false) (own := "") (i := .newarray t) (a := a) (b := 0) (st := st) (st' := q.1) hq
  unfold ab_ln at e
  repeat' split at e
  all_goals first | (cases e; exact ⟨Nat.le_refl _, Nat.le_refl _⟩) | (cases e; done) | (cases e; rename_i hq; exact hw _ hq)
theorem ab_lc2_mono {n d : Nat} {i : Instr} {a : Nat} {st : List Value} {h : ab_H} {z : Option Value × List Value × ab_H} (e : ab_lc2 n d i a h st = some z) : h.length ≤ z.2.2.length ∧ ab_sz h ≤ ab_sz z.2.2 := by
  unfold ab_lc2 at e
  split at e
  · cases e
  · split at e
    · cases e
    · split at e
      · split at e
        · rename_i hq
          cases e
          exact ab_go_mono _ _ _ _ _ _ _ _ _ hq
        · cases e
      · cases e
theorem ab_lcl_mono {n d : Nat} {i : Instr} {a : Nat} {st : List Value} {h : ab_H} {z : Option Value × List Value × ab_H} (e : ab_lcl n d i a h st = some z) : h.length ≤ z.2.2.length ∧ ab_sz h ≤ ab_sz z.2.2 := by
  cases i <;> simp only [ab_lcl, reduceCtorEq] at e
  case invokevirtual => exact ab_lc2_mono e
  case invokespecial => exact ab_lc2_mono e
  case invokestatic =>
    unfold ab_lcs at e
    split at e
    · split at e
      · split at e
        · split at e
          · rename_i q hq
            cases e
            exact ab_la_mono hq
          · cases e
        · cases e
      · cases e
    · cases e
theorem ab_law_mono (xs : Nat → Int32) (L : Nat) : ∀ (n d pc : Nat) (l : ab_L) (st : List Value) (h : ab_H) (v : Int32) (h' : ab_H), ab_law xs L n d pc l st h = some (v, h') → h.length ≤ h'.length ∧ ab_sz h ≤ ab_sz h' := by
  intro n
  induction n with
  | zero => intro d pc l st h v h' e; cases e
  | succ n ih =>
    intro d pc l st h v h' e
    unfold ab_law at e
    split at e
    · cases e
    · split at e
      · rename_i hz
        have h1 := ab_ln_mono hz
        have h2 := ih _ _ _ _ _ _ _ e
        exact ⟨Nat.le_trans h1.1 h2.1, Nat.le_trans h1.2 h2.2⟩
      · split at e
        · cases e; exact ⟨Nat.le_refl _, Nat.le_refl _⟩
        · split at e
          · cases e
          · rename_i hz
            have h1 := ab_lcl_mono hz
            have h2 := ih _ _ _ _ _ _ _ e
            exact ⟨Nat.le_trans h1.1 h2.1, Nat.le_trans h1.2 h2.2⟩
section AB12
variable {p : Program} {l : Launch} {e : Env} {R : Room} {s : State} {m : MethodId} {args : Array Value} {below : List Frame} {meth : Method} {c : Code} {H : Heap} {locs : List Loc} {cells slots : Nat} {Q : State → Prop} {cc : ByteArray} {pc : Nat} {ls : Array Slot} {N0 : Nat} {adS : Nat → Nat} {D : va_G} {cA : Nat → ClassId} {h h' : ab_H} {own : String} {Ts : List Cond} {st st' : List Value} {a b idx n0 L d n mc ms : Nat} {xs : Nat → Int32} {i : Instr}
theorem ab_nw_sim2 (hx : p.tables.exec = Jvm.exec) (hb : c.code = cc) (hown : s.vm.findClass own = some m.cls) (hts : ∀ w ∈ Ts, w.before args s = true) (hT : ∀ w ∈ ab_T, w ∈ Ts) (hK : va_K D ab_cl (ab_tys cA) s) (hW : ab_Wd D cA N0 adS h H) (hS : va_S (ab_A N0) s.heap H locs)
    (hs : s.heap.size = N0 + n0) (hc : cells + n0 = h.length) (hR1 : cells + h'.length ≤ R.cells + h.length) (hR2 : slots + ab_sz h' ≤ R.slots + ab_sz h) (hp : ∃ C : vw_C, ab_cl[a]? = some C ∧ Cond.classLink own idx C.1 ∈ Ts) (hd : decode cc pc = .ok (.new idx, 3)) (hh : ab_nw a h st = some (st', h'))
    (k : ab_kk p l e R s m args below meth c cells slots Q D cA N0 adS h h' (F0 m (pc + 3) ls (st'.map (ab_rv N0 adS)))) : W p l e R s m args below meth c H locs cells slots Q (F0 m pc ls (st.map (ab_rv N0 adS))) := by
  unfold ab_nw at hh
  split at hh
  · rename_i ha
    cases hh
    obtain ⟨C, hC, hlk⟩ := hp
    obtain ⟨hi1, hi2⟩ := ab_cl_ins ha hC
    have hl := ab_dfl_len hC
    have hz1 : ab_sz1 (.inr (a, ab_dfl a)) = C.2.2 := by
      simp only [ab_sz1]
      rw [if_neg (by omega), hl]
    rw [List.length_append, List.length_singleton] at hR1
    rw [ab_sz_push, hz1] at hR2
    refine va_new (C := C.1) (T := C.2.1) (N := C.2.2) (ci := a) (fs := (ab_dfl a).map (ab_rv N0 adS)) hx hb hts (fun w hw => hT w (ab_cl_in hC w hw)) (ab_ty a) (ab_cl_ty hC) hown (hts _ hlk) (hts _ (hT _ hi1)) (hts _ (hT _ hi2)) hK hW (ab_ws_D cA N0 adS h) hS (fun q hq => Nat.le_trans (by omega) hq) hC ?_ (by omega) (by omega) hd (fun q H1 hP1 hD1 hS1 => ?_)
    · intro j hj
      unfold vp_V ab_dfl
      rw [hC]
      simp [List.getD, hj, ab_rv_dfl]
    · intro T hT9 X
      have hz : T.heap.size ≤ s.heap.size + (cells + 1) := X.same.2.2.1
      rw [hT9] at hz
      have hq := ab_new_q hD1 hP1 (by omega)
      subst hq
      exact k H1 locs (cells + 1) (slots + C.2.2) (by unfold ab_Wd; rw [← ab_ws_push]; exact hP1) hS1 (by rw [List.length_append, List.length_singleton]; omega) (by rw [ab_sz_push, hz1]; omega) T hT9 X
  · cases hh
/-- what holds all along the law's body -/
def ab_Lx (p : Program) (l : Launch) (s : State) (m : MethodId) (meth : Method) (c : Code) (b L : Nat) (xs : Nat → Int32) (N0 : Nat) (adS : Nat → Nat) (D : va_G) (cA : Nat → ClassId) : Prop :=
  p.tables.exec = Jvm.exec ∧ c.code = code ∧ meth.sig.returnType = ret ∧ c.maxLocals = 7 ∧ s.vm.findClass "CodeSmithLaw" = some m.cls ∧ (∀ w ∈ lw_tbl, w.before #[Value.ref b] s = true) ∧ va_X b L xs s s.heap ∧ b < s.heap.size ∧ meth.locks = false ∧ l.stackTraces = false ∧ N0 = s.heap.size ∧ adS 600 = b ∧ va_K D ab_cl (ab_tys cA) s ∧ ab_SW N0 adS s s.heap
theorem ab_goodL {P2 : ab_M × List ab_I} (h2 : ab_prog[a]? = some P2) : GoodIn lw_tbl (ab_wm P2.1) := by
  have hg := ab_T_goodT (Ts := lw_tbl) ab_T_tbl
  intro w hw
  rcases List.mem_cons.mp hw with rfl | hw
  · exact hg _ (ab_hok_at (ab_prog_at h2).1).1
  · exact hg w hw
theorem ab_goodLa : GoodIn lw_tbl (va_wsS "CodeSmithLaw" 33 ab_yla ab_wla) := by
  have hg := ab_T_goodT (Ts := lw_tbl) ab_T_tbl
  obtain ⟨w1, w2, w3, w4, w5, w6, w7, w8, w9⟩ := ab_law_w
  intro w hw
  unfold va_wsS at hw
  rcases List.mem_append.mp hw with hw | hw
  · simp only [List.mem_cons, List.not_mem_nil, or_false] at hw
    rcases hw with rfl | rfl | rfl
    · exact ⟨w9, good_of_word rfl⟩
    · exact ⟨w8, good_of_word rfl⟩
    · exact ⟨w7, good_of_word rfl⟩
  · rcases List.mem_cons.mp hw with rfl | hw
    · exact ⟨w1, good_of_word rfl⟩
    · exact hg w hw
/-- a call out of the law -/
theorem ab_lcl_sim {z : Option Value × List Value × ab_H} {len b9 : Nat} (X : ab_Lx p l s m meth c b L xs N0 adS D cA) (hlv : ls.size = 7) (hW : ab_Wd D cA N0 adS h H) (hz : H.size = N0 + h.length) (hS : va_S (ab_A N0) s.heap H locs) (hk : ab_leok (pc, i, len, a, b9) = true) (hh : ab_lcl n d i a h st = some z) (hc1 : cells + z.2.2.length ≤ mc + h.length) (hc2 : slots + ab_sz z.2.2 ≤ ms + ab_sz h)
    (k : ab_kk p l e (ab_rm (d + 2) mc ms) s m #[Value.ref b] below meth c cells slots Q D cA N0 adS h z.2.2 (F0 m (pc + 3) ls ((z.1.toList ++ z.2.1).map (ab_rv N0 adS)))) : W p l e (ab_rm (d + 2) mc ms) s m #[Value.ref b] below meth c H locs cells slots Q (F0 m pc ls (st.map (ab_rv N0 adS))) := by
  obtain ⟨hx, hb, hr, hml, hown, hts, hX, hbl, hlocks, hl, hN, had, hK, hSW⟩ := X
  have hmono := ab_lcl_mono hh
  unfold ab_leok at hk
  simp only [Bool.and_eq_true, decide_eq_true_eq, Bool.or_eq_true, beq_iff_eq] at hk
  obtain ⟨⟨⟨hdec, hlen⟩, -⟩, hpool⟩ := hk
  have S : CallFix p m c code 7 s #[Value.ref b] lw_tbl "CodeSmithLaw" := ⟨hx, hb, hml, hown, hts⟩
  have ktoL : ∀ (v : Option Value) (r : List Value), ((v.map (ab_rv N0 adS)).toList ++ r.map (ab_rv N0 adS)) = (v.toList ++ r).map (ab_rv N0 adS) := by
    intro v r; cases v <;> simp
  cases i
  case invokestatic idx =>
    simp only [ab_len] at hlen
    have hd : decode code pc = .ok (.invokestatic idx, 3) := by rw [hdec]; rcases hlen with h9 | h9; (rw [h9]); (cases h9)
    simp only [beq_iff_eq] at hpool
    subst hpool
    simp only [ab_lcl, ab_lcs] at hh
    split at hh
    · rename_i o x r
      split at hh
      · rename_i ob hob
        split at hh
        · rename_i hc
          split at hh
          · rename_i q hq
            cases hh
            obtain ⟨v, h2⟩ := q
            have hm2 := ab_la_mono hq
            obtain ⟨mc2, hmc2⟩ : ∃ k, k + h.length = h2.length := ⟨h2.length - h.length, by omega⟩
            obtain ⟨ms2, hms2⟩ : ∃ k, k + ab_sz h = ab_sz h2 := ⟨ab_sz h2 - ab_sz h, by omega⟩
            have hmet := ab_la_met hl D cA N0 adS hq ⟨ob.2, by rw [hob]; rw [← hc.1]⟩ hmc2 hms2
            have hc1' : cells + h2.length ≤ mc + h.length := hc1
            have hc2' : slots + ab_sz h2 ≤ ms + ab_sz h := hc2
            refine ab_run_m (o2 := .inl (some (.int v))) (h2 := h2) (vx_runSW (As := [.ref (N0 + x), .ref (N0 + o)]) (rest := r.map (ab_rv N0 adS)) S hmet (vx_cwSW 2 hts ab_goodLa rfl rfl rfl (by decide +kernel) ⟨?_, ?_⟩) ⟨ab_P_blind _ _ _ _ _ _, ab_pre hK hW hz hS hSW [.ref x, .ref o]⟩ rfl rfl hlv rfl (by show 2 * 0 + _ ≤ 8; rw [ab_cat_rv]; omega) hd ⟨?_, ?_⟩) hS (fun w hw H1 locs1 q1 q2 => ?_)
            · show d + 1 + 10 + 1 ≤ d + 2 + 10
              omega
            · show 8 + (3 + 11) + (40 * (d + 1) + 200) ≤ 40 * (d + 2) + 200
              omega
            · show cells + mc2 ≤ mc
              omega
            · show slots + ms2 ≤ ms
              omega
            · cases hw
              rw [ktoL]
              exact k H1 locs1 (cells + mc2) (slots + ms2) q1 q2 (by show cells + mc2 + h.length = cells + h2.length; omega) (by show slots + ms2 + ab_sz h = slots + ab_sz h2; omega)
          · cases hh
        · cases hh
      · cases hh
    · cases hh
  case invokevirtual idx =>
    simp only [ab_len] at hlen
    have hd : decode code pc = .ok (.invokevirtual idx, 3) := by rw [hdec]; rcases hlen with h9 | h9; (rw [h9]); (cases h9)
    obtain ⟨y, hy, hq⟩ := List.any_eq_true.mp hpool
    have h1 := List.all_eq_true.mp ab_lv_all y hy
    simp only [Bool.and_eq_true, beq_iff_eq] at hq
    obtain ⟨e1, e2⟩ := hq
    unfold ab_lv_ok at h1
    simp only [ab_lcl, ab_lc2] at hh
    split at hh
    · cases hh
    · rename_i P2 hP2
      rw [e2, hP2] at h1
      simp only [Bool.and_eq_true, decide_eq_true_eq] at h1
      rw [e1] at h1
      obtain ⟨g1, g2, g3, g4, g5, g6⟩ := ab_hok_at (ab_prog_at hP2).1
      split at hh
      · cases hh
      · rename_i z2 hi
        split at hh
        · rename_i hlg
          split at hh
          · rename_i v h2 hg
            cases hh
            have hm2 := ab_go_mono _ _ _ _ _ _ _ _ _ hg
            obtain ⟨mc2, hmc2⟩ : ∃ k, k + h.length = h2.length := ⟨h2.length - h.length, by omega⟩
            obtain ⟨ms2, hms2⟩ : ∃ k, k + ab_sz h = ab_sz h2 := ⟨ab_sz h2 - ab_sz h, by omega⟩
            have hmet := ab_met_of (ab_frame l hl n) hl D cA N0 adS hP2 hg hlg hmc2 hms2
            have hM0 := ab_toMet (fun E s9 t hX9 => by cases hX9.1) hmet
            have hc1' : cells + h2.length ≤ mc + h.length := hc1
            have hc2' : slots + ab_sz h2 ≤ ms + ab_sz h := hc2
            have cw : CallW (ab_rm (d + 2) mc ms) s #[Value.ref b] "CodeSmithLaw" P2.1.2.1.cls idx P2.1.2.1 P2.1.2.2.1 P2.1.2.2.2.1 P2.1.2.2.2.2.1 (ab_wm P2.1) (ab_rm d mc2 ms2) mc2 ms2 P2.1.2.2.2.2.2.1 := by
              refine ⟨callB_of _ hts (ab_goodL hP2) rfl rfl rfl (hts _ (ab_T_tbl _ (ab_own_T g2))) (hts _ (List.mem_of_getElem? h1.1.1)) ⟨g5.1, g5.2, g4⟩ ⟨?_, ?_⟩, hts _ (List.mem_of_getElem? h1.1.2), hts _ (List.mem_of_getElem? h1.2)⟩
              · show d + 10 + 1 ≤ d + 2 + 10
                omega
              · show 8 + (P2.1.2.2.2.1 + 11) + (40 * d + 200) ≤ 40 * (d + 2) + 200
                omega
            simp only [ab_inv] at hi
            split at hi
            · rename_i j r hdr
              split at hi
              · rename_i ob hob
                split at hi
                · rename_i hc
                  cases hi
                  have he := ab_ws_at (cA := cA) (N0 := N0) (adS := adS) hob
                  obtain ⟨rr, hrr, -⟩ := hW j _ he
                  have hrc : ∃ cell : Cell, H[N0 + j]? = some cell ∧ cell.vm.isStatics = false ∧ s.vm.findClass P2.1.2.1.cls = some cell.cls := by
                    have h9 := va_recv hK hW hrr he
                    have h8 : rr.1 = P2.1.2.1.cls := by rw [← hc.1]; unfold ab_cn; rw [hrr]
                    rw [h8] at h9
                    exact h9
                  refine ab_run_m (va_runV (As := (st.take P2.1.2.2.2.2.2.1).reverse.map (ab_rv N0 adS)) (b := N0 + j) (rest := r.map (ab_rv N0 adS)) S hM0 cw ⟨ab_P_blind _ _ _ _ _ _, hrc, ab_pre hK hW hz hS hSW (.ref j :: (st.take P2.1.2.2.2.2.2.1).reverse)⟩ rfl (by rw [List.length_map, List.length_reverse]; exact hc.2.1) hlv (ab_split N0 adS hdr) (by show 2 * 0 + _ ≤ 8; rw [ab_cat_rv]; omega) hd ⟨by show cells + mc2 ≤ mc; omega, by show slots + ms2 ≤ ms; omega⟩) hS (fun w hw H1 locs1 q1 q2 => ?_)
                  cases hw
                  rw [ktoL]
                  exact k H1 locs1 (cells + mc2) (slots + ms2) q1 q2 (by show cells + mc2 + h.length = cells + h2.length; omega) (by show slots + ms2 + ab_sz h = slots + ab_sz h2; omega)
                · cases hi
              · cases hi
            · rename_i k9 r hdr
              split at hi
              · rename_i hc
                cases hi
                have hrc : ∃ cell : Cell, H[adS k9]? = some cell ∧ cell.vm.isStatics = false ∧ s.vm.findClass P2.1.2.1.cls = some cell.cls := by
                  obtain ⟨cell, q1, q2, q3, q4⟩ := (hSW.1 k9 hc.2.1).1
                  refine ⟨cell, ?_, q2, by rw [← hc.1]; exact q3⟩
                  rw [hS.2.1 (adS k9) (Array.getElem?_eq_some_iff.mp q1).1 q4]
                  exact q1
                refine ab_run_m (va_runV (As := (st.take P2.1.2.2.2.2.2.1).reverse.map (ab_rv N0 adS)) (b := adS k9) (rest := r.map (ab_rv N0 adS)) S hM0 cw ⟨ab_P_blind _ _ _ _ _ _, hrc, ab_pre hK hW hz hS hSW (.retAddr k9 :: (st.take P2.1.2.2.2.2.2.1).reverse)⟩ rfl (by rw [List.length_map, List.length_reverse]; exact hc.2.2.1) hlv (ab_split N0 adS hdr) (by show 2 * 0 + _ ≤ 8; rw [ab_cat_rv]; omega) hd ⟨by show cells + mc2 ≤ mc; omega, by show slots + ms2 ≤ ms; omega⟩) hS (fun w hw H1 locs1 q1 q2 => ?_)
                cases hw
                rw [ktoL]
                exact k H1 locs1 (cells + mc2) (slots + ms2) q1 q2 (by show cells + mc2 + h.length = cells + h2.length; omega) (by show slots + ms2 + ab_sz h = slots + ab_sz h2; omega)
              · cases hi
            · cases hi
          · cases hh
        · cases hh
  case invokespecial idx =>
    simp only [ab_len] at hlen
    have hd : decode code pc = .ok (.invokespecial idx, 3) := by rw [hdec]; rcases hlen with h9 | h9; (rw [h9]); (cases h9)
    obtain ⟨y, hy, hq⟩ := List.any_eq_true.mp hpool
    have h1 := List.all_eq_true.mp ab_li_all y hy
    simp only [Bool.and_eq_true, beq_iff_eq] at hq
    obtain ⟨e1, e2⟩ := hq
    unfold ab_li_ok at h1
    simp only [ab_lcl, ab_lc2] at hh
    split at hh
    · cases hh
    · rename_i P2 hP2
      rw [e2, hP2] at h1
      simp only [Bool.and_eq_true, decide_eq_true_eq] at h1
      rw [e1] at h1
      obtain ⟨⟨⟨q1, q2⟩, q3⟩, q4⟩ := h1
      obtain ⟨g1, g2, g3, g4, g5, g6⟩ := ab_hok_at (ab_prog_at hP2).1
      split at hh
      · cases hh
      · rename_i z2 hi
        split at hh
        · rename_i hlg
          split at hh
          · rename_i v h2 hg
            cases hh
            have hm2 := ab_go_mono _ _ _ _ _ _ _ _ _ hg
            obtain ⟨mc2, hmc2⟩ : ∃ k, k + h.length = h2.length := ⟨h2.length - h.length, by omega⟩
            obtain ⟨ms2, hms2⟩ : ∃ k, k + ab_sz h = ab_sz h2 := ⟨ab_sz h2 - ab_sz h, by omega⟩
            have hmet := ab_met_of (ab_frame l hl n) hl D cA N0 adS hP2 hg hlg hmc2 hms2
            have hM0 := ab_toMet (fun E s9 t hX9 => by cases hX9.1) hmet
            have hc1' : cells + h2.length ≤ mc + h.length := hc1
            have hc2' : slots + ab_sz h2 ≤ ms + ab_sz h := hc2
            have hwe : ab_wm P2.1 = Cond.code P2.1.2.1 P2.1.2.2.1 P2.1.2.2.2.1 none :: ab_T := by unfold ab_wm; rw [q4]
            simp only [ab_inv] at hi
            split at hi
            · rename_i j r hdr
              split at hi
              · rename_i hc
                cases hi
                refine ab_run_m (va_runI (bytes := P2.1.2.2.1) (maxL := P2.1.2.2.2.1) (As := (st.take P2.1.2.2.2.2.2.1).reverse.map (ab_rv N0 adS)) (b := N0 + j) (rest := r.map (ab_rv N0 adS)) S hM0 ⟨callB_of _ hts (ab_goodL hP2) hwe rfl rfl (hts _ (ab_T_tbl _ (ab_own_T g2))) (hts _ (List.mem_of_getElem? q1)) ⟨g5.1, g5.2, g4⟩ ⟨by show d + 10 + 1 ≤ d + 2 + 10; omega, by show 8 + (P2.1.2.2.2.1 + 11) + (40 * d + 200) ≤ 40 * (d + 2) + 200; omega⟩, q3, hts _ (List.mem_of_getElem? q2)⟩ ⟨ab_P_blind _ _ _ _ _ _, ab_pre hK hW hz hS hSW (.ref j :: (st.take P2.1.2.2.2.2.2.1).reverse)⟩ rfl (by rw [List.length_map, List.length_reverse]; exact hc.1) hlv (ab_split N0 adS hdr) (by show 2 * 0 + _ ≤ 8; rw [ab_cat_rv]; omega) hd ⟨by show cells + mc2 ≤ mc; omega, by show slots + ms2 ≤ ms; omega⟩) hS (fun w hw H1 locs1 q1 q2 => ?_)
                cases hw
                rw [ktoL]
                exact k H1 locs1 (cells + mc2) (slots + ms2) q1 q2 (by show cells + mc2 + h.length = cells + h2.length; omega) (by show slots + ms2 + ab_sz h = slots + ab_sz h2; omega)
              · cases hi
            · cases hi
          · cases hh
        · cases hh
  all_goals (simp only [ab_lcl, reduceCtorEq] at hh)
theorem ab_lx_sim (X : ab_Lx p l s m meth c b L xs N0 adS D cA) (hW : ab_Wd D cA N0 adS h H) (hS : va_S (ab_A N0) s.heap H locs) (hdl : ab_len i ≠ 0 → decode code pc = .ok (i, ab_len i)) (h1 : ab_lx xs L i h st = some st')
    (k : W p l e R s m #[Value.ref b] below meth c H locs cells slots Q (F0 m (pc + ab_len i) ls (st'.map (ab_rv N0 adS)))) : W p l e R s m #[Value.ref b] below meth c H locs cells slots Q (F0 m pc ls (st.map (ab_rv N0 adS))) := by
  obtain ⟨hx, hb, hr, hml, hown, hts, hX, hbl, hlocks, hl, hN, had, hK, hSW⟩ := X
  have hbA : ¬ ab_A N0 b := by show ¬ N0 ≤ b; omega
  cases i <;> simp only [ab_lx, reduceCtorEq] at h1
  case arraylength =>
    have hd := hdl (by simp [ab_len])
    split at h1
    · split at h1
      · rename_i k6 r hk6
        cases h1
        subst hk6
        rw [show List.map (ab_rv N0 adS) (Value.retAddr 600 :: r) = Value.ref b :: r.map (ab_rv N0 adS) by simp [ab_rv, had]]
        exact va_slen (A := ab_A N0) hx hb hX hbl hbA hS hd k
      · cases h1
    · cases h1
  case iaload =>
    have hd := hdl (by simp [ab_len])
    split at h1
    · split at h1
      · rename_i j k6 r hk6
        cases h1
        obtain ⟨hk6, hj⟩ := hk6
        subst hk6
        rw [show List.map (ab_rv N0 adS) (Value.int j :: Value.retAddr 600 :: r) = Value.int j :: Value.ref b :: r.map (ab_rv N0 adS) by simp [ab_rv, had]]
        exact va_sld (A := ab_A N0) hx hb hX hbl hbA hS hj hd k
      · cases h1
    · cases h1
  case laload =>
    exact ab_lald_sim hx hb hK hW (hdl (by simp [ab_len])) h1 k
theorem ab_lnw_sim {q : List Value × ab_H} {len b9 : Nat} (X : ab_Lx p l s m meth c b L xs N0 adS D cA) (hW : ab_Wd D cA N0 adS h H) (hS : va_S (ab_A N0) s.heap H locs) (hk : ab_leok (pc, i, len, a, b9) = true) (hc : cells = h.length) (hR1 : cells + q.2.length ≤ R.cells + h.length) (hR2 : slots + ab_sz q.2 ≤ R.slots + ab_sz h) (h1 : ab_lnw i a h st = some q)
    (k : ab_kk p l e R s m #[Value.ref b] below meth c cells slots Q D cA N0 adS h q.2 (F0 m (pc + ab_len i) ls (q.1.map (ab_rv N0 adS)))) : W p l e R s m #[Value.ref b] below meth c H locs cells slots Q (F0 m pc ls (st.map (ab_rv N0 adS))) := by
  obtain ⟨hx, hb, hr, hml, hown, hts, hX, hbl, hlocks, hl, hN, had, hK, hSW⟩ := X
  unfold ab_leok at hk
  simp only [Bool.and_eq_true, decide_eq_true_eq, Bool.or_eq_true, beq_iff_eq] at hk
  obtain ⟨⟨⟨hdec, hlen⟩, htok⟩, hpool⟩ := hk
  have hs : s.heap.size = N0 + 0 := by omega
  cases i <;> simp only [ab_lnw, reduceCtorEq] at h1
  case new idx =>
    simp only [ab_len] at hlen
    have hd : decode code pc = .ok (.new idx, 3) := by rw [hdec]; rcases hlen with h9 | h9; (rw [h9]); (cases h9)
    have hp : ∃ C : vw_C, ab_cl[a]? = some C ∧ Cond.classLink "CodeSmithLaw" idx C.1 ∈ lw_tbl := by
      obtain ⟨y, hy, hq⟩ := List.any_eq_true.mp hpool
      simp only [Bool.and_eq_true, beq_iff_eq] at hq
      simp only [ab_ln9, List.mem_cons, List.not_mem_nil, or_false] at hy
      rcases hy with rfl | rfl
      · obtain ⟨q1, q2⟩ := hq
        subst q1; subst q2
        exact ⟨_, rfl, ab_ln9_w.1⟩
      · obtain ⟨q1, q2⟩ := hq
        subst q1; subst q2
        exact ⟨_, rfl, ab_ln9_w.2⟩
    exact ab_nw_sim2 (Ts := lw_tbl) (n0 := 0) hx hb hown hts ab_T_tbl hK hW hS hs (by omega) hR1 hR2 hp hd h1 k
  case newarray ty =>
    simp only [ab_len] at hlen
    have hd : decode code pc = .ok (.newarray ty, 2) := by rw [hdec]; rcases hlen with h9 | h9; (rw [h9]); (cases h9)
    exact ab_nwa_sim (Ts := lw_tbl) (n0 := 0) hx hb hts ab_T_tbl hK hW hS hs (by omega) hR1 hR2 hd h1 k
end AB12
end
section
set_option maxHeartbeats 4000000 in
/-- THE LAW's BODY FOLLOWS: where the run answers 1 within the room, the machine comes to the law's end with 1 -/
theorem ab_law_sim {p : Program} {l : Launch} {e : Env} {s : State} {m : MethodId} {below : List Frame} {meth : Method} {c : Code} {b L : Nat} {xs : Nat → Int32} {N0 : Nat} {adS : Nat → Nat} {D : va_G} {cA : Nat → ClassId} (X : ab_Lx p l s m meth c b L xs N0 adS D cA) :
    ∀ (n d pc : Nat) (lv : ab_L) (st : List Value) (h h' : ab_H) (H : Heap) (locs : List Loc) (ls : Array Slot), ab_law xs L n d pc lv st h = some (1, h') → h'.length ≤ 61024 → ab_sz h' ≤ 8913034 → lv_has ls 7 (ab_rl N0 adS lv) → ab_Wd D cA N0 adS h H → va_S (ab_A N0) s.heap H locs →
      W p l e (ab_rm (d + 2) 61024 8913034) s m #[Value.ref b] below meth c H locs h.length (ab_sz h) (lw_Z below #[Value.ref b] s) (F0 m pc ls (st.map (ab_rv N0 adS))) := by
  intro n
  induction n with
  | zero => intro d pc lv st h h' H locs ls hg; cases hg
  | succ n ih =>
    intro d pc lv st h h' H locs ls hg hb1 hb2 hlv hW hS
    have hmono := ab_law_mono xs L _ _ _ _ _ _ _ _ hg
    obtain ⟨hx, hb, hr, hml, hown, hts, hX, hbl, hlocks, hl, hN, had, hK, hSW⟩ := id X
    have hRc : (ab_rm (d + 2) 61024 8913034).cells = 61024 := rfl
    have hRs : (ab_rm (d + 2) 61024 8913034).slots = 8913034 := rfl
    have hs : s.heap.size = N0 + 0 := by omega
    unfold ab_law at hg
    cases hf : ab_fetch ab_lc pc with
    | none => rw [hf] at hg; cases hg
    | some q =>
      rw [hf] at hg
      simp only at hg
      have hk : ab_leok (pc, q) = true := by
        unfold ab_fetch at hf
        split at hf
        · rename_i z hz
          cases hf
          have h1 : z.1 = pc := by simpa using List.find?_some hz
          have h2 := List.all_eq_true.mp ab_lc_ok z (List.mem_of_find?_eq_some hz)
          rw [← h1]
          exact h2
        · cases hf
      obtain ⟨i, len, a, b9⟩ := q
      simp only at hg hk
      have hk2 := hk
      unfold ab_leok at hk2
      simp only [Bool.and_eq_true, decide_eq_true_eq, Bool.or_eq_true, beq_iff_eq] at hk2
      obtain ⟨⟨⟨hdec, hlen⟩, htok⟩, hpool⟩ := hk2
      have hdl : ab_len i ≠ 0 → decode code pc = .ok (i, ab_len i) := by
        intro h0
        rcases hlen with h9 | h9
        · rw [hdec, h9]
        · exact absurd h9 h0
      cases hnx : ab_ln xs L i a pc lv st h with
      | some z =>
        rw [hnx] at hg
        simp only at hg
        have hm2 := ab_law_mono xs L _ _ _ _ _ _ _ _ hg
        have go : ∀ (ls' : Array Slot), lv_has ls' 7 (ab_rl N0 adS z.2.1) → ab_kk p l e (ab_rm (d + 2) 61024 8913034) s m #[Value.ref b] below meth c h.length (ab_sz h) (lw_Z below #[Value.ref b] s) D cA N0 adS h z.2.2.2 (F0 m z.1 ls' (z.2.2.1.map (ab_rv N0 adS))) := by
          intro ls' hlv' H' locs' cells' slots' hW' hS' hc' hs'
          have e1 : cells' = z.2.2.2.length := by omega
          have e2 : slots' = ab_sz z.2.2.2 := by omega
          rw [e1, e2]
          exact ih d z.1 z.2.1 z.2.2.1 z.2.2.2 h' H' locs' ls' hg hb1 hb2 hlv' hW' hS'
        have same : z.2.2.2 = h → ∀ (ls' : Array Slot), lv_has ls' 7 (ab_rl N0 adS z.2.1) → W p l e (ab_rm (d + 2) 61024 8913034) s m #[Value.ref b] below meth c H locs h.length (ab_sz h) (lw_Z below #[Value.ref b] s) (F0 m z.1 ls' (z.2.2.1.map (ab_rv N0 adS))) := fun h0 ls' hlv' => go ls' hlv' H locs _ _ (by rw [h0]; exact hW) hS (by rw [h0]) (by rw [h0])
        unfold ab_ln at hnx
        split at hnx
        · rename_i s1 h1
          cases hnx
          have hn : ab_len i ≠ 0 := by intro h0; cases i <;> simp [ab_len] at h0 <;> simp [ab_op] at h1
          exact ab_op_sim hx hb (hdl hn) h1 (same rfl ls hlv)
        · split at hnx
          · rename_i v h1
            cases hnx
            have hn : ab_len i ≠ 0 := by intro h0; cases i <;> simp [ab_len] at h0 <;> simp [ab_ld] at h1
            exact ab_ld_sim hx hb (hdl hn) hlv h1 (same rfl ls hlv)
          · split at hnx
            · rename_i q h1
              cases hnx
              have hn : ab_len i ≠ 0 := by intro h0; cases i <;> simp [ab_len] at h0 <;> simp [ab_sto] at h1
              exact ab_sto_sim hx hb (hdl hn) hlv h1 (fun ls' hl' => same rfl ls' hl')
            · split at hnx
              · rename_i q h1
                cases hnx
                exact ab_br_sim hx hb hdec hlen htok h1 (same rfl ls hlv)
              · split at hnx
                · rename_i s1 h1
                  cases hnx
                  exact ab_lx_sim X hW hS hdl h1 (same rfl ls hlv)
                · split at hnx
                  · rename_i q h1
                    cases hnx
                    have hm4 : q.2.length ≤ h'.length ∧ ab_sz q.2 ≤ ab_sz h' := hm2
                    exact ab_lnw_sim X hW hS hk rfl (by rw [hRc]; omega) (by rw [hRs]; omega) h1 (go ls hlv)
                  · cases hnx
      | none =>
        rw [hnx] at hg
        simp only at hg
        cases hrt : ab_lret i st with
        | some v =>
          rw [hrt] at hg
          cases hg
          unfold ab_lret at hrt
          split at hrt
          · split at hrt
            · cases hrt
              have hd := hdl (by simp [ab_len])
              refine va_forget (fun q hq => ?_) ?_
              · have := hS.2.2 q hq
                have : N0 ≤ q.base := this
                omega
              · refine W.widen (k := 61024) (n := 8913034) hb1 hb2 ?_
                exact lw_ret hx hb hr hlocks hd
            · cases hrt
          · cases hrt
        | none =>
          rw [hrt] at hg
          simp only at hg
          cases hcl : ab_lcl n d i a h st with
          | none => rw [hcl] at hg; cases hg
          | some z =>
            rw [hcl] at hg
            simp only at hg
            have hm2 := ab_law_mono xs L _ _ _ _ _ _ _ _ hg
            have hm3 := ab_lcl_mono hcl
            refine ab_size (n0 := 0) hs (by omega) hW (fun hz => ?_)
            refine ab_lcl_sim X hlv.1 hW hz hS hk hcl (by omega) (by omega) (fun H' locs' cells' slots' hW' hS' hc' hs' => ?_)
            have e1 : cells' = z.2.2.length := by omega
            have e2 : slots' = ab_sz z.2.2 := by omega
            rw [e1, e2]
            exact ih d (pc + 3) lv (z.1.toList ++ z.2.1) z.2.2 h' H' locs' ls hg hb1 hb2 hlv hW' hS'
end
section
/-! THE LAW's START: what the Statement gives of the constant objects, in the words of ab_SW. -/
def ab_fl : List Cond := flatC (Jvm.Cond.and given_1 narrow_1)
def ab_sid : List (String × Nat) := [("CodeSmith$Tokens", 67), ("CodeSmith$Tokens", 176), ("CodeSmith$Tokens", 182), ("CodeSmith$Assembler", 158), ("CodeSmith$Calculator", 79), ("CodeSmith$Calculator", 85), ("CodeSmith$Assembler", 229), ("CodeSmith$Assembler", 234), ("CodeSmith$Statement", 433), ("CodeSmith$Statement", 352), ("CodeSmith$Statement", 436), ("CodeSmith$Statement", 438), ("CodeSmith$Statement", 464), ("CodeSmith$Statement", 339), ("CodeSmith$Statement", 341), ("CodeSmith$Statement", 292), ("CodeSmith$Statement", 294), ("CodeSmith$Statement", 297), ("CodeSmith$Statement", 299), ("CodeSmith$Statement", 302), ("CodeSmith$Statement", 305), ("CodeSmith$Statement", 308), ("CodeSmith$Statement", 311), ("CodeSmith$Statement", 314), ("CodeSmith$Statement", 316), ("CodeSmith$Statement", 319), ("CodeSmith$Statement", 322), ("CodeSmith$Statement", 325), ("CodeSmith$Statement", 328), ("CodeSmith$Statement", 331), ("CodeSmith$Statement", 333), ("CodeSmith$Statement", 344), ("CodeSmith$Statement", 347), ("CodeSmith$Statement", 350), ("CodeSmith$Statement", 355), ("CodeSmith$Statement", 357), ("CodeSmith$Statement", 360), ("CodeSmith$Statement", 362), ("CodeSmith$Statement", 365), ("CodeSmith$Statement", 368), ("CodeSmith$Statement", 371), ("CodeSmith$Statement", 374), ("CodeSmith$Statement", 376), ("CodeSmith$Statement", 379), ("CodeSmith$Statement", 382), ("CodeSmith$Statement", 384), ("CodeSmith$Statement", 387), ("CodeSmith$Statement", 390), ("CodeSmith$Statement", 393), ("CodeSmith$Statement", 396), ("CodeSmith$Statement", 399), ("CodeSmith$Statement", 402), ("CodeSmith$Statement", 405), ("CodeSmith$Statement", 408), ("CodeSmith$Statement", 411), ("CodeSmith$Statement", 414), ("CodeSmith$Statement", 417), ("CodeSmith$Statement", 420), ("CodeSmith$Statement", 424), ("CodeSmith$Statement", 427), ("CodeSmith$Statement", 430), ("CodeSmith$Statement", 441), ("CodeSmith$Statement", 443), ("CodeSmith$Statement", 446), ("CodeSmith$Statement", 449), ("CodeSmith$Statement", 452), ("CodeSmith$Statement", 455), ("CodeSmith$Statement", 458), ("CodeSmith$Statement", 461), ("CodeSmith$Statement", 467), ("CodeSmith$Statement", 470), ("CodeSmith$Statement", 473), ("CodeSmith$Statement", 476), ("CodeSmith$Statement", 479), ("CodeSmith$Statement", 482), ("CodeSmith$Statement", 484), ("CodeSmith$Statement", 487), ("CodeSmith$Statement", 489), ("CodeSmith$Statement", 492), ("CodeSmith$Statement", 495), ("CodeSmith$Statement", 499), ("CodeSmith$Statement", 502), ("CodeSmith$Statement", 505), ("CodeSmith$Statement", 508), ("CodeSmith$Statement", 511), ("CodeSmith$Statement", 515), ("CodeSmith$Statement", 517), ("CodeSmith$Statement", 520), ("CodeSmith$Statement", 524), ("CodeSmith$Statement", 527), ("CodeSmith$Statement", 530), ("CodeSmith$Statement", 533), ("CodeSmith$Statement", 536), ("CodeSmith$Statement", 539), ("CodeSmith$Statement", 542), ("CodeSmith$Statement", 545), ("CodeSmith$Statement", 548), ("CodeSmith$Statement", 551), ("CodeSmith$Statement", 554), ("CodeSmith$Statement", 557), ("CodeSmith$Statement", 560), ("CodeSmith$Statement", 563), ("CodeSmith$Statement", 566), ("CodeSmith$Statement", 569), ("CodeSmith$Statement", 572), ("CodeSmith$Statement", 575)]
def ab_enn : List String := ["DOT_ALIGN", "DOT_ASCII", "DOT_ASCIZ", "DOT_BYTE", "DOT_DATA", "DOT_EQU", "DOT_GLOBL", "DOT_HALF", "DOT_SPACE", "DOT_TEXT", "DOT_WORD", "ADD", "ADDI", "AND", "ANDI", "AUIPC", "BEQ", "BEQZ", "BGE", "BGEU", "BGEZ", "BGT", "BGTU", "BGTZ", "BLE", "BLEU", "BLEZ", "BLT", "BLTU", "BLTZ", "BNE", "BNEZ", "CALL", "DIV", "DIVU", "EBREAK", "ECALL", "FENCE", "J", "JAL", "JALR", "JR", "LA", "LB", "LBU", "LH", "LHU", "LI", "LUI", "LW", "MUL", "MULH", "MULHSU", "MULHU", "MV", "NEG", "NOP", "NOT", "OR", "ORI", "REM", "REMU", "RET", "SB", "SEQZ", "SGTZ", "SH", "SLL", "SLLI", "SLT", "SLTI", "SLTIU", "SLTU", "SLTZ", "SNEZ", "SRA", "SRAI", "SRL", "SRLI", "SUB", "SW", "XOR", "XORI"]
def ab_eo : List Nat := [39, 40, 48, 12, 0, 1, 2, 3, 4, 5, 6, 7, 8, 9, 10, 11, 13, 14, 15, 16, 17, 18, 19, 20, 21, 22, 23, 24, 25, 26, 27, 28, 29, 30, 31, 32, 33, 34, 35, 36, 37, 38, 41, 42, 43, 44, 45, 46, 47, 49, 50, 51, 52, 53, 54, 55, 56, 57, 58, 59, 60, 61, 62, 63, 64, 65, 66, 67, 68, 69, 70, 71, 72, 73, 74, 75, 76, 77, 78, 79, 80, 81, 82]
def ab_tm (k : Nat) : Term := .string (ab_sid.getD k ("", 0)).1 (ab_sid.getD k ("", 0)).2
def ab_te (e : Nat) : Term := .static "CodeSmith$Statement" (ab_enn.getD e "") "LCodeSmith$Statement;"
abbrev ab_tst : Term := .static "CodeSmith" "STATEMENTS" "[LCodeSmith$Statement;"
def ab_sc (k : Nat) : List Cond := [.exactly (ab_tm k) "java/lang/String", .eq (.field (ab_tm k) "java/lang/String" "coder" "B") (.int 0), .arrayOf (.field (ab_tm k) "java/lang/String" "value" "[B") .byte, .eq (.length (.field (ab_tm k) "java/lang/String" "value" "[B")) (.int (Int32.ofNat (ab_strs.getD k []).length))] ++ (List.range (ab_strs.getD k []).length).map (fun j => .eq (.elem (.field (ab_tm k) "java/lang/String" "value" "[B") (.int (Int32.ofNat j))) (.int ((ab_strs.getD k []).getD j 0)))
def ab_ec (e : Nat) : List Cond := [.exactly (ab_te e) "CodeSmith$Statement", .eq (.field (ab_te e) "java/lang/Enum" "ordinal" "I") (.int (Int32.ofNat e)), .eq (.field (ab_te e) "CodeSmith$Statement" "spelling" "Ljava/lang/String;") (ab_tm (ab_enm.getD e (0, 0, 0, 0)).1), .eq (.field (ab_te e) "CodeSmith$Statement" "pattern" "Ljava/lang/String;") (ab_tm (ab_enm.getD e (0, 0, 0, 0)).2.1), .eq (.field (ab_te e) "CodeSmith$Statement" "form" "I") (.int (ab_enm.getD e (0, 0, 0, 0)).2.2.1), .eq (.field (ab_te e) "CodeSmith$Statement" "code" "I") (.int (ab_enm.getD e (0, 0, 0, 0)).2.2.2)]
def ab_scs (a n : Nat) : List Cond := (List.range n).flatMap (fun k => ab_sc (a + k))
set_option maxRecDepth 1000000 in
theorem ab_flE : (ab_fl.drop 16).take 83 = (List.range 83).map (fun e => Cond.eq (.elem ab_tst (.int (Int32.ofNat e))) (ab_te e)) := by decide +kernel
set_option maxRecDepth 1000000 in
theorem ab_flN : (ab_fl.drop 99).take 498 = ab_eo.flatMap ab_ec := by decide +kernel
set_option maxRecDepth 1000000 in
theorem ab_flA : (ab_fl.drop 605).take 141 = ab_scs 0 17 := by decide +kernel
set_option maxRecDepth 1000000 in
theorem ab_flB : (ab_fl.drop 747).take 363 = ab_scs 17 46 := by decide +kernel
set_option maxRecDepth 1000000 in
theorem ab_flC : ab_fl.drop 1111 = ab_scs 63 43 := by decide +kernel
theorem ab_eo_in : ∀ e, e < 83 → e ∈ ab_eo := by decide +kernel
theorem ab_enm_in : ∀ e, e < 83 → (ab_enm.getD e (0, 0, 0, 0)).1 < 106 ∧ (ab_enm.getD e (0, 0, 0, 0)).2.1 < 106 := by decide +kernel
theorem ab_strs_in : ∀ k, k < 106 → (ab_strs.getD k []).length < 1000 := by decide +kernel
set_option maxRecDepth 1000000 in
theorem ab_flw : Cond.arrayOf ab_tst (.object "CodeSmith$Statement") ∈ ab_fl ∧ Cond.eq (.length ab_tst) (.int 83) ∈ ab_fl ∧ Cond.eq (.static "java/lang/String" "COMPACT_STRINGS" "Z") (.int 1) ∈ ab_fl ∧ Cond.isRef (.static "java/lang/Throwable" "UNASSIGNED_STACK" "[Ljava/lang/StackTraceElement;") ∈ ab_fl ∧ Cond.isRef (.static "java/lang/Throwable" "SUPPRESSED_SENTINEL" "Ljava/util/List;") ∈ ab_fl := by decide +kernel
set_option maxRecDepth 1000000 in
theorem ab_gsn_w : ab_gsn.all (fun q => decide (Cond.laysStatic "CodeSmith$Statement" q.2.1 q.2.2 ∈ lw_tbl) && decide (400 ≤ q.1 ∧ q.1 < 483) && decide (ab_te (q.1 - 400) = .static "CodeSmith$Statement" q.2.1 q.2.2)) = true := by decide +kernel
set_option maxRecDepth 1000000 in
theorem ab_srn_w : ab_srn.all (fun q => decide (Cond.stringRef q.1 q.2.1 q.2.2.1 ∈ lw_tbl) && decide (q.2.2.2 < 106) && decide (ab_tm q.2.2.2 = .string q.1 q.2.1)) = true := by decide +kernel
set_option maxRecDepth 1000000 in
theorem ab_stw : Cond.laysStatic "CodeSmith" "STATEMENTS" "[LCodeSmith$Statement;" ∈ lw_tbl ∧ Cond.initialized "CodeSmith" ∈ lw_tbl ∧ Cond.laysStatic "java/lang/String" "COMPACT_STRINGS" "Z" ∈ lw_tbl ∧ Cond.initialized "java/lang/String" ∈ lw_tbl ∧ Cond.laysStatic "java/lang/Throwable" "UNASSIGNED_STACK" "[Ljava/lang/StackTraceElement;" ∈ lw_tbl ∧ Cond.laysStatic "java/lang/Throwable" "SUPPRESSED_SENTINEL" "Ljava/util/List;" ∈ lw_tbl ∧ Cond.initialized "java/lang/Throwable" ∈ lw_tbl ∧ Cond.initialized "CodeSmith$Statement" ∈ lw_tbl ∧ Cond.fieldLinkNest "CodeSmith$Assembler" 179 "CodeSmith" "STATEMENTS" "[LCodeSmith$Statement;" "CodeSmith" ∈ lw_tbl ∧ Cond.instantiable "java/lang/IllegalArgumentException" 6 ∈ lw_tbl := by decide +kernel
set_option maxRecDepth 1000000 in
theorem ab_nst_w : ab_nst.all (fun q => decide (Cond.methodLinkNest q.1 q.2.1 q.2.2.1 q.2.2.2 ∈ lw_tbl)) = true := by decide +kernel
set_option maxRecDepth 1000000 in
theorem ab_nwl_w : ab_nwl.all (fun w => decide (w ∈ lw_tbl)) = true := by decide +kernel
end
section
theorem ab_i32 {i j : Nat} (hi : i < 83) (hj : j < 83) (h : Int32.ofNat i = Int32.ofNat j) : i = j := (nI_eq (by omega) (by omega)).mp h
set_option maxHeartbeats 4000000 in
/-- the constant objects at the law's start -/
theorem ab_start_SW {s : State} {b : Nat} (hts : ∀ w ∈ lw_tbl, w.before #[Value.ref b] s = true) (hgv : (Jvm.Cond.and given_1 narrow_1).before #[Value.ref b] s = true) : ∃ adS : Nat → Nat, adS 600 = b ∧ ab_SW s.heap.size adS s s.heap := by
  have hf : ∀ c ∈ ab_fl, c.before #[Value.ref b] s = true := flat_of_before _ hgv
  have hA : ∀ a : Nat, a < s.heap.size → ¬ ab_A s.heap.size a := fun a h q => by have : s.heap.size ≤ a := q; omega
  have hd : ∀ {n : Nat} {c : Cond}, c ∈ ab_fl.drop n → c.before #[Value.ref b] s = true := fun h => hf _ (List.mem_of_mem_drop h)
  have ht9 : ∀ {n m : Nat} {c : Cond}, c ∈ (ab_fl.drop n).take m → c.before #[Value.ref b] s = true := fun h => hd (List.mem_of_mem_take h)
  have hsc : ∀ k, k < 106 → ∀ c ∈ ab_sc k, c.before #[Value.ref b] s = true := by
    intro k hk c hc
    have hin : ∀ a n, a ≤ k → k < a + n → c ∈ ab_scs a n := fun a n h1 h2 => List.mem_flatMap.mpr ⟨k - a, List.mem_range.mpr (by omega), by rw [show a + (k - a) = k by omega]; exact hc⟩
    rcases Nat.lt_or_ge k 17 with h1 | h1
    · exact ht9 (by rw [ab_flA]; exact hin 0 17 (by omega) (by omega))
    · rcases Nat.lt_or_ge k 63 with h2 | h2
      · exact ht9 (by rw [ab_flB]; exact hin 17 46 (by omega) (by omega))
      · exact hd (by rw [ab_flC]; exact hin 63 43 (by omega) (by omega))
  have hec : ∀ e, e < 83 → ∀ c ∈ ab_ec e, c.before #[Value.ref b] s = true := fun e he c hc => ht9 (by rw [ab_flN]; exact List.mem_flatMap.mpr ⟨e, ab_eo_in e he, hc⟩)
  have hel : ∀ e, e < 83 → (Cond.eq (.elem ab_tst (.int (Int32.ofNat e))) (ab_te e)).before #[Value.ref b] s = true := fun e he => ht9 (by rw [ab_flE]; exact List.mem_map.mpr ⟨e, List.mem_range.mpr he, rfl⟩)
  have h0 : ∀ k : Nat, ∃ q : Nat × Nat, k < 106 → (ab_tm k).eval #[Value.ref b] s none [] s = some (.ref q.1) ∧ va_O "java/lang/String" q.1 (ab_A s.heap.size) s s.heap ∧ va_OF "java/lang/String" "coder" "B" (.int 0) q.1 (ab_A s.heap.size) s s.heap ∧ va_OF "java/lang/String" "value" "[B" (.ref q.2) q.1 (ab_A s.heap.size) s s.heap ∧ va_T .byte q.2 (ab_strs.getD k []).length (fun j => .int ((ab_strs.getD k []).getD j 0)) (ab_A s.heap.size) s s.heap := by
    intro k
    by_cases hk : k < 106
    · have hc := hsc k hk
      have g1 : (Cond.exactly (ab_tm k) "java/lang/String").before #[Value.ref b] s = true := hc _ (by simp [ab_sc])
      have g2 : (Cond.eq (.field (ab_tm k) "java/lang/String" "coder" "B") (.int 0)).before #[Value.ref b] s = true := hc _ (by simp [ab_sc])
      have g3 : (Cond.arrayOf (.field (ab_tm k) "java/lang/String" "value" "[B") .byte).before #[Value.ref b] s = true := hc _ (by simp [ab_sc])
      have g4 : (Cond.eq (.length (.field (ab_tm k) "java/lang/String" "value" "[B")) (.int (Int32.ofNat (ab_strs.getD k []).length))).before #[Value.ref b] s = true := hc _ (by unfold ab_sc; exact List.mem_append_left _ (by simp))
      have g5 : ∀ j, j < (ab_strs.getD k []).length → (Cond.eq (.elem (.field (ab_tm k) "java/lang/String" "value" "[B") (.int (Int32.ofNat j))) (.int ((ab_strs.getD k []).getD j 0))).before #[Value.ref b] s = true := fun j hj => hc _ (by unfold ab_sc; exact List.mem_append_right _ (List.mem_map.mpr ⟨j, List.mem_range.mpr hj, rfl⟩))
      have g6 := ab_strs_in k hk
      obtain ⟨a, c, cA, kA, q1, q2, q3, q4, q5, q6, -⟩ := Cond.exactly_spec (args := #[Value.ref b]) (first := s) (o := none) (s := s) (idx := []) (t := ab_tm k) (cls := "java/lang/String") g1
      obtain ⟨t, ht, hT⟩ := va_Tof (f := fun j => .int ((ab_strs.getD k []).getD j 0)) (A := ab_A s.heap.size) (by omega) g3 (va_eqt g4) (fun j hj => va_eqt (g5 j hj)) hA
      exact ⟨(a, t), fun _ => ⟨q1, ⟨cA, q3, q5, by rw [q6]; exact q2, hA a (Array.getElem?_eq_some_iff.mp q3).1⟩, vk_OFof q1 (va_eqt g2) hA, vk_OFof q1 ht hA, hT⟩⟩
    · exact ⟨(0, 0), fun h => absurd h hk⟩
  obtain ⟨ad, had⟩ := Classical.axiomOfChoice h0
  have h1 : ∀ e : Nat, ∃ a : Nat, e < 83 → (ab_te e).eval #[Value.ref b] s none [] s = some (.ref a) := by
    intro e
    by_cases he : e < 83
    · obtain ⟨a, c, cA, kA, q1, -⟩ := Cond.exactly_spec (args := #[Value.ref b]) (first := s) (o := none) (s := s) (idx := []) (t := ab_te e) (cls := "CodeSmith$Statement") (hec e he _ (by simp [ab_ec]))
      exact ⟨a, fun _ => q1⟩
    · exact ⟨0, fun h => absurd h he⟩
  obtain ⟨adE, hadE⟩ := Classical.axiomOfChoice h1
  have hEf : ∀ e : Nat, e < 83 → ∃ q, ab_enm[e]? = some q ∧ (Cond.eq (.field (ab_te e) "CodeSmith$Statement" "spelling" "Ljava/lang/String;") (ab_tm q.1)).before #[Value.ref b] s = true ∧ (Cond.eq (.field (ab_te e) "CodeSmith$Statement" "pattern" "Ljava/lang/String;") (ab_tm q.2.1)).before #[Value.ref b] s = true ∧ (Cond.eq (.field (ab_te e) "CodeSmith$Statement" "form" "I") (.int q.2.2.1)).before #[Value.ref b] s = true ∧ (Cond.eq (.field (ab_te e) "CodeSmith$Statement" "code" "I") (.int q.2.2.2)).before #[Value.ref b] s = true ∧ q.1 < 106 ∧ q.2.1 < 106 ∧ (Cond.eq (.field (ab_te e) "java/lang/Enum" "ordinal" "I") (.int (Int32.ofNat e))).before #[Value.ref b] s = true ∧ (Cond.eq (.elem ab_tst (.int (Int32.ofNat e))) (ab_te e)).before #[Value.ref b] s = true := by
    intro e he
    have hlt : e < ab_enm.length := he
    have hq : ab_enm[e]? = some (ab_enm.getD e (0, 0, 0, 0)) := by rw [List.getD_eq_getElem?_getD, List.getElem?_eq_getElem hlt]; rfl
    have hc := hec e he
    exact ⟨_, hq, hc _ (by simp [ab_ec]), hc _ (by simp [ab_ec]), hc _ (by simp [ab_ec]), hc _ (by simp [ab_ec]), (ab_enm_in e he).1, (ab_enm_in e he).2, hc _ (by simp [ab_ec]), hel e he⟩
  obtain ⟨f1, f2, f3, f4, f5⟩ := ab_flw
  obtain ⟨t, ht, hT⟩ := va_Tof (tm := ab_tst) (ty := .object "CodeSmith$Statement") (N := 83) (f := fun j => .ref (adE j)) (A := ab_A s.heap.size) (by omega) (hf _ f1) (va_eqt (hf _ f2)) (fun j hj => by
    obtain ⟨q, -, -, -, -, -, -, -, -, g9⟩ := hEf j hj
    exact va_eqv g9 (hadE j hj)) hA
  obtain ⟨adS, hS0⟩ : ∃ f : Nat → Nat, f = fun k => if k < 106 then (ad k).1 else if k < 400 then (ad (k - 200)).2 else if k < 483 then adE (k - 400) else if k = 500 then t else b := ⟨_, rfl⟩
  have a1 : ∀ k, k < 106 → adS k = (ad k).1 := fun k hk => by rw [hS0]; simp [hk]
  have a2 : ∀ k, k < 106 → adS (200 + k) = (ad k).2 := fun k hk => by
    rw [hS0]
    simp only [show ¬ 200 + k < 106 by omega, show 200 + k < 400 by omega, if_true, if_false, show 200 + k - 200 = k by omega]
  have a3 : ∀ e, e < 83 → adS (400 + e) = adE e := fun e he => by
    rw [hS0]
    simp only [show ¬ 400 + e < 106 by omega, show ¬ 400 + e < 400 by omega, show 400 + e < 483 by omega, if_true, if_false, show 400 + e - 400 = e by omega]
  have a4 : adS 500 = t := by rw [hS0]; rfl
  have a5 : adS 600 = b := by rw [hS0]; rfl
  obtain ⟨s1, s2, s3, s4, s5, s6, s7, s8, s9, s10⟩ := ab_stw
  refine ⟨adS, a5, fun k hk => ⟨by rw [a1 k hk]; exact (had k hk).2.1, by rw [a2 k hk]; exact (had k hk).2.2.2.2⟩, ?_, ?_, ?_, ?_, ?_, ?_, ?_, ⟨?_, ?_⟩, ?_, ?_, ?_⟩
  · intro b' k v hv f hfn
    have hen : ∀ e q, e < 83 → ab_enm[e]? = some q → va_OF "CodeSmith$Statement" "spelling" "Ljava/lang/String;" (.ref (adS q.1)) (adS (400 + e)) (ab_A s.heap.size) s s.heap ∧ va_OF "CodeSmith$Statement" "pattern" "Ljava/lang/String;" (.ref (adS q.2.1)) (adS (400 + e)) (ab_A s.heap.size) s s.heap ∧ va_OF "CodeSmith$Statement" "form" "I" (.int q.2.2.1) (adS (400 + e)) (ab_A s.heap.size) s s.heap ∧ va_OF "CodeSmith$Statement" "code" "I" (.int q.2.2.2) (adS (400 + e)) (ab_A s.heap.size) s s.heap := by
      intro e q he hq
      obtain ⟨q', hq', g3, g4, g5, g6, g7, g8, -, -⟩ := hEf e he
      rw [hq] at hq'
      cases hq'
      rw [a3 e he, a1 _ g7, a1 _ g8]
      exact ⟨vk_OFof (hadE e he) (va_eqv g3 (had _ g7).1) hA, vk_OFof (hadE e he) (va_eqv g4 (had _ g8).1) hA, vk_OFof (hadE e he) (va_eqt g5) hA, vk_OFof (hadE e he) (va_eqt g6) hA⟩
    have hlen : ab_enm.length = 83 := rfl
    have en2 : ∀ {q}, 400 ≤ k → ab_enm[k - 400]? = some q → k - 400 < 83 ∧ 400 + (k - 400) = k := fun h4 hq => ⟨by have := (List.getElem?_eq_some_iff.mp hq).1; omega, by omega⟩
    match b', hfn, hv with
    | 0, hfn, hv =>
      cases hfn
      simp only [ab_sfv] at hv
      split at hv
      · rename_i hk
        cases hv
        show va_OF "java/lang/String" "value" "[B" (.ref (adS (200 + k))) (adS k) _ _ _
        rw [a1 k hk, a2 k hk]
        exact (had k hk).2.2.2.1
      · cases hv
    | 1, hfn, hv =>
      cases hfn
      simp only [ab_sfv] at hv
      split at hv
      · rename_i hk
        cases hv
        show va_OF "java/lang/String" "coder" "B" (.int 0) (adS k) _ _ _
        rw [a1 k hk]
        exact (had k hk).2.2.1
      · cases hv
    | 2, hfn, hv =>
      cases hfn
      simp only [ab_sfv] at hv
      split at hv
      · rename_i hk
        split at hv
        · rename_i q hq
          cases hv
          obtain ⟨k1, k2⟩ := en2 hk hq
          have h9 := (hen (k - 400) q k1 hq).1
          rw [k2] at h9
          exact h9
        · cases hv
      · cases hv
    | 3, hfn, hv =>
      cases hfn
      simp only [ab_sfv] at hv
      split at hv
      · rename_i hk
        split at hv
        · rename_i q hq
          cases hv
          obtain ⟨k1, k2⟩ := en2 hk hq
          have h9 := (hen (k - 400) q k1 hq).2.1
          rw [k2] at h9
          exact h9
        · cases hv
      · cases hv
    | 4, hfn, hv =>
      cases hfn
      simp only [ab_sfv] at hv
      split at hv
      · rename_i hk
        split at hv
        · rename_i q hq
          cases hv
          obtain ⟨k1, k2⟩ := en2 hk hq
          have h9 := (hen (k - 400) q k1 hq).2.2.1
          rw [k2] at h9
          exact h9
        · cases hv
      · cases hv
    | 5, hfn, hv =>
      cases hfn
      simp only [ab_sfv] at hv
      split at hv
      · rename_i hk
        split at hv
        · rename_i q hq
          cases hv
          obtain ⟨k1, k2⟩ := en2 hk hq
          have h9 := (hen (k - 400) q k1 hq).2.2.2
          rw [k2] at h9
          exact h9
        · cases hv
      · cases hv
    | n + 6, hfn, hv => simp [ab_sfn] at hfn
  · rw [a4]
    obtain ⟨cell, q1, q2, q3, q4, q5, q6, q7⟩ := hT
    exact ⟨cell, q1, q2, q3, q4, q5, fun j hj => by show cell.slots[j]? = some (Value.ref (adS (400 + j))); rw [a3 j hj]; exact q6 j hj, q7⟩
  · intro q hq
    have h9 := List.all_eq_true.mp ab_gsn_w q hq
    simp only [Bool.and_eq_true, decide_eq_true_eq] at h9
    obtain ⟨⟨g1, g2⟩, g3⟩ := h9
    refine va_Zof (hts _ g1) (hts _ s8) ?_ hA
    have h8 := hadE (q.1 - 400) (by omega)
    rw [g3] at h8
    rw [h8, ← a3 (q.1 - 400) (by omega), show 400 + (q.1 - 400) = q.1 by omega]
  · rw [a4]
    exact va_Zof (hts _ s1) (hts _ s2) ht hA
  · exact va_Zof (hts _ s3) (hts _ s4) (va_eqt (hf _ f3)) hA
  · intro q hq
    have h9 := List.all_eq_true.mp ab_srn_w q hq
    simp only [Bool.and_eq_true, decide_eq_true_eq] at h9
    obtain ⟨⟨g1, g2⟩, g3⟩ := h9
    have h8 := (had q.2.2.2 g2).1
    rw [g3] at h8
    rw [a1 _ g2]
    have hr := hts _ g1
    exact vk_R.of (A := #[Value.ref b]) hr h8
  · intro i j hi hj hij
    rw [a3 i hi, a3 j hj] at hij
    obtain ⟨_, -, -, -, -, -, -, -, o1, -⟩ := hEf i hi
    obtain ⟨_, -, -, -, -, -, -, -, o2, -⟩ := hEf j hj
    have e1 := va_eqt o1
    have e2 := va_eqt o2
    rw [va_fe (hadE i hi)] at e1
    rw [va_fe (hadE j hj)] at e2
    rw [hij, e2] at e1
    exact (ab_i32 hj hi (by injection (Option.some.inj e1))).symm
  · exact vx_Zqof (C := "java/lang/Throwable") (n := "UNASSIGNED_STACK") (d := "[Ljava/lang/StackTraceElement;") (hts _ s5) (hts _ s7) (hf _ f4) hA
  · intro w hw
    have hon : w.onTables = true := by
      simp only [ab_nwl, List.mem_cons, List.not_mem_nil, or_false] at hw
      rcases hw with rfl | rfl | rfl | rfl <;> rfl
    exact va_Nw.of hon (hts _ (of_decide_eq_true (List.all_eq_true.mp ab_nwl_w w hw)))
  · exact vx_Zqof (C := "java/lang/Throwable") (n := "SUPPRESSED_SENTINEL") (d := "Ljava/util/List;") (hts _ s6) (hts _ s7) (hf _ f5) hA
  · exact va_Nw.of rfl (hts _ s9)
  · intro q hq
    exact va_Nw.of rfl (hts _ (of_decide_eq_true (List.all_eq_true.mp ab_nst_w q hq)))
/-- the classes at the law's start -/
theorem ab_start_K {s : State} {args : Array Value} (hts : ∀ w ∈ lw_tbl, w.before args s = true) : ∃ (D : va_G) (cA : Nat → ClassId), va_K D ab_cl (ab_tys cA) s := by
  have hc : ∀ ci : Nat, ∃ q : ClassId × (Nat → Nat), ∀ C : vw_C, ab_cl[ci]? = some C → u_Kn s C.1 C.2.1 C.2.2 q.1 q.2 := by
    intro ci
    cases hC : ab_cl[ci]? with
    | none => exact ⟨(0, fun _ => 0), fun C h => by cases h⟩
    | some C =>
      have hin := ab_cl_in hC
      by_cases h7 : ci < 7
      · obtain ⟨c0, i0, h0⟩ := u_known (n := C.2.2) hts (fun w hw => ab_T_tbl w (hin w hw)) (hts _ (ab_T_tbl _ (ab_cl_ins h7 hC).1))
        exact ⟨(c0, i0), fun C' h => by cases h; exact h0⟩
      · have h8 : ci = 7 := by
          have : ci < 8 := (List.getElem?_eq_some_iff.mp hC).1
          omega
        subst h8
        cases hC
        obtain ⟨c0, i0, h0⟩ := u_known (C := "java/lang/IllegalArgumentException") (T := ab_TE) (N := 0) (n := 6) hts (fun w hw => ab_T_tbl w (hin w hw)) (hts _ ab_stw.2.2.2.2.2.2.2.2.2)
        exact ⟨(c0, i0), fun C' h => by cases h; exact h0⟩
  obtain ⟨q, hq⟩ := Classical.axiomOfChoice hc
  have ha : ∀ ty : FieldType, Cond.arrayClass ty ∈ lw_tbl → ∃ c, s.vm.findClass ("[" ++ ty.toString) = some c ∧ ArrOfT s c ty := by
    intro ty hty
    obtain ⟨c, k, comp, h1, h2, h3⟩ := Cond.arrayClass_spec (args := args) (first := s) (o := none) (s := s) (idx := []) (hts _ hty)
    exact ⟨c, h1, fun n z => ⟨fun k9 h9 => (by cases h9), k, h2, comp, h3⟩⟩
  obtain ⟨c0, g1, g2⟩ := ha .byte ab_arrw.1
  obtain ⟨c1, g3, g4⟩ := ha .int ab_arrw.2.1
  obtain ⟨c2, g5, g6⟩ := ha .long ab_arrw.2.2
  refine ⟨(fun c => (q c).1, fun c => (q c).2), fun t => if t = 0 then c0 else if t = 1 then c1 else c2, fun c C h => hq c C h, fun k y hk => ?_⟩
  match k, hk with
  | 0, hk => cases hk; exact ⟨g2, g1⟩
  | 1, hk => cases hk; exact ⟨g4, g3⟩
  | 2, hk => cases hk; exact ⟨g6, g5⟩
  | n + 3, hk => simp at hk
end
section
/-! THE CLAIM OUT OF THE ABSTRACT MACHINE: what is left is ab_Goal, of the abstract machine alone. -/
def ab_Goal : Prop := ∀ (xs : Nat → Int32) (L : Nat), L ≤ 3072 → ∃ (n d : Nat) (h' : ab_H), d ≤ 2036 ∧ ab_law xs L n d 0 [(0, .retAddr 600)] [] [] = some (1, h') ∧ h'.length ≤ 61024 ∧ ab_sz h' ≤ 8913034
theorem ab_wroom {p : Program} {l : Launch} {e : Env} {R1 R2 : Room} {s : State} {m : MethodId} {args : Array Value} {below : List Frame} {meth : Method} {c : Code} {H : Heap} {locs : List Loc} {cells slots : Nat} {Q : State → Prop} {g : JFrame} (h1 : R2.frames ≤ R1.frames) (h2 : R2.locals ≤ R1.locals) (h3 : R2.cells ≤ R1.cells) (h4 : R2.slots ≤ R1.slots) (k : W p l e R2 s m args below meth c H locs cells slots Q g) : W p l e R1 s m args below meth c H locs cells slots Q g := by
  intro T hT X
  refine k T hT { X with room := ?_ }
  have h := X.room
  simp only [State.hasRoom, Bool.and_eq_true, decide_eq_true_eq] at h ⊢
  obtain ⟨⟨⟨⟨a1, a2, a3, a4, a5, a6⟩, a7⟩, a8⟩, a9⟩ := h
  exact ⟨⟨⟨⟨by omega, by omega, by omega, by omega, by omega, a6⟩, by omega⟩, by omega⟩, a9⟩
theorem whole_start_open (hgoal : ab_Goal) {p : Program} {e : Env} {s : State} {m : MethodId} {below : List Frame} {meth : Method} {c : Code} (l : Launch) (hl : l.stackTraces = false) {b L : Nat} {xs : Nat → Int32} (hL : L ≤ 3072) (C0 : lw_At p s m meth c b L xs) : W p l e room_1 s m #[Value.ref b] below meth c s.heap [] 0 0 (lw_Z below #[Value.ref b] s) (entryFrame m ([Value.ref b] : List Value).toArray 7) := by
  obtain ⟨hx, hb, hr, hml, hown, hts, hX, hbl, hlocks, hgv⟩ := C0
  obtain ⟨n, d, h', hd, hg, h1, h2⟩ := hgoal xs L hL
  obtain ⟨adS, had, hSW⟩ := ab_start_SW hts hgv
  obtain ⟨D, cA, hK⟩ := ab_start_K hts
  rw [lg_entry_eq]
  have hlv := lv_entry ([Value.ref b]) (n := 7) (Nat.le_of_ble_eq_true rfl)
  have e9 : ab_rl s.heap.size adS [(0, .retAddr 600)] = lv_args 0 [Value.ref b] := by
    show [(0, Value.ref (adS 600))] = [(0, Value.ref b)]
    rw [had]
  rw [← e9] at hlv
  have X : ab_Lx p l s m meth c b L xs s.heap.size adS D cA := ⟨hx, hb, hr, hml, hown, hts, hX, hbl, hlocks, hl, rfl, had, hK, hSW⟩
  refine ab_wroom (R2 := ab_rm (d + 2) 61024 8913034) ?_ ?_ ?_ ?_ (ab_law_sim X n d 0 [(0, .retAddr 600)] [] [] h' s.heap [] _ hg h1 h2 hlv (fun k q hq => by simp [ab_ws] at hq) va_S.rf)
  · show d + 2 + 10 ≤ 2048
    omega
  · show 40 * (d + 2) + 200 ≤ 84000
    omega
  · exact Nat.le_refl _
  · exact Nat.le_refl _
set_option maxHeartbeats 4000000 in
theorem lw_walk_open (hgoal : ab_Goal) (l : Launch) (hl : l.stackTraces = false) (b : Addr) (xs : List Int32) : MetFree l x (headSpec (Jvm.Cond.code x code maxLocals ret :: tables_1) room_1) (lw_P b xs) (fun _ _ _ _ _ => True) lw_Q := by
  refine MetFree.of_bodyS (code := code) (maxLocals := maxLocals) (ret := ret) (by decide) ?_ ?_
  · intro args s m h hn
    obtain ⟨meth, c, h1, h2, h3, h4, h5, h6, -, -⟩ := Cond.code_spec hn (atoms_spec (ws := Jvm.Cond.code x code maxLocals ret :: tables_1) h _ List.mem_cons_self)
    exact ⟨meth, c, h1, h2, h3, h4, h5, h6⟩
  · intro p e s m args below meth c s₁ B hml0 hP _
    obtain ⟨rfl, hx, hbd, hgv⟩ := hP
    obtain ⟨scr, harrAt, hlist, hof, hsmall⟩ := hx
    obtain ⟨hcb, hkn, -, -⟩ := State.arrayAt?_spec harrAt
    have hown : s.vm.findClass R_law = some m.cls := findClass_of_methodNamed B.named
    have hts0 : ∀ c ∈ (Jvm.Cond.code x code maxLocals ret :: tables_1), c.before #[Value.ref b] s = true := atoms_spec (ws := Jvm.Cond.code x code maxLocals ret :: tables_1) B.pre
    have hts : ∀ w ∈ lw_tbl, w.before #[Value.ref b] s = true := k2_hts_sels lw_privs (fun w hw => hts0 w (List.mem_cons_of_mem _ hw)) lw_privs_ok
    have hml : c.maxLocals = 7 := B.maxLocals_eq (hts0 _ List.mem_cons_self)
    have X₀ : Stand p l e room_1 s m #[Value.ref b] below meth c s₁ [] 0 0 := Stand.of_body B
    have hh0 : s₁.heap = s.heap := by rw [B.state]; rfl
    have hsz : scr.slots.size = xs.length := by rw [← Array.length_toList, hlist, List.length_map]
    have hval : ∀ j : Nat, j < xs.length → scr.slots[j]? = some (.int (xs.getD j 0)) := fun j hj => by
      rw [← Array.getElem?_toList, hlist]
      simp [hj]
    have hbl : b < s.heap.size := (Array.getElem?_eq_some_iff.mp hcb).1
    have hX : va_X b xs.length (fun j => xs.getD j 0) s s.heap := ⟨scr, hcb, hof, hkn, hsz, hval⟩
    have K : W p l e room_1 s m #[Value.ref b] below meth c s₁.heap [] 0 0 (lw_Z below #[Value.ref b] s) (entryFrame m ([Value.ref b] : List Value).toArray 7) := by
      rw [hh0]
      exact whole_start_open hgoal l hl hbd ⟨B.exec, B.bytes, B.returns, hml, hown, hts, hX, hbl, B.notSynchronized, hgv⟩
    obtain ⟨t, a1, o, b1, b2, b3⟩ := K s₁ rfl X₀
    exact ⟨t, o, a1, b1, b2, b3⟩
theorem lw_pre_spec {args : Array Value} {s : State} (h : (Jvm.Cond.and given_1 narrow_1).before args s = true) (hr : rest_1_c.before args s = true) : ∃ (b : Addr) (xs : List Int32), lw_P b xs args s := by
  have hs := flat_of_before _ h
  have hq := flat_of_before _ hr
  have hc : (Cond.count 1).before args s = true := hs _ (by decide +kernel)
  have harr : (Cond.arrayOf (.arg 0) .int).before args s = true := hs _ (by decide +kernel)
  have hle : (Cond.le (.length (.arg 0)) (.int 3072)).before args s = true := hs _ (by decide +kernel)
  have hlen : (Cond.isInt (.length (.arg 0))).before args s = true := hq _ (by decide +kernel)
  have hall : (Cond.all (.arg 0) (.isInt (.elem (.arg 0) (.index 0)))).before args s = true := hq _ (by decide +kernel)
  obtain ⟨b, xs, hb, hx⟩ := State.ints_of_pre rfl harr hlen hall
  have hsm : xs.length < 2 ^ 31 := hx.choose_spec.2.2.2
  have hev : (Term.length (.arg 0)).eval args s none [] s = some (.int xs.length.toInt32) := hx.length_eval hb
  have hv := Cond.le_ints hev (show (Term.int 3072).eval args s none [] s = some (.int 3072) from rfl)
  have hd : xs.length.toInt32 ≤ 3072 := by
    simpa [Cond.before, Cond.holds, hv] using hle
  have hN : xs.length ≤ 3072 := (Int32.ofNat_le_ofNat hsm (by decide)).mp (show Int32.ofNat xs.length ≤ Int32.ofNat 3072 from hd)
  exact ⟨b, xs, Cond.one_arg hc (show args[0]? = some (.ref b) from hb), hx, hN, h⟩
theorem lw_comes_open (hgoal : ab_Goal) (l : Launch) (hl : l.stackTraces = false) : Comes l x (Jvm.Cond.code x code maxLocals ret :: tables_1) room_1 (fun tb e args s => Calls_1 tb e args s ∧ rest_1 tb e args s ∧ Pre_1 tb e args s)
    (fun _ _ args s o t => lw_Q args s o t) := by
  intro p e ha hc hk s m args below hf hfit hheap happ hpre
  obtain ⟨b, xs, hP⟩ := lw_pre_spec hpre.2.2 hpre.2.1
  obtain ⟨k, o, h1, h2, h3, hQ⟩ := lw_walk_open hgoal l hl b xs p e ha hc hk s m args below hf ((Spec.applies_iff_loose hf).mp happ).1 hP trivial
  exact ⟨k, o, h1, h2, h3, hQ⟩
theorem lw_frame {s t : State} {o : Outcome} {args : Array Value} (h : Framed s o t [] 61024 8913034) :
    Framed s o t (fieldLocs frame_1_writes args s ++ arrayLocs frame_1_arrays args s ++ staticLocs frame_1_statics s) 61024 8913034 := h
theorem lw_limb_open (hgoal : ab_Goal) (L : Cond) (hL : ∀ (args : Array Value) (s t : State), L.after args s (.returned (some (.int 1))) t = true) :
    ArmFor flags0 classFile x code maxLocals ret World_1 tables_1 room_1 Calls_1 rest_1 Pre_1
      (fun tb e a s o t => postC L tb e a s o t ∧ Framed s o t (fieldLocs frame_1_writes a s ++ arrayLocs frame_1_arrays a s ++ staticLocs frame_1_statics s) 61024 8913034) := by
  intro l hfl _ _ p e ha hc hk s m args below hf hfit hheap happ hpre
  have hl : l.stackTraces = false := by unfold Launch.stackTraces; rw [hfl]; decide +kernel
  obtain ⟨k, o, h1, h2, h3, rfl, hF⟩ := lw_comes_open hgoal l hl p e ha hc hk s m args below hf hfit hheap happ hpre
  exact ⟨k, _, h1, h2, h3, hL args s _, lw_frame hF⟩
/-- THE CLAIM, out of the run of the abstract machine alone -/
theorem i_vc_open (hgoal : ab_Goal) : Claimed_1_1 ∧ Claimed_1_2 := ⟨lw_limb_open hgoal limb_1_1 (fun args s t => by simp [limb_1_1, Cond.after, Cond.holds, Cond.value]), lw_limb_open hgoal limb_1_2 (fun args s t => Cond.after_iff.mpr (by
  first | (rw [show limb_1_2 = Cond.eq .result (.int 1) from rfl, Cond.eq_ints (x := 1) (y := 1) rfl rfl]; simp; done) | (simp [limb_1_2, Cond.value, Term.eval]; done)))⟩
end
section
/-! LAYER 2: runs of the abstract machine. A heap as a function: ab_hl n F. ab_Rn: 'it runs to this end'. -/
def ab_fu (F : Nat → ab_C) (i : Nat) (c : ab_C) : Nat → ab_C := fun j => if j = i then c else F j
def ab_hl (n : Nat) (F : Nat → ab_C) : ab_H := (List.range n).map F
theorem ab_hl_len (n : Nat) (F : Nat → ab_C) : (ab_hl n F).length = n := by simp [ab_hl]
theorem ab_hl_get (n : Nat) (F : Nat → ab_C) (i : Nat) : (ab_hl n F)[i]? = if i < n then some (F i) else none := by
  unfold ab_hl
  rw [List.getElem?_map]
  by_cases h : i < n
  · rw [List.getElem?_range h, if_pos h]; rfl
  · rw [if_neg h, List.getElem?_eq_none (by simpa using h)]; rfl
theorem ab_hl_at {n : Nat} {F : Nat → ab_C} {i : Nat} {c : ab_C} (h : i < n) (e : F i = c) : (ab_hl n F)[i]? = some c := by rw [ab_hl_get, if_pos h, e]
theorem ab_hl_set (n : Nat) (F : Nat → ab_C) (i : Nat) (c : ab_C) : (ab_hl n F).set i c = ab_hl n (ab_fu F i c) := by
  apply List.ext_getElem?
  intro j
  rw [List.getElem?_set, ab_hl_get, ab_hl_get, ab_hl_len]
  unfold ab_fu
  by_cases hj : j = i
  · subst hj
    simp
  · simp [hj, Ne.symm hj]
theorem ab_hl_push (n : Nat) (F : Nat → ab_C) (c : ab_C) : ab_hl n F ++ [c] = ab_hl (n + 1) (ab_fu F n c) := by
  unfold ab_hl
  rw [List.range_succ, List.map_append]
  congr 1
  · apply List.map_congr_left
    intro i hi
    have : i < n := List.mem_range.mp hi
    unfold ab_fu
    rw [if_neg (by omega)]
  · simp [ab_fu]
/-- more fuel does no harm -/
theorem ab_go_fuel : ∀ (n d mi pc : Nat) (l : ab_L) (st : List Value) (h : ab_H) (r : (Option Value ⊕ Unit) × ab_H), ab_go n d mi pc l st h = some r → ab_go (n + 1) d mi pc l st h = some r := by
  intro n
  induction n with
  | zero => intro d mi pc l st h r e; cases e
  | succ n ih =>
    intro d mi pc l st h r e
    rw [ab_go] at e ⊢
    cases hP : ab_prog[mi]? with
    | none => simp only [hP, reduceCtorEq] at e
    | some P =>
      simp only [hP] at e ⊢
      cases hq : ab_fetch P.2 pc with
      | none => simp only [hq, reduceCtorEq] at e
      | some q =>
        simp only [hq] at e ⊢
        cases hz : ab_nx P.1 q.1 q.2.2.1 q.2.2.2 pc l st h with
        | some z =>
          simp only [hz] at e ⊢
          exact ih _ _ _ _ _ _ _ e
        | none =>
          simp only [hz] at e ⊢
          cases hv : ab_ret P.1.2.2.2.2.1 q.1 st with
          | some v => simp only [hv] at e ⊢; exact e
          | none =>
            simp only [hv] at e ⊢
            cases ht : ab_thr mi pc st with
            | true => simp only [ht, cond_true] at e ⊢; exact e
            | false =>
              simp only [ht, cond_false] at e ⊢
              cases hP2 : ab_prog[q.2.2.1]? with
              | none => simp only [hP2, reduceCtorEq] at e
              | some P2 =>
                simp only [hP2] at e ⊢
                cases hi : ab_inv q.1 q.2.2.1 P2.1.2.2.2.2.2.1 P2.1.2.1.cls h st with
                | none => simp only [hi, reduceCtorEq] at e
                | some z =>
                  simp only [hi] at e ⊢
                  cases d with
                  | zero => simp only [reduceCtorEq] at e
                  | succ d' =>
                    simp only at e ⊢
                    by_cases hl : (lg_sl z.1).length ≤ P2.1.2.2.2.1
                    · rw [if_pos hl] at e ⊢
                      cases hg : ab_go n d' q.2.2.1 0 (lv_args 0 z.1) [] h with
                      | none => simp only [hg, reduceCtorEq] at e
                      | some w =>
                        rw [ih _ _ _ _ _ _ _ hg]
                        rw [hg] at e
                        obtain ⟨o, h1⟩ := w
                        cases o with
                        | inl v => exact ih _ _ _ _ _ _ _ e
                        | inr u => exact e
                    · rw [if_neg hl] at e
                      cases e
theorem ab_go_fuelk {n d mi pc : Nat} {l : ab_L} {st : List Value} {h : ab_H} {r : (Option Value ⊕ Unit) × ab_H} (k : Nat) (e : ab_go n d mi pc l st h = some r) : ab_go (n + k) d mi pc l st h = some r := by
  induction k with
  | zero => exact e
  | succ k ih => exact ab_go_fuel _ _ _ _ _ _ _ _ ih
def ab_Rn (d mi pc : Nat) (l : ab_L) (st : List Value) (h : ab_H) (o : Option Value ⊕ Unit) (h' : ab_H) : Prop := ∃ n, ab_go n d mi pc l st h = some (o, h')
section RN
variable {d mi pc len a b : Nat} {l : ab_L} {st : List Value} {h h1 h' : ab_H} {o : Option Value ⊕ Unit} {P P2 : ab_M × List ab_I} {i : Instr}
/-- a step that stays in the method -/
theorem r_nx {z : Nat × ab_L × List Value × ab_H} (hP : ab_prog[mi]? = some P) (hf : ab_fetch P.2 pc = some (i, len, a, b)) (hn : ab_nx P.1 i a b pc l st h = some z) (K : ab_Rn d mi z.1 z.2.1 z.2.2.1 z.2.2.2 o h') : ab_Rn d mi pc l st h o h' := by
  obtain ⟨n, hg⟩ := K
  refine ⟨n + 1, ?_⟩
  rw [ab_go, hP]
  simp only [hf, hn]
  exact hg
theorem r_ret {v : Option Value} (hP : ab_prog[mi]? = some P) (hf : ab_fetch P.2 pc = some (i, len, a, b)) (hn : ab_nx P.1 i a b pc l st h = none) (hr : ab_ret P.1.2.2.2.2.1 i st = some v) : ab_Rn d mi pc l st h (.inl v) h := by
  refine ⟨1, ?_⟩
  rw [ab_go, hP]
  simp only [hf, hn, hr]
theorem r_thr (hP : ab_prog[mi]? = some P) (hf : ab_fetch P.2 pc = some (i, len, a, b)) (hn : ab_nx P.1 i a b pc l st h = none) (hr : ab_ret P.1.2.2.2.2.1 i st = none) (ht : ab_thr mi pc st = true) : ab_Rn d mi pc l st h (.inr ()) (h ++ [.inr (7, [])]) := by
  refine ⟨1, ?_⟩
  rw [ab_go, hP]
  simp only [hf, hn, hr, ht, cond_true]
theorem r_call {z : List Value × List Value} {v : Option Value} (hP : ab_prog[mi]? = some P) (hf : ab_fetch P.2 pc = some (i, len, a, b)) (hn : ab_nx P.1 i a b pc l st h = none) (hr : ab_ret P.1.2.2.2.2.1 i st = none) (ht : ab_thr mi pc st = false) (hP2 : ab_prog[a]? = some P2) (hi : ab_inv i a P2.1.2.2.2.2.2.1 P2.1.2.1.cls h st = some z) (hl : (lg_sl z.1).length ≤ P2.1.2.2.2.1)
    (hc : ab_Rn d a 0 (lv_args 0 z.1) [] h (.inl v) h1) (K : ab_Rn (d + 1) mi (pc + 3) l (v.toList ++ z.2) h1 o h') : ab_Rn (d + 1) mi pc l st h o h' := by
  obtain ⟨n1, e1⟩ := hc
  obtain ⟨n2, e2⟩ := K
  refine ⟨n1 + n2 + 1, ?_⟩
  rw [ab_go, hP]
  simp only [hf, hn, hr, ht, cond_false, hP2, hi, if_pos hl, ab_go_fuelk n2 e1]
  rw [Nat.add_comm n1 n2]
  exact ab_go_fuelk n1 e2
theorem r_callx {z : List Value × List Value} (hP : ab_prog[mi]? = some P) (hf : ab_fetch P.2 pc = some (i, len, a, b)) (hn : ab_nx P.1 i a b pc l st h = none) (hr : ab_ret P.1.2.2.2.2.1 i st = none) (ht : ab_thr mi pc st = false) (hP2 : ab_prog[a]? = some P2) (hi : ab_inv i a P2.1.2.2.2.2.2.1 P2.1.2.1.cls h st = some z) (hl : (lg_sl z.1).length ≤ P2.1.2.2.2.1) (hs : ab_sp i = false)
    (hc : ab_Rn d a 0 (lv_args 0 z.1) [] h (.inr ()) h') : ab_Rn (d + 1) mi pc l st h (.inr ()) h' := by
  obtain ⟨n1, e1⟩ := hc
  refine ⟨n1 + 1, ?_⟩
  rw [ab_go, hP]
  simp only [hf, hn, hr, ht, cond_false, hP2, hi, if_pos hl, e1, hs]
end RN
end
section
/-! Steps on a heap that is a function. -/
section RH
variable {d mi pc len a b n : Nat} {l : ab_L} {r st : List Value} {F : Nat → ab_C} {h1 h' : ab_H} {o : Option Value ⊕ Unit} {P P2 : ab_M × List ab_I}
theorem r_getf {i ci k idx : Nat} {fs : List Value} {v : Value} (hP : ab_prog[mi]? = some P) (hf : ab_fetch P.2 pc = some (.getfield idx, len, ci, k)) (hn : i < n) (hF : F i = .inr (ci, fs)) (hc : ci < 7) (hv : fs[k]? = some v) (K : ab_Rn d mi (pc + 3) l (v :: r) (ab_hl n F) o h') : ab_Rn d mi pc l (.ref i :: r) (ab_hl n F) o h' := by
  refine r_nx (z := (pc + 3, l, v :: r, ab_hl n F)) hP hf ?_ K
  simp only [ab_nx, ab_op, ab_ld, ab_sto, ab_br, ab_hp, ab_fget, ab_hl_at hn hF, hv, ab_len]
  rw [if_pos ⟨trivial, hc⟩]
  rfl
theorem r_putf {i ci k idx : Nat} {fs : List Value} {v : Value} (hP : ab_prog[mi]? = some P) (hf : ab_fetch P.2 pc = some (.putfield idx, len, ci, k)) (hn : i < n) (hF : F i = .inr (ci, fs)) (hc : ci < 7) (hk : k < fs.length) (hv : ab_fit (ab_ty ci k) v = true) (hfin : ab_fin ci k = false ∨ ((P.1.2.1.name == "<init>") = true ∧ ab_cn ci = P.1.2.1.cls)) (K : ab_Rn d mi (pc + 3) l r (ab_hl n (ab_fu F i (.inr (ci, fs.set k v)))) o h') : ab_Rn d mi pc l (v :: .ref i :: r) (ab_hl n F) o h' := by
  refine r_nx (z := (pc + 3, l, r, ab_hl n (ab_fu F i (.inr (ci, fs.set k v))))) hP hf ?_ K
  simp only [ab_nx, ab_op, ab_ld, ab_sto, ab_br, ab_hp, ab_fput, ab_hl_at hn hF, ab_len]
  rw [if_pos ⟨trivial, hc, hk, hv, hfin⟩]
  simp only [ab_hl_set]
theorem r_alen {i t m : Nat} {x : (Nat → Int32) ⊕ (Nat → Int64) ⊕ (Nat → UInt32) ⊕ (Nat → UInt64) ⊕ (Nat → Option Nat)} (hP : ab_prog[mi]? = some P) (hf : ab_fetch P.2 pc = some (.arraylength, len, a, b)) (hn : i < n) (hF : F i = .inl (t, m, x)) (hc : t < 3) (K : ab_Rn d mi (pc + 1) l (.int (Int32.ofNat m) :: r) (ab_hl n F) o h') : ab_Rn d mi pc l (.ref i :: r) (ab_hl n F) o h' := by
  refine r_nx (z := (pc + 1, l, .int (Int32.ofNat m) :: r, ab_hl n F)) hP hf ?_ K
  simp only [ab_nx, ab_op, ab_ld, ab_sto, ab_br, ab_hp, ab_alen, ab_hl_at hn hF, ab_len]
  rw [if_pos hc]
  rfl
theorem r_iald {i m : Nat} {j : Int32} {f : Nat → Int32} (hP : ab_prog[mi]? = some P) (hf : ab_fetch P.2 pc = some (.iaload, len, a, b)) (hn : i < n) (hF : F i = .inl (1, m, .inl f)) (hj : ¬ (j < 0 ∨ m ≤ j.toNatClampNeg)) (K : ab_Rn d mi (pc + 1) l (.int (f j.toNatClampNeg) :: r) (ab_hl n F) o h') : ab_Rn d mi pc l (.int j :: .ref i :: r) (ab_hl n F) o h' := by
  refine r_nx (z := (pc + 1, l, .int (f j.toNatClampNeg) :: r, ab_hl n F)) hP hf ?_ K
  simp only [ab_nx, ab_op, ab_ld, ab_sto, ab_br, ab_hp, ab_ald, ab_hl_at hn hF, ab_len]
  rw [if_pos ⟨trivial, hj⟩]
  rfl
theorem r_bald {i m : Nat} {j : Int32} {f : Nat → Int32} (hP : ab_prog[mi]? = some P) (hf : ab_fetch P.2 pc = some (.baload, len, a, b)) (hn : i < n) (hF : F i = .inl (0, m, .inl f)) (hj : ¬ (j < 0 ∨ m ≤ j.toNatClampNeg)) (K : ab_Rn d mi (pc + 1) l (.int (f j.toNatClampNeg) :: r) (ab_hl n F) o h') : ab_Rn d mi pc l (.int j :: .ref i :: r) (ab_hl n F) o h' := by
  refine r_nx (z := (pc + 1, l, .int (f j.toNatClampNeg) :: r, ab_hl n F)) hP hf ?_ K
  simp only [ab_nx, ab_op, ab_ld, ab_sto, ab_br, ab_hp, ab_ald, ab_hl_at hn hF, ab_len]
  rw [if_pos ⟨trivial, hj⟩]
  rfl
theorem r_lald {i m : Nat} {j : Int32} {f : Nat → Int64} (hP : ab_prog[mi]? = some P) (hf : ab_fetch P.2 pc = some (.laload, len, a, b)) (hn : i < n) (hF : F i = .inl (2, m, .inr (.inl f))) (hj : ¬ (j < 0 ∨ m ≤ j.toNatClampNeg)) (K : ab_Rn d mi (pc + 1) l (.long (f j.toNatClampNeg) :: r) (ab_hl n F) o h') : ab_Rn d mi pc l (.int j :: .ref i :: r) (ab_hl n F) o h' := by
  refine r_nx (z := (pc + 1, l, .long (f j.toNatClampNeg) :: r, ab_hl n F)) hP hf ?_ K
  simp only [ab_nx, ab_op, ab_ld, ab_sto, ab_br, ab_hp, ab_lald, ab_hl_at hn hF, ab_len]
  rw [if_pos ⟨trivial, hj⟩]
  rfl
theorem r_iast {i m : Nat} {j x : Int32} {f : Nat → Int32} (hP : ab_prog[mi]? = some P) (hf : ab_fetch P.2 pc = some (.iastore, len, a, b)) (hn : i < n) (hF : F i = .inl (1, m, .inl f)) (hj : ¬ (j < 0 ∨ m ≤ j.toNatClampNeg)) (K : ab_Rn d mi (pc + 1) l r (ab_hl n (ab_fu F i (.inl (1, m, .inl (upd f j.toNatClampNeg x))))) o h') : ab_Rn d mi pc l (.int x :: .int j :: .ref i :: r) (ab_hl n F) o h' := by
  refine r_nx (z := (pc + 1, l, r, ab_hl n (ab_fu F i (.inl (1, m, .inl (upd f j.toNatClampNeg x)))))) hP hf ?_ K
  simp only [ab_nx, ab_op, ab_ld, ab_sto, ab_br, ab_hp, ab_ast, ab_hl_at hn hF, ab_len]
  rw [if_pos ⟨trivial, hj⟩]
  simp only [ab_hl_set]
  rfl
theorem r_bast {i m : Nat} {j x : Int32} {f : Nat → Int32} (hP : ab_prog[mi]? = some P) (hf : ab_fetch P.2 pc = some (.bastore, len, a, b)) (hn : i < n) (hF : F i = .inl (0, m, .inl f)) (hj : ¬ (j < 0 ∨ m ≤ j.toNatClampNeg)) (K : ab_Rn d mi (pc + 1) l r (ab_hl n (ab_fu F i (.inl (0, m, .inl (upd f j.toNatClampNeg x.toInt8.toInt32))))) o h') : ab_Rn d mi pc l (.int x :: .int j :: .ref i :: r) (ab_hl n F) o h' := by
  refine r_nx (z := (pc + 1, l, r, ab_hl n (ab_fu F i (.inl (0, m, .inl (upd f j.toNatClampNeg x.toInt8.toInt32)))))) hP hf ?_ K
  simp only [ab_nx, ab_op, ab_ld, ab_sto, ab_br, ab_hp, ab_ast, ab_hl_at hn hF, ab_len]
  rw [if_pos ⟨trivial, hj⟩]
  simp only [ab_hl_set]
  rfl
theorem r_last {i m : Nat} {j : Int32} {x : Int64} {f : Nat → Int64} (hP : ab_prog[mi]? = some P) (hf : ab_fetch P.2 pc = some (.lastore, len, a, b)) (hn : i < n) (hF : F i = .inl (2, m, .inr (.inl f))) (hj : ¬ (j < 0 ∨ m ≤ j.toNatClampNeg)) (K : ab_Rn d mi (pc + 1) l r (ab_hl n (ab_fu F i (.inl (2, m, .inr (.inl (vp_updL f j.toNatClampNeg x)))))) o h') : ab_Rn d mi pc l (.long x :: .int j :: .ref i :: r) (ab_hl n F) o h' := by
  refine r_nx (z := (pc + 1, l, r, ab_hl n (ab_fu F i (.inl (2, m, .inr (.inl (vp_updL f j.toNatClampNeg x))))))) hP hf ?_ K
  simp only [ab_nx, ab_op, ab_ld, ab_sto, ab_br, ab_hp, ab_last, ab_hl_at hn hF, ab_len]
  rw [if_pos ⟨trivial, hj⟩]
  simp only [ab_hl_set]
theorem r_new {ci idx : Nat} (hP : ab_prog[mi]? = some P) (hf : ab_fetch P.2 pc = some (.new idx, len, ci, b)) (hc : ci < 7) (K : ab_Rn d mi (pc + 3) l (.ref n :: r) (ab_hl (n + 1) (ab_fu F n (.inr (ci, ab_dfl ci)))) o h') : ab_Rn d mi pc l r (ab_hl n F) o h' := by
  refine r_nx (z := (pc + 3, l, .ref n :: r, ab_hl (n + 1) (ab_fu F n (.inr (ci, ab_dfl ci))))) hP hf ?_ K
  simp only [ab_nx, ab_op, ab_ld, ab_sto, ab_br, ab_hp, ab_nw, if_pos hc, ab_len, ab_hl_len, ab_hl_push]
theorem r_newa {t : ArrayType} {x : Int32} (hP : ab_prog[mi]? = some P) (hf : ab_fetch P.2 pc = some (.newarray t, len, a, b)) (hc : ab_at t < 3 ∧ ¬ x < 0 ∧ x.toNatClampNeg ≤ 1000000) (K : ab_Rn d mi (pc + 2) l (.ref n :: r) (ab_hl (n + 1) (ab_fu F n (ab_a0 (ab_at t) x.toNatClampNeg))) o h') : ab_Rn d mi pc l (.int x :: r) (ab_hl n F) o h' := by
  refine r_nx (z := (pc + 2, l, .ref n :: r, ab_hl (n + 1) (ab_fu F n (ab_a0 (ab_at t) x.toNatClampNeg)))) hP hf ?_ K
  simp only [ab_nx, ab_op, ab_ld, ab_sto, ab_br, ab_hp, ab_nwa, if_pos hc, ab_len, ab_hl_len, ab_hl_push]
/-- a virtual call on an object of the heap -/
theorem r_cv {j ci idx : Nat} {fs : List Value} {v : Option Value} (hP : ab_prog[mi]? = some P) (hf : ab_fetch P.2 pc = some (.invokevirtual idx, len, a, b)) (ht : ab_thr mi pc st = false) (hP2 : ab_prog[a]? = some P2) (hst : st.drop P2.1.2.2.2.2.2.1 = .ref j :: r) (hlen : (st.take P2.1.2.2.2.2.2.1).length = P2.1.2.2.2.2.2.1) (hcat : ab_cat r ≤ 8) (hj : j < n) (hF : F j = .inr (ci, fs)) (hcn : ab_cn ci = P2.1.2.1.cls) (hl : (lg_sl (.ref j :: (st.take P2.1.2.2.2.2.2.1).reverse)).length ≤ P2.1.2.2.2.1)
    (hc : ab_Rn d a 0 (lv_args 0 (.ref j :: (st.take P2.1.2.2.2.2.2.1).reverse)) [] (ab_hl n F) (.inl v) h1) (K : ab_Rn (d + 1) mi (pc + 3) l (v.toList ++ r) h1 o h') : ab_Rn (d + 1) mi pc l st (ab_hl n F) o h' := by
  refine r_call (z := (.ref j :: (st.take P2.1.2.2.2.2.2.1).reverse, r)) hP hf rfl rfl ht hP2 ?_ hl hc K
  simp only [ab_inv, hst, ab_hl_at hj hF]
  rw [if_pos ⟨hcn, hlen, hcat⟩]
theorem r_cvx {j ci idx : Nat} {fs : List Value} (hP : ab_prog[mi]? = some P) (hf : ab_fetch P.2 pc = some (.invokevirtual idx, len, a, b)) (ht : ab_thr mi pc st = false) (hP2 : ab_prog[a]? = some P2) (hst : st.drop P2.1.2.2.2.2.2.1 = .ref j :: r) (hlen : (st.take P2.1.2.2.2.2.2.1).length = P2.1.2.2.2.2.2.1) (hcat : ab_cat r ≤ 8) (hj : j < n) (hF : F j = .inr (ci, fs)) (hcn : ab_cn ci = P2.1.2.1.cls) (hl : (lg_sl (.ref j :: (st.take P2.1.2.2.2.2.2.1).reverse)).length ≤ P2.1.2.2.2.1)
    (hc : ab_Rn d a 0 (lv_args 0 (.ref j :: (st.take P2.1.2.2.2.2.2.1).reverse)) [] (ab_hl n F) (.inr ()) h') : ab_Rn (d + 1) mi pc l st (ab_hl n F) (.inr ()) h' := by
  refine r_callx (z := (.ref j :: (st.take P2.1.2.2.2.2.2.1).reverse, r)) hP hf rfl rfl ht hP2 ?_ hl rfl hc
  simp only [ab_inv, hst, ab_hl_at hj hF]
  rw [if_pos ⟨hcn, hlen, hcat⟩]
end RH
end
section
/-! Branches. -/
section RB
variable {d mi pc len a b : Nat} {l : ab_L} {r : List Value} {h h' : ab_H} {o : Option Value ⊕ Unit} {P : ab_M × List ab_I} {off : Int}
theorem r_if_eq {x : Int32} (hP : ab_prog[mi]? = some P) (hf : ab_fetch P.2 pc = some (.ifCond .eq off, len, a, b)) (kt : x = 0 → ab_Rn d mi a l r h o h') (kf : ¬ x = 0 → ab_Rn d mi (pc + 3) l r h o h') : ab_Rn d mi pc l (.int x :: r) h o h' := by
  by_cases c : x = 0
  · refine r_nx (z := (a, l, r, h)) hP hf ?_ (kt c)
    simp [ab_nx, ab_op, ab_ld, ab_sto, ab_br, ab_if1, c]
  · refine r_nx (z := (pc + 3, l, r, h)) hP hf ?_ (kf c)
    have e9 : (x == 0) = false := by simpa using c
    simp [ab_nx, ab_op, ab_ld, ab_sto, ab_br, ab_if1, bne, e9]
theorem r_if_ne {x : Int32} (hP : ab_prog[mi]? = some P) (hf : ab_fetch P.2 pc = some (.ifCond .ne off, len, a, b)) (kt : ¬ x = 0 → ab_Rn d mi a l r h o h') (kf : x = 0 → ab_Rn d mi (pc + 3) l r h o h') : ab_Rn d mi pc l (.int x :: r) h o h' := by
  by_cases c : x = 0
  · refine r_nx (z := (pc + 3, l, r, h)) hP hf ?_ (kf c)
    simp [ab_nx, ab_op, ab_ld, ab_sto, ab_br, ab_if1, c]
  · refine r_nx (z := (a, l, r, h)) hP hf ?_ (kt c)
    have e9 : (x == 0) = false := by simpa using c
    simp [ab_nx, ab_op, ab_ld, ab_sto, ab_br, ab_if1, bne, e9]
theorem r_if_lt {x : Int32} (hP : ab_prog[mi]? = some P) (hf : ab_fetch P.2 pc = some (.ifCond .lt off, len, a, b)) (kt : x < 0 → ab_Rn d mi a l r h o h') (kf : ¬ x < 0 → ab_Rn d mi (pc + 3) l r h o h') : ab_Rn d mi pc l (.int x :: r) h o h' := by
  by_cases c : x < 0
  · refine r_nx (z := (a, l, r, h)) hP hf ?_ (kt c)
    simp [ab_nx, ab_op, ab_ld, ab_sto, ab_br, ab_if1, c]
  · refine r_nx (z := (pc + 3, l, r, h)) hP hf ?_ (kf c)
    simp [ab_nx, ab_op, ab_ld, ab_sto, ab_br, ab_if1, c]
theorem r_if_ge {x : Int32} (hP : ab_prog[mi]? = some P) (hf : ab_fetch P.2 pc = some (.ifCond .ge off, len, a, b)) (kt : 0 ≤ x → ab_Rn d mi a l r h o h') (kf : ¬ 0 ≤ x → ab_Rn d mi (pc + 3) l r h o h') : ab_Rn d mi pc l (.int x :: r) h o h' := by
  by_cases c : 0 ≤ x
  · refine r_nx (z := (a, l, r, h)) hP hf ?_ (kt c)
    simp [ab_nx, ab_op, ab_ld, ab_sto, ab_br, ab_if1, c]
  · refine r_nx (z := (pc + 3, l, r, h)) hP hf ?_ (kf c)
    simp [ab_nx, ab_op, ab_ld, ab_sto, ab_br, ab_if1, c]
theorem r_if_gt {x : Int32} (hP : ab_prog[mi]? = some P) (hf : ab_fetch P.2 pc = some (.ifCond .gt off, len, a, b)) (kt : 0 < x → ab_Rn d mi a l r h o h') (kf : ¬ 0 < x → ab_Rn d mi (pc + 3) l r h o h') : ab_Rn d mi pc l (.int x :: r) h o h' := by
  by_cases c : 0 < x
  · refine r_nx (z := (a, l, r, h)) hP hf ?_ (kt c)
    simp [ab_nx, ab_op, ab_ld, ab_sto, ab_br, ab_if1, c]
  · refine r_nx (z := (pc + 3, l, r, h)) hP hf ?_ (kf c)
    simp [ab_nx, ab_op, ab_ld, ab_sto, ab_br, ab_if1, c]
theorem r_if_le {x : Int32} (hP : ab_prog[mi]? = some P) (hf : ab_fetch P.2 pc = some (.ifCond .le off, len, a, b)) (kt : x ≤ 0 → ab_Rn d mi a l r h o h') (kf : ¬ x ≤ 0 → ab_Rn d mi (pc + 3) l r h o h') : ab_Rn d mi pc l (.int x :: r) h o h' := by
  by_cases c : x ≤ 0
  · refine r_nx (z := (a, l, r, h)) hP hf ?_ (kt c)
    simp [ab_nx, ab_op, ab_ld, ab_sto, ab_br, ab_if1, c]
  · refine r_nx (z := (pc + 3, l, r, h)) hP hf ?_ (kf c)
    simp [ab_nx, ab_op, ab_ld, ab_sto, ab_br, ab_if1, c]
theorem r_ic_eq {x y : Int32} (hP : ab_prog[mi]? = some P) (hf : ab_fetch P.2 pc = some (.if_icmp .eq off, len, a, b)) (kt : x = y → ab_Rn d mi a l r h o h') (kf : ¬ x = y → ab_Rn d mi (pc + 3) l r h o h') : ab_Rn d mi pc l (.int y :: .int x :: r) h o h' := by
  by_cases c : x = y
  · refine r_nx (z := (a, l, r, h)) hP hf ?_ (kt c)
    simp [ab_nx, ab_op, ab_ld, ab_sto, ab_br, ab_if2, c]
  · refine r_nx (z := (pc + 3, l, r, h)) hP hf ?_ (kf c)
    have e9 : (x == y) = false := by simpa using c
    simp [ab_nx, ab_op, ab_ld, ab_sto, ab_br, ab_if2, bne, e9]
theorem r_ic_ne {x y : Int32} (hP : ab_prog[mi]? = some P) (hf : ab_fetch P.2 pc = some (.if_icmp .ne off, len, a, b)) (kt : ¬ x = y → ab_Rn d mi a l r h o h') (kf : x = y → ab_Rn d mi (pc + 3) l r h o h') : ab_Rn d mi pc l (.int y :: .int x :: r) h o h' := by
  by_cases c : x = y
  · refine r_nx (z := (pc + 3, l, r, h)) hP hf ?_ (kf c)
    simp [ab_nx, ab_op, ab_ld, ab_sto, ab_br, ab_if2, c]
  · refine r_nx (z := (a, l, r, h)) hP hf ?_ (kt c)
    have e9 : (x == y) = false := by simpa using c
    simp [ab_nx, ab_op, ab_ld, ab_sto, ab_br, ab_if2, bne, e9]
theorem r_ic_lt {x y : Int32} (hP : ab_prog[mi]? = some P) (hf : ab_fetch P.2 pc = some (.if_icmp .lt off, len, a, b)) (kt : x < y → ab_Rn d mi a l r h o h') (kf : ¬ x < y → ab_Rn d mi (pc + 3) l r h o h') : ab_Rn d mi pc l (.int y :: .int x :: r) h o h' := by
  by_cases c : x < y
  · refine r_nx (z := (a, l, r, h)) hP hf ?_ (kt c)
    simp [ab_nx, ab_op, ab_ld, ab_sto, ab_br, ab_if2, c]
  · refine r_nx (z := (pc + 3, l, r, h)) hP hf ?_ (kf c)
    simp [ab_nx, ab_op, ab_ld, ab_sto, ab_br, ab_if2, c]
theorem r_ic_ge {x y : Int32} (hP : ab_prog[mi]? = some P) (hf : ab_fetch P.2 pc = some (.if_icmp .ge off, len, a, b)) (kt : y ≤ x → ab_Rn d mi a l r h o h') (kf : ¬ y ≤ x → ab_Rn d mi (pc + 3) l r h o h') : ab_Rn d mi pc l (.int y :: .int x :: r) h o h' := by
  by_cases c : y ≤ x
  · refine r_nx (z := (a, l, r, h)) hP hf ?_ (kt c)
    simp [ab_nx, ab_op, ab_ld, ab_sto, ab_br, ab_if2, c]
  · refine r_nx (z := (pc + 3, l, r, h)) hP hf ?_ (kf c)
    simp [ab_nx, ab_op, ab_ld, ab_sto, ab_br, ab_if2, c]
theorem r_ic_gt {x y : Int32} (hP : ab_prog[mi]? = some P) (hf : ab_fetch P.2 pc = some (.if_icmp .gt off, len, a, b)) (kt : y < x → ab_Rn d mi a l r h o h') (kf : ¬ y < x → ab_Rn d mi (pc + 3) l r h o h') : ab_Rn d mi pc l (.int y :: .int x :: r) h o h' := by
  by_cases c : y < x
  · refine r_nx (z := (a, l, r, h)) hP hf ?_ (kt c)
    simp [ab_nx, ab_op, ab_ld, ab_sto, ab_br, ab_if2, c]
  · refine r_nx (z := (pc + 3, l, r, h)) hP hf ?_ (kf c)
    simp [ab_nx, ab_op, ab_ld, ab_sto, ab_br, ab_if2, c]
theorem r_ic_le {x y : Int32} (hP : ab_prog[mi]? = some P) (hf : ab_fetch P.2 pc = some (.if_icmp .le off, len, a, b)) (kt : x ≤ y → ab_Rn d mi a l r h o h') (kf : ¬ x ≤ y → ab_Rn d mi (pc + 3) l r h o h') : ab_Rn d mi pc l (.int y :: .int x :: r) h o h' := by
  by_cases c : x ≤ y
  · refine r_nx (z := (a, l, r, h)) hP hf ?_ (kt c)
    simp [ab_nx, ab_op, ab_ld, ab_sto, ab_br, ab_if2, c]
  · refine r_nx (z := (pc + 3, l, r, h)) hP hf ?_ (kf c)
    simp [ab_nx, ab_op, ab_ld, ab_sto, ab_br, ab_if2, c]
end RB
abbrev ib (j : Int32) (m : Nat) : Prop := ¬ (j < 0 ∨ m ≤ j.toNatClampNeg)
end
section
/-! A row an instruction. -/
section RI
variable {d mi pc len a b : Nat} {l l' : ab_L} {r st st' : List Value} {h h' : ab_H} {o : Option Value ⊕ Unit} {P : ab_M × List ab_I}
theorem r_iconst {n : Int} {v : Int32} (hP : ab_prog[mi]? = some P) (hf : ab_fetch P.2 pc = some (.iconst n, len, a, b)) (hv : Int32.ofInt n = v) (K : ab_Rn d mi (pc + 1) l (.int v :: r) h o h') : ab_Rn d mi pc l (r) h o h' := r_nx (z := (pc + 1, l, .int v :: r, h)) hP hf (by subst hv; rfl) K
theorem r_bipush {n : Int} {v : Int32} (hP : ab_prog[mi]? = some P) (hf : ab_fetch P.2 pc = some (.bipush n, len, a, b)) (hv : (Int8.ofInt n).toInt32 = v) (K : ab_Rn d mi (pc + 2) l (.int v :: r) h o h') : ab_Rn d mi pc l (r) h o h' := r_nx (z := (pc + 2, l, .int v :: r, h)) hP hf (by subst hv; rfl) K
theorem r_sipush {n : Int} {v : Int32} (hP : ab_prog[mi]? = some P) (hf : ab_fetch P.2 pc = some (.sipush n, len, a, b)) (hv : (Int16.ofInt n).toInt32 = v) (K : ab_Rn d mi (pc + 3) l (.int v :: r) h o h') : ab_Rn d mi pc l (r) h o h' := r_nx (z := (pc + 3, l, .int v :: r, h)) hP hf (by subst hv; rfl) K
theorem r_lconst {n : Fin 2} {v : Int64} (hP : ab_prog[mi]? = some P) (hf : ab_fetch P.2 pc = some (.lconst n, len, a, b)) (hv : Int64.ofNat (n : Nat) = v) (K : ab_Rn d mi (pc + 1) l (.long v :: r) h o h') : ab_Rn d mi pc l (r) h o h' := r_nx (z := (pc + 1, l, .long v :: r, h)) hP hf (by subst hv; rfl) K
theorem r_null (hP : ab_prog[mi]? = some P) (hf : ab_fetch P.2 pc = some (.aconst_null, len, a, b)) (K : ab_Rn d mi (pc + 1) l (.null :: r) h o h') : ab_Rn d mi pc l (r) h o h' := r_nx (z := (pc + 1, l, .null :: r, h)) hP hf (rfl) K
theorem r_iadd {x y : Int32} (hP : ab_prog[mi]? = some P) (hf : ab_fetch P.2 pc = some (.iadd, len, a, b)) (K : ab_Rn d mi (pc + 1) l (.int (x + y) :: r) h o h') : ab_Rn d mi pc l (.int y :: .int x :: r) h o h' := r_nx (z := (pc + 1, l, .int (x + y) :: r, h)) hP hf (rfl) K
theorem r_isub {x y : Int32} (hP : ab_prog[mi]? = some P) (hf : ab_fetch P.2 pc = some (.isub, len, a, b)) (K : ab_Rn d mi (pc + 1) l (.int (x - y) :: r) h o h') : ab_Rn d mi pc l (.int y :: .int x :: r) h o h' := r_nx (z := (pc + 1, l, .int (x - y) :: r, h)) hP hf (rfl) K
theorem r_imul {x y : Int32} (hP : ab_prog[mi]? = some P) (hf : ab_fetch P.2 pc = some (.imul, len, a, b)) (K : ab_Rn d mi (pc + 1) l (.int (x * y) :: r) h o h') : ab_Rn d mi pc l (.int y :: .int x :: r) h o h' := r_nx (z := (pc + 1, l, .int (x * y) :: r, h)) hP hf (rfl) K
theorem r_iand {x y : Int32} (hP : ab_prog[mi]? = some P) (hf : ab_fetch P.2 pc = some (.iand, len, a, b)) (K : ab_Rn d mi (pc + 1) l (.int (x &&& y) :: r) h o h') : ab_Rn d mi pc l (.int y :: .int x :: r) h o h' := r_nx (z := (pc + 1, l, .int (x &&& y) :: r, h)) hP hf (rfl) K
theorem r_ior {x y : Int32} (hP : ab_prog[mi]? = some P) (hf : ab_fetch P.2 pc = some (.ior, len, a, b)) (K : ab_Rn d mi (pc + 1) l (.int (x ||| y) :: r) h o h') : ab_Rn d mi pc l (.int y :: .int x :: r) h o h' := r_nx (z := (pc + 1, l, .int (x ||| y) :: r, h)) hP hf (rfl) K
theorem r_ixor {x y : Int32} (hP : ab_prog[mi]? = some P) (hf : ab_fetch P.2 pc = some (.ixor, len, a, b)) (K : ab_Rn d mi (pc + 1) l (.int (x ^^^ y) :: r) h o h') : ab_Rn d mi pc l (.int y :: .int x :: r) h o h' := r_nx (z := (pc + 1, l, .int (x ^^^ y) :: r, h)) hP hf (rfl) K
theorem r_ishl {x y : Int32} (hP : ab_prog[mi]? = some P) (hf : ab_fetch P.2 pc = some (.ishl, len, a, b)) (K : ab_Rn d mi (pc + 1) l (.int (x <<< (y &&& 31)) :: r) h o h') : ab_Rn d mi pc l (.int y :: .int x :: r) h o h' := r_nx (z := (pc + 1, l, .int (x <<< (y &&& 31)) :: r, h)) hP hf (rfl) K
theorem r_ishr {x y : Int32} (hP : ab_prog[mi]? = some P) (hf : ab_fetch P.2 pc = some (.ishr, len, a, b)) (K : ab_Rn d mi (pc + 1) l (.int (x >>> (y &&& 31)) :: r) h o h') : ab_Rn d mi pc l (.int y :: .int x :: r) h o h' := r_nx (z := (pc + 1, l, .int (x >>> (y &&& 31)) :: r, h)) hP hf (rfl) K
theorem r_iushr {x y : Int32} (hP : ab_prog[mi]? = some P) (hf : ab_fetch P.2 pc = some (.iushr, len, a, b)) (K : ab_Rn d mi (pc + 1) l (.int ((x.toUInt32 >>> (y.toUInt32 &&& Int32.toUInt32 31)).toInt32) :: r) h o h') : ab_Rn d mi pc l (.int y :: .int x :: r) h o h' := r_nx (z := (pc + 1, l, .int ((x.toUInt32 >>> (y.toUInt32 &&& Int32.toUInt32 31)).toInt32) :: r, h)) hP hf (rfl) K
theorem r_idiv {x y : Int32} (hP : ab_prog[mi]? = some P) (hf : ab_fetch P.2 pc = some (.idiv, len, a, b)) (hy : ¬ y = 0) (K : ab_Rn d mi (pc + 1) l (.int (x / y) :: r) h o h') : ab_Rn d mi pc l (.int y :: .int x :: r) h o h' := r_nx (z := (pc + 1, l, .int (x / y) :: r, h)) hP hf (by simp only [ab_nx, ab_op, ab_dv, if_neg hy, ab_len]) K
theorem r_irem {x y : Int32} (hP : ab_prog[mi]? = some P) (hf : ab_fetch P.2 pc = some (.irem, len, a, b)) (hy : ¬ y = 0) (K : ab_Rn d mi (pc + 1) l (.int (x - x / y * y) :: r) h o h') : ab_Rn d mi pc l (.int y :: .int x :: r) h o h' := r_nx (z := (pc + 1, l, .int (x - x / y * y) :: r, h)) hP hf (by simp only [ab_nx, ab_op, ab_dv, if_neg hy, ab_len]) K
theorem r_ineg {x : Int32} (hP : ab_prog[mi]? = some P) (hf : ab_fetch P.2 pc = some (.ineg, len, a, b)) (K : ab_Rn d mi (pc + 1) l (.int (-x) :: r) h o h') : ab_Rn d mi pc l (.int x :: r) h o h' := r_nx (z := (pc + 1, l, .int (-x) :: r, h)) hP hf (rfl) K
theorem r_i2b {x : Int32} (hP : ab_prog[mi]? = some P) (hf : ab_fetch P.2 pc = some (.i2b, len, a, b)) (K : ab_Rn d mi (pc + 1) l (.int x.toInt8.toInt32 :: r) h o h') : ab_Rn d mi pc l (.int x :: r) h o h' := r_nx (z := (pc + 1, l, .int x.toInt8.toInt32 :: r, h)) hP hf (rfl) K
theorem r_i2c {x : Int32} (hP : ab_prog[mi]? = some P) (hf : ab_fetch P.2 pc = some (.i2c, len, a, b)) (K : ab_Rn d mi (pc + 1) l (.int (x.toUInt32 % 65536).toInt32 :: r) h o h') : ab_Rn d mi pc l (.int x :: r) h o h' := r_nx (z := (pc + 1, l, .int (x.toUInt32 % 65536).toInt32 :: r, h)) hP hf (rfl) K
theorem r_i2l {x : Int32} (hP : ab_prog[mi]? = some P) (hf : ab_fetch P.2 pc = some (.i2l, len, a, b)) (K : ab_Rn d mi (pc + 1) l (.long x.toInt64 :: r) h o h') : ab_Rn d mi pc l (.int x :: r) h o h' := r_nx (z := (pc + 1, l, .long x.toInt64 :: r, h)) hP hf (rfl) K
theorem r_lor {x y : Int64} (hP : ab_prog[mi]? = some P) (hf : ab_fetch P.2 pc = some (.lor, len, a, b)) (K : ab_Rn d mi (pc + 1) l (.long (x ||| y) :: r) h o h') : ab_Rn d mi pc l (.long y :: .long x :: r) h o h' := r_nx (z := (pc + 1, l, .long (x ||| y) :: r, h)) hP hf (rfl) K
theorem r_lcmp {x y : Int64} (hP : ab_prog[mi]? = some P) (hf : ab_fetch P.2 pc = some (.lcmp, len, a, b)) (K : ab_Rn d mi (pc + 1) l (.int (lg_cmp x y) :: r) h o h') : ab_Rn d mi pc l (.long y :: .long x :: r) h o h' := r_nx (z := (pc + 1, l, .int (lg_cmp x y) :: r, h)) hP hf (rfl) K
theorem r_lshl {x : Int64} {y : Int32} (hP : ab_prog[mi]? = some P) (hf : ab_fetch P.2 pc = some (.lshl, len, a, b)) (K : ab_Rn d mi (pc + 1) l (.long (x <<< (y.toInt64 &&& 63)) :: r) h o h') : ab_Rn d mi pc l (.int y :: .long x :: r) h o h' := r_nx (z := (pc + 1, l, .long (x <<< (y.toInt64 &&& 63)) :: r, h)) hP hf (rfl) K
theorem r_dup {v : Value} (hP : ab_prog[mi]? = some P) (hf : ab_fetch P.2 pc = some (.dup, len, a, b)) (hv : v.category = 1) (K : ab_Rn d mi (pc + 1) l (v :: v :: r) h o h') : ab_Rn d mi pc l (v :: r) h o h' := r_nx (z := (pc + 1, l, v :: v :: r, h)) hP hf (by simp only [ab_nx, ab_op, ab_s1, if_pos hv, ab_len]; rfl) K
theorem r_pop {v : Value} (hP : ab_prog[mi]? = some P) (hf : ab_fetch P.2 pc = some (.pop, len, a, b)) (hv : v.category = 1) (K : ab_Rn d mi (pc + 1) l (r) h o h') : ab_Rn d mi pc l (v :: r) h o h' := r_nx (z := (pc + 1, l, r, h)) hP hf (by simp only [ab_nx, ab_op, ab_s1, if_pos hv, ab_len]; rfl) K
theorem r_dup_x1 {v w : Value} (hP : ab_prog[mi]? = some P) (hf : ab_fetch P.2 pc = some (.dup_x1, len, a, b)) (hv : v.category = 1 ∧ w.category = 1) (K : ab_Rn d mi (pc + 1) l (v :: w :: v :: r) h o h') : ab_Rn d mi pc l (v :: w :: r) h o h' := r_nx (z := (pc + 1, l, v :: w :: v :: r, h)) hP hf (by simp only [ab_nx, ab_op, ab_s2, if_pos hv, ab_len]; rfl) K
theorem r_dup2 {v w : Value} (hP : ab_prog[mi]? = some P) (hf : ab_fetch P.2 pc = some (.dup2, len, a, b)) (hv : v.category = 1 ∧ w.category = 1) (K : ab_Rn d mi (pc + 1) l (v :: w :: v :: w :: r) h o h') : ab_Rn d mi pc l (v :: w :: r) h o h' := r_nx (z := (pc + 1, l, v :: w :: v :: w :: r, h)) hP hf (by simp only [ab_nx, ab_op, ab_s2, if_pos hv, ab_len]; rfl) K
theorem r_goto {off : Int} (hP : ab_prog[mi]? = some P) (hf : ab_fetch P.2 pc = some (.goto off, len, a, b)) (K : ab_Rn d mi a l st h o h') : ab_Rn d mi pc l st h o h' := r_nx (z := (a, l, st, h)) hP hf rfl K
theorem r_ld {i : Instr} {v : Value} (hP : ab_prog[mi]? = some P) (hf : ab_fetch P.2 pc = some (i, len, a, b)) (h0 : ab_op i st = none) (hv : ab_ld i l = some v) (K : ab_Rn d mi (pc + ab_len i) l (v :: st) h o h') : ab_Rn d mi pc l st h o h' := r_nx (z := (pc + ab_len i, l, v :: st, h)) hP hf (by simp only [ab_nx, h0, hv]) K
theorem r_sto {i : Instr} (hP : ab_prog[mi]? = some P) (hf : ab_fetch P.2 pc = some (i, len, a, b)) (h0 : ab_op i st = none) (h1 : ab_ld i l = none) (hv : ab_sto P.1.2.2.2.1 i l st = some (l', st')) (K : ab_Rn d mi (pc + ab_len i) l' st' h o h') : ab_Rn d mi pc l st h o h' := r_nx (z := (pc + ab_len i, l', st', h)) hP hf (by simp only [ab_nx, h0, h1, hv]) K
theorem r_sw {i : Instr} {t : Nat} (hP : ab_prog[mi]? = some P) (hf : ab_fetch P.2 pc = some (i, len, a, b)) (h0 : ab_op i st = none) (h1 : ab_ld i l = none) (h2 : ab_sto P.1.2.2.2.1 i l st = none) (hv : ab_br i pc a st = some (t, st')) (K : ab_Rn d mi t l st' h o h') : ab_Rn d mi pc l st h o h' := r_nx (z := (t, l, st', h)) hP hf (by simp only [ab_nx, h0, h1, h2, hv]) K
end RI
end
section
/-! Locals by what they hold; constants; static calls. -/
theorem ab_get_set1 {l : ab_L} {k j : Nat} {v w : Value} (hj : j ≠ k) (e : ab_get l j = some w) (hc : w.category = 1 ∨ j + 1 ≠ k) : ab_get (ab_set1 l k v) j = some w := by
  unfold ab_get at e
  cases hf : l.find? (fun q => q.1 == j) with
  | none => rw [hf] at e; cases e
  | some z =>
    rw [hf] at e
    have h1 : z.1 = j := by simpa using List.find?_some hf
    cases e
    unfold ab_get ab_set1
    rw [List.find?_cons_of_neg (by simpa using Ne.symm hj), List.find?_filter]
    have : l.find? (fun a => decide ((!(a.1 == k) && !(a.1 + 1 == k && a.2.category == 2)) = true ∧ (a.1 == j) = true)) = some z := by
      rw [List.find?_eq_some_iff_append] at hf ⊢
      obtain ⟨h2, as, bs, h3, h4⟩ := hf
      refine ⟨?_, as, bs, h3, fun a ha => ?_⟩
      · rcases hc with hc | hc
        · simp [h1, hj, hc]
        · simp [h1, hj, hc]
      · have := h4 a ha
        simp only [Bool.not_eq_true', beq_eq_false_iff_ne] at this ⊢
        simp [this]
    simp only [this]
    rfl
theorem ab_get_set1_self (l : ab_L) (k : Nat) (v : Value) : ab_get (ab_set1 l k v) k = some v := by
  unfold ab_get ab_set1
  simp
section RL
variable {d mi pc len a b k n : Nat} {l : ab_L} {r st : List Value} {h h1 h' : ab_H} {o : Option Value ⊕ Unit} {P P2 : ab_M × List ab_I} {x : Int32}
theorem r_iload (hP : ab_prog[mi]? = some P) (hf : ab_fetch P.2 pc = some (.iload k, len, a, b)) (e : ab_get l k = some (.int x)) (K : ab_Rn d mi (pc + 2) l (.int x :: r) h o h') : ab_Rn d mi pc l r h o h' := r_ld hP hf rfl (by simp only [ab_ld, e, ab_k]; rfl) K
theorem r_iload_n {k4 : Fin 4} (hP : ab_prog[mi]? = some P) (hf : ab_fetch P.2 pc = some (.iload_n k4, len, a, b)) (e : ab_get l k4 = some (.int x)) (K : ab_Rn d mi (pc + 1) l (.int x :: r) h o h') : ab_Rn d mi pc l r h o h' := r_ld hP hf rfl (by simp only [ab_ld, e, ab_k]; rfl) K
theorem r_aload {i : Nat} (hP : ab_prog[mi]? = some P) (hf : ab_fetch P.2 pc = some (.aload k, len, a, b)) (e : ab_get l k = some (.ref i)) (K : ab_Rn d mi (pc + 2) l (.ref i :: r) h o h') : ab_Rn d mi pc l r h o h' := r_ld hP hf rfl (by simp only [ab_ld, e, ab_k]; rfl) K
theorem r_aload_n {k4 : Fin 4} {i : Nat} (hP : ab_prog[mi]? = some P) (hf : ab_fetch P.2 pc = some (.aload_n k4, len, a, b)) (e : ab_get l k4 = some (.ref i)) (K : ab_Rn d mi (pc + 1) l (.ref i :: r) h o h') : ab_Rn d mi pc l r h o h' := r_ld hP hf rfl (by simp only [ab_ld, e, ab_k]; rfl) K
theorem r_lload {y : Int64} (hP : ab_prog[mi]? = some P) (hf : ab_fetch P.2 pc = some (.lload k, len, a, b)) (e : ab_get l k = some (.long y)) (K : ab_Rn d mi (pc + 2) l (.long y :: r) h o h') : ab_Rn d mi pc l r h o h' := r_ld hP hf rfl (by simp only [ab_ld, e, ab_k]; rfl) K
theorem r_lload_n {k4 : Fin 4} {y : Int64} (hP : ab_prog[mi]? = some P) (hf : ab_fetch P.2 pc = some (.lload_n k4, len, a, b)) (e : ab_get l k4 = some (.long y)) (K : ab_Rn d mi (pc + 1) l (.long y :: r) h o h') : ab_Rn d mi pc l r h o h' := r_ld hP hf rfl (by simp only [ab_ld, e, ab_k]; rfl) K
theorem r_istore (hP : ab_prog[mi]? = some P) (hf : ab_fetch P.2 pc = some (.istore k, len, a, b)) (hk : k < P.1.2.2.2.1) (K : ∀ l' : ab_L, (∀ (j : Nat) (w : Value), j ≠ k → ab_get l j = some w → w.category = 1 ∨ j + 1 ≠ k → ab_get l' j = some w) → ab_get l' k = some (.int x) → ab_Rn d mi (pc + 2) l' r h o h') : ab_Rn d mi pc l (.int x :: r) h o h' := r_sto (l' := ab_set1 l k (.int x)) (st' := r) hP hf rfl rfl (by simp only [ab_sto, ab_st1, ab_k, if_pos hk]; rfl) (K _ (fun _ _ hj e hc => ab_get_set1 hj e hc) (ab_get_set1_self _ _ _))
theorem r_istore_n {k4 : Fin 4} (hP : ab_prog[mi]? = some P) (hf : ab_fetch P.2 pc = some (.istore_n k4, len, a, b)) (hk : (k4 : Nat) < P.1.2.2.2.1) (K : ∀ l' : ab_L, (∀ (j : Nat) (w : Value), j ≠ (k4 : Nat) → ab_get l j = some w → w.category = 1 ∨ j + 1 ≠ (k4 : Nat) → ab_get l' j = some w) → ab_get l' (k4 : Nat) = some (.int x) → ab_Rn d mi (pc + 1) l' r h o h') : ab_Rn d mi pc l (.int x :: r) h o h' := r_sto (l' := ab_set1 l (k4 : Nat) (.int x)) (st' := r) hP hf rfl rfl (by simp only [ab_sto, ab_st1, ab_k, if_pos hk]; rfl) (K _ (fun _ _ hj e hc => ab_get_set1 hj e hc) (ab_get_set1_self _ _ _))
theorem r_astore {i : Nat} (hP : ab_prog[mi]? = some P) (hf : ab_fetch P.2 pc = some (.astore k, len, a, b)) (hk : k < P.1.2.2.2.1) (K : ∀ l' : ab_L, (∀ (j : Nat) (w : Value), j ≠ k → ab_get l j = some w → w.category = 1 ∨ j + 1 ≠ k → ab_get l' j = some w) → ab_get l' k = some (.ref i) → ab_Rn d mi (pc + 2) l' r h o h') : ab_Rn d mi pc l (.ref i :: r) h o h' := r_sto (l' := ab_set1 l k (.ref i)) (st' := r) hP hf rfl rfl (by simp only [ab_sto, ab_st1, ab_k, if_pos hk]; rfl) (K _ (fun _ _ hj e hc => ab_get_set1 hj e hc) (ab_get_set1_self _ _ _))
theorem r_astore_n {k4 : Fin 4} {i : Nat} (hP : ab_prog[mi]? = some P) (hf : ab_fetch P.2 pc = some (.astore_n k4, len, a, b)) (hk : (k4 : Nat) < P.1.2.2.2.1) (K : ∀ l' : ab_L, (∀ (j : Nat) (w : Value), j ≠ (k4 : Nat) → ab_get l j = some w → w.category = 1 ∨ j + 1 ≠ (k4 : Nat) → ab_get l' j = some w) → ab_get l' (k4 : Nat) = some (.ref i) → ab_Rn d mi (pc + 1) l' r h o h') : ab_Rn d mi pc l (.ref i :: r) h o h' := r_sto (l' := ab_set1 l (k4 : Nat) (.ref i)) (st' := r) hP hf rfl rfl (by simp only [ab_sto, ab_st1, ab_k, if_pos hk]; rfl) (K _ (fun _ _ hj e hc => ab_get_set1 hj e hc) (ab_get_set1_self _ _ _))
theorem r_iinc {c : Int} {v : Int32} (hP : ab_prog[mi]? = some P) (hf : ab_fetch P.2 pc = some (.iinc k c, len, a, b)) (e : ab_get l k = some (.int x)) (hk : k < P.1.2.2.2.1) (hv : x + Int32.ofInt c = v) (K : ∀ l' : ab_L, (∀ (j : Nat) (w : Value), j ≠ k → ab_get l j = some w → w.category = 1 ∨ j + 1 ≠ k → ab_get l' j = some w) → ab_get l' k = some (.int v) → ab_Rn d mi (pc + 3) l' st h o h') : ab_Rn d mi pc l st h o h' := r_sto (l' := ab_set1 l k (.int v)) (st' := st) hP hf rfl rfl (by simp only [ab_sto, e, if_pos hk, hv]) (K _ (fun _ _ hj e hc => ab_get_set1 hj e hc) (ab_get_set1_self _ _ _))
theorem r_ldcI {i : Nat} {v : Int32} (hP : ab_prog[mi]? = some P) (hf : ab_fetch P.2 pc = some (.ldc i, len, a, 0)) (hv : Int32.ofNat a = v) (K : ab_Rn d mi (pc + 2) l (.int v :: r) h o h') : ab_Rn d mi pc l r h o h' := r_nx (z := (pc + 2, l, .int v :: r, h)) hP hf (by subst hv; rfl) K
theorem r_ldcwI {i : Nat} {v : Int32} (hP : ab_prog[mi]? = some P) (hf : ab_fetch P.2 pc = some (.ldc_w i, len, a, 0)) (hv : Int32.ofNat a = v) (K : ab_Rn d mi (pc + 3) l (.int v :: r) h o h') : ab_Rn d mi pc l r h o h' := r_nx (z := (pc + 3, l, .int v :: r, h)) hP hf (by subst hv; rfl) K
theorem r_ldcL {i : Nat} {v : Int64} (hP : ab_prog[mi]? = some P) (hf : ab_fetch P.2 pc = some (.ldc2_w i, len, a, b)) (hv : Int64.ofNat a = v) (K : ab_Rn d mi (pc + 3) l (.long v :: r) h o h') : ab_Rn d mi pc l r h o h' := r_nx (z := (pc + 3, l, .long v :: r, h)) hP hf (by subst hv; rfl) K
theorem r_cs {idx : Nat} {v : Option Value} (hP : ab_prog[mi]? = some P) (hf : ab_fetch P.2 pc = some (.invokestatic idx, len, a, b)) (hna : ab_nat (.invokestatic idx) a h st = none) (ht : ab_thr mi pc st = false) (hP2 : ab_prog[a]? = some P2) (hlen : (st.take P2.1.2.2.2.2.2.1).length = P2.1.2.2.2.2.2.1) (hcat : ab_cat (st.drop P2.1.2.2.2.2.2.1) ≤ 8) (hl : (lg_sl (st.take P2.1.2.2.2.2.2.1).reverse).length ≤ P2.1.2.2.2.1)
    (hc : ab_Rn d a 0 (lv_args 0 (st.take P2.1.2.2.2.2.2.1).reverse) [] h (.inl v) h1) (K : ab_Rn (d + 1) mi (pc + 3) l (v.toList ++ st.drop P2.1.2.2.2.2.2.1) h1 o h') : ab_Rn (d + 1) mi pc l st h o h' := by
  refine r_call (z := ((st.take P2.1.2.2.2.2.2.1).reverse, st.drop P2.1.2.2.2.2.2.1)) hP hf ?_ rfl ht hP2 ?_ hl hc K
  · simp only [ab_nx, ab_op, ab_ld, ab_sto, ab_br, ab_hp, ab_con, ab_acmp, hna]
  · simp only [ab_inv]
    rw [if_pos ⟨hlen, hcat⟩]
end RL
end
section
/-! THE REFERENCE's OBJECT as a state: G its ints by their fields' numbers, B its arrays (but the three tables) by theirs. -/
def mm_f (G : Nat → Int32) : List Value := [.ref 23, .ref 24, .ref 25, .int (G 3), .ref 26, .int (G 5), .ref 27, .int (G 7), .int (G 8), .int (G 9), .int (G 10), .int (G 11), .int (G 12), .int (G 13), .int (G 14), .int (G 15), .int (G 16), .int (G 17), .int (G 18), .int (G 19), .int (G 20), .int (G 21), .int (G 22), .int (G 23), .int (G 24), .ref 28, .int (G 26), .ref 29, .ref 30, .ref 31, .ref 32, .ref 33, .int (G 32), .int (G 33), .int (G 34), .ref 34, .ref 35, .int (G 37), .int (G 38), .int (G 39), .int (G 40), .int (G 41), .ref 36, .ref 37, .ref 38, .ref 39, .ref 40, .int (G 47)]
def mm_F (G : Nat → Int32) (B : Nat → Nat → Int32) (F0 : Nat → ab_C) : Nat → ab_C := fun i => match i with
  | 22 => .inr (6, mm_f G)
  | 26 => .inl (0, 65536, .inl (B 4))
  | 27 => .inl (0, 65536, .inl (B 6))
  | 28 => .inl (0, 65536, .inl (B 25))
  | 29 => .inl (1, 17500, .inl (B 27))
  | 30 => .inl (1, 17500, .inl (B 28))
  | 31 => .inl (1, 17500, .inl (B 29))
  | 32 => .inl (1, 17500, .inl (B 30))
  | 33 => .inl (1, 17500, .inl (B 31))
  | 34 => .inl (1, 2, .inl (B 35))
  | 35 => .inl (0, 130840, .inl (B 36))
  | 36 => .inl (1, 160, .inl (B 42))
  | 37 => .inl (1, 160, .inl (B 43))
  | 38 => .inl (1, 160, .inl (B 44))
  | 39 => .inl (1, 160, .inl (B 45))
  | 40 => .inl (1, 160, .inl (B 46))
  | i => F0 i
def mm_bu (B : Nat → Nat → Int32) (k : Nat) (f : Nat → Int32) : Nat → Nat → Int32 := fun j => if j = k then f else B j
theorem mm_set3 (G : Nat → Int32) (v : Int32) : (mm_f G).set 3 (.int v) = mm_f (upd G 3 v) := rfl
theorem mm_set5 (G : Nat → Int32) (v : Int32) : (mm_f G).set 5 (.int v) = mm_f (upd G 5 v) := rfl
theorem mm_set7 (G : Nat → Int32) (v : Int32) : (mm_f G).set 7 (.int v) = mm_f (upd G 7 v) := rfl
theorem mm_set8 (G : Nat → Int32) (v : Int32) : (mm_f G).set 8 (.int v) = mm_f (upd G 8 v) := rfl
theorem mm_set9 (G : Nat → Int32) (v : Int32) : (mm_f G).set 9 (.int v) = mm_f (upd G 9 v) := rfl
theorem mm_set10 (G : Nat → Int32) (v : Int32) : (mm_f G).set 10 (.int v) = mm_f (upd G 10 v) := rfl
theorem mm_set11 (G : Nat → Int32) (v : Int32) : (mm_f G).set 11 (.int v) = mm_f (upd G 11 v) := rfl
theorem mm_set12 (G : Nat → Int32) (v : Int32) : (mm_f G).set 12 (.int v) = mm_f (upd G 12 v) := rfl
theorem mm_set13 (G : Nat → Int32) (v : Int32) : (mm_f G).set 13 (.int v) = mm_f (upd G 13 v) := rfl
theorem mm_set14 (G : Nat → Int32) (v : Int32) : (mm_f G).set 14 (.int v) = mm_f (upd G 14 v) := rfl
theorem mm_set15 (G : Nat → Int32) (v : Int32) : (mm_f G).set 15 (.int v) = mm_f (upd G 15 v) := rfl
theorem mm_set16 (G : Nat → Int32) (v : Int32) : (mm_f G).set 16 (.int v) = mm_f (upd G 16 v) := rfl
theorem mm_set17 (G : Nat → Int32) (v : Int32) : (mm_f G).set 17 (.int v) = mm_f (upd G 17 v) := rfl
theorem mm_set18 (G : Nat → Int32) (v : Int32) : (mm_f G).set 18 (.int v) = mm_f (upd G 18 v) := rfl
theorem mm_set19 (G : Nat → Int32) (v : Int32) : (mm_f G).set 19 (.int v) = mm_f (upd G 19 v) := rfl
theorem mm_set20 (G : Nat → Int32) (v : Int32) : (mm_f G).set 20 (.int v) = mm_f (upd G 20 v) := rfl
theorem mm_set21 (G : Nat → Int32) (v : Int32) : (mm_f G).set 21 (.int v) = mm_f (upd G 21 v) := rfl
theorem mm_set22 (G : Nat → Int32) (v : Int32) : (mm_f G).set 22 (.int v) = mm_f (upd G 22 v) := rfl
theorem mm_set23 (G : Nat → Int32) (v : Int32) : (mm_f G).set 23 (.int v) = mm_f (upd G 23 v) := rfl
theorem mm_set24 (G : Nat → Int32) (v : Int32) : (mm_f G).set 24 (.int v) = mm_f (upd G 24 v) := rfl
theorem mm_set26 (G : Nat → Int32) (v : Int32) : (mm_f G).set 26 (.int v) = mm_f (upd G 26 v) := rfl
theorem mm_set32 (G : Nat → Int32) (v : Int32) : (mm_f G).set 32 (.int v) = mm_f (upd G 32 v) := rfl
theorem mm_set33 (G : Nat → Int32) (v : Int32) : (mm_f G).set 33 (.int v) = mm_f (upd G 33 v) := rfl
theorem mm_set34 (G : Nat → Int32) (v : Int32) : (mm_f G).set 34 (.int v) = mm_f (upd G 34 v) := rfl
theorem mm_set37 (G : Nat → Int32) (v : Int32) : (mm_f G).set 37 (.int v) = mm_f (upd G 37 v) := rfl
theorem mm_set38 (G : Nat → Int32) (v : Int32) : (mm_f G).set 38 (.int v) = mm_f (upd G 38 v) := rfl
theorem mm_set39 (G : Nat → Int32) (v : Int32) : (mm_f G).set 39 (.int v) = mm_f (upd G 39 v) := rfl
theorem mm_set40 (G : Nat → Int32) (v : Int32) : (mm_f G).set 40 (.int v) = mm_f (upd G 40 v) := rfl
theorem mm_set41 (G : Nat → Int32) (v : Int32) : (mm_f G).set 41 (.int v) = mm_f (upd G 41 v) := rfl
theorem mm_set47 (G : Nat → Int32) (v : Int32) : (mm_f G).set 47 (.int v) = mm_f (upd G 47 v) := rfl
theorem mm_obj (G G2 : Nat → Int32) (B : Nat → Nat → Int32) (F0 : Nat → ab_C) : ab_fu (mm_F G B F0) 22 (.inr (6, mm_f G2)) = mm_F G2 B F0 := by
  funext i
  unfold ab_fu
  by_cases h : i = 22
  · subst h; rfl
  · rw [if_neg h]
    unfold mm_F
    split <;> first | rfl | (exact absurd rfl h)
theorem mm_arr4 (G : Nat → Int32) (B : Nat → Nat → Int32) (F0 : Nat → ab_C) (f : Nat → Int32) : ab_fu (mm_F G B F0) 26 (.inl (0, 65536, .inl f)) = mm_F G (mm_bu B 4 f) F0 := by
  funext i
  unfold ab_fu
  by_cases h : i = 26
  · subst h; rfl
  · rw [if_neg h]
    unfold mm_F
    split <;> first | rfl | (exact absurd rfl h)
theorem mm_arr6 (G : Nat → Int32) (B : Nat → Nat → Int32) (F0 : Nat → ab_C) (f : Nat → Int32) : ab_fu (mm_F G B F0) 27 (.inl (0, 65536, .inl f)) = mm_F G (mm_bu B 6 f) F0 := by
  funext i
  unfold ab_fu
  by_cases h : i = 27
  · subst h; rfl
  · rw [if_neg h]
    unfold mm_F
    split <;> first | rfl | (exact absurd rfl h)
theorem mm_arr25 (G : Nat → Int32) (B : Nat → Nat → Int32) (F0 : Nat → ab_C) (f : Nat → Int32) : ab_fu (mm_F G B F0) 28 (.inl (0, 65536, .inl f)) = mm_F G (mm_bu B 25 f) F0 := by
  funext i
  unfold ab_fu
  by_cases h : i = 28
  · subst h; rfl
  · rw [if_neg h]
    unfold mm_F
    split <;> first | rfl | (exact absurd rfl h)
theorem mm_arr27 (G : Nat → Int32) (B : Nat → Nat → Int32) (F0 : Nat → ab_C) (f : Nat → Int32) : ab_fu (mm_F G B F0) 29 (.inl (1, 17500, .inl f)) = mm_F G (mm_bu B 27 f) F0 := by
  funext i
  unfold ab_fu
  by_cases h : i = 29
  · subst h; rfl
  · rw [if_neg h]
    unfold mm_F
    split <;> first | rfl | (exact absurd rfl h)
theorem mm_arr28 (G : Nat → Int32) (B : Nat → Nat → Int32) (F0 : Nat → ab_C) (f : Nat → Int32) : ab_fu (mm_F G B F0) 30 (.inl (1, 17500, .inl f)) = mm_F G (mm_bu B 28 f) F0 := by
  funext i
  unfold ab_fu
  by_cases h : i = 30
  · subst h; rfl
  · rw [if_neg h]
    unfold mm_F
    split <;> first | rfl | (exact absurd rfl h)
theorem mm_arr29 (G : Nat → Int32) (B : Nat → Nat → Int32) (F0 : Nat → ab_C) (f : Nat → Int32) : ab_fu (mm_F G B F0) 31 (.inl (1, 17500, .inl f)) = mm_F G (mm_bu B 29 f) F0 := by
  funext i
  unfold ab_fu
  by_cases h : i = 31
  · subst h; rfl
  · rw [if_neg h]
    unfold mm_F
    split <;> first | rfl | (exact absurd rfl h)
theorem mm_arr30 (G : Nat → Int32) (B : Nat → Nat → Int32) (F0 : Nat → ab_C) (f : Nat → Int32) : ab_fu (mm_F G B F0) 32 (.inl (1, 17500, .inl f)) = mm_F G (mm_bu B 30 f) F0 := by
  funext i
  unfold ab_fu
  by_cases h : i = 32
  · subst h; rfl
  · rw [if_neg h]
    unfold mm_F
    split <;> first | rfl | (exact absurd rfl h)
theorem mm_arr31 (G : Nat → Int32) (B : Nat → Nat → Int32) (F0 : Nat → ab_C) (f : Nat → Int32) : ab_fu (mm_F G B F0) 33 (.inl (1, 17500, .inl f)) = mm_F G (mm_bu B 31 f) F0 := by
  funext i
  unfold ab_fu
  by_cases h : i = 33
  · subst h; rfl
  · rw [if_neg h]
    unfold mm_F
    split <;> first | rfl | (exact absurd rfl h)
theorem mm_arr35 (G : Nat → Int32) (B : Nat → Nat → Int32) (F0 : Nat → ab_C) (f : Nat → Int32) : ab_fu (mm_F G B F0) 34 (.inl (1, 2, .inl f)) = mm_F G (mm_bu B 35 f) F0 := by
  funext i
  unfold ab_fu
  by_cases h : i = 34
  · subst h; rfl
  · rw [if_neg h]
    unfold mm_F
    split <;> first | rfl | (exact absurd rfl h)
theorem mm_arr36 (G : Nat → Int32) (B : Nat → Nat → Int32) (F0 : Nat → ab_C) (f : Nat → Int32) : ab_fu (mm_F G B F0) 35 (.inl (0, 130840, .inl f)) = mm_F G (mm_bu B 36 f) F0 := by
  funext i
  unfold ab_fu
  by_cases h : i = 35
  · subst h; rfl
  · rw [if_neg h]
    unfold mm_F
    split <;> first | rfl | (exact absurd rfl h)
theorem mm_arr42 (G : Nat → Int32) (B : Nat → Nat → Int32) (F0 : Nat → ab_C) (f : Nat → Int32) : ab_fu (mm_F G B F0) 36 (.inl (1, 160, .inl f)) = mm_F G (mm_bu B 42 f) F0 := by
  funext i
  unfold ab_fu
  by_cases h : i = 36
  · subst h; rfl
  · rw [if_neg h]
    unfold mm_F
    split <;> first | rfl | (exact absurd rfl h)
theorem mm_arr43 (G : Nat → Int32) (B : Nat → Nat → Int32) (F0 : Nat → ab_C) (f : Nat → Int32) : ab_fu (mm_F G B F0) 37 (.inl (1, 160, .inl f)) = mm_F G (mm_bu B 43 f) F0 := by
  funext i
  unfold ab_fu
  by_cases h : i = 37
  · subst h; rfl
  · rw [if_neg h]
    unfold mm_F
    split <;> first | rfl | (exact absurd rfl h)
theorem mm_arr44 (G : Nat → Int32) (B : Nat → Nat → Int32) (F0 : Nat → ab_C) (f : Nat → Int32) : ab_fu (mm_F G B F0) 38 (.inl (1, 160, .inl f)) = mm_F G (mm_bu B 44 f) F0 := by
  funext i
  unfold ab_fu
  by_cases h : i = 38
  · subst h; rfl
  · rw [if_neg h]
    unfold mm_F
    split <;> first | rfl | (exact absurd rfl h)
theorem mm_arr45 (G : Nat → Int32) (B : Nat → Nat → Int32) (F0 : Nat → ab_C) (f : Nat → Int32) : ab_fu (mm_F G B F0) 39 (.inl (1, 160, .inl f)) = mm_F G (mm_bu B 45 f) F0 := by
  funext i
  unfold ab_fu
  by_cases h : i = 39
  · subst h; rfl
  · rw [if_neg h]
    unfold mm_F
    split <;> first | rfl | (exact absurd rfl h)
theorem mm_arr46 (G : Nat → Int32) (B : Nat → Nat → Int32) (F0 : Nat → ab_C) (f : Nat → Int32) : ab_fu (mm_F G B F0) 40 (.inl (1, 160, .inl f)) = mm_F G (mm_bu B 46 f) F0 := by
  funext i
  unfold ab_fu
  by_cases h : i = 40
  · subst h; rfl
  · rw [if_neg h]
    unfold mm_F
    split <;> first | rfl | (exact absurd rfl h)
end
section
theorem p119 : ab_prog[119]? = some (ab_m119, ab_c119) := rfl
theorem p118 : ab_prog[118]? = some (ab_m118, ab_c118) := rfl
def f119 (G : Nat → Int32) (B : Nat → Nat → Int32) (k : Int32) : Option Int32 := if G 17 ≤ G 18 + k then some 0 else if ib (G 18 + k) 65536 then some (B 4 (G 18 + k).toNatClampNeg &&& 255) else none
theorem t119 (d : Nat) {n : Nat} (hn : 42 ≤ n) (G : Nat → Int32) (B : Nat → Nat → Int32) (F0 : Nat → ab_C) (k v : Int32) (h : f119 G B k = some v) : ab_Rn d 119 0 [(0, .ref 22), (1, .int k)] [] (ab_hl n (mm_F G B F0)) (.inl (some (.int v))) (ab_hl n (mm_F G B F0)) := by
  unfold f119 at h
  refine r_nx p119 rfl rfl ?_
  refine r_getf p119 rfl (by omega) rfl (by decide) rfl ?_
  refine r_nx p119 rfl rfl ?_
  refine r_nx p119 rfl rfl ?_
  refine r_nx p119 rfl rfl ?_
  refine r_getf p119 rfl (by omega) rfl (by decide) rfl ?_
  refine r_ic_ge p119 rfl (fun c => ?_) (fun c => ?_)
  · rw [if_pos c] at h
    cases h
    refine r_nx p119 rfl rfl ?_
    exact r_ret p119 rfl rfl rfl
  · rw [if_neg c] at h
    by_cases c2 : ib (G 18 + k) 65536
    · rw [if_pos c2] at h
      cases h
      refine r_nx p119 rfl rfl ?_
      refine r_getf p119 rfl (by omega) rfl (by decide) rfl ?_
      refine r_nx p119 rfl rfl ?_
      refine r_getf p119 rfl (by omega) rfl (by decide) rfl ?_
      refine r_nx p119 rfl rfl ?_
      refine r_nx p119 rfl rfl ?_
      refine r_bald p119 rfl (by omega) rfl c2 ?_
      refine r_nx p119 rfl rfl ?_
      refine r_nx p119 rfl rfl ?_
      refine r_nx p119 rfl rfl ?_
      exact r_ret p119 rfl rfl rfl
    · rw [if_neg c2] at h
      cases h
end
section
theorem ab_dummy : True := trivial
theorem i_vc : Claimed_1_1 ∧ Claimed_1_2 := sorry
end
