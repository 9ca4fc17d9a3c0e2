-- ===== PART A: goes FIRST, ahead of the names: the tables' words, and 'selects' of the private methods out of them =====
/-- a private method of a class that the tables say can be made, by its rows of tables_1 -/
def lw_okq (q : MethodName × Nat) : Prop := (q.1.cls ≠ "java/lang/invoke/MethodHandle" ∧ q.1.cls ≠ "java/lang/invoke/VarHandle") ∧ Cond.instantiable q.1.cls q.2 ∈ tables_1 ∧ Cond.privateMethod q.1 ∈ tables_1 ∧ Cond.instanceMethod q.1 ∈ tables_1
theorem lw_p0 : lw_okq (⟨"EquationText$Reader", "begin", "(LEquationText$Row;)V"⟩, 13) := ⟨⟨by decide +kernel, by decide +kernel⟩, List.mem_of_getElem? (i := 32) (by decide +kernel), List.mem_of_getElem? (i := 307) (by decide +kernel), List.mem_of_getElem? (i := 308) (by decide +kernel)⟩
theorem lw_p1 : lw_okq (⟨"EquationText$Scanner", "skipBlanks", "()V"⟩, 5) := ⟨⟨by decide +kernel, by decide +kernel⟩, List.mem_of_getElem? (i := 38) (by decide +kernel), List.mem_of_getElem? (i := 331) (by decide +kernel), List.mem_of_getElem? (i := 332) (by decide +kernel)⟩
theorem lw_p2 : lw_okq (⟨"EquationText$Scanner", "scanName", "()V"⟩, 5) := ⟨⟨by decide +kernel, by decide +kernel⟩, List.mem_of_getElem? (i := 38) (by decide +kernel), List.mem_of_getElem? (i := 343) (by decide +kernel), List.mem_of_getElem? (i := 344) (by decide +kernel)⟩
theorem lw_p3 : lw_okq (⟨"EquationText$Scanner", "wordOrName", "()I"⟩, 5) := ⟨⟨by decide +kernel, by decide +kernel⟩, List.mem_of_getElem? (i := 38) (by decide +kernel), List.mem_of_getElem? (i := 350) (by decide +kernel), List.mem_of_getElem? (i := 351) (by decide +kernel)⟩
theorem lw_p4 : lw_okq (⟨"EquationText$Scanner", "is", "(Ljava/lang/String;)Z"⟩, 5) := ⟨⟨by decide +kernel, by decide +kernel⟩, List.mem_of_getElem? (i := 38) (by decide +kernel), List.mem_of_getElem? (i := 355) (by decide +kernel), List.mem_of_getElem? (i := 356) (by decide +kernel)⟩
theorem lw_p5 : lw_okq (⟨"EquationText$Scanner", "scanNumeral", "()V"⟩, 5) := ⟨⟨by decide +kernel, by decide +kernel⟩, List.mem_of_getElem? (i := 38) (by decide +kernel), List.mem_of_getElem? (i := 420) (by decide +kernel), List.mem_of_getElem? (i := 421) (by decide +kernel)⟩
theorem lw_p6 : lw_okq (⟨"EquationText$Scanner", "digitsEnd", "(I)I"⟩, 5) := ⟨⟨by decide +kernel, by decide +kernel⟩, List.mem_of_getElem? (i := 38) (by decide +kernel), List.mem_of_getElem? (i := 424) (by decide +kernel), List.mem_of_getElem? (i := 425) (by decide +kernel)⟩
theorem lw_p7 : lw_okq (⟨"EquationText$Scanner", "isFinite", "(II)Z"⟩, 5) := ⟨⟨by decide +kernel, by decide +kernel⟩, List.mem_of_getElem? (i := 38) (by decide +kernel), List.mem_of_getElem? (i := 428) (by decide +kernel), List.mem_of_getElem? (i := 429) (by decide +kernel)⟩
theorem lw_p8 : lw_okq (⟨"EquationText$Scanner", "exponent", "(II)I"⟩, 5) := ⟨⟨by decide +kernel, by decide +kernel⟩, List.mem_of_getElem? (i := 38) (by decide +kernel), List.mem_of_getElem? (i := 432) (by decide +kernel), List.mem_of_getElem? (i := 433) (by decide +kernel)⟩
theorem lw_p9 : lw_okq (⟨"EquationText$Scanner", "isBelowTooLarge", "(II)Z"⟩, 5) := ⟨⟨by decide +kernel, by decide +kernel⟩, List.mem_of_getElem? (i := 38) (by decide +kernel), List.mem_of_getElem? (i := 439) (by decide +kernel), List.mem_of_getElem? (i := 440) (by decide +kernel)⟩
theorem lw_p10 : lw_okq (⟨"EquationText$Scanner", "scanText", "()V"⟩, 5) := ⟨⟨by decide +kernel, by decide +kernel⟩, List.mem_of_getElem? (i := 38) (by decide +kernel), List.mem_of_getElem? (i := 443) (by decide +kernel), List.mem_of_getElem? (i := 444) (by decide +kernel)⟩
theorem lw_p11 : lw_okq (⟨"EquationText$Reader", "settle", "()V"⟩, 13) := ⟨⟨by decide +kernel, by decide +kernel⟩, List.mem_of_getElem? (i := 32) (by decide +kernel), List.mem_of_getElem? (i := 472) (by decide +kernel), List.mem_of_getElem? (i := 473) (by decide +kernel)⟩
theorem lw_p12 : lw_okq (⟨"EquationText$Reader", "push", "(I)V"⟩, 13) := ⟨⟨by decide +kernel, by decide +kernel⟩, List.mem_of_getElem? (i := 32) (by decide +kernel), List.mem_of_getElem? (i := 479) (by decide +kernel), List.mem_of_getElem? (i := 480) (by decide +kernel)⟩
theorem lw_p13 : lw_okq (⟨"EquationText$Reader", "settleStart", "()V"⟩, 13) := ⟨⟨by decide +kernel, by decide +kernel⟩, List.mem_of_getElem? (i := 32) (by decide +kernel), List.mem_of_getElem? (i := 495) (by decide +kernel), List.mem_of_getElem? (i := 496) (by decide +kernel)⟩
theorem lw_p14 : lw_okq (⟨"EquationText$Reader", "endItem", "()Z"⟩, 13) := ⟨⟨by decide +kernel, by decide +kernel⟩, List.mem_of_getElem? (i := 32) (by decide +kernel), List.mem_of_getElem? (i := 499) (by decide +kernel), List.mem_of_getElem? (i := 500) (by decide +kernel)⟩
theorem lw_p15 : lw_okq (⟨"EquationText$Reader", "becomeTargets", "(I)Z"⟩, 13) := ⟨⟨by decide +kernel, by decide +kernel⟩, List.mem_of_getElem? (i := 32) (by decide +kernel), List.mem_of_getElem? (i := 515) (by decide +kernel), List.mem_of_getElem? (i := 516) (by decide +kernel)⟩
def lw_privs_1 : List (MethodName × Nat) := [(⟨"EquationText$Reader", "begin", "(LEquationText$Row;)V"⟩, 13), (⟨"EquationText$Scanner", "skipBlanks", "()V"⟩, 5), (⟨"EquationText$Scanner", "scanName", "()V"⟩, 5), (⟨"EquationText$Scanner", "wordOrName", "()I"⟩, 5), (⟨"EquationText$Scanner", "is", "(Ljava/lang/String;)Z"⟩, 5), (⟨"EquationText$Scanner", "scanNumeral", "()V"⟩, 5), (⟨"EquationText$Scanner", "digitsEnd", "(I)I"⟩, 5), (⟨"EquationText$Scanner", "isFinite", "(II)Z"⟩, 5), (⟨"EquationText$Scanner", "exponent", "(II)I"⟩, 5), (⟨"EquationText$Scanner", "isBelowTooLarge", "(II)Z"⟩, 5), (⟨"EquationText$Scanner", "scanText", "()V"⟩, 5), (⟨"EquationText$Reader", "settle", "()V"⟩, 13), (⟨"EquationText$Reader", "push", "(I)V"⟩, 13), (⟨"EquationText$Reader", "settleStart", "()V"⟩, 13), (⟨"EquationText$Reader", "endItem", "()Z"⟩, 13), (⟨"EquationText$Reader", "becomeTargets", "(I)Z"⟩, 13)]
theorem lw_r1 : ∀ q ∈ lw_privs_1, lw_okq q := List.forall_mem_cons.mpr ⟨lw_p0, List.forall_mem_cons.mpr ⟨lw_p1, List.forall_mem_cons.mpr ⟨lw_p2, List.forall_mem_cons.mpr ⟨lw_p3, List.forall_mem_cons.mpr ⟨lw_p4, List.forall_mem_cons.mpr ⟨lw_p5, List.forall_mem_cons.mpr ⟨lw_p6, List.forall_mem_cons.mpr ⟨lw_p7, List.forall_mem_cons.mpr ⟨lw_p8, List.forall_mem_cons.mpr ⟨lw_p9, List.forall_mem_cons.mpr ⟨lw_p10, List.forall_mem_cons.mpr ⟨lw_p11, List.forall_mem_cons.mpr ⟨lw_p12, List.forall_mem_cons.mpr ⟨lw_p13, List.forall_mem_cons.mpr ⟨lw_p14, List.forall_mem_cons.mpr ⟨lw_p15, fun _ h => absurd h List.not_mem_nil⟩⟩⟩⟩⟩⟩⟩⟩⟩⟩⟩⟩⟩⟩⟩⟩
theorem lw_p16 : lw_okq (⟨"EquationText$Reader", "pop", "()V"⟩, 13) := ⟨⟨by decide +kernel, by decide +kernel⟩, List.mem_of_getElem? (i := 32) (by decide +kernel), List.mem_of_getElem? (i := 519) (by decide +kernel), List.mem_of_getElem? (i := 520) (by decide +kernel)⟩
theorem lw_p17 : lw_okq (⟨"EquationText$Reader", "addNothing", "(I)Z"⟩, 13) := ⟨⟨by decide +kernel, by decide +kernel⟩, List.mem_of_getElem? (i := 32) (by decide +kernel), List.mem_of_getElem? (i := 523) (by decide +kernel), List.mem_of_getElem? (i := 524) (by decide +kernel)⟩
theorem lw_p18 : lw_okq (⟨"EquationText$Reader", "goOn", "(I)Z"⟩, 13) := ⟨⟨by decide +kernel, by decide +kernel⟩, List.mem_of_getElem? (i := 32) (by decide +kernel), List.mem_of_getElem? (i := 527) (by decide +kernel), List.mem_of_getElem? (i := 528) (by decide +kernel)⟩
theorem lw_p19 : lw_okq (⟨"EquationText$Reader", "standsInExpression", "()Z"⟩, 13) := ⟨⟨by decide +kernel, by decide +kernel⟩, List.mem_of_getElem? (i := 32) (by decide +kernel), List.mem_of_getElem? (i := 531) (by decide +kernel), List.mem_of_getElem? (i := 532) (by decide +kernel)⟩
theorem lw_p20 : lw_okq (⟨"EquationText$Reader", "takeAtStart", "()Z"⟩, 13) := ⟨⟨by decide +kernel, by decide +kernel⟩, List.mem_of_getElem? (i := 32) (by decide +kernel), List.mem_of_getElem? (i := 535) (by decide +kernel), List.mem_of_getElem? (i := 536) (by decide +kernel)⟩
theorem lw_p21 : lw_okq (⟨"EquationText$Reader", "closeCall", "()Z"⟩, 13) := ⟨⟨by decide +kernel, by decide +kernel⟩, List.mem_of_getElem? (i := 32) (by decide +kernel), List.mem_of_getElem? (i := 542) (by decide +kernel), List.mem_of_getElem? (i := 543) (by decide +kernel)⟩
theorem lw_p22 : lw_okq (⟨"EquationText$Reader", "closeItem", "()Z"⟩, 13) := ⟨⟨by decide +kernel, by decide +kernel⟩, List.mem_of_getElem? (i := 32) (by decide +kernel), List.mem_of_getElem? (i := 546) (by decide +kernel), List.mem_of_getElem? (i := 547) (by decide +kernel)⟩
theorem lw_p23 : lw_okq (⟨"EquationText$Reader", "closeRows", "()Z"⟩, 13) := ⟨⟨by decide +kernel, by decide +kernel⟩, List.mem_of_getElem? (i := 32) (by decide +kernel), List.mem_of_getElem? (i := 550) (by decide +kernel), List.mem_of_getElem? (i := 551) (by decide +kernel)⟩
theorem lw_p24 : lw_okq (⟨"EquationText$Reader", "addAll", "()Z"⟩, 13) := ⟨⟨by decide +kernel, by decide +kernel⟩, List.mem_of_getElem? (i := 32) (by decide +kernel), List.mem_of_getElem? (i := 554) (by decide +kernel), List.mem_of_getElem? (i := 555) (by decide +kernel)⟩
theorem lw_p25 : lw_okq (⟨"EquationText$Reader", "takeSign", "()Z"⟩, 13) := ⟨⟨by decide +kernel, by decide +kernel⟩, List.mem_of_getElem? (i := 32) (by decide +kernel), List.mem_of_getElem? (i := 563) (by decide +kernel), List.mem_of_getElem? (i := 564) (by decide +kernel)⟩
theorem lw_p26 : lw_okq (⟨"EquationText$Reader", "goDeeper", "()Z"⟩, 13) := ⟨⟨by decide +kernel, by decide +kernel⟩, List.mem_of_getElem? (i := 32) (by decide +kernel), List.mem_of_getElem? (i := 567) (by decide +kernel), List.mem_of_getElem? (i := 568) (by decide +kernel)⟩
theorem lw_p27 : lw_okq (⟨"EquationText$Reader", "takeOperand", "()Z"⟩, 13) := ⟨⟨by decide +kernel, by decide +kernel⟩, List.mem_of_getElem? (i := 32) (by decide +kernel), List.mem_of_getElem? (i := 576) (by decide +kernel), List.mem_of_getElem? (i := 577) (by decide +kernel)⟩
theorem lw_p28 : lw_okq (⟨"EquationText$Reader", "addItem", "(I)Z"⟩, 13) := ⟨⟨by decide +kernel, by decide +kernel⟩, List.mem_of_getElem? (i := 32) (by decide +kernel), List.mem_of_getElem? (i := 580) (by decide +kernel), List.mem_of_getElem? (i := 581) (by decide +kernel)⟩
theorem lw_p29 : lw_okq (⟨"EquationText$Reader", "addName", "(I)Z"⟩, 13) := ⟨⟨by decide +kernel, by decide +kernel⟩, List.mem_of_getElem? (i := 32) (by decide +kernel), List.mem_of_getElem? (i := 584) (by decide +kernel), List.mem_of_getElem? (i := 585) (by decide +kernel)⟩
theorem lw_p30 : lw_okq (⟨"EquationText$Reader", "limitNearestCall", "()Z"⟩, 13) := ⟨⟨by decide +kernel, by decide +kernel⟩, List.mem_of_getElem? (i := 32) (by decide +kernel), List.mem_of_getElem? (i := 588) (by decide +kernel), List.mem_of_getElem? (i := 589) (by decide +kernel)⟩
theorem lw_p31 : lw_okq (⟨"EquationText$Reader", "openItem", "(I)Z"⟩, 13) := ⟨⟨by decide +kernel, by decide +kernel⟩, List.mem_of_getElem? (i := 32) (by decide +kernel), List.mem_of_getElem? (i := 592) (by decide +kernel), List.mem_of_getElem? (i := 593) (by decide +kernel)⟩
def lw_privs_2 : List (MethodName × Nat) := [(⟨"EquationText$Reader", "pop", "()V"⟩, 13), (⟨"EquationText$Reader", "addNothing", "(I)Z"⟩, 13), (⟨"EquationText$Reader", "goOn", "(I)Z"⟩, 13), (⟨"EquationText$Reader", "standsInExpression", "()Z"⟩, 13), (⟨"EquationText$Reader", "takeAtStart", "()Z"⟩, 13), (⟨"EquationText$Reader", "closeCall", "()Z"⟩, 13), (⟨"EquationText$Reader", "closeItem", "()Z"⟩, 13), (⟨"EquationText$Reader", "closeRows", "()Z"⟩, 13), (⟨"EquationText$Reader", "addAll", "()Z"⟩, 13), (⟨"EquationText$Reader", "takeSign", "()Z"⟩, 13), (⟨"EquationText$Reader", "goDeeper", "()Z"⟩, 13), (⟨"EquationText$Reader", "takeOperand", "()Z"⟩, 13), (⟨"EquationText$Reader", "addItem", "(I)Z"⟩, 13), (⟨"EquationText$Reader", "addName", "(I)Z"⟩, 13), (⟨"EquationText$Reader", "limitNearestCall", "()Z"⟩, 13), (⟨"EquationText$Reader", "openItem", "(I)Z"⟩, 13)]
theorem lw_r2 : ∀ q ∈ lw_privs_2, lw_okq q := List.forall_mem_cons.mpr ⟨lw_p16, List.forall_mem_cons.mpr ⟨lw_p17, List.forall_mem_cons.mpr ⟨lw_p18, List.forall_mem_cons.mpr ⟨lw_p19, List.forall_mem_cons.mpr ⟨lw_p20, List.forall_mem_cons.mpr ⟨lw_p21, List.forall_mem_cons.mpr ⟨lw_p22, List.forall_mem_cons.mpr ⟨lw_p23, List.forall_mem_cons.mpr ⟨lw_p24, List.forall_mem_cons.mpr ⟨lw_p25, List.forall_mem_cons.mpr ⟨lw_p26, List.forall_mem_cons.mpr ⟨lw_p27, List.forall_mem_cons.mpr ⟨lw_p28, List.forall_mem_cons.mpr ⟨lw_p29, List.forall_mem_cons.mpr ⟨lw_p30, List.forall_mem_cons.mpr ⟨lw_p31, fun _ h => absurd h List.not_mem_nil⟩⟩⟩⟩⟩⟩⟩⟩⟩⟩⟩⟩⟩⟩⟩⟩
theorem lw_p32 : lw_okq (⟨"EquationText$Reader", "takePowerSign", "()Z"⟩, 13) := ⟨⟨by decide +kernel, by decide +kernel⟩, List.mem_of_getElem? (i := 32) (by decide +kernel), List.mem_of_getElem? (i := 596) (by decide +kernel), List.mem_of_getElem? (i := 597) (by decide +kernel)⟩
theorem lw_p33 : lw_okq (⟨"EquationText$Reader", "takeOperator", "()Z"⟩, 13) := ⟨⟨by decide +kernel, by decide +kernel⟩, List.mem_of_getElem? (i := 32) (by decide +kernel), List.mem_of_getElem? (i := 600) (by decide +kernel), List.mem_of_getElem? (i := 601) (by decide +kernel)⟩
theorem lw_p34 : lw_okq (⟨"EquationText$Reader", "endWaiting", "(I)V"⟩, 13) := ⟨⟨by decide +kernel, by decide +kernel⟩, List.mem_of_getElem? (i := 32) (by decide +kernel), List.mem_of_getElem? (i := 607) (by decide +kernel), List.mem_of_getElem? (i := 608) (by decide +kernel)⟩
theorem lw_p35 : lw_okq (⟨"EquationText$Reader", "takeComma", "()Z"⟩, 13) := ⟨⟨by decide +kernel, by decide +kernel⟩, List.mem_of_getElem? (i := 32) (by decide +kernel), List.mem_of_getElem? (i := 611) (by decide +kernel), List.mem_of_getElem? (i := 612) (by decide +kernel)⟩
theorem lw_p36 : lw_okq (⟨"EquationText$Reader", "hasRoomForName", "()Z"⟩, 13) := ⟨⟨by decide +kernel, by decide +kernel⟩, List.mem_of_getElem? (i := 32) (by decide +kernel), List.mem_of_getElem? (i := 615) (by decide +kernel), List.mem_of_getElem? (i := 616) (by decide +kernel)⟩
theorem lw_p37 : lw_okq (⟨"EquationText$Reader", "takeSemicolon", "()Z"⟩, 13) := ⟨⟨by decide +kernel, by decide +kernel⟩, List.mem_of_getElem? (i := 32) (by decide +kernel), List.mem_of_getElem? (i := 619) (by decide +kernel), List.mem_of_getElem? (i := 620) (by decide +kernel)⟩
theorem lw_p38 : lw_okq (⟨"EquationText$Reader", "endRow", "()Z"⟩, 13) := ⟨⟨by decide +kernel, by decide +kernel⟩, List.mem_of_getElem? (i := 32) (by decide +kernel), List.mem_of_getElem? (i := 623) (by decide +kernel), List.mem_of_getElem? (i := 624) (by decide +kernel)⟩
theorem lw_p39 : lw_okq (⟨"EquationText$Reader", "endPlain", "(I)Z"⟩, 13) := ⟨⟨by decide +kernel, by decide +kernel⟩, List.mem_of_getElem? (i := 32) (by decide +kernel), List.mem_of_getElem? (i := 627) (by decide +kernel), List.mem_of_getElem? (i := 628) (by decide +kernel)⟩
theorem lw_p40 : lw_okq (⟨"EquationText$Reader", "endStatement", "()Z"⟩, 13) := ⟨⟨by decide +kernel, by decide +kernel⟩, List.mem_of_getElem? (i := 32) (by decide +kernel), List.mem_of_getElem? (i := 631) (by decide +kernel), List.mem_of_getElem? (i := 632) (by decide +kernel)⟩
theorem lw_p41 : lw_okq (⟨"EquationText$Reader", "closeBracket", "()Z"⟩, 13) := ⟨⟨by decide +kernel, by decide +kernel⟩, List.mem_of_getElem? (i := 32) (by decide +kernel), List.mem_of_getElem? (i := 635) (by decide +kernel), List.mem_of_getElem? (i := 636) (by decide +kernel)⟩
theorem lw_p42 : lw_okq (⟨"EquationText$Reader", "endHead", "()Z"⟩, 13) := ⟨⟨by decide +kernel, by decide +kernel⟩, List.mem_of_getElem? (i := 32) (by decide +kernel), List.mem_of_getElem? (i := 639) (by decide +kernel), List.mem_of_getElem? (i := 640) (by decide +kernel)⟩
theorem lw_p43 : lw_okq (⟨"EquationText$Reader", "beginBlock", "()V"⟩, 13) := ⟨⟨by decide +kernel, by decide +kernel⟩, List.mem_of_getElem? (i := 32) (by decide +kernel), List.mem_of_getElem? (i := 643) (by decide +kernel), List.mem_of_getElem? (i := 644) (by decide +kernel)⟩
theorem lw_p44 : lw_okq (⟨"EquationText$Reader", "takeEquals", "()Z"⟩, 13) := ⟨⟨by decide +kernel, by decide +kernel⟩, List.mem_of_getElem? (i := 32) (by decide +kernel), List.mem_of_getElem? (i := 647) (by decide +kernel), List.mem_of_getElem? (i := 648) (by decide +kernel)⟩
theorem lw_p45 : lw_okq (⟨"EquationText$Reader", "takeColon", "()Z"⟩, 13) := ⟨⟨by decide +kernel, by decide +kernel⟩, List.mem_of_getElem? (i := 32) (by decide +kernel), List.mem_of_getElem? (i := 655) (by decide +kernel), List.mem_of_getElem? (i := 656) (by decide +kernel)⟩
theorem lw_p46 : lw_okq (⟨"EquationText$Reader", "takeOperation", "(I)Z"⟩, 13) := ⟨⟨by decide +kernel, by decide +kernel⟩, List.mem_of_getElem? (i := 32) (by decide +kernel), List.mem_of_getElem? (i := 659) (by decide +kernel), List.mem_of_getElem? (i := 660) (by decide +kernel)⟩
theorem lw_p47 : lw_okq (⟨"EquationText$Reader", "openArguments", "()Z"⟩, 13) := ⟨⟨by decide +kernel, by decide +kernel⟩, List.mem_of_getElem? (i := 32) (by decide +kernel), List.mem_of_getElem? (i := 667) (by decide +kernel), List.mem_of_getElem? (i := 668) (by decide +kernel)⟩
def lw_privs_3 : List (MethodName × Nat) := [(⟨"EquationText$Reader", "takePowerSign", "()Z"⟩, 13), (⟨"EquationText$Reader", "takeOperator", "()Z"⟩, 13), (⟨"EquationText$Reader", "endWaiting", "(I)V"⟩, 13), (⟨"EquationText$Reader", "takeComma", "()Z"⟩, 13), (⟨"EquationText$Reader", "hasRoomForName", "()Z"⟩, 13), (⟨"EquationText$Reader", "takeSemicolon", "()Z"⟩, 13), (⟨"EquationText$Reader", "endRow", "()Z"⟩, 13), (⟨"EquationText$Reader", "endPlain", "(I)Z"⟩, 13), (⟨"EquationText$Reader", "endStatement", "()Z"⟩, 13), (⟨"EquationText$Reader", "closeBracket", "()Z"⟩, 13), (⟨"EquationText$Reader", "endHead", "()Z"⟩, 13), (⟨"EquationText$Reader", "beginBlock", "()V"⟩, 13), (⟨"EquationText$Reader", "takeEquals", "()Z"⟩, 13), (⟨"EquationText$Reader", "takeColon", "()Z"⟩, 13), (⟨"EquationText$Reader", "takeOperation", "(I)Z"⟩, 13), (⟨"EquationText$Reader", "openArguments", "()Z"⟩, 13)]
theorem lw_r3 : ∀ q ∈ lw_privs_3, lw_okq q := List.forall_mem_cons.mpr ⟨lw_p32, List.forall_mem_cons.mpr ⟨lw_p33, List.forall_mem_cons.mpr ⟨lw_p34, List.forall_mem_cons.mpr ⟨lw_p35, List.forall_mem_cons.mpr ⟨lw_p36, List.forall_mem_cons.mpr ⟨lw_p37, List.forall_mem_cons.mpr ⟨lw_p38, List.forall_mem_cons.mpr ⟨lw_p39, List.forall_mem_cons.mpr ⟨lw_p40, List.forall_mem_cons.mpr ⟨lw_p41, List.forall_mem_cons.mpr ⟨lw_p42, List.forall_mem_cons.mpr ⟨lw_p43, List.forall_mem_cons.mpr ⟨lw_p44, List.forall_mem_cons.mpr ⟨lw_p45, List.forall_mem_cons.mpr ⟨lw_p46, List.forall_mem_cons.mpr ⟨lw_p47, fun _ h => absurd h List.not_mem_nil⟩⟩⟩⟩⟩⟩⟩⟩⟩⟩⟩⟩⟩⟩⟩⟩
theorem lw_p48 : lw_okq (⟨"EquationText$Reader", "openCall", "()Z"⟩, 13) := ⟨⟨by decide +kernel, by decide +kernel⟩, List.mem_of_getElem? (i := 32) (by decide +kernel), List.mem_of_getElem? (i := 675) (by decide +kernel), List.mem_of_getElem? (i := 676) (by decide +kernel)⟩
theorem lw_p49 : lw_okq (⟨"EquationText$Reader", "turnRowsToTargets", "()Z"⟩, 13) := ⟨⟨by decide +kernel, by decide +kernel⟩, List.mem_of_getElem? (i := 32) (by decide +kernel), List.mem_of_getElem? (i := 679) (by decide +kernel), List.mem_of_getElem? (i := 680) (by decide +kernel)⟩
theorem lw_p50 : lw_okq (⟨"EquationText$Reader", "takeSeveralEquals", "()Z"⟩, 13) := ⟨⟨by decide +kernel, by decide +kernel⟩, List.mem_of_getElem? (i := 32) (by decide +kernel), List.mem_of_getElem? (i := 683) (by decide +kernel), List.mem_of_getElem? (i := 684) (by decide +kernel)⟩
theorem lw_p51 : lw_okq (⟨"EquationText$Reader", "standsInSeveral", "()Z"⟩, 13) := ⟨⟨by decide +kernel, by decide +kernel⟩, List.mem_of_getElem? (i := 32) (by decide +kernel), List.mem_of_getElem? (i := 687) (by decide +kernel), List.mem_of_getElem? (i := 688) (by decide +kernel)⟩
theorem lw_p52 : lw_okq (⟨"EquationText$Reader", "addTarget", "()Z"⟩, 13) := ⟨⟨by decide +kernel, by decide +kernel⟩, List.mem_of_getElem? (i := 32) (by decide +kernel), List.mem_of_getElem? (i := 691) (by decide +kernel), List.mem_of_getElem? (i := 692) (by decide +kernel)⟩
theorem lw_p53 : lw_okq (⟨"EquationText$Reader", "endTargets", "()Z"⟩, 13) := ⟨⟨by decide +kernel, by decide +kernel⟩, List.mem_of_getElem? (i := 32) (by decide +kernel), List.mem_of_getElem? (i := 695) (by decide +kernel), List.mem_of_getElem? (i := 696) (by decide +kernel)⟩
theorem lw_p54 : lw_okq (⟨"EquationText$Reader", "beginCall", "()Z"⟩, 13) := ⟨⟨by decide +kernel, by decide +kernel⟩, List.mem_of_getElem? (i := 32) (by decide +kernel), List.mem_of_getElem? (i := 699) (by decide +kernel), List.mem_of_getElem? (i := 700) (by decide +kernel)⟩
theorem lw_p55 : lw_okq (⟨"EquationText$Reader", "endSeveral", "()Z"⟩, 13) := ⟨⟨by decide +kernel, by decide +kernel⟩, List.mem_of_getElem? (i := 32) (by decide +kernel), List.mem_of_getElem? (i := 703) (by decide +kernel), List.mem_of_getElem? (i := 704) (by decide +kernel)⟩
theorem lw_p56 : lw_okq (⟨"EquationText$Reader", "standsInFunctionHead", "()Z"⟩, 13) := ⟨⟨by decide +kernel, by decide +kernel⟩, List.mem_of_getElem? (i := 32) (by decide +kernel), List.mem_of_getElem? (i := 707) (by decide +kernel), List.mem_of_getElem? (i := 708) (by decide +kernel)⟩
theorem lw_p57 : lw_okq (⟨"EquationText$Reader", "keepName", "(I)Z"⟩, 13) := ⟨⟨by decide +kernel, by decide +kernel⟩, List.mem_of_getElem? (i := 32) (by decide +kernel), List.mem_of_getElem? (i := 711) (by decide +kernel), List.mem_of_getElem? (i := 712) (by decide +kernel)⟩
theorem lw_p58 : lw_okq (⟨"EquationText$Reader", "takeFirstAsResult", "()Z"⟩, 13) := ⟨⟨by decide +kernel, by decide +kernel⟩, List.mem_of_getElem? (i := 32) (by decide +kernel), List.mem_of_getElem? (i := 715) (by decide +kernel), List.mem_of_getElem? (i := 716) (by decide +kernel)⟩
theorem lw_p59 : lw_okq (⟨"EquationText$Reader", "takeFirstAsName", "()Z"⟩, 13) := ⟨⟨by decide +kernel, by decide +kernel⟩, List.mem_of_getElem? (i := 32) (by decide +kernel), List.mem_of_getElem? (i := 719) (by decide +kernel), List.mem_of_getElem? (i := 720) (by decide +kernel)⟩
theorem lw_p60 : lw_okq (⟨"EquationText$Reader", "nameFunction", "()Z"⟩, 13) := ⟨⟨by decide +kernel, by decide +kernel⟩, List.mem_of_getElem? (i := 32) (by decide +kernel), List.mem_of_getElem? (i := 723) (by decide +kernel), List.mem_of_getElem? (i := 724) (by decide +kernel)⟩
theorem lw_p61 : lw_okq (⟨"EquationText$Reader", "endNames", "(I)V"⟩, 13) := ⟨⟨by decide +kernel, by decide +kernel⟩, List.mem_of_getElem? (i := 32) (by decide +kernel), List.mem_of_getElem? (i := 733) (by decide +kernel), List.mem_of_getElem? (i := 734) (by decide +kernel)⟩
theorem lw_p62 : lw_okq (⟨"EquationText$Reader", "openParameters", "()Z"⟩, 13) := ⟨⟨by decide +kernel, by decide +kernel⟩, List.mem_of_getElem? (i := 32) (by decide +kernel), List.mem_of_getElem? (i := 737) (by decide +kernel), List.mem_of_getElem? (i := 738) (by decide +kernel)⟩
theorem lw_p63 : lw_okq (⟨"EquationText$Reader", "addDifferentName", "(I)Z"⟩, 13) := ⟨⟨by decide +kernel, by decide +kernel⟩, List.mem_of_getElem? (i := 32) (by decide +kernel), List.mem_of_getElem? (i := 741) (by decide +kernel), List.mem_of_getElem? (i := 742) (by decide +kernel)⟩
def lw_privs_4 : List (MethodName × Nat) := [(⟨"EquationText$Reader", "openCall", "()Z"⟩, 13), (⟨"EquationText$Reader", "turnRowsToTargets", "()Z"⟩, 13), (⟨"EquationText$Reader", "takeSeveralEquals", "()Z"⟩, 13), (⟨"EquationText$Reader", "standsInSeveral", "()Z"⟩, 13), (⟨"EquationText$Reader", "addTarget", "()Z"⟩, 13), (⟨"EquationText$Reader", "endTargets", "()Z"⟩, 13), (⟨"EquationText$Reader", "beginCall", "()Z"⟩, 13), (⟨"EquationText$Reader", "endSeveral", "()Z"⟩, 13), (⟨"EquationText$Reader", "standsInFunctionHead", "()Z"⟩, 13), (⟨"EquationText$Reader", "keepName", "(I)Z"⟩, 13), (⟨"EquationText$Reader", "takeFirstAsResult", "()Z"⟩, 13), (⟨"EquationText$Reader", "takeFirstAsName", "()Z"⟩, 13), (⟨"EquationText$Reader", "nameFunction", "()Z"⟩, 13), (⟨"EquationText$Reader", "endNames", "(I)V"⟩, 13), (⟨"EquationText$Reader", "openParameters", "()Z"⟩, 13), (⟨"EquationText$Reader", "addDifferentName", "(I)Z"⟩, 13)]
theorem lw_r4 : ∀ q ∈ lw_privs_4, lw_okq q := List.forall_mem_cons.mpr ⟨lw_p48, List.forall_mem_cons.mpr ⟨lw_p49, List.forall_mem_cons.mpr ⟨lw_p50, List.forall_mem_cons.mpr ⟨lw_p51, List.forall_mem_cons.mpr ⟨lw_p52, List.forall_mem_cons.mpr ⟨lw_p53, List.forall_mem_cons.mpr ⟨lw_p54, List.forall_mem_cons.mpr ⟨lw_p55, List.forall_mem_cons.mpr ⟨lw_p56, List.forall_mem_cons.mpr ⟨lw_p57, List.forall_mem_cons.mpr ⟨lw_p58, List.forall_mem_cons.mpr ⟨lw_p59, List.forall_mem_cons.mpr ⟨lw_p60, List.forall_mem_cons.mpr ⟨lw_p61, List.forall_mem_cons.mpr ⟨lw_p62, List.forall_mem_cons.mpr ⟨lw_p63, fun _ h => absurd h List.not_mem_nil⟩⟩⟩⟩⟩⟩⟩⟩⟩⟩⟩⟩⟩⟩⟩⟩
theorem lw_p64 : lw_okq (⟨"EquationText$Reader", "endParameters", "()Z"⟩, 13) := ⟨⟨by decide +kernel, by decide +kernel⟩, List.mem_of_getElem? (i := 32) (by decide +kernel), List.mem_of_getElem? (i := 750) (by decide +kernel), List.mem_of_getElem? (i := 751) (by decide +kernel)⟩
theorem lw_p65 : lw_okq (⟨"EquationText$Reader", "standsInStatement", "()Z"⟩, 13) := ⟨⟨by decide +kernel, by decide +kernel⟩, List.mem_of_getElem? (i := 32) (by decide +kernel), List.mem_of_getElem? (i := 754) (by decide +kernel), List.mem_of_getElem? (i := 755) (by decide +kernel)⟩
theorem lw_p66 : lw_okq (⟨"EquationText$Reader", "beginStatement", "()Z"⟩, 13) := ⟨⟨by decide +kernel, by decide +kernel⟩, List.mem_of_getElem? (i := 32) (by decide +kernel), List.mem_of_getElem? (i := 758) (by decide +kernel), List.mem_of_getElem? (i := 759) (by decide +kernel)⟩
theorem lw_p67 : lw_okq (⟨"EquationText$Reader", "openBlocks", "(II)Z"⟩, 13) := ⟨⟨by decide +kernel, by decide +kernel⟩, List.mem_of_getElem? (i := 32) (by decide +kernel), List.mem_of_getElem? (i := 762) (by decide +kernel), List.mem_of_getElem? (i := 763) (by decide +kernel)⟩
theorem lw_p68 : lw_okq (⟨"EquationText$Reader", "nextBlock", "(IZI)Z"⟩, 13) := ⟨⟨by decide +kernel, by decide +kernel⟩, List.mem_of_getElem? (i := 32) (by decide +kernel), List.mem_of_getElem? (i := 769) (by decide +kernel), List.mem_of_getElem? (i := 770) (by decide +kernel)⟩
theorem lw_p69 : lw_okq (⟨"EquationText$Reader", "endBlock", "()V"⟩, 13) := ⟨⟨by decide +kernel, by decide +kernel⟩, List.mem_of_getElem? (i := 32) (by decide +kernel), List.mem_of_getElem? (i := 773) (by decide +kernel), List.mem_of_getElem? (i := 774) (by decide +kernel)⟩
theorem lw_p70 : lw_okq (⟨"EquationText$Reader", "endBlocks", "()Z"⟩, 13) := ⟨⟨by decide +kernel, by decide +kernel⟩, List.mem_of_getElem? (i := 32) (by decide +kernel), List.mem_of_getElem? (i := 777) (by decide +kernel), List.mem_of_getElem? (i := 778) (by decide +kernel)⟩
theorem lw_p71 : lw_okq (⟨"EquationText$Reader", "addWord", "(I)Z"⟩, 13) := ⟨⟨by decide +kernel, by decide +kernel⟩, List.mem_of_getElem? (i := 32) (by decide +kernel), List.mem_of_getElem? (i := 781) (by decide +kernel), List.mem_of_getElem? (i := 782) (by decide +kernel)⟩
theorem lw_p72 : lw_okq (⟨"EquationText$Reader", "openValues", "(I)Z"⟩, 13) := ⟨⟨by decide +kernel, by decide +kernel⟩, List.mem_of_getElem? (i := 32) (by decide +kernel), List.mem_of_getElem? (i := 785) (by decide +kernel), List.mem_of_getElem? (i := 786) (by decide +kernel)⟩
theorem lw_p73 : lw_okq (⟨"EquationText$Reader", "openHead", "()Z"⟩, 13) := ⟨⟨by decide +kernel, by decide +kernel⟩, List.mem_of_getElem? (i := 32) (by decide +kernel), List.mem_of_getElem? (i := 789) (by decide +kernel), List.mem_of_getElem? (i := 790) (by decide +kernel)⟩
theorem lw_p74 : lw_okq (⟨"EquationText$Nodes", "set", "(III)V"⟩, 2) := ⟨⟨by decide +kernel, by decide +kernel⟩, List.mem_of_getElem? (i := 74) (by decide +kernel), List.mem_of_getElem? (i := 807) (by decide +kernel), List.mem_of_getElem? (i := 808) (by decide +kernel)⟩
theorem lw_p75 : lw_okq (⟨"EquationText$Nodes", "linkParts", "(LEquationText$Nodes;II)V"⟩, 2) := ⟨⟨by decide +kernel, by decide +kernel⟩, List.mem_of_getElem? (i := 74) (by decide +kernel), List.mem_of_getElem? (i := 811) (by decide +kernel), List.mem_of_getElem? (i := 812) (by decide +kernel)⟩
theorem lw_p76 : lw_okq (⟨"EquationText$Writer", "enter", "(I)V"⟩, 5) := ⟨⟨by decide +kernel, by decide +kernel⟩, List.mem_of_getElem? (i := 210) (by decide +kernel), List.mem_of_getElem? (i := 861) (by decide +kernel), List.mem_of_getElem? (i := 862) (by decide +kernel)⟩
theorem lw_p77 : lw_okq (⟨"EquationText$Writer", "leadFirst", "(II)V"⟩, 5) := ⟨⟨by decide +kernel, by decide +kernel⟩, List.mem_of_getElem? (i := 210) (by decide +kernel), List.mem_of_getElem? (i := 866) (by decide +kernel), List.mem_of_getElem? (i := 867) (by decide +kernel)⟩
theorem lw_p78 : lw_okq (⟨"EquationText$Writer", "kind", "(I)I"⟩, 5) := ⟨⟨by decide +kernel, by decide +kernel⟩, List.mem_of_getElem? (i := 210) (by decide +kernel), List.mem_of_getElem? (i := 870) (by decide +kernel), List.mem_of_getElem? (i := 871) (by decide +kernel)⟩
theorem lw_p79 : lw_okq (⟨"EquationText$Writer", "put", "(Ljava/lang/String;)V"⟩, 5) := ⟨⟨by decide +kernel, by decide +kernel⟩, List.mem_of_getElem? (i := 210) (by decide +kernel), List.mem_of_getElem? (i := 876) (by decide +kernel), List.mem_of_getElem? (i := 877) (by decide +kernel)⟩
def lw_privs_5 : List (MethodName × Nat) := [(⟨"EquationText$Reader", "endParameters", "()Z"⟩, 13), (⟨"EquationText$Reader", "standsInStatement", "()Z"⟩, 13), (⟨"EquationText$Reader", "beginStatement", "()Z"⟩, 13), (⟨"EquationText$Reader", "openBlocks", "(II)Z"⟩, 13), (⟨"EquationText$Reader", "nextBlock", "(IZI)Z"⟩, 13), (⟨"EquationText$Reader", "endBlock", "()V"⟩, 13), (⟨"EquationText$Reader", "endBlocks", "()Z"⟩, 13), (⟨"EquationText$Reader", "addWord", "(I)Z"⟩, 13), (⟨"EquationText$Reader", "openValues", "(I)Z"⟩, 13), (⟨"EquationText$Reader", "openHead", "()Z"⟩, 13), (⟨"EquationText$Nodes", "set", "(III)V"⟩, 2), (⟨"EquationText$Nodes", "linkParts", "(LEquationText$Nodes;II)V"⟩, 2), (⟨"EquationText$Writer", "enter", "(I)V"⟩, 5), (⟨"EquationText$Writer", "leadFirst", "(II)V"⟩, 5), (⟨"EquationText$Writer", "kind", "(I)I"⟩, 5), (⟨"EquationText$Writer", "put", "(Ljava/lang/String;)V"⟩, 5)]
theorem lw_r5 : ∀ q ∈ lw_privs_5, lw_okq q := List.forall_mem_cons.mpr ⟨lw_p64, List.forall_mem_cons.mpr ⟨lw_p65, List.forall_mem_cons.mpr ⟨lw_p66, List.forall_mem_cons.mpr ⟨lw_p67, List.forall_mem_cons.mpr ⟨lw_p68, List.forall_mem_cons.mpr ⟨lw_p69, List.forall_mem_cons.mpr ⟨lw_p70, List.forall_mem_cons.mpr ⟨lw_p71, List.forall_mem_cons.mpr ⟨lw_p72, List.forall_mem_cons.mpr ⟨lw_p73, List.forall_mem_cons.mpr ⟨lw_p74, List.forall_mem_cons.mpr ⟨lw_p75, List.forall_mem_cons.mpr ⟨lw_p76, List.forall_mem_cons.mpr ⟨lw_p77, List.forall_mem_cons.mpr ⟨lw_p78, List.forall_mem_cons.mpr ⟨lw_p79, fun _ h => absurd h List.not_mem_nil⟩⟩⟩⟩⟩⟩⟩⟩⟩⟩⟩⟩⟩⟩⟩⟩
theorem lw_p80 : lw_okq (⟨"EquationText$Writer", "beginLine", "(Ljava/lang/String;)V"⟩, 5) := ⟨⟨by decide +kernel, by decide +kernel⟩, List.mem_of_getElem? (i := 210) (by decide +kernel), List.mem_of_getElem? (i := 884) (by decide +kernel), List.mem_of_getElem? (i := 885) (by decide +kernel)⟩
theorem lw_p81 : lw_okq (⟨"EquationText$Writer", "lead", "(II)V"⟩, 5) := ⟨⟨by decide +kernel, by decide +kernel⟩, List.mem_of_getElem? (i := 210) (by decide +kernel), List.mem_of_getElem? (i := 892) (by decide +kernel), List.mem_of_getElem? (i := 893) (by decide +kernel)⟩
theorem lw_p82 : lw_okq (⟨"EquationText$Writer", "putOperation", "(I)V"⟩, 5) := ⟨⟨by decide +kernel, by decide +kernel⟩, List.mem_of_getElem? (i := 210) (by decide +kernel), List.mem_of_getElem? (i := 900) (by decide +kernel), List.mem_of_getElem? (i := 901) (by decide +kernel)⟩
theorem lw_p83 : lw_okq (⟨"EquationText$Writer", "rank", "(I)I"⟩, 5) := ⟨⟨by decide +kernel, by decide +kernel⟩, List.mem_of_getElem? (i := 210) (by decide +kernel), List.mem_of_getElem? (i := 904) (by decide +kernel), List.mem_of_getElem? (i := 905) (by decide +kernel)⟩
theorem lw_p84 : lw_okq (⟨"EquationText$Writer", "putToken", "(I)V"⟩, 5) := ⟨⟨by decide +kernel, by decide +kernel⟩, List.mem_of_getElem? (i := 210) (by decide +kernel), List.mem_of_getElem? (i := 913) (by decide +kernel), List.mem_of_getElem? (i := 914) (by decide +kernel)⟩
theorem lw_p85 : lw_okq (⟨"EquationText$Writer", "isElse", "(II)Z"⟩, 5) := ⟨⟨by decide +kernel, by decide +kernel⟩, List.mem_of_getElem? (i := 210) (by decide +kernel), List.mem_of_getElem? (i := 918) (by decide +kernel), List.mem_of_getElem? (i := 919) (by decide +kernel)⟩
theorem lw_p86 : lw_okq (⟨"EquationText$Writer", "needsBrackets", "(II)Z"⟩, 5) := ⟨⟨by decide +kernel, by decide +kernel⟩, List.mem_of_getElem? (i := 210) (by decide +kernel), List.mem_of_getElem? (i := 925) (by decide +kernel), List.mem_of_getElem? (i := 926) (by decide +kernel)⟩
theorem lw_p87 : lw_okq (⟨"EquationText$Writer", "isPowerSign", "(II)Z"⟩, 5) := ⟨⟨by decide +kernel, by decide +kernel⟩, List.mem_of_getElem? (i := 210) (by decide +kernel), List.mem_of_getElem? (i := 929) (by decide +kernel), List.mem_of_getElem? (i := 930) (by decide +kernel)⟩
theorem lw_p88 : lw_okq (⟨"EquationText$Writer", "begin", "(I)V"⟩, 5) := ⟨⟨by decide +kernel, by decide +kernel⟩, List.mem_of_getElem? (i := 210) (by decide +kernel), List.mem_of_getElem? (i := 934) (by decide +kernel), List.mem_of_getElem? (i := 935) (by decide +kernel)⟩
theorem lw_p89 : lw_okq (⟨"EquationText$Writer", "leave", "(I)V"⟩, 5) := ⟨⟨by decide +kernel, by decide +kernel⟩, List.mem_of_getElem? (i := 210) (by decide +kernel), List.mem_of_getElem? (i := 939) (by decide +kernel), List.mem_of_getElem? (i := 940) (by decide +kernel)⟩
theorem lw_p90 : lw_okq (⟨"EquationText$Writer", "finish", "(I)V"⟩, 5) := ⟨⟨by decide +kernel, by decide +kernel⟩, List.mem_of_getElem? (i := 210) (by decide +kernel), List.mem_of_getElem? (i := 943) (by decide +kernel), List.mem_of_getElem? (i := 944) (by decide +kernel)⟩
theorem lw_p91 : lw_okq (⟨"EquationText$Writer", "trail", "(II)V"⟩, 5) := ⟨⟨by decide +kernel, by decide +kernel⟩, List.mem_of_getElem? (i := 210) (by decide +kernel), List.mem_of_getElem? (i := 952) (by decide +kernel), List.mem_of_getElem? (i := 953) (by decide +kernel)⟩
theorem lw_p92 : lw_okq (⟨"EquationText$Writer", "trailOfFunction", "(II)V"⟩, 5) := ⟨⟨by decide +kernel, by decide +kernel⟩, List.mem_of_getElem? (i := 210) (by decide +kernel), List.mem_of_getElem? (i := 956) (by decide +kernel), List.mem_of_getElem? (i := 957) (by decide +kernel)⟩
theorem lw_p93 : lw_okq (⟨"java/lang/Throwable", "fillInStackTrace", "(I)Ljava/lang/Throwable;"⟩, 6) := ⟨⟨by decide +kernel, by decide +kernel⟩, List.mem_of_getElem? (i := 1018) (by decide +kernel), List.mem_of_getElem? (i := 1016) (by decide +kernel), List.mem_of_getElem? (i := 1017) (by decide +kernel)⟩
theorem lw_p94 : lw_okq (⟨"EquationTextModel", "feedFour", "(I)V"⟩, 39) := ⟨⟨by decide +kernel, by decide +kernel⟩, List.mem_of_getElem? (i := 1047) (by decide +kernel), List.mem_of_getElem? (i := 1241) (by decide +kernel), List.mem_of_getElem? (i := 1242) (by decide +kernel)⟩
theorem lw_p95 : lw_okq (⟨"EquationTextModel", "cut", "()V"⟩, 39) := ⟨⟨by decide +kernel, by decide +kernel⟩, List.mem_of_getElem? (i := 1047) (by decide +kernel), List.mem_of_getElem? (i := 1266) (by decide +kernel), List.mem_of_getElem? (i := 1267) (by decide +kernel)⟩
def lw_privs_6 : List (MethodName × Nat) := [(⟨"EquationText$Writer", "beginLine", "(Ljava/lang/String;)V"⟩, 5), (⟨"EquationText$Writer", "lead", "(II)V"⟩, 5), (⟨"EquationText$Writer", "putOperation", "(I)V"⟩, 5), (⟨"EquationText$Writer", "rank", "(I)I"⟩, 5), (⟨"EquationText$Writer", "putToken", "(I)V"⟩, 5), (⟨"EquationText$Writer", "isElse", "(II)Z"⟩, 5), (⟨"EquationText$Writer", "needsBrackets", "(II)Z"⟩, 5), (⟨"EquationText$Writer", "isPowerSign", "(II)Z"⟩, 5), (⟨"EquationText$Writer", "begin", "(I)V"⟩, 5), (⟨"EquationText$Writer", "leave", "(I)V"⟩, 5), (⟨"EquationText$Writer", "finish", "(I)V"⟩, 5), (⟨"EquationText$Writer", "trail", "(II)V"⟩, 5), (⟨"EquationText$Writer", "trailOfFunction", "(II)V"⟩, 5), (⟨"java/lang/Throwable", "fillInStackTrace", "(I)Ljava/lang/Throwable;"⟩, 6), (⟨"EquationTextModel", "feedFour", "(I)V"⟩, 39), (⟨"EquationTextModel", "cut", "()V"⟩, 39)]
theorem lw_r6 : ∀ q ∈ lw_privs_6, lw_okq q := List.forall_mem_cons.mpr ⟨lw_p80, List.forall_mem_cons.mpr ⟨lw_p81, List.forall_mem_cons.mpr ⟨lw_p82, List.forall_mem_cons.mpr ⟨lw_p83, List.forall_mem_cons.mpr ⟨lw_p84, List.forall_mem_cons.mpr ⟨lw_p85, List.forall_mem_cons.mpr ⟨lw_p86, List.forall_mem_cons.mpr ⟨lw_p87, List.forall_mem_cons.mpr ⟨lw_p88, List.forall_mem_cons.mpr ⟨lw_p89, List.forall_mem_cons.mpr ⟨lw_p90, List.forall_mem_cons.mpr ⟨lw_p91, List.forall_mem_cons.mpr ⟨lw_p92, List.forall_mem_cons.mpr ⟨lw_p93, List.forall_mem_cons.mpr ⟨lw_p94, List.forall_mem_cons.mpr ⟨lw_p95, fun _ h => absurd h List.not_mem_nil⟩⟩⟩⟩⟩⟩⟩⟩⟩⟩⟩⟩⟩⟩⟩⟩
theorem lw_p96 : lw_okq (⟨"EquationTextModel", "skip", "(I)I"⟩, 39) := ⟨⟨by decide +kernel, by decide +kernel⟩, List.mem_of_getElem? (i := 1047) (by decide +kernel), List.mem_of_getElem? (i := 1270) (by decide +kernel), List.mem_of_getElem? (i := 1271) (by decide +kernel)⟩
theorem lw_p97 : lw_okq (⟨"EquationTextModel", "token", "(I)I"⟩, 39) := ⟨⟨by decide +kernel, by decide +kernel⟩, List.mem_of_getElem? (i := 1047) (by decide +kernel), List.mem_of_getElem? (i := 1281) (by decide +kernel), List.mem_of_getElem? (i := 1282) (by decide +kernel)⟩
theorem lw_p98 : lw_okq (⟨"EquationTextModel", "letter", "(I)I"⟩, 39) := ⟨⟨by decide +kernel, by decide +kernel⟩, List.mem_of_getElem? (i := 1047) (by decide +kernel), List.mem_of_getElem? (i := 1285) (by decide +kernel), List.mem_of_getElem? (i := 1286) (by decide +kernel)⟩
theorem lw_p99 : lw_okq (⟨"EquationTextModel", "stands", "(Ljava/lang/String;I)Z"⟩, 39) := ⟨⟨by decide +kernel, by decide +kernel⟩, List.mem_of_getElem? (i := 1047) (by decide +kernel), List.mem_of_getElem? (i := 1296) (by decide +kernel), List.mem_of_getElem? (i := 1297) (by decide +kernel)⟩
theorem lw_p100 : lw_okq (⟨"EquationTextModel", "numeralEnd", "(I)I"⟩, 39) := ⟨⟨by decide +kernel, by decide +kernel⟩, List.mem_of_getElem? (i := 1047) (by decide +kernel), List.mem_of_getElem? (i := 1301) (by decide +kernel), List.mem_of_getElem? (i := 1302) (by decide +kernel)⟩
theorem lw_p101 : lw_okq (⟨"EquationTextModel", "digitsEnd", "(I)I"⟩, 39) := ⟨⟨by decide +kernel, by decide +kernel⟩, List.mem_of_getElem? (i := 1047) (by decide +kernel), List.mem_of_getElem? (i := 1305) (by decide +kernel), List.mem_of_getElem? (i := 1306) (by decide +kernel)⟩
theorem lw_p102 : lw_okq (⟨"EquationTextModel", "isFinite", "(II)Z"⟩, 39) := ⟨⟨by decide +kernel, by decide +kernel⟩, List.mem_of_getElem? (i := 1047) (by decide +kernel), List.mem_of_getElem? (i := 1309) (by decide +kernel), List.mem_of_getElem? (i := 1310) (by decide +kernel)⟩
theorem lw_p103 : lw_okq (⟨"EquationTextModel", "readProgram", "()Z"⟩, 39) := ⟨⟨by decide +kernel, by decide +kernel⟩, List.mem_of_getElem? (i := 1047) (by decide +kernel), List.mem_of_getElem? (i := 1317) (by decide +kernel), List.mem_of_getElem? (i := 1318) (by decide +kernel)⟩
theorem lw_p104 : lw_okq (⟨"EquationTextModel", "kind", "()I"⟩, 39) := ⟨⟨by decide +kernel, by decide +kernel⟩, List.mem_of_getElem? (i := 1047) (by decide +kernel), List.mem_of_getElem? (i := 1321) (by decide +kernel), List.mem_of_getElem? (i := 1322) (by decide +kernel)⟩
theorem lw_p105 : lw_okq (⟨"EquationTextModel", "readStatement", "()Z"⟩, 39) := ⟨⟨by decide +kernel, by decide +kernel⟩, List.mem_of_getElem? (i := 1047) (by decide +kernel), List.mem_of_getElem? (i := 1325) (by decide +kernel), List.mem_of_getElem? (i := 1326) (by decide +kernel)⟩
theorem lw_p106 : lw_okq (⟨"EquationTextModel", "readFunction", "()Z"⟩, 39) := ⟨⟨by decide +kernel, by decide +kernel⟩, List.mem_of_getElem? (i := 1047) (by decide +kernel), List.mem_of_getElem? (i := 1329) (by decide +kernel), List.mem_of_getElem? (i := 1330) (by decide +kernel)⟩
theorem lw_p107 : lw_okq (⟨"EquationTextModel", "enter", "(I)Z"⟩, 39) := ⟨⟨by decide +kernel, by decide +kernel⟩, List.mem_of_getElem? (i := 1047) (by decide +kernel), List.mem_of_getElem? (i := 1333) (by decide +kernel), List.mem_of_getElem? (i := 1334) (by decide +kernel)⟩
theorem lw_p108 : lw_okq (⟨"EquationTextModel", "fail", "()Z"⟩, 39) := ⟨⟨by decide +kernel, by decide +kernel⟩, List.mem_of_getElem? (i := 1047) (by decide +kernel), List.mem_of_getElem? (i := 1337) (by decide +kernel), List.mem_of_getElem? (i := 1338) (by decide +kernel)⟩
theorem lw_p109 : lw_okq (⟨"EquationTextModel", "readNames", "()Z"⟩, 39) := ⟨⟨by decide +kernel, by decide +kernel⟩, List.mem_of_getElem? (i := 1047) (by decide +kernel), List.mem_of_getElem? (i := 1341) (by decide +kernel), List.mem_of_getElem? (i := 1342) (by decide +kernel)⟩
theorem lw_p110 : lw_okq (⟨"EquationTextModel", "sameName", "(II)Z"⟩, 39) := ⟨⟨by decide +kernel, by decide +kernel⟩, List.mem_of_getElem? (i := 1047) (by decide +kernel), List.mem_of_getElem? (i := 1345) (by decide +kernel), List.mem_of_getElem? (i := 1346) (by decide +kernel)⟩
theorem lw_p111 : lw_okq (⟨"EquationTextModel", "leave", "(I)Z"⟩, 39) := ⟨⟨by decide +kernel, by decide +kernel⟩, List.mem_of_getElem? (i := 1047) (by decide +kernel), List.mem_of_getElem? (i := 1349) (by decide +kernel), List.mem_of_getElem? (i := 1350) (by decide +kernel)⟩
def lw_privs_7 : List (MethodName × Nat) := [(⟨"EquationTextModel", "skip", "(I)I"⟩, 39), (⟨"EquationTextModel", "token", "(I)I"⟩, 39), (⟨"EquationTextModel", "letter", "(I)I"⟩, 39), (⟨"EquationTextModel", "stands", "(Ljava/lang/String;I)Z"⟩, 39), (⟨"EquationTextModel", "numeralEnd", "(I)I"⟩, 39), (⟨"EquationTextModel", "digitsEnd", "(I)I"⟩, 39), (⟨"EquationTextModel", "isFinite", "(II)Z"⟩, 39), (⟨"EquationTextModel", "readProgram", "()Z"⟩, 39), (⟨"EquationTextModel", "kind", "()I"⟩, 39), (⟨"EquationTextModel", "readStatement", "()Z"⟩, 39), (⟨"EquationTextModel", "readFunction", "()Z"⟩, 39), (⟨"EquationTextModel", "enter", "(I)Z"⟩, 39), (⟨"EquationTextModel", "fail", "()Z"⟩, 39), (⟨"EquationTextModel", "readNames", "()Z"⟩, 39), (⟨"EquationTextModel", "sameName", "(II)Z"⟩, 39), (⟨"EquationTextModel", "leave", "(I)Z"⟩, 39)]
theorem lw_r7 : ∀ q ∈ lw_privs_7, lw_okq q := List.forall_mem_cons.mpr ⟨lw_p96, List.forall_mem_cons.mpr ⟨lw_p97, List.forall_mem_cons.mpr ⟨lw_p98, List.forall_mem_cons.mpr ⟨lw_p99, List.forall_mem_cons.mpr ⟨lw_p100, List.forall_mem_cons.mpr ⟨lw_p101, List.forall_mem_cons.mpr ⟨lw_p102, List.forall_mem_cons.mpr ⟨lw_p103, List.forall_mem_cons.mpr ⟨lw_p104, List.forall_mem_cons.mpr ⟨lw_p105, List.forall_mem_cons.mpr ⟨lw_p106, List.forall_mem_cons.mpr ⟨lw_p107, List.forall_mem_cons.mpr ⟨lw_p108, List.forall_mem_cons.mpr ⟨lw_p109, List.forall_mem_cons.mpr ⟨lw_p110, List.forall_mem_cons.mpr ⟨lw_p111, fun _ h => absurd h List.not_mem_nil⟩⟩⟩⟩⟩⟩⟩⟩⟩⟩⟩⟩⟩⟩⟩⟩
theorem lw_p112 : lw_okq (⟨"EquationTextModel", "take", "(I)Z"⟩, 39) := ⟨⟨by decide +kernel, by decide +kernel⟩, List.mem_of_getElem? (i := 1047) (by decide +kernel), List.mem_of_getElem? (i := 1353) (by decide +kernel), List.mem_of_getElem? (i := 1354) (by decide +kernel)⟩
theorem lw_p113 : lw_okq (⟨"EquationTextModel", "isFunction", "(I)Z"⟩, 39) := ⟨⟨by decide +kernel, by decide +kernel⟩, List.mem_of_getElem? (i := 1047) (by decide +kernel), List.mem_of_getElem? (i := 1357) (by decide +kernel), List.mem_of_getElem? (i := 1358) (by decide +kernel)⟩
theorem lw_p114 : lw_okq (⟨"EquationTextModel", "readCondition", "()Z"⟩, 39) := ⟨⟨by decide +kernel, by decide +kernel⟩, List.mem_of_getElem? (i := 1047) (by decide +kernel), List.mem_of_getElem? (i := 1361) (by decide +kernel), List.mem_of_getElem? (i := 1362) (by decide +kernel)⟩
theorem lw_p115 : lw_okq (⟨"EquationTextModel", "readExpression", "()Z"⟩, 39) := ⟨⟨by decide +kernel, by decide +kernel⟩, List.mem_of_getElem? (i := 1047) (by decide +kernel), List.mem_of_getElem? (i := 1365) (by decide +kernel), List.mem_of_getElem? (i := 1366) (by decide +kernel)⟩
theorem lw_p116 : lw_okq (⟨"EquationTextModel", "push", "(II)V"⟩, 39) := ⟨⟨by decide +kernel, by decide +kernel⟩, List.mem_of_getElem? (i := 1047) (by decide +kernel), List.mem_of_getElem? (i := 1369) (by decide +kernel), List.mem_of_getElem? (i := 1370) (by decide +kernel)⟩
theorem lw_p117 : lw_okq (⟨"EquationTextModel", "setTop", "(II)V"⟩, 39) := ⟨⟨by decide +kernel, by decide +kernel⟩, List.mem_of_getElem? (i := 1047) (by decide +kernel), List.mem_of_getElem? (i := 1373) (by decide +kernel), List.mem_of_getElem? (i := 1374) (by decide +kernel)⟩
theorem lw_p118 : lw_okq (⟨"EquationTextModel", "wholeColon", "()I"⟩, 39) := ⟨⟨by decide +kernel, by decide +kernel⟩, List.mem_of_getElem? (i := 1047) (by decide +kernel), List.mem_of_getElem? (i := 1377) (by decide +kernel), List.mem_of_getElem? (i := 1378) (by decide +kernel)⟩
theorem lw_p119 : lw_okq (⟨"EquationTextModel", "mark", "()Z"⟩, 39) := ⟨⟨by decide +kernel, by decide +kernel⟩, List.mem_of_getElem? (i := 1047) (by decide +kernel), List.mem_of_getElem? (i := 1381) (by decide +kernel), List.mem_of_getElem? (i := 1382) (by decide +kernel)⟩
theorem lw_p120 : lw_okq (⟨"EquationTextModel", "failed", "()Z"⟩, 39) := ⟨⟨by decide +kernel, by decide +kernel⟩, List.mem_of_getElem? (i := 1047) (by decide +kernel), List.mem_of_getElem? (i := 1385) (by decide +kernel), List.mem_of_getElem? (i := 1386) (by decide +kernel)⟩
theorem lw_p121 : lw_okq (⟨"EquationTextModel", "isColonBefore", "()Z"⟩, 39) := ⟨⟨by decide +kernel, by decide +kernel⟩, List.mem_of_getElem? (i := 1047) (by decide +kernel), List.mem_of_getElem? (i := 1389) (by decide +kernel), List.mem_of_getElem? (i := 1390) (by decide +kernel)⟩
theorem lw_p122 : lw_okq (⟨"EquationTextModel", "rankOf", "(I)I"⟩, 39) := ⟨⟨by decide +kernel, by decide +kernel⟩, List.mem_of_getElem? (i := 1047) (by decide +kernel), List.mem_of_getElem? (i := 1393) (by decide +kernel), List.mem_of_getElem? (i := 1394) (by decide +kernel)⟩
theorem lw_p123 : lw_okq (⟨"EquationTextModel", "isEmptyOpen", "()Z"⟩, 39) := ⟨⟨by decide +kernel, by decide +kernel⟩, List.mem_of_getElem? (i := 1047) (by decide +kernel), List.mem_of_getElem? (i := 1397) (by decide +kernel), List.mem_of_getElem? (i := 1398) (by decide +kernel)⟩
theorem lw_p124 : lw_okq (⟨"EquationTextModel", "top", "(I)I"⟩, 39) := ⟨⟨by decide +kernel, by decide +kernel⟩, List.mem_of_getElem? (i := 1047) (by decide +kernel), List.mem_of_getElem? (i := 1401) (by decide +kernel), List.mem_of_getElem? (i := 1402) (by decide +kernel)⟩
theorem lw_p125 : lw_okq (⟨"EquationTextModel", "inBracket", "(II)I"⟩, 39) := ⟨⟨by decide +kernel, by decide +kernel⟩, List.mem_of_getElem? (i := 1047) (by decide +kernel), List.mem_of_getElem? (i := 1405) (by decide +kernel), List.mem_of_getElem? (i := 1406) (by decide +kernel)⟩
theorem lw_p126 : lw_okq (⟨"EquationTextModel", "block", "()I"⟩, 39) := ⟨⟨by decide +kernel, by decide +kernel⟩, List.mem_of_getElem? (i := 1047) (by decide +kernel), List.mem_of_getElem? (i := 1409) (by decide +kernel), List.mem_of_getElem? (i := 1410) (by decide +kernel)⟩
theorem lw_p127 : lw_okq (⟨"EquationTextModel", "isInLoop", "()Z"⟩, 39) := ⟨⟨by decide +kernel, by decide +kernel⟩, List.mem_of_getElem? (i := 1047) (by decide +kernel), List.mem_of_getElem? (i := 1417) (by decide +kernel), List.mem_of_getElem? (i := 1418) (by decide +kernel)⟩
def lw_privs_8 : List (MethodName × Nat) := [(⟨"EquationTextModel", "take", "(I)Z"⟩, 39), (⟨"EquationTextModel", "isFunction", "(I)Z"⟩, 39), (⟨"EquationTextModel", "readCondition", "()Z"⟩, 39), (⟨"EquationTextModel", "readExpression", "()Z"⟩, 39), (⟨"EquationTextModel", "push", "(II)V"⟩, 39), (⟨"EquationTextModel", "setTop", "(II)V"⟩, 39), (⟨"EquationTextModel", "wholeColon", "()I"⟩, 39), (⟨"EquationTextModel", "mark", "()Z"⟩, 39), (⟨"EquationTextModel", "failed", "()Z"⟩, 39), (⟨"EquationTextModel", "isColonBefore", "()Z"⟩, 39), (⟨"EquationTextModel", "rankOf", "(I)I"⟩, 39), (⟨"EquationTextModel", "isEmptyOpen", "()Z"⟩, 39), (⟨"EquationTextModel", "top", "(I)I"⟩, 39), (⟨"EquationTextModel", "inBracket", "(II)I"⟩, 39), (⟨"EquationTextModel", "block", "()I"⟩, 39), (⟨"EquationTextModel", "isInLoop", "()Z"⟩, 39)]
theorem lw_r8 : ∀ q ∈ lw_privs_8, lw_okq q := List.forall_mem_cons.mpr ⟨lw_p112, List.forall_mem_cons.mpr ⟨lw_p113, List.forall_mem_cons.mpr ⟨lw_p114, List.forall_mem_cons.mpr ⟨lw_p115, List.forall_mem_cons.mpr ⟨lw_p116, List.forall_mem_cons.mpr ⟨lw_p117, List.forall_mem_cons.mpr ⟨lw_p118, List.forall_mem_cons.mpr ⟨lw_p119, List.forall_mem_cons.mpr ⟨lw_p120, List.forall_mem_cons.mpr ⟨lw_p121, List.forall_mem_cons.mpr ⟨lw_p122, List.forall_mem_cons.mpr ⟨lw_p123, List.forall_mem_cons.mpr ⟨lw_p124, List.forall_mem_cons.mpr ⟨lw_p125, List.forall_mem_cons.mpr ⟨lw_p126, List.forall_mem_cons.mpr ⟨lw_p127, fun _ h => absurd h List.not_mem_nil⟩⟩⟩⟩⟩⟩⟩⟩⟩⟩⟩⟩⟩⟩⟩⟩
theorem lw_p128 : lw_okq (⟨"EquationTextModel", "readSeveral", "()Z"⟩, 39) := ⟨⟨by decide +kernel, by decide +kernel⟩, List.mem_of_getElem? (i := 1047) (by decide +kernel), List.mem_of_getElem? (i := 1421) (by decide +kernel), List.mem_of_getElem? (i := 1422) (by decide +kernel)⟩
theorem lw_p129 : lw_okq (⟨"EquationTextModel", "readRowsStatement", "()Z"⟩, 39) := ⟨⟨by decide +kernel, by decide +kernel⟩, List.mem_of_getElem? (i := 1047) (by decide +kernel), List.mem_of_getElem? (i := 1425) (by decide +kernel), List.mem_of_getElem? (i := 1426) (by decide +kernel)⟩
theorem lw_p130 : lw_okq (⟨"EquationTextModel", "targetsEnd", "()I"⟩, 39) := ⟨⟨by decide +kernel, by decide +kernel⟩, List.mem_of_getElem? (i := 1047) (by decide +kernel), List.mem_of_getElem? (i := 1429) (by decide +kernel), List.mem_of_getElem? (i := 1430) (by decide +kernel)⟩
theorem lw_p131 : lw_okq (⟨"EquationTextModel", "readTargets", "()Z"⟩, 39) := ⟨⟨by decide +kernel, by decide +kernel⟩, List.mem_of_getElem? (i := 1047) (by decide +kernel), List.mem_of_getElem? (i := 1433) (by decide +kernel), List.mem_of_getElem? (i := 1434) (by decide +kernel)⟩
theorem lw_p132 : lw_okq (⟨"EquationTextModel", "readWorking", "()Z"⟩, 39) := ⟨⟨by decide +kernel, by decide +kernel⟩, List.mem_of_getElem? (i := 1047) (by decide +kernel), List.mem_of_getElem? (i := 1437) (by decide +kernel), List.mem_of_getElem? (i := 1438) (by decide +kernel)⟩
theorem lw_p133 : lw_okq (⟨"EquationTextModel", "isTarget", "(II)Z"⟩, 39) := ⟨⟨by decide +kernel, by decide +kernel⟩, List.mem_of_getElem? (i := 1047) (by decide +kernel), List.mem_of_getElem? (i := 1441) (by decide +kernel), List.mem_of_getElem? (i := 1442) (by decide +kernel)⟩
theorem lw_p134 : lw_okq (⟨"EquationTextModel", "closing", "(I)I"⟩, 39) := ⟨⟨by decide +kernel, by decide +kernel⟩, List.mem_of_getElem? (i := 1047) (by decide +kernel), List.mem_of_getElem? (i := 1445) (by decide +kernel), List.mem_of_getElem? (i := 1446) (by decide +kernel)⟩
theorem lw_p135 : lw_okq (⟨"EquationTextModel", "build", "()V"⟩, 39) := ⟨⟨by decide +kernel, by decide +kernel⟩, List.mem_of_getElem? (i := 1047) (by decide +kernel), List.mem_of_getElem? (i := 1449) (by decide +kernel), List.mem_of_getElem? (i := 1450) (by decide +kernel)⟩
theorem lw_p136 : lw_okq (⟨"EquationTextModel", "newNode", "(IIIII)I"⟩, 39) := ⟨⟨by decide +kernel, by decide +kernel⟩, List.mem_of_getElem? (i := 1047) (by decide +kernel), List.mem_of_getElem? (i := 1457) (by decide +kernel), List.mem_of_getElem? (i := 1458) (by decide +kernel)⟩
theorem lw_p137 : lw_okq (⟨"EquationTextModel", "task", "(IIIII)V"⟩, 39) := ⟨⟨by decide +kernel, by decide +kernel⟩, List.mem_of_getElem? (i := 1047) (by decide +kernel), List.mem_of_getElem? (i := 1461) (by decide +kernel), List.mem_of_getElem? (i := 1462) (by decide +kernel)⟩
theorem lw_p138 : lw_okq (⟨"EquationTextModel", "pushTasks", "()V"⟩, 39) := ⟨⟨by decide +kernel, by decide +kernel⟩, List.mem_of_getElem? (i := 1047) (by decide +kernel), List.mem_of_getElem? (i := 1465) (by decide +kernel), List.mem_of_getElem? (i := 1466) (by decide +kernel)⟩
theorem lw_p139 : lw_okq (⟨"EquationTextModel", "buildStatements", "(III)V"⟩, 39) := ⟨⟨by decide +kernel, by decide +kernel⟩, List.mem_of_getElem? (i := 1047) (by decide +kernel), List.mem_of_getElem? (i := 1469) (by decide +kernel), List.mem_of_getElem? (i := 1470) (by decide +kernel)⟩
theorem lw_p140 : lw_okq (⟨"EquationTextModel", "statementEnd", "(I)I"⟩, 39) := ⟨⟨by decide +kernel, by decide +kernel⟩, List.mem_of_getElem? (i := 1047) (by decide +kernel), List.mem_of_getElem? (i := 1473) (by decide +kernel), List.mem_of_getElem? (i := 1474) (by decide +kernel)⟩
theorem lw_p141 : lw_okq (⟨"EquationTextModel", "stopOf", "(I)I"⟩, 39) := ⟨⟨by decide +kernel, by decide +kernel⟩, List.mem_of_getElem? (i := 1047) (by decide +kernel), List.mem_of_getElem? (i := 1480) (by decide +kernel), List.mem_of_getElem? (i := 1481) (by decide +kernel)⟩
theorem lw_p142 : lw_okq (⟨"EquationTextModel", "buildStatement", "(III)V"⟩, 39) := ⟨⟨by decide +kernel, by decide +kernel⟩, List.mem_of_getElem? (i := 1047) (by decide +kernel), List.mem_of_getElem? (i := 1484) (by decide +kernel), List.mem_of_getElem? (i := 1485) (by decide +kernel)⟩
theorem lw_p143 : lw_okq (⟨"EquationTextModel", "buildFunction", "(III)V"⟩, 39) := ⟨⟨by decide +kernel, by decide +kernel⟩, List.mem_of_getElem? (i := 1047) (by decide +kernel), List.mem_of_getElem? (i := 1488) (by decide +kernel), List.mem_of_getElem? (i := 1489) (by decide +kernel)⟩
def lw_privs_9 : List (MethodName × Nat) := [(⟨"EquationTextModel", "readSeveral", "()Z"⟩, 39), (⟨"EquationTextModel", "readRowsStatement", "()Z"⟩, 39), (⟨"EquationTextModel", "targetsEnd", "()I"⟩, 39), (⟨"EquationTextModel", "readTargets", "()Z"⟩, 39), (⟨"EquationTextModel", "readWorking", "()Z"⟩, 39), (⟨"EquationTextModel", "isTarget", "(II)Z"⟩, 39), (⟨"EquationTextModel", "closing", "(I)I"⟩, 39), (⟨"EquationTextModel", "build", "()V"⟩, 39), (⟨"EquationTextModel", "newNode", "(IIIII)I"⟩, 39), (⟨"EquationTextModel", "task", "(IIIII)V"⟩, 39), (⟨"EquationTextModel", "pushTasks", "()V"⟩, 39), (⟨"EquationTextModel", "buildStatements", "(III)V"⟩, 39), (⟨"EquationTextModel", "statementEnd", "(I)I"⟩, 39), (⟨"EquationTextModel", "stopOf", "(I)I"⟩, 39), (⟨"EquationTextModel", "buildStatement", "(III)V"⟩, 39), (⟨"EquationTextModel", "buildFunction", "(III)V"⟩, 39)]
theorem lw_r9 : ∀ q ∈ lw_privs_9, lw_okq q := List.forall_mem_cons.mpr ⟨lw_p128, List.forall_mem_cons.mpr ⟨lw_p129, List.forall_mem_cons.mpr ⟨lw_p130, List.forall_mem_cons.mpr ⟨lw_p131, List.forall_mem_cons.mpr ⟨lw_p132, List.forall_mem_cons.mpr ⟨lw_p133, List.forall_mem_cons.mpr ⟨lw_p134, List.forall_mem_cons.mpr ⟨lw_p135, List.forall_mem_cons.mpr ⟨lw_p136, List.forall_mem_cons.mpr ⟨lw_p137, List.forall_mem_cons.mpr ⟨lw_p138, List.forall_mem_cons.mpr ⟨lw_p139, List.forall_mem_cons.mpr ⟨lw_p140, List.forall_mem_cons.mpr ⟨lw_p141, List.forall_mem_cons.mpr ⟨lw_p142, List.forall_mem_cons.mpr ⟨lw_p143, fun _ h => absurd h List.not_mem_nil⟩⟩⟩⟩⟩⟩⟩⟩⟩⟩⟩⟩⟩⟩⟩⟩
theorem lw_p144 : lw_okq (⟨"EquationTextModel", "nameOf", "(I)I"⟩, 39) := ⟨⟨by decide +kernel, by decide +kernel⟩, List.mem_of_getElem? (i := 1047) (by decide +kernel), List.mem_of_getElem? (i := 1492) (by decide +kernel), List.mem_of_getElem? (i := 1493) (by decide +kernel)⟩
theorem lw_p145 : lw_okq (⟨"EquationTextModel", "placeOf", "(I)I"⟩, 39) := ⟨⟨by decide +kernel, by decide +kernel⟩, List.mem_of_getElem? (i := 1047) (by decide +kernel), List.mem_of_getElem? (i := 1496) (by decide +kernel), List.mem_of_getElem? (i := 1497) (by decide +kernel)⟩
theorem lw_p146 : lw_okq (⟨"EquationTextModel", "nameNodes", "(III)V"⟩, 39) := ⟨⟨by decide +kernel, by decide +kernel⟩, List.mem_of_getElem? (i := 1047) (by decide +kernel), List.mem_of_getElem? (i := 1500) (by decide +kernel), List.mem_of_getElem? (i := 1501) (by decide +kernel)⟩
theorem lw_p147 : lw_okq (⟨"EquationTextModel", "leafNode", "(III)I"⟩, 39) := ⟨⟨by decide +kernel, by decide +kernel⟩, List.mem_of_getElem? (i := 1047) (by decide +kernel), List.mem_of_getElem? (i := 1504) (by decide +kernel), List.mem_of_getElem? (i := 1505) (by decide +kernel)⟩
theorem lw_p148 : lw_okq (⟨"EquationTextModel", "buildIf", "(II)V"⟩, 39) := ⟨⟨by decide +kernel, by decide +kernel⟩, List.mem_of_getElem? (i := 1047) (by decide +kernel), List.mem_of_getElem? (i := 1508) (by decide +kernel), List.mem_of_getElem? (i := 1509) (by decide +kernel)⟩
theorem lw_p149 : lw_okq (⟨"EquationTextModel", "branchEnd", "(I)I"⟩, 39) := ⟨⟨by decide +kernel, by decide +kernel⟩, List.mem_of_getElem? (i := 1047) (by decide +kernel), List.mem_of_getElem? (i := 1512) (by decide +kernel), List.mem_of_getElem? (i := 1513) (by decide +kernel)⟩
theorem lw_p150 : lw_okq (⟨"EquationTextModel", "expressions", "(III)V"⟩, 39) := ⟨⟨by decide +kernel, by decide +kernel⟩, List.mem_of_getElem? (i := 1047) (by decide +kernel), List.mem_of_getElem? (i := 1516) (by decide +kernel), List.mem_of_getElem? (i := 1517) (by decide +kernel)⟩
theorem lw_p151 : lw_okq (⟨"EquationTextModel", "buildSimple", "(III)V"⟩, 39) := ⟨⟨by decide +kernel, by decide +kernel⟩, List.mem_of_getElem? (i := 1047) (by decide +kernel), List.mem_of_getElem? (i := 1520) (by decide +kernel), List.mem_of_getElem? (i := 1521) (by decide +kernel)⟩
theorem lw_p152 : lw_okq (⟨"EquationTextModel", "buildExpression", "(IIII)V"⟩, 39) := ⟨⟨by decide +kernel, by decide +kernel⟩, List.mem_of_getElem? (i := 1047) (by decide +kernel), List.mem_of_getElem? (i := 1524) (by decide +kernel), List.mem_of_getElem? (i := 1525) (by decide +kernel)⟩
theorem lw_p153 : lw_okq (⟨"EquationTextModel", "around", "(II)I"⟩, 39) := ⟨⟨by decide +kernel, by decide +kernel⟩, List.mem_of_getElem? (i := 1047) (by decide +kernel), List.mem_of_getElem? (i := 1528) (by decide +kernel), List.mem_of_getElem? (i := 1529) (by decide +kernel)⟩
theorem lw_p154 : lw_okq (⟨"EquationTextModel", "rankBetween", "(II)I"⟩, 39) := ⟨⟨by decide +kernel, by decide +kernel⟩, List.mem_of_getElem? (i := 1047) (by decide +kernel), List.mem_of_getElem? (i := 1532) (by decide +kernel), List.mem_of_getElem? (i := 1533) (by decide +kernel)⟩
theorem lw_p155 : lw_okq (⟨"EquationTextModel", "lastOf", "(III)I"⟩, 39) := ⟨⟨by decide +kernel, by decide +kernel⟩, List.mem_of_getElem? (i := 1047) (by decide +kernel), List.mem_of_getElem? (i := 1536) (by decide +kernel), List.mem_of_getElem? (i := 1537) (by decide +kernel)⟩
theorem lw_p156 : lw_okq (⟨"EquationTextModel", "endsOperand", "(I)Z"⟩, 39) := ⟨⟨by decide +kernel, by decide +kernel⟩, List.mem_of_getElem? (i := 1047) (by decide +kernel), List.mem_of_getElem? (i := 1540) (by decide +kernel), List.mem_of_getElem? (i := 1541) (by decide +kernel)⟩
theorem lw_p157 : lw_okq (⟨"EquationTextModel", "isTight", "(II)Z"⟩, 39) := ⟨⟨by decide +kernel, by decide +kernel⟩, List.mem_of_getElem? (i := 1047) (by decide +kernel), List.mem_of_getElem? (i := 1544) (by decide +kernel), List.mem_of_getElem? (i := 1545) (by decide +kernel)⟩
theorem lw_p158 : lw_okq (⟨"EquationTextModel", "buildItem", "(III)V"⟩, 39) := ⟨⟨by decide +kernel, by decide +kernel⟩, List.mem_of_getElem? (i := 1047) (by decide +kernel), List.mem_of_getElem? (i := 1548) (by decide +kernel), List.mem_of_getElem? (i := 1549) (by decide +kernel)⟩
theorem lw_p159 : lw_okq (⟨"EquationTextModel", "buildRow", "(III)V"⟩, 39) := ⟨⟨by decide +kernel, by decide +kernel⟩, List.mem_of_getElem? (i := 1047) (by decide +kernel), List.mem_of_getElem? (i := 1552) (by decide +kernel), List.mem_of_getElem? (i := 1553) (by decide +kernel)⟩
def lw_privs_10 : List (MethodName × Nat) := [(⟨"EquationTextModel", "nameOf", "(I)I"⟩, 39), (⟨"EquationTextModel", "placeOf", "(I)I"⟩, 39), (⟨"EquationTextModel", "nameNodes", "(III)V"⟩, 39), (⟨"EquationTextModel", "leafNode", "(III)I"⟩, 39), (⟨"EquationTextModel", "buildIf", "(II)V"⟩, 39), (⟨"EquationTextModel", "branchEnd", "(I)I"⟩, 39), (⟨"EquationTextModel", "expressions", "(III)V"⟩, 39), (⟨"EquationTextModel", "buildSimple", "(III)V"⟩, 39), (⟨"EquationTextModel", "buildExpression", "(IIII)V"⟩, 39), (⟨"EquationTextModel", "around", "(II)I"⟩, 39), (⟨"EquationTextModel", "rankBetween", "(II)I"⟩, 39), (⟨"EquationTextModel", "lastOf", "(III)I"⟩, 39), (⟨"EquationTextModel", "endsOperand", "(I)Z"⟩, 39), (⟨"EquationTextModel", "isTight", "(II)Z"⟩, 39), (⟨"EquationTextModel", "buildItem", "(III)V"⟩, 39), (⟨"EquationTextModel", "buildRow", "(III)V"⟩, 39)]
theorem lw_r10 : ∀ q ∈ lw_privs_10, lw_okq q := List.forall_mem_cons.mpr ⟨lw_p144, List.forall_mem_cons.mpr ⟨lw_p145, List.forall_mem_cons.mpr ⟨lw_p146, List.forall_mem_cons.mpr ⟨lw_p147, List.forall_mem_cons.mpr ⟨lw_p148, List.forall_mem_cons.mpr ⟨lw_p149, List.forall_mem_cons.mpr ⟨lw_p150, List.forall_mem_cons.mpr ⟨lw_p151, List.forall_mem_cons.mpr ⟨lw_p152, List.forall_mem_cons.mpr ⟨lw_p153, List.forall_mem_cons.mpr ⟨lw_p154, List.forall_mem_cons.mpr ⟨lw_p155, List.forall_mem_cons.mpr ⟨lw_p156, List.forall_mem_cons.mpr ⟨lw_p157, List.forall_mem_cons.mpr ⟨lw_p158, List.forall_mem_cons.mpr ⟨lw_p159, fun _ h => absurd h List.not_mem_nil⟩⟩⟩⟩⟩⟩⟩⟩⟩⟩⟩⟩⟩⟩⟩⟩
theorem lw_p160 : lw_okq (⟨"EquationTextModel", "buildBlock", "(IIII)V"⟩, 39) := ⟨⟨by decide +kernel, by decide +kernel⟩, List.mem_of_getElem? (i := 1047) (by decide +kernel), List.mem_of_getElem? (i := 1556) (by decide +kernel), List.mem_of_getElem? (i := 1557) (by decide +kernel)⟩
theorem lw_p161 : lw_okq (⟨"EquationTextModel", "swapTexts", "()V"⟩, 39) := ⟨⟨by decide +kernel, by decide +kernel⟩, List.mem_of_getElem? (i := 1047) (by decide +kernel), List.mem_of_getElem? (i := 1560) (by decide +kernel), List.mem_of_getElem? (i := 1561) (by decide +kernel)⟩
theorem lw_p162 : lw_okq (⟨"EquationTextModel", "swap", "(LEquationTextModel$Numbers;LEquationTextModel$Numbers;)V"⟩, 39) := ⟨⟨by decide +kernel, by decide +kernel⟩, List.mem_of_getElem? (i := 1047) (by decide +kernel), List.mem_of_getElem? (i := 1564) (by decide +kernel), List.mem_of_getElem? (i := 1565) (by decide +kernel)⟩
theorem lw_p163 : lw_okq (⟨"EquationTextModel", "isNode", "(I)Z"⟩, 39) := ⟨⟨by decide +kernel, by decide +kernel⟩, List.mem_of_getElem? (i := 1047) (by decide +kernel), List.mem_of_getElem? (i := 1580) (by decide +kernel), List.mem_of_getElem? (i := 1581) (by decide +kernel)⟩
theorem lw_p164 : lw_okq (⟨"EquationTextModel", "indent", "(I)V"⟩, 39) := ⟨⟨by decide +kernel, by decide +kernel⟩, List.mem_of_getElem? (i := 1047) (by decide +kernel), List.mem_of_getElem? (i := 1596) (by decide +kernel), List.mem_of_getElem? (i := 1597) (by decide +kernel)⟩
theorem lw_p165 : lw_okq (⟨"EquationTextModel", "say", "(Ljava/lang/String;)V"⟩, 39) := ⟨⟨by decide +kernel, by decide +kernel⟩, List.mem_of_getElem? (i := 1047) (by decide +kernel), List.mem_of_getElem? (i := 1601) (by decide +kernel), List.mem_of_getElem? (i := 1602) (by decide +kernel)⟩
theorem lw_p166 : lw_okq (⟨"EquationTextModel", "sayLine", "(I)I"⟩, 39) := ⟨⟨by decide +kernel, by decide +kernel⟩, List.mem_of_getElem? (i := 1047) (by decide +kernel), List.mem_of_getElem? (i := 1605) (by decide +kernel), List.mem_of_getElem? (i := 1606) (by decide +kernel)⟩
theorem lw_p167 : lw_okq (⟨"EquationTextModel", "sayToken", "(I)V"⟩, 39) := ⟨⟨by decide +kernel, by decide +kernel⟩, List.mem_of_getElem? (i := 1047) (by decide +kernel), List.mem_of_getElem? (i := 1609) (by decide +kernel), List.mem_of_getElem? (i := 1610) (by decide +kernel)⟩
theorem lw_p168 : lw_okq (⟨"EquationTextModel", "sayTokens", "(II)V"⟩, 39) := ⟨⟨by decide +kernel, by decide +kernel⟩, List.mem_of_getElem? (i := 1047) (by decide +kernel), List.mem_of_getElem? (i := 1615) (by decide +kernel), List.mem_of_getElem? (i := 1616) (by decide +kernel)⟩
def lw_privs_11 : List (MethodName × Nat) := [(⟨"EquationTextModel", "buildBlock", "(IIII)V"⟩, 39), (⟨"EquationTextModel", "swapTexts", "()V"⟩, 39), (⟨"EquationTextModel", "swap", "(LEquationTextModel$Numbers;LEquationTextModel$Numbers;)V"⟩, 39), (⟨"EquationTextModel", "isNode", "(I)Z"⟩, 39), (⟨"EquationTextModel", "indent", "(I)V"⟩, 39), (⟨"EquationTextModel", "say", "(Ljava/lang/String;)V"⟩, 39), (⟨"EquationTextModel", "sayLine", "(I)I"⟩, 39), (⟨"EquationTextModel", "sayToken", "(I)V"⟩, 39), (⟨"EquationTextModel", "sayTokens", "(II)V"⟩, 39)]
theorem lw_r11 : ∀ q ∈ lw_privs_11, lw_okq q := List.forall_mem_cons.mpr ⟨lw_p160, List.forall_mem_cons.mpr ⟨lw_p161, List.forall_mem_cons.mpr ⟨lw_p162, List.forall_mem_cons.mpr ⟨lw_p163, List.forall_mem_cons.mpr ⟨lw_p164, List.forall_mem_cons.mpr ⟨lw_p165, List.forall_mem_cons.mpr ⟨lw_p166, List.forall_mem_cons.mpr ⟨lw_p167, List.forall_mem_cons.mpr ⟨lw_p168, fun _ h => absurd h List.not_mem_nil⟩⟩⟩⟩⟩⟩⟩⟩⟩
def lw_privs : List (MethodName × Nat) := lw_privs_1 ++ (lw_privs_2 ++ (lw_privs_3 ++ (lw_privs_4 ++ (lw_privs_5 ++ (lw_privs_6 ++ (lw_privs_7 ++ (lw_privs_8 ++ (lw_privs_9 ++ (lw_privs_10 ++ (lw_privs_11))))))))))
def lw_tbl : List Cond := k2_sels lw_privs ++ tables_1
theorem lw_privs_ok : ∀ q ∈ lw_privs, lw_okq q := by
  show ∀ q ∈ lw_privs_1 ++ (lw_privs_2 ++ (lw_privs_3 ++ (lw_privs_4 ++ (lw_privs_5 ++ (lw_privs_6 ++ (lw_privs_7 ++ (lw_privs_8 ++ (lw_privs_9 ++ (lw_privs_10 ++ (lw_privs_11)))))))))), lw_okq q
  exact List.forall_mem_append.mpr ⟨lw_r1, List.forall_mem_append.mpr ⟨lw_r2, List.forall_mem_append.mpr ⟨lw_r3, List.forall_mem_append.mpr ⟨lw_r4, List.forall_mem_append.mpr ⟨lw_r5, List.forall_mem_append.mpr ⟨lw_r6, List.forall_mem_append.mpr ⟨lw_r7, List.forall_mem_append.mpr ⟨lw_r8, List.forall_mem_append.mpr ⟨lw_r9, List.forall_mem_append.mpr ⟨lw_r10, lw_r11⟩⟩⟩⟩⟩⟩⟩⟩⟩⟩

theorem goodIn_r {big : List Cond} (ws : List Cond) (ps : List Nat) (hp : ws = ps.filterMap (fun i => big[i]?)) (h : ws.all goodWord = true) : GoodIn big ws := by
  intro w hw
  have h1 := List.all_eq_true.mp h w hw
  rw [hp] at hw
  obtain ⟨i, -, hi⟩ := List.mem_filterMap.mp hw
  have hm : w ∈ big := by first | exact List.mem_of_getElem? hi | exact List.getElem?_mem hi
  exact ⟨hm, good_of_word h1⟩
abbrev R_Eq : String := "EquationText"
abbrev R_Fr : String := "EquationText$Frame"
abbrev R_Nd : String := "EquationText$Nodes"
abbrev R_Rd : String := "EquationText$Reader"
abbrev R_Rw : String := "EquationText$Row"
abbrev R_Sc : String := "EquationText$Scanner"
abbrev R_Tk : String := "EquationText$Tokens"
abbrev R_Wr : String := "EquationText$Writer"
abbrev R_Rk : String := "EquationText$Rank"
abbrev R_Mo : String := "EquationTextModel"
abbrev R_Nm : String := "EquationTextModel$Numbers"
abbrev R_La : String := "EquationTextLaw"
abbrev R_JA : String := "java/util/Arrays"
abbrev R_JM : String := "java/lang/Math"
abbrev R_JS : String := "java/lang/String"
abbrev R_JL : String := "java/lang/StringLatin1"
abbrev R_JY : String := "java/lang/System"
abbrev R_JO : String := "java/lang/Object"
abbrev R_JT : String := "java/lang/Throwable"
abbrev R_JE : String := "java/lang/Exception"
abbrev R_JR : String := "java/lang/RuntimeException"
abbrev R_JI : String := "java/lang/IllegalArgumentException"
abbrev R_JP : String := "jdk/internal/util/Preconditions"
abbrev R_JU : String := "java/lang/StringUTF16"
abbrev y_Eq_init : MethodName := ⟨"EquationText", "<init>", "()V"⟩
abbrev y_JO_init : MethodName := ⟨"java/lang/Object", "<init>", "()V"⟩
abbrev y_Rd_init : MethodName := ⟨"EquationText$Reader", "<init>", "()V"⟩
abbrev y_Sc_init : MethodName := ⟨"EquationText$Scanner", "<init>", "()V"⟩
abbrev y_Rw_init : MethodName := ⟨"EquationText$Row", "<init>", "()V"⟩
abbrev y_Nd_init : MethodName := ⟨"EquationText$Nodes", "<init>", "()V"⟩
abbrev y_Tk_init : MethodName := ⟨"EquationText$Tokens", "<init>", "()V"⟩
abbrev y_Fr_init : MethodName := ⟨"EquationText$Frame", "<init>", "(LEquationText$Frame;)V"⟩
abbrev y_Wr_init : MethodName := ⟨"EquationText$Writer", "<init>", "()V"⟩
abbrev y_Eq_feed : MethodName := ⟨"EquationText", "feed", "(IIIII)I"⟩
abbrev y_Rw_size : MethodName := ⟨"EquationText$Row", "size", "()I"⟩
abbrev y_Rw_addFour : MethodName := ⟨"EquationText$Row", "addFour", "(I)V"⟩
abbrev y_Rw_add : MethodName := ⟨"EquationText$Row", "add", "(I)Z"⟩
abbrev y_JA_copyOf : MethodName := ⟨"java/util/Arrays", "copyOf", "([BI)[B"⟩
abbrev y_JM_min : MethodName := ⟨"java/lang/Math", "min", "(II)I"⟩
abbrev y_Eq_read : MethodName := ⟨"EquationText", "read", "()I"⟩
abbrev y_Rd_take : MethodName := ⟨"EquationText$Reader", "take", "(LEquationText$Row;)I"⟩
abbrev y_Rd_begin : MethodName := ⟨"EquationText$Reader", "begin", "(LEquationText$Row;)V"⟩
abbrev y_Sc_begin : MethodName := ⟨"EquationText$Scanner", "begin", "(LEquationText$Row;)V"⟩
abbrev y_Nd_clear : MethodName := ⟨"EquationText$Nodes", "clear", "()V"⟩
abbrev y_Tk_clear : MethodName := ⟨"EquationText$Tokens", "clear", "()V"⟩
abbrev y_Fr_begin : MethodName := ⟨"EquationText$Frame", "begin", "(III)V"⟩
abbrev y_Sc_step : MethodName := ⟨"EquationText$Scanner", "step", "()V"⟩
abbrev y_Sc_skipBlanks : MethodName := ⟨"EquationText$Scanner", "skipBlanks", "()V"⟩
abbrev y_Rw_at : MethodName := ⟨"EquationText$Row", "at", "(I)I"⟩
abbrev y_Sc_isLetter : MethodName := ⟨"EquationText$Scanner", "isLetter", "(I)Z"⟩
abbrev y_Sc_scanName : MethodName := ⟨"EquationText$Scanner", "scanName", "()V"⟩
abbrev y_Sc_isDigit : MethodName := ⟨"EquationText$Scanner", "isDigit", "(I)Z"⟩
abbrev y_Sc_wordOrName : MethodName := ⟨"EquationText$Scanner", "wordOrName", "()I"⟩
abbrev y_Sc_is : MethodName := ⟨"EquationText$Scanner", "is", "(Ljava/lang/String;)Z"⟩
abbrev y_JS_length : MethodName := ⟨"java/lang/String", "length", "()I"⟩
abbrev y_JS_coder : MethodName := ⟨"java/lang/String", "coder", "()B"⟩
abbrev y_JS_charAt : MethodName := ⟨"java/lang/String", "charAt", "(I)C"⟩
abbrev y_JS_isLatin1 : MethodName := ⟨"java/lang/String", "isLatin1", "()Z"⟩
abbrev y_JL_charAt : MethodName := ⟨"java/lang/StringLatin1", "charAt", "([BI)C"⟩
abbrev y_JS_checkIndex : MethodName := ⟨"java/lang/String", "checkIndex", "(II)V"⟩
abbrev y_JP_checkIndex : MethodName := ⟨"jdk/internal/util/Preconditions", "checkIndex", "(IILjava/util/function/BiFunction;)I"⟩
abbrev y_JU_charAt : MethodName := ⟨"java/lang/StringUTF16", "charAt", "([BI)C"⟩
abbrev y_JU_checkIndex : MethodName := ⟨"java/lang/StringUTF16", "checkIndex", "(I[B)V"⟩
abbrev y_JU_length : MethodName := ⟨"java/lang/StringUTF16", "length", "([B)I"⟩
abbrev y_JU_getChar : MethodName := ⟨"java/lang/StringUTF16", "getChar", "([BI)C"⟩
abbrev y_Sc_scanNumeral : MethodName := ⟨"EquationText$Scanner", "scanNumeral", "()V"⟩
abbrev y_Sc_digitsEnd : MethodName := ⟨"EquationText$Scanner", "digitsEnd", "(I)I"⟩
abbrev y_Sc_isFinite : MethodName := ⟨"EquationText$Scanner", "isFinite", "(II)Z"⟩
abbrev y_Sc_exponent : MethodName := ⟨"EquationText$Scanner", "exponent", "(II)I"⟩
abbrev y_Sc_isBelowTooLarge : MethodName := ⟨"EquationText$Scanner", "isBelowTooLarge", "(II)Z"⟩
abbrev y_Sc_scanText : MethodName := ⟨"EquationText$Scanner", "scanText", "()V"⟩
abbrev y_Sc_signs : MethodName := ⟨"EquationText$Scanner", "signs", "(II)I"⟩
abbrev y_Sc_kind : MethodName := ⟨"EquationText$Scanner", "kind", "()I"⟩
abbrev y_Nd_add : MethodName := ⟨"EquationText$Nodes", "add", "(IIIII)V"⟩
abbrev y_JA_copyOf2 : MethodName := ⟨"java/util/Arrays", "copyOf", "([II)[I"⟩
abbrev y_Nd_get : MethodName := ⟨"EquationText$Nodes", "get", "(II)I"⟩
abbrev y_Rd_settle : MethodName := ⟨"EquationText$Reader", "settle", "()V"⟩
abbrev y_Sc_isWord : MethodName := ⟨"EquationText$Scanner", "isWord", "(I)Z"⟩
abbrev y_Rd_push : MethodName := ⟨"EquationText$Reader", "push", "(I)V"⟩
abbrev y_Sc_start : MethodName := ⟨"EquationText$Scanner", "start", "()I"⟩
abbrev y_Sc_width : MethodName := ⟨"EquationText$Scanner", "width", "()I"⟩
abbrev y_Tk_count : MethodName := ⟨"EquationText$Tokens", "count", "()I"⟩
abbrev y_Rd_settleStart : MethodName := ⟨"EquationText$Reader", "settleStart", "()V"⟩
abbrev y_Rd_endItem : MethodName := ⟨"EquationText$Reader", "endItem", "()Z"⟩
abbrev y_Tk_last : MethodName := ⟨"EquationText$Tokens", "last", "(I)I"⟩
abbrev y_Tk_get : MethodName := ⟨"EquationText$Tokens", "get", "(II)I"⟩
abbrev y_Tk_dropLast : MethodName := ⟨"EquationText$Tokens", "dropLast", "()V"⟩
abbrev y_Rd_becomeTargets : MethodName := ⟨"EquationText$Reader", "becomeTargets", "(I)Z"⟩
abbrev y_Rd_pop : MethodName := ⟨"EquationText$Reader", "pop", "()V"⟩
abbrev y_Rd_addNothing : MethodName := ⟨"EquationText$Reader", "addNothing", "(I)Z"⟩
abbrev y_Rd_goOn : MethodName := ⟨"EquationText$Reader", "goOn", "(I)Z"⟩
abbrev y_Rd_standsInExpression : MethodName := ⟨"EquationText$Reader", "standsInExpression", "()Z"⟩
abbrev y_Rd_takeAtStart : MethodName := ⟨"EquationText$Reader", "takeAtStart", "()Z"⟩
abbrev y_Rd_isCall : MethodName := ⟨"EquationText$Reader", "isCall", "(I)Z"⟩
abbrev y_Rd_closeCall : MethodName := ⟨"EquationText$Reader", "closeCall", "()Z"⟩
abbrev y_Rd_closeItem : MethodName := ⟨"EquationText$Reader", "closeItem", "()Z"⟩
abbrev y_Rd_closeRows : MethodName := ⟨"EquationText$Reader", "closeRows", "()Z"⟩
abbrev y_Rd_addAll : MethodName := ⟨"EquationText$Reader", "addAll", "()Z"⟩
abbrev y_Nd_addLeaf : MethodName := ⟨"EquationText$Nodes", "addLeaf", "(III)V"⟩
abbrev y_Rd_takeSign : MethodName := ⟨"EquationText$Reader", "takeSign", "()Z"⟩
abbrev y_Rd_goDeeper : MethodName := ⟨"EquationText$Reader", "goDeeper", "()Z"⟩
abbrev y_Tk_add : MethodName := ⟨"EquationText$Tokens", "add", "(III)V"⟩
abbrev y_Rd_takeOperand : MethodName := ⟨"EquationText$Reader", "takeOperand", "()Z"⟩
abbrev y_Rd_addItem : MethodName := ⟨"EquationText$Reader", "addItem", "(I)Z"⟩
abbrev y_Rd_addName : MethodName := ⟨"EquationText$Reader", "addName", "(I)Z"⟩
abbrev y_Rd_limitNearestCall : MethodName := ⟨"EquationText$Reader", "limitNearestCall", "()Z"⟩
abbrev y_Rd_openItem : MethodName := ⟨"EquationText$Reader", "openItem", "(I)Z"⟩
abbrev y_Rd_takePowerSign : MethodName := ⟨"EquationText$Reader", "takePowerSign", "()Z"⟩
abbrev y_Rd_takeOperator : MethodName := ⟨"EquationText$Reader", "takeOperator", "()Z"⟩
abbrev y_Rk_of : MethodName := ⟨"EquationText$Rank", "of", "(I)I"⟩
abbrev y_Rd_endWaiting : MethodName := ⟨"EquationText$Reader", "endWaiting", "(I)V"⟩
abbrev y_Rd_takeComma : MethodName := ⟨"EquationText$Reader", "takeComma", "()Z"⟩
abbrev y_Rd_hasRoomForName : MethodName := ⟨"EquationText$Reader", "hasRoomForName", "()Z"⟩
abbrev y_Rd_takeSemicolon : MethodName := ⟨"EquationText$Reader", "takeSemicolon", "()Z"⟩
abbrev y_Rd_endRow : MethodName := ⟨"EquationText$Reader", "endRow", "()Z"⟩
abbrev y_Rd_endPlain : MethodName := ⟨"EquationText$Reader", "endPlain", "(I)Z"⟩
abbrev y_Rd_endStatement : MethodName := ⟨"EquationText$Reader", "endStatement", "()Z"⟩
abbrev y_Rd_closeBracket : MethodName := ⟨"EquationText$Reader", "closeBracket", "()Z"⟩
abbrev y_Rd_endHead : MethodName := ⟨"EquationText$Reader", "endHead", "()Z"⟩
abbrev y_Rd_beginBlock : MethodName := ⟨"EquationText$Reader", "beginBlock", "()V"⟩
abbrev y_Rd_takeEquals : MethodName := ⟨"EquationText$Reader", "takeEquals", "()Z"⟩
abbrev y_Nd_last : MethodName := ⟨"EquationText$Nodes", "last", "(I)I"⟩
abbrev y_Rd_takeColon : MethodName := ⟨"EquationText$Reader", "takeColon", "()Z"⟩
abbrev y_Rd_takeOperation : MethodName := ⟨"EquationText$Reader", "takeOperation", "(I)Z"⟩
abbrev y_Tk_giveLastSecond : MethodName := ⟨"EquationText$Tokens", "giveLastSecond", "(I)V"⟩
abbrev y_Rd_openArguments : MethodName := ⟨"EquationText$Reader", "openArguments", "()Z"⟩
abbrev y_Nd_dropLast : MethodName := ⟨"EquationText$Nodes", "dropLast", "()V"⟩
abbrev y_Rd_openCall : MethodName := ⟨"EquationText$Reader", "openCall", "()Z"⟩
abbrev y_Rd_turnRowsToTargets : MethodName := ⟨"EquationText$Reader", "turnRowsToTargets", "()Z"⟩
abbrev y_Rd_takeSeveralEquals : MethodName := ⟨"EquationText$Reader", "takeSeveralEquals", "()Z"⟩
abbrev y_Rd_standsInSeveral : MethodName := ⟨"EquationText$Reader", "standsInSeveral", "()Z"⟩
abbrev y_Rd_addTarget : MethodName := ⟨"EquationText$Reader", "addTarget", "()Z"⟩
abbrev y_Rd_endTargets : MethodName := ⟨"EquationText$Reader", "endTargets", "()Z"⟩
abbrev y_Rd_beginCall : MethodName := ⟨"EquationText$Reader", "beginCall", "()Z"⟩
abbrev y_Rd_endSeveral : MethodName := ⟨"EquationText$Reader", "endSeveral", "()Z"⟩
abbrev y_Rd_standsInFunctionHead : MethodName := ⟨"EquationText$Reader", "standsInFunctionHead", "()Z"⟩
abbrev y_Rd_keepName : MethodName := ⟨"EquationText$Reader", "keepName", "(I)Z"⟩
abbrev y_Rd_takeFirstAsResult : MethodName := ⟨"EquationText$Reader", "takeFirstAsResult", "()Z"⟩
abbrev y_Rd_takeFirstAsName : MethodName := ⟨"EquationText$Reader", "takeFirstAsName", "()Z"⟩
abbrev y_Rd_nameFunction : MethodName := ⟨"EquationText$Reader", "nameFunction", "()Z"⟩
abbrev y_Rw_same : MethodName := ⟨"EquationText$Row", "same", "(III)Z"⟩
abbrev y_Rd_endNames : MethodName := ⟨"EquationText$Reader", "endNames", "(I)V"⟩
abbrev y_Rd_openParameters : MethodName := ⟨"EquationText$Reader", "openParameters", "()Z"⟩
abbrev y_Rd_addDifferentName : MethodName := ⟨"EquationText$Reader", "addDifferentName", "(I)Z"⟩
abbrev y_Nd_count : MethodName := ⟨"EquationText$Nodes", "count", "()I"⟩
abbrev y_Rd_endParameters : MethodName := ⟨"EquationText$Reader", "endParameters", "()Z"⟩
abbrev y_Rd_standsInStatement : MethodName := ⟨"EquationText$Reader", "standsInStatement", "()Z"⟩
abbrev y_Rd_beginStatement : MethodName := ⟨"EquationText$Reader", "beginStatement", "()Z"⟩
abbrev y_Rd_openBlocks : MethodName := ⟨"EquationText$Reader", "openBlocks", "(II)Z"⟩
abbrev y_Rd_isLoop : MethodName := ⟨"EquationText$Reader", "isLoop", "(I)Z"⟩
abbrev y_Rd_nextBlock : MethodName := ⟨"EquationText$Reader", "nextBlock", "(IZI)Z"⟩
abbrev y_Rd_endBlock : MethodName := ⟨"EquationText$Reader", "endBlock", "()V"⟩
abbrev y_Rd_endBlocks : MethodName := ⟨"EquationText$Reader", "endBlocks", "()Z"⟩
abbrev y_Rd_addWord : MethodName := ⟨"EquationText$Reader", "addWord", "(I)Z"⟩
abbrev y_Rd_openValues : MethodName := ⟨"EquationText$Reader", "openValues", "(I)Z"⟩
abbrev y_Rd_openHead : MethodName := ⟨"EquationText$Reader", "openHead", "()Z"⟩
abbrev y_Rd_fault : MethodName := ⟨"EquationText$Reader", "fault", "()I"⟩
abbrev y_Rd_draft : MethodName := ⟨"EquationText$Reader", "draft", "()LEquationText$Nodes;"⟩
abbrev y_Nd_arrange : MethodName := ⟨"EquationText$Nodes", "arrange", "(LEquationText$Nodes;)V"⟩
abbrev y_Nd_set : MethodName := ⟨"EquationText$Nodes", "set", "(III)V"⟩
abbrev y_Nd_linkParts : MethodName := ⟨"EquationText$Nodes", "linkParts", "(LEquationText$Nodes;II)V"⟩
abbrev y_Nd_after : MethodName := ⟨"EquationText$Nodes", "after", "(I)I"⟩
abbrev y_Rw_cut : MethodName := ⟨"EquationText$Row", "cut", "(I)V"⟩
abbrev y_Eq_place : MethodName := ⟨"EquationText", "place", "()I"⟩
abbrev y_Eq_nodes : MethodName := ⟨"EquationText", "nodes", "()I"⟩
abbrev y_Eq_node : MethodName := ⟨"EquationText", "node", "(II)I"⟩
abbrev y_Eq_part : MethodName := ⟨"EquationText", "part", "(II)I"⟩
abbrev y_Eq_character : MethodName := ⟨"EquationText", "character", "(II)I"⟩
abbrev y_Nd_tokenPlace : MethodName := ⟨"EquationText$Nodes", "tokenPlace", "(I)I"⟩
abbrev y_Eq_write : MethodName := ⟨"EquationText", "write", "()I"⟩
abbrev y_Wr_fits : MethodName := ⟨"EquationText$Writer", "fits", "(LEquationText$Nodes;LEquationText$Row;LEquationText$Row;)Z"⟩
abbrev y_Wr_enter : MethodName := ⟨"EquationText$Writer", "enter", "(I)V"⟩
abbrev y_Wr_leadFirst : MethodName := ⟨"EquationText$Writer", "leadFirst", "(II)V"⟩
abbrev y_Wr_kind : MethodName := ⟨"EquationText$Writer", "kind", "(I)I"⟩
abbrev y_Wr_put : MethodName := ⟨"EquationText$Writer", "put", "(Ljava/lang/String;)V"⟩
abbrev y_Wr_beginLine : MethodName := ⟨"EquationText$Writer", "beginLine", "(Ljava/lang/String;)V"⟩
abbrev y_Wr_lead : MethodName := ⟨"EquationText$Writer", "lead", "(II)V"⟩
abbrev y_Wr_putOperation : MethodName := ⟨"EquationText$Writer", "putOperation", "(I)V"⟩
abbrev y_Wr_rank : MethodName := ⟨"EquationText$Writer", "rank", "(I)I"⟩
abbrev y_Wr_putToken : MethodName := ⟨"EquationText$Writer", "putToken", "(I)V"⟩
abbrev y_Wr_isElse : MethodName := ⟨"EquationText$Writer", "isElse", "(II)Z"⟩
abbrev y_Wr_needsBrackets : MethodName := ⟨"EquationText$Writer", "needsBrackets", "(II)Z"⟩
abbrev y_Wr_isPowerSign : MethodName := ⟨"EquationText$Writer", "isPowerSign", "(II)Z"⟩
abbrev y_Wr_begin : MethodName := ⟨"EquationText$Writer", "begin", "(I)V"⟩
abbrev y_Wr_leave : MethodName := ⟨"EquationText$Writer", "leave", "(I)V"⟩
abbrev y_Wr_finish : MethodName := ⟨"EquationText$Writer", "finish", "(I)V"⟩
abbrev y_Wr_trail : MethodName := ⟨"EquationText$Writer", "trail", "(II)V"⟩
abbrev y_Wr_trailOfFunction : MethodName := ⟨"EquationText$Writer", "trailOfFunction", "(II)V"⟩
abbrev y_Eq_written : MethodName := ⟨"EquationText", "written", "(I)I"⟩
abbrev y_Eq_rewind : MethodName := ⟨"EquationText", "rewind", "()I"⟩
abbrev y_Rw_become : MethodName := ⟨"EquationText$Row", "become", "(LEquationText$Row;)V"⟩
abbrev y_Eq_end : MethodName := ⟨"EquationText", "end", "(I)I"⟩
abbrev y_JT_init : MethodName := ⟨"java/lang/Throwable", "<init>", "()V"⟩
abbrev y_JI_init : MethodName := ⟨"java/lang/IllegalArgumentException", "<init>", "(Ljava/lang/String;)V"⟩
abbrev y_JR_init : MethodName := ⟨"java/lang/RuntimeException", "<init>", "(Ljava/lang/String;)V"⟩
abbrev y_JE_init : MethodName := ⟨"java/lang/Exception", "<init>", "(Ljava/lang/String;)V"⟩
abbrev y_JT_init2 : MethodName := ⟨"java/lang/Throwable", "<init>", "(Ljava/lang/String;)V"⟩
abbrev y_Mo_init : MethodName := ⟨"EquationTextModel", "<init>", "()V"⟩
abbrev y_Nm_init : MethodName := ⟨"EquationTextModel$Numbers", "<init>", "()V"⟩
abbrev y_Mo_twice : MethodName := ⟨"EquationTextModel", "twice", "([I)V"⟩
abbrev y_Mo_thrown : MethodName := ⟨"EquationTextModel", "thrown", "()I"⟩
abbrev y_Mo_feed : MethodName := ⟨"EquationTextModel", "feed", "(IIIII)I"⟩
abbrev y_Mo_feedFour : MethodName := ⟨"EquationTextModel", "feedFour", "(I)V"⟩
abbrev y_Nm_add : MethodName := ⟨"EquationTextModel$Numbers", "add", "(I)V"⟩
abbrev y_Mo_end : MethodName := ⟨"EquationTextModel", "end", "(I)I"⟩
abbrev y_Nm_drop : MethodName := ⟨"EquationTextModel$Numbers", "drop", "(I)V"⟩
abbrev y_Mo_read : MethodName := ⟨"EquationTextModel", "read", "()I"⟩
abbrev y_Nm_become : MethodName := ⟨"EquationTextModel$Numbers", "become", "(LEquationTextModel$Numbers;)V"⟩
abbrev y_Mo_cut : MethodName := ⟨"EquationTextModel", "cut", "()V"⟩
abbrev y_Mo_skip : MethodName := ⟨"EquationTextModel", "skip", "(I)I"⟩
abbrev y_Nm_at : MethodName := ⟨"EquationTextModel$Numbers", "at", "(I)I"⟩
abbrev y_Mo_isBlank : MethodName := ⟨"EquationTextModel", "isBlank", "(I)Z"⟩
abbrev y_Mo_token : MethodName := ⟨"EquationTextModel", "token", "(I)I"⟩
abbrev y_Mo_letter : MethodName := ⟨"EquationTextModel", "letter", "(I)I"⟩
abbrev y_Mo_isLetter : MethodName := ⟨"EquationTextModel", "isLetter", "(I)Z"⟩
abbrev y_Mo_isDigit : MethodName := ⟨"EquationTextModel", "isDigit", "(I)Z"⟩
abbrev y_Mo_stands : MethodName := ⟨"EquationTextModel", "stands", "(Ljava/lang/String;I)Z"⟩
abbrev y_Mo_numeralEnd : MethodName := ⟨"EquationTextModel", "numeralEnd", "(I)I"⟩
abbrev y_Mo_digitsEnd : MethodName := ⟨"EquationTextModel", "digitsEnd", "(I)I"⟩
abbrev y_Mo_isFinite : MethodName := ⟨"EquationTextModel", "isFinite", "(II)Z"⟩
abbrev y_Mo_readProgram : MethodName := ⟨"EquationTextModel", "readProgram", "()Z"⟩
abbrev y_Mo_kind : MethodName := ⟨"EquationTextModel", "kind", "()I"⟩
abbrev y_Mo_readStatement : MethodName := ⟨"EquationTextModel", "readStatement", "()Z"⟩
abbrev y_Mo_readFunction : MethodName := ⟨"EquationTextModel", "readFunction", "()Z"⟩
abbrev y_Mo_enter : MethodName := ⟨"EquationTextModel", "enter", "(I)Z"⟩
abbrev y_Mo_fail : MethodName := ⟨"EquationTextModel", "fail", "()Z"⟩
abbrev y_Mo_readNames : MethodName := ⟨"EquationTextModel", "readNames", "()Z"⟩
abbrev y_Mo_sameName : MethodName := ⟨"EquationTextModel", "sameName", "(II)Z"⟩
abbrev y_Mo_leave : MethodName := ⟨"EquationTextModel", "leave", "(I)Z"⟩
abbrev y_Mo_take : MethodName := ⟨"EquationTextModel", "take", "(I)Z"⟩
abbrev y_Mo_isFunction : MethodName := ⟨"EquationTextModel", "isFunction", "(I)Z"⟩
abbrev y_Mo_readCondition : MethodName := ⟨"EquationTextModel", "readCondition", "()Z"⟩
abbrev y_Mo_readExpression : MethodName := ⟨"EquationTextModel", "readExpression", "()Z"⟩
abbrev y_Mo_push : MethodName := ⟨"EquationTextModel", "push", "(II)V"⟩
abbrev y_Mo_setTop : MethodName := ⟨"EquationTextModel", "setTop", "(II)V"⟩
abbrev y_Mo_wholeColon : MethodName := ⟨"EquationTextModel", "wholeColon", "()I"⟩
abbrev y_Mo_mark : MethodName := ⟨"EquationTextModel", "mark", "()Z"⟩
abbrev y_Mo_failed : MethodName := ⟨"EquationTextModel", "failed", "()Z"⟩
abbrev y_Mo_isColonBefore : MethodName := ⟨"EquationTextModel", "isColonBefore", "()Z"⟩
abbrev y_Mo_rankOf : MethodName := ⟨"EquationTextModel", "rankOf", "(I)I"⟩
abbrev y_Mo_isEmptyOpen : MethodName := ⟨"EquationTextModel", "isEmptyOpen", "()Z"⟩
abbrev y_Mo_top : MethodName := ⟨"EquationTextModel", "top", "(I)I"⟩
abbrev y_Mo_inBracket : MethodName := ⟨"EquationTextModel", "inBracket", "(II)I"⟩
abbrev y_Mo_block : MethodName := ⟨"EquationTextModel", "block", "()I"⟩
abbrev y_Nm_last : MethodName := ⟨"EquationTextModel$Numbers", "last", "()I"⟩
abbrev y_Mo_isInLoop : MethodName := ⟨"EquationTextModel", "isInLoop", "()Z"⟩
abbrev y_Mo_readSeveral : MethodName := ⟨"EquationTextModel", "readSeveral", "()Z"⟩
abbrev y_Mo_readRowsStatement : MethodName := ⟨"EquationTextModel", "readRowsStatement", "()Z"⟩
abbrev y_Mo_targetsEnd : MethodName := ⟨"EquationTextModel", "targetsEnd", "()I"⟩
abbrev y_Mo_readTargets : MethodName := ⟨"EquationTextModel", "readTargets", "()Z"⟩
abbrev y_Mo_readWorking : MethodName := ⟨"EquationTextModel", "readWorking", "()Z"⟩
abbrev y_Mo_isTarget : MethodName := ⟨"EquationTextModel", "isTarget", "(II)Z"⟩
abbrev y_Mo_closing : MethodName := ⟨"EquationTextModel", "closing", "(I)I"⟩
abbrev y_Mo_build : MethodName := ⟨"EquationTextModel", "build", "()V"⟩
abbrev y_Nm_fill : MethodName := ⟨"EquationTextModel$Numbers", "fill", "(II)V"⟩
abbrev y_Mo_newNode : MethodName := ⟨"EquationTextModel", "newNode", "(IIIII)I"⟩
abbrev y_Mo_task : MethodName := ⟨"EquationTextModel", "task", "(IIIII)V"⟩
abbrev y_Mo_pushTasks : MethodName := ⟨"EquationTextModel", "pushTasks", "()V"⟩
abbrev y_Mo_buildStatements : MethodName := ⟨"EquationTextModel", "buildStatements", "(III)V"⟩
abbrev y_Mo_statementEnd : MethodName := ⟨"EquationTextModel", "statementEnd", "(I)I"⟩
abbrev y_Mo_opensBlock : MethodName := ⟨"EquationTextModel", "opensBlock", "(I)Z"⟩
abbrev y_Mo_stopOf : MethodName := ⟨"EquationTextModel", "stopOf", "(I)I"⟩
abbrev y_Mo_buildStatement : MethodName := ⟨"EquationTextModel", "buildStatement", "(III)V"⟩
abbrev y_Mo_buildFunction : MethodName := ⟨"EquationTextModel", "buildFunction", "(III)V"⟩
abbrev y_Mo_nameOf : MethodName := ⟨"EquationTextModel", "nameOf", "(I)I"⟩
abbrev y_Mo_placeOf : MethodName := ⟨"EquationTextModel", "placeOf", "(I)I"⟩
abbrev y_Mo_nameNodes : MethodName := ⟨"EquationTextModel", "nameNodes", "(III)V"⟩
abbrev y_Mo_leafNode : MethodName := ⟨"EquationTextModel", "leafNode", "(III)I"⟩
abbrev y_Mo_buildIf : MethodName := ⟨"EquationTextModel", "buildIf", "(II)V"⟩
abbrev y_Mo_branchEnd : MethodName := ⟨"EquationTextModel", "branchEnd", "(I)I"⟩
abbrev y_Mo_expressions : MethodName := ⟨"EquationTextModel", "expressions", "(III)V"⟩
abbrev y_Mo_buildSimple : MethodName := ⟨"EquationTextModel", "buildSimple", "(III)V"⟩
abbrev y_Mo_buildExpression : MethodName := ⟨"EquationTextModel", "buildExpression", "(IIII)V"⟩
abbrev y_Mo_around : MethodName := ⟨"EquationTextModel", "around", "(II)I"⟩
abbrev y_Mo_rankBetween : MethodName := ⟨"EquationTextModel", "rankBetween", "(II)I"⟩
abbrev y_Mo_lastOf : MethodName := ⟨"EquationTextModel", "lastOf", "(III)I"⟩
abbrev y_Mo_endsOperand : MethodName := ⟨"EquationTextModel", "endsOperand", "(I)Z"⟩
abbrev y_Mo_isTight : MethodName := ⟨"EquationTextModel", "isTight", "(II)Z"⟩
abbrev y_Mo_buildItem : MethodName := ⟨"EquationTextModel", "buildItem", "(III)V"⟩
abbrev y_Mo_buildRow : MethodName := ⟨"EquationTextModel", "buildRow", "(III)V"⟩
abbrev y_Mo_buildBlock : MethodName := ⟨"EquationTextModel", "buildBlock", "(IIII)V"⟩
abbrev y_Mo_swapTexts : MethodName := ⟨"EquationTextModel", "swapTexts", "()V"⟩
abbrev y_Mo_swap : MethodName := ⟨"EquationTextModel", "swap", "(LEquationTextModel$Numbers;LEquationTextModel$Numbers;)V"⟩
abbrev y_Mo_place : MethodName := ⟨"EquationTextModel", "place", "()I"⟩
abbrev y_Mo_nodes : MethodName := ⟨"EquationTextModel", "nodes", "()I"⟩
abbrev y_Mo_node : MethodName := ⟨"EquationTextModel", "node", "(II)I"⟩
abbrev y_Mo_isNode : MethodName := ⟨"EquationTextModel", "isNode", "(I)Z"⟩
abbrev y_Mo_part : MethodName := ⟨"EquationTextModel", "part", "(II)I"⟩
abbrev y_Mo_character : MethodName := ⟨"EquationTextModel", "character", "(II)I"⟩
abbrev y_Mo_write : MethodName := ⟨"EquationTextModel", "write", "()I"⟩
abbrev y_Mo_indent : MethodName := ⟨"EquationTextModel", "indent", "(I)V"⟩
abbrev y_Mo_say : MethodName := ⟨"EquationTextModel", "say", "(Ljava/lang/String;)V"⟩
abbrev y_Mo_sayLine : MethodName := ⟨"EquationTextModel", "sayLine", "(I)I"⟩
abbrev y_Mo_sayToken : MethodName := ⟨"EquationTextModel", "sayToken", "(I)V"⟩
abbrev y_Mo_sayTokens : MethodName := ⟨"EquationTextModel", "sayTokens", "(II)V"⟩
abbrev y_Mo_written : MethodName := ⟨"EquationTextModel", "written", "(I)I"⟩
abbrev y_Mo_rewind : MethodName := ⟨"EquationTextModel", "rewind", "()I"⟩
def T_Fr : u_T := fun k => match k with
  | 0 => ("EquationText$Frame", "below", "LEquationText$Frame;", true)
  | 1 => ("EquationText$Frame", "above", "LEquationText$Frame;", false)
  | 2 => ("EquationText$Frame", "kind", "I", false)
  | 3 => ("EquationText$Frame", "place", "I", false)
  | 4 => ("EquationText$Frame", "width", "I", false)
  | 5 => ("EquationText$Frame", "second", "I", false)
  | 6 => ("EquationText$Frame", "parts", "I", false)
  | 7 => ("EquationText$Frame", "innerParts", "I", false)
  | 8 => ("EquationText$Frame", "innerPlace", "I", false)
  | 9 => ("EquationText$Frame", "innerWidth", "I", false)
  | 10 => ("EquationText$Frame", "signs", "I", false)
  | 11 => ("EquationText$Frame", "waitingBelow", "I", false)
  | 12 => ("EquationText$Frame", "limited", "Z", false)
  | 13 => ("EquationText$Frame", "targets", "Z", false)
  | _ => ("EquationText$Frame", "lastBlock", "Z", false)
def ty_Fr : Nat → FieldType := fun k => match k with
  | 0 => .object "EquationText$Frame"
  | 1 => .object "EquationText$Frame"
  | 2 => .int
  | 3 => .int
  | 4 => .int
  | 5 => .int
  | 6 => .int
  | 7 => .int
  | 8 => .int
  | 9 => .int
  | 10 => .int
  | 11 => .int
  | 12 => .boolean
  | 13 => .boolean
  | _ => .boolean
theorem nm_Fr : ∀ a, a < 15 → ∀ b, b < 15 → a ≠ b → (T_Fr a).2.1 ≠ (T_Fr b).2.1 := by decide +kernel
theorem tk_Fr : ∀ k, k < 15 → parseFieldDescriptor (T_Fr k).2.2.1 = some (ty_Fr k) := by decide +kernel
set_option maxRecDepth 20000 in
theorem in_Fr : ∀ w ∈ u_ws R_Fr T_Fr 15, w ∈ lw_tbl := fun w hw => (goodIn_r (big := lw_tbl) _ [305, 307, 309, 311, 313, 315, 317, 319, 321, 323, 325, 327, 329, 331, 333] (by decide +kernel) (by decide +kernel) w hw).1
def T_Nd : u_T := fun k => match k with
  | 0 => ("EquationText$Nodes", "cells", "[I", false)
  | _ => ("EquationText$Nodes", "count", "I", false)
def ty_Nd : Nat → FieldType := fun k => match k with
  | 0 => .array (.int)
  | _ => .int
theorem nm_Nd : ∀ a, a < 2 → ∀ b, b < 2 → a ≠ b → (T_Nd a).2.1 ≠ (T_Nd b).2.1 := by decide +kernel
theorem tk_Nd : ∀ k, k < 2 → parseFieldDescriptor (T_Nd k).2.2.1 = some (ty_Nd k) := by decide +kernel
set_option maxRecDepth 20000 in
theorem in_Nd : ∀ w ∈ u_ws R_Nd T_Nd 2, w ∈ lw_tbl := fun w hw => (goodIn_r (big := lw_tbl) _ [250, 252] (by decide +kernel) (by decide +kernel) w hw).1
def T_Rd : u_T := fun k => match k with
  | 0 => ("EquationText$Reader", "scanner", "LEquationText$Scanner;", true)
  | 1 => ("EquationText$Reader", "draft", "LEquationText$Nodes;", true)
  | 2 => ("EquationText$Reader", "waiting", "LEquationText$Tokens;", true)
  | 3 => ("EquationText$Reader", "functions", "LEquationText$Tokens;", true)
  | 4 => ("EquationText$Reader", "bottom", "LEquationText$Frame;", true)
  | 5 => ("EquationText$Reader", "top", "LEquationText$Frame;", false)
  | 6 => ("EquationText$Reader", "text", "LEquationText$Row;", false)
  | 7 => ("EquationText$Reader", "mode", "I", false)
  | 8 => ("EquationText$Reader", "levels", "I", false)
  | 9 => ("EquationText$Reader", "signs", "I", false)
  | 10 => ("EquationText$Reader", "loops", "I", false)
  | 11 => ("EquationText$Reader", "token", "I", false)
  | _ => ("EquationText$Reader", "fault", "I", false)
def ty_Rd : Nat → FieldType := fun k => match k with
  | 0 => .object "EquationText$Scanner"
  | 1 => .object "EquationText$Nodes"
  | 2 => .object "EquationText$Tokens"
  | 3 => .object "EquationText$Tokens"
  | 4 => .object "EquationText$Frame"
  | 5 => .object "EquationText$Frame"
  | 6 => .object "EquationText$Row"
  | 7 => .int
  | 8 => .int
  | 9 => .int
  | 10 => .int
  | 11 => .int
  | _ => .int
theorem nm_Rd : ∀ a, a < 13 → ∀ b, b < 13 → a ≠ b → (T_Rd a).2.1 ≠ (T_Rd b).2.1 := by decide +kernel
theorem tk_Rd : ∀ k, k < 13 → parseFieldDescriptor (T_Rd k).2.2.1 = some (ty_Rd k) := by decide +kernel
set_option maxRecDepth 20000 in
theorem in_Rd : ∀ w ∈ u_ws R_Rd T_Rd 13, w ∈ lw_tbl := fun w hw => (goodIn_r (big := lw_tbl) _ [351, 353, 355, 357, 359, 361, 363, 365, 367, 369, 371, 373, 375] (by decide +kernel) (by decide +kernel) w hw).1
def T_Rw : u_T := fun k => match k with
  | 0 => ("EquationText$Row", "bytes", "[B", false)
  | _ => ("EquationText$Row", "size", "I", false)
def ty_Rw : Nat → FieldType := fun k => match k with
  | 0 => .array (.byte)
  | _ => .int
theorem nm_Rw : ∀ a, a < 2 → ∀ b, b < 2 → a ≠ b → (T_Rw a).2.1 ≠ (T_Rw b).2.1 := by decide +kernel
theorem tk_Rw : ∀ k, k < 2 → parseFieldDescriptor (T_Rw k).2.2.1 = some (ty_Rw k) := by decide +kernel
set_option maxRecDepth 20000 in
theorem in_Rw : ∀ w ∈ u_ws R_Rw T_Rw 2, w ∈ lw_tbl := fun w hw => (goodIn_r (big := lw_tbl) _ [220, 222] (by decide +kernel) (by decide +kernel) w hw).1
def T_Sc : u_T := fun k => match k with
  | 0 => ("EquationText$Scanner", "text", "LEquationText$Row;", false)
  | 1 => ("EquationText$Scanner", "next", "I", false)
  | 2 => ("EquationText$Scanner", "kind", "I", false)
  | 3 => ("EquationText$Scanner", "start", "I", false)
  | _ => ("EquationText$Scanner", "width", "I", false)
def ty_Sc : Nat → FieldType := fun k => match k with
  | 0 => .object "EquationText$Row"
  | 1 => .int
  | 2 => .int
  | 3 => .int
  | _ => .int
theorem nm_Sc : ∀ a, a < 5 → ∀ b, b < 5 → a ≠ b → (T_Sc a).2.1 ≠ (T_Sc b).2.1 := by decide +kernel
theorem tk_Sc : ∀ k, k < 5 → parseFieldDescriptor (T_Sc k).2.2.1 = some (ty_Sc k) := by decide +kernel
set_option maxRecDepth 20000 in
theorem in_Sc : ∀ w ∈ u_ws R_Sc T_Sc 5, w ∈ lw_tbl := fun w hw => (goodIn_r (big := lw_tbl) _ [231, 233, 235, 237, 239] (by decide +kernel) (by decide +kernel) w hw).1
def T_Tk : u_T := fun k => match k with
  | 0 => ("EquationText$Tokens", "cells", "[I", false)
  | _ => ("EquationText$Tokens", "count", "I", false)
def ty_Tk : Nat → FieldType := fun k => match k with
  | 0 => .array (.int)
  | _ => .int
theorem nm_Tk : ∀ a, a < 2 → ∀ b, b < 2 → a ≠ b → (T_Tk a).2.1 ≠ (T_Tk b).2.1 := by decide +kernel
theorem tk_Tk : ∀ k, k < 2 → parseFieldDescriptor (T_Tk k).2.2.1 = some (ty_Tk k) := by decide +kernel
set_option maxRecDepth 20000 in
theorem in_Tk : ∀ w ∈ u_ws R_Tk T_Tk 2, w ∈ lw_tbl := fun w hw => (goodIn_r (big := lw_tbl) _ [264, 266] (by decide +kernel) (by decide +kernel) w hw).1
def T_Wr : u_T := fun k => match k with
  | 0 => ("EquationText$Writer", "tree", "LEquationText$Nodes;", false)
  | 1 => ("EquationText$Writer", "source", "LEquationText$Row;", false)
  | 2 => ("EquationText$Writer", "form", "LEquationText$Row;", false)
  | 3 => ("EquationText$Writer", "indent", "I", false)
  | _ => ("EquationText$Writer", "fits", "Z", false)
def ty_Wr : Nat → FieldType := fun k => match k with
  | 0 => .object "EquationText$Nodes"
  | 1 => .object "EquationText$Row"
  | 2 => .object "EquationText$Row"
  | 3 => .int
  | _ => .boolean
theorem nm_Wr : ∀ a, a < 5 → ∀ b, b < 5 → a ≠ b → (T_Wr a).2.1 ≠ (T_Wr b).2.1 := by decide +kernel
theorem tk_Wr : ∀ k, k < 5 → parseFieldDescriptor (T_Wr k).2.2.1 = some (ty_Wr k) := by decide +kernel
set_option maxRecDepth 20000 in
theorem in_Wr : ∀ w ∈ u_ws R_Wr T_Wr 5, w ∈ lw_tbl := fun w hw => (goodIn_r (big := lw_tbl) _ [393, 395, 397, 399, 401] (by decide +kernel) (by decide +kernel) w hw).1
def T_Eq : u_T := fun k => match k with
  | 0 => ("EquationText", "reader", "LEquationText$Reader;", true)
  | 1 => ("EquationText", "writer", "LEquationText$Writer;", true)
  | 2 => ("EquationText", "tree", "LEquationText$Nodes;", true)
  | 3 => ("EquationText", "tape", "LEquationText$Row;", false)
  | 4 => ("EquationText", "source", "LEquationText$Row;", false)
  | 5 => ("EquationText", "form", "LEquationText$Row;", false)
  | 6 => ("EquationText", "spareForm", "LEquationText$Row;", false)
  | _ => ("EquationText", "fault", "I", false)
def ty_Eq : Nat → FieldType := fun k => match k with
  | 0 => .object "EquationText$Reader"
  | 1 => .object "EquationText$Writer"
  | 2 => .object "EquationText$Nodes"
  | 3 => .object "EquationText$Row"
  | 4 => .object "EquationText$Row"
  | 5 => .object "EquationText$Row"
  | 6 => .object "EquationText$Row"
  | _ => .int
theorem nm_Eq : ∀ a, a < 8 → ∀ b, b < 8 → a ≠ b → (T_Eq a).2.1 ≠ (T_Eq b).2.1 := by decide +kernel
theorem tk_Eq : ∀ k, k < 8 → parseFieldDescriptor (T_Eq k).2.2.1 = some (ty_Eq k) := by decide +kernel
set_option maxRecDepth 20000 in
theorem in_Eq : ∀ w ∈ u_ws R_Eq T_Eq 8, w ∈ lw_tbl := fun w hw => (goodIn_r (big := lw_tbl) _ [416, 418, 420, 422, 424, 426, 428, 430] (by decide +kernel) (by decide +kernel) w hw).1
def T_Nm : u_T := fun k => match k with
  | 0 => ("EquationTextModel$Numbers", "all", "[I", false)
  | _ => ("EquationTextModel$Numbers", "size", "I", false)
def ty_Nm : Nat → FieldType := fun k => match k with
  | 0 => .array (.int)
  | _ => .int
theorem nm_Nm : ∀ a, a < 2 → ∀ b, b < 2 → a ≠ b → (T_Nm a).2.1 ≠ (T_Nm b).2.1 := by decide +kernel
theorem tk_Nm : ∀ k, k < 2 → parseFieldDescriptor (T_Nm k).2.2.1 = some (ty_Nm k) := by decide +kernel
set_option maxRecDepth 20000 in
theorem in_Nm : ∀ w ∈ u_ws R_Nm T_Nm 2, w ∈ lw_tbl := fun w hw => (goodIn_r (big := lw_tbl) _ [1274, 1276] (by decide +kernel) (by decide +kernel) w hw).1
def T_Mo : u_T := fun k => match k with
  | 0 => ("EquationTextModel", "words", "[Ljava/lang/String;", true)
  | 1 => ("EquationTextModel", "signs", "[Ljava/lang/String;", true)
  | 2 => ("EquationTextModel", "ranks", "[I", true)
  | 3 => ("EquationTextModel", "tape", "LEquationTextModel$Numbers;", true)
  | 4 => ("EquationTextModel", "text", "LEquationTextModel$Numbers;", true)
  | 5 => ("EquationTextModel", "kinds", "LEquationTextModel$Numbers;", true)
  | 6 => ("EquationTextModel", "places", "LEquationTextModel$Numbers;", true)
  | 7 => ("EquationTextModel", "ends", "LEquationTextModel$Numbers;", true)
  | 8 => ("EquationTextModel", "known", "Z", false)
  | 9 => ("EquationTextModel", "treeText", "LEquationTextModel$Numbers;", true)
  | 10 => ("EquationTextModel", "tokens", "LEquationTextModel$Numbers;", true)
  | 11 => ("EquationTextModel", "starts", "LEquationTextModel$Numbers;", true)
  | 12 => ("EquationTextModel", "stops", "LEquationTextModel$Numbers;", true)
  | 13 => ("EquationTextModel", "thrown", "I", false)
  | 14 => ("EquationTextModel", "wrong", "I", false)
  | 15 => ("EquationTextModel", "bound", "[I", true)
  | 16 => ("EquationTextModel", "lastEnd", "I", false)
  | 17 => ("EquationTextModel", "at", "I", false)
  | 18 => ("EquationTextModel", "bad", "I", false)
  | 19 => ("EquationTextModel", "levels", "I", false)
  | 20 => ("EquationTextModel", "open", "LEquationTextModel$Numbers;", true)
  | 21 => ("EquationTextModel", "blocks", "LEquationTextModel$Numbers;", true)
  | 22 => ("EquationTextModel", "functionNames", "LEquationTextModel$Numbers;", true)
  | 23 => ("EquationTextModel", "least", "I", false)
  | 24 => ("EquationTextModel", "nodeKind", "LEquationTextModel$Numbers;", true)
  | 25 => ("EquationTextModel", "nodePlace", "LEquationTextModel$Numbers;", true)
  | 26 => ("EquationTextModel", "nodeOther", "LEquationTextModel$Numbers;", true)
  | 27 => ("EquationTextModel", "nodeToken", "LEquationTextModel$Numbers;", true)
  | 28 => ("EquationTextModel", "nodeParts", "LEquationTextModel$Numbers;", true)
  | 29 => ("EquationTextModel", "firstPart", "LEquationTextModel$Numbers;", true)
  | 30 => ("EquationTextModel", "lastPart", "LEquationTextModel$Numbers;", true)
  | 31 => ("EquationTextModel", "nextPart", "LEquationTextModel$Numbers;", true)
  | 32 => ("EquationTextModel", "tasks", "LEquationTextModel$Numbers;", true)
  | 33 => ("EquationTextModel", "later", "LEquationTextModel$Numbers;", true)
  | 34 => ("EquationTextModel", "marks", "LEquationTextModel$Numbers;", true)
  | 35 => ("EquationTextModel", "extra", "LEquationTextModel$Numbers;", true)
  | 36 => ("EquationTextModel", "found", "I", false)
  | 37 => ("EquationTextModel", "out", "LEquationTextModel$Numbers;", true)
  | _ => ("EquationTextModel", "trial", "LEquationTextModel$Numbers;", true)
def ty_Mo : Nat → FieldType := fun k => match k with
  | 0 => .array (.object "java/lang/String")
  | 1 => .array (.object "java/lang/String")
  | 2 => .array (.int)
  | 3 => .object "EquationTextModel$Numbers"
  | 4 => .object "EquationTextModel$Numbers"
  | 5 => .object "EquationTextModel$Numbers"
  | 6 => .object "EquationTextModel$Numbers"
  | 7 => .object "EquationTextModel$Numbers"
  | 8 => .boolean
  | 9 => .object "EquationTextModel$Numbers"
  | 10 => .object "EquationTextModel$Numbers"
  | 11 => .object "EquationTextModel$Numbers"
  | 12 => .object "EquationTextModel$Numbers"
  | 13 => .int
  | 14 => .int
  | 15 => .array (.int)
  | 16 => .int
  | 17 => .int
  | 18 => .int
  | 19 => .int
  | 20 => .object "EquationTextModel$Numbers"
  | 21 => .object "EquationTextModel$Numbers"
  | 22 => .object "EquationTextModel$Numbers"
  | 23 => .int
  | 24 => .object "EquationTextModel$Numbers"
  | 25 => .object "EquationTextModel$Numbers"
  | 26 => .object "EquationTextModel$Numbers"
  | 27 => .object "EquationTextModel$Numbers"
  | 28 => .object "EquationTextModel$Numbers"
  | 29 => .object "EquationTextModel$Numbers"
  | 30 => .object "EquationTextModel$Numbers"
  | 31 => .object "EquationTextModel$Numbers"
  | 32 => .object "EquationTextModel$Numbers"
  | 33 => .object "EquationTextModel$Numbers"
  | 34 => .object "EquationTextModel$Numbers"
  | 35 => .object "EquationTextModel$Numbers"
  | 36 => .int
  | 37 => .object "EquationTextModel$Numbers"
  | _ => .object "EquationTextModel$Numbers"
theorem nm_Mo : ∀ a, a < 39 → ∀ b, b < 39 → a ≠ b → (T_Mo a).2.1 ≠ (T_Mo b).2.1 := by decide +kernel
theorem tk_Mo : ∀ k, k < 39 → parseFieldDescriptor (T_Mo k).2.2.1 = some (ty_Mo k) := by decide +kernel
set_option maxRecDepth 20000 in
theorem in_Mo : ∀ w ∈ u_ws R_Mo T_Mo 39, w ∈ lw_tbl := fun w hw => (goodIn_r (big := lw_tbl) _ [1321, 1323, 1325, 1327, 1329, 1331, 1333, 1335, 1337, 1339, 1341, 1343, 1345, 1347, 1349, 1351, 1353, 1355, 1357, 1359, 1361, 1363, 1365, 1367, 1369, 1371, 1373, 1375, 1377, 1379, 1381, 1383, 1385, 1387, 1389, 1391, 1393, 1395, 1397] (by decide +kernel) (by decide +kernel) w hw).1
abbrev gCl : List vw_C := [(R_Fr, T_Fr, 15), (R_Nd, T_Nd, 2), (R_Rd, T_Rd, 13), (R_Rw, T_Rw, 2), (R_Sc, T_Sc, 5), (R_Tk, T_Tk, 2), (R_Wr, T_Wr, 5), (R_Eq, T_Eq, 8), (R_Nm, T_Nm, 2), (R_Mo, T_Mo, 39)]
