/-- a private method of a class that the tables say can be made, by its rows of tables_1 -/
def lw_okq (q : MethodName × Nat) : Prop := (q.1.cls ≠ "java/lang/invoke/MethodHandle" ∧ q.1.cls ≠ "java/lang/invoke/VarHandle") ∧ Cond.instantiable q.1.cls q.2 ∈ tables_1 ∧ Cond.privateMethod q.1 ∈ tables_1 ∧ Cond.instanceMethod q.1 ∈ tables_1
theorem lw_p0 : lw_okq (⟨"DerivativeCompiler", "isSoundExpression", "(IIII)Z"⟩, 7) := ⟨⟨by decide +kernel, by decide +kernel⟩, List.mem_of_getElem? (i := 11) (by decide +kernel), List.mem_of_getElem? (i := 161) (by decide +kernel), List.mem_of_getElem? (i := 162) (by decide +kernel)⟩
theorem lw_p1 : lw_okq (⟨"DerivativeCompiler", "isOwn", "(I)Z"⟩, 7) := ⟨⟨by decide +kernel, by decide +kernel⟩, List.mem_of_getElem? (i := 11) (by decide +kernel), List.mem_of_getElem? (i := 179) (by decide +kernel), List.mem_of_getElem? (i := 180) (by decide +kernel)⟩
theorem lw_p2 : lw_okq (⟨"DerivativeCompiler", "isMade", "(I)Z"⟩, 7) := ⟨⟨by decide +kernel, by decide +kernel⟩, List.mem_of_getElem? (i := 11) (by decide +kernel), List.mem_of_getElem? (i := 183) (by decide +kernel), List.mem_of_getElem? (i := 184) (by decide +kernel)⟩
theorem lw_p3 : lw_okq (⟨"DerivativeCompiler", "isSoundStatement", "(III)Z"⟩, 7) := ⟨⟨by decide +kernel, by decide +kernel⟩, List.mem_of_getElem? (i := 11) (by decide +kernel), List.mem_of_getElem? (i := 255) (by decide +kernel), List.mem_of_getElem? (i := 256) (by decide +kernel)⟩
theorem lw_p4 : lw_okq (⟨"DerivativeCompiler", "chargeFor", "(IIII)Z"⟩, 7) := ⟨⟨by decide +kernel, by decide +kernel⟩, List.mem_of_getElem? (i := 11) (by decide +kernel), List.mem_of_getElem? (i := 271) (by decide +kernel), List.mem_of_getElem? (i := 272) (by decide +kernel)⟩
theorem lw_p5 : lw_okq (⟨"DerivativeCompiler$Costs", "costOf", "(I)I"⟩, 5) := ⟨⟨by decide +kernel, by decide +kernel⟩, List.mem_of_getElem? (i := 108) (by decide +kernel), List.mem_of_getElem? (i := 282) (by decide +kernel), List.mem_of_getElem? (i := 283) (by decide +kernel)⟩
theorem lw_p6 : lw_okq (⟨"DerivativeCompiler$Costs", "workOutAdded", "(II)V"⟩, 5) := ⟨⟨by decide +kernel, by decide +kernel⟩, List.mem_of_getElem? (i := 108) (by decide +kernel), List.mem_of_getElem? (i := 286) (by decide +kernel), List.mem_of_getElem? (i := 287) (by decide +kernel)⟩
theorem lw_p7 : lw_okq (⟨"DerivativeCompiler$Costs", "isTooDear", "(IJ)Z"⟩, 5) := ⟨⟨by decide +kernel, by decide +kernel⟩, List.mem_of_getElem? (i := 108) (by decide +kernel), List.mem_of_getElem? (i := 290) (by decide +kernel), List.mem_of_getElem? (i := 291) (by decide +kernel)⟩
theorem lw_p8 : lw_okq (⟨"DerivativeCompiler$Trace", "add", "(IIIJ)I"⟩, 9) := ⟨⟨by decide +kernel, by decide +kernel⟩, List.mem_of_getElem? (i := 55) (by decide +kernel), List.mem_of_getElem? (i := 316) (by decide +kernel), List.mem_of_getElem? (i := 317) (by decide +kernel)⟩
theorem lw_p9 : lw_okq (⟨"DerivativeCompiler$Program", "enter", "(IIIII)I"⟩, 4) := ⟨⟨by decide +kernel, by decide +kernel⟩, List.mem_of_getElem? (i := 19) (by decide +kernel), List.mem_of_getElem? (i := 320) (by decide +kernel), List.mem_of_getElem? (i := 321) (by decide +kernel)⟩
theorem lw_p10 : lw_okq (⟨"DerivativeCompiler$Program", "doBlock", "(LDerivativeCompiler$Body;IIII)V"⟩, 4) := ⟨⟨by decide +kernel, by decide +kernel⟩, List.mem_of_getElem? (i := 19) (by decide +kernel), List.mem_of_getElem? (i := 330) (by decide +kernel), List.mem_of_getElem? (i := 331) (by decide +kernel)⟩
theorem lw_p11 : lw_okq (⟨"DerivativeCompiler$Program", "doStatement", "(LDerivativeCompiler$Body;III)I"⟩, 4) := ⟨⟨by decide +kernel, by decide +kernel⟩, List.mem_of_getElem? (i := 19) (by decide +kernel), List.mem_of_getElem? (i := 334) (by decide +kernel), List.mem_of_getElem? (i := 335) (by decide +kernel)⟩
theorem lw_p12 : lw_okq (⟨"DerivativeCompiler$Program", "evaluate", "(III)I"⟩, 4) := ⟨⟨by decide +kernel, by decide +kernel⟩, List.mem_of_getElem? (i := 19) (by decide +kernel), List.mem_of_getElem? (i := 338) (by decide +kernel), List.mem_of_getElem? (i := 339) (by decide +kernel)⟩
theorem lw_p13 : lw_okq (⟨"DerivativeCompiler$Program", "elementCell", "(III)I"⟩, 4) := ⟨⟨by decide +kernel, by decide +kernel⟩, List.mem_of_getElem? (i := 19) (by decide +kernel), List.mem_of_getElem? (i := 357) (by decide +kernel), List.mem_of_getElem? (i := 358) (by decide +kernel)⟩
theorem lw_p14 : lw_okq (⟨"DerivativeCompiler$Program", "combine", "(III)I"⟩, 4) := ⟨⟨by decide +kernel, by decide +kernel⟩, List.mem_of_getElem? (i := 19) (by decide +kernel), List.mem_of_getElem? (i := 362) (by decide +kernel), List.mem_of_getElem? (i := 363) (by decide +kernel)⟩
theorem lw_p15 : lw_okq (⟨"DerivativeCompiler$Program", "doIf", "(LDerivativeCompiler$Body;III)I"⟩, 4) := ⟨⟨by decide +kernel, by decide +kernel⟩, List.mem_of_getElem? (i := 19) (by decide +kernel), List.mem_of_getElem? (i := 380) (by decide +kernel), List.mem_of_getElem? (i := 381) (by decide +kernel)⟩
def lw_privs_1 : List (MethodName × Nat) := [(⟨"DerivativeCompiler", "isSoundExpression", "(IIII)Z"⟩, 7), (⟨"DerivativeCompiler", "isOwn", "(I)Z"⟩, 7), (⟨"DerivativeCompiler", "isMade", "(I)Z"⟩, 7), (⟨"DerivativeCompiler", "isSoundStatement", "(III)Z"⟩, 7), (⟨"DerivativeCompiler", "chargeFor", "(IIII)Z"⟩, 7), (⟨"DerivativeCompiler$Costs", "costOf", "(I)I"⟩, 5), (⟨"DerivativeCompiler$Costs", "workOutAdded", "(II)V"⟩, 5), (⟨"DerivativeCompiler$Costs", "isTooDear", "(IJ)Z"⟩, 5), (⟨"DerivativeCompiler$Trace", "add", "(IIIJ)I"⟩, 9), (⟨"DerivativeCompiler$Program", "enter", "(IIIII)I"⟩, 4), (⟨"DerivativeCompiler$Program", "doBlock", "(LDerivativeCompiler$Body;IIII)V"⟩, 4), (⟨"DerivativeCompiler$Program", "doStatement", "(LDerivativeCompiler$Body;III)I"⟩, 4), (⟨"DerivativeCompiler$Program", "evaluate", "(III)I"⟩, 4), (⟨"DerivativeCompiler$Program", "elementCell", "(III)I"⟩, 4), (⟨"DerivativeCompiler$Program", "combine", "(III)I"⟩, 4), (⟨"DerivativeCompiler$Program", "doIf", "(LDerivativeCompiler$Body;III)I"⟩, 4)]
theorem lw_r1 : ∀ q ∈ lw_privs_1, lw_okq q := List.forall_mem_cons.mpr ⟨lw_p0, List.forall_mem_cons.mpr ⟨lw_p1, List.forall_mem_cons.mpr ⟨lw_p2, List.forall_mem_cons.mpr ⟨lw_p3, List.forall_mem_cons.mpr ⟨lw_p4, List.forall_mem_cons.mpr ⟨lw_p5, List.forall_mem_cons.mpr ⟨lw_p6, List.forall_mem_cons.mpr ⟨lw_p7, List.forall_mem_cons.mpr ⟨lw_p8, List.forall_mem_cons.mpr ⟨lw_p9, List.forall_mem_cons.mpr ⟨lw_p10, List.forall_mem_cons.mpr ⟨lw_p11, List.forall_mem_cons.mpr ⟨lw_p12, List.forall_mem_cons.mpr ⟨lw_p13, List.forall_mem_cons.mpr ⟨lw_p14, List.forall_mem_cons.mpr ⟨lw_p15, fun _ h => absurd h List.not_mem_nil⟩⟩⟩⟩⟩⟩⟩⟩⟩⟩⟩⟩⟩⟩⟩⟩
theorem lw_p16 : lw_okq (⟨"DerivativeCompiler$Trace", "workOutSlopes", "([JI)V"⟩, 9) := ⟨⟨by decide +kernel, by decide +kernel⟩, List.mem_of_getElem? (i := 55) (by decide +kernel), List.mem_of_getElem? (i := 398) (by decide +kernel), List.mem_of_getElem? (i := 399) (by decide +kernel)⟩
theorem lw_p17 : lw_okq (⟨"DerivativeCompiler$Trace", "slopeFromParts", "([JI)J"⟩, 9) := ⟨⟨by decide +kernel, by decide +kernel⟩, List.mem_of_getElem? (i := 55) (by decide +kernel), List.mem_of_getElem? (i := 402) (by decide +kernel), List.mem_of_getElem? (i := 403) (by decide +kernel)⟩
theorem lw_p18 : lw_okq (⟨"DerivativeCompilerModel", "noExpression", "(I)Z"⟩, 24) := ⟨⟨by decide +kernel, by decide +kernel⟩, List.mem_of_getElem? (i := 449) (by decide +kernel), List.mem_of_getElem? (i := 536) (by decide +kernel), List.mem_of_getElem? (i := 537) (by decide +kernel)⟩
theorem lw_p19 : lw_okq (⟨"DerivativeCompilerModel", "noOwn", "(I)Z"⟩, 24) := ⟨⟨by decide +kernel, by decide +kernel⟩, List.mem_of_getElem? (i := 449) (by decide +kernel), List.mem_of_getElem? (i := 543) (by decide +kernel), List.mem_of_getElem? (i := 544) (by decide +kernel)⟩
theorem lw_p20 : lw_okq (⟨"DerivativeCompilerModel", "misplaced", "(II)Z"⟩, 24) := ⟨⟨by decide +kernel, by decide +kernel⟩, List.mem_of_getElem? (i := 449) (by decide +kernel), List.mem_of_getElem? (i := 567) (by decide +kernel), List.mem_of_getElem? (i := 568) (by decide +kernel)⟩
theorem lw_p21 : lw_okq (⟨"DerivativeCompilerModel", "within", "(II)I"⟩, 24) := ⟨⟨by decide +kernel, by decide +kernel⟩, List.mem_of_getElem? (i := 449) (by decide +kernel), List.mem_of_getElem? (i := 571) (by decide +kernel), List.mem_of_getElem? (i := 572) (by decide +kernel)⟩
theorem lw_p22 : lw_okq (⟨"DerivativeCompilerModel", "kindAt", "(II)I"⟩, 24) := ⟨⟨by decide +kernel, by decide +kernel⟩, List.mem_of_getElem? (i := 449) (by decide +kernel), List.mem_of_getElem? (i := 575) (by decide +kernel), List.mem_of_getElem? (i := 576) (by decide +kernel)⟩
theorem lw_p23 : lw_okq (⟨"DerivativeCompilerModel", "close", "(IIZ)I"⟩, 24) := ⟨⟨by decide +kernel, by decide +kernel⟩, List.mem_of_getElem? (i := 449) (by decide +kernel), List.mem_of_getElem? (i := 582) (by decide +kernel), List.mem_of_getElem? (i := 583) (by decide +kernel)⟩
theorem lw_p24 : lw_okq (⟨"DerivativeCompilerModel", "reach", "(I)V"⟩, 24) := ⟨⟨by decide +kernel, by decide +kernel⟩, List.mem_of_getElem? (i := 449) (by decide +kernel), List.mem_of_getElem? (i := 586) (by decide +kernel), List.mem_of_getElem? (i := 587) (by decide +kernel)⟩
theorem lw_p25 : lw_okq (⟨"DerivativeCompilerModel", "direct", "(I)V"⟩, 24) := ⟨⟨by decide +kernel, by decide +kernel⟩, List.mem_of_getElem? (i := 449) (by decide +kernel), List.mem_of_getElem? (i := 590) (by decide +kernel), List.mem_of_getElem? (i := 591) (by decide +kernel)⟩
theorem lw_p26 : lw_okq (⟨"DerivativeCompilerModel", "tooDear", "()Z"⟩, 24) := ⟨⟨by decide +kernel, by decide +kernel⟩, List.mem_of_getElem? (i := 449) (by decide +kernel), List.mem_of_getElem? (i := 594) (by decide +kernel), List.mem_of_getElem? (i := 595) (by decide +kernel)⟩
theorem lw_p27 : lw_okq (⟨"DerivativeCompilerModel", "costOf", "(I)I"⟩, 24) := ⟨⟨by decide +kernel, by decide +kernel⟩, List.mem_of_getElem? (i := 449) (by decide +kernel), List.mem_of_getElem? (i := 598) (by decide +kernel), List.mem_of_getElem? (i := 599) (by decide +kernel)⟩
theorem lw_p28 : lw_okq (⟨"DerivativeCompilerModel", "sumOf", "(I)I"⟩, 24) := ⟨⟨by decide +kernel, by decide +kernel⟩, List.mem_of_getElem? (i := 449) (by decide +kernel), List.mem_of_getElem? (i := 605) (by decide +kernel), List.mem_of_getElem? (i := 606) (by decide +kernel)⟩
theorem lw_p29 : lw_okq (⟨"DerivativeCompilerModel", "times", "(II)I"⟩, 24) := ⟨⟨by decide +kernel, by decide +kernel⟩, List.mem_of_getElem? (i := 449) (by decide +kernel), List.mem_of_getElem? (i := 609) (by decide +kernel), List.mem_of_getElem? (i := 610) (by decide +kernel)⟩
theorem lw_p30 : lw_okq (⟨"DerivativeCompilerModel", "start", "(IJJII)V"⟩, 24) := ⟨⟨by decide +kernel, by decide +kernel⟩, List.mem_of_getElem? (i := 449) (by decide +kernel), List.mem_of_getElem? (i := 618) (by decide +kernel), List.mem_of_getElem? (i := 619) (by decide +kernel)⟩
theorem lw_p31 : lw_okq (⟨"DerivativeCompilerModel", "enter", "(I)V"⟩, 24) := ⟨⟨by decide +kernel, by decide +kernel⟩, List.mem_of_getElem? (i := 449) (by decide +kernel), List.mem_of_getElem? (i := 622) (by decide +kernel), List.mem_of_getElem? (i := 623) (by decide +kernel)⟩
def lw_privs_2 : List (MethodName × Nat) := [(⟨"DerivativeCompiler$Trace", "workOutSlopes", "([JI)V"⟩, 9), (⟨"DerivativeCompiler$Trace", "slopeFromParts", "([JI)J"⟩, 9), (⟨"DerivativeCompilerModel", "noExpression", "(I)Z"⟩, 24), (⟨"DerivativeCompilerModel", "noOwn", "(I)Z"⟩, 24), (⟨"DerivativeCompilerModel", "misplaced", "(II)Z"⟩, 24), (⟨"DerivativeCompilerModel", "within", "(II)I"⟩, 24), (⟨"DerivativeCompilerModel", "kindAt", "(II)I"⟩, 24), (⟨"DerivativeCompilerModel", "close", "(IIZ)I"⟩, 24), (⟨"DerivativeCompilerModel", "reach", "(I)V"⟩, 24), (⟨"DerivativeCompilerModel", "direct", "(I)V"⟩, 24), (⟨"DerivativeCompilerModel", "tooDear", "()Z"⟩, 24), (⟨"DerivativeCompilerModel", "costOf", "(I)I"⟩, 24), (⟨"DerivativeCompilerModel", "sumOf", "(I)I"⟩, 24), (⟨"DerivativeCompilerModel", "times", "(II)I"⟩, 24), (⟨"DerivativeCompilerModel", "start", "(IJJII)V"⟩, 24), (⟨"DerivativeCompilerModel", "enter", "(I)V"⟩, 24)]
theorem lw_r2 : ∀ q ∈ lw_privs_2, lw_okq q := List.forall_mem_cons.mpr ⟨lw_p16, List.forall_mem_cons.mpr ⟨lw_p17, List.forall_mem_cons.mpr ⟨lw_p18, List.forall_mem_cons.mpr ⟨lw_p19, List.forall_mem_cons.mpr ⟨lw_p20, List.forall_mem_cons.mpr ⟨lw_p21, List.forall_mem_cons.mpr ⟨lw_p22, List.forall_mem_cons.mpr ⟨lw_p23, List.forall_mem_cons.mpr ⟨lw_p24, List.forall_mem_cons.mpr ⟨lw_p25, List.forall_mem_cons.mpr ⟨lw_p26, List.forall_mem_cons.mpr ⟨lw_p27, List.forall_mem_cons.mpr ⟨lw_p28, List.forall_mem_cons.mpr ⟨lw_p29, List.forall_mem_cons.mpr ⟨lw_p30, List.forall_mem_cons.mpr ⟨lw_p31, fun _ h => absurd h List.not_mem_nil⟩⟩⟩⟩⟩⟩⟩⟩⟩⟩⟩⟩⟩⟩⟩⟩
theorem lw_p32 : lw_okq (⟨"DerivativeCompilerModel", "lacking", "(I)I"⟩, 24) := ⟨⟨by decide +kernel, by decide +kernel⟩, List.mem_of_getElem? (i := 449) (by decide +kernel), List.mem_of_getElem? (i := 626) (by decide +kernel), List.mem_of_getElem? (i := 627) (by decide +kernel)⟩
theorem lw_p33 : lw_okq (⟨"DerivativeCompilerModel", "leave", "()V"⟩, 24) := ⟨⟨by decide +kernel, by decide +kernel⟩, List.mem_of_getElem? (i := 449) (by decide +kernel), List.mem_of_getElem? (i := 630) (by decide +kernel), List.mem_of_getElem? (i := 631) (by decide +kernel)⟩
theorem lw_p34 : lw_okq (⟨"DerivativeCompilerModel", "slot", "(I)I"⟩, 24) := ⟨⟨by decide +kernel, by decide +kernel⟩, List.mem_of_getElem? (i := 449) (by decide +kernel), List.mem_of_getElem? (i := 634) (by decide +kernel), List.mem_of_getElem? (i := 635) (by decide +kernel)⟩
theorem lw_p35 : lw_okq (⟨"DerivativeCompilerModel", "base", "(I)I"⟩, 24) := ⟨⟨by decide +kernel, by decide +kernel⟩, List.mem_of_getElem? (i := 449) (by decide +kernel), List.mem_of_getElem? (i := 638) (by decide +kernel), List.mem_of_getElem? (i := 639) (by decide +kernel)⟩
theorem lw_p36 : lw_okq (⟨"DerivativeCompilerModel", "step", "()V"⟩, 24) := ⟨⟨by decide +kernel, by decide +kernel⟩, List.mem_of_getElem? (i := 449) (by decide +kernel), List.mem_of_getElem? (i := 642) (by decide +kernel), List.mem_of_getElem? (i := 643) (by decide +kernel)⟩
theorem lw_p37 : lw_okq (⟨"DerivativeCompilerModel", "evaluate", "(I)Z"⟩, 24) := ⟨⟨by decide +kernel, by decide +kernel⟩, List.mem_of_getElem? (i := 449) (by decide +kernel), List.mem_of_getElem? (i := 646) (by decide +kernel), List.mem_of_getElem? (i := 647) (by decide +kernel)⟩
theorem lw_p38 : lw_okq (⟨"DerivativeCompilerModel", "need", "(I)V"⟩, 24) := ⟨⟨by decide +kernel, by decide +kernel⟩, List.mem_of_getElem? (i := 449) (by decide +kernel), List.mem_of_getElem? (i := 650) (by decide +kernel), List.mem_of_getElem? (i := 651) (by decide +kernel)⟩
theorem lw_p39 : lw_okq (⟨"DerivativeCompilerModel", "work", "(I)Z"⟩, 24) := ⟨⟨by decide +kernel, by decide +kernel⟩, List.mem_of_getElem? (i := 449) (by decide +kernel), List.mem_of_getElem? (i := 654) (by decide +kernel), List.mem_of_getElem? (i := 655) (by decide +kernel)⟩
theorem lw_p40 : lw_okq (⟨"DerivativeCompilerModel", "constant", "(IJ)V"⟩, 24) := ⟨⟨by decide +kernel, by decide +kernel⟩, List.mem_of_getElem? (i := 449) (by decide +kernel), List.mem_of_getElem? (i := 658) (by decide +kernel), List.mem_of_getElem? (i := 659) (by decide +kernel)⟩
theorem lw_p41 : lw_okq (⟨"DerivativeCompilerModel", "copy", "(IIZ)V"⟩, 24) := ⟨⟨by decide +kernel, by decide +kernel⟩, List.mem_of_getElem? (i := 449) (by decide +kernel), List.mem_of_getElem? (i := 662) (by decide +kernel), List.mem_of_getElem? (i := 663) (by decide +kernel)⟩
theorem lw_p42 : lw_okq (⟨"DerivativeCompilerModel", "combine", "(IIIJ)V"⟩, 24) := ⟨⟨by decide +kernel, by decide +kernel⟩, List.mem_of_getElem? (i := 449) (by decide +kernel), List.mem_of_getElem? (i := 666) (by decide +kernel), List.mem_of_getElem? (i := 667) (by decide +kernel)⟩
theorem lw_p43 : lw_okq (⟨"DerivativeCompilerModel", "multiply", "(III)V"⟩, 24) := ⟨⟨by decide +kernel, by decide +kernel⟩, List.mem_of_getElem? (i := 449) (by decide +kernel), List.mem_of_getElem? (i := 671) (by decide +kernel), List.mem_of_getElem? (i := 672) (by decide +kernel)⟩
theorem lw_p44 : lw_okq (⟨"DerivativeCompilerModel", "scale", "(IIJ)V"⟩, 24) := ⟨⟨by decide +kernel, by decide +kernel⟩, List.mem_of_getElem? (i := 449) (by decide +kernel), List.mem_of_getElem? (i := 675) (by decide +kernel), List.mem_of_getElem? (i := 676) (by decide +kernel)⟩
theorem lw_p45 : lw_okq (⟨"DerivativeCompilerModel", "store", "(II)V"⟩, 24) := ⟨⟨by decide +kernel, by decide +kernel⟩, List.mem_of_getElem? (i := 449) (by decide +kernel), List.mem_of_getElem? (i := 680) (by decide +kernel), List.mem_of_getElem? (i := 681) (by decide +kernel)⟩
def lw_privs_3 : List (MethodName × Nat) := [(⟨"DerivativeCompilerModel", "lacking", "(I)I"⟩, 24), (⟨"DerivativeCompilerModel", "leave", "()V"⟩, 24), (⟨"DerivativeCompilerModel", "slot", "(I)I"⟩, 24), (⟨"DerivativeCompilerModel", "base", "(I)I"⟩, 24), (⟨"DerivativeCompilerModel", "step", "()V"⟩, 24), (⟨"DerivativeCompilerModel", "evaluate", "(I)Z"⟩, 24), (⟨"DerivativeCompilerModel", "need", "(I)V"⟩, 24), (⟨"DerivativeCompilerModel", "work", "(I)Z"⟩, 24), (⟨"DerivativeCompilerModel", "constant", "(IJ)V"⟩, 24), (⟨"DerivativeCompilerModel", "copy", "(IIZ)V"⟩, 24), (⟨"DerivativeCompilerModel", "combine", "(IIIJ)V"⟩, 24), (⟨"DerivativeCompilerModel", "multiply", "(III)V"⟩, 24), (⟨"DerivativeCompilerModel", "scale", "(IIJ)V"⟩, 24), (⟨"DerivativeCompilerModel", "store", "(II)V"⟩, 24)]
theorem lw_r3 : ∀ q ∈ lw_privs_3, lw_okq q := List.forall_mem_cons.mpr ⟨lw_p32, List.forall_mem_cons.mpr ⟨lw_p33, List.forall_mem_cons.mpr ⟨lw_p34, List.forall_mem_cons.mpr ⟨lw_p35, List.forall_mem_cons.mpr ⟨lw_p36, List.forall_mem_cons.mpr ⟨lw_p37, List.forall_mem_cons.mpr ⟨lw_p38, List.forall_mem_cons.mpr ⟨lw_p39, List.forall_mem_cons.mpr ⟨lw_p40, List.forall_mem_cons.mpr ⟨lw_p41, List.forall_mem_cons.mpr ⟨lw_p42, List.forall_mem_cons.mpr ⟨lw_p43, List.forall_mem_cons.mpr ⟨lw_p44, List.forall_mem_cons.mpr ⟨lw_p45, fun _ h => absurd h List.not_mem_nil⟩⟩⟩⟩⟩⟩⟩⟩⟩⟩⟩⟩⟩⟩
def lw_privs : List (MethodName × Nat) := lw_privs_1 ++ (lw_privs_2 ++ (lw_privs_3))
def lw_tbl : List Cond := k2_sels lw_privs ++ tables_1
theorem lw_privs_ok : ∀ q ∈ lw_privs, lw_okq q := by
  show ∀ q ∈ lw_privs_1 ++ (lw_privs_2 ++ (lw_privs_3)), lw_okq q
  exact List.forall_mem_append.mpr ⟨lw_r1, List.forall_mem_append.mpr ⟨lw_r2, lw_r3⟩⟩
def R_B : String := "DerivativeCompiler$Body"
def F_B : u_T := fun k => match k with
  | 0 => ("DerivativeCompiler$Body", "kinds", "[I", true)
  | 1 => ("DerivativeCompiler$Body", "targets", "[I", true)
  | 2 => ("DerivativeCompiler$Body", "operands", "[I", true)
  | 3 => ("DerivativeCompiler$Body", "closes", "[I", true)
  | 4 => ("DerivativeCompiler$Body", "opens", "[I", true)
  | 5 => ("DerivativeCompiler$Body", "times", "[I", true)
  | 6 => ("DerivativeCompiler$Body", "size", "I", false)
  | _ => ("DerivativeCompiler$Body", "depth", "I", false)
def ft_B : Nat → FieldType := fun k => match k with
  | 0 => .array .int
  | 1 => .array .int
  | 2 => .array .int
  | 3 => .array .int
  | 4 => .array .int
  | 5 => .array .int
  | 6 => .int
  | _ => .int
theorem fn_B : ∀ a, a < 8 → ∀ b, b < 8 → a ≠ b → (F_B a).2.1 ≠ (F_B b).2.1 := by decide +kernel
theorem ft_B_ok : ∀ k, k < 8 → parseFieldDescriptor (F_B k).2.2.1 = some (ft_B k) := by decide +kernel
def R_K : String := "DerivativeCompiler$Costs"
def F_K : u_T := fun k => match k with
  | 0 => ("DerivativeCompiler$Costs", "plain", "[I", true)
  | 1 => ("DerivativeCompiler$Costs", "named", "[I", true)
  | 2 => ("DerivativeCompiler$Costs", "counted", "[I", true)
  | 3 => ("DerivativeCompiler$Costs", "totals", "[I", true)
  | _ => ("DerivativeCompiler$Costs", "added", "[I", true)
def ft_K : Nat → FieldType := fun k => match k with
  | 0 => .array .int
  | 1 => .array .int
  | 2 => .array .int
  | 3 => .array .int
  | _ => .array .int
theorem fn_K : ∀ a, a < 5 → ∀ b, b < 5 → a ≠ b → (F_K a).2.1 ≠ (F_K b).2.1 := by decide +kernel
theorem ft_K_ok : ∀ k, k < 5 → parseFieldDescriptor (F_K k).2.2.1 = some (ft_K k) := by decide +kernel
def R_E : String := "DerivativeCompiler$Expressions"
def F_E : u_T := fun k => match k with
  | 0 => ("DerivativeCompiler$Expressions", "kinds", "[I", true)
  | 1 => ("DerivativeCompiler$Expressions", "lefts", "[I", true)
  | 2 => ("DerivativeCompiler$Expressions", "rights", "[I", true)
  | 3 => ("DerivativeCompiler$Expressions", "callees", "[I", true)
  | _ => ("DerivativeCompiler$Expressions", "made", "I", false)
def ft_E : Nat → FieldType := fun k => match k with
  | 0 => .array .int
  | 1 => .array .int
  | 2 => .array .int
  | 3 => .array .int
  | _ => .int
theorem fn_E : ∀ a, a < 5 → ∀ b, b < 5 → a ≠ b → (F_E a).2.1 ≠ (F_E b).2.1 := by decide +kernel
theorem ft_E_ok : ∀ k, k < 5 → parseFieldDescriptor (F_E k).2.2.1 = some (ft_E k) := by decide +kernel
def R_P : String := "DerivativeCompiler$Program"
def F_P : u_T := fun k => match k with
  | 0 => ("DerivativeCompiler$Program", "expressions", "LDerivativeCompiler$Expressions;", true)
  | 1 => ("DerivativeCompiler$Program", "bodies", "[LDerivativeCompiler$Body;", true)
  | 2 => ("DerivativeCompiler$Program", "trace", "LDerivativeCompiler$Trace;", true)
  | _ => ("DerivativeCompiler$Program", "cells", "[I", true)
def ft_P : Nat → FieldType := fun k => match k with
  | 0 => .object "DerivativeCompiler$Expressions"
  | 1 => .array (.object "DerivativeCompiler$Body")
  | 2 => .object "DerivativeCompiler$Trace"
  | _ => .array .int
theorem fn_P : ∀ a, a < 4 → ∀ b, b < 4 → a ≠ b → (F_P a).2.1 ≠ (F_P b).2.1 := by decide +kernel
theorem ft_P_ok : ∀ k, k < 4 → parseFieldDescriptor (F_P k).2.2.1 = some (ft_P k) := by decide +kernel
def R_T : String := "DerivativeCompiler$Trace"
def F_T : u_T := fun k => match k with
  | 0 => ("DerivativeCompiler$Trace", "kinds", "[I", true)
  | 1 => ("DerivativeCompiler$Trace", "lefts", "[I", true)
  | 2 => ("DerivativeCompiler$Trace", "rights", "[I", true)
  | 3 => ("DerivativeCompiler$Trace", "values", "[J", true)
  | 4 => ("DerivativeCompiler$Trace", "firsts", "[J", true)
  | 5 => ("DerivativeCompiler$Trace", "seconds", "[J", true)
  | 6 => ("DerivativeCompiler$Trace", "mixed", "[J", true)
  | 7 => ("DerivativeCompiler$Trace", "shares", "[J", true)
  | _ => ("DerivativeCompiler$Trace", "length", "I", false)
def ft_T : Nat → FieldType := fun k => match k with
  | 0 => .array .int
  | 1 => .array .int
  | 2 => .array .int
  | 3 => .array .long
  | 4 => .array .long
  | 5 => .array .long
  | 6 => .array .long
  | 7 => .array .long
  | _ => .int
theorem fn_T : ∀ a, a < 9 → ∀ b, b < 9 → a ≠ b → (F_T a).2.1 ≠ (F_T b).2.1 := by decide +kernel
theorem ft_T_ok : ∀ k, k < 9 → parseFieldDescriptor (F_T k).2.2.1 = some (ft_T k) := by decide +kernel
def R_C : String := "DerivativeCompiler"
def F_C : u_T := fun k => match k with
  | 0 => ("DerivativeCompiler", "program", "LDerivativeCompiler$Program;", true)
  | 1 => ("DerivativeCompiler", "costs", "LDerivativeCompiler$Costs;", true)
  | 2 => ("DerivativeCompiler", "roots", "[I", true)
  | 3 => ("DerivativeCompiler", "sources", "[I", true)
  | 4 => ("DerivativeCompiler", "directions", "[I", true)
  | 5 => ("DerivativeCompiler", "orders", "[I", true)
  | _ => ("DerivativeCompiler", "functions", "I", false)
def ft_C : Nat → FieldType := fun k => match k with
  | 0 => .object "DerivativeCompiler$Program"
  | 1 => .object "DerivativeCompiler$Costs"
  | 2 => .array .int
  | 3 => .array .int
  | 4 => .array .int
  | 5 => .array .int
  | _ => .int
theorem fn_C : ∀ a, a < 7 → ∀ b, b < 7 → a ≠ b → (F_C a).2.1 ≠ (F_C b).2.1 := by decide +kernel
theorem ft_C_ok : ∀ k, k < 7 → parseFieldDescriptor (F_C k).2.2.1 = some (ft_C k) := by decide +kernel
def R_M : String := "DerivativeCompilerModel"
def F_M : u_T := fun k => match k with
  | 0 => ("DerivativeCompilerModel", "eKind", "[I", true)
  | 1 => ("DerivativeCompilerModel", "ea", "[I", true)
  | 2 => ("DerivativeCompilerModel", "eb", "[I", true)
  | 3 => ("DerivativeCompilerModel", "ec", "[I", true)
  | 4 => ("DerivativeCompilerModel", "expressions", "I", false)
  | 5 => ("DerivativeCompilerModel", "of", "[I", true)
  | 6 => ("DerivativeCompilerModel", "by", "[I", true)
  | 7 => ("DerivativeCompilerModel", "functions", "I", false)
  | 8 => ("DerivativeCompilerModel", "sKind", "[I", true)
  | 9 => ("DerivativeCompilerModel", "sa", "[I", true)
  | 10 => ("DerivativeCompilerModel", "sb", "[I", true)
  | 11 => ("DerivativeCompilerModel", "size", "[I", true)
  | 12 => ("DerivativeCompilerModel", "eCost", "[I", true)
  | 13 => ("DerivativeCompilerModel", "fCost", "[I", true)
  | 14 => ("DerivativeCompilerModel", "met", "[Z", true)
  | 15 => ("DerivativeCompilerModel", "reached", "[Z", true)
  | 16 => ("DerivativeCompilerModel", "cell", "[J", true)
  | 17 => ("DerivativeCompilerModel", "part", "[J", true)
  | 18 => ("DerivativeCompilerModel", "needed", "[Z", true)
  | 19 => ("DerivativeCompilerModel", "fFunction", "[I", true)
  | 20 => ("DerivativeCompilerModel", "fPc", "[I", true)
  | 21 => ("DerivativeCompilerModel", "fAt", "[I", true)
  | 22 => ("DerivativeCompilerModel", "left", "[I", true)
  | _ => ("DerivativeCompilerModel", "depth", "I", false)
def ft_M : Nat → FieldType := fun k => match k with
  | 0 => .array .int
  | 1 => .array .int
  | 2 => .array .int
  | 3 => .array .int
  | 4 => .int
  | 5 => .array .int
  | 6 => .array .int
  | 7 => .int
  | 8 => .array .int
  | 9 => .array .int
  | 10 => .array .int
  | 11 => .array .int
  | 12 => .array .int
  | 13 => .array .int
  | 14 => .array .boolean
  | 15 => .array .boolean
  | 16 => .array .long
  | 17 => .array .long
  | 18 => .array .boolean
  | 19 => .array .int
  | 20 => .array .int
  | 21 => .array .int
  | 22 => .array .int
  | _ => .int
theorem fn_M : ∀ a, a < 24 → ∀ b, b < 24 → a ≠ b → (F_M a).2.1 ≠ (F_M b).2.1 := by decide +kernel
theorem ft_M_ok : ∀ k, k < 24 → parseFieldDescriptor (F_M k).2.2.1 = some (ft_M k) := by decide +kernel
def R_A : String := "java/util/Arrays"
def R_L : String := "DerivativeCompilerLaw"
abbrev vwCl : List vw_C := [(R_B, F_B, 8), (R_K, F_K, 5), (R_E, F_E, 5), (R_P, F_P, 4), (R_T, F_T, 9), (R_C, F_C, 7), (R_M, F_M, 24)]
def gk_big : List Cond := lw_tbl.filter goodWord
theorem gk_in {w : Cond} {i : Nat} (h : tables_1[i]? = some w) (hg : goodWord w = true) : w ∈ gk_big := List.mem_filter.mpr ⟨List.mem_append_right _ (List.mem_of_getElem? h), hg⟩
theorem gk_good : GoodIn gk_big gk_big := fun w h => ⟨h, good_of_word (List.mem_filter.mp h).2⟩
abbrev b_C_init : ByteArray := prog_1_method_1_code
def y_C_init : MethodName := ⟨R_C, "<init>", "()V"⟩
abbrev k_C_init : Cond := .code y_C_init b_C_init 1 none
def w_C_init : List Cond := k_C_init :: gk_big
abbrev b_P_init : ByteArray := prog_5_method_1_code
def y_P_init : MethodName := ⟨R_P, "<init>", "()V"⟩
abbrev k_P_init : Cond := .code y_P_init b_P_init 1 none
def w_P_init : List Cond := k_P_init :: gk_big
abbrev b_E_init : ByteArray := prog_4_method_1_code
def y_E_init : MethodName := ⟨R_E, "<init>", "()V"⟩
abbrev k_E_init : Cond := .code y_E_init b_E_init 1 none
def w_E_init : List Cond := k_E_init :: gk_big
abbrev b_T_init : ByteArray := prog_6_method_1_code
def y_T_init : MethodName := ⟨R_T, "<init>", "()V"⟩
abbrev k_T_init : Cond := .code y_T_init b_T_init 1 none
def w_T_init : List Cond := k_T_init :: gk_big
abbrev b_K_init : ByteArray := prog_3_method_1_code
def y_K_init : MethodName := ⟨R_K, "<init>", "()V"⟩
abbrev k_K_init : Cond := .code y_K_init b_K_init 1 none
def w_K_init : List Cond := k_K_init :: gk_big
abbrev b_C_expression : ByteArray := prog_1_method_2_code
def y_C_expression : MethodName := ⟨R_C, "expression", "(IIII)I"⟩
abbrev k_C_expression : Cond := .code y_C_expression b_C_expression 6 (some .int)
def w_C_expression : List Cond := k_C_expression :: gk_big
abbrev b_E_isFull : ByteArray := prog_4_method_5_code
def y_E_isFull : MethodName := ⟨R_E, "isFull", "()Z"⟩
abbrev k_E_isFull : Cond := .code y_E_isFull b_E_isFull 1 (some .boolean)
def w_E_isFull : List Cond := k_E_isFull :: gk_big
abbrev b_C_isSoundExpression : ByteArray := prog_1_method_15_code
def y_C_isSoundExpression : MethodName := ⟨R_C, "isSoundExpression", "(IIII)Z"⟩
abbrev k_C_isSoundExpression : Cond := .code y_C_isSoundExpression b_C_isSoundExpression 5 (some .boolean)
def w_C_isSoundExpression : List Cond := k_C_isSoundExpression :: gk_big
abbrev b_E_hasLeft : ByteArray := prog_4_method_2_code
def y_E_hasLeft : MethodName := ⟨R_E, "hasLeft", "(I)Z"⟩
abbrev k_E_hasLeft : Cond := .code y_E_hasLeft b_E_hasLeft 1 (some .boolean)
def w_E_hasLeft : List Cond := k_E_hasLeft :: gk_big
abbrev b_E_has : ByteArray := prog_4_method_4_code
def y_E_has : MethodName := ⟨R_E, "has", "(I)Z"⟩
abbrev k_E_has : Cond := .code y_E_has b_E_has 2 (some .boolean)
def w_E_has : List Cond := k_E_has :: gk_big
abbrev b_C_isBelow : ByteArray := prog_1_method_12_code
def y_C_isBelow : MethodName := ⟨R_C, "isBelow", "(II)Z"⟩
abbrev k_C_isBelow : Cond := .code y_C_isBelow b_C_isBelow 2 (some .boolean)
def w_C_isBelow : List Cond := k_C_isBelow :: gk_big
abbrev b_E_hasRight : ByteArray := prog_4_method_3_code
def y_E_hasRight : MethodName := ⟨R_E, "hasRight", "(I)Z"⟩
abbrev k_E_hasRight : Cond := .code y_E_hasRight b_E_hasRight 1 (some .boolean)
def w_E_hasRight : List Cond := k_E_hasRight :: gk_big
abbrev b_C_isOwn : ByteArray := prog_1_method_14_code
def y_C_isOwn : MethodName := ⟨R_C, "isOwn", "(I)Z"⟩
abbrev k_C_isOwn : Cond := .code y_C_isOwn b_C_isOwn 2 (some .boolean)
def w_C_isOwn : List Cond := k_C_isOwn :: gk_big
abbrev b_C_isMade : ByteArray := prog_1_method_13_code
def y_C_isMade : MethodName := ⟨R_C, "isMade", "(I)Z"⟩
abbrev k_C_isMade : Cond := .code y_C_isMade b_C_isMade 2 (some .boolean)
def w_C_isMade : List Cond := k_C_isMade :: gk_big
abbrev b_E_add : ByteArray := prog_4_method_6_code
def y_E_add : MethodName := ⟨R_E, "add", "(IIII)I"⟩
abbrev k_E_add : Cond := .code y_E_add b_E_add 6 (some .int)
def w_E_add : List Cond := k_E_add :: gk_big
abbrev b_K_addExpression : ByteArray := prog_3_method_3_code
def y_K_addExpression : MethodName := ⟨R_K, "addExpression", "(IIIII)V"⟩
abbrev k_K_addExpression : Cond := .code y_K_addExpression b_K_addExpression 13 none
def w_K_addExpression : List Cond := k_K_addExpression :: gk_big
abbrev b_K_factorOf : ByteArray := prog_3_method_4_code
def y_K_factorOf : MethodName := ⟨R_K, "factorOf", "(II)I"⟩
abbrev k_K_factorOf : Cond := .code y_K_factorOf b_K_factorOf 2 (some .int)
def w_K_factorOf : List Cond := k_K_factorOf :: gk_big
abbrev b_C_function : ByteArray := prog_1_method_3_code
def y_C_function : MethodName := ⟨R_C, "function", "()I"⟩
abbrev k_C_function : Cond := .code y_C_function b_C_function 2 (some .int)
def w_C_function : List Cond := k_C_function :: gk_big
abbrev b_B_init : ByteArray := prog_2_method_1_code
def y_B_init : MethodName := ⟨R_B, "<init>", "()V"⟩
abbrev k_B_init : Cond := .code y_B_init b_B_init 1 none
def w_B_init : List Cond := k_B_init :: gk_big
abbrev b_K_addFunction : ByteArray := prog_3_method_2_code
def y_K_addFunction : MethodName := ⟨R_K, "addFunction", "(I)V"⟩
abbrev k_K_addFunction : Cond := .code y_K_addFunction b_K_addFunction 2 none
def w_K_addFunction : List Cond := k_K_addFunction :: gk_big
abbrev b_C_statement : ByteArray := prog_1_method_4_code
def y_C_statement : MethodName := ⟨R_C, "statement", "(IIII)I"⟩
abbrev k_C_statement : Cond := .code y_C_statement b_C_statement 6 (some .int)
def w_C_statement : List Cond := k_C_statement :: gk_big
abbrev b_C_isSoundStatement : ByteArray := prog_1_method_16_code
def y_C_isSoundStatement : MethodName := ⟨R_C, "isSoundStatement", "(III)Z"⟩
abbrev k_C_isSoundStatement : Cond := .code y_C_isSoundStatement b_C_isSoundStatement 4 (some .boolean)
def w_C_isSoundStatement : List Cond := k_C_isSoundStatement :: gk_big
abbrev b_B_isFull : ByteArray := prog_2_method_2_code
def y_B_isFull : MethodName := ⟨R_B, "isFull", "()Z"⟩
abbrev k_B_isFull : Cond := .code y_B_isFull b_B_isFull 1 (some .boolean)
def w_B_isFull : List Cond := k_B_isFull :: gk_big
abbrev b_B_hasRoomFor : ByteArray := prog_2_method_3_code
def y_B_hasRoomFor : MethodName := ⟨R_B, "hasRoomFor", "(I)Z"⟩
abbrev k_B_hasRoomFor : Cond := .code y_B_hasRoomFor b_B_hasRoomFor 2 (some .boolean)
def w_B_hasRoomFor : List Cond := k_B_hasRoomFor :: gk_big
abbrev b_B_timesDone : ByteArray := prog_2_method_4_code
def y_B_timesDone : MethodName := ⟨R_B, "timesDone", "()I"⟩
abbrev k_B_timesDone : Cond := .code y_B_timesDone b_B_timesDone 1 (some .int)
def w_B_timesDone : List Cond := k_B_timesDone :: gk_big
abbrev b_C_chargeFor : ByteArray := prog_1_method_17_code
def y_C_chargeFor : MethodName := ⟨R_C, "chargeFor", "(IIII)Z"⟩
abbrev k_C_chargeFor : Cond := .code y_C_chargeFor b_C_chargeFor 5 (some .boolean)
def w_C_chargeFor : List Cond := k_C_chargeFor :: gk_big
abbrev b_K_charge : ByteArray := prog_3_method_5_code
def y_K_charge : MethodName := ⟨R_K, "charge", "(III)Z"⟩
abbrev k_K_charge : Cond := .code y_K_charge b_K_charge 9 (some .boolean)
def w_K_charge : List Cond := k_K_charge :: gk_big
abbrev b_A_fillI : ByteArray := prog_10_method_103_code
def y_A_fillI : MethodName := ⟨R_A, "fill", "([II)V"⟩
abbrev k_A_fillI : Cond := .code y_A_fillI b_A_fillI 4 none
def w_A_fillI : List Cond := k_A_fillI :: gk_big
abbrev b_K_costOf : ByteArray := prog_3_method_6_code
def y_K_costOf : MethodName := ⟨R_K, "costOf", "(I)I"⟩
abbrev k_K_costOf : Cond := .code y_K_costOf b_K_costOf 4 (some .int)
def w_K_costOf : List Cond := k_K_costOf :: gk_big
abbrev b_K_workOutAdded : ByteArray := prog_3_method_7_code
def y_K_workOutAdded : MethodName := ⟨R_K, "workOutAdded", "(II)V"⟩
abbrev k_K_workOutAdded : Cond := .code y_K_workOutAdded b_K_workOutAdded 6 none
def w_K_workOutAdded : List Cond := k_K_workOutAdded :: gk_big
abbrev b_K_isTooDear : ByteArray := prog_3_method_8_code
def y_K_isTooDear : MethodName := ⟨R_K, "isTooDear", "(IJ)Z"⟩
abbrev k_K_isTooDear : Cond := .code y_K_isTooDear b_K_isTooDear 5 (some .boolean)
def w_K_isTooDear : List Cond := k_K_isTooDear :: gk_big
abbrev b_B_add : ByteArray := prog_2_method_5_code
def y_B_add : MethodName := ⟨R_B, "add", "(III)V"⟩
abbrev k_B_add : Cond := .code y_B_add b_B_add 5 none
def w_B_add : List Cond := k_B_add :: gk_big
abbrev b_C_derive : ByteArray := prog_1_method_5_code
def y_C_derive : MethodName := ⟨R_C, "derive", "(II)I"⟩
abbrev k_C_derive : Cond := .code y_C_derive b_C_derive 4 (some .int)
def w_C_derive : List Cond := k_C_derive :: gk_big
abbrev b_C_run : ByteArray := prog_1_method_6_code
def y_C_run : MethodName := ⟨R_C, "run", "(IJJ)J"⟩
abbrev k_C_run : Cond := .code y_C_run b_C_run 8 (some .long)
def w_C_run : List Cond := k_C_run :: gk_big
abbrev b_P_follow : ByteArray := prog_5_method_2_code
def y_P_follow : MethodName := ⟨R_P, "follow", "(IJJ)I"⟩
abbrev k_P_follow : Cond := .code y_P_follow b_P_follow 6 (some .int)
def w_P_follow : List Cond := k_P_follow :: gk_big
abbrev b_T_begin : ByteArray := prog_6_method_2_code
def y_T_begin : MethodName := ⟨R_T, "begin", "(JJ)V"⟩
abbrev k_T_begin : Cond := .code y_T_begin b_T_begin 5 none
def w_T_begin : List Cond := k_T_begin :: gk_big
abbrev b_T_add : ByteArray := prog_6_method_3_code
def y_T_add : MethodName := ⟨R_T, "add", "(IIIJ)I"⟩
abbrev k_T_add : Cond := .code y_T_add b_T_add 7 (some .int)
def w_T_add : List Cond := k_T_add :: gk_big
abbrev b_P_enter : ByteArray := prog_5_method_3_code
def y_P_enter : MethodName := ⟨R_P, "enter", "(IIIII)I"⟩
abbrev k_P_enter : Cond := .code y_P_enter b_P_enter 8 (some .int)
def w_P_enter : List Cond := k_P_enter :: gk_big
abbrev b_A_fillR : ByteArray := prog_10_method_104_code
def y_A_fillR : MethodName := ⟨R_A, "fill", "([IIII)V"⟩
abbrev k_A_fillR : Cond := .code y_A_fillR b_A_fillR 5 none
def w_A_fillR : List Cond := k_A_fillR :: gk_big
abbrev b_A_rangeCheck : ByteArray := prog_10_method_30_code
def y_A_rangeCheck : MethodName := ⟨R_A, "rangeCheck", "(III)V"⟩
abbrev k_A_rangeCheck : Cond := .code y_A_rangeCheck b_A_rangeCheck 3 none
def w_A_rangeCheck : List Cond := k_A_rangeCheck :: gk_big
abbrev b_P_doBlock : ByteArray := prog_5_method_4_code
def y_P_doBlock : MethodName := ⟨R_P, "doBlock", "(LDerivativeCompiler$Body;IIII)V"⟩
abbrev k_P_doBlock : Cond := .code y_P_doBlock b_P_doBlock 8 none
def w_P_doBlock : List Cond := k_P_doBlock :: gk_big
abbrev b_P_doStatement : ByteArray := prog_5_method_5_code
def y_P_doStatement : MethodName := ⟨R_P, "doStatement", "(LDerivativeCompiler$Body;III)I"⟩
abbrev k_P_doStatement : Cond := .code y_P_doStatement b_P_doStatement 10 (some .int)
def w_P_doStatement : List Cond := k_P_doStatement :: gk_big
abbrev b_P_evaluate : ByteArray := prog_5_method_8_code
def y_P_evaluate : MethodName := ⟨R_P, "evaluate", "(III)I"⟩
abbrev k_P_evaluate : Cond := .code y_P_evaluate b_P_evaluate 9 (some .int)
def w_P_evaluate : List Cond := k_P_evaluate :: gk_big
abbrev b_T_constant : ByteArray := prog_6_method_4_code
def y_T_constant : MethodName := ⟨R_T, "constant", "(J)I"⟩
abbrev k_T_constant : Cond := .code y_T_constant b_T_constant 3 (some .int)
def w_T_constant : List Cond := k_T_constant :: gk_big
abbrev b_T_power : ByteArray := prog_6_method_8_code
def y_T_power : MethodName := ⟨R_T, "power", "(II)I"⟩
abbrev k_T_power : Cond := .code y_T_power b_T_power 5 (some .int)
def w_T_power : List Cond := k_T_power :: gk_big
abbrev b_T_product : ByteArray := prog_6_method_7_code
def y_T_product : MethodName := ⟨R_T, "product", "(II)I"⟩
abbrev k_T_product : Cond := .code y_T_product b_T_product 3 (some .int)
def w_T_product : List Cond := k_T_product :: gk_big
abbrev b_P_elementCell : ByteArray := prog_5_method_7_code
def y_P_elementCell : MethodName := ⟨R_P, "elementCell", "(III)I"⟩
abbrev k_P_elementCell : Cond := .code y_P_elementCell b_P_elementCell 5 (some .int)
def w_P_elementCell : List Cond := k_P_elementCell :: gk_big
abbrev b_P_combine : ByteArray := prog_5_method_9_code
def y_P_combine : MethodName := ⟨R_P, "combine", "(III)I"⟩
abbrev k_P_combine : Cond := .code y_P_combine b_P_combine 4 (some .int)
def w_P_combine : List Cond := k_P_combine :: gk_big
abbrev b_T_sum : ByteArray := prog_6_method_5_code
def y_T_sum : MethodName := ⟨R_T, "sum", "(II)I"⟩
abbrev k_T_sum : Cond := .code y_T_sum b_T_sum 3 (some .int)
def w_T_sum : List Cond := k_T_sum :: gk_big
abbrev b_T_difference : ByteArray := prog_6_method_6_code
def y_T_difference : MethodName := ⟨R_T, "difference", "(II)I"⟩
abbrev k_T_difference : Cond := .code y_T_difference b_T_difference 3 (some .int)
def w_T_difference : List Cond := k_T_difference :: gk_big
abbrev b_T_magnitude : ByteArray := prog_6_method_9_code
def y_T_magnitude : MethodName := ⟨R_T, "magnitude", "(I)I"⟩
abbrev k_T_magnitude : Cond := .code y_T_magnitude b_T_magnitude 2 (some .int)
def w_T_magnitude : List Cond := k_T_magnitude :: gk_big
abbrev b_P_doIf : ByteArray := prog_5_method_6_code
def y_P_doIf : MethodName := ⟨R_P, "doIf", "(LDerivativeCompiler$Body;III)I"⟩
abbrev k_P_doIf : Cond := .code y_P_doIf b_P_doIf 8 (some .int)
def w_P_doIf : List Cond := k_P_doIf :: gk_big
abbrev b_B_closeOf : ByteArray := prog_2_method_6_code
def y_B_closeOf : MethodName := ⟨R_B, "closeOf", "(I)I"⟩
abbrev k_B_closeOf : Cond := .code y_B_closeOf b_B_closeOf 2 (some .int)
def w_B_closeOf : List Cond := k_B_closeOf :: gk_big
abbrev b_B_endOfIf : ByteArray := prog_2_method_7_code
def y_B_endOfIf : MethodName := ⟨R_B, "endOfIf", "(I)I"⟩
abbrev k_B_endOfIf : Cond := .code y_B_endOfIf b_B_endOfIf 3 (some .int)
def w_B_endOfIf : List Cond := k_B_endOfIf :: gk_big
abbrev b_T_slope : ByteArray := prog_6_method_10_code
def y_T_slope : MethodName := ⟨R_T, "slope", "(II)J"⟩
abbrev k_T_slope : Cond := .code y_T_slope b_T_slope 3 (some .long)
def w_T_slope : List Cond := k_T_slope :: gk_big
abbrev b_T_workOutSlopes : ByteArray := prog_6_method_11_code
def y_T_workOutSlopes : MethodName := ⟨R_T, "workOutSlopes", "([JI)V"⟩
abbrev k_T_workOutSlopes : Cond := .code y_T_workOutSlopes b_T_workOutSlopes 4 none
def w_T_workOutSlopes : List Cond := k_T_workOutSlopes :: gk_big
abbrev b_T_slopeFromParts : ByteArray := prog_6_method_12_code
def y_T_slopeFromParts : MethodName := ⟨R_T, "slopeFromParts", "([JI)J"⟩
abbrev k_T_slopeFromParts : Cond := .code y_T_slopeFromParts b_T_slopeFromParts 5 (some .long)
def w_T_slopeFromParts : List Cond := k_T_slopeFromParts :: gk_big
abbrev b_T_slopeOfSlope : ByteArray := prog_6_method_13_code
def y_T_slopeOfSlope : MethodName := ⟨R_T, "slopeOfSlope", "(III)J"⟩
abbrev k_T_slopeOfSlope : Cond := .code y_T_slopeOfSlope b_T_slopeOfSlope 5 (some .long)
def w_T_slopeOfSlope : List Cond := k_T_slopeOfSlope :: gk_big
abbrev b_C_gradient : ByteArray := prog_1_method_7_code
def y_C_gradient : MethodName := ⟨R_C, "gradient", "(IIJJ)J"⟩
abbrev k_C_gradient : Cond := .code y_C_gradient b_C_gradient 8 (some .long)
def w_C_gradient : List Cond := k_C_gradient :: gk_big
abbrev b_T_slopeBackwards : ByteArray := prog_6_method_14_code
def y_T_slopeBackwards : MethodName := ⟨R_T, "slopeBackwards", "(II)J"⟩
abbrev k_T_slopeBackwards : Cond := .code y_T_slopeBackwards b_T_slopeBackwards 6 (some .long)
def w_T_slopeBackwards : List Cond := k_T_slopeBackwards :: gk_big
abbrev b_A_fillJ : ByteArray := prog_10_method_101_code
def y_A_fillJ : MethodName := ⟨R_A, "fill", "([JJ)V"⟩
abbrev k_A_fillJ : Cond := .code y_A_fillJ b_A_fillJ 5 none
def w_A_fillJ : List Cond := k_A_fillJ :: gk_big
abbrev b_C_cost : ByteArray := prog_1_method_8_code
def y_C_cost : MethodName := ⟨R_C, "cost", "(I)I"⟩
abbrev k_C_cost : Cond := .code y_C_cost b_C_cost 2 (some .int)
def w_C_cost : List Cond := k_C_cost :: gk_big
abbrev b_C_order : ByteArray := prog_1_method_9_code
def y_C_order : MethodName := ⟨R_C, "order", "(I)I"⟩
abbrev k_C_order : Cond := .code y_C_order b_C_order 2 (some .int)
def w_C_order : List Cond := k_C_order :: gk_big
abbrev b_C_calls : ByteArray := prog_1_method_10_code
def y_C_calls : MethodName := ⟨R_C, "calls", "(II)I"⟩
abbrev k_C_calls : Cond := .code y_C_calls b_C_calls 3 (some .int)
def w_C_calls : List Cond := k_C_calls :: gk_big
abbrev b_K_doesCall : ByteArray := prog_3_method_9_code
def y_K_doesCall : MethodName := ⟨R_K, "doesCall", "(II)Z"⟩
abbrev k_K_doesCall : Cond := .code y_K_doesCall b_K_doesCall 3 (some .boolean)
def w_K_doesCall : List Cond := k_K_doesCall :: gk_big
abbrev b_C_count : ByteArray := prog_1_method_11_code
def y_C_count : MethodName := ⟨R_C, "count", "(I)I"⟩
abbrev k_C_count : Cond := .code y_C_count b_C_count 2 (some .int)
def w_C_count : List Cond := k_C_count :: gk_big
abbrev b_P_statementsInAll : ByteArray := prog_5_method_10_code
def y_P_statementsInAll : MethodName := ⟨R_P, "statementsInAll", "()I"⟩
abbrev k_P_statementsInAll : Cond := .code y_P_statementsInAll b_P_statementsInAll 3 (some .int)
def w_P_statementsInAll : List Cond := k_P_statementsInAll :: gk_big
abbrev b_P_openInAll : ByteArray := prog_5_method_11_code
def y_P_openInAll : MethodName := ⟨R_P, "openInAll", "()I"⟩
abbrev k_P_openInAll : Cond := .code y_P_openInAll b_P_openInAll 3 (some .int)
def w_P_openInAll : List Cond := k_P_openInAll :: gk_big
abbrev b_M_init : ByteArray := prog_8_method_1_code
def y_M_init : MethodName := ⟨R_M, "<init>", "()V"⟩
abbrev k_M_init : Cond := .code y_M_init b_M_init 1 none
def w_M_init : List Cond := k_M_init :: gk_big
abbrev b_M_expression : ByteArray := prog_8_method_5_code
def y_M_expression : MethodName := ⟨R_M, "expression", "(IIII)I"⟩
abbrev k_M_expression : Cond := .code y_M_expression b_M_expression 6 (some .int)
def w_M_expression : List Cond := k_M_expression :: gk_big
abbrev b_M_out : ByteArray := prog_8_method_2_code
def y_M_out : MethodName := ⟨R_M, "out", "(II)Z"⟩
abbrev k_M_out : Cond := .code y_M_out b_M_out 2 (some .boolean)
def w_M_out : List Cond := k_M_out :: gk_big
abbrev b_M_noExpression : ByteArray := prog_8_method_3_code
def y_M_noExpression : MethodName := ⟨R_M, "noExpression", "(I)Z"⟩
abbrev k_M_noExpression : Cond := .code y_M_noExpression b_M_noExpression 2 (some .boolean)
def w_M_noExpression : List Cond := k_M_noExpression :: gk_big
abbrev b_M_hasSecond : ByteArray := prog_8_method_6_code
def y_M_hasSecond : MethodName := ⟨R_M, "hasSecond", "(I)Z"⟩
abbrev k_M_hasSecond : Cond := .code y_M_hasSecond b_M_hasSecond 1 (some .boolean)
def w_M_hasSecond : List Cond := k_M_hasSecond :: gk_big
abbrev b_M_noOwn : ByteArray := prog_8_method_4_code
def y_M_noOwn : MethodName := ⟨R_M, "noOwn", "(I)Z"⟩
abbrev k_M_noOwn : Cond := .code y_M_noOwn b_M_noOwn 2 (some .boolean)
def w_M_noOwn : List Cond := k_M_noOwn :: gk_big
abbrev b_M_function : ByteArray := prog_8_method_7_code
def y_M_function : MethodName := ⟨R_M, "function", "()I"⟩
abbrev k_M_function : Cond := .code y_M_function b_M_function 1 (some .int)
def w_M_function : List Cond := k_M_function :: gk_big
abbrev b_M_derive : ByteArray := prog_8_method_8_code
def y_M_derive : MethodName := ⟨R_M, "derive", "(II)I"⟩
abbrev k_M_derive : Cond := .code y_M_derive b_M_derive 3 (some .int)
def w_M_derive : List Cond := k_M_derive :: gk_big
abbrev b_M_order : ByteArray := prog_8_method_9_code
def y_M_order : MethodName := ⟨R_M, "order", "(I)I"⟩
abbrev k_M_order : Cond := .code y_M_order b_M_order 4 (some .int)
def w_M_order : List Cond := k_M_order :: gk_big
abbrev b_M_statement : ByteArray := prog_8_method_24_code
def y_M_statement : MethodName := ⟨R_M, "statement", "(IIII)I"⟩
abbrev k_M_statement : Cond := .code y_M_statement b_M_statement 7 (some .int)
def w_M_statement : List Cond := k_M_statement :: gk_big
abbrev b_M_uses : ByteArray := prog_8_method_16_code
def y_M_uses : MethodName := ⟨R_M, "uses", "(I)Z"⟩
abbrev k_M_uses : Cond := .code y_M_uses b_M_uses 1 (some .boolean)
def w_M_uses : List Cond := k_M_uses :: gk_big
abbrev b_M_misplaced : ByteArray := prog_8_method_15_code
def y_M_misplaced : MethodName := ⟨R_M, "misplaced", "(II)Z"⟩
abbrev k_M_misplaced : Cond := .code y_M_misplaced b_M_misplaced 4 (some .boolean)
def w_M_misplaced : List Cond := k_M_misplaced :: gk_big
abbrev b_M_within : ByteArray := prog_8_method_12_code
def y_M_within : MethodName := ⟨R_M, "within", "(II)I"⟩
abbrev k_M_within : Cond := .code y_M_within b_M_within 5 (some .int)
def w_M_within : List Cond := k_M_within :: gk_big
abbrev b_M_kindAt : ByteArray := prog_8_method_10_code
def y_M_kindAt : MethodName := ⟨R_M, "kindAt", "(II)I"⟩
abbrev k_M_kindAt : Cond := .code y_M_kindAt b_M_kindAt 3 (some .int)
def w_M_kindAt : List Cond := k_M_kindAt :: gk_big
abbrev b_M_opens : ByteArray := prog_8_method_11_code
def y_M_opens : MethodName := ⟨R_M, "opens", "(I)Z"⟩
abbrev k_M_opens : Cond := .code y_M_opens b_M_opens 1 (some .boolean)
def w_M_opens : List Cond := k_M_opens :: gk_big
abbrev b_M_close : ByteArray := prog_8_method_13_code
def y_M_close : MethodName := ⟨R_M, "close", "(IIZ)I"⟩
abbrev k_M_close : Cond := .code y_M_close b_M_close 7 (some .int)
def w_M_close : List Cond := k_M_close :: gk_big
abbrev b_M_reach : ByteArray := prog_8_method_17_code
def y_M_reach : MethodName := ⟨R_M, "reach", "(I)V"⟩
abbrev k_M_reach : Cond := .code y_M_reach b_M_reach 4 none
def w_M_reach : List Cond := k_M_reach :: gk_big
abbrev b_M_direct : ByteArray := prog_8_method_18_code
def y_M_direct : MethodName := ⟨R_M, "direct", "(I)V"⟩
abbrev k_M_direct : Cond := .code y_M_direct b_M_direct 3 none
def w_M_direct : List Cond := k_M_direct :: gk_big
abbrev b_M_tooDear : ByteArray := prog_8_method_22_code
def y_M_tooDear : MethodName := ⟨R_M, "tooDear", "()Z"⟩
abbrev k_M_tooDear : Cond := .code y_M_tooDear b_M_tooDear 4 (some .boolean)
def w_M_tooDear : List Cond := k_M_tooDear :: gk_big
abbrev b_M_costOf : ByteArray := prog_8_method_20_code
def y_M_costOf : MethodName := ⟨R_M, "costOf", "(I)I"⟩
abbrev k_M_costOf : Cond := .code y_M_costOf b_M_costOf 5 (some .int)
def w_M_costOf : List Cond := k_M_costOf :: gk_big
abbrev b_M_cap : ByteArray := prog_8_method_19_code
def y_M_cap : MethodName := ⟨R_M, "cap", "(I)I"⟩
abbrev k_M_cap : Cond := .code y_M_cap b_M_cap 1 (some .int)
def w_M_cap : List Cond := k_M_cap :: gk_big
abbrev b_M_sumOf : ByteArray := prog_8_method_23_code
def y_M_sumOf : MethodName := ⟨R_M, "sumOf", "(I)I"⟩
abbrev k_M_sumOf : Cond := .code y_M_sumOf b_M_sumOf 6 (some .int)
def w_M_sumOf : List Cond := k_M_sumOf :: gk_big
abbrev b_M_times : ByteArray := prog_8_method_21_code
def y_M_times : MethodName := ⟨R_M, "times", "(II)I"⟩
abbrev k_M_times : Cond := .code y_M_times b_M_times 5 (some .int)
def w_M_times : List Cond := k_M_times :: gk_big
abbrev b_M_run : ByteArray := prog_8_method_40_code
def y_M_run : MethodName := ⟨R_M, "run", "(IJJ)J"⟩
abbrev k_M_run : Cond := .code y_M_run b_M_run 9 (some .long)
def w_M_run : List Cond := k_M_run :: gk_big
abbrev b_M_start : ByteArray := prog_8_method_39_code
def y_M_start : MethodName := ⟨R_M, "start", "(IJJII)V"⟩
abbrev k_M_start : Cond := .code y_M_start b_M_start 9 none
def w_M_start : List Cond := k_M_start :: gk_big
abbrev b_M_enter : ByteArray := prog_8_method_27_code
def y_M_enter : MethodName := ⟨R_M, "enter", "(I)V"⟩
abbrev k_M_enter : Cond := .code y_M_enter b_M_enter 3 none
def w_M_enter : List Cond := k_M_enter :: gk_big
abbrev b_M_lacking : ByteArray := prog_8_method_14_code
def y_M_lacking : MethodName := ⟨R_M, "lacking", "(I)I"⟩
abbrev k_M_lacking : Cond := .code y_M_lacking b_M_lacking 4 (some .int)
def w_M_lacking : List Cond := k_M_lacking :: gk_big
abbrev b_M_leave : ByteArray := prog_8_method_38_code
def y_M_leave : MethodName := ⟨R_M, "leave", "()V"⟩
abbrev k_M_leave : Cond := .code y_M_leave b_M_leave 4 none
def w_M_leave : List Cond := k_M_leave :: gk_big
abbrev b_M_slot : ByteArray := prog_8_method_26_code
def y_M_slot : MethodName := ⟨R_M, "slot", "(I)I"⟩
abbrev k_M_slot : Cond := .code y_M_slot b_M_slot 2 (some .int)
def w_M_slot : List Cond := k_M_slot :: gk_big
abbrev b_M_base : ByteArray := prog_8_method_25_code
def y_M_base : MethodName := ⟨R_M, "base", "(I)I"⟩
abbrev k_M_base : Cond := .code y_M_base b_M_base 2 (some .int)
def w_M_base : List Cond := k_M_base :: gk_big
abbrev b_M_step : ByteArray := prog_8_method_37_code
def y_M_step : MethodName := ⟨R_M, "step", "()V"⟩
abbrev k_M_step : Cond := .code y_M_step b_M_step 7 none
def w_M_step : List Cond := k_M_step :: gk_big
abbrev b_M_evaluate : ByteArray := prog_8_method_35_code
def y_M_evaluate : MethodName := ⟨R_M, "evaluate", "(I)Z"⟩
abbrev k_M_evaluate : Cond := .code y_M_evaluate b_M_evaluate 4 (some .boolean)
def w_M_evaluate : List Cond := k_M_evaluate :: gk_big
abbrev b_M_need : ByteArray := prog_8_method_34_code
def y_M_need : MethodName := ⟨R_M, "need", "(I)V"⟩
abbrev k_M_need : Cond := .code y_M_need b_M_need 4 none
def w_M_need : List Cond := k_M_need :: gk_big
abbrev b_M_work : ByteArray := prog_8_method_33_code
def y_M_work : MethodName := ⟨R_M, "work", "(I)Z"⟩
abbrev k_M_work : Cond := .code y_M_work b_M_work 6 (some .boolean)
def w_M_work : List Cond := k_M_work :: gk_big
abbrev b_M_constant : ByteArray := prog_8_method_32_code
def y_M_constant : MethodName := ⟨R_M, "constant", "(IJ)V"⟩
abbrev k_M_constant : Cond := .code y_M_constant b_M_constant 5 none
def w_M_constant : List Cond := k_M_constant :: gk_big
abbrev b_M_copy : ByteArray := prog_8_method_28_code
def y_M_copy : MethodName := ⟨R_M, "copy", "(IIZ)V"⟩
abbrev k_M_copy : Cond := .code y_M_copy b_M_copy 5 none
def w_M_copy : List Cond := k_M_copy :: gk_big
abbrev b_M_combine : ByteArray := prog_8_method_30_code
def y_M_combine : MethodName := ⟨R_M, "combine", "(IIIJ)V"⟩
abbrev k_M_combine : Cond := .code y_M_combine b_M_combine 7 none
def w_M_combine : List Cond := k_M_combine :: gk_big
abbrev b_M_multiply : ByteArray := prog_8_method_31_code
def y_M_multiply : MethodName := ⟨R_M, "multiply", "(III)V"⟩
abbrev k_M_multiply : Cond := .code y_M_multiply b_M_multiply 13 none
def w_M_multiply : List Cond := k_M_multiply :: gk_big
abbrev b_M_scale : ByteArray := prog_8_method_29_code
def y_M_scale : MethodName := ⟨R_M, "scale", "(IIJ)V"⟩
abbrev k_M_scale : Cond := .code y_M_scale b_M_scale 6 none
def w_M_scale : List Cond := k_M_scale :: gk_big
abbrev b_M_store : ByteArray := prog_8_method_36_code
def y_M_store : MethodName := ⟨R_M, "store", "(II)V"⟩
abbrev k_M_store : Cond := .code y_M_store b_M_store 4 none
def w_M_store : List Cond := k_M_store :: gk_big
abbrev b_M_gradient : ByteArray := prog_8_method_41_code
def y_M_gradient : MethodName := ⟨R_M, "gradient", "(IIJJ)J"⟩
abbrev k_M_gradient : Cond := .code y_M_gradient b_M_gradient 7 (some .long)
def w_M_gradient : List Cond := k_M_gradient :: gk_big
abbrev b_M_cost : ByteArray := prog_8_method_42_code
def y_M_cost : MethodName := ⟨R_M, "cost", "(I)I"⟩
abbrev k_M_cost : Cond := .code y_M_cost b_M_cost 3 (some .int)
def w_M_cost : List Cond := k_M_cost :: gk_big
abbrev b_M_calls : ByteArray := prog_8_method_43_code
def y_M_calls : MethodName := ⟨R_M, "calls", "(II)I"⟩
abbrev k_M_calls : Cond := .code y_M_calls b_M_calls 4 (some .int)
def w_M_calls : List Cond := k_M_calls :: gk_big
abbrev b_M_count : ByteArray := prog_8_method_44_code
def y_M_count : MethodName := ⟨R_M, "count", "(I)I"⟩
abbrev k_M_count : Cond := .code y_M_count b_M_count 4 (some .int)
def w_M_count : List Cond := k_M_count :: gk_big
