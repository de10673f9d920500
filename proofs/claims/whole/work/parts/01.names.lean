-- ===== PART A: goes FIRST, ahead of the names: the tables' words, and 'selects' of the private methods out of them =====
/-- a private method of a class that the tables say can be made, by its rows of tables_1 -/
def lw_okq (q : MethodName × Nat) : Prop := (q.1.cls ≠ "java/lang/invoke/MethodHandle" ∧ q.1.cls ≠ "java/lang/invoke/VarHandle") ∧ Cond.instantiable q.1.cls q.2 ∈ tables_1 ∧ Cond.privateMethod q.1 ∈ tables_1 ∧ Cond.instanceMethod q.1 ∈ tables_1
theorem lw_p0 : lw_okq (⟨"SlopeCompiler", "appendNumber", "(I)V"⟩, 15) := ⟨⟨by decide +kernel, by decide +kernel⟩, List.mem_of_getElem? (i := 23) (by decide +kernel), List.mem_of_getElem? (i := 422) (by decide +kernel), List.mem_of_getElem? (i := 423) (by decide +kernel)⟩
theorem lw_p1 : lw_okq (⟨"SlopeCompiler$Parser", "line", "()Z"⟩, 10) := ⟨⟨by decide +kernel, by decide +kernel⟩, List.mem_of_getElem? (i := 31) (by decide +kernel), List.mem_of_getElem? (i := 446) (by decide +kernel), List.mem_of_getElem? (i := 447) (by decide +kernel)⟩
theorem lw_p2 : lw_okq (⟨"SlopeCompiler$Parser", "fail", "(I)Z"⟩, 10) := ⟨⟨by decide +kernel, by decide +kernel⟩, List.mem_of_getElem? (i := 31) (by decide +kernel), List.mem_of_getElem? (i := 451) (by decide +kernel), List.mem_of_getElem? (i := 452) (by decide +kernel)⟩
theorem lw_p3 : lw_okq (⟨"SlopeCompiler$Parser", "inputLine", "()Z"⟩, 10) := ⟨⟨by decide +kernel, by decide +kernel⟩, List.mem_of_getElem? (i := 31) (by decide +kernel), List.mem_of_getElem? (i := 455) (by decide +kernel), List.mem_of_getElem? (i := 456) (by decide +kernel)⟩
theorem lw_p4 : lw_okq (⟨"SlopeCompiler$Parser", "newName", "()Z"⟩, 10) := ⟨⟨by decide +kernel, by decide +kernel⟩, List.mem_of_getElem? (i := 31) (by decide +kernel), List.mem_of_getElem? (i := 460) (by decide +kernel), List.mem_of_getElem? (i := 461) (by decide +kernel)⟩
theorem lw_p5 : lw_okq (⟨"SlopeCompiler$Parser", "variableOf", "(IZ)I"⟩, 10) := ⟨⟨by decide +kernel, by decide +kernel⟩, List.mem_of_getElem? (i := 31) (by decide +kernel), List.mem_of_getElem? (i := 468) (by decide +kernel), List.mem_of_getElem? (i := 469) (by decide +kernel)⟩
theorem lw_p6 : lw_okq (⟨"SlopeCompiler$Parser", "rowOf", "(I)I"⟩, 10) := ⟨⟨by decide +kernel, by decide +kernel⟩, List.mem_of_getElem? (i := 31) (by decide +kernel), List.mem_of_getElem? (i := 472) (by decide +kernel), List.mem_of_getElem? (i := 473) (by decide +kernel)⟩
theorem lw_p7 : lw_okq (⟨"SlopeCompiler$Parser", "rowLine", "()Z"⟩, 10) := ⟨⟨by decide +kernel, by decide +kernel⟩, List.mem_of_getElem? (i := 31) (by decide +kernel), List.mem_of_getElem? (i := 476) (by decide +kernel), List.mem_of_getElem? (i := 477) (by decide +kernel)⟩
theorem lw_p8 : lw_okq (⟨"SlopeCompiler$Parser", "newRowName", "()Z"⟩, 10) := ⟨⟨by decide +kernel, by decide +kernel⟩, List.mem_of_getElem? (i := 31) (by decide +kernel), List.mem_of_getElem? (i := 480) (by decide +kernel), List.mem_of_getElem? (i := 481) (by decide +kernel)⟩
theorem lw_p9 : lw_okq (⟨"SlopeCompiler$Parser", "numberWithin", "(II)Z"⟩, 10) := ⟨⟨by decide +kernel, by decide +kernel⟩, List.mem_of_getElem? (i := 31) (by decide +kernel), List.mem_of_getElem? (i := 484) (by decide +kernel), List.mem_of_getElem? (i := 485) (by decide +kernel)⟩
theorem lw_p10 : lw_okq (⟨"SlopeCompiler$Parser", "addRow", "(III)V"⟩, 10) := ⟨⟨by decide +kernel, by decide +kernel⟩, List.mem_of_getElem? (i := 31) (by decide +kernel), List.mem_of_getElem? (i := 488) (by decide +kernel), List.mem_of_getElem? (i := 489) (by decide +kernel)⟩
theorem lw_p11 : lw_okq (⟨"SlopeCompiler$Parser", "aliasLine", "()Z"⟩, 10) := ⟨⟨by decide +kernel, by decide +kernel⟩, List.mem_of_getElem? (i := 31) (by decide +kernel), List.mem_of_getElem? (i := 496) (by decide +kernel), List.mem_of_getElem? (i := 497) (by decide +kernel)⟩
theorem lw_p12 : lw_okq (⟨"SlopeCompiler$Parser", "loopLine", "()Z"⟩, 10) := ⟨⟨by decide +kernel, by decide +kernel⟩, List.mem_of_getElem? (i := 31) (by decide +kernel), List.mem_of_getElem? (i := 500) (by decide +kernel), List.mem_of_getElem? (i := 501) (by decide +kernel)⟩
theorem lw_p13 : lw_okq (⟨"SlopeCompiler$Parser", "openBlock", "(I)V"⟩, 10) := ⟨⟨by decide +kernel, by decide +kernel⟩, List.mem_of_getElem? (i := 31) (by decide +kernel), List.mem_of_getElem? (i := 504) (by decide +kernel), List.mem_of_getElem? (i := 505) (by decide +kernel)⟩
theorem lw_p14 : lw_okq (⟨"SlopeCompiler$Parser", "ifLine", "()Z"⟩, 10) := ⟨⟨by decide +kernel, by decide +kernel⟩, List.mem_of_getElem? (i := 31) (by decide +kernel), List.mem_of_getElem? (i := 512) (by decide +kernel), List.mem_of_getElem? (i := 513) (by decide +kernel)⟩
theorem lw_p15 : lw_okq (⟨"SlopeCompiler$Parser", "expression", "(I)Z"⟩, 10) := ⟨⟨by decide +kernel, by decide +kernel⟩, List.mem_of_getElem? (i := 31) (by decide +kernel), List.mem_of_getElem? (i := 516) (by decide +kernel), List.mem_of_getElem? (i := 517) (by decide +kernel)⟩
def lw_privs_1 : List (MethodName × Nat) := [(⟨"SlopeCompiler", "appendNumber", "(I)V"⟩, 15), (⟨"SlopeCompiler$Parser", "line", "()Z"⟩, 10), (⟨"SlopeCompiler$Parser", "fail", "(I)Z"⟩, 10), (⟨"SlopeCompiler$Parser", "inputLine", "()Z"⟩, 10), (⟨"SlopeCompiler$Parser", "newName", "()Z"⟩, 10), (⟨"SlopeCompiler$Parser", "variableOf", "(IZ)I"⟩, 10), (⟨"SlopeCompiler$Parser", "rowOf", "(I)I"⟩, 10), (⟨"SlopeCompiler$Parser", "rowLine", "()Z"⟩, 10), (⟨"SlopeCompiler$Parser", "newRowName", "()Z"⟩, 10), (⟨"SlopeCompiler$Parser", "numberWithin", "(II)Z"⟩, 10), (⟨"SlopeCompiler$Parser", "addRow", "(III)V"⟩, 10), (⟨"SlopeCompiler$Parser", "aliasLine", "()Z"⟩, 10), (⟨"SlopeCompiler$Parser", "loopLine", "()Z"⟩, 10), (⟨"SlopeCompiler$Parser", "openBlock", "(I)V"⟩, 10), (⟨"SlopeCompiler$Parser", "ifLine", "()Z"⟩, 10), (⟨"SlopeCompiler$Parser", "expression", "(I)Z"⟩, 10)]
theorem lw_r1 : ∀ q ∈ lw_privs_1, lw_okq q := List.forall_mem_cons.mpr ⟨lw_p0, List.forall_mem_cons.mpr ⟨lw_p1, List.forall_mem_cons.mpr ⟨lw_p2, List.forall_mem_cons.mpr ⟨lw_p3, List.forall_mem_cons.mpr ⟨lw_p4, List.forall_mem_cons.mpr ⟨lw_p5, List.forall_mem_cons.mpr ⟨lw_p6, List.forall_mem_cons.mpr ⟨lw_p7, List.forall_mem_cons.mpr ⟨lw_p8, List.forall_mem_cons.mpr ⟨lw_p9, List.forall_mem_cons.mpr ⟨lw_p10, List.forall_mem_cons.mpr ⟨lw_p11, List.forall_mem_cons.mpr ⟨lw_p12, List.forall_mem_cons.mpr ⟨lw_p13, List.forall_mem_cons.mpr ⟨lw_p14, List.forall_mem_cons.mpr ⟨lw_p15, fun _ h => absurd h List.not_mem_nil⟩⟩⟩⟩⟩⟩⟩⟩⟩⟩⟩⟩⟩⟩⟩⟩
theorem lw_p16 : lw_okq (⟨"SlopeCompiler$Parser", "factor", "(I)Z"⟩, 10) := ⟨⟨by decide +kernel, by decide +kernel⟩, List.mem_of_getElem? (i := 31) (by decide +kernel), List.mem_of_getElem? (i := 520) (by decide +kernel), List.mem_of_getElem? (i := 521) (by decide +kernel)⟩
theorem lw_p17 : lw_okq (⟨"SlopeCompiler$Parser", "bracket", "(CCI)Z"⟩, 10) := ⟨⟨by decide +kernel, by decide +kernel⟩, List.mem_of_getElem? (i := 31) (by decide +kernel), List.mem_of_getElem? (i := 524) (by decide +kernel), List.mem_of_getElem? (i := 525) (by decide +kernel)⟩
theorem lw_p18 : lw_okq (⟨"SlopeCompiler$Parser", "elseLine", "()Z"⟩, 10) := ⟨⟨by decide +kernel, by decide +kernel⟩, List.mem_of_getElem? (i := 31) (by decide +kernel), List.mem_of_getElem? (i := 536) (by decide +kernel), List.mem_of_getElem? (i := 537) (by decide +kernel)⟩
theorem lw_p19 : lw_okq (⟨"SlopeCompiler$Parser", "endLine", "()Z"⟩, 10) := ⟨⟨by decide +kernel, by decide +kernel⟩, List.mem_of_getElem? (i := 31) (by decide +kernel), List.mem_of_getElem? (i := 544) (by decide +kernel), List.mem_of_getElem? (i := 545) (by decide +kernel)⟩
theorem lw_p20 : lw_okq (⟨"SlopeCompiler$Parser", "outLine", "()Z"⟩, 10) := ⟨⟨by decide +kernel, by decide +kernel⟩, List.mem_of_getElem? (i := 31) (by decide +kernel), List.mem_of_getElem? (i := 548) (by decide +kernel), List.mem_of_getElem? (i := 549) (by decide +kernel)⟩
theorem lw_p21 : lw_okq (⟨"SlopeCompiler$Parser", "assignment", "()Z"⟩, 10) := ⟨⟨by decide +kernel, by decide +kernel⟩, List.mem_of_getElem? (i := 31) (by decide +kernel), List.mem_of_getElem? (i := 552) (by decide +kernel), List.mem_of_getElem? (i := 553) (by decide +kernel)⟩
theorem lw_p22 : lw_okq (⟨"SlopeCompiler$Machine", "clear", "([I)V"⟩, 12) := ⟨⟨by decide +kernel, by decide +kernel⟩, List.mem_of_getElem? (i := 154) (by decide +kernel), List.mem_of_getElem? (i := 563) (by decide +kernel), List.mem_of_getElem? (i := 564) (by decide +kernel)⟩
theorem lw_p23 : lw_okq (⟨"SlopeCompiler$Machine", "reasonToStop", "(I)I"⟩, 12) := ⟨⟨by decide +kernel, by decide +kernel⟩, List.mem_of_getElem? (i := 154) (by decide +kernel), List.mem_of_getElem? (i := 590) (by decide +kernel), List.mem_of_getElem? (i := 591) (by decide +kernel)⟩
theorem lw_p24 : lw_okq (⟨"SlopeCompiler$Machine", "cellAt", "(I)I"⟩, 12) := ⟨⟨by decide +kernel, by decide +kernel⟩, List.mem_of_getElem? (i := 154) (by decide +kernel), List.mem_of_getElem? (i := 598) (by decide +kernel), List.mem_of_getElem? (i := 599) (by decide +kernel)⟩
theorem lw_p25 : lw_okq (⟨"SlopeCompiler$Machine", "perform", "(II)V"⟩, 12) := ⟨⟨by decide +kernel, by decide +kernel⟩, List.mem_of_getElem? (i := 154) (by decide +kernel), List.mem_of_getElem? (i := 610) (by decide +kernel), List.mem_of_getElem? (i := 611) (by decide +kernel)⟩
theorem lw_p26 : lw_okq (⟨"SlopeCompiler$Machine", "fetch", "(I)V"⟩, 12) := ⟨⟨by decide +kernel, by decide +kernel⟩, List.mem_of_getElem? (i := 154) (by decide +kernel), List.mem_of_getElem? (i := 622) (by decide +kernel), List.mem_of_getElem? (i := 623) (by decide +kernel)⟩
theorem lw_p27 : lw_okq (⟨"SlopeCompiler$Machine", "beginLoop", "(I)V"⟩, 12) := ⟨⟨by decide +kernel, by decide +kernel⟩, List.mem_of_getElem? (i := 154) (by decide +kernel), List.mem_of_getElem? (i := 630) (by decide +kernel), List.mem_of_getElem? (i := 631) (by decide +kernel)⟩
theorem lw_p28 : lw_okq (⟨"SlopeCompiler$Machine", "goesRound", "(I)Z"⟩, 12) := ⟨⟨by decide +kernel, by decide +kernel⟩, List.mem_of_getElem? (i := 154) (by decide +kernel), List.mem_of_getElem? (i := 634) (by decide +kernel), List.mem_of_getElem? (i := 635) (by decide +kernel)⟩
theorem lw_p29 : lw_okq (⟨"SlopeCompiler$Machine", "isSo", "(I)Z"⟩, 12) := ⟨⟨by decide +kernel, by decide +kernel⟩, List.mem_of_getElem? (i := 154) (by decide +kernel), List.mem_of_getElem? (i := 642) (by decide +kernel), List.mem_of_getElem? (i := 643) (by decide +kernel)⟩
theorem lw_p30 : lw_okq (⟨"SlopeCompiler", "hasInput", "(I)Z"⟩, 15) := ⟨⟨by decide +kernel, by decide +kernel⟩, List.mem_of_getElem? (i := 23) (by decide +kernel), List.mem_of_getElem? (i := 692) (by decide +kernel), List.mem_of_getElem? (i := 693) (by decide +kernel)⟩
theorem lw_p31 : lw_okq (⟨"SlopeCompiler", "hasEntry", "(I)Z"⟩, 15) := ⟨⟨by decide +kernel, by decide +kernel⟩, List.mem_of_getElem? (i := 23) (by decide +kernel), List.mem_of_getElem? (i := 744) (by decide +kernel), List.mem_of_getElem? (i := 745) (by decide +kernel)⟩
def lw_privs_2 : List (MethodName × Nat) := [(⟨"SlopeCompiler$Parser", "factor", "(I)Z"⟩, 10), (⟨"SlopeCompiler$Parser", "bracket", "(CCI)Z"⟩, 10), (⟨"SlopeCompiler$Parser", "elseLine", "()Z"⟩, 10), (⟨"SlopeCompiler$Parser", "endLine", "()Z"⟩, 10), (⟨"SlopeCompiler$Parser", "outLine", "()Z"⟩, 10), (⟨"SlopeCompiler$Parser", "assignment", "()Z"⟩, 10), (⟨"SlopeCompiler$Machine", "clear", "([I)V"⟩, 12), (⟨"SlopeCompiler$Machine", "reasonToStop", "(I)I"⟩, 12), (⟨"SlopeCompiler$Machine", "cellAt", "(I)I"⟩, 12), (⟨"SlopeCompiler$Machine", "perform", "(II)V"⟩, 12), (⟨"SlopeCompiler$Machine", "fetch", "(I)V"⟩, 12), (⟨"SlopeCompiler$Machine", "beginLoop", "(I)V"⟩, 12), (⟨"SlopeCompiler$Machine", "goesRound", "(I)Z"⟩, 12), (⟨"SlopeCompiler$Machine", "isSo", "(I)Z"⟩, 12), (⟨"SlopeCompiler", "hasInput", "(I)Z"⟩, 15), (⟨"SlopeCompiler", "hasEntry", "(I)Z"⟩, 15)]
theorem lw_r2 : ∀ q ∈ lw_privs_2, lw_okq q := List.forall_mem_cons.mpr ⟨lw_p16, List.forall_mem_cons.mpr ⟨lw_p17, List.forall_mem_cons.mpr ⟨lw_p18, List.forall_mem_cons.mpr ⟨lw_p19, List.forall_mem_cons.mpr ⟨lw_p20, List.forall_mem_cons.mpr ⟨lw_p21, List.forall_mem_cons.mpr ⟨lw_p22, List.forall_mem_cons.mpr ⟨lw_p23, List.forall_mem_cons.mpr ⟨lw_p24, List.forall_mem_cons.mpr ⟨lw_p25, List.forall_mem_cons.mpr ⟨lw_p26, List.forall_mem_cons.mpr ⟨lw_p27, List.forall_mem_cons.mpr ⟨lw_p28, List.forall_mem_cons.mpr ⟨lw_p29, List.forall_mem_cons.mpr ⟨lw_p30, List.forall_mem_cons.mpr ⟨lw_p31, fun _ h => absurd h List.not_mem_nil⟩⟩⟩⟩⟩⟩⟩⟩⟩⟩⟩⟩⟩⟩⟩⟩
theorem lw_p32 : lw_okq (⟨"SlopeCompiler", "outsThatHangOn", "(I)I"⟩, 15) := ⟨⟨by decide +kernel, by decide +kernel⟩, List.mem_of_getElem? (i := 23) (by decide +kernel), List.mem_of_getElem? (i := 748) (by decide +kernel), List.mem_of_getElem? (i := 749) (by decide +kernel)⟩
theorem lw_p33 : lw_okq (⟨"SlopeCompiler$Tape", "unmark", "()V"⟩, 11) := ⟨⟨by decide +kernel, by decide +kernel⟩, List.mem_of_getElem? (i := 179) (by decide +kernel), List.mem_of_getElem? (i := 756) (by decide +kernel), List.mem_of_getElem? (i := 757) (by decide +kernel)⟩
theorem lw_p34 : lw_okq (⟨"SlopeCompiler$Tape", "mark", "(I)V"⟩, 11) := ⟨⟨by decide +kernel, by decide +kernel⟩, List.mem_of_getElem? (i := 179) (by decide +kernel), List.mem_of_getElem? (i := 760) (by decide +kernel), List.mem_of_getElem? (i := 761) (by decide +kernel)⟩
theorem lw_p35 : lw_okq (⟨"SlopeCompiler", "hasOut", "(I)Z"⟩, 15) := ⟨⟨by decide +kernel, by decide +kernel⟩, List.mem_of_getElem? (i := 23) (by decide +kernel), List.mem_of_getElem? (i := 774) (by decide +kernel), List.mem_of_getElem? (i := 775) (by decide +kernel)⟩
theorem lw_p36 : lw_okq (⟨"SlopeCompiler", "secondSlope", "(III)I"⟩, 15) := ⟨⟨by decide +kernel, by decide +kernel⟩, List.mem_of_getElem? (i := 23) (by decide +kernel), List.mem_of_getElem? (i := 806) (by decide +kernel), List.mem_of_getElem? (i := 807) (by decide +kernel)⟩
theorem lw_p37 : lw_okq (⟨"SlopeCompiler$Slopes", "crossed", "(LSlopeCompiler$Tape;III)I"⟩, 3) := ⟨⟨by decide +kernel, by decide +kernel⟩, List.mem_of_getElem? (i := 301) (by decide +kernel), List.mem_of_getElem? (i := 814) (by decide +kernel), List.mem_of_getElem? (i := 815) (by decide +kernel)⟩
theorem lw_p38 : lw_okq (⟨"SlopeCompiler", "fillMatrix", "(II)V"⟩, 15) := ⟨⟨by decide +kernel, by decide +kernel⟩, List.mem_of_getElem? (i := 23) (by decide +kernel), List.mem_of_getElem? (i := 827) (by decide +kernel), List.mem_of_getElem? (i := 828) (by decide +kernel)⟩
theorem lw_p39 : lw_okq (⟨"SlopeCompiler$Matrix", "firstWith", "(III)I"⟩, 3) := ⟨⟨by decide +kernel, by decide +kernel⟩, List.mem_of_getElem? (i := 317) (by decide +kernel), List.mem_of_getElem? (i := 844) (by decide +kernel), List.mem_of_getElem? (i := 845) (by decide +kernel)⟩
theorem lw_p40 : lw_okq (⟨"SlopeCompiler$Matrix", "get", "(II)I"⟩, 3) := ⟨⟨by decide +kernel, by decide +kernel⟩, List.mem_of_getElem? (i := 317) (by decide +kernel), List.mem_of_getElem? (i := 848) (by decide +kernel), List.mem_of_getElem? (i := 849) (by decide +kernel)⟩
theorem lw_p41 : lw_okq (⟨"SlopeCompiler$Matrix", "swapRows", "(III)V"⟩, 3) := ⟨⟨by decide +kernel, by decide +kernel⟩, List.mem_of_getElem? (i := 317) (by decide +kernel), List.mem_of_getElem? (i := 852) (by decide +kernel), List.mem_of_getElem? (i := 853) (by decide +kernel)⟩
theorem lw_p42 : lw_okq (⟨"SlopeCompiler$Matrix", "clearBelow", "(IIII)V"⟩, 3) := ⟨⟨by decide +kernel, by decide +kernel⟩, List.mem_of_getElem? (i := 317) (by decide +kernel), List.mem_of_getElem? (i := 859) (by decide +kernel), List.mem_of_getElem? (i := 860) (by decide +kernel)⟩
theorem lw_p43 : lw_okq (⟨"SlopeCompiler", "tryInput", "(II)V"⟩, 15) := ⟨⟨by decide +kernel, by decide +kernel⟩, List.mem_of_getElem? (i := 23) (by decide +kernel), List.mem_of_getElem? (i := 872) (by decide +kernel), List.mem_of_getElem? (i := 873) (by decide +kernel)⟩
theorem lw_p44 : lw_okq (⟨"SlopeCompiler", "takeDifferences", "(I)Z"⟩, 15) := ⟨⟨by decide +kernel, by decide +kernel⟩, List.mem_of_getElem? (i := 23) (by decide +kernel), List.mem_of_getElem? (i := 888) (by decide +kernel), List.mem_of_getElem? (i := 889) (by decide +kernel)⟩
theorem lw_p45 : lw_okq (⟨"SlopeCompiler", "costForward", "(I)I"⟩, 15) := ⟨⟨by decide +kernel, by decide +kernel⟩, List.mem_of_getElem? (i := 23) (by decide +kernel), List.mem_of_getElem? (i := 922) (by decide +kernel), List.mem_of_getElem? (i := 923) (by decide +kernel)⟩
theorem lw_p46 : lw_okq (⟨"SlopeCompiler", "costBackward", "(I)I"⟩, 15) := ⟨⟨by decide +kernel, by decide +kernel⟩, List.mem_of_getElem? (i := 23) (by decide +kernel), List.mem_of_getElem? (i := 930) (by decide +kernel), List.mem_of_getElem? (i := 931) (by decide +kernel)⟩
theorem lw_p47 : lw_okq (⟨"SlopeCompiler$Walk", "lay", "(III)V"⟩, 8) := ⟨⟨by decide +kernel, by decide +kernel⟩, List.mem_of_getElem? (i := 335) (by decide +kernel), List.mem_of_getElem? (i := 961) (by decide +kernel), List.mem_of_getElem? (i := 962) (by decide +kernel)⟩
def lw_privs_3 : List (MethodName × Nat) := [(⟨"SlopeCompiler", "outsThatHangOn", "(I)I"⟩, 15), (⟨"SlopeCompiler$Tape", "unmark", "()V"⟩, 11), (⟨"SlopeCompiler$Tape", "mark", "(I)V"⟩, 11), (⟨"SlopeCompiler", "hasOut", "(I)Z"⟩, 15), (⟨"SlopeCompiler", "secondSlope", "(III)I"⟩, 15), (⟨"SlopeCompiler$Slopes", "crossed", "(LSlopeCompiler$Tape;III)I"⟩, 3), (⟨"SlopeCompiler", "fillMatrix", "(II)V"⟩, 15), (⟨"SlopeCompiler$Matrix", "firstWith", "(III)I"⟩, 3), (⟨"SlopeCompiler$Matrix", "get", "(II)I"⟩, 3), (⟨"SlopeCompiler$Matrix", "swapRows", "(III)V"⟩, 3), (⟨"SlopeCompiler$Matrix", "clearBelow", "(IIII)V"⟩, 3), (⟨"SlopeCompiler", "tryInput", "(II)V"⟩, 15), (⟨"SlopeCompiler", "takeDifferences", "(I)Z"⟩, 15), (⟨"SlopeCompiler", "costForward", "(I)I"⟩, 15), (⟨"SlopeCompiler", "costBackward", "(I)I"⟩, 15), (⟨"SlopeCompiler$Walk", "lay", "(III)V"⟩, 8)]
theorem lw_r3 : ∀ q ∈ lw_privs_3, lw_okq q := List.forall_mem_cons.mpr ⟨lw_p32, List.forall_mem_cons.mpr ⟨lw_p33, List.forall_mem_cons.mpr ⟨lw_p34, List.forall_mem_cons.mpr ⟨lw_p35, List.forall_mem_cons.mpr ⟨lw_p36, List.forall_mem_cons.mpr ⟨lw_p37, List.forall_mem_cons.mpr ⟨lw_p38, List.forall_mem_cons.mpr ⟨lw_p39, List.forall_mem_cons.mpr ⟨lw_p40, List.forall_mem_cons.mpr ⟨lw_p41, List.forall_mem_cons.mpr ⟨lw_p42, List.forall_mem_cons.mpr ⟨lw_p43, List.forall_mem_cons.mpr ⟨lw_p44, List.forall_mem_cons.mpr ⟨lw_p45, List.forall_mem_cons.mpr ⟨lw_p46, List.forall_mem_cons.mpr ⟨lw_p47, fun _ h => absurd h List.not_mem_nil⟩⟩⟩⟩⟩⟩⟩⟩⟩⟩⟩⟩⟩⟩⟩⟩
theorem lw_p48 : lw_okq (⟨"SlopeCompiler$Walk", "add", "(III)V"⟩, 8) := ⟨⟨by decide +kernel, by decide +kernel⟩, List.mem_of_getElem? (i := 335) (by decide +kernel), List.mem_of_getElem? (i := 966) (by decide +kernel), List.mem_of_getElem? (i := 967) (by decide +kernel)⟩
theorem lw_p49 : lw_okq (⟨"java/lang/Throwable", "fillInStackTrace", "(I)Ljava/lang/Throwable;"⟩, 6) := ⟨⟨by decide +kernel, by decide +kernel⟩, List.mem_of_getElem? (i := 1033) (by decide +kernel), List.mem_of_getElem? (i := 1031) (by decide +kernel), List.mem_of_getElem? (i := 1032) (by decide +kernel)⟩
theorem lw_p50 : lw_okq (⟨"SlopeCompilerModel", "freshText", "()V"⟩, 80) := ⟨⟨by decide +kernel, by decide +kernel⟩, List.mem_of_getElem? (i := 1081) (by decide +kernel), List.mem_of_getElem? (i := 1087) (by decide +kernel), List.mem_of_getElem? (i := 1088) (by decide +kernel)⟩
theorem lw_p51 : lw_okq (⟨"SlopeCompilerModel", "begins", "()V"⟩, 80) := ⟨⟨by decide +kernel, by decide +kernel⟩, List.mem_of_getElem? (i := 1081) (by decide +kernel), List.mem_of_getElem? (i := 1091) (by decide +kernel), List.mem_of_getElem? (i := 1092) (by decide +kernel)⟩
theorem lw_p52 : lw_okq (⟨"SlopeCompilerModel", "runs", "()V"⟩, 80) := ⟨⟨by decide +kernel, by decide +kernel⟩, List.mem_of_getElem? (i := 1081) (by decide +kernel), List.mem_of_getElem? (i := 1095) (by decide +kernel), List.mem_of_getElem? (i := 1096) (by decide +kernel)⟩
theorem lw_p53 : lw_okq (⟨"SlopeCompilerModel", "clears", "()V"⟩, 80) := ⟨⟨by decide +kernel, by decide +kernel⟩, List.mem_of_getElem? (i := 1081) (by decide +kernel), List.mem_of_getElem? (i := 1099) (by decide +kernel), List.mem_of_getElem? (i := 1100) (by decide +kernel)⟩
theorem lw_p54 : lw_okq (⟨"SlopeCompilerModel", "stops", "(II)V"⟩, 80) := ⟨⟨by decide +kernel, by decide +kernel⟩, List.mem_of_getElem? (i := 1081) (by decide +kernel), List.mem_of_getElem? (i := 1103) (by decide +kernel), List.mem_of_getElem? (i := 1104) (by decide +kernel)⟩
theorem lw_p55 : lw_okq (⟨"SlopeCompilerModel", "goes", "(I)I"⟩, 80) := ⟨⟨by decide +kernel, by decide +kernel⟩, List.mem_of_getElem? (i := 1081) (by decide +kernel), List.mem_of_getElem? (i := 1107) (by decide +kernel), List.mem_of_getElem? (i := 1108) (by decide +kernel)⟩
theorem lw_p56 : lw_okq (⟨"SlopeCompilerModel", "push", "(JI)V"⟩, 80) := ⟨⟨by decide +kernel, by decide +kernel⟩, List.mem_of_getElem? (i := 1081) (by decide +kernel), List.mem_of_getElem? (i := 1111) (by decide +kernel), List.mem_of_getElem? (i := 1112) (by decide +kernel)⟩
theorem lw_p57 : lw_okq (⟨"SlopeCompilerModel", "fetches", "(II)V"⟩, 80) := ⟨⟨by decide +kernel, by decide +kernel⟩, List.mem_of_getElem? (i := 1081) (by decide +kernel), List.mem_of_getElem? (i := 1115) (by decide +kernel), List.mem_of_getElem? (i := 1116) (by decide +kernel)⟩
theorem lw_p58 : lw_okq (⟨"SlopeCompilerModel", "puts", "(II)V"⟩, 80) := ⟨⟨by decide +kernel, by decide +kernel⟩, List.mem_of_getElem? (i := 1081) (by decide +kernel), List.mem_of_getElem? (i := 1119) (by decide +kernel), List.mem_of_getElem? (i := 1120) (by decide +kernel)⟩
theorem lw_p59 : lw_okq (⟨"SlopeCompilerModel", "tellsOut", "(I)V"⟩, 80) := ⟨⟨by decide +kernel, by decide +kernel⟩, List.mem_of_getElem? (i := 1081) (by decide +kernel), List.mem_of_getElem? (i := 1123) (by decide +kernel), List.mem_of_getElem? (i := 1124) (by decide +kernel)⟩
theorem lw_p60 : lw_okq (⟨"SlopeCompilerModel", "nextTo", "(II)I"⟩, 80) := ⟨⟨by decide +kernel, by decide +kernel⟩, List.mem_of_getElem? (i := 1081) (by decide +kernel), List.mem_of_getElem? (i := 1127) (by decide +kernel), List.mem_of_getElem? (i := 1128) (by decide +kernel)⟩
theorem lw_p61 : lw_okq (⟨"SlopeCompilerModel", "tests", "(I)Z"⟩, 80) := ⟨⟨by decide +kernel, by decide +kernel⟩, List.mem_of_getElem? (i := 1081) (by decide +kernel), List.mem_of_getElem? (i := 1131) (by decide +kernel), List.mem_of_getElem? (i := 1132) (by decide +kernel)⟩
theorem lw_p62 : lw_okq (⟨"SlopeCompilerModel", "enters", "(I)V"⟩, 80) := ⟨⟨by decide +kernel, by decide +kernel⟩, List.mem_of_getElem? (i := 1081) (by decide +kernel), List.mem_of_getElem? (i := 1140) (by decide +kernel), List.mem_of_getElem? (i := 1141) (by decide +kernel)⟩
theorem lw_p63 : lw_okq (⟨"SlopeCompilerModel", "readText", "(I)V"⟩, 80) := ⟨⟨by decide +kernel, by decide +kernel⟩, List.mem_of_getElem? (i := 1081) (by decide +kernel), List.mem_of_getElem? (i := 1409) (by decide +kernel), List.mem_of_getElem? (i := 1410) (by decide +kernel)⟩
def lw_privs_4 : List (MethodName × Nat) := [(⟨"SlopeCompiler$Walk", "add", "(III)V"⟩, 8), (⟨"java/lang/Throwable", "fillInStackTrace", "(I)Ljava/lang/Throwable;"⟩, 6), (⟨"SlopeCompilerModel", "freshText", "()V"⟩, 80), (⟨"SlopeCompilerModel", "begins", "()V"⟩, 80), (⟨"SlopeCompilerModel", "runs", "()V"⟩, 80), (⟨"SlopeCompilerModel", "clears", "()V"⟩, 80), (⟨"SlopeCompilerModel", "stops", "(II)V"⟩, 80), (⟨"SlopeCompilerModel", "goes", "(I)I"⟩, 80), (⟨"SlopeCompilerModel", "push", "(JI)V"⟩, 80), (⟨"SlopeCompilerModel", "fetches", "(II)V"⟩, 80), (⟨"SlopeCompilerModel", "puts", "(II)V"⟩, 80), (⟨"SlopeCompilerModel", "tellsOut", "(I)V"⟩, 80), (⟨"SlopeCompilerModel", "nextTo", "(II)I"⟩, 80), (⟨"SlopeCompilerModel", "tests", "(I)Z"⟩, 80), (⟨"SlopeCompilerModel", "enters", "(I)V"⟩, 80), (⟨"SlopeCompilerModel", "readText", "(I)V"⟩, 80)]
theorem lw_r4 : ∀ q ∈ lw_privs_4, lw_okq q := List.forall_mem_cons.mpr ⟨lw_p48, List.forall_mem_cons.mpr ⟨lw_p49, List.forall_mem_cons.mpr ⟨lw_p50, List.forall_mem_cons.mpr ⟨lw_p51, List.forall_mem_cons.mpr ⟨lw_p52, List.forall_mem_cons.mpr ⟨lw_p53, List.forall_mem_cons.mpr ⟨lw_p54, List.forall_mem_cons.mpr ⟨lw_p55, List.forall_mem_cons.mpr ⟨lw_p56, List.forall_mem_cons.mpr ⟨lw_p57, List.forall_mem_cons.mpr ⟨lw_p58, List.forall_mem_cons.mpr ⟨lw_p59, List.forall_mem_cons.mpr ⟨lw_p60, List.forall_mem_cons.mpr ⟨lw_p61, List.forall_mem_cons.mpr ⟨lw_p62, List.forall_mem_cons.mpr ⟨lw_p63, fun _ h => absurd h List.not_mem_nil⟩⟩⟩⟩⟩⟩⟩⟩⟩⟩⟩⟩⟩⟩⟩⟩
theorem lw_p64 : lw_okq (⟨"SlopeCompilerModel", "token", "()V"⟩, 80) := ⟨⟨by decide +kernel, by decide +kernel⟩, List.mem_of_getElem? (i := 1081) (by decide +kernel), List.mem_of_getElem? (i := 1413) (by decide +kernel), List.mem_of_getElem? (i := 1414) (by decide +kernel)⟩
theorem lw_p65 : lw_okq (⟨"SlopeCompilerModel", "here", "()I"⟩, 80) := ⟨⟨by decide +kernel, by decide +kernel⟩, List.mem_of_getElem? (i := 1081) (by decide +kernel), List.mem_of_getElem? (i := 1417) (by decide +kernel), List.mem_of_getElem? (i := 1418) (by decide +kernel)⟩
theorem lw_p66 : lw_okq (⟨"SlopeCompilerModel", "wordHere", "()V"⟩, 80) := ⟨⟨by decide +kernel, by decide +kernel⟩, List.mem_of_getElem? (i := 1081) (by decide +kernel), List.mem_of_getElem? (i := 1424) (by decide +kernel), List.mem_of_getElem? (i := 1425) (by decide +kernel)⟩
theorem lw_p67 : lw_okq (⟨"SlopeCompilerModel", "readLine", "()V"⟩, 80) := ⟨⟨by decide +kernel, by decide +kernel⟩, List.mem_of_getElem? (i := 1081) (by decide +kernel), List.mem_of_getElem? (i := 1435) (by decide +kernel), List.mem_of_getElem? (i := 1436) (by decide +kernel)⟩
theorem lw_p68 : lw_okq (⟨"SlopeCompilerModel", "wrong", "(I)V"⟩, 80) := ⟨⟨by decide +kernel, by decide +kernel⟩, List.mem_of_getElem? (i := 1081) (by decide +kernel), List.mem_of_getElem? (i := 1439) (by decide +kernel), List.mem_of_getElem? (i := 1440) (by decide +kernel)⟩
theorem lw_p69 : lw_okq (⟨"SlopeCompilerModel", "readIn", "()V"⟩, 80) := ⟨⟨by decide +kernel, by decide +kernel⟩, List.mem_of_getElem? (i := 1081) (by decide +kernel), List.mem_of_getElem? (i := 1443) (by decide +kernel), List.mem_of_getElem? (i := 1444) (by decide +kernel)⟩
theorem lw_p70 : lw_okq (⟨"SlopeCompilerModel", "goOn", "()V"⟩, 80) := ⟨⟨by decide +kernel, by decide +kernel⟩, List.mem_of_getElem? (i := 1081) (by decide +kernel), List.mem_of_getElem? (i := 1447) (by decide +kernel), List.mem_of_getElem? (i := 1448) (by decide +kernel)⟩
theorem lw_p71 : lw_okq (⟨"SlopeCompilerModel", "newName", "()I"⟩, 80) := ⟨⟨by decide +kernel, by decide +kernel⟩, List.mem_of_getElem? (i := 1081) (by decide +kernel), List.mem_of_getElem? (i := 1451) (by decide +kernel), List.mem_of_getElem? (i := 1452) (by decide +kernel)⟩
theorem lw_p72 : lw_okq (⟨"SlopeCompilerModel", "isName", "()Z"⟩, 80) := ⟨⟨by decide +kernel, by decide +kernel⟩, List.mem_of_getElem? (i := 1081) (by decide +kernel), List.mem_of_getElem? (i := 1455) (by decide +kernel), List.mem_of_getElem? (i := 1456) (by decide +kernel)⟩
theorem lw_p73 : lw_okq (⟨"SlopeCompilerModel", "variableOf", "(I)I"⟩, 80) := ⟨⟨by decide +kernel, by decide +kernel⟩, List.mem_of_getElem? (i := 1081) (by decide +kernel), List.mem_of_getElem? (i := 1464) (by decide +kernel), List.mem_of_getElem? (i := 1465) (by decide +kernel)⟩
theorem lw_p74 : lw_okq (⟨"SlopeCompilerModel", "rowOf", "(I)I"⟩, 80) := ⟨⟨by decide +kernel, by decide +kernel⟩, List.mem_of_getElem? (i := 1081) (by decide +kernel), List.mem_of_getElem? (i := 1468) (by decide +kernel), List.mem_of_getElem? (i := 1469) (by decide +kernel)⟩
theorem lw_p75 : lw_okq (⟨"SlopeCompilerModel", "readRow", "(Z)V"⟩, 80) := ⟨⟨by decide +kernel, by decide +kernel⟩, List.mem_of_getElem? (i := 1081) (by decide +kernel), List.mem_of_getElem? (i := 1472) (by decide +kernel), List.mem_of_getElem? (i := 1473) (by decide +kernel)⟩
theorem lw_p76 : lw_okq (⟨"SlopeCompilerModel", "numeral", "(II)I"⟩, 80) := ⟨⟨by decide +kernel, by decide +kernel⟩, List.mem_of_getElem? (i := 1081) (by decide +kernel), List.mem_of_getElem? (i := 1476) (by decide +kernel), List.mem_of_getElem? (i := 1477) (by decide +kernel)⟩
theorem lw_p77 : lw_okq (⟨"SlopeCompilerModel", "addsRow", "(III)V"⟩, 80) := ⟨⟨by decide +kernel, by decide +kernel⟩, List.mem_of_getElem? (i := 1081) (by decide +kernel), List.mem_of_getElem? (i := 1480) (by decide +kernel), List.mem_of_getElem? (i := 1481) (by decide +kernel)⟩
theorem lw_p78 : lw_okq (⟨"SlopeCompilerModel", "readLoop", "()V"⟩, 80) := ⟨⟨by decide +kernel, by decide +kernel⟩, List.mem_of_getElem? (i := 1081) (by decide +kernel), List.mem_of_getElem? (i := 1484) (by decide +kernel), List.mem_of_getElem? (i := 1485) (by decide +kernel)⟩
theorem lw_p79 : lw_okq (⟨"SlopeCompilerModel", "target", "()I"⟩, 80) := ⟨⟨by decide +kernel, by decide +kernel⟩, List.mem_of_getElem? (i := 1081) (by decide +kernel), List.mem_of_getElem? (i := 1488) (by decide +kernel), List.mem_of_getElem? (i := 1489) (by decide +kernel)⟩
def lw_privs_5 : List (MethodName × Nat) := [(⟨"SlopeCompilerModel", "token", "()V"⟩, 80), (⟨"SlopeCompilerModel", "here", "()I"⟩, 80), (⟨"SlopeCompilerModel", "wordHere", "()V"⟩, 80), (⟨"SlopeCompilerModel", "readLine", "()V"⟩, 80), (⟨"SlopeCompilerModel", "wrong", "(I)V"⟩, 80), (⟨"SlopeCompilerModel", "readIn", "()V"⟩, 80), (⟨"SlopeCompilerModel", "goOn", "()V"⟩, 80), (⟨"SlopeCompilerModel", "newName", "()I"⟩, 80), (⟨"SlopeCompilerModel", "isName", "()Z"⟩, 80), (⟨"SlopeCompilerModel", "variableOf", "(I)I"⟩, 80), (⟨"SlopeCompilerModel", "rowOf", "(I)I"⟩, 80), (⟨"SlopeCompilerModel", "readRow", "(Z)V"⟩, 80), (⟨"SlopeCompilerModel", "numeral", "(II)I"⟩, 80), (⟨"SlopeCompilerModel", "addsRow", "(III)V"⟩, 80), (⟨"SlopeCompilerModel", "readLoop", "()V"⟩, 80), (⟨"SlopeCompilerModel", "target", "()I"⟩, 80)]
theorem lw_r5 : ∀ q ∈ lw_privs_5, lw_okq q := List.forall_mem_cons.mpr ⟨lw_p64, List.forall_mem_cons.mpr ⟨lw_p65, List.forall_mem_cons.mpr ⟨lw_p66, List.forall_mem_cons.mpr ⟨lw_p67, List.forall_mem_cons.mpr ⟨lw_p68, List.forall_mem_cons.mpr ⟨lw_p69, List.forall_mem_cons.mpr ⟨lw_p70, List.forall_mem_cons.mpr ⟨lw_p71, List.forall_mem_cons.mpr ⟨lw_p72, List.forall_mem_cons.mpr ⟨lw_p73, List.forall_mem_cons.mpr ⟨lw_p74, List.forall_mem_cons.mpr ⟨lw_p75, List.forall_mem_cons.mpr ⟨lw_p76, List.forall_mem_cons.mpr ⟨lw_p77, List.forall_mem_cons.mpr ⟨lw_p78, List.forall_mem_cons.mpr ⟨lw_p79, fun _ h => absurd h List.not_mem_nil⟩⟩⟩⟩⟩⟩⟩⟩⟩⟩⟩⟩⟩⟩⟩⟩
theorem lw_p80 : lw_okq (⟨"SlopeCompilerModel", "opens", "(II)V"⟩, 80) := ⟨⟨by decide +kernel, by decide +kernel⟩, List.mem_of_getElem? (i := 1081) (by decide +kernel), List.mem_of_getElem? (i := 1492) (by decide +kernel), List.mem_of_getElem? (i := 1493) (by decide +kernel)⟩
theorem lw_p81 : lw_okq (⟨"SlopeCompilerModel", "writes", "(III)V"⟩, 80) := ⟨⟨by decide +kernel, by decide +kernel⟩, List.mem_of_getElem? (i := 1081) (by decide +kernel), List.mem_of_getElem? (i := 1496) (by decide +kernel), List.mem_of_getElem? (i := 1497) (by decide +kernel)⟩
theorem lw_p82 : lw_okq (⟨"SlopeCompilerModel", "readIf", "()V"⟩, 80) := ⟨⟨by decide +kernel, by decide +kernel⟩, List.mem_of_getElem? (i := 1081) (by decide +kernel), List.mem_of_getElem? (i := 1500) (by decide +kernel), List.mem_of_getElem? (i := 1501) (by decide +kernel)⟩
theorem lw_p83 : lw_okq (⟨"SlopeCompilerModel", "whole", "()V"⟩, 80) := ⟨⟨by decide +kernel, by decide +kernel⟩, List.mem_of_getElem? (i := 1081) (by decide +kernel), List.mem_of_getElem? (i := 1504) (by decide +kernel), List.mem_of_getElem? (i := 1505) (by decide +kernel)⟩
theorem lw_p84 : lw_okq (⟨"SlopeCompilerModel", "sum", "()V"⟩, 80) := ⟨⟨by decide +kernel, by decide +kernel⟩, List.mem_of_getElem? (i := 1081) (by decide +kernel), List.mem_of_getElem? (i := 1508) (by decide +kernel), List.mem_of_getElem? (i := 1509) (by decide +kernel)⟩
theorem lw_p85 : lw_okq (⟨"SlopeCompilerModel", "product", "()V"⟩, 80) := ⟨⟨by decide +kernel, by decide +kernel⟩, List.mem_of_getElem? (i := 1081) (by decide +kernel), List.mem_of_getElem? (i := 1512) (by decide +kernel), List.mem_of_getElem? (i := 1513) (by decide +kernel)⟩
theorem lw_p86 : lw_okq (⟨"SlopeCompilerModel", "factor", "()V"⟩, 80) := ⟨⟨by decide +kernel, by decide +kernel⟩, List.mem_of_getElem? (i := 1081) (by decide +kernel), List.mem_of_getElem? (i := 1516) (by decide +kernel), List.mem_of_getElem? (i := 1517) (by decide +kernel)⟩
theorem lw_p87 : lw_okq (⟨"SlopeCompilerModel", "isSign", "(I)Z"⟩, 80) := ⟨⟨by decide +kernel, by decide +kernel⟩, List.mem_of_getElem? (i := 1081) (by decide +kernel), List.mem_of_getElem? (i := 1520) (by decide +kernel), List.mem_of_getElem? (i := 1521) (by decide +kernel)⟩
theorem lw_p88 : lw_okq (⟨"SlopeCompilerModel", "bracket", "()V"⟩, 80) := ⟨⟨by decide +kernel, by decide +kernel⟩, List.mem_of_getElem? (i := 1081) (by decide +kernel), List.mem_of_getElem? (i := 1524) (by decide +kernel), List.mem_of_getElem? (i := 1525) (by decide +kernel)⟩
theorem lw_p89 : lw_okq (⟨"SlopeCompilerModel", "needs", "(I)V"⟩, 80) := ⟨⟨by decide +kernel, by decide +kernel⟩, List.mem_of_getElem? (i := 1081) (by decide +kernel), List.mem_of_getElem? (i := 1528) (by decide +kernel), List.mem_of_getElem? (i := 1529) (by decide +kernel)⟩
theorem lw_p90 : lw_okq (⟨"SlopeCompilerModel", "named", "()V"⟩, 80) := ⟨⟨by decide +kernel, by decide +kernel⟩, List.mem_of_getElem? (i := 1081) (by decide +kernel), List.mem_of_getElem? (i := 1532) (by decide +kernel), List.mem_of_getElem? (i := 1533) (by decide +kernel)⟩
theorem lw_p91 : lw_okq (⟨"SlopeCompilerModel", "readElse", "()V"⟩, 80) := ⟨⟨by decide +kernel, by decide +kernel⟩, List.mem_of_getElem? (i := 1081) (by decide +kernel), List.mem_of_getElem? (i := 1536) (by decide +kernel), List.mem_of_getElem? (i := 1537) (by decide +kernel)⟩
theorem lw_p92 : lw_okq (⟨"SlopeCompilerModel", "readEnd", "()V"⟩, 80) := ⟨⟨by decide +kernel, by decide +kernel⟩, List.mem_of_getElem? (i := 1081) (by decide +kernel), List.mem_of_getElem? (i := 1540) (by decide +kernel), List.mem_of_getElem? (i := 1541) (by decide +kernel)⟩
theorem lw_p93 : lw_okq (⟨"SlopeCompilerModel", "readAssignment", "()V"⟩, 80) := ⟨⟨by decide +kernel, by decide +kernel⟩, List.mem_of_getElem? (i := 1081) (by decide +kernel), List.mem_of_getElem? (i := 1544) (by decide +kernel), List.mem_of_getElem? (i := 1545) (by decide +kernel)⟩
theorem lw_p94 : lw_okq (⟨"SlopeCompilerModel", "areMixed", "(II)Z"⟩, 80) := ⟨⟨by decide +kernel, by decide +kernel⟩, List.mem_of_getElem? (i := 1081) (by decide +kernel), List.mem_of_getElem? (i := 1566) (by decide +kernel), List.mem_of_getElem? (i := 1567) (by decide +kernel)⟩
theorem lw_p95 : lw_okq (⟨"SlopeCompilerModel", "isOut", "(I)Z"⟩, 80) := ⟨⟨by decide +kernel, by decide +kernel⟩, List.mem_of_getElem? (i := 1081) (by decide +kernel), List.mem_of_getElem? (i := 1582) (by decide +kernel), List.mem_of_getElem? (i := 1583) (by decide +kernel)⟩
def lw_privs_6 : List (MethodName × Nat) := [(⟨"SlopeCompilerModel", "opens", "(II)V"⟩, 80), (⟨"SlopeCompilerModel", "writes", "(III)V"⟩, 80), (⟨"SlopeCompilerModel", "readIf", "()V"⟩, 80), (⟨"SlopeCompilerModel", "whole", "()V"⟩, 80), (⟨"SlopeCompilerModel", "sum", "()V"⟩, 80), (⟨"SlopeCompilerModel", "product", "()V"⟩, 80), (⟨"SlopeCompilerModel", "factor", "()V"⟩, 80), (⟨"SlopeCompilerModel", "isSign", "(I)Z"⟩, 80), (⟨"SlopeCompilerModel", "bracket", "()V"⟩, 80), (⟨"SlopeCompilerModel", "needs", "(I)V"⟩, 80), (⟨"SlopeCompilerModel", "named", "()V"⟩, 80), (⟨"SlopeCompilerModel", "readElse", "()V"⟩, 80), (⟨"SlopeCompilerModel", "readEnd", "()V"⟩, 80), (⟨"SlopeCompilerModel", "readAssignment", "()V"⟩, 80), (⟨"SlopeCompilerModel", "areMixed", "(II)Z"⟩, 80), (⟨"SlopeCompilerModel", "isOut", "(I)Z"⟩, 80)]
theorem lw_r6 : ∀ q ∈ lw_privs_6, lw_okq q := List.forall_mem_cons.mpr ⟨lw_p80, List.forall_mem_cons.mpr ⟨lw_p81, List.forall_mem_cons.mpr ⟨lw_p82, List.forall_mem_cons.mpr ⟨lw_p83, List.forall_mem_cons.mpr ⟨lw_p84, List.forall_mem_cons.mpr ⟨lw_p85, List.forall_mem_cons.mpr ⟨lw_p86, List.forall_mem_cons.mpr ⟨lw_p87, List.forall_mem_cons.mpr ⟨lw_p88, List.forall_mem_cons.mpr ⟨lw_p89, List.forall_mem_cons.mpr ⟨lw_p90, List.forall_mem_cons.mpr ⟨lw_p91, List.forall_mem_cons.mpr ⟨lw_p92, List.forall_mem_cons.mpr ⟨lw_p93, List.forall_mem_cons.mpr ⟨lw_p94, List.forall_mem_cons.mpr ⟨lw_p95, fun _ h => absurd h List.not_mem_nil⟩⟩⟩⟩⟩⟩⟩⟩⟩⟩⟩⟩⟩⟩⟩⟩
theorem lw_p96 : lw_okq (⟨"SlopeCompilerModel", "isEntry", "(I)Z"⟩, 80) := ⟨⟨by decide +kernel, by decide +kernel⟩, List.mem_of_getElem? (i := 1081) (by decide +kernel), List.mem_of_getElem? (i := 1598) (by decide +kernel), List.mem_of_getElem? (i := 1599) (by decide +kernel)⟩
theorem lw_p97 : lw_okq (⟨"SlopeCompilerModel", "outsOn", "(I)I"⟩, 80) := ⟨⟨by decide +kernel, by decide +kernel⟩, List.mem_of_getElem? (i := 1081) (by decide +kernel), List.mem_of_getElem? (i := 1602) (by decide +kernel), List.mem_of_getElem? (i := 1603) (by decide +kernel)⟩
theorem lw_p98 : lw_okq (⟨"SlopeCompilerModel", "laysOn", "(I)V"⟩, 80) := ⟨⟨by decide +kernel, by decide +kernel⟩, List.mem_of_getElem? (i := 1081) (by decide +kernel), List.mem_of_getElem? (i := 1606) (by decide +kernel), List.mem_of_getElem? (i := 1607) (by decide +kernel)⟩
theorem lw_p99 : lw_okq (⟨"SlopeCompilerModel", "isOn", "(II)Z"⟩, 80) := ⟨⟨by decide +kernel, by decide +kernel⟩, List.mem_of_getElem? (i := 1081) (by decide +kernel), List.mem_of_getElem? (i := 1610) (by decide +kernel), List.mem_of_getElem? (i := 1611) (by decide +kernel)⟩
theorem lw_p100 : lw_okq (⟨"SlopeCompilerModel", "inputsOf", "(I)I"⟩, 80) := ⟨⟨by decide +kernel, by decide +kernel⟩, List.mem_of_getElem? (i := 1081) (by decide +kernel), List.mem_of_getElem? (i := 1614) (by decide +kernel), List.mem_of_getElem? (i := 1615) (by decide +kernel)⟩
theorem lw_p101 : lw_okq (⟨"SlopeCompilerModel", "isInput", "(I)Z"⟩, 80) := ⟨⟨by decide +kernel, by decide +kernel⟩, List.mem_of_getElem? (i := 1081) (by decide +kernel), List.mem_of_getElem? (i := 1622) (by decide +kernel), List.mem_of_getElem? (i := 1623) (by decide +kernel)⟩
theorem lw_p102 : lw_okq (⟨"SlopeCompilerModel", "laysBack", "(I)V"⟩, 80) := ⟨⟨by decide +kernel, by decide +kernel⟩, List.mem_of_getElem? (i := 1081) (by decide +kernel), List.mem_of_getElem? (i := 1626) (by decide +kernel), List.mem_of_getElem? (i := 1627) (by decide +kernel)⟩
theorem lw_p103 : lw_okq (⟨"SlopeCompilerModel", "forward", "(I)I"⟩, 80) := ⟨⟨by decide +kernel, by decide +kernel⟩, List.mem_of_getElem? (i := 1081) (by decide +kernel), List.mem_of_getElem? (i := 1638) (by decide +kernel), List.mem_of_getElem? (i := 1639) (by decide +kernel)⟩
theorem lw_p104 : lw_okq (⟨"SlopeCompilerModel", "backward", "(I)I"⟩, 80) := ⟨⟨by decide +kernel, by decide +kernel⟩, List.mem_of_getElem? (i := 1081) (by decide +kernel), List.mem_of_getElem? (i := 1642) (by decide +kernel), List.mem_of_getElem? (i := 1643) (by decide +kernel)⟩
theorem lw_p105 : lw_okq (⟨"SlopeCompilerModel", "isAlive", "(I)Z"⟩, 80) := ⟨⟨by decide +kernel, by decide +kernel⟩, List.mem_of_getElem? (i := 1081) (by decide +kernel), List.mem_of_getElem? (i := 1646) (by decide +kernel), List.mem_of_getElem? (i := 1647) (by decide +kernel)⟩
theorem lw_p106 : lw_okq (⟨"SlopeCompilerModel", "riseOf", "(II)J"⟩, 80) := ⟨⟨by decide +kernel, by decide +kernel⟩, List.mem_of_getElem? (i := 1081) (by decide +kernel), List.mem_of_getElem? (i := 1654) (by decide +kernel), List.mem_of_getElem? (i := 1655) (by decide +kernel)⟩
theorem lw_p107 : lw_okq (⟨"SlopeCompilerModel", "lays", "(I[J)V"⟩, 80) := ⟨⟨by decide +kernel, by decide +kernel⟩, List.mem_of_getElem? (i := 1081) (by decide +kernel), List.mem_of_getElem? (i := 1658) (by decide +kernel), List.mem_of_getElem? (i := 1659) (by decide +kernel)⟩
theorem lw_p108 : lw_okq (⟨"SlopeCompilerModel", "secondBy", "(III)J"⟩, 80) := ⟨⟨by decide +kernel, by decide +kernel⟩, List.mem_of_getElem? (i := 1081) (by decide +kernel), List.mem_of_getElem? (i := 1673) (by decide +kernel), List.mem_of_getElem? (i := 1674) (by decide +kernel)⟩
theorem lw_p109 : lw_okq (⟨"SlopeCompilerModel", "laysSquare", "(II)V"⟩, 80) := ⟨⟨by decide +kernel, by decide +kernel⟩, List.mem_of_getElem? (i := 1081) (by decide +kernel), List.mem_of_getElem? (i := 1688) (by decide +kernel), List.mem_of_getElem? (i := 1689) (by decide +kernel)⟩
theorem lw_p110 : lw_okq (⟨"SlopeCompilerModel", "rowWith", "(III)I"⟩, 80) := ⟨⟨by decide +kernel, by decide +kernel⟩, List.mem_of_getElem? (i := 1081) (by decide +kernel), List.mem_of_getElem? (i := 1692) (by decide +kernel), List.mem_of_getElem? (i := 1693) (by decide +kernel)⟩
theorem lw_p111 : lw_okq (⟨"SlopeCompilerModel", "swaps", "(II)V"⟩, 80) := ⟨⟨by decide +kernel, by decide +kernel⟩, List.mem_of_getElem? (i := 1081) (by decide +kernel), List.mem_of_getElem? (i := 1696) (by decide +kernel), List.mem_of_getElem? (i := 1697) (by decide +kernel)⟩
def lw_privs_7 : List (MethodName × Nat) := [(⟨"SlopeCompilerModel", "isEntry", "(I)Z"⟩, 80), (⟨"SlopeCompilerModel", "outsOn", "(I)I"⟩, 80), (⟨"SlopeCompilerModel", "laysOn", "(I)V"⟩, 80), (⟨"SlopeCompilerModel", "isOn", "(II)Z"⟩, 80), (⟨"SlopeCompilerModel", "inputsOf", "(I)I"⟩, 80), (⟨"SlopeCompilerModel", "isInput", "(I)Z"⟩, 80), (⟨"SlopeCompilerModel", "laysBack", "(I)V"⟩, 80), (⟨"SlopeCompilerModel", "forward", "(I)I"⟩, 80), (⟨"SlopeCompilerModel", "backward", "(I)I"⟩, 80), (⟨"SlopeCompilerModel", "isAlive", "(I)Z"⟩, 80), (⟨"SlopeCompilerModel", "riseOf", "(II)J"⟩, 80), (⟨"SlopeCompilerModel", "lays", "(I[J)V"⟩, 80), (⟨"SlopeCompilerModel", "secondBy", "(III)J"⟩, 80), (⟨"SlopeCompilerModel", "laysSquare", "(II)V"⟩, 80), (⟨"SlopeCompilerModel", "rowWith", "(III)I"⟩, 80), (⟨"SlopeCompilerModel", "swaps", "(II)V"⟩, 80)]
theorem lw_r7 : ∀ q ∈ lw_privs_7, lw_okq q := List.forall_mem_cons.mpr ⟨lw_p96, List.forall_mem_cons.mpr ⟨lw_p97, List.forall_mem_cons.mpr ⟨lw_p98, List.forall_mem_cons.mpr ⟨lw_p99, List.forall_mem_cons.mpr ⟨lw_p100, List.forall_mem_cons.mpr ⟨lw_p101, List.forall_mem_cons.mpr ⟨lw_p102, List.forall_mem_cons.mpr ⟨lw_p103, List.forall_mem_cons.mpr ⟨lw_p104, List.forall_mem_cons.mpr ⟨lw_p105, List.forall_mem_cons.mpr ⟨lw_p106, List.forall_mem_cons.mpr ⟨lw_p107, List.forall_mem_cons.mpr ⟨lw_p108, List.forall_mem_cons.mpr ⟨lw_p109, List.forall_mem_cons.mpr ⟨lw_p110, List.forall_mem_cons.mpr ⟨lw_p111, fun _ h => absurd h List.not_mem_nil⟩⟩⟩⟩⟩⟩⟩⟩⟩⟩⟩⟩⟩⟩⟩⟩
theorem lw_p112 : lw_okq (⟨"SlopeCompilerModel", "takesOff", "(IIII)V"⟩, 80) := ⟨⟨by decide +kernel, by decide +kernel⟩, List.mem_of_getElem? (i := 1081) (by decide +kernel), List.mem_of_getElem? (i := 1700) (by decide +kernel), List.mem_of_getElem? (i := 1701) (by decide +kernel)⟩
theorem lw_p113 : lw_okq (⟨"SlopeCompilerModel", "degreeOf", "()I"⟩, 80) := ⟨⟨by decide +kernel, by decide +kernel⟩, List.mem_of_getElem? (i := 1081) (by decide +kernel), List.mem_of_getElem? (i := 1720) (by decide +kernel), List.mem_of_getElem? (i := 1721) (by decide +kernel)⟩
theorem lw_p114 : lw_okq (⟨"SlopeCompilerModel", "isOther", "(I)Z"⟩, 80) := ⟨⟨by decide +kernel, by decide +kernel⟩, List.mem_of_getElem? (i := 1081) (by decide +kernel), List.mem_of_getElem? (i := 1728) (by decide +kernel), List.mem_of_getElem? (i := 1729) (by decide +kernel)⟩
theorem lw_p115 : lw_okq (⟨"SlopeCompilerModel", "laysFew", "()V"⟩, 80) := ⟨⟨by decide +kernel, by decide +kernel⟩, List.mem_of_getElem? (i := 1081) (by decide +kernel), List.mem_of_getElem? (i := 1739) (by decide +kernel), List.mem_of_getElem? (i := 1740) (by decide +kernel)⟩
theorem lw_p116 : lw_okq (⟨"SlopeCompilerModel", "allActs", "(III)V"⟩, 80) := ⟨⟨by decide +kernel, by decide +kernel⟩, List.mem_of_getElem? (i := 1081) (by decide +kernel), List.mem_of_getElem? (i := 1759) (by decide +kernel), List.mem_of_getElem? (i := 1760) (by decide +kernel)⟩
theorem lw_p117 : lw_okq (⟨"SlopeCompilerModel", "backward", "(III)V"⟩, 80) := ⟨⟨by decide +kernel, by decide +kernel⟩, List.mem_of_getElem? (i := 1081) (by decide +kernel), List.mem_of_getElem? (i := 1763) (by decide +kernel), List.mem_of_getElem? (i := 1764) (by decide +kernel)⟩
theorem lw_p118 : lw_okq (⟨"SlopeCompilerModel", "acts", "(III)V"⟩, 80) := ⟨⟨by decide +kernel, by decide +kernel⟩, List.mem_of_getElem? (i := 1081) (by decide +kernel), List.mem_of_getElem? (i := 1767) (by decide +kernel), List.mem_of_getElem? (i := 1768) (by decide +kernel)⟩
def lw_privs_8 : List (MethodName × Nat) := [(⟨"SlopeCompilerModel", "takesOff", "(IIII)V"⟩, 80), (⟨"SlopeCompilerModel", "degreeOf", "()I"⟩, 80), (⟨"SlopeCompilerModel", "isOther", "(I)Z"⟩, 80), (⟨"SlopeCompilerModel", "laysFew", "()V"⟩, 80), (⟨"SlopeCompilerModel", "allActs", "(III)V"⟩, 80), (⟨"SlopeCompilerModel", "backward", "(III)V"⟩, 80), (⟨"SlopeCompilerModel", "acts", "(III)V"⟩, 80)]
theorem lw_r8 : ∀ q ∈ lw_privs_8, lw_okq q := List.forall_mem_cons.mpr ⟨lw_p112, List.forall_mem_cons.mpr ⟨lw_p113, List.forall_mem_cons.mpr ⟨lw_p114, List.forall_mem_cons.mpr ⟨lw_p115, List.forall_mem_cons.mpr ⟨lw_p116, List.forall_mem_cons.mpr ⟨lw_p117, List.forall_mem_cons.mpr ⟨lw_p118, fun _ h => absurd h List.not_mem_nil⟩⟩⟩⟩⟩⟩⟩
def lw_privs : List (MethodName × Nat) := lw_privs_1 ++ (lw_privs_2 ++ (lw_privs_3 ++ (lw_privs_4 ++ (lw_privs_5 ++ (lw_privs_6 ++ (lw_privs_7 ++ (lw_privs_8)))))))
def lw_tbl : List Cond := k2_sels lw_privs ++ tables_1
theorem lw_privs_ok : ∀ q ∈ lw_privs, lw_okq q := by
  show ∀ q ∈ lw_privs_1 ++ (lw_privs_2 ++ (lw_privs_3 ++ (lw_privs_4 ++ (lw_privs_5 ++ (lw_privs_6 ++ (lw_privs_7 ++ (lw_privs_8))))))), lw_okq q
  exact List.forall_mem_append.mpr ⟨lw_r1, List.forall_mem_append.mpr ⟨lw_r2, List.forall_mem_append.mpr ⟨lw_r3, List.forall_mem_append.mpr ⟨lw_r4, List.forall_mem_append.mpr ⟨lw_r5, List.forall_mem_append.mpr ⟨lw_r6, List.forall_mem_append.mpr ⟨lw_r7, lw_r8⟩⟩⟩⟩⟩⟩⟩
def RX0 : String := "SlopeCompiler$Answers"
def TX0 : u_T := fun k => match k with
  | 0 => ("SlopeCompiler$Answers", "bits", "[I", true)
  | 1 => ("SlopeCompiler$Answers", "length", "I", false)
  | _ => ("SlopeCompiler$Answers", "so", "I", false)
def tyX0 : Nat → FieldType := fun k => match k with
  | 0 => .array .int
  | 1 => .int
  | _ => .int
abbrev wsX00 : List Cond := u_ws RX0 TX0 3
theorem nmX0 : ∀ a, a < 3 → ∀ b, b < 3 → a ≠ b → (TX0 a).2.1 ≠ (TX0 b).2.1 := by decide +kernel
theorem tyX0_ok : ∀ k, k < 3 → parseFieldDescriptor (TX0 k).2.2.1 = some (tyX0 k) := by decide +kernel
abbrev cX0_init : ByteArray := prog_2_method_1_code
def yX0_init : MethodName := ⟨RX0, "<init>", "()V"⟩
abbrev cX0_clear : ByteArray := prog_2_method_2_code
def yX0_clear : MethodName := ⟨RX0, "clear", "()V"⟩
abbrev cX0_add : ByteArray := prog_2_method_3_code
def yX0_add : MethodName := ⟨RX0, "add", "(Z)V"⟩
abbrev cX0_answerAt : ByteArray := prog_2_method_4_code
def yX0_answerAt : MethodName := ⟨RX0, "answerAt", "(I)I"⟩
abbrev cX0_isLike : ByteArray := prog_2_method_5_code
def yX0_isLike : MethodName := ⟨RX0, "isLike", "(LSlopeCompiler$Answers;)Z"⟩
def RX1 : String := "SlopeCompiler$Machine"
def TX1 : u_T := fun k => match k with
  | 0 => ("SlopeCompiler$Machine", "program", "LSlopeCompiler$Program;", false)
  | 1 => ("SlopeCompiler$Machine", "variables", "LSlopeCompiler$Slots;", true)
  | 2 => ("SlopeCompiler$Machine", "cells", "LSlopeCompiler$Slots;", true)
  | 3 => ("SlopeCompiler$Machine", "stack", "LSlopeCompiler$Slots;", true)
  | 4 => ("SlopeCompiler$Machine", "outs", "LSlopeCompiler$Slots;", true)
  | 5 => ("SlopeCompiler$Machine", "tape", "LSlopeCompiler$Tape;", true)
  | 6 => ("SlopeCompiler$Machine", "tests", "LSlopeCompiler$Answers;", true)
  | 7 => ("SlopeCompiler$Machine", "rounds", "[I", true)
  | 8 => ("SlopeCompiler$Machine", "loops", "I", false)
  | 9 => ("SlopeCompiler$Machine", "at", "I", false)
  | 10 => ("SlopeCompiler$Machine", "done", "I", false)
  | _ => ("SlopeCompiler$Machine", "stop", "I", false)
def tyX1 : Nat → FieldType := fun k => match k with
  | 0 => .object "SlopeCompiler$Program"
  | 1 => .object "SlopeCompiler$Slots"
  | 2 => .object "SlopeCompiler$Slots"
  | 3 => .object "SlopeCompiler$Slots"
  | 4 => .object "SlopeCompiler$Slots"
  | 5 => .object "SlopeCompiler$Tape"
  | 6 => .object "SlopeCompiler$Answers"
  | 7 => .array .int
  | 8 => .int
  | 9 => .int
  | 10 => .int
  | _ => .int
abbrev wsX10 : List Cond := u_ws RX1 TX1 12
theorem nmX1 : ∀ a, a < 12 → ∀ b, b < 12 → a ≠ b → (TX1 a).2.1 ≠ (TX1 b).2.1 := by decide +kernel
theorem tyX1_ok : ∀ k, k < 12 → parseFieldDescriptor (TX1 k).2.2.1 = some (tyX1 k) := by decide +kernel
abbrev cX1_init : ByteArray := prog_3_method_1_code
def yX1_init : MethodName := ⟨RX1, "<init>", "()V"⟩
abbrev cX1_execute : ByteArray := prog_3_method_2_code
def yX1_execute : MethodName := ⟨RX1, "execute", "(LSlopeCompiler$Program;[I)V"⟩
abbrev cX1_clear : ByteArray := prog_3_method_3_code
def yX1_clear : MethodName := ⟨RX1, "clear", "([I)V"⟩
abbrev cX1_reasonToStop : ByteArray := prog_3_method_4_code
def yX1_reasonToStop : MethodName := ⟨RX1, "reasonToStop", "(I)I"⟩
abbrev cX1_cellAt : ByteArray := prog_3_method_5_code
def yX1_cellAt : MethodName := ⟨RX1, "cellAt", "(I)I"⟩
abbrev cX1_perform : ByteArray := prog_3_method_6_code
def yX1_perform : MethodName := ⟨RX1, "perform", "(II)V"⟩
abbrev cX1_fetch : ByteArray := prog_3_method_7_code
def yX1_fetch : MethodName := ⟨RX1, "fetch", "(I)V"⟩
abbrev cX1_beginLoop : ByteArray := prog_3_method_8_code
def yX1_beginLoop : MethodName := ⟨RX1, "beginLoop", "(I)V"⟩
abbrev cX1_goesRound : ByteArray := prog_3_method_9_code
def yX1_goesRound : MethodName := ⟨RX1, "goesRound", "(I)Z"⟩
abbrev cX1_isSo : ByteArray := prog_3_method_10_code
def yX1_isSo : MethodName := ⟨RX1, "isSo", "(I)Z"⟩
def RX2 : String := "SlopeCompiler$Matrix"
def TX2 : u_T := fun k => match k with
  | 0 => ("SlopeCompiler$Matrix", "numbers", "[I", true)
  | 1 => ("SlopeCompiler$Matrix", "pivots", "I", false)
  | _ => ("SlopeCompiler$Matrix", "product", "I", false)
def tyX2 : Nat → FieldType := fun k => match k with
  | 0 => .array .int
  | 1 => .int
  | _ => .int
abbrev wsX20 : List Cond := u_ws RX2 TX2 3
theorem nmX2 : ∀ a, a < 3 → ∀ b, b < 3 → a ≠ b → (TX2 a).2.1 ≠ (TX2 b).2.1 := by decide +kernel
theorem tyX2_ok : ∀ k, k < 3 → parseFieldDescriptor (TX2 k).2.2.1 = some (tyX2 k) := by decide +kernel
abbrev cX2_init : ByteArray := prog_4_method_1_code
def yX2_init : MethodName := ⟨RX2, "<init>", "()V"⟩
abbrev cX2_put : ByteArray := prog_4_method_2_code
def yX2_put : MethodName := ⟨RX2, "put", "(III)V"⟩
abbrev cX2_get : ByteArray := prog_4_method_3_code
def yX2_get : MethodName := ⟨RX2, "get", "(II)I"⟩
abbrev cX2_eliminate : ByteArray := prog_4_method_4_code
def yX2_eliminate : MethodName := ⟨RX2, "eliminate", "(II)V"⟩
abbrev cX2_firstWith : ByteArray := prog_4_method_5_code
def yX2_firstWith : MethodName := ⟨RX2, "firstWith", "(III)I"⟩
abbrev cX2_swapRows : ByteArray := prog_4_method_6_code
def yX2_swapRows : MethodName := ⟨RX2, "swapRows", "(III)V"⟩
abbrev cX2_clearBelow : ByteArray := prog_4_method_7_code
def yX2_clearBelow : MethodName := ⟨RX2, "clearBelow", "(IIII)V"⟩
def RX3 : String := "SlopeCompiler$Numbers"
def TX3 : u_T := fun k => match k with
  | _ => ("", "", "", false)
def tyX3 : Nat → FieldType := fun k => match k with
  | _ => .int
abbrev wsX30 : List Cond := u_ws RX3 TX3 0
theorem nmX3 : ∀ a, a < 0 → ∀ b, b < 0 → a ≠ b → (TX3 a).2.1 ≠ (TX3 b).2.1 := by decide +kernel
theorem tyX3_ok : ∀ k, k < 0 → parseFieldDescriptor (TX3 k).2.2.1 = some (tyX3 k) := by decide +kernel
abbrev cX3_of : ByteArray := prog_5_method_2_code
def yX3_of : MethodName := ⟨RX3, "of", "(I)I"⟩
abbrev cX3_plus : ByteArray := prog_5_method_3_code
def yX3_plus : MethodName := ⟨RX3, "plus", "(II)I"⟩
abbrev cX3_minus : ByteArray := prog_5_method_4_code
def yX3_minus : MethodName := ⟨RX3, "minus", "(II)I"⟩
abbrev cX3_times : ByteArray := prog_5_method_5_code
def yX3_times : MethodName := ⟨RX3, "times", "(II)I"⟩
abbrev cX3_inverse : ByteArray := prog_5_method_6_code
def yX3_inverse : MethodName := ⟨RX3, "inverse", "(I)I"⟩
abbrev cX3_signed : ByteArray := prog_5_method_7_code
def yX3_signed : MethodName := ⟨RX3, "signed", "(I)I"⟩
def RX4 : String := "SlopeCompiler$Parser"
def TX4 : u_T := fun k => match k with
  | 0 => ("SlopeCompiler$Parser", "scanner", "LSlopeCompiler$Scanner;", true)
  | 1 => ("SlopeCompiler$Parser", "program", "LSlopeCompiler$Program;", false)
  | 2 => ("SlopeCompiler$Parser", "variableNames", "[I", true)
  | 3 => ("SlopeCompiler$Parser", "rowNames", "[I", true)
  | 4 => ("SlopeCompiler$Parser", "blockKind", "[I", true)
  | 5 => ("SlopeCompiler$Parser", "blockStart", "[I", true)
  | 6 => ("SlopeCompiler$Parser", "blocks", "I", false)
  | 7 => ("SlopeCompiler$Parser", "late", "Z", false)
  | 8 => ("SlopeCompiler$Parser", "faultKind", "I", false)
  | _ => ("SlopeCompiler$Parser", "faultPlace", "I", false)
def tyX4 : Nat → FieldType := fun k => match k with
  | 0 => .object "SlopeCompiler$Scanner"
  | 1 => .object "SlopeCompiler$Program"
  | 2 => .array .int
  | 3 => .array .int
  | 4 => .array .int
  | 5 => .array .int
  | 6 => .int
  | 7 => .boolean
  | 8 => .int
  | _ => .int
abbrev wsX40 : List Cond := u_ws RX4 TX4 10
theorem nmX4 : ∀ a, a < 10 → ∀ b, b < 10 → a ≠ b → (TX4 a).2.1 ≠ (TX4 b).2.1 := by decide +kernel
theorem tyX4_ok : ∀ k, k < 10 → parseFieldDescriptor (TX4 k).2.2.1 = some (tyX4 k) := by decide +kernel
abbrev cX4_init : ByteArray := prog_6_method_1_code
def yX4_init : MethodName := ⟨RX4, "<init>", "([B)V"⟩
abbrev cX4_compile : ByteArray := prog_6_method_2_code
def yX4_compile : MethodName := ⟨RX4, "compile", "(ILSlopeCompiler$Program;)Z"⟩
abbrev cX4_fail : ByteArray := prog_6_method_3_code
def yX4_fail : MethodName := ⟨RX4, "fail", "(I)Z"⟩
abbrev cX4_line : ByteArray := prog_6_method_4_code
def yX4_line : MethodName := ⟨RX4, "line", "()Z"⟩
abbrev cX4_inputLine : ByteArray := prog_6_method_5_code
def yX4_inputLine : MethodName := ⟨RX4, "inputLine", "()Z"⟩
abbrev cX4_newName : ByteArray := prog_6_method_6_code
def yX4_newName : MethodName := ⟨RX4, "newName", "()Z"⟩
abbrev cX4_newRowName : ByteArray := prog_6_method_7_code
def yX4_newRowName : MethodName := ⟨RX4, "newRowName", "()Z"⟩
abbrev cX4_rowLine : ByteArray := prog_6_method_8_code
def yX4_rowLine : MethodName := ⟨RX4, "rowLine", "()Z"⟩
abbrev cX4_aliasLine : ByteArray := prog_6_method_9_code
def yX4_aliasLine : MethodName := ⟨RX4, "aliasLine", "()Z"⟩
abbrev cX4_addRow : ByteArray := prog_6_method_10_code
def yX4_addRow : MethodName := ⟨RX4, "addRow", "(III)V"⟩
abbrev cX4_numberWithin : ByteArray := prog_6_method_11_code
def yX4_numberWithin : MethodName := ⟨RX4, "numberWithin", "(II)Z"⟩
abbrev cX4_assignment : ByteArray := prog_6_method_12_code
def yX4_assignment : MethodName := ⟨RX4, "assignment", "()Z"⟩
abbrev cX4_loopLine : ByteArray := prog_6_method_13_code
def yX4_loopLine : MethodName := ⟨RX4, "loopLine", "()Z"⟩
abbrev cX4_openBlock : ByteArray := prog_6_method_14_code
def yX4_openBlock : MethodName := ⟨RX4, "openBlock", "(I)V"⟩
abbrev cX4_ifLine : ByteArray := prog_6_method_15_code
def yX4_ifLine : MethodName := ⟨RX4, "ifLine", "()Z"⟩
abbrev cX4_elseLine : ByteArray := prog_6_method_16_code
def yX4_elseLine : MethodName := ⟨RX4, "elseLine", "()Z"⟩
abbrev cX4_endLine : ByteArray := prog_6_method_17_code
def yX4_endLine : MethodName := ⟨RX4, "endLine", "()Z"⟩
abbrev cX4_outLine : ByteArray := prog_6_method_18_code
def yX4_outLine : MethodName := ⟨RX4, "outLine", "()Z"⟩
abbrev cX4_expression : ByteArray := prog_6_method_19_code
def yX4_expression : MethodName := ⟨RX4, "expression", "(I)Z"⟩
abbrev cX4_factor : ByteArray := prog_6_method_20_code
def yX4_factor : MethodName := ⟨RX4, "factor", "(I)Z"⟩
abbrev cX4_bracket : ByteArray := prog_6_method_21_code
def yX4_bracket : MethodName := ⟨RX4, "bracket", "(CCI)Z"⟩
abbrev cX4_rowOf : ByteArray := prog_6_method_22_code
def yX4_rowOf : MethodName := ⟨RX4, "rowOf", "(I)I"⟩
abbrev cX4_variableOf : ByteArray := prog_6_method_23_code
def yX4_variableOf : MethodName := ⟨RX4, "variableOf", "(IZ)I"⟩
def RX5 : String := "SlopeCompiler$Program"
def TX5 : u_T := fun k => match k with
  | 0 => ("SlopeCompiler$Program", "instructions", "[I", true)
  | 1 => ("SlopeCompiler$Program", "length", "I", false)
  | 2 => ("SlopeCompiler$Program", "lines", "I", false)
  | 3 => ("SlopeCompiler$Program", "inputs", "I", false)
  | 4 => ("SlopeCompiler$Program", "variables", "I", false)
  | 5 => ("SlopeCompiler$Program", "rows", "I", false)
  | 6 => ("SlopeCompiler$Program", "cells", "I", false)
  | 7 => ("SlopeCompiler$Program", "rowFirst", "[I", true)
  | _ => ("SlopeCompiler$Program", "rowSize", "[I", true)
def tyX5 : Nat → FieldType := fun k => match k with
  | 0 => .array .int
  | 1 => .int
  | 2 => .int
  | 3 => .int
  | 4 => .int
  | 5 => .int
  | 6 => .int
  | 7 => .array .int
  | _ => .array .int
abbrev wsX50 : List Cond := u_ws RX5 TX5 9
theorem nmX5 : ∀ a, a < 9 → ∀ b, b < 9 → a ≠ b → (TX5 a).2.1 ≠ (TX5 b).2.1 := by decide +kernel
theorem tyX5_ok : ∀ k, k < 9 → parseFieldDescriptor (TX5 k).2.2.1 = some (tyX5 k) := by decide +kernel
abbrev cX5_init : ByteArray := prog_7_method_1_code
def yX5_init : MethodName := ⟨RX5, "<init>", "()V"⟩
abbrev cX5_clear : ByteArray := prog_7_method_2_code
def yX5_clear : MethodName := ⟨RX5, "clear", "()V"⟩
abbrev cX5_emit : ByteArray := prog_7_method_3_code
def yX5_emit : MethodName := ⟨RX5, "emit", "(III)V"⟩
abbrev cX5_leadHere : ByteArray := prog_7_method_4_code
def yX5_leadHere : MethodName := ⟨RX5, "leadHere", "(I)V"⟩
abbrev cX5_kindAt : ByteArray := prog_7_method_5_code
def yX5_kindAt : MethodName := ⟨RX5, "kindAt", "(I)I"⟩
abbrev cX5_operandAt : ByteArray := prog_7_method_6_code
def yX5_operandAt : MethodName := ⟨RX5, "operandAt", "(I)I"⟩
abbrev cX5_roundsAt : ByteArray := prog_7_method_7_code
def yX5_roundsAt : MethodName := ⟨RX5, "roundsAt", "(I)I"⟩
abbrev cX5_addRow : ByteArray := prog_7_method_8_code
def yX5_addRow : MethodName := ⟨RX5, "addRow", "(II)V"⟩
abbrev cX5_rowsThatShare : ByteArray := prog_7_method_9_code
def yX5_rowsThatShare : MethodName := ⟨RX5, "rowsThatShare", "(I)I"⟩
abbrev cX5_cellOf : ByteArray := prog_7_method_10_code
def yX5_cellOf : MethodName := ⟨RX5, "cellOf", "(II)I"⟩
abbrev cX5_hasTest : ByteArray := prog_7_method_11_code
def yX5_hasTest : MethodName := ⟨RX5, "hasTest", "()Z"⟩
def RX6 : String := "SlopeCompiler$Scanner"
def TX6 : u_T := fun k => match k with
  | 0 => ("SlopeCompiler$Scanner", "bytes", "[B", true)
  | 1 => ("SlopeCompiler$Scanner", "length", "I", false)
  | 2 => ("SlopeCompiler$Scanner", "position", "I", false)
  | 3 => ("SlopeCompiler$Scanner", "kind", "I", false)
  | 4 => ("SlopeCompiler$Scanner", "value", "I", false)
  | _ => ("SlopeCompiler$Scanner", "place", "I", false)
def tyX6 : Nat → FieldType := fun k => match k with
  | 0 => .array .byte
  | 1 => .int
  | 2 => .int
  | 3 => .int
  | 4 => .int
  | _ => .int
abbrev wsX60 : List Cond := u_ws RX6 TX6 6
theorem nmX6 : ∀ a, a < 6 → ∀ b, b < 6 → a ≠ b → (TX6 a).2.1 ≠ (TX6 b).2.1 := by decide +kernel
theorem tyX6_ok : ∀ k, k < 6 → parseFieldDescriptor (TX6 k).2.2.1 = some (tyX6 k) := by decide +kernel
abbrev cX6_init : ByteArray := prog_8_method_1_code
def yX6_init : MethodName := ⟨RX6, "<init>", "([B)V"⟩
abbrev cX6_start : ByteArray := prog_8_method_2_code
def yX6_start : MethodName := ⟨RX6, "start", "(I)V"⟩
abbrev cX6_advance : ByteArray := prog_8_method_3_code
def yX6_advance : MethodName := ⟨RX6, "advance", "()V"⟩
abbrev cX6_isName : ByteArray := prog_8_method_4_code
def yX6_isName : MethodName := ⟨RX6, "isName", "()Z"⟩
abbrev cX6_isSign : ByteArray := prog_8_method_5_code
def yX6_isSign : MethodName := ⟨RX6, "isSign", "(C)Z"⟩
abbrev cX6_operator : ByteArray := prog_8_method_6_code
def yX6_operator : MethodName := ⟨RX6, "operator", "()I"⟩
def RX7 : String := "SlopeCompiler$Slopes"
def TX7 : u_T := fun k => match k with
  | 0 => ("SlopeCompiler$Slopes", "first", "[I", true)
  | 1 => ("SlopeCompiler$Slopes", "other", "[I", true)
  | _ => ("SlopeCompiler$Slopes", "both", "[I", true)
def tyX7 : Nat → FieldType := fun k => match k with
  | 0 => .array .int
  | 1 => .array .int
  | _ => .array .int
abbrev wsX70 : List Cond := u_ws RX7 TX7 3
theorem nmX7 : ∀ a, a < 3 → ∀ b, b < 3 → a ≠ b → (TX7 a).2.1 ≠ (TX7 b).2.1 := by decide +kernel
theorem tyX7_ok : ∀ k, k < 3 → parseFieldDescriptor (TX7 k).2.2.1 = some (tyX7 k) := by decide +kernel
abbrev cX7_init : ByteArray := prog_9_method_1_code
def yX7_init : MethodName := ⟨RX7, "<init>", "()V"⟩
abbrev cX7_once : ByteArray := prog_9_method_2_code
def yX7_once : MethodName := ⟨RX7, "once", "(LSlopeCompiler$Tape;II)I"⟩
abbrev cX7_fillFirst : ByteArray := prog_9_method_3_code
def yX7_fillFirst : MethodName := ⟨RX7, "fillFirst", "(LSlopeCompiler$Tape;I)V"⟩
abbrev cX7_firstOf : ByteArray := prog_9_method_4_code
def yX7_firstOf : MethodName := ⟨RX7, "firstOf", "(II)I"⟩
abbrev cX7_of : ByteArray := prog_9_method_5_code
def yX7_of : MethodName := ⟨RX7, "of", "([III)I"⟩
abbrev cX7_fill : ByteArray := prog_9_method_6_code
def yX7_fill : MethodName := ⟨RX7, "fill", "([ILSlopeCompiler$Tape;I)V"⟩
abbrev cX7_joined : ByteArray := prog_9_method_7_code
def yX7_joined : MethodName := ⟨RX7, "joined", "(LSlopeCompiler$Tape;III)I"⟩
abbrev cX7_twice : ByteArray := prog_9_method_8_code
def yX7_twice : MethodName := ⟨RX7, "twice", "(LSlopeCompiler$Tape;III)I"⟩
abbrev cX7_crossed : ByteArray := prog_9_method_9_code
def yX7_crossed : MethodName := ⟨RX7, "crossed", "(LSlopeCompiler$Tape;III)I"⟩
def RX8 : String := "SlopeCompiler$Slots"
def TX8 : u_T := fun k => match k with
  | 0 => ("SlopeCompiler$Slots", "values", "[I", true)
  | 1 => ("SlopeCompiler$Slots", "sources", "[I", true)
  | _ => ("SlopeCompiler$Slots", "size", "I", false)
def tyX8 : Nat → FieldType := fun k => match k with
  | 0 => .array .int
  | 1 => .array .int
  | _ => .int
abbrev wsX80 : List Cond := u_ws RX8 TX8 3
theorem nmX8 : ∀ a, a < 3 → ∀ b, b < 3 → a ≠ b → (TX8 a).2.1 ≠ (TX8 b).2.1 := by decide +kernel
theorem tyX8_ok : ∀ k, k < 3 → parseFieldDescriptor (TX8 k).2.2.1 = some (tyX8 k) := by decide +kernel
abbrev cX8_init : ByteArray := prog_10_method_1_code
def yX8_init : MethodName := ⟨RX8, "<init>", "()V"⟩
abbrev cX8_clear : ByteArray := prog_10_method_2_code
def yX8_clear : MethodName := ⟨RX8, "clear", "(I)V"⟩
abbrev cX8_valueAt : ByteArray := prog_10_method_3_code
def yX8_valueAt : MethodName := ⟨RX8, "valueAt", "(I)I"⟩
abbrev cX8_sourceAt : ByteArray := prog_10_method_4_code
def yX8_sourceAt : MethodName := ⟨RX8, "sourceAt", "(I)I"⟩
abbrev cX8_put : ByteArray := prog_10_method_5_code
def yX8_put : MethodName := ⟨RX8, "put", "(III)V"⟩
abbrev cX8_add : ByteArray := prog_10_method_6_code
def yX8_add : MethodName := ⟨RX8, "add", "(II)V"⟩
abbrev cX8_drop : ByteArray := prog_10_method_7_code
def yX8_drop : MethodName := ⟨RX8, "drop", "(I)V"⟩
def RX9 : String := "SlopeCompiler$Tape"
def TX9 : u_T := fun k => match k with
  | 0 => ("SlopeCompiler$Tape", "length", "I", false)
  | 1 => ("SlopeCompiler$Tape", "kind", "[I", true)
  | 2 => ("SlopeCompiler$Tape", "instruction", "[I", true)
  | 3 => ("SlopeCompiler$Tape", "value", "[I", true)
  | 4 => ("SlopeCompiler$Tape", "left", "[I", true)
  | 5 => ("SlopeCompiler$Tape", "right", "[I", true)
  | 6 => ("SlopeCompiler$Tape", "leftSource", "[I", true)
  | 7 => ("SlopeCompiler$Tape", "rightSource", "[I", true)
  | 8 => ("SlopeCompiler$Tape", "inverse", "[I", true)
  | 9 => ("SlopeCompiler$Tape", "inputBits", "[I", true)
  | _ => ("SlopeCompiler$Tape", "marked", "[Z", true)
def tyX9 : Nat → FieldType := fun k => match k with
  | 0 => .int
  | 1 => .array .int
  | 2 => .array .int
  | 3 => .array .int
  | 4 => .array .int
  | 5 => .array .int
  | 6 => .array .int
  | 7 => .array .int
  | 8 => .array .int
  | 9 => .array .int
  | _ => .array .boolean
abbrev wsX90 : List Cond := u_ws RX9 TX9 11
theorem nmX9 : ∀ a, a < 11 → ∀ b, b < 11 → a ≠ b → (TX9 a).2.1 ≠ (TX9 b).2.1 := by decide +kernel
theorem tyX9_ok : ∀ k, k < 11 → parseFieldDescriptor (TX9 k).2.2.1 = some (tyX9 k) := by decide +kernel
abbrev cX9_init : ByteArray := prog_11_method_1_code
def yX9_init : MethodName := ⟨RX9, "<init>", "()V"⟩
abbrev cX9_enter : ByteArray := prog_11_method_2_code
def yX9_enter : MethodName := ⟨RX9, "enter", "(IILSlopeCompiler$Slots;)V"⟩
abbrev cX9_result : ByteArray := prog_11_method_3_code
def yX9_result : MethodName := ⟨RX9, "result", "(IIII)I"⟩
abbrev cX9_bitsOf : ByteArray := prog_11_method_4_code
def yX9_bitsOf : MethodName := ⟨RX9, "bitsOf", "(I)I"⟩
abbrev cX9_markBack : ByteArray := prog_11_method_5_code
def yX9_markBack : MethodName := ⟨RX9, "markBack", "(I)V"⟩
abbrev cX9_markForward : ByteArray := prog_11_method_6_code
def yX9_markForward : MethodName := ⟨RX9, "markForward", "(I)V"⟩
abbrev cX9_unmark : ByteArray := prog_11_method_7_code
def yX9_unmark : MethodName := ⟨RX9, "unmark", "()V"⟩
abbrev cX9_mark : ByteArray := prog_11_method_8_code
def yX9_mark : MethodName := ⟨RX9, "mark", "(I)V"⟩
abbrev cX9_isMarked : ByteArray := prog_11_method_9_code
def yX9_isMarked : MethodName := ⟨RX9, "isMarked", "(I)Z"⟩
abbrev cX9_costOf : ByteArray := prog_11_method_10_code
def yX9_costOf : MethodName := ⟨RX9, "costOf", "(II)I"⟩
def RX10 : String := "SlopeCompiler$Walk"
def TX10 : u_T := fun k => match k with
  | 0 => ("SlopeCompiler$Walk", "wanted", "I", false)
  | 1 => ("SlopeCompiler$Walk", "length", "I", false)
  | 2 => ("SlopeCompiler$Walk", "gone", "I", false)
  | 3 => ("SlopeCompiler$Walk", "kept", "I", false)
  | 4 => ("SlopeCompiler$Walk", "mostKept", "I", false)
  | 5 => ("SlopeCompiler$Walk", "kind", "I", false)
  | 6 => ("SlopeCompiler$Walk", "from", "I", false)
  | _ => ("SlopeCompiler$Walk", "to", "I", false)
def tyX10 : Nat → FieldType := fun k => match k with
  | 0 => .int
  | 1 => .int
  | 2 => .int
  | 3 => .int
  | 4 => .int
  | 5 => .int
  | 6 => .int
  | _ => .int
abbrev wsX100 : List Cond := u_ws RX10 TX10 8
theorem nmX10 : ∀ a, a < 8 → ∀ b, b < 8 → a ≠ b → (TX10 a).2.1 ≠ (TX10 b).2.1 := by decide +kernel
theorem tyX10_ok : ∀ k, k < 8 → parseFieldDescriptor (TX10 k).2.2.1 = some (tyX10 k) := by decide +kernel
abbrev cX10_init : ByteArray := prog_12_method_1_code
def yX10_init : MethodName := ⟨RX10, "<init>", "()V"⟩
abbrev cX10_fewest : ByteArray := prog_12_method_2_code
def yX10_fewest : MethodName := ⟨RX10, "fewest", "(II)I"⟩
abbrev cX10_firstCut : ByteArray := prog_12_method_3_code
def yX10_firstCut : MethodName := ⟨RX10, "firstCut", "(II)I"⟩
abbrev cX10_start : ByteArray := prog_12_method_4_code
def yX10_start : MethodName := ⟨RX10, "start", "(I)V"⟩
abbrev cX10_lay : ByteArray := prog_12_method_5_code
def yX10_lay : MethodName := ⟨RX10, "lay", "(III)V"⟩
abbrev cX10_add : ByteArray := prog_12_method_6_code
def yX10_add : MethodName := ⟨RX10, "add", "(III)V"⟩
def RX11 : String := "SlopeCompiler"
def TX11 : u_T := fun k => match k with
  | 0 => ("SlopeCompiler", "bytes", "[B", true)
  | 1 => ("SlopeCompiler", "byteCount", "I", false)
  | 2 => ("SlopeCompiler", "parser", "LSlopeCompiler$Parser;", true)
  | 3 => ("SlopeCompiler", "faultKind", "I", false)
  | 4 => ("SlopeCompiler", "faultPlace", "I", false)
  | 5 => ("SlopeCompiler", "program", "LSlopeCompiler$Program;", false)
  | 6 => ("SlopeCompiler", "spare", "LSlopeCompiler$Program;", false)
  | 7 => ("SlopeCompiler", "inputs", "[I", true)
  | 8 => ("SlopeCompiler", "machine", "LSlopeCompiler$Machine;", true)
  | 9 => ("SlopeCompiler", "triedInputs", "[I", true)
  | 10 => ("SlopeCompiler", "trial", "LSlopeCompiler$Machine;", true)
  | 11 => ("SlopeCompiler", "slopes", "LSlopeCompiler$Slopes;", true)
  | 12 => ("SlopeCompiler", "matrix", "LSlopeCompiler$Matrix;", true)
  | 13 => ("SlopeCompiler", "walk", "LSlopeCompiler$Walk;", true)
  | _ => ("SlopeCompiler", "differences", "[I", true)
def tyX11 : Nat → FieldType := fun k => match k with
  | 0 => .array .byte
  | 1 => .int
  | 2 => .object "SlopeCompiler$Parser"
  | 3 => .int
  | 4 => .int
  | 5 => .object "SlopeCompiler$Program"
  | 6 => .object "SlopeCompiler$Program"
  | 7 => .array .int
  | 8 => .object "SlopeCompiler$Machine"
  | 9 => .array .int
  | 10 => .object "SlopeCompiler$Machine"
  | 11 => .object "SlopeCompiler$Slopes"
  | 12 => .object "SlopeCompiler$Matrix"
  | 13 => .object "SlopeCompiler$Walk"
  | _ => .array .int
abbrev wsX110 : List Cond := u_ws RX11 TX11 15
theorem nmX11 : ∀ a, a < 15 → ∀ b, b < 15 → a ≠ b → (TX11 a).2.1 ≠ (TX11 b).2.1 := by decide +kernel
theorem tyX11_ok : ∀ k, k < 15 → parseFieldDescriptor (TX11 k).2.2.1 = some (tyX11 k) := by decide +kernel
abbrev cX11_init : ByteArray := prog_1_method_1_code
def yX11_init : MethodName := ⟨RX11, "<init>", "()V"⟩
abbrev cX11_feed : ByteArray := prog_1_method_2_code
def yX11_feed : MethodName := ⟨RX11, "feed", "(IIIII)I"⟩
abbrev cX11_appendNumber : ByteArray := prog_1_method_3_code
def yX11_appendNumber : MethodName := ⟨RX11, "appendNumber", "(I)V"⟩
abbrev cX11_text : ByteArray := prog_1_method_4_code
def yX11_text : MethodName := ⟨RX11, "text", "(I)I"⟩
abbrev cX11_fault : ByteArray := prog_1_method_5_code
def yX11_fault : MethodName := ⟨RX11, "fault", "(I)I"⟩
abbrev cX11_set : ByteArray := prog_1_method_6_code
def yX11_set : MethodName := ⟨RX11, "set", "(III)I"⟩
abbrev cX11_code : ByteArray := prog_1_method_7_code
def yX11_code : MethodName := ⟨RX11, "code", "(II)I"⟩
abbrev cX11_row : ByteArray := prog_1_method_8_code
def yX11_row : MethodName := ⟨RX11, "row", "(II)I"⟩
abbrev cX11_variable : ByteArray := prog_1_method_9_code
def yX11_variable : MethodName := ⟨RX11, "variable", "(II)I"⟩
abbrev cX11_cell : ByteArray := prog_1_method_10_code
def yX11_cell : MethodName := ⟨RX11, "cell", "(II)I"⟩
abbrev cX11_out : ByteArray := prog_1_method_11_code
def yX11_out : MethodName := ⟨RX11, "out", "(II)I"⟩
abbrev cX11_read : ByteArray := prog_1_method_12_code
def yX11_read : MethodName := ⟨RX11, "read", "(LSlopeCompiler$Slots;II)I"⟩
abbrev cX11_run : ByteArray := prog_1_method_13_code
def yX11_run : MethodName := ⟨RX11, "run", "(I)I"⟩
abbrev cX11_path : ByteArray := prog_1_method_14_code
def yX11_path : MethodName := ⟨RX11, "path", "(I)I"⟩
abbrev cX11_entry : ByteArray := prog_1_method_15_code
def yX11_entry : MethodName := ⟨RX11, "entry", "(II)I"⟩
abbrev cX11_outsThatHangOn : ByteArray := prog_1_method_16_code
def yX11_outsThatHangOn : MethodName := ⟨RX11, "outsThatHangOn", "(I)I"⟩
abbrev cX11_slope : ByteArray := prog_1_method_17_code
def yX11_slope : MethodName := ⟨RX11, "slope", "(II)I"⟩
abbrev cX11_bar : ByteArray := prog_1_method_18_code
def yX11_bar : MethodName := ⟨RX11, "bar", "(II)I"⟩
abbrev cX11_second : ByteArray := prog_1_method_19_code
def yX11_second : MethodName := ⟨RX11, "second", "(III)I"⟩
abbrev cX11_secondSlope : ByteArray := prog_1_method_20_code
def yX11_secondSlope : MethodName := ⟨RX11, "secondSlope", "(III)I"⟩
abbrev cX11_turned : ByteArray := prog_1_method_21_code
def yX11_turned : MethodName := ⟨RX11, "turned", "(IIIIII)I"⟩
abbrev cX11_determinant : ByteArray := prog_1_method_22_code
def yX11_determinant : MethodName := ⟨RX11, "determinant", "(I)I"⟩
abbrev cX11_rank : ByteArray := prog_1_method_23_code
def yX11_rank : MethodName := ⟨RX11, "rank", "()I"⟩
abbrev cX11_fillMatrix : ByteArray := prog_1_method_24_code
def yX11_fillMatrix : MethodName := ⟨RX11, "fillMatrix", "(II)V"⟩
abbrev cX11_newton : ByteArray := prog_1_method_25_code
def yX11_newton : MethodName := ⟨RX11, "newton", "(III)I"⟩
abbrev cX11_tryInput : ByteArray := prog_1_method_26_code
def yX11_tryInput : MethodName := ⟨RX11, "tryInput", "(II)V"⟩
abbrev cX11_change : ByteArray := prog_1_method_27_code
def yX11_change : MethodName := ⟨RX11, "change", "(III)I"⟩
abbrev cX11_degree : ByteArray := prog_1_method_28_code
def yX11_degree : MethodName := ⟨RX11, "degree", "(II)I"⟩
abbrev cX11_takeDifferences : ByteArray := prog_1_method_29_code
def yX11_takeDifferences : MethodName := ⟨RX11, "takeDifferences", "(I)Z"⟩
abbrev cX11_bends : ByteArray := prog_1_method_30_code
def yX11_bends : MethodName := ⟨RX11, "bends", "(I)I"⟩
abbrev cX11_hangs : ByteArray := prog_1_method_31_code
def yX11_hangs : MethodName := ⟨RX11, "hangs", "(III)I"⟩
abbrev cX11_back : ByteArray := prog_1_method_32_code
def yX11_back : MethodName := ⟨RX11, "back", "(II)I"⟩
abbrev cX11_cost : ByteArray := prog_1_method_33_code
def yX11_cost : MethodName := ⟨RX11, "cost", "(II)I"⟩
abbrev cX11_costForward : ByteArray := prog_1_method_34_code
def yX11_costForward : MethodName := ⟨RX11, "costForward", "(I)I"⟩
abbrev cX11_costBackward : ByteArray := prog_1_method_35_code
def yX11_costBackward : MethodName := ⟨RX11, "costBackward", "(I)I"⟩
abbrev cX11_few : ByteArray := prog_1_method_36_code
def yX11_few : MethodName := ⟨RX11, "few", "(II)I"⟩
abbrev cX11_split : ByteArray := prog_1_method_37_code
def yX11_split : MethodName := ⟨RX11, "split", "(II)I"⟩
abbrev cX11_states : ByteArray := prog_1_method_38_code
def yX11_states : MethodName := ⟨RX11, "states", "(II)I"⟩
abbrev cX11_action : ByteArray := prog_1_method_39_code
def yX11_action : MethodName := ⟨RX11, "action", "(IIII)I"⟩
abbrev cX11_actions : ByteArray := prog_1_method_40_code
def yX11_actions : MethodName := ⟨RX11, "actions", "(III)I"⟩
abbrev cX11_fraction : ByteArray := prog_1_method_41_code
def yX11_fraction : MethodName := ⟨RX11, "fraction", "(II)I"⟩
abbrev cX11_count : ByteArray := prog_1_method_42_code
def yX11_count : MethodName := ⟨RX11, "count", "(I)I"⟩
abbrev cX11_hasInput : ByteArray := prog_1_method_43_code
def yX11_hasInput : MethodName := ⟨RX11, "hasInput", "(I)Z"⟩
abbrev cX11_hasOut : ByteArray := prog_1_method_44_code
def yX11_hasOut : MethodName := ⟨RX11, "hasOut", "(I)Z"⟩
abbrev cX11_hasEntry : ByteArray := prog_1_method_45_code
def yX11_hasEntry : MethodName := ⟨RX11, "hasEntry", "(I)Z"⟩
def RX12 : String := "SlopeCompilerModel"
def TX12 : u_T := fun k => match k with
  | 0 => ("SlopeCompilerModel", "thrown", "I", false)
  | 1 => ("SlopeCompilerModel", "tape", "[I", true)
  | 2 => ("SlopeCompilerModel", "taped", "I", false)
  | 3 => ("SlopeCompilerModel", "lines", "I", false)
  | 4 => ("SlopeCompilerModel", "size", "I", false)
  | 5 => ("SlopeCompilerModel", "at", "I", false)
  | 6 => ("SlopeCompilerModel", "place", "I", false)
  | 7 => ("SlopeCompilerModel", "sort", "I", false)
  | 8 => ("SlopeCompilerModel", "value", "I", false)
  | 9 => ("SlopeCompilerModel", "fault", "I", false)
  | 10 => ("SlopeCompilerModel", "faultPlace", "I", false)
  | 11 => ("SlopeCompilerModel", "lastFault", "I", false)
  | 12 => ("SlopeCompilerModel", "lastPlace", "I", false)
  | 13 => ("SlopeCompilerModel", "name", "[I", true)
  | 14 => ("SlopeCompilerModel", "names", "I", false)
  | 15 => ("SlopeCompilerModel", "inputsRead", "I", false)
  | 16 => ("SlopeCompilerModel", "rowName", "[I", true)
  | 17 => ("SlopeCompilerModel", "rowFirst", "[I", true)
  | 18 => ("SlopeCompilerModel", "rowLong", "[I", true)
  | 19 => ("SlopeCompilerModel", "rowsRead", "I", false)
  | 20 => ("SlopeCompilerModel", "cellsRead", "I", false)
  | 21 => ("SlopeCompilerModel", "op", "[I", true)
  | 22 => ("SlopeCompilerModel", "arg", "[I", true)
  | 23 => ("SlopeCompilerModel", "more", "[I", true)
  | 24 => ("SlopeCompilerModel", "written", "I", false)
  | 25 => ("SlopeCompilerModel", "open", "[I", true)
  | 26 => ("SlopeCompilerModel", "openAt", "[I", true)
  | 27 => ("SlopeCompilerModel", "opened", "I", false)
  | 28 => ("SlopeCompilerModel", "isBehind", "Z", false)
  | 29 => ("SlopeCompilerModel", "brackets", "I", false)
  | 30 => ("SlopeCompilerModel", "told", "I", false)
  | 31 => ("SlopeCompilerModel", "inputs", "I", false)
  | 32 => ("SlopeCompilerModel", "variables", "I", false)
  | 33 => ("SlopeCompilerModel", "rows", "I", false)
  | 34 => ("SlopeCompilerModel", "cells", "I", false)
  | 35 => ("SlopeCompilerModel", "codes", "I", false)
  | 36 => ("SlopeCompilerModel", "input", "[J", true)
  | 37 => ("SlopeCompilerModel", "kind", "[I", true)
  | 38 => ("SlopeCompilerModel", "made", "[J", true)
  | 39 => ("SlopeCompilerModel", "one", "[J", true)
  | 40 => ("SlopeCompilerModel", "other", "[J", true)
  | 41 => ("SlopeCompilerModel", "oneBy", "[I", true)
  | 42 => ("SlopeCompilerModel", "otherBy", "[I", true)
  | 43 => ("SlopeCompilerModel", "where", "[I", true)
  | 44 => ("SlopeCompilerModel", "entries", "I", false)
  | 45 => ("SlopeCompilerModel", "stack", "[J", true)
  | 46 => ("SlopeCompilerModel", "stackBy", "[I", true)
  | 47 => ("SlopeCompilerModel", "deep", "I", false)
  | 48 => ("SlopeCompilerModel", "varied", "[J", true)
  | 49 => ("SlopeCompilerModel", "variedBy", "[I", true)
  | 50 => ("SlopeCompilerModel", "celled", "[J", true)
  | 51 => ("SlopeCompilerModel", "celledBy", "[I", true)
  | 52 => ("SlopeCompilerModel", "outs", "[J", true)
  | 53 => ("SlopeCompilerModel", "outsBy", "[I", true)
  | 54 => ("SlopeCompilerModel", "outMany", "I", false)
  | 55 => ("SlopeCompilerModel", "paths", "[I", true)
  | 56 => ("SlopeCompilerModel", "tests", "I", false)
  | 57 => ("SlopeCompilerModel", "so", "I", false)
  | 58 => ("SlopeCompilerModel", "gone", "[I", true)
  | 59 => ("SlopeCompilerModel", "stop", "I", false)
  | 60 => ("SlopeCompilerModel", "stopAt", "I", false)
  | 61 => ("SlopeCompilerModel", "done", "I", false)
  | 62 => ("SlopeCompilerModel", "hangs", "[Z", true)
  | 63 => ("SlopeCompilerModel", "wanted", "[Z", true)
  | 64 => ("SlopeCompilerModel", "alive", "[Z", true)
  | 65 => ("SlopeCompilerModel", "rise", "[J", true)
  | 66 => ("SlopeCompilerModel", "riseBy", "[J", true)
  | 67 => ("SlopeCompilerModel", "both", "[J", true)
  | 68 => ("SlopeCompilerModel", "square", "[J", true)
  | 69 => ("SlopeCompilerModel", "seen", "[J", true)
  | 70 => ("SlopeCompilerModel", "pathWas", "[I", true)
  | 71 => ("SlopeCompilerModel", "few", "[I", true)
  | 72 => ("SlopeCompilerModel", "splits", "[I", true)
  | 73 => ("SlopeCompilerModel", "isFew", "Z", false)
  | 74 => ("SlopeCompilerModel", "acts", "I", false)
  | 75 => ("SlopeCompilerModel", "wish", "I", false)
  | 76 => ("SlopeCompilerModel", "wished", "[I", true)
  | 77 => ("SlopeCompilerModel", "over", "I", false)
  | 78 => ("SlopeCompilerModel", "kept", "I", false)
  | _ => ("SlopeCompilerModel", "mostKept", "I", false)
def tyX12 : Nat → FieldType := fun k => match k with
  | 0 => .int
  | 1 => .array .int
  | 2 => .int
  | 3 => .int
  | 4 => .int
  | 5 => .int
  | 6 => .int
  | 7 => .int
  | 8 => .int
  | 9 => .int
  | 10 => .int
  | 11 => .int
  | 12 => .int
  | 13 => .array .int
  | 14 => .int
  | 15 => .int
  | 16 => .array .int
  | 17 => .array .int
  | 18 => .array .int
  | 19 => .int
  | 20 => .int
  | 21 => .array .int
  | 22 => .array .int
  | 23 => .array .int
  | 24 => .int
  | 25 => .array .int
  | 26 => .array .int
  | 27 => .int
  | 28 => .boolean
  | 29 => .int
  | 30 => .int
  | 31 => .int
  | 32 => .int
  | 33 => .int
  | 34 => .int
  | 35 => .int
  | 36 => .array .long
  | 37 => .array .int
  | 38 => .array .long
  | 39 => .array .long
  | 40 => .array .long
  | 41 => .array .int
  | 42 => .array .int
  | 43 => .array .int
  | 44 => .int
  | 45 => .array .long
  | 46 => .array .int
  | 47 => .int
  | 48 => .array .long
  | 49 => .array .int
  | 50 => .array .long
  | 51 => .array .int
  | 52 => .array .long
  | 53 => .array .int
  | 54 => .int
  | 55 => .array .int
  | 56 => .int
  | 57 => .int
  | 58 => .array .int
  | 59 => .int
  | 60 => .int
  | 61 => .int
  | 62 => .array .boolean
  | 63 => .array .boolean
  | 64 => .array .boolean
  | 65 => .array .long
  | 66 => .array .long
  | 67 => .array .long
  | 68 => .array .long
  | 69 => .array .long
  | 70 => .array .int
  | 71 => .array .int
  | 72 => .array .int
  | 73 => .boolean
  | 74 => .int
  | 75 => .int
  | 76 => .array .int
  | 77 => .int
  | 78 => .int
  | _ => .int
abbrev wsX120 : List Cond := u_ws RX12 TX12 80
theorem nmX12 : ∀ a, a < 80 → ∀ b, b < 80 → a ≠ b → (TX12 a).2.1 ≠ (TX12 b).2.1 := by decide +kernel
theorem tyX12_ok : ∀ k, k < 80 → parseFieldDescriptor (TX12 k).2.2.1 = some (tyX12 k) := by decide +kernel
abbrev cX12_init : ByteArray := prog_14_method_1_code
def yX12_init : MethodName := ⟨RX12, "<init>", "()V"⟩
abbrev cX12_thrown : ByteArray := prog_14_method_2_code
def yX12_thrown : MethodName := ⟨RX12, "thrown", "()I"⟩
abbrev cX12_feed : ByteArray := prog_14_method_3_code
def yX12_feed : MethodName := ⟨RX12, "feed", "(IIIII)I"⟩
abbrev cX12_here : ByteArray := prog_14_method_4_code
def yX12_here : MethodName := ⟨RX12, "here", "()I"⟩
abbrev cX12_isSmall : ByteArray := prog_14_method_5_code
def yX12_isSmall : MethodName := ⟨RX12, "isSmall", "(I)Z"⟩
abbrev cX12_isDigit : ByteArray := prog_14_method_6_code
def yX12_isDigit : MethodName := ⟨RX12, "isDigit", "(I)Z"⟩
abbrev cX12_isMark : ByteArray := prog_14_method_7_code
def yX12_isMark : MethodName := ⟨RX12, "isMark", "(I)Z"⟩
abbrev cX12_token : ByteArray := prog_14_method_8_code
def yX12_token : MethodName := ⟨RX12, "token", "()V"⟩
abbrev cX12_wordHere : ByteArray := prog_14_method_9_code
def yX12_wordHere : MethodName := ⟨RX12, "wordHere", "()V"⟩
abbrev cX12_isOwn : ByteArray := prog_14_method_10_code
def yX12_isOwn : MethodName := ⟨RX12, "isOwn", "(I)Z"⟩
abbrev cX12_wrong : ByteArray := prog_14_method_11_code
def yX12_wrong : MethodName := ⟨RX12, "wrong", "(I)V"⟩
abbrev cX12_goOn : ByteArray := prog_14_method_12_code
def yX12_goOn : MethodName := ⟨RX12, "goOn", "()V"⟩
abbrev cX12_numeral : ByteArray := prog_14_method_13_code
def yX12_numeral : MethodName := ⟨RX12, "numeral", "(II)I"⟩
abbrev cX12_isSign : ByteArray := prog_14_method_14_code
def yX12_isSign : MethodName := ⟨RX12, "isSign", "(I)Z"⟩
abbrev cX12_needs : ByteArray := prog_14_method_15_code
def yX12_needs : MethodName := ⟨RX12, "needs", "(I)V"⟩
abbrev cX12_writes : ByteArray := prog_14_method_16_code
def yX12_writes : MethodName := ⟨RX12, "writes", "(III)V"⟩
abbrev cX12_variableOf : ByteArray := prog_14_method_17_code
def yX12_variableOf : MethodName := ⟨RX12, "variableOf", "(I)I"⟩
abbrev cX12_rowOf : ByteArray := prog_14_method_18_code
def yX12_rowOf : MethodName := ⟨RX12, "rowOf", "(I)I"⟩
abbrev cX12_isName : ByteArray := prog_14_method_19_code
def yX12_isName : MethodName := ⟨RX12, "isName", "()Z"⟩
abbrev cX12_newName : ByteArray := prog_14_method_20_code
def yX12_newName : MethodName := ⟨RX12, "newName", "()I"⟩
abbrev cX12_readIn : ByteArray := prog_14_method_21_code
def yX12_readIn : MethodName := ⟨RX12, "readIn", "()V"⟩
abbrev cX12_addsRow : ByteArray := prog_14_method_22_code
def yX12_addsRow : MethodName := ⟨RX12, "addsRow", "(III)V"⟩
abbrev cX12_readRow : ByteArray := prog_14_method_23_code
def yX12_readRow : MethodName := ⟨RX12, "readRow", "(Z)V"⟩
abbrev cX12_bracket : ByteArray := prog_14_method_24_code
def yX12_bracket : MethodName := ⟨RX12, "bracket", "()V"⟩
abbrev cX12_whole : ByteArray := prog_14_method_25_code
def yX12_whole : MethodName := ⟨RX12, "whole", "()V"⟩
abbrev cX12_sum : ByteArray := prog_14_method_26_code
def yX12_sum : MethodName := ⟨RX12, "sum", "()V"⟩
abbrev cX12_product : ByteArray := prog_14_method_27_code
def yX12_product : MethodName := ⟨RX12, "product", "()V"⟩
abbrev cX12_factor : ByteArray := prog_14_method_28_code
def yX12_factor : MethodName := ⟨RX12, "factor", "()V"⟩
abbrev cX12_named : ByteArray := prog_14_method_29_code
def yX12_named : MethodName := ⟨RX12, "named", "()V"⟩
abbrev cX12_target : ByteArray := prog_14_method_30_code
def yX12_target : MethodName := ⟨RX12, "target", "()I"⟩
abbrev cX12_readAssignment : ByteArray := prog_14_method_31_code
def yX12_readAssignment : MethodName := ⟨RX12, "readAssignment", "()V"⟩
abbrev cX12_opens : ByteArray := prog_14_method_32_code
def yX12_opens : MethodName := ⟨RX12, "opens", "(II)V"⟩
abbrev cX12_readLoop : ByteArray := prog_14_method_33_code
def yX12_readLoop : MethodName := ⟨RX12, "readLoop", "()V"⟩
abbrev cX12_readIf : ByteArray := prog_14_method_34_code
def yX12_readIf : MethodName := ⟨RX12, "readIf", "()V"⟩
abbrev cX12_readElse : ByteArray := prog_14_method_35_code
def yX12_readElse : MethodName := ⟨RX12, "readElse", "()V"⟩
abbrev cX12_readEnd : ByteArray := prog_14_method_36_code
def yX12_readEnd : MethodName := ⟨RX12, "readEnd", "()V"⟩
abbrev cX12_readLine : ByteArray := prog_14_method_37_code
def yX12_readLine : MethodName := ⟨RX12, "readLine", "()V"⟩
abbrev cX12_freshText : ByteArray := prog_14_method_38_code
def yX12_freshText : MethodName := ⟨RX12, "freshText", "()V"⟩
abbrev cX12_readText : ByteArray := prog_14_method_39_code
def yX12_readText : MethodName := ⟨RX12, "readText", "(I)V"⟩
abbrev cX12_begins : ByteArray := prog_14_method_40_code
def yX12_begins : MethodName := ⟨RX12, "begins", "()V"⟩
abbrev cX12_text : ByteArray := prog_14_method_41_code
def yX12_text : MethodName := ⟨RX12, "text", "(I)I"⟩
abbrev cX12_fault : ByteArray := prog_14_method_42_code
def yX12_fault : MethodName := ⟨RX12, "fault", "(I)I"⟩
abbrev cX12_left : ByteArray := prog_14_method_43_code
def yX12_left : MethodName := ⟨RX12, "left", "(J)J"⟩
abbrev cX12_power : ByteArray := prog_14_method_44_code
def yX12_power : MethodName := ⟨RX12, "power", "(JJ)J"⟩
abbrev cX12_parted : ByteArray := prog_14_method_45_code
def yX12_parted : MethodName := ⟨RX12, "parted", "(JJ)J"⟩
abbrev cX12_signed : ByteArray := prog_14_method_46_code
def yX12_signed : MethodName := ⟨RX12, "signed", "(J)J"⟩
abbrev cX12_push : ByteArray := prog_14_method_47_code
def yX12_push : MethodName := ⟨RX12, "push", "(JI)V"⟩
abbrev cX12_clears : ByteArray := prog_14_method_48_code
def yX12_clears : MethodName := ⟨RX12, "clears", "()V"⟩
abbrev cX12_stops : ByteArray := prog_14_method_49_code
def yX12_stops : MethodName := ⟨RX12, "stops", "(II)V"⟩
abbrev cX12_runs : ByteArray := prog_14_method_50_code
def yX12_runs : MethodName := ⟨RX12, "runs", "()V"⟩
abbrev cX12_goes : ByteArray := prog_14_method_51_code
def yX12_goes : MethodName := ⟨RX12, "goes", "(I)I"⟩
abbrev cX12_nextTo : ByteArray := prog_14_method_52_code
def yX12_nextTo : MethodName := ⟨RX12, "nextTo", "(II)I"⟩
abbrev cX12_tests : ByteArray := prog_14_method_53_code
def yX12_tests : MethodName := ⟨RX12, "tests", "(I)Z"⟩
abbrev cX12_fetches : ByteArray := prog_14_method_54_code
def yX12_fetches : MethodName := ⟨RX12, "fetches", "(II)V"⟩
abbrev cX12_puts : ByteArray := prog_14_method_55_code
def yX12_puts : MethodName := ⟨RX12, "puts", "(II)V"⟩
abbrev cX12_tellsOut : ByteArray := prog_14_method_56_code
def yX12_tellsOut : MethodName := ⟨RX12, "tellsOut", "(I)V"⟩
abbrev cX12_enters : ByteArray := prog_14_method_57_code
def yX12_enters : MethodName := ⟨RX12, "enters", "(I)V"⟩
abbrev cX12_set : ByteArray := prog_14_method_58_code
def yX12_set : MethodName := ⟨RX12, "set", "(III)I"⟩
abbrev cX12_code : ByteArray := prog_14_method_59_code
def yX12_code : MethodName := ⟨RX12, "code", "(II)I"⟩
abbrev cX12_areMixed : ByteArray := prog_14_method_60_code
def yX12_areMixed : MethodName := ⟨RX12, "areMixed", "(II)Z"⟩
abbrev cX12_row : ByteArray := prog_14_method_61_code
def yX12_row : MethodName := ⟨RX12, "row", "(II)I"⟩
abbrev cX12_variable : ByteArray := prog_14_method_62_code
def yX12_variable : MethodName := ⟨RX12, "variable", "(II)I"⟩
abbrev cX12_cell : ByteArray := prog_14_method_63_code
def yX12_cell : MethodName := ⟨RX12, "cell", "(II)I"⟩
abbrev cX12_isOut : ByteArray := prog_14_method_64_code
def yX12_isOut : MethodName := ⟨RX12, "isOut", "(I)Z"⟩
abbrev cX12_isInput : ByteArray := prog_14_method_65_code
def yX12_isInput : MethodName := ⟨RX12, "isInput", "(I)Z"⟩
abbrev cX12_isEntry : ByteArray := prog_14_method_66_code
def yX12_isEntry : MethodName := ⟨RX12, "isEntry", "(I)Z"⟩
abbrev cX12_out : ByteArray := prog_14_method_67_code
def yX12_out : MethodName := ⟨RX12, "out", "(II)I"⟩
abbrev cX12_run : ByteArray := prog_14_method_68_code
def yX12_run : MethodName := ⟨RX12, "run", "(I)I"⟩
abbrev cX12_path : ByteArray := prog_14_method_69_code
def yX12_path : MethodName := ⟨RX12, "path", "(I)I"⟩
abbrev cX12_laysOn : ByteArray := prog_14_method_70_code
def yX12_laysOn : MethodName := ⟨RX12, "laysOn", "(I)V"⟩
abbrev cX12_isOn : ByteArray := prog_14_method_71_code
def yX12_isOn : MethodName := ⟨RX12, "isOn", "(II)Z"⟩
abbrev cX12_laysBack : ByteArray := prog_14_method_72_code
def yX12_laysBack : MethodName := ⟨RX12, "laysBack", "(I)V"⟩
abbrev cX12_outsOn : ByteArray := prog_14_method_73_code
def yX12_outsOn : MethodName := ⟨RX12, "outsOn", "(I)I"⟩
abbrev cX12_inputsOf : ByteArray := prog_14_method_74_code
def yX12_inputsOf : MethodName := ⟨RX12, "inputsOf", "(I)I"⟩
abbrev cX12_entry : ByteArray := prog_14_method_75_code
def yX12_entry : MethodName := ⟨RX12, "entry", "(II)I"⟩
abbrev cX12_hangs : ByteArray := prog_14_method_76_code
def yX12_hangs : MethodName := ⟨RX12, "hangs", "(III)I"⟩
abbrev cX12_back : ByteArray := prog_14_method_77_code
def yX12_back : MethodName := ⟨RX12, "back", "(II)I"⟩
abbrev cX12_forward : ByteArray := prog_14_method_78_code
def yX12_forward : MethodName := ⟨RX12, "forward", "(I)I"⟩
abbrev cX12_isAlive : ByteArray := prog_14_method_79_code
def yX12_isAlive : MethodName := ⟨RX12, "isAlive", "(I)Z"⟩
abbrev cX12_backward : ByteArray := prog_14_method_80_code
def yX12_backward : MethodName := ⟨RX12, "backward", "(I)I"⟩
abbrev cX12_cost : ByteArray := prog_14_method_81_code
def yX12_cost : MethodName := ⟨RX12, "cost", "(II)I"⟩
abbrev cX12_slopeOf : ByteArray := prog_14_method_82_code
def yX12_slopeOf : MethodName := ⟨RX12, "slopeOf", "(II[J)J"⟩
abbrev cX12_lays : ByteArray := prog_14_method_83_code
def yX12_lays : MethodName := ⟨RX12, "lays", "(I[J)V"⟩
abbrev cX12_slope : ByteArray := prog_14_method_84_code
def yX12_slope : MethodName := ⟨RX12, "slope", "(II)I"⟩
abbrev cX12_riseOf : ByteArray := prog_14_method_85_code
def yX12_riseOf : MethodName := ⟨RX12, "riseOf", "(II)J"⟩
abbrev cX12_bar : ByteArray := prog_14_method_86_code
def yX12_bar : MethodName := ⟨RX12, "bar", "(II)I"⟩
abbrev cX12_secondOf : ByteArray := prog_14_method_87_code
def yX12_secondOf : MethodName := ⟨RX12, "secondOf", "(I[J)J"⟩
abbrev cX12_secondBy : ByteArray := prog_14_method_88_code
def yX12_secondBy : MethodName := ⟨RX12, "secondBy", "(III)J"⟩
abbrev cX12_second : ByteArray := prog_14_method_89_code
def yX12_second : MethodName := ⟨RX12, "second", "(III)I"⟩
abbrev cX12_turned : ByteArray := prog_14_method_90_code
def yX12_turned : MethodName := ⟨RX12, "turned", "(IIIIII)I"⟩
abbrev cX12_laysSquare : ByteArray := prog_14_method_91_code
def yX12_laysSquare : MethodName := ⟨RX12, "laysSquare", "(II)V"⟩
abbrev cX12_rowWith : ByteArray := prog_14_method_92_code
def yX12_rowWith : MethodName := ⟨RX12, "rowWith", "(III)I"⟩
abbrev cX12_swaps : ByteArray := prog_14_method_93_code
def yX12_swaps : MethodName := ⟨RX12, "swaps", "(II)V"⟩
abbrev cX12_takesOff : ByteArray := prog_14_method_94_code
def yX12_takesOff : MethodName := ⟨RX12, "takesOff", "(IIII)V"⟩
abbrev cX12_determinant : ByteArray := prog_14_method_95_code
def yX12_determinant : MethodName := ⟨RX12, "determinant", "(I)I"⟩
abbrev cX12_rank : ByteArray := prog_14_method_96_code
def yX12_rank : MethodName := ⟨RX12, "rank", "()I"⟩
abbrev cX12_newton : ByteArray := prog_14_method_97_code
def yX12_newton : MethodName := ⟨RX12, "newton", "(III)I"⟩
abbrev cX12_change : ByteArray := prog_14_method_98_code
def yX12_change : MethodName := ⟨RX12, "change", "(III)I"⟩
abbrev cX12_degree : ByteArray := prog_14_method_99_code
def yX12_degree : MethodName := ⟨RX12, "degree", "(II)I"⟩
abbrev cX12_degreeOf : ByteArray := prog_14_method_100_code
def yX12_degreeOf : MethodName := ⟨RX12, "degreeOf", "()I"⟩
abbrev cX12_isOther : ByteArray := prog_14_method_101_code
def yX12_isOther : MethodName := ⟨RX12, "isOther", "(I)Z"⟩
abbrev cX12_bends : ByteArray := prog_14_method_102_code
def yX12_bends : MethodName := ⟨RX12, "bends", "(I)I"⟩
abbrev cX12_at : ByteArray := prog_14_method_103_code
def yX12_at : MethodName := ⟨RX12, "at", "(II)I"⟩
abbrev cX12_laysFew : ByteArray := prog_14_method_104_code
def yX12_laysFew : MethodName := ⟨RX12, "laysFew", "()V"⟩
abbrev cX12_isState : ByteArray := prog_14_method_105_code
def yX12_isState : MethodName := ⟨RX12, "isState", "(I)Z"⟩
abbrev cX12_few : ByteArray := prog_14_method_106_code
def yX12_few : MethodName := ⟨RX12, "few", "(II)I"⟩
abbrev cX12_split : ByteArray := prog_14_method_107_code
def yX12_split : MethodName := ⟨RX12, "split", "(II)I"⟩
abbrev cX12_states : ByteArray := prog_14_method_108_code
def yX12_states : MethodName := ⟨RX12, "states", "(II)I"⟩
abbrev cX12_acts : ByteArray := prog_14_method_109_code
def yX12_acts : MethodName := ⟨RX12, "acts", "(III)V"⟩
abbrev cX12_backward_ : ByteArray := prog_14_method_110_code
def yX12_backward_ : MethodName := ⟨RX12, "backward", "(III)V"⟩
abbrev cX12_allActs : ByteArray := prog_14_method_111_code
def yX12_allActs : MethodName := ⟨RX12, "allActs", "(III)V"⟩
abbrev cX12_action : ByteArray := prog_14_method_112_code
def yX12_action : MethodName := ⟨RX12, "action", "(IIII)I"⟩
abbrev cX12_actions : ByteArray := prog_14_method_113_code
def yX12_actions : MethodName := ⟨RX12, "actions", "(III)I"⟩
abbrev cX12_fraction : ByteArray := prog_14_method_114_code
def yX12_fraction : MethodName := ⟨RX12, "fraction", "(II)I"⟩
abbrev cX12_count : ByteArray := prog_14_method_115_code
def yX12_count : MethodName := ⟨RX12, "count", "(I)I"⟩
def RJx145de : String := "java/io/Serializable"
def TJx145de : u_T := fun k => match k with
  | _ => ("", "", "", false)
def tyJx145de : Nat → FieldType := fun k => match k with
  | _ => .int
abbrev wsJx145de0 : List Cond := u_ws RJx145de TJx145de 0
theorem nmJx145de : ∀ a, a < 0 → ∀ b, b < 0 → a ≠ b → (TJx145de a).2.1 ≠ (TJx145de b).2.1 := by decide +kernel
theorem tyJx145de_ok : ∀ k, k < 0 → parseFieldDescriptor (TJx145de k).2.2.1 = some (tyJx145de k) := by decide +kernel
def RJ9 : String := "java/lang/Math"
def TJ9 : u_T := fun k => match k with
  | _ => ("", "", "", false)
def tyJ9 : Nat → FieldType := fun k => match k with
  | _ => .int
abbrev wsJ90 : List Cond := u_ws RJ9 TJ9 0
theorem nmJ9 : ∀ a, a < 0 → ∀ b, b < 0 → a ≠ b → (TJ9 a).2.1 ≠ (TJ9 b).2.1 := by decide +kernel
theorem tyJ9_ok : ∀ k, k < 0 → parseFieldDescriptor (TJ9 k).2.2.1 = some (tyJ9 k) := by decide +kernel
abbrev cJ9_max_7cf53 : ByteArray := prog_18_method_65_code
def yJ9_max_7cf53 : MethodName := ⟨RJ9, "max", "(II)I"⟩
abbrev cJ9_min_7cf53 : ByteArray := prog_18_method_69_code
def yJ9_min_7cf53 : MethodName := ⟨RJ9, "min", "(II)I"⟩
def RJ0 : String := "java/lang/String"
def TJ0 : u_T := fun k => match k with
  | _ => ("", "", "", false)
def tyJ0 : Nat → FieldType := fun k => match k with
  | _ => .int
abbrev wsJ00 : List Cond := u_ws RJ0 TJ0 0
theorem nmJ0 : ∀ a, a < 0 → ∀ b, b < 0 → a ≠ b → (TJ0 a).2.1 ≠ (TJ0 b).2.1 := by decide +kernel
theorem tyJ0_ok : ∀ k, k < 0 → parseFieldDescriptor (TJ0 k).2.2.1 = some (tyJ0 k) := by decide +kernel
def RJ10 : String := "java/lang/System"
def TJ10 : u_T := fun k => match k with
  | _ => ("", "", "", false)
def tyJ10 : Nat → FieldType := fun k => match k with
  | _ => .int
abbrev wsJ100 : List Cond := u_ws RJ10 TJ10 0
theorem nmJ10 : ∀ a, a < 0 → ∀ b, b < 0 → a ≠ b → (TJ10 a).2.1 ≠ (TJ10 b).2.1 := by decide +kernel
theorem tyJ10_ok : ∀ k, k < 0 → parseFieldDescriptor (TJ10 k).2.2.1 = some (tyJ10 k) := by decide +kernel
def RJ7 : String := "java/util/Arrays"
def TJ7 : u_T := fun k => match k with
  | _ => ("", "", "", false)
def tyJ7 : Nat → FieldType := fun k => match k with
  | _ => .int
abbrev wsJ70 : List Cond := u_ws RJ7 TJ7 0
theorem nmJ7 : ∀ a, a < 0 → ∀ b, b < 0 → a ≠ b → (TJ7 a).2.1 ≠ (TJ7 b).2.1 := by decide +kernel
theorem tyJ7_ok : ∀ k, k < 0 → parseFieldDescriptor (TJ7 k).2.2.1 = some (tyJ7 k) := by decide +kernel
abbrev cJ7_fill_53178 : ByteArray := prog_23_method_103_code
def yJ7_fill_53178 : MethodName := ⟨RJ7, "fill", "([II)V"⟩
def RL : String := "SlopeCompilerLaw"
abbrev cL_code : ByteArray := method_3_code
def yL_code : MethodName := ⟨RL, "code", "(LSlopeCompiler;II[J)I"⟩
abbrev cL_law : ByteArray := code
def yL_law : MethodName := ⟨RL, "law", "([I)Z"⟩
theorem am_mem {ws : List Cond} (ps : List Nat) (hp : ws = ps.filterMap (fun i => lw_tbl[i]?)) : ∀ w ∈ ws, w ∈ lw_tbl := by
  intro w hw
  rw [hp] at hw
  obtain ⟨i, -, hi⟩ := List.mem_filterMap.mp hw
  exact List.mem_of_getElem? hi
set_option maxRecDepth 20000 in
theorem inX0 : ∀ w ∈ wsX00, w ∈ lw_tbl := am_mem [367, 369, 371] (by decide +kernel)
set_option maxRecDepth 20000 in
theorem inX1 : ∀ w ∈ wsX10, w ∈ lw_tbl := am_mem [394, 396, 398, 400, 402, 404, 406, 408, 410, 412, 414, 416] (by decide +kernel)
set_option maxRecDepth 20000 in
theorem inX2 : ∀ w ∈ wsX20, w ∈ lw_tbl := am_mem [446, 448, 450] (by decide +kernel)
set_option maxRecDepth 20000 in
theorem inX3 : ∀ w ∈ wsX30, w ∈ lw_tbl := am_mem [] (by decide +kernel)
set_option maxRecDepth 20000 in
theorem inX4 : ∀ w ∈ wsX40, w ∈ lw_tbl := am_mem [197, 199, 201, 203, 205, 207, 209, 211, 213, 215] (by decide +kernel)
set_option maxRecDepth 20000 in
theorem inX5 : ∀ w ∈ wsX50, w ∈ lw_tbl := am_mem [253, 255, 257, 259, 261, 263, 265, 267, 269] (by decide +kernel)
set_option maxRecDepth 20000 in
theorem inX6 : ∀ w ∈ wsX60, w ∈ lw_tbl := am_mem [170, 172, 174, 176, 178, 180] (by decide +kernel)
set_option maxRecDepth 20000 in
theorem inX7 : ∀ w ∈ wsX70, w ∈ lw_tbl := am_mem [428, 430, 432] (by decide +kernel)
set_option maxRecDepth 20000 in
theorem inX8 : ∀ w ∈ wsX80, w ∈ lw_tbl := am_mem [290, 292, 294] (by decide +kernel)
set_option maxRecDepth 20000 in
theorem inX9 : ∀ w ∈ wsX90, w ∈ lw_tbl := am_mem [332, 334, 336, 338, 340, 342, 344, 346, 348, 350, 352] (by decide +kernel)
set_option maxRecDepth 20000 in
theorem inX10 : ∀ w ∈ wsX100, w ∈ lw_tbl := am_mem [473, 475, 477, 479, 481, 483, 485, 487] (by decide +kernel)
set_option maxRecDepth 20000 in
theorem inX11 : ∀ w ∈ wsX110, w ∈ lw_tbl := am_mem [505, 507, 509, 511, 513, 515, 517, 519, 521, 523, 525, 527, 529, 531, 533] (by decide +kernel)
set_option maxRecDepth 20000 in
theorem inX12 : ∀ w ∈ wsX120, w ∈ lw_tbl := am_mem [1353, 1355, 1357, 1359, 1361, 1363, 1365, 1367, 1369, 1371, 1373, 1375, 1377, 1379, 1381, 1383, 1385, 1387, 1389, 1391, 1393, 1395, 1397, 1399, 1401, 1403, 1405, 1407, 1409, 1411, 1413, 1415, 1417, 1419, 1421, 1423, 1425, 1427, 1429, 1431, 1433, 1435, 1437, 1439, 1441, 1443, 1445, 1447, 1449, 1451, 1453, 1455, 1457, 1459, 1461, 1463, 1465, 1467, 1469, 1471, 1473, 1475, 1477, 1479, 1481, 1483, 1485, 1487, 1489, 1491, 1493, 1495, 1497, 1499, 1501, 1503, 1505, 1507, 1509, 1511] (by decide +kernel)
