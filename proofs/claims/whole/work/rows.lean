section
-- ===== PART A: goes FIRST, ahead of the names: the tables' words, and 'selects' of the private methods out of them =====
/-- a private method of a class that the tables say can be made, by its rows of tables_1 -/
def lw_okq (q : MethodName × Nat) : Prop := (q.1.cls ≠ "java/lang/invoke/MethodHandle" ∧ q.1.cls ≠ "java/lang/invoke/VarHandle") ∧ Cond.instantiable q.1.cls q.2 ∈ tables_1 ∧ Cond.privateMethod q.1 ∈ tables_1 ∧ Cond.instanceMethod q.1 ∈ tables_1
theorem lw_p0 : lw_okq (⟨"RationalProgram", "isFeasible", "(I)Z"⟩, 3) := ⟨⟨by decide +kernel, by decide +kernel⟩, List.mem_of_getElem? (i := 16) (by decide +kernel), List.mem_of_getElem? (i := 105) (by decide +kernel), List.mem_of_getElem? (i := 106) (by decide +kernel)⟩
theorem lw_p1 : lw_okq (⟨"RationalProgram$Cone", "tryRay", "(LRationalProgram$Sheet;III)V"⟩, 6) := ⟨⟨by decide +kernel, by decide +kernel⟩, List.mem_of_getElem? (i := 59) (by decide +kernel), List.mem_of_getElem? (i := 123) (by decide +kernel), List.mem_of_getElem? (i := 124) (by decide +kernel)⟩
theorem lw_p2 : lw_okq (⟨"RationalProgram$Cone", "placeColumns", "(I)I"⟩, 6) := ⟨⟨by decide +kernel, by decide +kernel⟩, List.mem_of_getElem? (i := 59) (by decide +kernel), List.mem_of_getElem? (i := 127) (by decide +kernel), List.mem_of_getElem? (i := 128) (by decide +kernel)⟩
theorem lw_p3 : lw_okq (⟨"RationalProgram$Cone", "fillGrid", "(LRationalProgram$Sheet;II)V"⟩, 6) := ⟨⟨by decide +kernel, by decide +kernel⟩, List.mem_of_getElem? (i := 59) (by decide +kernel), List.mem_of_getElem? (i := 131) (by decide +kernel), List.mem_of_getElem? (i := 132) (by decide +kernel)⟩
theorem lw_p4 : lw_okq (⟨"RationalProgram$Cone", "findParts", "(I)Z"⟩, 6) := ⟨⟨by decide +kernel, by decide +kernel⟩, List.mem_of_getElem? (i := 59) (by decide +kernel), List.mem_of_getElem? (i := 139) (by decide +kernel), List.mem_of_getElem? (i := 140) (by decide +kernel)⟩
theorem lw_p5 : lw_okq (⟨"RationalProgram$Cone", "cofactor", "(I)J"⟩, 6) := ⟨⟨by decide +kernel, by decide +kernel⟩, List.mem_of_getElem? (i := 59) (by decide +kernel), List.mem_of_getElem? (i := 143) (by decide +kernel), List.mem_of_getElem? (i := 144) (by decide +kernel)⟩
theorem lw_p6 : lw_okq (⟨"RationalProgram", "canRise", "()Z"⟩, 3) := ⟨⟨by decide +kernel, by decide +kernel⟩, List.mem_of_getElem? (i := 16) (by decide +kernel), List.mem_of_getElem? (i := 162) (by decide +kernel), List.mem_of_getElem? (i := 163) (by decide +kernel)⟩
theorem lw_p7 : lw_okq (⟨"RationalProgram", "traceBends", "()I"⟩, 3) := ⟨⟨by decide +kernel, by decide +kernel⟩, List.mem_of_getElem? (i := 16) (by decide +kernel), List.mem_of_getElem? (i := 177) (by decide +kernel), List.mem_of_getElem? (i := 178) (by decide +kernel)⟩
theorem lw_p8 : lw_okq (⟨"RationalProgram", "earliestRay", "()I"⟩, 3) := ⟨⟨by decide +kernel, by decide +kernel⟩, List.mem_of_getElem? (i := 16) (by decide +kernel), List.mem_of_getElem? (i := 181) (by decide +kernel), List.mem_of_getElem? (i := 182) (by decide +kernel)⟩
theorem lw_p9 : lw_okq (⟨"RationalProgram", "isEarlier", "([J[J)Z"⟩, 3) := ⟨⟨by decide +kernel, by decide +kernel⟩, List.mem_of_getElem? (i := 16) (by decide +kernel), List.mem_of_getElem? (i := 185) (by decide +kernel), List.mem_of_getElem? (i := 186) (by decide +kernel)⟩
theorem lw_p10 : lw_okq (⟨"RationalProgram", "followingRay", "(I)I"⟩, 3) := ⟨⟨by decide +kernel, by decide +kernel⟩, List.mem_of_getElem? (i := 16) (by decide +kernel), List.mem_of_getElem? (i := 195) (by decide +kernel), List.mem_of_getElem? (i := 196) (by decide +kernel)⟩
theorem lw_p11 : lw_okq (⟨"RationalProgram", "isSteeper", "([J[J[J)Z"⟩, 3) := ⟨⟨by decide +kernel, by decide +kernel⟩, List.mem_of_getElem? (i := 16) (by decide +kernel), List.mem_of_getElem? (i := 199) (by decide +kernel), List.mem_of_getElem? (i := 200) (by decide +kernel)⟩
theorem lw_p12 : lw_okq (⟨"RationalProgram", "liftAbove", "([J[J[J)J"⟩, 3) := ⟨⟨by decide +kernel, by decide +kernel⟩, List.mem_of_getElem? (i := 16) (by decide +kernel), List.mem_of_getElem? (i := 203) (by decide +kernel), List.mem_of_getElem? (i := 204) (by decide +kernel)⟩
theorem lw_p13 : lw_okq (⟨"java/lang/Throwable", "fillInStackTrace", "(I)Ljava/lang/Throwable;"⟩, 6) := ⟨⟨by decide +kernel, by decide +kernel⟩, List.mem_of_getElem? (i := 254) (by decide +kernel), List.mem_of_getElem? (i := 252) (by decide +kernel), List.mem_of_getElem? (i := 253) (by decide +kernel)⟩
theorem lw_p14 : lw_okq (⟨"RationalProgram", "hasRow", "(I)Z"⟩, 3) := ⟨⟨by decide +kernel, by decide +kernel⟩, List.mem_of_getElem? (i := 16) (by decide +kernel), List.mem_of_getElem? (i := 295) (by decide +kernel), List.mem_of_getElem? (i := 296) (by decide +kernel)⟩
theorem lw_p15 : lw_okq (⟨"RationalProgram", "hasVariable", "(I)Z"⟩, 3) := ⟨⟨by decide +kernel, by decide +kernel⟩, List.mem_of_getElem? (i := 16) (by decide +kernel), List.mem_of_getElem? (i := 299) (by decide +kernel), List.mem_of_getElem? (i := 300) (by decide +kernel)⟩
def lw_privs_1 : List (MethodName × Nat) := [(⟨"RationalProgram", "isFeasible", "(I)Z"⟩, 3), (⟨"RationalProgram$Cone", "tryRay", "(LRationalProgram$Sheet;III)V"⟩, 6), (⟨"RationalProgram$Cone", "placeColumns", "(I)I"⟩, 6), (⟨"RationalProgram$Cone", "fillGrid", "(LRationalProgram$Sheet;II)V"⟩, 6), (⟨"RationalProgram$Cone", "findParts", "(I)Z"⟩, 6), (⟨"RationalProgram$Cone", "cofactor", "(I)J"⟩, 6), (⟨"RationalProgram", "canRise", "()Z"⟩, 3), (⟨"RationalProgram", "traceBends", "()I"⟩, 3), (⟨"RationalProgram", "earliestRay", "()I"⟩, 3), (⟨"RationalProgram", "isEarlier", "([J[J)Z"⟩, 3), (⟨"RationalProgram", "followingRay", "(I)I"⟩, 3), (⟨"RationalProgram", "isSteeper", "([J[J[J)Z"⟩, 3), (⟨"RationalProgram", "liftAbove", "([J[J[J)J"⟩, 3), (⟨"java/lang/Throwable", "fillInStackTrace", "(I)Ljava/lang/Throwable;"⟩, 6), (⟨"RationalProgram", "hasRow", "(I)Z"⟩, 3), (⟨"RationalProgram", "hasVariable", "(I)Z"⟩, 3)]
theorem lw_r1 : ∀ q ∈ lw_privs_1, lw_okq q := List.forall_mem_cons.mpr ⟨lw_p0, List.forall_mem_cons.mpr ⟨lw_p1, List.forall_mem_cons.mpr ⟨lw_p2, List.forall_mem_cons.mpr ⟨lw_p3, List.forall_mem_cons.mpr ⟨lw_p4, List.forall_mem_cons.mpr ⟨lw_p5, List.forall_mem_cons.mpr ⟨lw_p6, List.forall_mem_cons.mpr ⟨lw_p7, List.forall_mem_cons.mpr ⟨lw_p8, List.forall_mem_cons.mpr ⟨lw_p9, List.forall_mem_cons.mpr ⟨lw_p10, List.forall_mem_cons.mpr ⟨lw_p11, List.forall_mem_cons.mpr ⟨lw_p12, List.forall_mem_cons.mpr ⟨lw_p13, List.forall_mem_cons.mpr ⟨lw_p14, List.forall_mem_cons.mpr ⟨lw_p15, fun _ h => absurd h List.not_mem_nil⟩⟩⟩⟩⟩⟩⟩⟩⟩⟩⟩⟩⟩⟩⟩⟩
theorem lw_p16 : lw_okq (⟨"RationalProgram$Sheet", "enterRight", "(I)V"⟩, 7) := ⟨⟨by decide +kernel, by decide +kernel⟩, List.mem_of_getElem? (i := 24) (by decide +kernel), List.mem_of_getElem? (i := 336) (by decide +kernel), List.mem_of_getElem? (i := 337) (by decide +kernel)⟩
theorem lw_p17 : lw_okq (⟨"RationalProgram", "bestRay", "()[J"⟩, 3) := ⟨⟨by decide +kernel, by decide +kernel⟩, List.mem_of_getElem? (i := 16) (by decide +kernel), List.mem_of_getElem? (i := 389) (by decide +kernel), List.mem_of_getElem? (i := 390) (by decide +kernel)⟩
theorem lw_p18 : lw_okq (⟨"RationalProgram", "isBetter", "([J[J)Z"⟩, 3) := ⟨⟨by decide +kernel, by decide +kernel⟩, List.mem_of_getElem? (i := 16) (by decide +kernel), List.mem_of_getElem? (i := 393) (by decide +kernel), List.mem_of_getElem? (i := 394) (by decide +kernel)⟩
theorem lw_p19 : lw_okq (⟨"RationalProgram", "canGrow", "(I)Z"⟩, 3) := ⟨⟨by decide +kernel, by decide +kernel⟩, List.mem_of_getElem? (i := 16) (by decide +kernel), List.mem_of_getElem? (i := 425) (by decide +kernel), List.mem_of_getElem? (i := 426) (by decide +kernel)⟩
theorem lw_p20 : lw_okq (⟨"RationalProgram", "extremeRay", "(IZ)[J"⟩, 3) := ⟨⟨by decide +kernel, by decide +kernel⟩, List.mem_of_getElem? (i := 16) (by decide +kernel), List.mem_of_getElem? (i := 444) (by decide +kernel), List.mem_of_getElem? (i := 445) (by decide +kernel)⟩
theorem lw_p21 : lw_okq (⟨"RationalProgram", "isSharpInBest", "(I)Z"⟩, 3) := ⟨⟨by decide +kernel, by decide +kernel⟩, List.mem_of_getElem? (i := 16) (by decide +kernel), List.mem_of_getElem? (i := 458) (by decide +kernel), List.mem_of_getElem? (i := 459) (by decide +kernel)⟩
theorem lw_p22 : lw_okq (⟨"RationalProgramModel", "refuses", "(ZZZZ)Z"⟩, 20) := ⟨⟨by decide +kernel, by decide +kernel⟩, List.mem_of_getElem? (i := 477) (by decide +kernel), List.mem_of_getElem? (i := 555) (by decide +kernel), List.mem_of_getElem? (i := 556) (by decide +kernel)⟩
theorem lw_p23 : lw_okq (⟨"RationalProgramModel", "status", "()I"⟩, 20) := ⟨⟨by decide +kernel, by decide +kernel⟩, List.mem_of_getElem? (i := 477) (by decide +kernel), List.mem_of_getElem? (i := 579) (by decide +kernel), List.mem_of_getElem? (i := 580) (by decide +kernel)⟩
theorem lw_p24 : lw_okq (⟨"RationalProgramModel", "everyRow", "()I"⟩, 20) := ⟨⟨by decide +kernel, by decide +kernel⟩, List.mem_of_getElem? (i := 477) (by decide +kernel), List.mem_of_getElem? (i := 583) (by decide +kernel), List.mem_of_getElem? (i := 584) (by decide +kernel)⟩
theorem lw_p25 : lw_okq (⟨"RationalProgramModel", "infeasible", "(I)Z"⟩, 20) := ⟨⟨by decide +kernel, by decide +kernel⟩, List.mem_of_getElem? (i := 477) (by decide +kernel), List.mem_of_getElem? (i := 587) (by decide +kernel), List.mem_of_getElem? (i := 588) (by decide +kernel)⟩
theorem lw_p26 : lw_okq (⟨"RationalProgramModel", "collect", "(II)V"⟩, 20) := ⟨⟨by decide +kernel, by decide +kernel⟩, List.mem_of_getElem? (i := 477) (by decide +kernel), List.mem_of_getElem? (i := 591) (by decide +kernel), List.mem_of_getElem? (i := 592) (by decide +kernel)⟩
theorem lw_p27 : lw_okq (⟨"RationalProgramModel", "setUp", "(II)V"⟩, 20) := ⟨⟨by decide +kernel, by decide +kernel⟩, List.mem_of_getElem? (i := 477) (by decide +kernel), List.mem_of_getElem? (i := 595) (by decide +kernel), List.mem_of_getElem? (i := 596) (by decide +kernel)⟩
theorem lw_p28 : lw_okq (⟨"RationalProgramModel", "add", "(II)V"⟩, 20) := ⟨⟨by decide +kernel, by decide +kernel⟩, List.mem_of_getElem? (i := 477) (by decide +kernel), List.mem_of_getElem? (i := 599) (by decide +kernel), List.mem_of_getElem? (i := 600) (by decide +kernel)⟩
theorem lw_p29 : lw_okq (⟨"RationalProgramModel", "take", "(I)V"⟩, 20) := ⟨⟨by decide +kernel, by decide +kernel⟩, List.mem_of_getElem? (i := 477) (by decide +kernel), List.mem_of_getElem? (i := 603) (by decide +kernel), List.mem_of_getElem? (i := 604) (by decide +kernel)⟩
theorem lw_p30 : lw_okq (⟨"RationalProgramModel", "picked", "(I)Z"⟩, 20) := ⟨⟨by decide +kernel, by decide +kernel⟩, List.mem_of_getElem? (i := 477) (by decide +kernel), List.mem_of_getElem? (i := 607) (by decide +kernel), List.mem_of_getElem? (i := 608) (by decide +kernel)⟩
theorem lw_p31 : lw_okq (⟨"RationalProgramModel", "solved", "()J"⟩, 20) := ⟨⟨by decide +kernel, by decide +kernel⟩, List.mem_of_getElem? (i := 477) (by decide +kernel), List.mem_of_getElem? (i := 611) (by decide +kernel), List.mem_of_getElem? (i := 612) (by decide +kernel)⟩
def lw_privs_2 : List (MethodName × Nat) := [(⟨"RationalProgram$Sheet", "enterRight", "(I)V"⟩, 7), (⟨"RationalProgram", "bestRay", "()[J"⟩, 3), (⟨"RationalProgram", "isBetter", "([J[J)Z"⟩, 3), (⟨"RationalProgram", "canGrow", "(I)Z"⟩, 3), (⟨"RationalProgram", "extremeRay", "(IZ)[J"⟩, 3), (⟨"RationalProgram", "isSharpInBest", "(I)Z"⟩, 3), (⟨"RationalProgramModel", "refuses", "(ZZZZ)Z"⟩, 20), (⟨"RationalProgramModel", "status", "()I"⟩, 20), (⟨"RationalProgramModel", "everyRow", "()I"⟩, 20), (⟨"RationalProgramModel", "infeasible", "(I)Z"⟩, 20), (⟨"RationalProgramModel", "collect", "(II)V"⟩, 20), (⟨"RationalProgramModel", "setUp", "(II)V"⟩, 20), (⟨"RationalProgramModel", "add", "(II)V"⟩, 20), (⟨"RationalProgramModel", "take", "(I)V"⟩, 20), (⟨"RationalProgramModel", "picked", "(I)Z"⟩, 20), (⟨"RationalProgramModel", "solved", "()J"⟩, 20)]
theorem lw_r2 : ∀ q ∈ lw_privs_2, lw_okq q := List.forall_mem_cons.mpr ⟨lw_p16, List.forall_mem_cons.mpr ⟨lw_p17, List.forall_mem_cons.mpr ⟨lw_p18, List.forall_mem_cons.mpr ⟨lw_p19, List.forall_mem_cons.mpr ⟨lw_p20, List.forall_mem_cons.mpr ⟨lw_p21, List.forall_mem_cons.mpr ⟨lw_p22, List.forall_mem_cons.mpr ⟨lw_p23, List.forall_mem_cons.mpr ⟨lw_p24, List.forall_mem_cons.mpr ⟨lw_p25, List.forall_mem_cons.mpr ⟨lw_p26, List.forall_mem_cons.mpr ⟨lw_p27, List.forall_mem_cons.mpr ⟨lw_p28, List.forall_mem_cons.mpr ⟨lw_p29, List.forall_mem_cons.mpr ⟨lw_p30, List.forall_mem_cons.mpr ⟨lw_p31, fun _ h => absurd h List.not_mem_nil⟩⟩⟩⟩⟩⟩⟩⟩⟩⟩⟩⟩⟩⟩⟩⟩
theorem lw_p32 : lw_okq (⟨"RationalProgramModel", "swap", "(II)V"⟩, 20) := ⟨⟨by decide +kernel, by decide +kernel⟩, List.mem_of_getElem? (i := 477) (by decide +kernel), List.mem_of_getElem? (i := 615) (by decide +kernel), List.mem_of_getElem? (i := 616) (by decide +kernel)⟩
theorem lw_p33 : lw_okq (⟨"RationalProgramModel", "clear", "(IJ)V"⟩, 20) := ⟨⟨by decide +kernel, by decide +kernel⟩, List.mem_of_getElem? (i := 477) (by decide +kernel), List.mem_of_getElem? (i := 619) (by decide +kernel), List.mem_of_getElem? (i := 620) (by decide +kernel)⟩
theorem lw_p34 : lw_okq (⟨"RationalProgramModel", "holds", "(I)Z"⟩, 20) := ⟨⟨by decide +kernel, by decide +kernel⟩, List.mem_of_getElem? (i := 477) (by decide +kernel), List.mem_of_getElem? (i := 624) (by decide +kernel), List.mem_of_getElem? (i := 625) (by decide +kernel)⟩
theorem lw_p35 : lw_okq (⟨"RationalProgramModel", "grows", "()Z"⟩, 20) := ⟨⟨by decide +kernel, by decide +kernel⟩, List.mem_of_getElem? (i := 477) (by decide +kernel), List.mem_of_getElem? (i := 628) (by decide +kernel), List.mem_of_getElem? (i := 629) (by decide +kernel)⟩
theorem lw_p36 : lw_okq (⟨"RationalProgramModel", "best", "()I"⟩, 20) := ⟨⟨by decide +kernel, by decide +kernel⟩, List.mem_of_getElem? (i := 477) (by decide +kernel), List.mem_of_getElem? (i := 636) (by decide +kernel), List.mem_of_getElem? (i := 637) (by decide +kernel)⟩
theorem lw_p37 : lw_okq (⟨"RationalProgramModel", "better", "(II)Z"⟩, 20) := ⟨⟨by decide +kernel, by decide +kernel⟩, List.mem_of_getElem? (i := 477) (by decide +kernel), List.mem_of_getElem? (i := 640) (by decide +kernel), List.mem_of_getElem? (i := 641) (by decide +kernel)⟩
theorem lw_p38 : lw_okq (⟨"RationalProgramModel", "endless", "(I)Z"⟩, 20) := ⟨⟨by decide +kernel, by decide +kernel⟩, List.mem_of_getElem? (i := 477) (by decide +kernel), List.mem_of_getElem? (i := 661) (by decide +kernel), List.mem_of_getElem? (i := 662) (by decide +kernel)⟩
theorem lw_p39 : lw_okq (⟨"RationalProgramModel", "excess", "(III)J"⟩, 20) := ⟨⟨by decide +kernel, by decide +kernel⟩, List.mem_of_getElem? (i := 477) (by decide +kernel), List.mem_of_getElem? (i := 669) (by decide +kernel), List.mem_of_getElem? (i := 670) (by decide +kernel)⟩
theorem lw_p40 : lw_okq (⟨"RationalProgramModel", "findCorners", "()V"⟩, 20) := ⟨⟨by decide +kernel, by decide +kernel⟩, List.mem_of_getElem? (i := 477) (by decide +kernel), List.mem_of_getElem? (i := 681) (by decide +kernel), List.mem_of_getElem? (i := 682) (by decide +kernel)⟩
theorem lw_p41 : lw_okq (⟨"RationalProgramModel", "later", "(II)I"⟩, 20) := ⟨⟨by decide +kernel, by decide +kernel⟩, List.mem_of_getElem? (i := 477) (by decide +kernel), List.mem_of_getElem? (i := 685) (by decide +kernel), List.mem_of_getElem? (i := 686) (by decide +kernel)⟩
theorem lw_p42 : lw_okq (⟨"RationalProgramModel", "steeper", "(III)Z"⟩, 20) := ⟨⟨by decide +kernel, by decide +kernel⟩, List.mem_of_getElem? (i := 477) (by decide +kernel), List.mem_of_getElem? (i := 689) (by decide +kernel), List.mem_of_getElem? (i := 690) (by decide +kernel)⟩
def lw_privs_3 : List (MethodName × Nat) := [(⟨"RationalProgramModel", "swap", "(II)V"⟩, 20), (⟨"RationalProgramModel", "clear", "(IJ)V"⟩, 20), (⟨"RationalProgramModel", "holds", "(I)Z"⟩, 20), (⟨"RationalProgramModel", "grows", "()Z"⟩, 20), (⟨"RationalProgramModel", "best", "()I"⟩, 20), (⟨"RationalProgramModel", "better", "(II)Z"⟩, 20), (⟨"RationalProgramModel", "endless", "(I)Z"⟩, 20), (⟨"RationalProgramModel", "excess", "(III)J"⟩, 20), (⟨"RationalProgramModel", "findCorners", "()V"⟩, 20), (⟨"RationalProgramModel", "later", "(II)I"⟩, 20), (⟨"RationalProgramModel", "steeper", "(III)Z"⟩, 20)]
theorem lw_r3 : ∀ q ∈ lw_privs_3, lw_okq q := List.forall_mem_cons.mpr ⟨lw_p32, List.forall_mem_cons.mpr ⟨lw_p33, List.forall_mem_cons.mpr ⟨lw_p34, List.forall_mem_cons.mpr ⟨lw_p35, List.forall_mem_cons.mpr ⟨lw_p36, List.forall_mem_cons.mpr ⟨lw_p37, List.forall_mem_cons.mpr ⟨lw_p38, List.forall_mem_cons.mpr ⟨lw_p39, List.forall_mem_cons.mpr ⟨lw_p40, List.forall_mem_cons.mpr ⟨lw_p41, List.forall_mem_cons.mpr ⟨lw_p42, fun _ h => absurd h List.not_mem_nil⟩⟩⟩⟩⟩⟩⟩⟩⟩⟩⟩
def lw_privs : List (MethodName × Nat) := lw_privs_1 ++ (lw_privs_2 ++ (lw_privs_3))
def lw_tbl : List Cond := k2_sels lw_privs ++ tables_1
theorem lw_privs_ok : ∀ q ∈ lw_privs, lw_okq q := by
  show ∀ q ∈ lw_privs_1 ++ (lw_privs_2 ++ (lw_privs_3)), lw_okq q
  exact List.forall_mem_append.mpr ⟨lw_r1, List.forall_mem_append.mpr ⟨lw_r2, lw_r3⟩⟩
end
section
/-! ===== BEGIN words of one list among another's, by their places ===== -/
theorem goodIn_r {big : List Cond} (ws : List Cond) (ps : List Nat) (hp : ws = ps.filterMap (fun i => big[i]?)) (h : ws.all goodWord = true) : GoodIn big ws := by
  intro w hw
  have h1 := List.all_eq_true.mp h w hw
  rw [hp] at hw
  obtain ⟨i, -, hi⟩ := List.mem_filterMap.mp hw
  have hm : w ∈ big := by first | exact List.mem_of_getElem? hi | exact List.getElem?_mem hi
  exact ⟨hm, good_of_word h1⟩
theorem goodIn_app {big a b : List Cond} (ha : GoodIn big a) (hb : GoodIn big b) : GoodIn big (a ++ b) := fun w h => (List.mem_append.mp h).elim (ha w) (hb w)
theorem goodIn_ca {big a b : List Cond} {c : Cond} (ha : GoodIn big (c :: a)) (hb : GoodIn big b) : GoodIn big (c :: (a ++ b)) := fun w h => (List.mem_cons.mp h).elim (fun e => ha w (List.mem_cons.mpr (Or.inl e))) (fun h => (List.mem_append.mp h).elim (fun h => ha w (List.mem_cons.mpr (Or.inr h))) (hb w))
theorem goodIn_sub {big ws : List Cond} (hm : ∀ w ∈ ws, w ∈ big) (h : ws.all goodWord = true) : GoodIn big ws := fun w hw => ⟨hm w hw, good_of_word (List.all_eq_true.mp h w hw)⟩
/-! ===== END ===== -/
end
section
def RX0 : String := "RationalProgram$Cone"
def TX0 : u_T := fun k => match k with
  | 0 => ("RationalProgram$Cone", "rays", "[[J", true)
  | 1 => ("RationalProgram$Cone", "count", "I", false)
  | 2 => ("RationalProgram$Cone", "collected", "I", false)
  | 3 => ("RationalProgram$Cone", "grid", "[[J", true)
  | 4 => ("RationalProgram$Cone", "places", "[I", true)
  | _ => ("RationalProgram$Cone", "parts", "[J", true)
def tyX0 : Nat → FieldType := fun k => match k with
  | 0 => .array (.array .long)
  | 1 => .int
  | 2 => .int
  | 3 => .array (.array .long)
  | 4 => .array .int
  | _ => .array .long
abbrev wsX00 : List Cond := u_ws RX0 TX0 6
theorem nmX0 : ∀ a, a < 6 → ∀ b, b < 6 → a ≠ b → (TX0 a).2.1 ≠ (TX0 b).2.1 := by decide +kernel
theorem tyX0_ok : ∀ k, k < 6 → parseFieldDescriptor (TX0 k).2.2.1 = some (tyX0 k) := by decide +kernel
abbrev cX0_init : ByteArray := prog_2_method_1_code
def yX0_init : MethodName := ⟨RX0, "<init>", "()V"⟩
abbrev cX0_forget : ByteArray := prog_2_method_2_code
def yX0_forget : MethodName := ⟨RX0, "forget", "()V"⟩
abbrev cX0_collect : ByteArray := prog_2_method_3_code
def yX0_collect : MethodName := ⟨RX0, "collect", "(LRationalProgram$Sheet;I)V"⟩
abbrev cX0_tryRay : ByteArray := prog_2_method_4_code
def yX0_tryRay : MethodName := ⟨RX0, "tryRay", "(LRationalProgram$Sheet;III)V"⟩
abbrev cX0_placeColumns : ByteArray := prog_2_method_5_code
def yX0_placeColumns : MethodName := ⟨RX0, "placeColumns", "(I)I"⟩
abbrev cX0_fillGrid : ByteArray := prog_2_method_6_code
def yX0_fillGrid : MethodName := ⟨RX0, "fillGrid", "(LRationalProgram$Sheet;II)V"⟩
abbrev cX0_findParts : ByteArray := prog_2_method_7_code
def yX0_findParts : MethodName := ⟨RX0, "findParts", "(I)Z"⟩
abbrev cX0_cofactor : ByteArray := prog_2_method_8_code
def yX0_cofactor : MethodName := ⟨RX0, "cofactor", "(I)J"⟩
def RX1 : String := "RationalProgram$Sheet"
def TX1 : u_T := fun k => match k with
  | 0 => ("RationalProgram$Sheet", "variables", "I", false)
  | 1 => ("RationalProgram$Sheet", "rows", "I", false)
  | 2 => ("RationalProgram$Sheet", "entries", "[[J", true)
  | 3 => ("RationalProgram$Sheet", "senses", "[I", true)
  | 4 => ("RationalProgram$Sheet", "rights", "[I", true)
  | 5 => ("RationalProgram$Sheet", "drifts", "[I", true)
  | _ => ("RationalProgram$Sheet", "wants", "[I", true)
def tyX1 : Nat → FieldType := fun k => match k with
  | 0 => .int
  | 1 => .int
  | 2 => .array (.array .long)
  | 3 => .array .int
  | 4 => .array .int
  | 5 => .array .int
  | _ => .array .int
abbrev wsX10 : List Cond := u_ws RX1 TX1 7
theorem nmX1 : ∀ a, a < 7 → ∀ b, b < 7 → a ≠ b → (TX1 a).2.1 ≠ (TX1 b).2.1 := by decide +kernel
theorem tyX1_ok : ∀ k, k < 7 → parseFieldDescriptor (TX1 k).2.2.1 = some (tyX1 k) := by decide +kernel
abbrev cX1_init : ByteArray := prog_3_method_1_code
def yX1_init : MethodName := ⟨RX1, "<init>", "()V"⟩
abbrev cX1_clear : ByteArray := prog_3_method_2_code
def yX1_clear : MethodName := ⟨RX1, "clear", "(II)V"⟩
abbrev cX1_setFactor : ByteArray := prog_3_method_3_code
def yX1_setFactor : MethodName := ⟨RX1, "setFactor", "(III)V"⟩
abbrev cX1_setRow : ByteArray := prog_3_method_4_code
def yX1_setRow : MethodName := ⟨RX1, "setRow", "(III)V"⟩
abbrev cX1_setDrift : ByteArray := prog_3_method_5_code
def yX1_setDrift : MethodName := ⟨RX1, "setDrift", "(II)V"⟩
abbrev cX1_setWant : ByteArray := prog_3_method_6_code
def yX1_setWant : MethodName := ⟨RX1, "setWant", "(II)V"⟩
abbrev cX1_enterRight : ByteArray := prog_3_method_7_code
def yX1_enterRight : MethodName := ⟨RX1, "enterRight", "(I)V"⟩
abbrev cX1_columns : ByteArray := prog_3_method_8_code
def yX1_columns : MethodName := ⟨RX1, "columns", "()I"⟩
abbrev cX1_allRows : ByteArray := prog_3_method_9_code
def yX1_allRows : MethodName := ⟨RX1, "allRows", "()I"⟩
abbrev cX1_entry : ByteArray := prog_3_method_10_code
def yX1_entry : MethodName := ⟨RX1, "entry", "(II)J"⟩
abbrev cX1_excess : ByteArray := prog_3_method_11_code
def yX1_excess : MethodName := ⟨RX1, "excess", "(I[J)J"⟩
abbrev cX1_worth : ByteArray := prog_3_method_12_code
def yX1_worth : MethodName := ⟨RX1, "worth", "([J)J"⟩
abbrev cX1_holds : ByteArray := prog_3_method_13_code
def yX1_holds : MethodName := ⟨RX1, "holds", "([JI)Z"⟩
abbrev cX1_fits : ByteArray := prog_3_method_14_code
def yX1_fits : MethodName := ⟨RX1, "fits", "(JI)Z"⟩
def RX2 : String := "RationalProgram"
def TX2 : u_T := fun k => match k with
  | 0 => ("RationalProgram", "sheet", "LRationalProgram$Sheet;", true)
  | 1 => ("RationalProgram", "cone", "LRationalProgram$Cone;", true)
  | _ => ("RationalProgram", "bends", "[I", true)
def tyX2 : Nat → FieldType := fun k => match k with
  | 0 => .object "RationalProgram$Sheet"
  | 1 => .object "RationalProgram$Cone"
  | _ => .array .int
abbrev wsX20 : List Cond := u_ws RX2 TX2 3
theorem nmX2 : ∀ a, a < 3 → ∀ b, b < 3 → a ≠ b → (TX2 a).2.1 ≠ (TX2 b).2.1 := by decide +kernel
theorem tyX2_ok : ∀ k, k < 3 → parseFieldDescriptor (TX2 k).2.2.1 = some (tyX2 k) := by decide +kernel
abbrev cX2_init : ByteArray := prog_1_method_1_code
def yX2_init : MethodName := ⟨RX2, "<init>", "()V"⟩
abbrev cX2_begin : ByteArray := prog_1_method_2_code
def yX2_begin : MethodName := ⟨RX2, "begin", "(II)V"⟩
abbrev cX2_coefficient : ByteArray := prog_1_method_3_code
def yX2_coefficient : MethodName := ⟨RX2, "coefficient", "(III)V"⟩
abbrev cX2_row : ByteArray := prog_1_method_4_code
def yX2_row : MethodName := ⟨RX2, "row", "(III)V"⟩
abbrev cX2_want : ByteArray := prog_1_method_5_code
def yX2_want : MethodName := ⟨RX2, "want", "(II)V"⟩
abbrev cX2_drift : ByteArray := prog_1_method_6_code
def yX2_drift : MethodName := ⟨RX2, "drift", "(II)V"⟩
abbrev cX2_solve : ByteArray := prog_1_method_7_code
def yX2_solve : MethodName := ⟨RX2, "solve", "()I"⟩
abbrev cX2_value : ByteArray := prog_1_method_8_code
def yX2_value : MethodName := ⟨RX2, "value", "(I)J"⟩
abbrev cX2_point : ByteArray := prog_1_method_9_code
def yX2_point : MethodName := ⟨RX2, "point", "(II)J"⟩
abbrev cX2_range : ByteArray := prog_1_method_10_code
def yX2_range : MethodName := ⟨RX2, "range", "(IZI)J"⟩
abbrev cX2_tight : ByteArray := prog_1_method_11_code
def yX2_tight : MethodName := ⟨RX2, "tight", "(I)Z"⟩
abbrev cX2_conflict : ByteArray := prog_1_method_12_code
def yX2_conflict : MethodName := ⟨RX2, "conflict", "()I"⟩
abbrev cX2_corners : ByteArray := prog_1_method_13_code
def yX2_corners : MethodName := ⟨RX2, "corners", "()I"⟩
abbrev cX2_corner : ByteArray := prog_1_method_14_code
def yX2_corner : MethodName := ⟨RX2, "corner", "(II)J"⟩
abbrev cX2_hasRow : ByteArray := prog_1_method_15_code
def yX2_hasRow : MethodName := ⟨RX2, "hasRow", "(I)Z"⟩
abbrev cX2_hasVariable : ByteArray := prog_1_method_16_code
def yX2_hasVariable : MethodName := ⟨RX2, "hasVariable", "(I)Z"⟩
abbrev cX2_isFactor : ByteArray := prog_1_method_17_code
def yX2_isFactor : MethodName := ⟨RX2, "isFactor", "(I)Z"⟩
abbrev cX2_isPart : ByteArray := prog_1_method_18_code
def yX2_isPart : MethodName := ⟨RX2, "isPart", "(I)Z"⟩
abbrev cX2_isFeasible : ByteArray := prog_1_method_19_code
def yX2_isFeasible : MethodName := ⟨RX2, "isFeasible", "(I)Z"⟩
abbrev cX2_canRise : ByteArray := prog_1_method_20_code
def yX2_canRise : MethodName := ⟨RX2, "canRise", "()Z"⟩
abbrev cX2_canGrow : ByteArray := prog_1_method_21_code
def yX2_canGrow : MethodName := ⟨RX2, "canGrow", "(I)Z"⟩
abbrev cX2_isPoint : ByteArray := prog_1_method_22_code
def yX2_isPoint : MethodName := ⟨RX2, "isPoint", "([J)Z"⟩
abbrev cX2_isDirection : ByteArray := prog_1_method_23_code
def yX2_isDirection : MethodName := ⟨RX2, "isDirection", "([J)Z"⟩
abbrev cX2_bestRay : ByteArray := prog_1_method_24_code
def yX2_bestRay : MethodName := ⟨RX2, "bestRay", "()[J"⟩
abbrev cX2_isBetter : ByteArray := prog_1_method_25_code
def yX2_isBetter : MethodName := ⟨RX2, "isBetter", "([J[J)Z"⟩
abbrev cX2_extremeRay : ByteArray := prog_1_method_26_code
def yX2_extremeRay : MethodName := ⟨RX2, "extremeRay", "(IZ)[J"⟩
abbrev cX2_isFarther : ByteArray := prog_1_method_27_code
def yX2_isFarther : MethodName := ⟨RX2, "isFarther", "([J[JIZ)Z"⟩
abbrev cX2_isSharpInBest : ByteArray := prog_1_method_28_code
def yX2_isSharpInBest : MethodName := ⟨RX2, "isSharpInBest", "(I)Z"⟩
abbrev cX2_traceBends : ByteArray := prog_1_method_29_code
def yX2_traceBends : MethodName := ⟨RX2, "traceBends", "()I"⟩
abbrev cX2_earliestRay : ByteArray := prog_1_method_30_code
def yX2_earliestRay : MethodName := ⟨RX2, "earliestRay", "()I"⟩
abbrev cX2_isEarlier : ByteArray := prog_1_method_31_code
def yX2_isEarlier : MethodName := ⟨RX2, "isEarlier", "([J[J)Z"⟩
abbrev cX2_followingRay : ByteArray := prog_1_method_32_code
def yX2_followingRay : MethodName := ⟨RX2, "followingRay", "(I)I"⟩
abbrev cX2_isSteeper : ByteArray := prog_1_method_33_code
def yX2_isSteeper : MethodName := ⟨RX2, "isSteeper", "([J[J[J)Z"⟩
abbrev cX2_compareTimes : ByteArray := prog_1_method_34_code
def yX2_compareTimes : MethodName := ⟨RX2, "compareTimes", "([J[J)I"⟩
abbrev cX2_liftAbove : ByteArray := prog_1_method_35_code
def yX2_liftAbove : MethodName := ⟨RX2, "liftAbove", "([J[J[J)J"⟩
abbrev cX2_partOf : ByteArray := prog_1_method_36_code
def yX2_partOf : MethodName := ⟨RX2, "partOf", "(JJI)J"⟩
abbrev cX2_commonDivisor : ByteArray := prog_1_method_37_code
def yX2_commonDivisor : MethodName := ⟨RX2, "commonDivisor", "(JJ)J"⟩
def RX3 : String := "RationalProgramModel"
def TX3 : u_T := fun k => match k with
  | 0 => ("RationalProgramModel", "n", "I", false)
  | 1 => ("RationalProgramModel", "m", "I", false)
  | 2 => ("RationalProgramModel", "a", "[I", true)
  | 3 => ("RationalProgramModel", "b", "[I", true)
  | 4 => ("RationalProgramModel", "c", "[I", true)
  | 5 => ("RationalProgramModel", "e", "[I", true)
  | 6 => ("RationalProgramModel", "senses", "[I", true)
  | 7 => ("RationalProgramModel", "thrown", "I", false)
  | 8 => ("RationalProgramModel", "width", "I", false)
  | 9 => ("RationalProgramModel", "bounds", "I", false)
  | 10 => ("RationalProgramModel", "bound", "[I", true)
  | 11 => ("RationalProgramModel", "boundSense", "[I", true)
  | 12 => ("RationalProgramModel", "boundRight", "[I", true)
  | 13 => ("RationalProgramModel", "matrix", "[J", true)
  | 14 => ("RationalProgramModel", "found", "I", false)
  | 15 => ("RationalProgramModel", "above", "[J", true)
  | 16 => ("RationalProgramModel", "below", "[J", true)
  | 17 => ("RationalProgramModel", "worth", "[J", true)
  | 18 => ("RationalProgramModel", "cornerCount", "I", false)
  | _ => ("RationalProgramModel", "cornerAt", "[I", true)
def tyX3 : Nat → FieldType := fun k => match k with
  | 0 => .int
  | 1 => .int
  | 2 => .array .int
  | 3 => .array .int
  | 4 => .array .int
  | 5 => .array .int
  | 6 => .array .int
  | 7 => .int
  | 8 => .int
  | 9 => .int
  | 10 => .array .int
  | 11 => .array .int
  | 12 => .array .int
  | 13 => .array .long
  | 14 => .int
  | 15 => .array .long
  | 16 => .array .long
  | 17 => .array .long
  | 18 => .int
  | _ => .array .int
abbrev wsX30 : List Cond := u_ws RX3 TX3 20
theorem nmX3 : ∀ a, a < 20 → ∀ b, b < 20 → a ≠ b → (TX3 a).2.1 ≠ (TX3 b).2.1 := by decide +kernel
theorem tyX3_ok : ∀ k, k < 20 → parseFieldDescriptor (TX3 k).2.2.1 = some (tyX3 k) := by decide +kernel
abbrev cX3_init : ByteArray := prog_5_method_1_code
def yX3_init : MethodName := ⟨RX3, "<init>", "()V"⟩
abbrev cX3_refuses : ByteArray := prog_5_method_2_code
def yX3_refuses : MethodName := ⟨RX3, "refuses", "(ZZZZ)Z"⟩
abbrev cX3_thrown : ByteArray := prog_5_method_3_code
def yX3_thrown : MethodName := ⟨RX3, "thrown", "()I"⟩
abbrev cX3_outside : ByteArray := prog_5_method_4_code
def yX3_outside : MethodName := ⟨RX3, "outside", "(III)Z"⟩
abbrev cX3_begin : ByteArray := prog_5_method_5_code
def yX3_begin : MethodName := ⟨RX3, "begin", "(II)V"⟩
abbrev cX3_coefficient : ByteArray := prog_5_method_6_code
def yX3_coefficient : MethodName := ⟨RX3, "coefficient", "(III)V"⟩
abbrev cX3_row : ByteArray := prog_5_method_7_code
def yX3_row : MethodName := ⟨RX3, "row", "(III)V"⟩
abbrev cX3_want : ByteArray := prog_5_method_8_code
def yX3_want : MethodName := ⟨RX3, "want", "(II)V"⟩
abbrev cX3_drift : ByteArray := prog_5_method_9_code
def yX3_drift : MethodName := ⟨RX3, "drift", "(II)V"⟩
abbrev cX3_add : ByteArray := prog_5_method_10_code
def yX3_add : MethodName := ⟨RX3, "add", "(II)V"⟩
abbrev cX3_setUp : ByteArray := prog_5_method_11_code
def yX3_setUp : MethodName := ⟨RX3, "setUp", "(II)V"⟩
abbrev cX3_picked : ByteArray := prog_5_method_12_code
def yX3_picked : MethodName := ⟨RX3, "picked", "(I)Z"⟩
abbrev cX3_swap : ByteArray := prog_5_method_13_code
def yX3_swap : MethodName := ⟨RX3, "swap", "(II)V"⟩
abbrev cX3_clear : ByteArray := prog_5_method_14_code
def yX3_clear : MethodName := ⟨RX3, "clear", "(IJ)V"⟩
abbrev cX3_solved : ByteArray := prog_5_method_15_code
def yX3_solved : MethodName := ⟨RX3, "solved", "()J"⟩
abbrev cX3_holds : ByteArray := prog_5_method_16_code
def yX3_holds : MethodName := ⟨RX3, "holds", "(I)Z"⟩
abbrev cX3_take : ByteArray := prog_5_method_17_code
def yX3_take : MethodName := ⟨RX3, "take", "(I)V"⟩
abbrev cX3_collect : ByteArray := prog_5_method_18_code
def yX3_collect : MethodName := ⟨RX3, "collect", "(II)V"⟩
abbrev cX3_everyRow : ByteArray := prog_5_method_19_code
def yX3_everyRow : MethodName := ⟨RX3, "everyRow", "()I"⟩
abbrev cX3_infeasible : ByteArray := prog_5_method_20_code
def yX3_infeasible : MethodName := ⟨RX3, "infeasible", "(I)Z"⟩
abbrev cX3_grows : ByteArray := prog_5_method_21_code
def yX3_grows : MethodName := ⟨RX3, "grows", "()Z"⟩
abbrev cX3_status : ByteArray := prog_5_method_22_code
def yX3_status : MethodName := ⟨RX3, "status", "()I"⟩
abbrev cX3_solve : ByteArray := prog_5_method_23_code
def yX3_solve : MethodName := ⟨RX3, "solve", "()I"⟩
abbrev cX3_compare : ByteArray := prog_5_method_24_code
def yX3_compare : MethodName := ⟨RX3, "compare", "(JJJJ)I"⟩
abbrev cX3_divisor : ByteArray := prog_5_method_25_code
def yX3_divisor : MethodName := ⟨RX3, "divisor", "(JJ)J"⟩
abbrev cX3_told : ByteArray := prog_5_method_26_code
def yX3_told : MethodName := ⟨RX3, "told", "(JJI)J"⟩
abbrev cX3_better : ByteArray := prog_5_method_27_code
def yX3_better : MethodName := ⟨RX3, "better", "(II)Z"⟩
abbrev cX3_best : ByteArray := prog_5_method_28_code
def yX3_best : MethodName := ⟨RX3, "best", "()I"⟩
abbrev cX3_value : ByteArray := prog_5_method_29_code
def yX3_value : MethodName := ⟨RX3, "value", "(I)J"⟩
abbrev cX3_point : ByteArray := prog_5_method_30_code
def yX3_point : MethodName := ⟨RX3, "point", "(II)J"⟩
abbrev cX3_endless : ByteArray := prog_5_method_31_code
def yX3_endless : MethodName := ⟨RX3, "endless", "(I)Z"⟩
abbrev cX3_range : ByteArray := prog_5_method_32_code
def yX3_range : MethodName := ⟨RX3, "range", "(IZI)J"⟩
abbrev cX3_excess : ByteArray := prog_5_method_33_code
def yX3_excess : MethodName := ⟨RX3, "excess", "(III)J"⟩
abbrev cX3_tight : ByteArray := prog_5_method_34_code
def yX3_tight : MethodName := ⟨RX3, "tight", "(I)Z"⟩
abbrev cX3_conflict : ByteArray := prog_5_method_35_code
def yX3_conflict : MethodName := ⟨RX3, "conflict", "()I"⟩
abbrev cX3_steeper : ByteArray := prog_5_method_36_code
def yX3_steeper : MethodName := ⟨RX3, "steeper", "(III)Z"⟩
abbrev cX3_later : ByteArray := prog_5_method_37_code
def yX3_later : MethodName := ⟨RX3, "later", "(II)I"⟩
abbrev cX3_findCorners : ByteArray := prog_5_method_38_code
def yX3_findCorners : MethodName := ⟨RX3, "findCorners", "()V"⟩
abbrev cX3_corners : ByteArray := prog_5_method_39_code
def yX3_corners : MethodName := ⟨RX3, "corners", "()I"⟩
abbrev cX3_corner : ByteArray := prog_5_method_40_code
def yX3_corner : MethodName := ⟨RX3, "corner", "(II)J"⟩
def RJ6 : String := "java/lang/Integer"
def TJ6 : u_T := fun k => match k with
  | _ => ("", "", "", false)
def tyJ6 : Nat → FieldType := fun k => match k with
  | _ => .int
abbrev wsJ60 : List Cond := u_ws RJ6 TJ6 0
theorem nmJ6 : ∀ a, a < 0 → ∀ b, b < 0 → a ≠ b → (TJ6 a).2.1 ≠ (TJ6 b).2.1 := by decide +kernel
theorem tyJ6_ok : ∀ k, k < 0 → parseFieldDescriptor (TJ6 k).2.2.1 = some (tyJ6 k) := by decide +kernel
abbrev cJ6_bitCount_0f7a4 : ByteArray := prog_10_method_49_code
def yJ6_bitCount_0f7a4 : MethodName := ⟨RJ6, "bitCount", "(I)I"⟩
def RJ13 : String := "java/lang/Long"
def TJ13 : u_T := fun k => match k with
  | _ => ("", "", "", false)
def tyJ13 : Nat → FieldType := fun k => match k with
  | _ => .int
abbrev wsJ130 : List Cond := u_ws RJ13 TJ13 0
theorem nmJ13 : ∀ a, a < 0 → ∀ b, b < 0 → a ≠ b → (TJ13 a).2.1 ≠ (TJ13 b).2.1 := by decide +kernel
theorem tyJ13_ok : ∀ k, k < 0 → parseFieldDescriptor (TJ13 k).2.2.1 = some (tyJ13 k) := by decide +kernel
abbrev cJ13_compare_74951 : ByteArray := prog_11_method_42_code
def yJ13_compare_74951 : MethodName := ⟨RJ13, "compare", "(JJ)I"⟩
def RJ9 : String := "java/lang/Math"
def TJ9 : u_T := fun k => match k with
  | _ => ("", "", "", false)
def tyJ9 : Nat → FieldType := fun k => match k with
  | _ => .int
abbrev wsJ90 : List Cond := u_ws RJ9 TJ9 0
theorem nmJ9 : ∀ a, a < 0 → ∀ b, b < 0 → a ≠ b → (TJ9 a).2.1 ≠ (TJ9 b).2.1 := by decide +kernel
theorem tyJ9_ok : ∀ k, k < 0 → parseFieldDescriptor (TJ9 k).2.2.1 = some (tyJ9 k) := by decide +kernel
abbrev cJ9_abs_067f4 : ByteArray := prog_12_method_61_code
def yJ9_abs_067f4 : MethodName := ⟨RJ9, "abs", "(J)J"⟩
abbrev cJ9_max_f86c9 : ByteArray := prog_12_method_66_code
def yJ9_max_f86c9 : MethodName := ⟨RJ9, "max", "(JJ)J"⟩
def RL : String := "RationalProgramLaw"
abbrev cL_begin : ByteArray := method_3_code
def yL_begin : MethodName := ⟨RL, "begin", "(LRationalProgram;II)I"⟩
abbrev cL_coefficient : ByteArray := method_4_code
def yL_coefficient : MethodName := ⟨RL, "coefficient", "(LRationalProgram;III)I"⟩
abbrev cL_row : ByteArray := method_5_code
def yL_row : MethodName := ⟨RL, "row", "(LRationalProgram;III)I"⟩
abbrev cL_want : ByteArray := method_6_code
def yL_want : MethodName := ⟨RL, "want", "(LRationalProgram;II)I"⟩
abbrev cL_drift : ByteArray := method_7_code
def yL_drift : MethodName := ⟨RL, "drift", "(LRationalProgram;II)I"⟩
abbrev cL_value : ByteArray := method_8_code
def yL_value : MethodName := ⟨RL, "value", "(LRationalProgram;I[J)I"⟩
abbrev cL_point : ByteArray := method_9_code
def yL_point : MethodName := ⟨RL, "point", "(LRationalProgram;II[J)I"⟩
abbrev cL_range : ByteArray := method_10_code
def yL_range : MethodName := ⟨RL, "range", "(LRationalProgram;IZI[J)I"⟩
abbrev cL_tight : ByteArray := method_11_code
def yL_tight : MethodName := ⟨RL, "tight", "(LRationalProgram;I[J)I"⟩
abbrev cL_conflict : ByteArray := method_12_code
def yL_conflict : MethodName := ⟨RL, "conflict", "(LRationalProgram;[J)I"⟩
abbrev cL_corner : ByteArray := method_13_code
def yL_corner : MethodName := ⟨RL, "corner", "(LRationalProgram;II[J)I"⟩
abbrev cL_law : ByteArray := code
def yL_law : MethodName := ⟨RL, "law", "([I)Z"⟩
theorem dX0_init_0 : decode cX0_init 0 = .ok (.aload_n 0, 1) := by decide +kernel
theorem dX0_init_1 : decode cX0_init 1 = .ok (.invokespecial 3, 3) := by decide +kernel
theorem dX0_init_4 : decode cX0_init 4 = .ok (.aload_n 0, 1) := by decide +kernel
theorem dX0_init_5 : decode cX0_init 5 = .ok (.bipush 126, 2) := by decide +kernel
theorem dX0_init_7 : decode cX0_init 7 = .ok (.bipush 6, 2) := by decide +kernel
theorem dX0_init_9 : decode cX0_init 9 = .ok (.multianewarray 9 2, 4) := by decide +kernel
theorem dX0_init_13 : decode cX0_init 13 = .ok (.putfield 11, 3) := by decide +kernel
theorem dX0_init_16 : decode cX0_init 16 = .ok (.aload_n 0, 1) := by decide +kernel
theorem dX0_init_17 : decode cX0_init 17 = .ok (.iconst 0, 1) := by decide +kernel
theorem dX0_init_18 : decode cX0_init 18 = .ok (.putfield 16, 3) := by decide +kernel
theorem dX0_init_21 : decode cX0_init 21 = .ok (.aload_n 0, 1) := by decide +kernel
theorem dX0_init_22 : decode cX0_init 22 = .ok (.iconst (-1), 1) := by decide +kernel
theorem dX0_init_23 : decode cX0_init 23 = .ok (.putfield 20, 3) := by decide +kernel
theorem dX0_init_26 : decode cX0_init 26 = .ok (.aload_n 0, 1) := by decide +kernel
theorem dX0_init_27 : decode cX0_init 27 = .ok (.iconst 3, 1) := by decide +kernel
theorem dX0_init_28 : decode cX0_init 28 = .ok (.iconst 4, 1) := by decide +kernel
theorem dX0_init_29 : decode cX0_init 29 = .ok (.multianewarray 9 2, 4) := by decide +kernel
theorem dX0_init_33 : decode cX0_init 33 = .ok (.putfield 23, 3) := by decide +kernel
theorem dX0_init_36 : decode cX0_init 36 = .ok (.aload_n 0, 1) := by decide +kernel
theorem dX0_init_37 : decode cX0_init 37 = .ok (.iconst 4, 1) := by decide +kernel
theorem dX0_init_38 : decode cX0_init 38 = .ok (.newarray .int, 2) := by decide +kernel
theorem dX0_init_40 : decode cX0_init 40 = .ok (.putfield 26, 3) := by decide +kernel
theorem dX0_init_43 : decode cX0_init 43 = .ok (.aload_n 0, 1) := by decide +kernel
theorem dX0_init_44 : decode cX0_init 44 = .ok (.iconst 4, 1) := by decide +kernel
theorem dX0_init_45 : decode cX0_init 45 = .ok (.newarray .long, 2) := by decide +kernel
theorem dX0_init_47 : decode cX0_init 47 = .ok (.putfield 30, 3) := by decide +kernel
theorem dX0_init_50 : decode cX0_init 50 = .ok (.return_, 1) := by decide +kernel
theorem dX0_forget_0 : decode cX0_forget 0 = .ok (.aload_n 0, 1) := by decide +kernel
theorem dX0_forget_1 : decode cX0_forget 1 = .ok (.iconst (-1), 1) := by decide +kernel
theorem dX0_forget_2 : decode cX0_forget 2 = .ok (.putfield 20, 3) := by decide +kernel
theorem dX0_forget_5 : decode cX0_forget 5 = .ok (.return_, 1) := by decide +kernel
theorem dX0_collect_0 : decode cX0_collect 0 = .ok (.aload_n 0, 1) := by decide +kernel
theorem dX0_collect_1 : decode cX0_collect 1 = .ok (.getfield 20, 3) := by decide +kernel
theorem dX0_collect_4 : decode cX0_collect 4 = .ok (.iload_n 2, 1) := by decide +kernel
theorem dX0_collect_5 : decode cX0_collect 5 = .ok (.if_icmp .ne 4, 3) := by decide +kernel
theorem dX0_collect_8 : decode cX0_collect 8 = .ok (.return_, 1) := by decide +kernel
theorem dX0_collect_9 : decode cX0_collect 9 = .ok (.aload_n 0, 1) := by decide +kernel
theorem dX0_collect_10 : decode cX0_collect 10 = .ok (.iconst 0, 1) := by decide +kernel
theorem dX0_collect_11 : decode cX0_collect 11 = .ok (.putfield 16, 3) := by decide +kernel
theorem dX0_collect_14 : decode cX0_collect 14 = .ok (.iconst 1, 1) := by decide +kernel
theorem dX0_collect_15 : decode cX0_collect 15 = .ok (.istore_n 3, 1) := by decide +kernel
theorem dX0_collect_16 : decode cX0_collect 16 = .ok (.iload_n 3, 1) := by decide +kernel
theorem dX0_collect_17 : decode cX0_collect 17 = .ok (.iconst 1, 1) := by decide +kernel
theorem dX0_collect_18 : decode cX0_collect 18 = .ok (.aload_n 1, 1) := by decide +kernel
theorem dX0_collect_19 : decode cX0_collect 19 = .ok (.invokevirtual 34, 3) := by decide +kernel
theorem dX0_collect_22 : decode cX0_collect 22 = .ok (.ishl, 1) := by decide +kernel
theorem dX0_collect_23 : decode cX0_collect 23 = .ok (.if_icmp .ge 65, 3) := by decide +kernel
theorem dX0_collect_26 : decode cX0_collect 26 = .ok (.iload_n 3, 1) := by decide +kernel
theorem dX0_collect_27 : decode cX0_collect 27 = .ok (.invokestatic 40, 3) := by decide +kernel
theorem dX0_collect_30 : decode cX0_collect 30 = .ok (.istore 4, 2) := by decide +kernel
theorem dX0_collect_32 : decode cX0_collect 32 = .ok (.iconst 0, 1) := by decide +kernel
theorem dX0_collect_33 : decode cX0_collect 33 = .ok (.istore 5, 2) := by decide +kernel
theorem dX0_collect_35 : decode cX0_collect 35 = .ok (.iload 5, 2) := by decide +kernel
theorem dX0_collect_37 : decode cX0_collect 37 = .ok (.iconst 1, 1) := by decide +kernel
theorem dX0_collect_38 : decode cX0_collect 38 = .ok (.aload_n 1, 1) := by decide +kernel
theorem dX0_collect_39 : decode cX0_collect 39 = .ok (.getfield 46, 3) := by decide +kernel
theorem dX0_collect_42 : decode cX0_collect 42 = .ok (.ishl, 1) := by decide +kernel
theorem dX0_collect_43 : decode cX0_collect 43 = .ok (.if_icmp .ge 39, 3) := by decide +kernel
theorem dX0_collect_46 : decode cX0_collect 46 = .ok (.iload 5, 2) := by decide +kernel
theorem dX0_collect_48 : decode cX0_collect 48 = .ok (.iload_n 2, 1) := by decide +kernel
theorem dX0_collect_49 : decode cX0_collect 49 = .ok (.iconst (-1), 1) := by decide +kernel
theorem dX0_collect_50 : decode cX0_collect 50 = .ok (.ixor, 1) := by decide +kernel
theorem dX0_collect_51 : decode cX0_collect 51 = .ok (.iand, 1) := by decide +kernel
theorem dX0_collect_52 : decode cX0_collect 52 = .ok (.ifCond .ne 24, 3) := by decide +kernel
theorem dX0_collect_55 : decode cX0_collect 55 = .ok (.iload 5, 2) := by decide +kernel
theorem dX0_collect_57 : decode cX0_collect 57 = .ok (.invokestatic 40, 3) := by decide +kernel
theorem dX0_collect_60 : decode cX0_collect 60 = .ok (.iconst 1, 1) := by decide +kernel
theorem dX0_collect_61 : decode cX0_collect 61 = .ok (.iadd, 1) := by decide +kernel
theorem dX0_collect_62 : decode cX0_collect 62 = .ok (.iload 4, 2) := by decide +kernel
theorem dX0_collect_64 : decode cX0_collect 64 = .ok (.if_icmp .ne 12, 3) := by decide +kernel
theorem dX0_collect_67 : decode cX0_collect 67 = .ok (.aload_n 0, 1) := by decide +kernel
theorem dX0_collect_68 : decode cX0_collect 68 = .ok (.aload_n 1, 1) := by decide +kernel
theorem dX0_collect_69 : decode cX0_collect 69 = .ok (.iload_n 3, 1) := by decide +kernel
theorem dX0_collect_70 : decode cX0_collect 70 = .ok (.iload 5, 2) := by decide +kernel
theorem dX0_collect_72 : decode cX0_collect 72 = .ok (.iload_n 2, 1) := by decide +kernel
theorem dX0_collect_73 : decode cX0_collect 73 = .ok (.invokevirtual 49, 3) := by decide +kernel
theorem dX0_collect_76 : decode cX0_collect 76 = .ok (.iinc 5 1, 3) := by decide +kernel
theorem dX0_collect_79 : decode cX0_collect 79 = .ok (.goto (-44), 3) := by decide +kernel
theorem dX0_collect_82 : decode cX0_collect 82 = .ok (.iinc 3 1, 3) := by decide +kernel
theorem dX0_collect_85 : decode cX0_collect 85 = .ok (.goto (-69), 3) := by decide +kernel
theorem dX0_collect_88 : decode cX0_collect 88 = .ok (.aload_n 0, 1) := by decide +kernel
theorem dX0_collect_89 : decode cX0_collect 89 = .ok (.iload_n 2, 1) := by decide +kernel
theorem dX0_collect_90 : decode cX0_collect 90 = .ok (.putfield 20, 3) := by decide +kernel
theorem dX0_collect_93 : decode cX0_collect 93 = .ok (.return_, 1) := by decide +kernel
theorem dX0_tryRay_0 : decode cX0_tryRay 0 = .ok (.aload_n 0, 1) := by decide +kernel
theorem dX0_tryRay_1 : decode cX0_tryRay 1 = .ok (.iload_n 2, 1) := by decide +kernel
theorem dX0_tryRay_2 : decode cX0_tryRay 2 = .ok (.invokevirtual 53, 3) := by decide +kernel
theorem dX0_tryRay_5 : decode cX0_tryRay 5 = .ok (.istore 5, 2) := by decide +kernel
theorem dX0_tryRay_7 : decode cX0_tryRay 7 = .ok (.aload_n 0, 1) := by decide +kernel
theorem dX0_tryRay_8 : decode cX0_tryRay 8 = .ok (.aload_n 1, 1) := by decide +kernel
theorem dX0_tryRay_9 : decode cX0_tryRay 9 = .ok (.iload_n 3, 1) := by decide +kernel
theorem dX0_tryRay_10 : decode cX0_tryRay 10 = .ok (.iload 5, 2) := by decide +kernel
theorem dX0_tryRay_12 : decode cX0_tryRay 12 = .ok (.invokevirtual 56, 3) := by decide +kernel
theorem dX0_tryRay_15 : decode cX0_tryRay 15 = .ok (.aload_n 0, 1) := by decide +kernel
theorem dX0_tryRay_16 : decode cX0_tryRay 16 = .ok (.getfield 16, 3) := by decide +kernel
theorem dX0_tryRay_19 : decode cX0_tryRay 19 = .ok (.bipush 126, 2) := by decide +kernel
theorem dX0_tryRay_21 : decode cX0_tryRay 21 = .ok (.if_icmp .ge 12, 3) := by decide +kernel
theorem dX0_tryRay_24 : decode cX0_tryRay 24 = .ok (.aload_n 0, 1) := by decide +kernel
theorem dX0_tryRay_25 : decode cX0_tryRay 25 = .ok (.iload 5, 2) := by decide +kernel
theorem dX0_tryRay_27 : decode cX0_tryRay 27 = .ok (.invokevirtual 60, 3) := by decide +kernel
theorem dX0_tryRay_30 : decode cX0_tryRay 30 = .ok (.ifCond .ne 4, 3) := by decide +kernel
theorem dX0_tryRay_33 : decode cX0_tryRay 33 = .ok (.return_, 1) := by decide +kernel
theorem dX0_tryRay_34 : decode cX0_tryRay 34 = .ok (.aload_n 0, 1) := by decide +kernel
theorem dX0_tryRay_35 : decode cX0_tryRay 35 = .ok (.getfield 11, 3) := by decide +kernel
theorem dX0_tryRay_38 : decode cX0_tryRay 38 = .ok (.aload_n 0, 1) := by decide +kernel
theorem dX0_tryRay_39 : decode cX0_tryRay 39 = .ok (.getfield 16, 3) := by decide +kernel
theorem dX0_tryRay_42 : decode cX0_tryRay 42 = .ok (.aaload, 1) := by decide +kernel
theorem dX0_tryRay_43 : decode cX0_tryRay 43 = .ok (.astore 6, 2) := by decide +kernel
theorem dX0_tryRay_45 : decode cX0_tryRay 45 = .ok (.iconst 0, 1) := by decide +kernel
theorem dX0_tryRay_46 : decode cX0_tryRay 46 = .ok (.istore 7, 2) := by decide +kernel
theorem dX0_tryRay_48 : decode cX0_tryRay 48 = .ok (.iload 7, 2) := by decide +kernel
theorem dX0_tryRay_50 : decode cX0_tryRay 50 = .ok (.bipush 6, 2) := by decide +kernel
theorem dX0_tryRay_52 : decode cX0_tryRay 52 = .ok (.if_icmp .ge 15, 3) := by decide +kernel
theorem dX0_tryRay_55 : decode cX0_tryRay 55 = .ok (.aload 6, 2) := by decide +kernel
theorem dX0_tryRay_57 : decode cX0_tryRay 57 = .ok (.iload 7, 2) := by decide +kernel
theorem dX0_tryRay_59 : decode cX0_tryRay 59 = .ok (.lconst 0, 1) := by decide +kernel
theorem dX0_tryRay_60 : decode cX0_tryRay 60 = .ok (.lastore, 1) := by decide +kernel
theorem dX0_tryRay_61 : decode cX0_tryRay 61 = .ok (.iinc 7 1, 3) := by decide +kernel
theorem dX0_tryRay_64 : decode cX0_tryRay 64 = .ok (.goto (-16), 3) := by decide +kernel
theorem dX0_tryRay_67 : decode cX0_tryRay 67 = .ok (.iconst 0, 1) := by decide +kernel
theorem dX0_tryRay_68 : decode cX0_tryRay 68 = .ok (.istore 7, 2) := by decide +kernel
theorem dX0_tryRay_70 : decode cX0_tryRay 70 = .ok (.iload 7, 2) := by decide +kernel
theorem dX0_tryRay_72 : decode cX0_tryRay 72 = .ok (.iload 5, 2) := by decide +kernel
theorem dX0_tryRay_74 : decode cX0_tryRay 74 = .ok (.if_icmp .ge 26, 3) := by decide +kernel
theorem dX0_tryRay_77 : decode cX0_tryRay 77 = .ok (.aload 6, 2) := by decide +kernel
theorem dX0_tryRay_79 : decode cX0_tryRay 79 = .ok (.aload_n 0, 1) := by decide +kernel
theorem dX0_tryRay_80 : decode cX0_tryRay 80 = .ok (.getfield 26, 3) := by decide +kernel
theorem dX0_tryRay_83 : decode cX0_tryRay 83 = .ok (.iload 7, 2) := by decide +kernel
theorem dX0_tryRay_85 : decode cX0_tryRay 85 = .ok (.iaload, 1) := by decide +kernel
theorem dX0_tryRay_86 : decode cX0_tryRay 86 = .ok (.aload_n 0, 1) := by decide +kernel
theorem dX0_tryRay_87 : decode cX0_tryRay 87 = .ok (.getfield 30, 3) := by decide +kernel
theorem dX0_tryRay_90 : decode cX0_tryRay 90 = .ok (.iload 7, 2) := by decide +kernel
theorem dX0_tryRay_92 : decode cX0_tryRay 92 = .ok (.laload, 1) := by decide +kernel
theorem dX0_tryRay_93 : decode cX0_tryRay 93 = .ok (.lastore, 1) := by decide +kernel
theorem dX0_tryRay_94 : decode cX0_tryRay 94 = .ok (.iinc 7 1, 3) := by decide +kernel
theorem dX0_tryRay_97 : decode cX0_tryRay 97 = .ok (.goto (-27), 3) := by decide +kernel
theorem dX0_tryRay_100 : decode cX0_tryRay 100 = .ok (.aload_n 1, 1) := by decide +kernel
theorem dX0_tryRay_101 : decode cX0_tryRay 101 = .ok (.aload 6, 2) := by decide +kernel
theorem dX0_tryRay_103 : decode cX0_tryRay 103 = .ok (.iload 4, 2) := by decide +kernel
theorem dX0_tryRay_105 : decode cX0_tryRay 105 = .ok (.invokevirtual 64, 3) := by decide +kernel
theorem dX0_tryRay_108 : decode cX0_tryRay 108 = .ok (.ifCond .eq 13, 3) := by decide +kernel
theorem dX0_tryRay_111 : decode cX0_tryRay 111 = .ok (.aload_n 0, 1) := by decide +kernel
theorem dX0_tryRay_112 : decode cX0_tryRay 112 = .ok (.dup, 1) := by decide +kernel
theorem dX0_tryRay_113 : decode cX0_tryRay 113 = .ok (.getfield 16, 3) := by decide +kernel
theorem dX0_tryRay_116 : decode cX0_tryRay 116 = .ok (.iconst 1, 1) := by decide +kernel
theorem dX0_tryRay_117 : decode cX0_tryRay 117 = .ok (.iadd, 1) := by decide +kernel
theorem dX0_tryRay_118 : decode cX0_tryRay 118 = .ok (.putfield 16, 3) := by decide +kernel
theorem dX0_tryRay_121 : decode cX0_tryRay 121 = .ok (.return_, 1) := by decide +kernel
theorem dX0_placeColumns_0 : decode cX0_placeColumns 0 = .ok (.iconst 0, 1) := by decide +kernel
theorem dX0_placeColumns_1 : decode cX0_placeColumns 1 = .ok (.istore_n 2, 1) := by decide +kernel
theorem dX0_placeColumns_2 : decode cX0_placeColumns 2 = .ok (.iconst 0, 1) := by decide +kernel
theorem dX0_placeColumns_3 : decode cX0_placeColumns 3 = .ok (.istore_n 3, 1) := by decide +kernel
theorem dX0_placeColumns_4 : decode cX0_placeColumns 4 = .ok (.iload_n 3, 1) := by decide +kernel
theorem dX0_placeColumns_5 : decode cX0_placeColumns 5 = .ok (.bipush 6, 2) := by decide +kernel
theorem dX0_placeColumns_7 : decode cX0_placeColumns 7 = .ok (.if_icmp .ge 33, 3) := by decide +kernel
theorem dX0_placeColumns_10 : decode cX0_placeColumns 10 = .ok (.iload_n 1, 1) := by decide +kernel
theorem dX0_placeColumns_11 : decode cX0_placeColumns 11 = .ok (.iload_n 3, 1) := by decide +kernel
theorem dX0_placeColumns_12 : decode cX0_placeColumns 12 = .ok (.ishr, 1) := by decide +kernel
theorem dX0_placeColumns_13 : decode cX0_placeColumns 13 = .ok (.iconst 1, 1) := by decide +kernel
theorem dX0_placeColumns_14 : decode cX0_placeColumns 14 = .ok (.iand, 1) := by decide +kernel
theorem dX0_placeColumns_15 : decode cX0_placeColumns 15 = .ok (.iconst 1, 1) := by decide +kernel
theorem dX0_placeColumns_16 : decode cX0_placeColumns 16 = .ok (.if_icmp .ne 18, 3) := by decide +kernel
theorem dX0_placeColumns_19 : decode cX0_placeColumns 19 = .ok (.iload_n 2, 1) := by decide +kernel
theorem dX0_placeColumns_20 : decode cX0_placeColumns 20 = .ok (.iconst 4, 1) := by decide +kernel
theorem dX0_placeColumns_21 : decode cX0_placeColumns 21 = .ok (.if_icmp .ge 13, 3) := by decide +kernel
theorem dX0_placeColumns_24 : decode cX0_placeColumns 24 = .ok (.aload_n 0, 1) := by decide +kernel
theorem dX0_placeColumns_25 : decode cX0_placeColumns 25 = .ok (.getfield 26, 3) := by decide +kernel
theorem dX0_placeColumns_28 : decode cX0_placeColumns 28 = .ok (.iload_n 2, 1) := by decide +kernel
theorem dX0_placeColumns_29 : decode cX0_placeColumns 29 = .ok (.iload_n 3, 1) := by decide +kernel
theorem dX0_placeColumns_30 : decode cX0_placeColumns 30 = .ok (.iastore, 1) := by decide +kernel
theorem dX0_placeColumns_31 : decode cX0_placeColumns 31 = .ok (.iinc 2 1, 3) := by decide +kernel
theorem dX0_placeColumns_34 : decode cX0_placeColumns 34 = .ok (.iinc 3 1, 3) := by decide +kernel
theorem dX0_placeColumns_37 : decode cX0_placeColumns 37 = .ok (.goto (-33), 3) := by decide +kernel
theorem dX0_placeColumns_40 : decode cX0_placeColumns 40 = .ok (.iload_n 2, 1) := by decide +kernel
theorem dX0_placeColumns_41 : decode cX0_placeColumns 41 = .ok (.ireturn, 1) := by decide +kernel
theorem dX0_fillGrid_0 : decode cX0_fillGrid 0 = .ok (.iconst 0, 1) := by decide +kernel
theorem dX0_fillGrid_1 : decode cX0_fillGrid 1 = .ok (.istore 4, 2) := by decide +kernel
theorem dX0_fillGrid_3 : decode cX0_fillGrid 3 = .ok (.iconst 0, 1) := by decide +kernel
theorem dX0_fillGrid_4 : decode cX0_fillGrid 4 = .ok (.istore 5, 2) := by decide +kernel
theorem dX0_fillGrid_6 : decode cX0_fillGrid 6 = .ok (.iload 5, 2) := by decide +kernel
theorem dX0_fillGrid_8 : decode cX0_fillGrid 8 = .ok (.aload_n 1, 1) := by decide +kernel
theorem dX0_fillGrid_9 : decode cX0_fillGrid 9 = .ok (.getfield 46, 3) := by decide +kernel
theorem dX0_fillGrid_12 : decode cX0_fillGrid 12 = .ok (.if_icmp .ge 70, 3) := by decide +kernel
theorem dX0_fillGrid_15 : decode cX0_fillGrid 15 = .ok (.iload_n 2, 1) := by decide +kernel
theorem dX0_fillGrid_16 : decode cX0_fillGrid 16 = .ok (.iload 5, 2) := by decide +kernel
theorem dX0_fillGrid_18 : decode cX0_fillGrid 18 = .ok (.ishr, 1) := by decide +kernel
theorem dX0_fillGrid_19 : decode cX0_fillGrid 19 = .ok (.iconst 1, 1) := by decide +kernel
theorem dX0_fillGrid_20 : decode cX0_fillGrid 20 = .ok (.iand, 1) := by decide +kernel
theorem dX0_fillGrid_21 : decode cX0_fillGrid 21 = .ok (.iconst 1, 1) := by decide +kernel
theorem dX0_fillGrid_22 : decode cX0_fillGrid 22 = .ok (.if_icmp .ne 54, 3) := by decide +kernel
theorem dX0_fillGrid_25 : decode cX0_fillGrid 25 = .ok (.iconst 0, 1) := by decide +kernel
theorem dX0_fillGrid_26 : decode cX0_fillGrid 26 = .ok (.istore 6, 2) := by decide +kernel
theorem dX0_fillGrid_28 : decode cX0_fillGrid 28 = .ok (.iload 6, 2) := by decide +kernel
theorem dX0_fillGrid_30 : decode cX0_fillGrid 30 = .ok (.iconst 4, 1) := by decide +kernel
theorem dX0_fillGrid_31 : decode cX0_fillGrid 31 = .ok (.if_icmp .ge 42, 3) := by decide +kernel
theorem dX0_fillGrid_34 : decode cX0_fillGrid 34 = .ok (.aload_n 0, 1) := by decide +kernel
theorem dX0_fillGrid_35 : decode cX0_fillGrid 35 = .ok (.getfield 23, 3) := by decide +kernel
theorem dX0_fillGrid_38 : decode cX0_fillGrid 38 = .ok (.iload 4, 2) := by decide +kernel
theorem dX0_fillGrid_40 : decode cX0_fillGrid 40 = .ok (.aaload, 1) := by decide +kernel
theorem dX0_fillGrid_41 : decode cX0_fillGrid 41 = .ok (.iload 6, 2) := by decide +kernel
theorem dX0_fillGrid_43 : decode cX0_fillGrid 43 = .ok (.iload 6, 2) := by decide +kernel
theorem dX0_fillGrid_45 : decode cX0_fillGrid 45 = .ok (.iload_n 3, 1) := by decide +kernel
theorem dX0_fillGrid_46 : decode cX0_fillGrid 46 = .ok (.if_icmp .ge 19, 3) := by decide +kernel
theorem dX0_fillGrid_49 : decode cX0_fillGrid 49 = .ok (.aload_n 1, 1) := by decide +kernel
theorem dX0_fillGrid_50 : decode cX0_fillGrid 50 = .ok (.iload 5, 2) := by decide +kernel
theorem dX0_fillGrid_52 : decode cX0_fillGrid 52 = .ok (.aload_n 0, 1) := by decide +kernel
theorem dX0_fillGrid_53 : decode cX0_fillGrid 53 = .ok (.getfield 26, 3) := by decide +kernel
theorem dX0_fillGrid_56 : decode cX0_fillGrid 56 = .ok (.iload 6, 2) := by decide +kernel
theorem dX0_fillGrid_58 : decode cX0_fillGrid 58 = .ok (.iaload, 1) := by decide +kernel
theorem dX0_fillGrid_59 : decode cX0_fillGrid 59 = .ok (.invokevirtual 68, 3) := by decide +kernel
theorem dX0_fillGrid_62 : decode cX0_fillGrid 62 = .ok (.goto 4, 3) := by decide +kernel
theorem dX0_fillGrid_65 : decode cX0_fillGrid 65 = .ok (.lconst 0, 1) := by decide +kernel
theorem dX0_fillGrid_66 : decode cX0_fillGrid 66 = .ok (.lastore, 1) := by decide +kernel
theorem dX0_fillGrid_67 : decode cX0_fillGrid 67 = .ok (.iinc 6 1, 3) := by decide +kernel
theorem dX0_fillGrid_70 : decode cX0_fillGrid 70 = .ok (.goto (-42), 3) := by decide +kernel
theorem dX0_fillGrid_73 : decode cX0_fillGrid 73 = .ok (.iinc 4 1, 3) := by decide +kernel
theorem dX0_fillGrid_76 : decode cX0_fillGrid 76 = .ok (.iinc 5 1, 3) := by decide +kernel
theorem dX0_fillGrid_79 : decode cX0_fillGrid 79 = .ok (.goto (-73), 3) := by decide +kernel
theorem dX0_fillGrid_82 : decode cX0_fillGrid 82 = .ok (.iload 4, 2) := by decide +kernel
theorem dX0_fillGrid_84 : decode cX0_fillGrid 84 = .ok (.istore 5, 2) := by decide +kernel
theorem dX0_fillGrid_86 : decode cX0_fillGrid 86 = .ok (.iload 5, 2) := by decide +kernel
theorem dX0_fillGrid_88 : decode cX0_fillGrid 88 = .ok (.iconst 3, 1) := by decide +kernel
theorem dX0_fillGrid_89 : decode cX0_fillGrid 89 = .ok (.if_icmp .ge 48, 3) := by decide +kernel
theorem dX0_fillGrid_92 : decode cX0_fillGrid 92 = .ok (.iconst 0, 1) := by decide +kernel
theorem dX0_fillGrid_93 : decode cX0_fillGrid 93 = .ok (.istore 6, 2) := by decide +kernel
theorem dX0_fillGrid_95 : decode cX0_fillGrid 95 = .ok (.iload 6, 2) := by decide +kernel
theorem dX0_fillGrid_97 : decode cX0_fillGrid 97 = .ok (.iconst 4, 1) := by decide +kernel
theorem dX0_fillGrid_98 : decode cX0_fillGrid 98 = .ok (.if_icmp .ge 33, 3) := by decide +kernel
theorem dX0_fillGrid_101 : decode cX0_fillGrid 101 = .ok (.aload_n 0, 1) := by decide +kernel
theorem dX0_fillGrid_102 : decode cX0_fillGrid 102 = .ok (.getfield 23, 3) := by decide +kernel
theorem dX0_fillGrid_105 : decode cX0_fillGrid 105 = .ok (.iload 5, 2) := by decide +kernel
theorem dX0_fillGrid_107 : decode cX0_fillGrid 107 = .ok (.aaload, 1) := by decide +kernel
theorem dX0_fillGrid_108 : decode cX0_fillGrid 108 = .ok (.iload 6, 2) := by decide +kernel
theorem dX0_fillGrid_110 : decode cX0_fillGrid 110 = .ok (.iload 6, 2) := by decide +kernel
theorem dX0_fillGrid_112 : decode cX0_fillGrid 112 = .ok (.iload 5, 2) := by decide +kernel
theorem dX0_fillGrid_114 : decode cX0_fillGrid 114 = .ok (.iconst 1, 1) := by decide +kernel
theorem dX0_fillGrid_115 : decode cX0_fillGrid 115 = .ok (.iadd, 1) := by decide +kernel
theorem dX0_fillGrid_116 : decode cX0_fillGrid 116 = .ok (.if_icmp .ne 7, 3) := by decide +kernel
theorem dX0_fillGrid_119 : decode cX0_fillGrid 119 = .ok (.lconst 1, 1) := by decide +kernel
theorem dX0_fillGrid_120 : decode cX0_fillGrid 120 = .ok (.goto 4, 3) := by decide +kernel
theorem dX0_fillGrid_123 : decode cX0_fillGrid 123 = .ok (.lconst 0, 1) := by decide +kernel
theorem dX0_fillGrid_124 : decode cX0_fillGrid 124 = .ok (.lastore, 1) := by decide +kernel
theorem dX0_fillGrid_125 : decode cX0_fillGrid 125 = .ok (.iinc 6 1, 3) := by decide +kernel
theorem dX0_fillGrid_128 : decode cX0_fillGrid 128 = .ok (.goto (-33), 3) := by decide +kernel
theorem dX0_fillGrid_131 : decode cX0_fillGrid 131 = .ok (.iinc 5 1, 3) := by decide +kernel
theorem dX0_fillGrid_134 : decode cX0_fillGrid 134 = .ok (.goto (-48), 3) := by decide +kernel
theorem dX0_fillGrid_137 : decode cX0_fillGrid 137 = .ok (.return_, 1) := by decide +kernel
theorem dX0_findParts_0 : decode cX0_findParts 0 = .ok (.aload_n 0, 1) := by decide +kernel
theorem dX0_findParts_1 : decode cX0_findParts 1 = .ok (.iconst 0, 1) := by decide +kernel
theorem dX0_findParts_2 : decode cX0_findParts 2 = .ok (.invokevirtual 72, 3) := by decide +kernel
theorem dX0_findParts_5 : decode cX0_findParts 5 = .ok (.lconst 0, 1) := by decide +kernel
theorem dX0_findParts_6 : decode cX0_findParts 6 = .ok (.lcmp, 1) := by decide +kernel
theorem dX0_findParts_7 : decode cX0_findParts 7 = .ok (.ifCond .ge 9, 3) := by decide +kernel
theorem dX0_findParts_10 : decode cX0_findParts 10 = .ok (.ldc2_w 76, 3) := by decide +kernel
theorem dX0_findParts_13 : decode cX0_findParts 13 = .ok (.goto 4, 3) := by decide +kernel
theorem dX0_findParts_16 : decode cX0_findParts 16 = .ok (.lconst 1, 1) := by decide +kernel
theorem dX0_findParts_17 : decode cX0_findParts 17 = .ok (.lstore_n 2, 1) := by decide +kernel
theorem dX0_findParts_18 : decode cX0_findParts 18 = .ok (.iconst 0, 1) := by decide +kernel
theorem dX0_findParts_19 : decode cX0_findParts 19 = .ok (.istore 4, 2) := by decide +kernel
theorem dX0_findParts_21 : decode cX0_findParts 21 = .ok (.iload 4, 2) := by decide +kernel
theorem dX0_findParts_23 : decode cX0_findParts 23 = .ok (.iload_n 1, 1) := by decide +kernel
theorem dX0_findParts_24 : decode cX0_findParts 24 = .ok (.if_icmp .ge 38, 3) := by decide +kernel
theorem dX0_findParts_27 : decode cX0_findParts 27 = .ok (.aload_n 0, 1) := by decide +kernel
theorem dX0_findParts_28 : decode cX0_findParts 28 = .ok (.getfield 30, 3) := by decide +kernel
theorem dX0_findParts_31 : decode cX0_findParts 31 = .ok (.iload 4, 2) := by decide +kernel
theorem dX0_findParts_33 : decode cX0_findParts 33 = .ok (.lload_n 2, 1) := by decide +kernel
theorem dX0_findParts_34 : decode cX0_findParts 34 = .ok (.aload_n 0, 1) := by decide +kernel
theorem dX0_findParts_35 : decode cX0_findParts 35 = .ok (.iload 4, 2) := by decide +kernel
theorem dX0_findParts_37 : decode cX0_findParts 37 = .ok (.invokevirtual 72, 3) := by decide +kernel
theorem dX0_findParts_40 : decode cX0_findParts 40 = .ok (.lmul, 1) := by decide +kernel
theorem dX0_findParts_41 : decode cX0_findParts 41 = .ok (.lastore, 1) := by decide +kernel
theorem dX0_findParts_42 : decode cX0_findParts 42 = .ok (.aload_n 0, 1) := by decide +kernel
theorem dX0_findParts_43 : decode cX0_findParts 43 = .ok (.getfield 30, 3) := by decide +kernel
theorem dX0_findParts_46 : decode cX0_findParts 46 = .ok (.iload 4, 2) := by decide +kernel
theorem dX0_findParts_48 : decode cX0_findParts 48 = .ok (.laload, 1) := by decide +kernel
theorem dX0_findParts_49 : decode cX0_findParts 49 = .ok (.lconst 0, 1) := by decide +kernel
theorem dX0_findParts_50 : decode cX0_findParts 50 = .ok (.lcmp, 1) := by decide +kernel
theorem dX0_findParts_51 : decode cX0_findParts 51 = .ok (.ifCond .gt 5, 3) := by decide +kernel
theorem dX0_findParts_54 : decode cX0_findParts 54 = .ok (.iconst 0, 1) := by decide +kernel
theorem dX0_findParts_55 : decode cX0_findParts 55 = .ok (.ireturn, 1) := by decide +kernel
theorem dX0_findParts_56 : decode cX0_findParts 56 = .ok (.iinc 4 1, 3) := by decide +kernel
theorem dX0_findParts_59 : decode cX0_findParts 59 = .ok (.goto (-38), 3) := by decide +kernel
theorem dX0_findParts_62 : decode cX0_findParts 62 = .ok (.iconst 1, 1) := by decide +kernel
theorem dX0_findParts_63 : decode cX0_findParts 63 = .ok (.ireturn, 1) := by decide +kernel
theorem dX0_cofactor_0 : decode cX0_cofactor 0 = .ok (.iload_n 1, 1) := by decide +kernel
theorem dX0_cofactor_1 : decode cX0_cofactor 1 = .ok (.ifCond .le 7, 3) := by decide +kernel
theorem dX0_cofactor_4 : decode cX0_cofactor 4 = .ok (.iconst 0, 1) := by decide +kernel
theorem dX0_cofactor_5 : decode cX0_cofactor 5 = .ok (.goto 4, 3) := by decide +kernel
theorem dX0_cofactor_8 : decode cX0_cofactor 8 = .ok (.iconst 1, 1) := by decide +kernel
theorem dX0_cofactor_9 : decode cX0_cofactor 9 = .ok (.istore_n 2, 1) := by decide +kernel
theorem dX0_cofactor_10 : decode cX0_cofactor 10 = .ok (.iload_n 1, 1) := by decide +kernel
theorem dX0_cofactor_11 : decode cX0_cofactor 11 = .ok (.iconst 1, 1) := by decide +kernel
theorem dX0_cofactor_12 : decode cX0_cofactor 12 = .ok (.if_icmp .le 7, 3) := by decide +kernel
theorem dX0_cofactor_15 : decode cX0_cofactor 15 = .ok (.iconst 1, 1) := by decide +kernel
theorem dX0_cofactor_16 : decode cX0_cofactor 16 = .ok (.goto 4, 3) := by decide +kernel
theorem dX0_cofactor_19 : decode cX0_cofactor 19 = .ok (.iconst 2, 1) := by decide +kernel
theorem dX0_cofactor_20 : decode cX0_cofactor 20 = .ok (.istore_n 3, 1) := by decide +kernel
theorem dX0_cofactor_21 : decode cX0_cofactor 21 = .ok (.iload_n 1, 1) := by decide +kernel
theorem dX0_cofactor_22 : decode cX0_cofactor 22 = .ok (.iconst 2, 1) := by decide +kernel
theorem dX0_cofactor_23 : decode cX0_cofactor 23 = .ok (.if_icmp .le 7, 3) := by decide +kernel
theorem dX0_cofactor_26 : decode cX0_cofactor 26 = .ok (.iconst 2, 1) := by decide +kernel
theorem dX0_cofactor_27 : decode cX0_cofactor 27 = .ok (.goto 4, 3) := by decide +kernel
theorem dX0_cofactor_30 : decode cX0_cofactor 30 = .ok (.iconst 3, 1) := by decide +kernel
theorem dX0_cofactor_31 : decode cX0_cofactor 31 = .ok (.istore 4, 2) := by decide +kernel
theorem dX0_cofactor_33 : decode cX0_cofactor 33 = .ok (.aload_n 0, 1) := by decide +kernel
theorem dX0_cofactor_34 : decode cX0_cofactor 34 = .ok (.getfield 23, 3) := by decide +kernel
theorem dX0_cofactor_37 : decode cX0_cofactor 37 = .ok (.iconst 0, 1) := by decide +kernel
theorem dX0_cofactor_38 : decode cX0_cofactor 38 = .ok (.aaload, 1) := by decide +kernel
theorem dX0_cofactor_39 : decode cX0_cofactor 39 = .ok (.astore 5, 2) := by decide +kernel
theorem dX0_cofactor_41 : decode cX0_cofactor 41 = .ok (.aload_n 0, 1) := by decide +kernel
theorem dX0_cofactor_42 : decode cX0_cofactor 42 = .ok (.getfield 23, 3) := by decide +kernel
theorem dX0_cofactor_45 : decode cX0_cofactor 45 = .ok (.iconst 1, 1) := by decide +kernel
theorem dX0_cofactor_46 : decode cX0_cofactor 46 = .ok (.aaload, 1) := by decide +kernel
theorem dX0_cofactor_47 : decode cX0_cofactor 47 = .ok (.astore 6, 2) := by decide +kernel
theorem dX0_cofactor_49 : decode cX0_cofactor 49 = .ok (.aload_n 0, 1) := by decide +kernel
theorem dX0_cofactor_50 : decode cX0_cofactor 50 = .ok (.getfield 23, 3) := by decide +kernel
theorem dX0_cofactor_53 : decode cX0_cofactor 53 = .ok (.iconst 2, 1) := by decide +kernel
theorem dX0_cofactor_54 : decode cX0_cofactor 54 = .ok (.aaload, 1) := by decide +kernel
theorem dX0_cofactor_55 : decode cX0_cofactor 55 = .ok (.astore 7, 2) := by decide +kernel
theorem dX0_cofactor_57 : decode cX0_cofactor 57 = .ok (.aload 5, 2) := by decide +kernel
theorem dX0_cofactor_59 : decode cX0_cofactor 59 = .ok (.iload_n 2, 1) := by decide +kernel
theorem dX0_cofactor_60 : decode cX0_cofactor 60 = .ok (.laload, 1) := by decide +kernel
theorem dX0_cofactor_61 : decode cX0_cofactor 61 = .ok (.aload 6, 2) := by decide +kernel
theorem dX0_cofactor_63 : decode cX0_cofactor 63 = .ok (.iload_n 3, 1) := by decide +kernel
theorem dX0_cofactor_64 : decode cX0_cofactor 64 = .ok (.laload, 1) := by decide +kernel
theorem dX0_cofactor_65 : decode cX0_cofactor 65 = .ok (.aload 7, 2) := by decide +kernel
theorem dX0_cofactor_67 : decode cX0_cofactor 67 = .ok (.iload 4, 2) := by decide +kernel
theorem dX0_cofactor_69 : decode cX0_cofactor 69 = .ok (.laload, 1) := by decide +kernel
theorem dX0_cofactor_70 : decode cX0_cofactor 70 = .ok (.lmul, 1) := by decide +kernel
theorem dX0_cofactor_71 : decode cX0_cofactor 71 = .ok (.aload 6, 2) := by decide +kernel
theorem dX0_cofactor_73 : decode cX0_cofactor 73 = .ok (.iload 4, 2) := by decide +kernel
theorem dX0_cofactor_75 : decode cX0_cofactor 75 = .ok (.laload, 1) := by decide +kernel
theorem dX0_cofactor_76 : decode cX0_cofactor 76 = .ok (.aload 7, 2) := by decide +kernel
theorem dX0_cofactor_78 : decode cX0_cofactor 78 = .ok (.iload_n 3, 1) := by decide +kernel
theorem dX0_cofactor_79 : decode cX0_cofactor 79 = .ok (.laload, 1) := by decide +kernel
theorem dX0_cofactor_80 : decode cX0_cofactor 80 = .ok (.lmul, 1) := by decide +kernel
theorem dX0_cofactor_81 : decode cX0_cofactor 81 = .ok (.lsub, 1) := by decide +kernel
theorem dX0_cofactor_82 : decode cX0_cofactor 82 = .ok (.lmul, 1) := by decide +kernel
theorem dX0_cofactor_83 : decode cX0_cofactor 83 = .ok (.aload 5, 2) := by decide +kernel
theorem dX0_cofactor_85 : decode cX0_cofactor 85 = .ok (.iload_n 3, 1) := by decide +kernel
theorem dX0_cofactor_86 : decode cX0_cofactor 86 = .ok (.laload, 1) := by decide +kernel
theorem dX0_cofactor_87 : decode cX0_cofactor 87 = .ok (.aload 6, 2) := by decide +kernel
theorem dX0_cofactor_89 : decode cX0_cofactor 89 = .ok (.iload_n 2, 1) := by decide +kernel
theorem dX0_cofactor_90 : decode cX0_cofactor 90 = .ok (.laload, 1) := by decide +kernel
theorem dX0_cofactor_91 : decode cX0_cofactor 91 = .ok (.aload 7, 2) := by decide +kernel
theorem dX0_cofactor_93 : decode cX0_cofactor 93 = .ok (.iload 4, 2) := by decide +kernel
theorem dX0_cofactor_95 : decode cX0_cofactor 95 = .ok (.laload, 1) := by decide +kernel
theorem dX0_cofactor_96 : decode cX0_cofactor 96 = .ok (.lmul, 1) := by decide +kernel
theorem dX0_cofactor_97 : decode cX0_cofactor 97 = .ok (.aload 6, 2) := by decide +kernel
theorem dX0_cofactor_99 : decode cX0_cofactor 99 = .ok (.iload 4, 2) := by decide +kernel
theorem dX0_cofactor_101 : decode cX0_cofactor 101 = .ok (.laload, 1) := by decide +kernel
theorem dX0_cofactor_102 : decode cX0_cofactor 102 = .ok (.aload 7, 2) := by decide +kernel
theorem dX0_cofactor_104 : decode cX0_cofactor 104 = .ok (.iload_n 2, 1) := by decide +kernel
theorem dX0_cofactor_105 : decode cX0_cofactor 105 = .ok (.laload, 1) := by decide +kernel
theorem dX0_cofactor_106 : decode cX0_cofactor 106 = .ok (.lmul, 1) := by decide +kernel
theorem dX0_cofactor_107 : decode cX0_cofactor 107 = .ok (.lsub, 1) := by decide +kernel
theorem dX0_cofactor_108 : decode cX0_cofactor 108 = .ok (.lmul, 1) := by decide +kernel
theorem dX0_cofactor_109 : decode cX0_cofactor 109 = .ok (.lsub, 1) := by decide +kernel
theorem dX0_cofactor_110 : decode cX0_cofactor 110 = .ok (.aload 5, 2) := by decide +kernel
theorem dX0_cofactor_112 : decode cX0_cofactor 112 = .ok (.iload 4, 2) := by decide +kernel
theorem dX0_cofactor_114 : decode cX0_cofactor 114 = .ok (.laload, 1) := by decide +kernel
theorem dX0_cofactor_115 : decode cX0_cofactor 115 = .ok (.aload 6, 2) := by decide +kernel
theorem dX0_cofactor_117 : decode cX0_cofactor 117 = .ok (.iload_n 2, 1) := by decide +kernel
theorem dX0_cofactor_118 : decode cX0_cofactor 118 = .ok (.laload, 1) := by decide +kernel
theorem dX0_cofactor_119 : decode cX0_cofactor 119 = .ok (.aload 7, 2) := by decide +kernel
theorem dX0_cofactor_121 : decode cX0_cofactor 121 = .ok (.iload_n 3, 1) := by decide +kernel
theorem dX0_cofactor_122 : decode cX0_cofactor 122 = .ok (.laload, 1) := by decide +kernel
theorem dX0_cofactor_123 : decode cX0_cofactor 123 = .ok (.lmul, 1) := by decide +kernel
theorem dX0_cofactor_124 : decode cX0_cofactor 124 = .ok (.aload 6, 2) := by decide +kernel
theorem dX0_cofactor_126 : decode cX0_cofactor 126 = .ok (.iload_n 3, 1) := by decide +kernel
theorem dX0_cofactor_127 : decode cX0_cofactor 127 = .ok (.laload, 1) := by decide +kernel
theorem dX0_cofactor_128 : decode cX0_cofactor 128 = .ok (.aload 7, 2) := by decide +kernel
theorem dX0_cofactor_130 : decode cX0_cofactor 130 = .ok (.iload_n 2, 1) := by decide +kernel
theorem dX0_cofactor_131 : decode cX0_cofactor 131 = .ok (.laload, 1) := by decide +kernel
theorem dX0_cofactor_132 : decode cX0_cofactor 132 = .ok (.lmul, 1) := by decide +kernel
theorem dX0_cofactor_133 : decode cX0_cofactor 133 = .ok (.lsub, 1) := by decide +kernel
theorem dX0_cofactor_134 : decode cX0_cofactor 134 = .ok (.lmul, 1) := by decide +kernel
theorem dX0_cofactor_135 : decode cX0_cofactor 135 = .ok (.ladd, 1) := by decide +kernel
theorem dX0_cofactor_136 : decode cX0_cofactor 136 = .ok (.lstore 8, 2) := by decide +kernel
theorem dX0_cofactor_138 : decode cX0_cofactor 138 = .ok (.iload_n 1, 1) := by decide +kernel
theorem dX0_cofactor_139 : decode cX0_cofactor 139 = .ok (.iconst 2, 1) := by decide +kernel
theorem dX0_cofactor_140 : decode cX0_cofactor 140 = .ok (.irem, 1) := by decide +kernel
theorem dX0_cofactor_141 : decode cX0_cofactor 141 = .ok (.ifCond .ne 8, 3) := by decide +kernel
theorem dX0_cofactor_144 : decode cX0_cofactor 144 = .ok (.lload 8, 2) := by decide +kernel
theorem dX0_cofactor_146 : decode cX0_cofactor 146 = .ok (.goto 6, 3) := by decide +kernel
theorem dX0_cofactor_149 : decode cX0_cofactor 149 = .ok (.lload 8, 2) := by decide +kernel
theorem dX0_cofactor_151 : decode cX0_cofactor 151 = .ok (.lneg, 1) := by decide +kernel
theorem dX0_cofactor_152 : decode cX0_cofactor 152 = .ok (.lreturn, 1) := by decide +kernel
theorem dX1_init_0 : decode cX1_init 0 = .ok (.aload_n 0, 1) := by decide +kernel
theorem dX1_init_1 : decode cX1_init 1 = .ok (.invokespecial 3, 3) := by decide +kernel
theorem dX1_init_4 : decode cX1_init 4 = .ok (.aload_n 0, 1) := by decide +kernel
theorem dX1_init_5 : decode cX1_init 5 = .ok (.iconst 1, 1) := by decide +kernel
theorem dX1_init_6 : decode cX1_init 6 = .ok (.putfield 9, 3) := by decide +kernel
theorem dX1_init_9 : decode cX1_init 9 = .ok (.aload_n 0, 1) := by decide +kernel
theorem dX1_init_10 : decode cX1_init 10 = .ok (.iconst 0, 1) := by decide +kernel
theorem dX1_init_11 : decode cX1_init 11 = .ok (.putfield 15, 3) := by decide +kernel
theorem dX1_init_14 : decode cX1_init 14 = .ok (.aload_n 0, 1) := by decide +kernel
theorem dX1_init_15 : decode cX1_init 15 = .ok (.iconst 3, 1) := by decide +kernel
theorem dX1_init_16 : decode cX1_init 16 = .ok (.bipush 6, 2) := by decide +kernel
theorem dX1_init_18 : decode cX1_init 18 = .ok (.multianewarray 18 2, 4) := by decide +kernel
theorem dX1_init_22 : decode cX1_init 22 = .ok (.putfield 20, 3) := by decide +kernel
theorem dX1_init_25 : decode cX1_init 25 = .ok (.aload_n 0, 1) := by decide +kernel
theorem dX1_init_26 : decode cX1_init 26 = .ok (.iconst 3, 1) := by decide +kernel
theorem dX1_init_27 : decode cX1_init 27 = .ok (.newarray .int, 2) := by decide +kernel
theorem dX1_init_29 : decode cX1_init 29 = .ok (.putfield 23, 3) := by decide +kernel
theorem dX1_init_32 : decode cX1_init 32 = .ok (.aload_n 0, 1) := by decide +kernel
theorem dX1_init_33 : decode cX1_init 33 = .ok (.iconst 3, 1) := by decide +kernel
theorem dX1_init_34 : decode cX1_init 34 = .ok (.newarray .int, 2) := by decide +kernel
theorem dX1_init_36 : decode cX1_init 36 = .ok (.putfield 27, 3) := by decide +kernel
theorem dX1_init_39 : decode cX1_init 39 = .ok (.aload_n 0, 1) := by decide +kernel
theorem dX1_init_40 : decode cX1_init 40 = .ok (.iconst 3, 1) := by decide +kernel
theorem dX1_init_41 : decode cX1_init 41 = .ok (.newarray .int, 2) := by decide +kernel
theorem dX1_init_43 : decode cX1_init 43 = .ok (.putfield 30, 3) := by decide +kernel
theorem dX1_init_46 : decode cX1_init 46 = .ok (.aload_n 0, 1) := by decide +kernel
theorem dX1_init_47 : decode cX1_init 47 = .ok (.iconst 4, 1) := by decide +kernel
theorem dX1_init_48 : decode cX1_init 48 = .ok (.newarray .int, 2) := by decide +kernel
theorem dX1_init_50 : decode cX1_init 50 = .ok (.putfield 33, 3) := by decide +kernel
theorem dX1_init_53 : decode cX1_init 53 = .ok (.return_, 1) := by decide +kernel
theorem dX1_clear_0 : decode cX1_clear 0 = .ok (.aload_n 0, 1) := by decide +kernel
theorem dX1_clear_1 : decode cX1_clear 1 = .ok (.iload_n 1, 1) := by decide +kernel
theorem dX1_clear_2 : decode cX1_clear 2 = .ok (.putfield 9, 3) := by decide +kernel
theorem dX1_clear_5 : decode cX1_clear 5 = .ok (.aload_n 0, 1) := by decide +kernel
theorem dX1_clear_6 : decode cX1_clear 6 = .ok (.iload_n 2, 1) := by decide +kernel
theorem dX1_clear_7 : decode cX1_clear 7 = .ok (.putfield 15, 3) := by decide +kernel
theorem dX1_clear_10 : decode cX1_clear 10 = .ok (.iconst 0, 1) := by decide +kernel
theorem dX1_clear_11 : decode cX1_clear 11 = .ok (.istore_n 3, 1) := by decide +kernel
theorem dX1_clear_12 : decode cX1_clear 12 = .ok (.iload_n 3, 1) := by decide +kernel
theorem dX1_clear_13 : decode cX1_clear 13 = .ok (.iconst 3, 1) := by decide +kernel
theorem dX1_clear_14 : decode cX1_clear 14 = .ok (.if_icmp .ge 56, 3) := by decide +kernel
theorem dX1_clear_17 : decode cX1_clear 17 = .ok (.aload_n 0, 1) := by decide +kernel
theorem dX1_clear_18 : decode cX1_clear 18 = .ok (.getfield 23, 3) := by decide +kernel
theorem dX1_clear_21 : decode cX1_clear 21 = .ok (.iload_n 3, 1) := by decide +kernel
theorem dX1_clear_22 : decode cX1_clear 22 = .ok (.iconst 0, 1) := by decide +kernel
theorem dX1_clear_23 : decode cX1_clear 23 = .ok (.iastore, 1) := by decide +kernel
theorem dX1_clear_24 : decode cX1_clear 24 = .ok (.aload_n 0, 1) := by decide +kernel
theorem dX1_clear_25 : decode cX1_clear 25 = .ok (.getfield 27, 3) := by decide +kernel
theorem dX1_clear_28 : decode cX1_clear 28 = .ok (.iload_n 3, 1) := by decide +kernel
theorem dX1_clear_29 : decode cX1_clear 29 = .ok (.iconst 0, 1) := by decide +kernel
theorem dX1_clear_30 : decode cX1_clear 30 = .ok (.iastore, 1) := by decide +kernel
theorem dX1_clear_31 : decode cX1_clear 31 = .ok (.aload_n 0, 1) := by decide +kernel
theorem dX1_clear_32 : decode cX1_clear 32 = .ok (.getfield 30, 3) := by decide +kernel
theorem dX1_clear_35 : decode cX1_clear 35 = .ok (.iload_n 3, 1) := by decide +kernel
theorem dX1_clear_36 : decode cX1_clear 36 = .ok (.iconst 0, 1) := by decide +kernel
theorem dX1_clear_37 : decode cX1_clear 37 = .ok (.iastore, 1) := by decide +kernel
theorem dX1_clear_38 : decode cX1_clear 38 = .ok (.iconst 0, 1) := by decide +kernel
theorem dX1_clear_39 : decode cX1_clear 39 = .ok (.istore 4, 2) := by decide +kernel
theorem dX1_clear_41 : decode cX1_clear 41 = .ok (.iload 4, 2) := by decide +kernel
theorem dX1_clear_43 : decode cX1_clear 43 = .ok (.bipush 6, 2) := by decide +kernel
theorem dX1_clear_45 : decode cX1_clear 45 = .ok (.if_icmp .ge 19, 3) := by decide +kernel
theorem dX1_clear_48 : decode cX1_clear 48 = .ok (.aload_n 0, 1) := by decide +kernel
theorem dX1_clear_49 : decode cX1_clear 49 = .ok (.getfield 20, 3) := by decide +kernel
theorem dX1_clear_52 : decode cX1_clear 52 = .ok (.iload_n 3, 1) := by decide +kernel
theorem dX1_clear_53 : decode cX1_clear 53 = .ok (.aaload, 1) := by decide +kernel
theorem dX1_clear_54 : decode cX1_clear 54 = .ok (.iload 4, 2) := by decide +kernel
theorem dX1_clear_56 : decode cX1_clear 56 = .ok (.lconst 0, 1) := by decide +kernel
theorem dX1_clear_57 : decode cX1_clear 57 = .ok (.lastore, 1) := by decide +kernel
theorem dX1_clear_58 : decode cX1_clear 58 = .ok (.iinc 4 1, 3) := by decide +kernel
theorem dX1_clear_61 : decode cX1_clear 61 = .ok (.goto (-20), 3) := by decide +kernel
theorem dX1_clear_64 : decode cX1_clear 64 = .ok (.iinc 3 1, 3) := by decide +kernel
theorem dX1_clear_67 : decode cX1_clear 67 = .ok (.goto (-55), 3) := by decide +kernel
theorem dX1_clear_70 : decode cX1_clear 70 = .ok (.iconst 0, 1) := by decide +kernel
theorem dX1_clear_71 : decode cX1_clear 71 = .ok (.istore_n 3, 1) := by decide +kernel
theorem dX1_clear_72 : decode cX1_clear 72 = .ok (.iload_n 3, 1) := by decide +kernel
theorem dX1_clear_73 : decode cX1_clear 73 = .ok (.iconst 4, 1) := by decide +kernel
theorem dX1_clear_74 : decode cX1_clear 74 = .ok (.if_icmp .ge 16, 3) := by decide +kernel
theorem dX1_clear_77 : decode cX1_clear 77 = .ok (.aload_n 0, 1) := by decide +kernel
theorem dX1_clear_78 : decode cX1_clear 78 = .ok (.getfield 33, 3) := by decide +kernel
theorem dX1_clear_81 : decode cX1_clear 81 = .ok (.iload_n 3, 1) := by decide +kernel
theorem dX1_clear_82 : decode cX1_clear 82 = .ok (.iconst 0, 1) := by decide +kernel
theorem dX1_clear_83 : decode cX1_clear 83 = .ok (.iastore, 1) := by decide +kernel
theorem dX1_clear_84 : decode cX1_clear 84 = .ok (.iinc 3 1, 3) := by decide +kernel
theorem dX1_clear_87 : decode cX1_clear 87 = .ok (.goto (-15), 3) := by decide +kernel
theorem dX1_clear_90 : decode cX1_clear 90 = .ok (.return_, 1) := by decide +kernel
theorem dX1_setFactor_0 : decode cX1_setFactor 0 = .ok (.aload_n 0, 1) := by decide +kernel
theorem dX1_setFactor_1 : decode cX1_setFactor 1 = .ok (.getfield 20, 3) := by decide +kernel
theorem dX1_setFactor_4 : decode cX1_setFactor 4 = .ok (.iload_n 1, 1) := by decide +kernel
theorem dX1_setFactor_5 : decode cX1_setFactor 5 = .ok (.aaload, 1) := by decide +kernel
theorem dX1_setFactor_6 : decode cX1_setFactor 6 = .ok (.iconst 2, 1) := by decide +kernel
theorem dX1_setFactor_7 : decode cX1_setFactor 7 = .ok (.iload_n 2, 1) := by decide +kernel
theorem dX1_setFactor_8 : decode cX1_setFactor 8 = .ok (.iadd, 1) := by decide +kernel
theorem dX1_setFactor_9 : decode cX1_setFactor 9 = .ok (.iload_n 3, 1) := by decide +kernel
theorem dX1_setFactor_10 : decode cX1_setFactor 10 = .ok (.i2l, 1) := by decide +kernel
theorem dX1_setFactor_11 : decode cX1_setFactor 11 = .ok (.lastore, 1) := by decide +kernel
theorem dX1_setFactor_12 : decode cX1_setFactor 12 = .ok (.return_, 1) := by decide +kernel
theorem dX1_setRow_0 : decode cX1_setRow 0 = .ok (.aload_n 0, 1) := by decide +kernel
theorem dX1_setRow_1 : decode cX1_setRow 1 = .ok (.getfield 23, 3) := by decide +kernel
theorem dX1_setRow_4 : decode cX1_setRow 4 = .ok (.iload_n 1, 1) := by decide +kernel
theorem dX1_setRow_5 : decode cX1_setRow 5 = .ok (.iload_n 2, 1) := by decide +kernel
theorem dX1_setRow_6 : decode cX1_setRow 6 = .ok (.iastore, 1) := by decide +kernel
theorem dX1_setRow_7 : decode cX1_setRow 7 = .ok (.aload_n 0, 1) := by decide +kernel
theorem dX1_setRow_8 : decode cX1_setRow 8 = .ok (.getfield 27, 3) := by decide +kernel
theorem dX1_setRow_11 : decode cX1_setRow 11 = .ok (.iload_n 1, 1) := by decide +kernel
theorem dX1_setRow_12 : decode cX1_setRow 12 = .ok (.iload_n 3, 1) := by decide +kernel
theorem dX1_setRow_13 : decode cX1_setRow 13 = .ok (.iastore, 1) := by decide +kernel
theorem dX1_setRow_14 : decode cX1_setRow 14 = .ok (.aload_n 0, 1) := by decide +kernel
theorem dX1_setRow_15 : decode cX1_setRow 15 = .ok (.iload_n 1, 1) := by decide +kernel
theorem dX1_setRow_16 : decode cX1_setRow 16 = .ok (.invokevirtual 36, 3) := by decide +kernel
theorem dX1_setRow_19 : decode cX1_setRow 19 = .ok (.return_, 1) := by decide +kernel
theorem dX1_setDrift_0 : decode cX1_setDrift 0 = .ok (.aload_n 0, 1) := by decide +kernel
theorem dX1_setDrift_1 : decode cX1_setDrift 1 = .ok (.getfield 30, 3) := by decide +kernel
theorem dX1_setDrift_4 : decode cX1_setDrift 4 = .ok (.iload_n 1, 1) := by decide +kernel
theorem dX1_setDrift_5 : decode cX1_setDrift 5 = .ok (.iload_n 2, 1) := by decide +kernel
theorem dX1_setDrift_6 : decode cX1_setDrift 6 = .ok (.iastore, 1) := by decide +kernel
theorem dX1_setDrift_7 : decode cX1_setDrift 7 = .ok (.aload_n 0, 1) := by decide +kernel
theorem dX1_setDrift_8 : decode cX1_setDrift 8 = .ok (.iload_n 1, 1) := by decide +kernel
theorem dX1_setDrift_9 : decode cX1_setDrift 9 = .ok (.invokevirtual 36, 3) := by decide +kernel
theorem dX1_setDrift_12 : decode cX1_setDrift 12 = .ok (.return_, 1) := by decide +kernel
theorem dX1_setWant_0 : decode cX1_setWant 0 = .ok (.aload_n 0, 1) := by decide +kernel
theorem dX1_setWant_1 : decode cX1_setWant 1 = .ok (.getfield 33, 3) := by decide +kernel
theorem dX1_setWant_4 : decode cX1_setWant 4 = .ok (.iload_n 1, 1) := by decide +kernel
theorem dX1_setWant_5 : decode cX1_setWant 5 = .ok (.iload_n 2, 1) := by decide +kernel
theorem dX1_setWant_6 : decode cX1_setWant 6 = .ok (.iastore, 1) := by decide +kernel
theorem dX1_setWant_7 : decode cX1_setWant 7 = .ok (.return_, 1) := by decide +kernel
theorem dX1_enterRight_0 : decode cX1_enterRight 0 = .ok (.aload_n 0, 1) := by decide +kernel
theorem dX1_enterRight_1 : decode cX1_enterRight 1 = .ok (.getfield 20, 3) := by decide +kernel
theorem dX1_enterRight_4 : decode cX1_enterRight 4 = .ok (.iload_n 1, 1) := by decide +kernel
theorem dX1_enterRight_5 : decode cX1_enterRight 5 = .ok (.aaload, 1) := by decide +kernel
theorem dX1_enterRight_6 : decode cX1_enterRight 6 = .ok (.iconst 0, 1) := by decide +kernel
theorem dX1_enterRight_7 : decode cX1_enterRight 7 = .ok (.aload_n 0, 1) := by decide +kernel
theorem dX1_enterRight_8 : decode cX1_enterRight 8 = .ok (.getfield 27, 3) := by decide +kernel
theorem dX1_enterRight_11 : decode cX1_enterRight 11 = .ok (.iload_n 1, 1) := by decide +kernel
theorem dX1_enterRight_12 : decode cX1_enterRight 12 = .ok (.iaload, 1) := by decide +kernel
theorem dX1_enterRight_13 : decode cX1_enterRight 13 = .ok (.ineg, 1) := by decide +kernel
theorem dX1_enterRight_14 : decode cX1_enterRight 14 = .ok (.i2l, 1) := by decide +kernel
theorem dX1_enterRight_15 : decode cX1_enterRight 15 = .ok (.lastore, 1) := by decide +kernel
theorem dX1_enterRight_16 : decode cX1_enterRight 16 = .ok (.aload_n 0, 1) := by decide +kernel
theorem dX1_enterRight_17 : decode cX1_enterRight 17 = .ok (.getfield 20, 3) := by decide +kernel
theorem dX1_enterRight_20 : decode cX1_enterRight 20 = .ok (.iload_n 1, 1) := by decide +kernel
theorem dX1_enterRight_21 : decode cX1_enterRight 21 = .ok (.aaload, 1) := by decide +kernel
theorem dX1_enterRight_22 : decode cX1_enterRight 22 = .ok (.iconst 1, 1) := by decide +kernel
theorem dX1_enterRight_23 : decode cX1_enterRight 23 = .ok (.aload_n 0, 1) := by decide +kernel
theorem dX1_enterRight_24 : decode cX1_enterRight 24 = .ok (.getfield 27, 3) := by decide +kernel
theorem dX1_enterRight_27 : decode cX1_enterRight 27 = .ok (.iload_n 1, 1) := by decide +kernel
theorem dX1_enterRight_28 : decode cX1_enterRight 28 = .ok (.iaload, 1) := by decide +kernel
theorem dX1_enterRight_29 : decode cX1_enterRight 29 = .ok (.ineg, 1) := by decide +kernel
theorem dX1_enterRight_30 : decode cX1_enterRight 30 = .ok (.aload_n 0, 1) := by decide +kernel
theorem dX1_enterRight_31 : decode cX1_enterRight 31 = .ok (.getfield 30, 3) := by decide +kernel
theorem dX1_enterRight_34 : decode cX1_enterRight 34 = .ok (.iload_n 1, 1) := by decide +kernel
theorem dX1_enterRight_35 : decode cX1_enterRight 35 = .ok (.iaload, 1) := by decide +kernel
theorem dX1_enterRight_36 : decode cX1_enterRight 36 = .ok (.isub, 1) := by decide +kernel
theorem dX1_enterRight_37 : decode cX1_enterRight 37 = .ok (.i2l, 1) := by decide +kernel
theorem dX1_enterRight_38 : decode cX1_enterRight 38 = .ok (.lastore, 1) := by decide +kernel
theorem dX1_enterRight_39 : decode cX1_enterRight 39 = .ok (.return_, 1) := by decide +kernel
theorem dX1_columns_0 : decode cX1_columns 0 = .ok (.iconst 2, 1) := by decide +kernel
theorem dX1_columns_1 : decode cX1_columns 1 = .ok (.aload_n 0, 1) := by decide +kernel
theorem dX1_columns_2 : decode cX1_columns 2 = .ok (.getfield 9, 3) := by decide +kernel
theorem dX1_columns_5 : decode cX1_columns 5 = .ok (.iadd, 1) := by decide +kernel
theorem dX1_columns_6 : decode cX1_columns 6 = .ok (.ireturn, 1) := by decide +kernel
theorem dX1_allRows_0 : decode cX1_allRows 0 = .ok (.iconst 1, 1) := by decide +kernel
theorem dX1_allRows_1 : decode cX1_allRows 1 = .ok (.aload_n 0, 1) := by decide +kernel
theorem dX1_allRows_2 : decode cX1_allRows 2 = .ok (.getfield 15, 3) := by decide +kernel
theorem dX1_allRows_5 : decode cX1_allRows 5 = .ok (.ishl, 1) := by decide +kernel
theorem dX1_allRows_6 : decode cX1_allRows 6 = .ok (.iconst 1, 1) := by decide +kernel
theorem dX1_allRows_7 : decode cX1_allRows 7 = .ok (.isub, 1) := by decide +kernel
theorem dX1_allRows_8 : decode cX1_allRows 8 = .ok (.ireturn, 1) := by decide +kernel
theorem dX1_entry_0 : decode cX1_entry 0 = .ok (.aload_n 0, 1) := by decide +kernel
theorem dX1_entry_1 : decode cX1_entry 1 = .ok (.getfield 20, 3) := by decide +kernel
theorem dX1_entry_4 : decode cX1_entry 4 = .ok (.iload_n 1, 1) := by decide +kernel
theorem dX1_entry_5 : decode cX1_entry 5 = .ok (.aaload, 1) := by decide +kernel
theorem dX1_entry_6 : decode cX1_entry 6 = .ok (.iload_n 2, 1) := by decide +kernel
theorem dX1_entry_7 : decode cX1_entry 7 = .ok (.laload, 1) := by decide +kernel
theorem dX1_entry_8 : decode cX1_entry 8 = .ok (.lreturn, 1) := by decide +kernel
theorem dX1_excess_0 : decode cX1_excess 0 = .ok (.lconst 0, 1) := by decide +kernel
theorem dX1_excess_1 : decode cX1_excess 1 = .ok (.lstore_n 3, 1) := by decide +kernel
theorem dX1_excess_2 : decode cX1_excess 2 = .ok (.iconst 0, 1) := by decide +kernel
theorem dX1_excess_3 : decode cX1_excess 3 = .ok (.istore 5, 2) := by decide +kernel
theorem dX1_excess_5 : decode cX1_excess 5 = .ok (.iload 5, 2) := by decide +kernel
theorem dX1_excess_7 : decode cX1_excess 7 = .ok (.bipush 6, 2) := by decide +kernel
theorem dX1_excess_9 : decode cX1_excess 9 = .ok (.if_icmp .ge 26, 3) := by decide +kernel
theorem dX1_excess_12 : decode cX1_excess 12 = .ok (.lload_n 3, 1) := by decide +kernel
theorem dX1_excess_13 : decode cX1_excess 13 = .ok (.aload_n 0, 1) := by decide +kernel
theorem dX1_excess_14 : decode cX1_excess 14 = .ok (.getfield 20, 3) := by decide +kernel
theorem dX1_excess_17 : decode cX1_excess 17 = .ok (.iload_n 1, 1) := by decide +kernel
theorem dX1_excess_18 : decode cX1_excess 18 = .ok (.aaload, 1) := by decide +kernel
theorem dX1_excess_19 : decode cX1_excess 19 = .ok (.iload 5, 2) := by decide +kernel
theorem dX1_excess_21 : decode cX1_excess 21 = .ok (.laload, 1) := by decide +kernel
theorem dX1_excess_22 : decode cX1_excess 22 = .ok (.aload_n 2, 1) := by decide +kernel
theorem dX1_excess_23 : decode cX1_excess 23 = .ok (.iload 5, 2) := by decide +kernel
theorem dX1_excess_25 : decode cX1_excess 25 = .ok (.laload, 1) := by decide +kernel
theorem dX1_excess_26 : decode cX1_excess 26 = .ok (.lmul, 1) := by decide +kernel
theorem dX1_excess_27 : decode cX1_excess 27 = .ok (.ladd, 1) := by decide +kernel
theorem dX1_excess_28 : decode cX1_excess 28 = .ok (.lstore_n 3, 1) := by decide +kernel
theorem dX1_excess_29 : decode cX1_excess 29 = .ok (.iinc 5 1, 3) := by decide +kernel
theorem dX1_excess_32 : decode cX1_excess 32 = .ok (.goto (-27), 3) := by decide +kernel
theorem dX1_excess_35 : decode cX1_excess 35 = .ok (.lload_n 3, 1) := by decide +kernel
theorem dX1_excess_36 : decode cX1_excess 36 = .ok (.lreturn, 1) := by decide +kernel
theorem dX1_worth_0 : decode cX1_worth 0 = .ok (.lconst 0, 1) := by decide +kernel
theorem dX1_worth_1 : decode cX1_worth 1 = .ok (.lstore_n 2, 1) := by decide +kernel
theorem dX1_worth_2 : decode cX1_worth 2 = .ok (.iconst 0, 1) := by decide +kernel
theorem dX1_worth_3 : decode cX1_worth 3 = .ok (.istore 4, 2) := by decide +kernel
theorem dX1_worth_5 : decode cX1_worth 5 = .ok (.iload 4, 2) := by decide +kernel
theorem dX1_worth_7 : decode cX1_worth 7 = .ok (.aload_n 0, 1) := by decide +kernel
theorem dX1_worth_8 : decode cX1_worth 8 = .ok (.getfield 9, 3) := by decide +kernel
theorem dX1_worth_11 : decode cX1_worth 11 = .ok (.if_icmp .ge 27, 3) := by decide +kernel
theorem dX1_worth_14 : decode cX1_worth 14 = .ok (.lload_n 2, 1) := by decide +kernel
theorem dX1_worth_15 : decode cX1_worth 15 = .ok (.aload_n 0, 1) := by decide +kernel
theorem dX1_worth_16 : decode cX1_worth 16 = .ok (.getfield 33, 3) := by decide +kernel
theorem dX1_worth_19 : decode cX1_worth 19 = .ok (.iload 4, 2) := by decide +kernel
theorem dX1_worth_21 : decode cX1_worth 21 = .ok (.iaload, 1) := by decide +kernel
theorem dX1_worth_22 : decode cX1_worth 22 = .ok (.i2l, 1) := by decide +kernel
theorem dX1_worth_23 : decode cX1_worth 23 = .ok (.aload_n 1, 1) := by decide +kernel
theorem dX1_worth_24 : decode cX1_worth 24 = .ok (.iconst 2, 1) := by decide +kernel
theorem dX1_worth_25 : decode cX1_worth 25 = .ok (.iload 4, 2) := by decide +kernel
theorem dX1_worth_27 : decode cX1_worth 27 = .ok (.iadd, 1) := by decide +kernel
theorem dX1_worth_28 : decode cX1_worth 28 = .ok (.laload, 1) := by decide +kernel
theorem dX1_worth_29 : decode cX1_worth 29 = .ok (.lmul, 1) := by decide +kernel
theorem dX1_worth_30 : decode cX1_worth 30 = .ok (.ladd, 1) := by decide +kernel
theorem dX1_worth_31 : decode cX1_worth 31 = .ok (.lstore_n 2, 1) := by decide +kernel
theorem dX1_worth_32 : decode cX1_worth 32 = .ok (.iinc 4 1, 3) := by decide +kernel
theorem dX1_worth_35 : decode cX1_worth 35 = .ok (.goto (-30), 3) := by decide +kernel
theorem dX1_worth_38 : decode cX1_worth 38 = .ok (.lload_n 2, 1) := by decide +kernel
theorem dX1_worth_39 : decode cX1_worth 39 = .ok (.lreturn, 1) := by decide +kernel
theorem dX1_holds_0 : decode cX1_holds 0 = .ok (.iconst 0, 1) := by decide +kernel
theorem dX1_holds_1 : decode cX1_holds 1 = .ok (.istore_n 3, 1) := by decide +kernel
theorem dX1_holds_2 : decode cX1_holds 2 = .ok (.iload_n 3, 1) := by decide +kernel
theorem dX1_holds_3 : decode cX1_holds 3 = .ok (.aload_n 0, 1) := by decide +kernel
theorem dX1_holds_4 : decode cX1_holds 4 = .ok (.getfield 15, 3) := by decide +kernel
theorem dX1_holds_7 : decode cX1_holds 7 = .ok (.if_icmp .ge 38, 3) := by decide +kernel
theorem dX1_holds_10 : decode cX1_holds 10 = .ok (.iload_n 2, 1) := by decide +kernel
theorem dX1_holds_11 : decode cX1_holds 11 = .ok (.iload_n 3, 1) := by decide +kernel
theorem dX1_holds_12 : decode cX1_holds 12 = .ok (.ishr, 1) := by decide +kernel
theorem dX1_holds_13 : decode cX1_holds 13 = .ok (.iconst 1, 1) := by decide +kernel
theorem dX1_holds_14 : decode cX1_holds 14 = .ok (.iand, 1) := by decide +kernel
theorem dX1_holds_15 : decode cX1_holds 15 = .ok (.iconst 1, 1) := by decide +kernel
theorem dX1_holds_16 : decode cX1_holds 16 = .ok (.if_icmp .ne 23, 3) := by decide +kernel
theorem dX1_holds_19 : decode cX1_holds 19 = .ok (.aload_n 0, 1) := by decide +kernel
theorem dX1_holds_20 : decode cX1_holds 20 = .ok (.iload_n 3, 1) := by decide +kernel
theorem dX1_holds_21 : decode cX1_holds 21 = .ok (.aload_n 1, 1) := by decide +kernel
theorem dX1_holds_22 : decode cX1_holds 22 = .ok (.invokevirtual 40, 3) := by decide +kernel
theorem dX1_holds_25 : decode cX1_holds 25 = .ok (.aload_n 0, 1) := by decide +kernel
theorem dX1_holds_26 : decode cX1_holds 26 = .ok (.getfield 23, 3) := by decide +kernel
theorem dX1_holds_29 : decode cX1_holds 29 = .ok (.iload_n 3, 1) := by decide +kernel
theorem dX1_holds_30 : decode cX1_holds 30 = .ok (.iaload, 1) := by decide +kernel
theorem dX1_holds_31 : decode cX1_holds 31 = .ok (.invokestatic 44, 3) := by decide +kernel
theorem dX1_holds_34 : decode cX1_holds 34 = .ok (.ifCond .ne 5, 3) := by decide +kernel
theorem dX1_holds_37 : decode cX1_holds 37 = .ok (.iconst 0, 1) := by decide +kernel
theorem dX1_holds_38 : decode cX1_holds 38 = .ok (.ireturn, 1) := by decide +kernel
theorem dX1_holds_39 : decode cX1_holds 39 = .ok (.iinc 3 1, 3) := by decide +kernel
theorem dX1_holds_42 : decode cX1_holds 42 = .ok (.goto (-40), 3) := by decide +kernel
theorem dX1_holds_45 : decode cX1_holds 45 = .ok (.iconst 1, 1) := by decide +kernel
theorem dX1_holds_46 : decode cX1_holds 46 = .ok (.ireturn, 1) := by decide +kernel
theorem dX1_fits_0 : decode cX1_fits 0 = .ok (.iload_n 2, 1) := by decide +kernel
theorem dX1_fits_1 : decode cX1_fits 1 = .ok (.ifCond .ne 15, 3) := by decide +kernel
theorem dX1_fits_4 : decode cX1_fits 4 = .ok (.lload_n 0, 1) := by decide +kernel
theorem dX1_fits_5 : decode cX1_fits 5 = .ok (.lconst 0, 1) := by decide +kernel
theorem dX1_fits_6 : decode cX1_fits 6 = .ok (.lcmp, 1) := by decide +kernel
theorem dX1_fits_7 : decode cX1_fits 7 = .ok (.ifCond .gt 7, 3) := by decide +kernel
theorem dX1_fits_10 : decode cX1_fits 10 = .ok (.iconst 1, 1) := by decide +kernel
theorem dX1_fits_11 : decode cX1_fits 11 = .ok (.goto 4, 3) := by decide +kernel
theorem dX1_fits_14 : decode cX1_fits 14 = .ok (.iconst 0, 1) := by decide +kernel
theorem dX1_fits_15 : decode cX1_fits 15 = .ok (.ireturn, 1) := by decide +kernel
theorem dX1_fits_16 : decode cX1_fits 16 = .ok (.iload_n 2, 1) := by decide +kernel
theorem dX1_fits_17 : decode cX1_fits 17 = .ok (.iconst 1, 1) := by decide +kernel
theorem dX1_fits_18 : decode cX1_fits 18 = .ok (.if_icmp .ne 15, 3) := by decide +kernel
theorem dX1_fits_21 : decode cX1_fits 21 = .ok (.lload_n 0, 1) := by decide +kernel
theorem dX1_fits_22 : decode cX1_fits 22 = .ok (.lconst 0, 1) := by decide +kernel
theorem dX1_fits_23 : decode cX1_fits 23 = .ok (.lcmp, 1) := by decide +kernel
theorem dX1_fits_24 : decode cX1_fits 24 = .ok (.ifCond .ne 7, 3) := by decide +kernel
theorem dX1_fits_27 : decode cX1_fits 27 = .ok (.iconst 1, 1) := by decide +kernel
theorem dX1_fits_28 : decode cX1_fits 28 = .ok (.goto 4, 3) := by decide +kernel
theorem dX1_fits_31 : decode cX1_fits 31 = .ok (.iconst 0, 1) := by decide +kernel
theorem dX1_fits_32 : decode cX1_fits 32 = .ok (.ireturn, 1) := by decide +kernel
theorem dX1_fits_33 : decode cX1_fits 33 = .ok (.lload_n 0, 1) := by decide +kernel
theorem dX1_fits_34 : decode cX1_fits 34 = .ok (.lconst 0, 1) := by decide +kernel
theorem dX1_fits_35 : decode cX1_fits 35 = .ok (.lcmp, 1) := by decide +kernel
theorem dX1_fits_36 : decode cX1_fits 36 = .ok (.ifCond .lt 7, 3) := by decide +kernel
theorem dX1_fits_39 : decode cX1_fits 39 = .ok (.iconst 1, 1) := by decide +kernel
theorem dX1_fits_40 : decode cX1_fits 40 = .ok (.goto 4, 3) := by decide +kernel
theorem dX1_fits_43 : decode cX1_fits 43 = .ok (.iconst 0, 1) := by decide +kernel
theorem dX1_fits_44 : decode cX1_fits 44 = .ok (.ireturn, 1) := by decide +kernel
theorem dX2_init_0 : decode cX2_init 0 = .ok (.aload_n 0, 1) := by decide +kernel
theorem dX2_init_1 : decode cX2_init 1 = .ok (.invokespecial 3, 3) := by decide +kernel
theorem dX2_init_4 : decode cX2_init 4 = .ok (.aload_n 0, 1) := by decide +kernel
theorem dX2_init_5 : decode cX2_init 5 = .ok (.new 9, 3) := by decide +kernel
theorem dX2_init_8 : decode cX2_init 8 = .ok (.dup, 1) := by decide +kernel
theorem dX2_init_9 : decode cX2_init 9 = .ok (.invokespecial 11, 3) := by decide +kernel
theorem dX2_init_12 : decode cX2_init 12 = .ok (.putfield 12, 3) := by decide +kernel
theorem dX2_init_15 : decode cX2_init 15 = .ok (.aload_n 0, 1) := by decide +kernel
theorem dX2_init_16 : decode cX2_init 16 = .ok (.new 16, 3) := by decide +kernel
theorem dX2_init_19 : decode cX2_init 19 = .ok (.dup, 1) := by decide +kernel
theorem dX2_init_20 : decode cX2_init 20 = .ok (.invokespecial 18, 3) := by decide +kernel
theorem dX2_init_23 : decode cX2_init 23 = .ok (.putfield 19, 3) := by decide +kernel
theorem dX2_init_26 : decode cX2_init 26 = .ok (.aload_n 0, 1) := by decide +kernel
theorem dX2_init_27 : decode cX2_init 27 = .ok (.bipush 126, 2) := by decide +kernel
theorem dX2_init_29 : decode cX2_init 29 = .ok (.newarray .int, 2) := by decide +kernel
theorem dX2_init_31 : decode cX2_init 31 = .ok (.putfield 23, 3) := by decide +kernel
theorem dX2_init_34 : decode cX2_init 34 = .ok (.return_, 1) := by decide +kernel
theorem dX2_begin_0 : decode cX2_begin 0 = .ok (.iload_n 1, 1) := by decide +kernel
theorem dX2_begin_1 : decode cX2_begin 1 = .ok (.iconst 1, 1) := by decide +kernel
theorem dX2_begin_2 : decode cX2_begin 2 = .ok (.if_icmp .lt 17, 3) := by decide +kernel
theorem dX2_begin_5 : decode cX2_begin 5 = .ok (.iload_n 1, 1) := by decide +kernel
theorem dX2_begin_6 : decode cX2_begin 6 = .ok (.iconst 4, 1) := by decide +kernel
theorem dX2_begin_7 : decode cX2_begin 7 = .ok (.if_icmp .gt 12, 3) := by decide +kernel
theorem dX2_begin_10 : decode cX2_begin 10 = .ok (.iload_n 2, 1) := by decide +kernel
theorem dX2_begin_11 : decode cX2_begin 11 = .ok (.ifCond .lt 8, 3) := by decide +kernel
theorem dX2_begin_14 : decode cX2_begin 14 = .ok (.iload_n 2, 1) := by decide +kernel
theorem dX2_begin_15 : decode cX2_begin 15 = .ok (.iconst 3, 1) := by decide +kernel
theorem dX2_begin_16 : decode cX2_begin 16 = .ok (.if_icmp .le 11, 3) := by decide +kernel
theorem dX2_begin_19 : decode cX2_begin 19 = .ok (.new 27, 3) := by decide +kernel
theorem dX2_begin_22 : decode cX2_begin 22 = .ok (.dup, 1) := by decide +kernel
theorem dX2_begin_23 : decode cX2_begin 23 = .ok (.invokespecial 29, 3) := by decide +kernel
theorem dX2_begin_26 : decode cX2_begin 26 = .ok (.athrow, 1) := by decide +kernel
theorem dX2_begin_27 : decode cX2_begin 27 = .ok (.aload_n 0, 1) := by decide +kernel
theorem dX2_begin_28 : decode cX2_begin 28 = .ok (.getfield 12, 3) := by decide +kernel
theorem dX2_begin_31 : decode cX2_begin 31 = .ok (.iload_n 1, 1) := by decide +kernel
theorem dX2_begin_32 : decode cX2_begin 32 = .ok (.iload_n 2, 1) := by decide +kernel
theorem dX2_begin_33 : decode cX2_begin 33 = .ok (.invokevirtual 30, 3) := by decide +kernel
theorem dX2_begin_36 : decode cX2_begin 36 = .ok (.aload_n 0, 1) := by decide +kernel
theorem dX2_begin_37 : decode cX2_begin 37 = .ok (.getfield 19, 3) := by decide +kernel
theorem dX2_begin_40 : decode cX2_begin 40 = .ok (.invokevirtual 34, 3) := by decide +kernel
theorem dX2_begin_43 : decode cX2_begin 43 = .ok (.return_, 1) := by decide +kernel
theorem dX2_coefficient_0 : decode cX2_coefficient 0 = .ok (.aload_n 0, 1) := by decide +kernel
theorem dX2_coefficient_1 : decode cX2_coefficient 1 = .ok (.iload_n 1, 1) := by decide +kernel
theorem dX2_coefficient_2 : decode cX2_coefficient 2 = .ok (.invokevirtual 37, 3) := by decide +kernel
theorem dX2_coefficient_5 : decode cX2_coefficient 5 = .ok (.ifCond .eq 11, 3) := by decide +kernel
theorem dX2_coefficient_8 : decode cX2_coefficient 8 = .ok (.aload_n 0, 1) := by decide +kernel
theorem dX2_coefficient_9 : decode cX2_coefficient 9 = .ok (.iload_n 2, 1) := by decide +kernel
theorem dX2_coefficient_10 : decode cX2_coefficient 10 = .ok (.invokevirtual 41, 3) := by decide +kernel
theorem dX2_coefficient_13 : decode cX2_coefficient 13 = .ok (.ifCond .ne 11, 3) := by decide +kernel
theorem dX2_coefficient_16 : decode cX2_coefficient 16 = .ok (.new 44, 3) := by decide +kernel
theorem dX2_coefficient_19 : decode cX2_coefficient 19 = .ok (.dup, 1) := by decide +kernel
theorem dX2_coefficient_20 : decode cX2_coefficient 20 = .ok (.invokespecial 46, 3) := by decide +kernel
theorem dX2_coefficient_23 : decode cX2_coefficient 23 = .ok (.athrow, 1) := by decide +kernel
theorem dX2_coefficient_24 : decode cX2_coefficient 24 = .ok (.iload_n 3, 1) := by decide +kernel
theorem dX2_coefficient_25 : decode cX2_coefficient 25 = .ok (.invokestatic 47, 3) := by decide +kernel
theorem dX2_coefficient_28 : decode cX2_coefficient 28 = .ok (.ifCond .ne 11, 3) := by decide +kernel
theorem dX2_coefficient_31 : decode cX2_coefficient 31 = .ok (.new 27, 3) := by decide +kernel
theorem dX2_coefficient_34 : decode cX2_coefficient 34 = .ok (.dup, 1) := by decide +kernel
theorem dX2_coefficient_35 : decode cX2_coefficient 35 = .ok (.invokespecial 29, 3) := by decide +kernel
theorem dX2_coefficient_38 : decode cX2_coefficient 38 = .ok (.athrow, 1) := by decide +kernel
theorem dX2_coefficient_39 : decode cX2_coefficient 39 = .ok (.aload_n 0, 1) := by decide +kernel
theorem dX2_coefficient_40 : decode cX2_coefficient 40 = .ok (.getfield 12, 3) := by decide +kernel
theorem dX2_coefficient_43 : decode cX2_coefficient 43 = .ok (.iload_n 1, 1) := by decide +kernel
theorem dX2_coefficient_44 : decode cX2_coefficient 44 = .ok (.iload_n 2, 1) := by decide +kernel
theorem dX2_coefficient_45 : decode cX2_coefficient 45 = .ok (.iload_n 3, 1) := by decide +kernel
theorem dX2_coefficient_46 : decode cX2_coefficient 46 = .ok (.invokevirtual 50, 3) := by decide +kernel
theorem dX2_coefficient_49 : decode cX2_coefficient 49 = .ok (.aload_n 0, 1) := by decide +kernel
theorem dX2_coefficient_50 : decode cX2_coefficient 50 = .ok (.getfield 19, 3) := by decide +kernel
theorem dX2_coefficient_53 : decode cX2_coefficient 53 = .ok (.invokevirtual 34, 3) := by decide +kernel
theorem dX2_coefficient_56 : decode cX2_coefficient 56 = .ok (.return_, 1) := by decide +kernel
theorem dX2_row_0 : decode cX2_row 0 = .ok (.aload_n 0, 1) := by decide +kernel
theorem dX2_row_1 : decode cX2_row 1 = .ok (.iload_n 1, 1) := by decide +kernel
theorem dX2_row_2 : decode cX2_row 2 = .ok (.invokevirtual 37, 3) := by decide +kernel
theorem dX2_row_5 : decode cX2_row 5 = .ok (.ifCond .ne 11, 3) := by decide +kernel
theorem dX2_row_8 : decode cX2_row 8 = .ok (.new 44, 3) := by decide +kernel
theorem dX2_row_11 : decode cX2_row 11 = .ok (.dup, 1) := by decide +kernel
theorem dX2_row_12 : decode cX2_row 12 = .ok (.invokespecial 46, 3) := by decide +kernel
theorem dX2_row_15 : decode cX2_row 15 = .ok (.athrow, 1) := by decide +kernel
theorem dX2_row_16 : decode cX2_row 16 = .ok (.iload_n 2, 1) := by decide +kernel
theorem dX2_row_17 : decode cX2_row 17 = .ok (.ifCond .lt 20, 3) := by decide +kernel
theorem dX2_row_20 : decode cX2_row 20 = .ok (.iload_n 2, 1) := by decide +kernel
theorem dX2_row_21 : decode cX2_row 21 = .ok (.iconst 2, 1) := by decide +kernel
theorem dX2_row_22 : decode cX2_row 22 = .ok (.if_icmp .gt 15, 3) := by decide +kernel
theorem dX2_row_25 : decode cX2_row 25 = .ok (.iload_n 3, 1) := by decide +kernel
theorem dX2_row_26 : decode cX2_row 26 = .ok (.bipush (-50), 2) := by decide +kernel
theorem dX2_row_28 : decode cX2_row 28 = .ok (.if_icmp .lt 9, 3) := by decide +kernel
theorem dX2_row_31 : decode cX2_row 31 = .ok (.iload_n 3, 1) := by decide +kernel
theorem dX2_row_32 : decode cX2_row 32 = .ok (.bipush 50, 2) := by decide +kernel
theorem dX2_row_34 : decode cX2_row 34 = .ok (.if_icmp .le 11, 3) := by decide +kernel
theorem dX2_row_37 : decode cX2_row 37 = .ok (.new 27, 3) := by decide +kernel
theorem dX2_row_40 : decode cX2_row 40 = .ok (.dup, 1) := by decide +kernel
theorem dX2_row_41 : decode cX2_row 41 = .ok (.invokespecial 29, 3) := by decide +kernel
theorem dX2_row_44 : decode cX2_row 44 = .ok (.athrow, 1) := by decide +kernel
theorem dX2_row_45 : decode cX2_row 45 = .ok (.aload_n 0, 1) := by decide +kernel
theorem dX2_row_46 : decode cX2_row 46 = .ok (.getfield 12, 3) := by decide +kernel
theorem dX2_row_49 : decode cX2_row 49 = .ok (.iload_n 1, 1) := by decide +kernel
theorem dX2_row_50 : decode cX2_row 50 = .ok (.iload_n 2, 1) := by decide +kernel
theorem dX2_row_51 : decode cX2_row 51 = .ok (.iload_n 3, 1) := by decide +kernel
theorem dX2_row_52 : decode cX2_row 52 = .ok (.invokevirtual 54, 3) := by decide +kernel
theorem dX2_row_55 : decode cX2_row 55 = .ok (.aload_n 0, 1) := by decide +kernel
theorem dX2_row_56 : decode cX2_row 56 = .ok (.getfield 19, 3) := by decide +kernel
theorem dX2_row_59 : decode cX2_row 59 = .ok (.invokevirtual 34, 3) := by decide +kernel
theorem dX2_row_62 : decode cX2_row 62 = .ok (.return_, 1) := by decide +kernel
theorem dX2_want_0 : decode cX2_want 0 = .ok (.aload_n 0, 1) := by decide +kernel
theorem dX2_want_1 : decode cX2_want 1 = .ok (.iload_n 1, 1) := by decide +kernel
theorem dX2_want_2 : decode cX2_want 2 = .ok (.invokevirtual 41, 3) := by decide +kernel
theorem dX2_want_5 : decode cX2_want 5 = .ok (.ifCond .ne 11, 3) := by decide +kernel
theorem dX2_want_8 : decode cX2_want 8 = .ok (.new 44, 3) := by decide +kernel
theorem dX2_want_11 : decode cX2_want 11 = .ok (.dup, 1) := by decide +kernel
theorem dX2_want_12 : decode cX2_want 12 = .ok (.invokespecial 46, 3) := by decide +kernel
theorem dX2_want_15 : decode cX2_want 15 = .ok (.athrow, 1) := by decide +kernel
theorem dX2_want_16 : decode cX2_want 16 = .ok (.iload_n 2, 1) := by decide +kernel
theorem dX2_want_17 : decode cX2_want 17 = .ok (.invokestatic 47, 3) := by decide +kernel
theorem dX2_want_20 : decode cX2_want 20 = .ok (.ifCond .ne 11, 3) := by decide +kernel
theorem dX2_want_23 : decode cX2_want 23 = .ok (.new 27, 3) := by decide +kernel
theorem dX2_want_26 : decode cX2_want 26 = .ok (.dup, 1) := by decide +kernel
theorem dX2_want_27 : decode cX2_want 27 = .ok (.invokespecial 29, 3) := by decide +kernel
theorem dX2_want_30 : decode cX2_want 30 = .ok (.athrow, 1) := by decide +kernel
theorem dX2_want_31 : decode cX2_want 31 = .ok (.aload_n 0, 1) := by decide +kernel
theorem dX2_want_32 : decode cX2_want 32 = .ok (.getfield 12, 3) := by decide +kernel
theorem dX2_want_35 : decode cX2_want 35 = .ok (.iload_n 1, 1) := by decide +kernel
theorem dX2_want_36 : decode cX2_want 36 = .ok (.iload_n 2, 1) := by decide +kernel
theorem dX2_want_37 : decode cX2_want 37 = .ok (.invokevirtual 57, 3) := by decide +kernel
theorem dX2_want_40 : decode cX2_want 40 = .ok (.return_, 1) := by decide +kernel
theorem dX2_drift_0 : decode cX2_drift 0 = .ok (.aload_n 0, 1) := by decide +kernel
theorem dX2_drift_1 : decode cX2_drift 1 = .ok (.iload_n 1, 1) := by decide +kernel
theorem dX2_drift_2 : decode cX2_drift 2 = .ok (.invokevirtual 37, 3) := by decide +kernel
theorem dX2_drift_5 : decode cX2_drift 5 = .ok (.ifCond .ne 11, 3) := by decide +kernel
theorem dX2_drift_8 : decode cX2_drift 8 = .ok (.new 44, 3) := by decide +kernel
theorem dX2_drift_11 : decode cX2_drift 11 = .ok (.dup, 1) := by decide +kernel
theorem dX2_drift_12 : decode cX2_drift 12 = .ok (.invokespecial 46, 3) := by decide +kernel
theorem dX2_drift_15 : decode cX2_drift 15 = .ok (.athrow, 1) := by decide +kernel
theorem dX2_drift_16 : decode cX2_drift 16 = .ok (.iload_n 2, 1) := by decide +kernel
theorem dX2_drift_17 : decode cX2_drift 17 = .ok (.invokestatic 47, 3) := by decide +kernel
theorem dX2_drift_20 : decode cX2_drift 20 = .ok (.ifCond .ne 11, 3) := by decide +kernel
theorem dX2_drift_23 : decode cX2_drift 23 = .ok (.new 27, 3) := by decide +kernel
theorem dX2_drift_26 : decode cX2_drift 26 = .ok (.dup, 1) := by decide +kernel
theorem dX2_drift_27 : decode cX2_drift 27 = .ok (.invokespecial 29, 3) := by decide +kernel
theorem dX2_drift_30 : decode cX2_drift 30 = .ok (.athrow, 1) := by decide +kernel
theorem dX2_drift_31 : decode cX2_drift 31 = .ok (.aload_n 0, 1) := by decide +kernel
theorem dX2_drift_32 : decode cX2_drift 32 = .ok (.getfield 12, 3) := by decide +kernel
theorem dX2_drift_35 : decode cX2_drift 35 = .ok (.iload_n 1, 1) := by decide +kernel
theorem dX2_drift_36 : decode cX2_drift 36 = .ok (.iload_n 2, 1) := by decide +kernel
theorem dX2_drift_37 : decode cX2_drift 37 = .ok (.invokevirtual 60, 3) := by decide +kernel
theorem dX2_drift_40 : decode cX2_drift 40 = .ok (.aload_n 0, 1) := by decide +kernel
theorem dX2_drift_41 : decode cX2_drift 41 = .ok (.getfield 19, 3) := by decide +kernel
theorem dX2_drift_44 : decode cX2_drift 44 = .ok (.invokevirtual 34, 3) := by decide +kernel
theorem dX2_drift_47 : decode cX2_drift 47 = .ok (.return_, 1) := by decide +kernel
theorem dX2_solve_0 : decode cX2_solve 0 = .ok (.aload_n 0, 1) := by decide +kernel
theorem dX2_solve_1 : decode cX2_solve 1 = .ok (.aload_n 0, 1) := by decide +kernel
theorem dX2_solve_2 : decode cX2_solve 2 = .ok (.getfield 12, 3) := by decide +kernel
theorem dX2_solve_5 : decode cX2_solve 5 = .ok (.invokevirtual 63, 3) := by decide +kernel
theorem dX2_solve_8 : decode cX2_solve 8 = .ok (.invokevirtual 67, 3) := by decide +kernel
theorem dX2_solve_11 : decode cX2_solve 11 = .ok (.ifCond .ne 5, 3) := by decide +kernel
theorem dX2_solve_14 : decode cX2_solve 14 = .ok (.iconst 1, 1) := by decide +kernel
theorem dX2_solve_15 : decode cX2_solve 15 = .ok (.ireturn, 1) := by decide +kernel
theorem dX2_solve_16 : decode cX2_solve 16 = .ok (.aload_n 0, 1) := by decide +kernel
theorem dX2_solve_17 : decode cX2_solve 17 = .ok (.invokevirtual 70, 3) := by decide +kernel
theorem dX2_solve_20 : decode cX2_solve 20 = .ok (.ifCond .eq 7, 3) := by decide +kernel
theorem dX2_solve_23 : decode cX2_solve 23 = .ok (.iconst 2, 1) := by decide +kernel
theorem dX2_solve_24 : decode cX2_solve 24 = .ok (.goto 4, 3) := by decide +kernel
theorem dX2_solve_27 : decode cX2_solve 27 = .ok (.iconst 0, 1) := by decide +kernel
theorem dX2_solve_28 : decode cX2_solve 28 = .ok (.ireturn, 1) := by decide +kernel
theorem dX2_value_0 : decode cX2_value 0 = .ok (.aload_n 0, 1) := by decide +kernel
theorem dX2_value_1 : decode cX2_value 1 = .ok (.invokevirtual 74, 3) := by decide +kernel
theorem dX2_value_4 : decode cX2_value 4 = .ok (.ifCond .eq 11, 3) := by decide +kernel
theorem dX2_value_7 : decode cX2_value 7 = .ok (.new 77, 3) := by decide +kernel
theorem dX2_value_10 : decode cX2_value 10 = .ok (.dup, 1) := by decide +kernel
theorem dX2_value_11 : decode cX2_value 11 = .ok (.invokespecial 79, 3) := by decide +kernel
theorem dX2_value_14 : decode cX2_value 14 = .ok (.athrow, 1) := by decide +kernel
theorem dX2_value_15 : decode cX2_value 15 = .ok (.iload_n 1, 1) := by decide +kernel
theorem dX2_value_16 : decode cX2_value 16 = .ok (.invokestatic 80, 3) := by decide +kernel
theorem dX2_value_19 : decode cX2_value 19 = .ok (.ifCond .ne 11, 3) := by decide +kernel
theorem dX2_value_22 : decode cX2_value 22 = .ok (.new 27, 3) := by decide +kernel
theorem dX2_value_25 : decode cX2_value 25 = .ok (.dup, 1) := by decide +kernel
theorem dX2_value_26 : decode cX2_value 26 = .ok (.invokespecial 29, 3) := by decide +kernel
theorem dX2_value_29 : decode cX2_value 29 = .ok (.athrow, 1) := by decide +kernel
theorem dX2_value_30 : decode cX2_value 30 = .ok (.aload_n 0, 1) := by decide +kernel
theorem dX2_value_31 : decode cX2_value 31 = .ok (.invokevirtual 83, 3) := by decide +kernel
theorem dX2_value_34 : decode cX2_value 34 = .ok (.astore_n 2, 1) := by decide +kernel
theorem dX2_value_35 : decode cX2_value 35 = .ok (.aload_n 0, 1) := by decide +kernel
theorem dX2_value_36 : decode cX2_value 36 = .ok (.getfield 12, 3) := by decide +kernel
theorem dX2_value_39 : decode cX2_value 39 = .ok (.aload_n 2, 1) := by decide +kernel
theorem dX2_value_40 : decode cX2_value 40 = .ok (.invokevirtual 87, 3) := by decide +kernel
theorem dX2_value_43 : decode cX2_value 43 = .ok (.aload_n 2, 1) := by decide +kernel
theorem dX2_value_44 : decode cX2_value 44 = .ok (.iconst 0, 1) := by decide +kernel
theorem dX2_value_45 : decode cX2_value 45 = .ok (.laload, 1) := by decide +kernel
theorem dX2_value_46 : decode cX2_value 46 = .ok (.iload_n 1, 1) := by decide +kernel
theorem dX2_value_47 : decode cX2_value 47 = .ok (.invokestatic 91, 3) := by decide +kernel
theorem dX2_value_50 : decode cX2_value 50 = .ok (.lreturn, 1) := by decide +kernel
theorem dX2_point_0 : decode cX2_point 0 = .ok (.aload_n 0, 1) := by decide +kernel
theorem dX2_point_1 : decode cX2_point 1 = .ok (.invokevirtual 74, 3) := by decide +kernel
theorem dX2_point_4 : decode cX2_point 4 = .ok (.ifCond .eq 11, 3) := by decide +kernel
theorem dX2_point_7 : decode cX2_point 7 = .ok (.new 77, 3) := by decide +kernel
theorem dX2_point_10 : decode cX2_point 10 = .ok (.dup, 1) := by decide +kernel
theorem dX2_point_11 : decode cX2_point 11 = .ok (.invokespecial 79, 3) := by decide +kernel
theorem dX2_point_14 : decode cX2_point 14 = .ok (.athrow, 1) := by decide +kernel
theorem dX2_point_15 : decode cX2_point 15 = .ok (.aload_n 0, 1) := by decide +kernel
theorem dX2_point_16 : decode cX2_point 16 = .ok (.iload_n 1, 1) := by decide +kernel
theorem dX2_point_17 : decode cX2_point 17 = .ok (.invokevirtual 41, 3) := by decide +kernel
theorem dX2_point_20 : decode cX2_point 20 = .ok (.ifCond .ne 11, 3) := by decide +kernel
theorem dX2_point_23 : decode cX2_point 23 = .ok (.new 44, 3) := by decide +kernel
theorem dX2_point_26 : decode cX2_point 26 = .ok (.dup, 1) := by decide +kernel
theorem dX2_point_27 : decode cX2_point 27 = .ok (.invokespecial 46, 3) := by decide +kernel
theorem dX2_point_30 : decode cX2_point 30 = .ok (.athrow, 1) := by decide +kernel
theorem dX2_point_31 : decode cX2_point 31 = .ok (.iload_n 2, 1) := by decide +kernel
theorem dX2_point_32 : decode cX2_point 32 = .ok (.invokestatic 80, 3) := by decide +kernel
theorem dX2_point_35 : decode cX2_point 35 = .ok (.ifCond .ne 11, 3) := by decide +kernel
theorem dX2_point_38 : decode cX2_point 38 = .ok (.new 27, 3) := by decide +kernel
theorem dX2_point_41 : decode cX2_point 41 = .ok (.dup, 1) := by decide +kernel
theorem dX2_point_42 : decode cX2_point 42 = .ok (.invokespecial 29, 3) := by decide +kernel
theorem dX2_point_45 : decode cX2_point 45 = .ok (.athrow, 1) := by decide +kernel
theorem dX2_point_46 : decode cX2_point 46 = .ok (.aload_n 0, 1) := by decide +kernel
theorem dX2_point_47 : decode cX2_point 47 = .ok (.invokevirtual 83, 3) := by decide +kernel
theorem dX2_point_50 : decode cX2_point 50 = .ok (.astore_n 3, 1) := by decide +kernel
theorem dX2_point_51 : decode cX2_point 51 = .ok (.aload_n 3, 1) := by decide +kernel
theorem dX2_point_52 : decode cX2_point 52 = .ok (.iconst 2, 1) := by decide +kernel
theorem dX2_point_53 : decode cX2_point 53 = .ok (.iload_n 1, 1) := by decide +kernel
theorem dX2_point_54 : decode cX2_point 54 = .ok (.iadd, 1) := by decide +kernel
theorem dX2_point_55 : decode cX2_point 55 = .ok (.laload, 1) := by decide +kernel
theorem dX2_point_56 : decode cX2_point 56 = .ok (.aload_n 3, 1) := by decide +kernel
theorem dX2_point_57 : decode cX2_point 57 = .ok (.iconst 0, 1) := by decide +kernel
theorem dX2_point_58 : decode cX2_point 58 = .ok (.laload, 1) := by decide +kernel
theorem dX2_point_59 : decode cX2_point 59 = .ok (.iload_n 2, 1) := by decide +kernel
theorem dX2_point_60 : decode cX2_point 60 = .ok (.invokestatic 91, 3) := by decide +kernel
theorem dX2_point_63 : decode cX2_point 63 = .ok (.lreturn, 1) := by decide +kernel
theorem dX2_range_0 : decode cX2_range 0 = .ok (.aload_n 0, 1) := by decide +kernel
theorem dX2_range_1 : decode cX2_range 1 = .ok (.invokevirtual 74, 3) := by decide +kernel
theorem dX2_range_4 : decode cX2_range 4 = .ok (.iconst 1, 1) := by decide +kernel
theorem dX2_range_5 : decode cX2_range 5 = .ok (.if_icmp .ne 11, 3) := by decide +kernel
theorem dX2_range_8 : decode cX2_range 8 = .ok (.new 77, 3) := by decide +kernel
theorem dX2_range_11 : decode cX2_range 11 = .ok (.dup, 1) := by decide +kernel
theorem dX2_range_12 : decode cX2_range 12 = .ok (.invokespecial 79, 3) := by decide +kernel
theorem dX2_range_15 : decode cX2_range 15 = .ok (.athrow, 1) := by decide +kernel
theorem dX2_range_16 : decode cX2_range 16 = .ok (.aload_n 0, 1) := by decide +kernel
theorem dX2_range_17 : decode cX2_range 17 = .ok (.iload_n 1, 1) := by decide +kernel
theorem dX2_range_18 : decode cX2_range 18 = .ok (.invokevirtual 41, 3) := by decide +kernel
theorem dX2_range_21 : decode cX2_range 21 = .ok (.ifCond .ne 11, 3) := by decide +kernel
theorem dX2_range_24 : decode cX2_range 24 = .ok (.new 44, 3) := by decide +kernel
theorem dX2_range_27 : decode cX2_range 27 = .ok (.dup, 1) := by decide +kernel
theorem dX2_range_28 : decode cX2_range 28 = .ok (.invokespecial 46, 3) := by decide +kernel
theorem dX2_range_31 : decode cX2_range 31 = .ok (.athrow, 1) := by decide +kernel
theorem dX2_range_32 : decode cX2_range 32 = .ok (.iload_n 3, 1) := by decide +kernel
theorem dX2_range_33 : decode cX2_range 33 = .ok (.invokestatic 80, 3) := by decide +kernel
theorem dX2_range_36 : decode cX2_range 36 = .ok (.ifCond .ne 11, 3) := by decide +kernel
theorem dX2_range_39 : decode cX2_range 39 = .ok (.new 27, 3) := by decide +kernel
theorem dX2_range_42 : decode cX2_range 42 = .ok (.dup, 1) := by decide +kernel
theorem dX2_range_43 : decode cX2_range 43 = .ok (.invokespecial 29, 3) := by decide +kernel
theorem dX2_range_46 : decode cX2_range 46 = .ok (.athrow, 1) := by decide +kernel
theorem dX2_range_47 : decode cX2_range 47 = .ok (.iload_n 2, 1) := by decide +kernel
theorem dX2_range_48 : decode cX2_range 48 = .ok (.ifCond .eq 19, 3) := by decide +kernel
theorem dX2_range_51 : decode cX2_range 51 = .ok (.aload_n 0, 1) := by decide +kernel
theorem dX2_range_52 : decode cX2_range 52 = .ok (.iload_n 1, 1) := by decide +kernel
theorem dX2_range_53 : decode cX2_range 53 = .ok (.invokevirtual 95, 3) := by decide +kernel
theorem dX2_range_56 : decode cX2_range 56 = .ok (.ifCond .eq 11, 3) := by decide +kernel
theorem dX2_range_59 : decode cX2_range 59 = .ok (.new 98, 3) := by decide +kernel
theorem dX2_range_62 : decode cX2_range 62 = .ok (.dup, 1) := by decide +kernel
theorem dX2_range_63 : decode cX2_range 63 = .ok (.invokespecial 100, 3) := by decide +kernel
theorem dX2_range_66 : decode cX2_range 66 = .ok (.athrow, 1) := by decide +kernel
theorem dX2_range_67 : decode cX2_range 67 = .ok (.aload_n 0, 1) := by decide +kernel
theorem dX2_range_68 : decode cX2_range 68 = .ok (.iload_n 1, 1) := by decide +kernel
theorem dX2_range_69 : decode cX2_range 69 = .ok (.iload_n 2, 1) := by decide +kernel
theorem dX2_range_70 : decode cX2_range 70 = .ok (.invokevirtual 101, 3) := by decide +kernel
theorem dX2_range_73 : decode cX2_range 73 = .ok (.astore 4, 2) := by decide +kernel
theorem dX2_range_75 : decode cX2_range 75 = .ok (.aload 4, 2) := by decide +kernel
theorem dX2_range_77 : decode cX2_range 77 = .ok (.iconst 2, 1) := by decide +kernel
theorem dX2_range_78 : decode cX2_range 78 = .ok (.iload_n 1, 1) := by decide +kernel
theorem dX2_range_79 : decode cX2_range 79 = .ok (.iadd, 1) := by decide +kernel
theorem dX2_range_80 : decode cX2_range 80 = .ok (.laload, 1) := by decide +kernel
theorem dX2_range_81 : decode cX2_range 81 = .ok (.aload 4, 2) := by decide +kernel
theorem dX2_range_83 : decode cX2_range 83 = .ok (.iconst 0, 1) := by decide +kernel
theorem dX2_range_84 : decode cX2_range 84 = .ok (.laload, 1) := by decide +kernel
theorem dX2_range_85 : decode cX2_range 85 = .ok (.iload_n 3, 1) := by decide +kernel
theorem dX2_range_86 : decode cX2_range 86 = .ok (.invokestatic 91, 3) := by decide +kernel
theorem dX2_range_89 : decode cX2_range 89 = .ok (.lreturn, 1) := by decide +kernel
theorem dX2_tight_0 : decode cX2_tight 0 = .ok (.aload_n 0, 1) := by decide +kernel
theorem dX2_tight_1 : decode cX2_tight 1 = .ok (.invokevirtual 74, 3) := by decide +kernel
theorem dX2_tight_4 : decode cX2_tight 4 = .ok (.ifCond .eq 11, 3) := by decide +kernel
theorem dX2_tight_7 : decode cX2_tight 7 = .ok (.new 77, 3) := by decide +kernel
theorem dX2_tight_10 : decode cX2_tight 10 = .ok (.dup, 1) := by decide +kernel
theorem dX2_tight_11 : decode cX2_tight 11 = .ok (.invokespecial 79, 3) := by decide +kernel
theorem dX2_tight_14 : decode cX2_tight 14 = .ok (.athrow, 1) := by decide +kernel
theorem dX2_tight_15 : decode cX2_tight 15 = .ok (.aload_n 0, 1) := by decide +kernel
theorem dX2_tight_16 : decode cX2_tight 16 = .ok (.iload_n 1, 1) := by decide +kernel
theorem dX2_tight_17 : decode cX2_tight 17 = .ok (.invokevirtual 37, 3) := by decide +kernel
theorem dX2_tight_20 : decode cX2_tight 20 = .ok (.ifCond .ne 11, 3) := by decide +kernel
theorem dX2_tight_23 : decode cX2_tight 23 = .ok (.new 44, 3) := by decide +kernel
theorem dX2_tight_26 : decode cX2_tight 26 = .ok (.dup, 1) := by decide +kernel
theorem dX2_tight_27 : decode cX2_tight 27 = .ok (.invokespecial 46, 3) := by decide +kernel
theorem dX2_tight_30 : decode cX2_tight 30 = .ok (.athrow, 1) := by decide +kernel
theorem dX2_tight_31 : decode cX2_tight 31 = .ok (.aload_n 0, 1) := by decide +kernel
theorem dX2_tight_32 : decode cX2_tight 32 = .ok (.iload_n 1, 1) := by decide +kernel
theorem dX2_tight_33 : decode cX2_tight 33 = .ok (.invokevirtual 105, 3) := by decide +kernel
theorem dX2_tight_36 : decode cX2_tight 36 = .ok (.ireturn, 1) := by decide +kernel
theorem dX2_conflict_0 : decode cX2_conflict 0 = .ok (.aload_n 0, 1) := by decide +kernel
theorem dX2_conflict_1 : decode cX2_conflict 1 = .ok (.invokevirtual 74, 3) := by decide +kernel
theorem dX2_conflict_4 : decode cX2_conflict 4 = .ok (.iconst 1, 1) := by decide +kernel
theorem dX2_conflict_5 : decode cX2_conflict 5 = .ok (.if_icmp .eq 11, 3) := by decide +kernel
theorem dX2_conflict_8 : decode cX2_conflict 8 = .ok (.new 77, 3) := by decide +kernel
theorem dX2_conflict_11 : decode cX2_conflict 11 = .ok (.dup, 1) := by decide +kernel
theorem dX2_conflict_12 : decode cX2_conflict 12 = .ok (.invokespecial 79, 3) := by decide +kernel
theorem dX2_conflict_15 : decode cX2_conflict 15 = .ok (.athrow, 1) := by decide +kernel
theorem dX2_conflict_16 : decode cX2_conflict 16 = .ok (.aload_n 0, 1) := by decide +kernel
theorem dX2_conflict_17 : decode cX2_conflict 17 = .ok (.getfield 12, 3) := by decide +kernel
theorem dX2_conflict_20 : decode cX2_conflict 20 = .ok (.invokevirtual 63, 3) := by decide +kernel
theorem dX2_conflict_23 : decode cX2_conflict 23 = .ok (.istore_n 1, 1) := by decide +kernel
theorem dX2_conflict_24 : decode cX2_conflict 24 = .ok (.iconst 0, 1) := by decide +kernel
theorem dX2_conflict_25 : decode cX2_conflict 25 = .ok (.istore_n 2, 1) := by decide +kernel
theorem dX2_conflict_26 : decode cX2_conflict 26 = .ok (.iload_n 2, 1) := by decide +kernel
theorem dX2_conflict_27 : decode cX2_conflict 27 = .ok (.aload_n 0, 1) := by decide +kernel
theorem dX2_conflict_28 : decode cX2_conflict 28 = .ok (.getfield 12, 3) := by decide +kernel
theorem dX2_conflict_31 : decode cX2_conflict 31 = .ok (.getfield 108, 3) := by decide +kernel
theorem dX2_conflict_34 : decode cX2_conflict 34 = .ok (.if_icmp .ge 27, 3) := by decide +kernel
theorem dX2_conflict_37 : decode cX2_conflict 37 = .ok (.iload_n 1, 1) := by decide +kernel
theorem dX2_conflict_38 : decode cX2_conflict 38 = .ok (.iconst 1, 1) := by decide +kernel
theorem dX2_conflict_39 : decode cX2_conflict 39 = .ok (.iload_n 2, 1) := by decide +kernel
theorem dX2_conflict_40 : decode cX2_conflict 40 = .ok (.ishl, 1) := by decide +kernel
theorem dX2_conflict_41 : decode cX2_conflict 41 = .ok (.iconst (-1), 1) := by decide +kernel
theorem dX2_conflict_42 : decode cX2_conflict 42 = .ok (.ixor, 1) := by decide +kernel
theorem dX2_conflict_43 : decode cX2_conflict 43 = .ok (.iand, 1) := by decide +kernel
theorem dX2_conflict_44 : decode cX2_conflict 44 = .ok (.istore_n 3, 1) := by decide +kernel
theorem dX2_conflict_45 : decode cX2_conflict 45 = .ok (.aload_n 0, 1) := by decide +kernel
theorem dX2_conflict_46 : decode cX2_conflict 46 = .ok (.iload_n 3, 1) := by decide +kernel
theorem dX2_conflict_47 : decode cX2_conflict 47 = .ok (.invokevirtual 67, 3) := by decide +kernel
theorem dX2_conflict_50 : decode cX2_conflict 50 = .ok (.ifCond .ne 5, 3) := by decide +kernel
theorem dX2_conflict_53 : decode cX2_conflict 53 = .ok (.iload_n 3, 1) := by decide +kernel
theorem dX2_conflict_54 : decode cX2_conflict 54 = .ok (.istore_n 1, 1) := by decide +kernel
theorem dX2_conflict_55 : decode cX2_conflict 55 = .ok (.iinc 2 1, 3) := by decide +kernel
theorem dX2_conflict_58 : decode cX2_conflict 58 = .ok (.goto (-32), 3) := by decide +kernel
theorem dX2_conflict_61 : decode cX2_conflict 61 = .ok (.iload_n 1, 1) := by decide +kernel
theorem dX2_conflict_62 : decode cX2_conflict 62 = .ok (.ireturn, 1) := by decide +kernel
theorem dX2_corners_0 : decode cX2_corners 0 = .ok (.aload_n 0, 1) := by decide +kernel
theorem dX2_corners_1 : decode cX2_corners 1 = .ok (.invokevirtual 112, 3) := by decide +kernel
theorem dX2_corners_4 : decode cX2_corners 4 = .ok (.ireturn, 1) := by decide +kernel
theorem dX2_corner_0 : decode cX2_corner 0 = .ok (.aload_n 0, 1) := by decide +kernel
theorem dX2_corner_1 : decode cX2_corner 1 = .ok (.invokevirtual 112, 3) := by decide +kernel
theorem dX2_corner_4 : decode cX2_corner 4 = .ok (.istore_n 3, 1) := by decide +kernel
theorem dX2_corner_5 : decode cX2_corner 5 = .ok (.iload_n 1, 1) := by decide +kernel
theorem dX2_corner_6 : decode cX2_corner 6 = .ok (.ifCond .lt 8, 3) := by decide +kernel
theorem dX2_corner_9 : decode cX2_corner 9 = .ok (.iload_n 1, 1) := by decide +kernel
theorem dX2_corner_10 : decode cX2_corner 10 = .ok (.iload_n 3, 1) := by decide +kernel
theorem dX2_corner_11 : decode cX2_corner 11 = .ok (.if_icmp .lt 11, 3) := by decide +kernel
theorem dX2_corner_14 : decode cX2_corner 14 = .ok (.new 44, 3) := by decide +kernel
theorem dX2_corner_17 : decode cX2_corner 17 = .ok (.dup, 1) := by decide +kernel
theorem dX2_corner_18 : decode cX2_corner 18 = .ok (.invokespecial 46, 3) := by decide +kernel
theorem dX2_corner_21 : decode cX2_corner 21 = .ok (.athrow, 1) := by decide +kernel
theorem dX2_corner_22 : decode cX2_corner 22 = .ok (.iload_n 2, 1) := by decide +kernel
theorem dX2_corner_23 : decode cX2_corner 23 = .ok (.ifCond .lt 8, 3) := by decide +kernel
theorem dX2_corner_26 : decode cX2_corner 26 = .ok (.iload_n 2, 1) := by decide +kernel
theorem dX2_corner_27 : decode cX2_corner 27 = .ok (.iconst 3, 1) := by decide +kernel
theorem dX2_corner_28 : decode cX2_corner 28 = .ok (.if_icmp .le 11, 3) := by decide +kernel
theorem dX2_corner_31 : decode cX2_corner 31 = .ok (.new 27, 3) := by decide +kernel
theorem dX2_corner_34 : decode cX2_corner 34 = .ok (.dup, 1) := by decide +kernel
theorem dX2_corner_35 : decode cX2_corner 35 = .ok (.invokespecial 29, 3) := by decide +kernel
theorem dX2_corner_38 : decode cX2_corner 38 = .ok (.athrow, 1) := by decide +kernel
theorem dX2_corner_39 : decode cX2_corner 39 = .ok (.aload_n 0, 1) := by decide +kernel
theorem dX2_corner_40 : decode cX2_corner 40 = .ok (.getfield 19, 3) := by decide +kernel
theorem dX2_corner_43 : decode cX2_corner 43 = .ok (.getfield 115, 3) := by decide +kernel
theorem dX2_corner_46 : decode cX2_corner 46 = .ok (.aload_n 0, 1) := by decide +kernel
theorem dX2_corner_47 : decode cX2_corner 47 = .ok (.getfield 23, 3) := by decide +kernel
theorem dX2_corner_50 : decode cX2_corner 50 = .ok (.iload_n 1, 1) := by decide +kernel
theorem dX2_corner_51 : decode cX2_corner 51 = .ok (.iaload, 1) := by decide +kernel
theorem dX2_corner_52 : decode cX2_corner 52 = .ok (.aaload, 1) := by decide +kernel
theorem dX2_corner_53 : decode cX2_corner 53 = .ok (.astore 4, 2) := by decide +kernel
theorem dX2_corner_55 : decode cX2_corner 55 = .ok (.aload 4, 2) := by decide +kernel
theorem dX2_corner_57 : decode cX2_corner 57 = .ok (.iconst 0, 1) := by decide +kernel
theorem dX2_corner_58 : decode cX2_corner 58 = .ok (.laload, 1) := by decide +kernel
theorem dX2_corner_59 : decode cX2_corner 59 = .ok (.aload 4, 2) := by decide +kernel
theorem dX2_corner_61 : decode cX2_corner 61 = .ok (.iconst 1, 1) := by decide +kernel
theorem dX2_corner_62 : decode cX2_corner 62 = .ok (.laload, 1) := by decide +kernel
theorem dX2_corner_63 : decode cX2_corner 63 = .ok (.ladd, 1) := by decide +kernel
theorem dX2_corner_64 : decode cX2_corner 64 = .ok (.lstore 5, 2) := by decide +kernel
theorem dX2_corner_66 : decode cX2_corner 66 = .ok (.iload_n 2, 1) := by decide +kernel
theorem dX2_corner_67 : decode cX2_corner 67 = .ok (.iconst 2, 1) := by decide +kernel
theorem dX2_corner_68 : decode cX2_corner 68 = .ok (.if_icmp .ge 14, 3) := by decide +kernel
theorem dX2_corner_71 : decode cX2_corner 71 = .ok (.aload 4, 2) := by decide +kernel
theorem dX2_corner_73 : decode cX2_corner 73 = .ok (.iconst 1, 1) := by decide +kernel
theorem dX2_corner_74 : decode cX2_corner 74 = .ok (.laload, 1) := by decide +kernel
theorem dX2_corner_75 : decode cX2_corner 75 = .ok (.lload 5, 2) := by decide +kernel
theorem dX2_corner_77 : decode cX2_corner 77 = .ok (.iload_n 2, 1) := by decide +kernel
theorem dX2_corner_78 : decode cX2_corner 78 = .ok (.invokestatic 91, 3) := by decide +kernel
theorem dX2_corner_81 : decode cX2_corner 81 = .ok (.lreturn, 1) := by decide +kernel
theorem dX2_corner_82 : decode cX2_corner 82 = .ok (.aload_n 0, 1) := by decide +kernel
theorem dX2_corner_83 : decode cX2_corner 83 = .ok (.getfield 12, 3) := by decide +kernel
theorem dX2_corner_86 : decode cX2_corner 86 = .ok (.aload 4, 2) := by decide +kernel
theorem dX2_corner_88 : decode cX2_corner 88 = .ok (.invokevirtual 87, 3) := by decide +kernel
theorem dX2_corner_91 : decode cX2_corner 91 = .ok (.lload 5, 2) := by decide +kernel
theorem dX2_corner_93 : decode cX2_corner 93 = .ok (.iload_n 2, 1) := by decide +kernel
theorem dX2_corner_94 : decode cX2_corner 94 = .ok (.iconst 2, 1) := by decide +kernel
theorem dX2_corner_95 : decode cX2_corner 95 = .ok (.isub, 1) := by decide +kernel
theorem dX2_corner_96 : decode cX2_corner 96 = .ok (.invokestatic 91, 3) := by decide +kernel
theorem dX2_corner_99 : decode cX2_corner 99 = .ok (.lreturn, 1) := by decide +kernel
theorem dX2_hasRow_0 : decode cX2_hasRow 0 = .ok (.iload_n 1, 1) := by decide +kernel
theorem dX2_hasRow_1 : decode cX2_hasRow 1 = .ok (.ifCond .lt 18, 3) := by decide +kernel
theorem dX2_hasRow_4 : decode cX2_hasRow 4 = .ok (.iload_n 1, 1) := by decide +kernel
theorem dX2_hasRow_5 : decode cX2_hasRow 5 = .ok (.aload_n 0, 1) := by decide +kernel
theorem dX2_hasRow_6 : decode cX2_hasRow 6 = .ok (.getfield 12, 3) := by decide +kernel
theorem dX2_hasRow_9 : decode cX2_hasRow 9 = .ok (.getfield 108, 3) := by decide +kernel
theorem dX2_hasRow_12 : decode cX2_hasRow 12 = .ok (.if_icmp .ge 7, 3) := by decide +kernel
theorem dX2_hasRow_15 : decode cX2_hasRow 15 = .ok (.iconst 1, 1) := by decide +kernel
theorem dX2_hasRow_16 : decode cX2_hasRow 16 = .ok (.goto 4, 3) := by decide +kernel
theorem dX2_hasRow_19 : decode cX2_hasRow 19 = .ok (.iconst 0, 1) := by decide +kernel
theorem dX2_hasRow_20 : decode cX2_hasRow 20 = .ok (.ireturn, 1) := by decide +kernel
theorem dX2_hasVariable_0 : decode cX2_hasVariable 0 = .ok (.iload_n 1, 1) := by decide +kernel
theorem dX2_hasVariable_1 : decode cX2_hasVariable 1 = .ok (.ifCond .lt 18, 3) := by decide +kernel
theorem dX2_hasVariable_4 : decode cX2_hasVariable 4 = .ok (.iload_n 1, 1) := by decide +kernel
theorem dX2_hasVariable_5 : decode cX2_hasVariable 5 = .ok (.aload_n 0, 1) := by decide +kernel
theorem dX2_hasVariable_6 : decode cX2_hasVariable 6 = .ok (.getfield 12, 3) := by decide +kernel
theorem dX2_hasVariable_9 : decode cX2_hasVariable 9 = .ok (.getfield 119, 3) := by decide +kernel
theorem dX2_hasVariable_12 : decode cX2_hasVariable 12 = .ok (.if_icmp .ge 7, 3) := by decide +kernel
theorem dX2_hasVariable_15 : decode cX2_hasVariable 15 = .ok (.iconst 1, 1) := by decide +kernel
theorem dX2_hasVariable_16 : decode cX2_hasVariable 16 = .ok (.goto 4, 3) := by decide +kernel
theorem dX2_hasVariable_19 : decode cX2_hasVariable 19 = .ok (.iconst 0, 1) := by decide +kernel
theorem dX2_hasVariable_20 : decode cX2_hasVariable 20 = .ok (.ireturn, 1) := by decide +kernel
theorem dX2_isFactor_0 : decode cX2_isFactor 0 = .ok (.iload_n 0, 1) := by decide +kernel
theorem dX2_isFactor_1 : decode cX2_isFactor 1 = .ok (.bipush (-9), 2) := by decide +kernel
theorem dX2_isFactor_3 : decode cX2_isFactor 3 = .ok (.if_icmp .lt 13, 3) := by decide +kernel
theorem dX2_isFactor_6 : decode cX2_isFactor 6 = .ok (.iload_n 0, 1) := by decide +kernel
theorem dX2_isFactor_7 : decode cX2_isFactor 7 = .ok (.bipush 9, 2) := by decide +kernel
theorem dX2_isFactor_9 : decode cX2_isFactor 9 = .ok (.if_icmp .gt 7, 3) := by decide +kernel
theorem dX2_isFactor_12 : decode cX2_isFactor 12 = .ok (.iconst 1, 1) := by decide +kernel
theorem dX2_isFactor_13 : decode cX2_isFactor 13 = .ok (.goto 4, 3) := by decide +kernel
theorem dX2_isFactor_16 : decode cX2_isFactor 16 = .ok (.iconst 0, 1) := by decide +kernel
theorem dX2_isFactor_17 : decode cX2_isFactor 17 = .ok (.ireturn, 1) := by decide +kernel
theorem dX2_isPart_0 : decode cX2_isPart 0 = .ok (.iload_n 0, 1) := by decide +kernel
theorem dX2_isPart_1 : decode cX2_isPart 1 = .ok (.ifCond .eq 8, 3) := by decide +kernel
theorem dX2_isPart_4 : decode cX2_isPart 4 = .ok (.iload_n 0, 1) := by decide +kernel
theorem dX2_isPart_5 : decode cX2_isPart 5 = .ok (.iconst 1, 1) := by decide +kernel
theorem dX2_isPart_6 : decode cX2_isPart 6 = .ok (.if_icmp .ne 7, 3) := by decide +kernel
theorem dX2_isPart_9 : decode cX2_isPart 9 = .ok (.iconst 1, 1) := by decide +kernel
theorem dX2_isPart_10 : decode cX2_isPart 10 = .ok (.goto 4, 3) := by decide +kernel
theorem dX2_isPart_13 : decode cX2_isPart 13 = .ok (.iconst 0, 1) := by decide +kernel
theorem dX2_isPart_14 : decode cX2_isPart 14 = .ok (.ireturn, 1) := by decide +kernel
theorem dX2_isFeasible_0 : decode cX2_isFeasible 0 = .ok (.aload_n 0, 1) := by decide +kernel
theorem dX2_isFeasible_1 : decode cX2_isFeasible 1 = .ok (.getfield 19, 3) := by decide +kernel
theorem dX2_isFeasible_4 : decode cX2_isFeasible 4 = .ok (.aload_n 0, 1) := by decide +kernel
theorem dX2_isFeasible_5 : decode cX2_isFeasible 5 = .ok (.getfield 12, 3) := by decide +kernel
theorem dX2_isFeasible_8 : decode cX2_isFeasible 8 = .ok (.iload_n 1, 1) := by decide +kernel
theorem dX2_isFeasible_9 : decode cX2_isFeasible 9 = .ok (.invokevirtual 122, 3) := by decide +kernel
theorem dX2_isFeasible_12 : decode cX2_isFeasible 12 = .ok (.iconst 0, 1) := by decide +kernel
theorem dX2_isFeasible_13 : decode cX2_isFeasible 13 = .ok (.istore_n 2, 1) := by decide +kernel
theorem dX2_isFeasible_14 : decode cX2_isFeasible 14 = .ok (.iload_n 2, 1) := by decide +kernel
theorem dX2_isFeasible_15 : decode cX2_isFeasible 15 = .ok (.aload_n 0, 1) := by decide +kernel
theorem dX2_isFeasible_16 : decode cX2_isFeasible 16 = .ok (.getfield 19, 3) := by decide +kernel
theorem dX2_isFeasible_19 : decode cX2_isFeasible 19 = .ok (.getfield 126, 3) := by decide +kernel
theorem dX2_isFeasible_22 : decode cX2_isFeasible 22 = .ok (.if_icmp .ge 26, 3) := by decide +kernel
theorem dX2_isFeasible_25 : decode cX2_isFeasible 25 = .ok (.aload_n 0, 1) := by decide +kernel
theorem dX2_isFeasible_26 : decode cX2_isFeasible 26 = .ok (.getfield 19, 3) := by decide +kernel
theorem dX2_isFeasible_29 : decode cX2_isFeasible 29 = .ok (.getfield 115, 3) := by decide +kernel
theorem dX2_isFeasible_32 : decode cX2_isFeasible 32 = .ok (.iload_n 2, 1) := by decide +kernel
theorem dX2_isFeasible_33 : decode cX2_isFeasible 33 = .ok (.aaload, 1) := by decide +kernel
theorem dX2_isFeasible_34 : decode cX2_isFeasible 34 = .ok (.invokestatic 129, 3) := by decide +kernel
theorem dX2_isFeasible_37 : decode cX2_isFeasible 37 = .ok (.ifCond .eq 5, 3) := by decide +kernel
theorem dX2_isFeasible_40 : decode cX2_isFeasible 40 = .ok (.iconst 1, 1) := by decide +kernel
theorem dX2_isFeasible_41 : decode cX2_isFeasible 41 = .ok (.ireturn, 1) := by decide +kernel
theorem dX2_isFeasible_42 : decode cX2_isFeasible 42 = .ok (.iinc 2 1, 3) := by decide +kernel
theorem dX2_isFeasible_45 : decode cX2_isFeasible 45 = .ok (.goto (-31), 3) := by decide +kernel
theorem dX2_isFeasible_48 : decode cX2_isFeasible 48 = .ok (.iconst 0, 1) := by decide +kernel
theorem dX2_isFeasible_49 : decode cX2_isFeasible 49 = .ok (.ireturn, 1) := by decide +kernel
theorem dX2_canRise_0 : decode cX2_canRise 0 = .ok (.iconst 0, 1) := by decide +kernel
theorem dX2_canRise_1 : decode cX2_canRise 1 = .ok (.istore_n 1, 1) := by decide +kernel
theorem dX2_canRise_2 : decode cX2_canRise 2 = .ok (.iload_n 1, 1) := by decide +kernel
theorem dX2_canRise_3 : decode cX2_canRise 3 = .ok (.aload_n 0, 1) := by decide +kernel
theorem dX2_canRise_4 : decode cX2_canRise 4 = .ok (.getfield 19, 3) := by decide +kernel
theorem dX2_canRise_7 : decode cX2_canRise 7 = .ok (.getfield 126, 3) := by decide +kernel
theorem dX2_canRise_10 : decode cX2_canRise 10 = .ok (.if_icmp .ge 47, 3) := by decide +kernel
theorem dX2_canRise_13 : decode cX2_canRise 13 = .ok (.aload_n 0, 1) := by decide +kernel
theorem dX2_canRise_14 : decode cX2_canRise 14 = .ok (.getfield 19, 3) := by decide +kernel
theorem dX2_canRise_17 : decode cX2_canRise 17 = .ok (.getfield 115, 3) := by decide +kernel
theorem dX2_canRise_20 : decode cX2_canRise 20 = .ok (.iload_n 1, 1) := by decide +kernel
theorem dX2_canRise_21 : decode cX2_canRise 21 = .ok (.aaload, 1) := by decide +kernel
theorem dX2_canRise_22 : decode cX2_canRise 22 = .ok (.invokestatic 133, 3) := by decide +kernel
theorem dX2_canRise_25 : decode cX2_canRise 25 = .ok (.ifCond .eq 26, 3) := by decide +kernel
theorem dX2_canRise_28 : decode cX2_canRise 28 = .ok (.aload_n 0, 1) := by decide +kernel
theorem dX2_canRise_29 : decode cX2_canRise 29 = .ok (.getfield 12, 3) := by decide +kernel
theorem dX2_canRise_32 : decode cX2_canRise 32 = .ok (.aload_n 0, 1) := by decide +kernel
theorem dX2_canRise_33 : decode cX2_canRise 33 = .ok (.getfield 19, 3) := by decide +kernel
theorem dX2_canRise_36 : decode cX2_canRise 36 = .ok (.getfield 115, 3) := by decide +kernel
theorem dX2_canRise_39 : decode cX2_canRise 39 = .ok (.iload_n 1, 1) := by decide +kernel
theorem dX2_canRise_40 : decode cX2_canRise 40 = .ok (.aaload, 1) := by decide +kernel
theorem dX2_canRise_41 : decode cX2_canRise 41 = .ok (.invokevirtual 87, 3) := by decide +kernel
theorem dX2_canRise_44 : decode cX2_canRise 44 = .ok (.lconst 0, 1) := by decide +kernel
theorem dX2_canRise_45 : decode cX2_canRise 45 = .ok (.lcmp, 1) := by decide +kernel
theorem dX2_canRise_46 : decode cX2_canRise 46 = .ok (.ifCond .le 5, 3) := by decide +kernel
theorem dX2_canRise_49 : decode cX2_canRise 49 = .ok (.iconst 1, 1) := by decide +kernel
theorem dX2_canRise_50 : decode cX2_canRise 50 = .ok (.ireturn, 1) := by decide +kernel
theorem dX2_canRise_51 : decode cX2_canRise 51 = .ok (.iinc 1 1, 3) := by decide +kernel
theorem dX2_canRise_54 : decode cX2_canRise 54 = .ok (.goto (-52), 3) := by decide +kernel
theorem dX2_canRise_57 : decode cX2_canRise 57 = .ok (.iconst 0, 1) := by decide +kernel
theorem dX2_canRise_58 : decode cX2_canRise 58 = .ok (.ireturn, 1) := by decide +kernel
theorem dX2_canGrow_0 : decode cX2_canGrow 0 = .ok (.iconst 0, 1) := by decide +kernel
theorem dX2_canGrow_1 : decode cX2_canGrow 1 = .ok (.istore_n 2, 1) := by decide +kernel
theorem dX2_canGrow_2 : decode cX2_canGrow 2 = .ok (.iload_n 2, 1) := by decide +kernel
theorem dX2_canGrow_3 : decode cX2_canGrow 3 = .ok (.aload_n 0, 1) := by decide +kernel
theorem dX2_canGrow_4 : decode cX2_canGrow 4 = .ok (.getfield 19, 3) := by decide +kernel
theorem dX2_canGrow_7 : decode cX2_canGrow 7 = .ok (.getfield 126, 3) := by decide +kernel
theorem dX2_canGrow_10 : decode cX2_canGrow 10 = .ok (.if_icmp .ge 44, 3) := by decide +kernel
theorem dX2_canGrow_13 : decode cX2_canGrow 13 = .ok (.aload_n 0, 1) := by decide +kernel
theorem dX2_canGrow_14 : decode cX2_canGrow 14 = .ok (.getfield 19, 3) := by decide +kernel
theorem dX2_canGrow_17 : decode cX2_canGrow 17 = .ok (.getfield 115, 3) := by decide +kernel
theorem dX2_canGrow_20 : decode cX2_canGrow 20 = .ok (.iload_n 2, 1) := by decide +kernel
theorem dX2_canGrow_21 : decode cX2_canGrow 21 = .ok (.aaload, 1) := by decide +kernel
theorem dX2_canGrow_22 : decode cX2_canGrow 22 = .ok (.invokestatic 133, 3) := by decide +kernel
theorem dX2_canGrow_25 : decode cX2_canGrow 25 = .ok (.ifCond .eq 23, 3) := by decide +kernel
theorem dX2_canGrow_28 : decode cX2_canGrow 28 = .ok (.aload_n 0, 1) := by decide +kernel
theorem dX2_canGrow_29 : decode cX2_canGrow 29 = .ok (.getfield 19, 3) := by decide +kernel
theorem dX2_canGrow_32 : decode cX2_canGrow 32 = .ok (.getfield 115, 3) := by decide +kernel
theorem dX2_canGrow_35 : decode cX2_canGrow 35 = .ok (.iload_n 2, 1) := by decide +kernel
theorem dX2_canGrow_36 : decode cX2_canGrow 36 = .ok (.aaload, 1) := by decide +kernel
theorem dX2_canGrow_37 : decode cX2_canGrow 37 = .ok (.iconst 2, 1) := by decide +kernel
theorem dX2_canGrow_38 : decode cX2_canGrow 38 = .ok (.iload_n 1, 1) := by decide +kernel
theorem dX2_canGrow_39 : decode cX2_canGrow 39 = .ok (.iadd, 1) := by decide +kernel
theorem dX2_canGrow_40 : decode cX2_canGrow 40 = .ok (.laload, 1) := by decide +kernel
theorem dX2_canGrow_41 : decode cX2_canGrow 41 = .ok (.lconst 0, 1) := by decide +kernel
theorem dX2_canGrow_42 : decode cX2_canGrow 42 = .ok (.lcmp, 1) := by decide +kernel
theorem dX2_canGrow_43 : decode cX2_canGrow 43 = .ok (.ifCond .le 5, 3) := by decide +kernel
theorem dX2_canGrow_46 : decode cX2_canGrow 46 = .ok (.iconst 1, 1) := by decide +kernel
theorem dX2_canGrow_47 : decode cX2_canGrow 47 = .ok (.ireturn, 1) := by decide +kernel
theorem dX2_canGrow_48 : decode cX2_canGrow 48 = .ok (.iinc 2 1, 3) := by decide +kernel
theorem dX2_canGrow_51 : decode cX2_canGrow 51 = .ok (.goto (-49), 3) := by decide +kernel
theorem dX2_canGrow_54 : decode cX2_canGrow 54 = .ok (.iconst 0, 1) := by decide +kernel
theorem dX2_canGrow_55 : decode cX2_canGrow 55 = .ok (.ireturn, 1) := by decide +kernel
theorem dX2_isPoint_0 : decode cX2_isPoint 0 = .ok (.aload_n 0, 1) := by decide +kernel
theorem dX2_isPoint_1 : decode cX2_isPoint 1 = .ok (.iconst 0, 1) := by decide +kernel
theorem dX2_isPoint_2 : decode cX2_isPoint 2 = .ok (.laload, 1) := by decide +kernel
theorem dX2_isPoint_3 : decode cX2_isPoint 3 = .ok (.lconst 0, 1) := by decide +kernel
theorem dX2_isPoint_4 : decode cX2_isPoint 4 = .ok (.lcmp, 1) := by decide +kernel
theorem dX2_isPoint_5 : decode cX2_isPoint 5 = .ok (.ifCond .le 15, 3) := by decide +kernel
theorem dX2_isPoint_8 : decode cX2_isPoint 8 = .ok (.aload_n 0, 1) := by decide +kernel
theorem dX2_isPoint_9 : decode cX2_isPoint 9 = .ok (.iconst 1, 1) := by decide +kernel
theorem dX2_isPoint_10 : decode cX2_isPoint 10 = .ok (.laload, 1) := by decide +kernel
theorem dX2_isPoint_11 : decode cX2_isPoint 11 = .ok (.lconst 0, 1) := by decide +kernel
theorem dX2_isPoint_12 : decode cX2_isPoint 12 = .ok (.lcmp, 1) := by decide +kernel
theorem dX2_isPoint_13 : decode cX2_isPoint 13 = .ok (.ifCond .ne 7, 3) := by decide +kernel
theorem dX2_isPoint_16 : decode cX2_isPoint 16 = .ok (.iconst 1, 1) := by decide +kernel
theorem dX2_isPoint_17 : decode cX2_isPoint 17 = .ok (.goto 4, 3) := by decide +kernel
theorem dX2_isPoint_20 : decode cX2_isPoint 20 = .ok (.iconst 0, 1) := by decide +kernel
theorem dX2_isPoint_21 : decode cX2_isPoint 21 = .ok (.ireturn, 1) := by decide +kernel
theorem dX2_isDirection_0 : decode cX2_isDirection 0 = .ok (.aload_n 0, 1) := by decide +kernel
theorem dX2_isDirection_1 : decode cX2_isDirection 1 = .ok (.iconst 0, 1) := by decide +kernel
theorem dX2_isDirection_2 : decode cX2_isDirection 2 = .ok (.laload, 1) := by decide +kernel
theorem dX2_isDirection_3 : decode cX2_isDirection 3 = .ok (.lconst 0, 1) := by decide +kernel
theorem dX2_isDirection_4 : decode cX2_isDirection 4 = .ok (.lcmp, 1) := by decide +kernel
theorem dX2_isDirection_5 : decode cX2_isDirection 5 = .ok (.ifCond .ne 15, 3) := by decide +kernel
theorem dX2_isDirection_8 : decode cX2_isDirection 8 = .ok (.aload_n 0, 1) := by decide +kernel
theorem dX2_isDirection_9 : decode cX2_isDirection 9 = .ok (.iconst 1, 1) := by decide +kernel
theorem dX2_isDirection_10 : decode cX2_isDirection 10 = .ok (.laload, 1) := by decide +kernel
theorem dX2_isDirection_11 : decode cX2_isDirection 11 = .ok (.lconst 0, 1) := by decide +kernel
theorem dX2_isDirection_12 : decode cX2_isDirection 12 = .ok (.lcmp, 1) := by decide +kernel
theorem dX2_isDirection_13 : decode cX2_isDirection 13 = .ok (.ifCond .ne 7, 3) := by decide +kernel
theorem dX2_isDirection_16 : decode cX2_isDirection 16 = .ok (.iconst 1, 1) := by decide +kernel
theorem dX2_isDirection_17 : decode cX2_isDirection 17 = .ok (.goto 4, 3) := by decide +kernel
theorem dX2_isDirection_20 : decode cX2_isDirection 20 = .ok (.iconst 0, 1) := by decide +kernel
theorem dX2_isDirection_21 : decode cX2_isDirection 21 = .ok (.ireturn, 1) := by decide +kernel
theorem dX2_bestRay_0 : decode cX2_bestRay 0 = .ok (.aload_n 0, 1) := by decide +kernel
theorem dX2_bestRay_1 : decode cX2_bestRay 1 = .ok (.getfield 19, 3) := by decide +kernel
theorem dX2_bestRay_4 : decode cX2_bestRay 4 = .ok (.getfield 115, 3) := by decide +kernel
theorem dX2_bestRay_7 : decode cX2_bestRay 7 = .ok (.iconst 0, 1) := by decide +kernel
theorem dX2_bestRay_8 : decode cX2_bestRay 8 = .ok (.aaload, 1) := by decide +kernel
theorem dX2_bestRay_9 : decode cX2_bestRay 9 = .ok (.astore_n 1, 1) := by decide +kernel
theorem dX2_bestRay_10 : decode cX2_bestRay 10 = .ok (.iconst 1, 1) := by decide +kernel
theorem dX2_bestRay_11 : decode cX2_bestRay 11 = .ok (.istore_n 2, 1) := by decide +kernel
theorem dX2_bestRay_12 : decode cX2_bestRay 12 = .ok (.iload_n 2, 1) := by decide +kernel
theorem dX2_bestRay_13 : decode cX2_bestRay 13 = .ok (.aload_n 0, 1) := by decide +kernel
theorem dX2_bestRay_14 : decode cX2_bestRay 14 = .ok (.getfield 19, 3) := by decide +kernel
theorem dX2_bestRay_17 : decode cX2_bestRay 17 = .ok (.getfield 126, 3) := by decide +kernel
theorem dX2_bestRay_20 : decode cX2_bestRay 20 = .ok (.if_icmp .ge 44, 3) := by decide +kernel
theorem dX2_bestRay_23 : decode cX2_bestRay 23 = .ok (.aload_n 0, 1) := by decide +kernel
theorem dX2_bestRay_24 : decode cX2_bestRay 24 = .ok (.getfield 19, 3) := by decide +kernel
theorem dX2_bestRay_27 : decode cX2_bestRay 27 = .ok (.getfield 115, 3) := by decide +kernel
theorem dX2_bestRay_30 : decode cX2_bestRay 30 = .ok (.iload_n 2, 1) := by decide +kernel
theorem dX2_bestRay_31 : decode cX2_bestRay 31 = .ok (.aaload, 1) := by decide +kernel
theorem dX2_bestRay_32 : decode cX2_bestRay 32 = .ok (.astore_n 3, 1) := by decide +kernel
theorem dX2_bestRay_33 : decode cX2_bestRay 33 = .ok (.aload_n 3, 1) := by decide +kernel
theorem dX2_bestRay_34 : decode cX2_bestRay 34 = .ok (.invokestatic 129, 3) := by decide +kernel
theorem dX2_bestRay_37 : decode cX2_bestRay 37 = .ok (.ifCond .eq 21, 3) := by decide +kernel
theorem dX2_bestRay_40 : decode cX2_bestRay 40 = .ok (.aload_n 1, 1) := by decide +kernel
theorem dX2_bestRay_41 : decode cX2_bestRay 41 = .ok (.invokestatic 129, 3) := by decide +kernel
theorem dX2_bestRay_44 : decode cX2_bestRay 44 = .ok (.ifCond .eq 12, 3) := by decide +kernel
theorem dX2_bestRay_47 : decode cX2_bestRay 47 = .ok (.aload_n 0, 1) := by decide +kernel
theorem dX2_bestRay_48 : decode cX2_bestRay 48 = .ok (.aload_n 3, 1) := by decide +kernel
theorem dX2_bestRay_49 : decode cX2_bestRay 49 = .ok (.aload_n 1, 1) := by decide +kernel
theorem dX2_bestRay_50 : decode cX2_bestRay 50 = .ok (.invokevirtual 136, 3) := by decide +kernel
theorem dX2_bestRay_53 : decode cX2_bestRay 53 = .ok (.ifCond .eq 5, 3) := by decide +kernel
theorem dX2_bestRay_56 : decode cX2_bestRay 56 = .ok (.aload_n 3, 1) := by decide +kernel
theorem dX2_bestRay_57 : decode cX2_bestRay 57 = .ok (.astore_n 1, 1) := by decide +kernel
theorem dX2_bestRay_58 : decode cX2_bestRay 58 = .ok (.iinc 2 1, 3) := by decide +kernel
theorem dX2_bestRay_61 : decode cX2_bestRay 61 = .ok (.goto (-49), 3) := by decide +kernel
theorem dX2_bestRay_64 : decode cX2_bestRay 64 = .ok (.aload_n 1, 1) := by decide +kernel
theorem dX2_bestRay_65 : decode cX2_bestRay 65 = .ok (.areturn, 1) := by decide +kernel
theorem dX2_isBetter_0 : decode cX2_isBetter 0 = .ok (.aload_n 0, 1) := by decide +kernel
theorem dX2_isBetter_1 : decode cX2_isBetter 1 = .ok (.getfield 12, 3) := by decide +kernel
theorem dX2_isBetter_4 : decode cX2_isBetter 4 = .ok (.aload_n 1, 1) := by decide +kernel
theorem dX2_isBetter_5 : decode cX2_isBetter 5 = .ok (.invokevirtual 87, 3) := by decide +kernel
theorem dX2_isBetter_8 : decode cX2_isBetter 8 = .ok (.aload_n 2, 1) := by decide +kernel
theorem dX2_isBetter_9 : decode cX2_isBetter 9 = .ok (.iconst 0, 1) := by decide +kernel
theorem dX2_isBetter_10 : decode cX2_isBetter 10 = .ok (.laload, 1) := by decide +kernel
theorem dX2_isBetter_11 : decode cX2_isBetter 11 = .ok (.lmul, 1) := by decide +kernel
theorem dX2_isBetter_12 : decode cX2_isBetter 12 = .ok (.aload_n 0, 1) := by decide +kernel
theorem dX2_isBetter_13 : decode cX2_isBetter 13 = .ok (.getfield 12, 3) := by decide +kernel
theorem dX2_isBetter_16 : decode cX2_isBetter 16 = .ok (.aload_n 2, 1) := by decide +kernel
theorem dX2_isBetter_17 : decode cX2_isBetter 17 = .ok (.invokevirtual 87, 3) := by decide +kernel
theorem dX2_isBetter_20 : decode cX2_isBetter 20 = .ok (.aload_n 1, 1) := by decide +kernel
theorem dX2_isBetter_21 : decode cX2_isBetter 21 = .ok (.iconst 0, 1) := by decide +kernel
theorem dX2_isBetter_22 : decode cX2_isBetter 22 = .ok (.laload, 1) := by decide +kernel
theorem dX2_isBetter_23 : decode cX2_isBetter 23 = .ok (.lmul, 1) := by decide +kernel
theorem dX2_isBetter_24 : decode cX2_isBetter 24 = .ok (.invokestatic 140, 3) := by decide +kernel
theorem dX2_isBetter_27 : decode cX2_isBetter 27 = .ok (.istore_n 3, 1) := by decide +kernel
theorem dX2_isBetter_28 : decode cX2_isBetter 28 = .ok (.iload_n 3, 1) := by decide +kernel
theorem dX2_isBetter_29 : decode cX2_isBetter 29 = .ok (.ifCond .eq 13, 3) := by decide +kernel
theorem dX2_isBetter_32 : decode cX2_isBetter 32 = .ok (.iload_n 3, 1) := by decide +kernel
theorem dX2_isBetter_33 : decode cX2_isBetter 33 = .ok (.ifCond .le 7, 3) := by decide +kernel
theorem dX2_isBetter_36 : decode cX2_isBetter 36 = .ok (.iconst 1, 1) := by decide +kernel
theorem dX2_isBetter_37 : decode cX2_isBetter 37 = .ok (.goto 4, 3) := by decide +kernel
theorem dX2_isBetter_40 : decode cX2_isBetter 40 = .ok (.iconst 0, 1) := by decide +kernel
theorem dX2_isBetter_41 : decode cX2_isBetter 41 = .ok (.ireturn, 1) := by decide +kernel
theorem dX2_isBetter_42 : decode cX2_isBetter 42 = .ok (.iconst 2, 1) := by decide +kernel
theorem dX2_isBetter_43 : decode cX2_isBetter 43 = .ok (.istore 4, 2) := by decide +kernel
theorem dX2_isBetter_45 : decode cX2_isBetter 45 = .ok (.iload 4, 2) := by decide +kernel
theorem dX2_isBetter_47 : decode cX2_isBetter 47 = .ok (.aload_n 0, 1) := by decide +kernel
theorem dX2_isBetter_48 : decode cX2_isBetter 48 = .ok (.getfield 12, 3) := by decide +kernel
theorem dX2_isBetter_51 : decode cX2_isBetter 51 = .ok (.invokevirtual 146, 3) := by decide +kernel
theorem dX2_isBetter_54 : decode cX2_isBetter 54 = .ok (.if_icmp .ge 43, 3) := by decide +kernel
theorem dX2_isBetter_57 : decode cX2_isBetter 57 = .ok (.aload_n 1, 1) := by decide +kernel
theorem dX2_isBetter_58 : decode cX2_isBetter 58 = .ok (.iload 4, 2) := by decide +kernel
theorem dX2_isBetter_60 : decode cX2_isBetter 60 = .ok (.laload, 1) := by decide +kernel
theorem dX2_isBetter_61 : decode cX2_isBetter 61 = .ok (.aload_n 2, 1) := by decide +kernel
theorem dX2_isBetter_62 : decode cX2_isBetter 62 = .ok (.iconst 0, 1) := by decide +kernel
theorem dX2_isBetter_63 : decode cX2_isBetter 63 = .ok (.laload, 1) := by decide +kernel
theorem dX2_isBetter_64 : decode cX2_isBetter 64 = .ok (.lmul, 1) := by decide +kernel
theorem dX2_isBetter_65 : decode cX2_isBetter 65 = .ok (.aload_n 2, 1) := by decide +kernel
theorem dX2_isBetter_66 : decode cX2_isBetter 66 = .ok (.iload 4, 2) := by decide +kernel
theorem dX2_isBetter_68 : decode cX2_isBetter 68 = .ok (.laload, 1) := by decide +kernel
theorem dX2_isBetter_69 : decode cX2_isBetter 69 = .ok (.aload_n 1, 1) := by decide +kernel
theorem dX2_isBetter_70 : decode cX2_isBetter 70 = .ok (.iconst 0, 1) := by decide +kernel
theorem dX2_isBetter_71 : decode cX2_isBetter 71 = .ok (.laload, 1) := by decide +kernel
theorem dX2_isBetter_72 : decode cX2_isBetter 72 = .ok (.lmul, 1) := by decide +kernel
theorem dX2_isBetter_73 : decode cX2_isBetter 73 = .ok (.invokestatic 140, 3) := by decide +kernel
theorem dX2_isBetter_76 : decode cX2_isBetter 76 = .ok (.istore_n 3, 1) := by decide +kernel
theorem dX2_isBetter_77 : decode cX2_isBetter 77 = .ok (.iload_n 3, 1) := by decide +kernel
theorem dX2_isBetter_78 : decode cX2_isBetter 78 = .ok (.ifCond .eq 13, 3) := by decide +kernel
theorem dX2_isBetter_81 : decode cX2_isBetter 81 = .ok (.iload_n 3, 1) := by decide +kernel
theorem dX2_isBetter_82 : decode cX2_isBetter 82 = .ok (.ifCond .ge 7, 3) := by decide +kernel
theorem dX2_isBetter_85 : decode cX2_isBetter 85 = .ok (.iconst 1, 1) := by decide +kernel
theorem dX2_isBetter_86 : decode cX2_isBetter 86 = .ok (.goto 4, 3) := by decide +kernel
theorem dX2_isBetter_89 : decode cX2_isBetter 89 = .ok (.iconst 0, 1) := by decide +kernel
theorem dX2_isBetter_90 : decode cX2_isBetter 90 = .ok (.ireturn, 1) := by decide +kernel
theorem dX2_isBetter_91 : decode cX2_isBetter 91 = .ok (.iinc 4 1, 3) := by decide +kernel
theorem dX2_isBetter_94 : decode cX2_isBetter 94 = .ok (.goto (-49), 3) := by decide +kernel
theorem dX2_isBetter_97 : decode cX2_isBetter 97 = .ok (.iconst 0, 1) := by decide +kernel
theorem dX2_isBetter_98 : decode cX2_isBetter 98 = .ok (.ireturn, 1) := by decide +kernel
theorem dX2_extremeRay_0 : decode cX2_extremeRay 0 = .ok (.aload_n 0, 1) := by decide +kernel
theorem dX2_extremeRay_1 : decode cX2_extremeRay 1 = .ok (.getfield 19, 3) := by decide +kernel
theorem dX2_extremeRay_4 : decode cX2_extremeRay 4 = .ok (.getfield 115, 3) := by decide +kernel
theorem dX2_extremeRay_7 : decode cX2_extremeRay 7 = .ok (.iconst 0, 1) := by decide +kernel
theorem dX2_extremeRay_8 : decode cX2_extremeRay 8 = .ok (.aaload, 1) := by decide +kernel
theorem dX2_extremeRay_9 : decode cX2_extremeRay 9 = .ok (.astore_n 3, 1) := by decide +kernel
theorem dX2_extremeRay_10 : decode cX2_extremeRay 10 = .ok (.iconst 1, 1) := by decide +kernel
theorem dX2_extremeRay_11 : decode cX2_extremeRay 11 = .ok (.istore 4, 2) := by decide +kernel
theorem dX2_extremeRay_13 : decode cX2_extremeRay 13 = .ok (.iload 4, 2) := by decide +kernel
theorem dX2_extremeRay_15 : decode cX2_extremeRay 15 = .ok (.aload_n 0, 1) := by decide +kernel
theorem dX2_extremeRay_16 : decode cX2_extremeRay 16 = .ok (.getfield 19, 3) := by decide +kernel
theorem dX2_extremeRay_19 : decode cX2_extremeRay 19 = .ok (.getfield 126, 3) := by decide +kernel
theorem dX2_extremeRay_22 : decode cX2_extremeRay 22 = .ok (.if_icmp .ge 50, 3) := by decide +kernel
theorem dX2_extremeRay_25 : decode cX2_extremeRay 25 = .ok (.aload_n 0, 1) := by decide +kernel
theorem dX2_extremeRay_26 : decode cX2_extremeRay 26 = .ok (.getfield 19, 3) := by decide +kernel
theorem dX2_extremeRay_29 : decode cX2_extremeRay 29 = .ok (.getfield 115, 3) := by decide +kernel
theorem dX2_extremeRay_32 : decode cX2_extremeRay 32 = .ok (.iload 4, 2) := by decide +kernel
theorem dX2_extremeRay_34 : decode cX2_extremeRay 34 = .ok (.aaload, 1) := by decide +kernel
theorem dX2_extremeRay_35 : decode cX2_extremeRay 35 = .ok (.astore 5, 2) := by decide +kernel
theorem dX2_extremeRay_37 : decode cX2_extremeRay 37 = .ok (.aload 5, 2) := by decide +kernel
theorem dX2_extremeRay_39 : decode cX2_extremeRay 39 = .ok (.invokestatic 129, 3) := by decide +kernel
theorem dX2_extremeRay_42 : decode cX2_extremeRay 42 = .ok (.ifCond .eq 24, 3) := by decide +kernel
theorem dX2_extremeRay_45 : decode cX2_extremeRay 45 = .ok (.aload_n 3, 1) := by decide +kernel
theorem dX2_extremeRay_46 : decode cX2_extremeRay 46 = .ok (.invokestatic 129, 3) := by decide +kernel
theorem dX2_extremeRay_49 : decode cX2_extremeRay 49 = .ok (.ifCond .eq 14, 3) := by decide +kernel
theorem dX2_extremeRay_52 : decode cX2_extremeRay 52 = .ok (.aload 5, 2) := by decide +kernel
theorem dX2_extremeRay_54 : decode cX2_extremeRay 54 = .ok (.aload_n 3, 1) := by decide +kernel
theorem dX2_extremeRay_55 : decode cX2_extremeRay 55 = .ok (.iload_n 1, 1) := by decide +kernel
theorem dX2_extremeRay_56 : decode cX2_extremeRay 56 = .ok (.iload_n 2, 1) := by decide +kernel
theorem dX2_extremeRay_57 : decode cX2_extremeRay 57 = .ok (.invokestatic 149, 3) := by decide +kernel
theorem dX2_extremeRay_60 : decode cX2_extremeRay 60 = .ok (.ifCond .eq 6, 3) := by decide +kernel
theorem dX2_extremeRay_63 : decode cX2_extremeRay 63 = .ok (.aload 5, 2) := by decide +kernel
theorem dX2_extremeRay_65 : decode cX2_extremeRay 65 = .ok (.astore_n 3, 1) := by decide +kernel
theorem dX2_extremeRay_66 : decode cX2_extremeRay 66 = .ok (.iinc 4 1, 3) := by decide +kernel
theorem dX2_extremeRay_69 : decode cX2_extremeRay 69 = .ok (.goto (-56), 3) := by decide +kernel
theorem dX2_extremeRay_72 : decode cX2_extremeRay 72 = .ok (.aload_n 3, 1) := by decide +kernel
theorem dX2_extremeRay_73 : decode cX2_extremeRay 73 = .ok (.areturn, 1) := by decide +kernel
theorem dX2_isFarther_0 : decode cX2_isFarther 0 = .ok (.aload_n 0, 1) := by decide +kernel
theorem dX2_isFarther_1 : decode cX2_isFarther 1 = .ok (.iconst 2, 1) := by decide +kernel
theorem dX2_isFarther_2 : decode cX2_isFarther 2 = .ok (.iload_n 2, 1) := by decide +kernel
theorem dX2_isFarther_3 : decode cX2_isFarther 3 = .ok (.iadd, 1) := by decide +kernel
theorem dX2_isFarther_4 : decode cX2_isFarther 4 = .ok (.laload, 1) := by decide +kernel
theorem dX2_isFarther_5 : decode cX2_isFarther 5 = .ok (.aload_n 1, 1) := by decide +kernel
theorem dX2_isFarther_6 : decode cX2_isFarther 6 = .ok (.iconst 0, 1) := by decide +kernel
theorem dX2_isFarther_7 : decode cX2_isFarther 7 = .ok (.laload, 1) := by decide +kernel
theorem dX2_isFarther_8 : decode cX2_isFarther 8 = .ok (.lmul, 1) := by decide +kernel
theorem dX2_isFarther_9 : decode cX2_isFarther 9 = .ok (.aload_n 1, 1) := by decide +kernel
theorem dX2_isFarther_10 : decode cX2_isFarther 10 = .ok (.iconst 2, 1) := by decide +kernel
theorem dX2_isFarther_11 : decode cX2_isFarther 11 = .ok (.iload_n 2, 1) := by decide +kernel
theorem dX2_isFarther_12 : decode cX2_isFarther 12 = .ok (.iadd, 1) := by decide +kernel
theorem dX2_isFarther_13 : decode cX2_isFarther 13 = .ok (.laload, 1) := by decide +kernel
theorem dX2_isFarther_14 : decode cX2_isFarther 14 = .ok (.aload_n 0, 1) := by decide +kernel
theorem dX2_isFarther_15 : decode cX2_isFarther 15 = .ok (.iconst 0, 1) := by decide +kernel
theorem dX2_isFarther_16 : decode cX2_isFarther 16 = .ok (.laload, 1) := by decide +kernel
theorem dX2_isFarther_17 : decode cX2_isFarther 17 = .ok (.lmul, 1) := by decide +kernel
theorem dX2_isFarther_18 : decode cX2_isFarther 18 = .ok (.invokestatic 140, 3) := by decide +kernel
theorem dX2_isFarther_21 : decode cX2_isFarther 21 = .ok (.istore 4, 2) := by decide +kernel
theorem dX2_isFarther_23 : decode cX2_isFarther 23 = .ok (.iload_n 3, 1) := by decide +kernel
theorem dX2_isFarther_24 : decode cX2_isFarther 24 = .ok (.ifCond .eq 16, 3) := by decide +kernel
theorem dX2_isFarther_27 : decode cX2_isFarther 27 = .ok (.iload 4, 2) := by decide +kernel
theorem dX2_isFarther_29 : decode cX2_isFarther 29 = .ok (.ifCond .le 7, 3) := by decide +kernel
theorem dX2_isFarther_32 : decode cX2_isFarther 32 = .ok (.iconst 1, 1) := by decide +kernel
theorem dX2_isFarther_33 : decode cX2_isFarther 33 = .ok (.goto 17, 3) := by decide +kernel
theorem dX2_isFarther_36 : decode cX2_isFarther 36 = .ok (.iconst 0, 1) := by decide +kernel
theorem dX2_isFarther_37 : decode cX2_isFarther 37 = .ok (.goto 13, 3) := by decide +kernel
theorem dX2_isFarther_40 : decode cX2_isFarther 40 = .ok (.iload 4, 2) := by decide +kernel
theorem dX2_isFarther_42 : decode cX2_isFarther 42 = .ok (.ifCond .ge 7, 3) := by decide +kernel
theorem dX2_isFarther_45 : decode cX2_isFarther 45 = .ok (.iconst 1, 1) := by decide +kernel
theorem dX2_isFarther_46 : decode cX2_isFarther 46 = .ok (.goto 4, 3) := by decide +kernel
theorem dX2_isFarther_49 : decode cX2_isFarther 49 = .ok (.iconst 0, 1) := by decide +kernel
theorem dX2_isFarther_50 : decode cX2_isFarther 50 = .ok (.ireturn, 1) := by decide +kernel
theorem dX2_isSharpInBest_0 : decode cX2_isSharpInBest 0 = .ok (.aload_n 0, 1) := by decide +kernel
theorem dX2_isSharpInBest_1 : decode cX2_isSharpInBest 1 = .ok (.invokevirtual 83, 3) := by decide +kernel
theorem dX2_isSharpInBest_4 : decode cX2_isSharpInBest 4 = .ok (.astore_n 2, 1) := by decide +kernel
theorem dX2_isSharpInBest_5 : decode cX2_isSharpInBest 5 = .ok (.aload_n 0, 1) := by decide +kernel
theorem dX2_isSharpInBest_6 : decode cX2_isSharpInBest 6 = .ok (.getfield 12, 3) := by decide +kernel
theorem dX2_isSharpInBest_9 : decode cX2_isSharpInBest 9 = .ok (.aload_n 2, 1) := by decide +kernel
theorem dX2_isSharpInBest_10 : decode cX2_isSharpInBest 10 = .ok (.invokevirtual 87, 3) := by decide +kernel
theorem dX2_isSharpInBest_13 : decode cX2_isSharpInBest 13 = .ok (.lstore_n 3, 1) := by decide +kernel
theorem dX2_isSharpInBest_14 : decode cX2_isSharpInBest 14 = .ok (.iconst 0, 1) := by decide +kernel
theorem dX2_isSharpInBest_15 : decode cX2_isSharpInBest 15 = .ok (.istore 5, 2) := by decide +kernel
theorem dX2_isSharpInBest_17 : decode cX2_isSharpInBest 17 = .ok (.iload 5, 2) := by decide +kernel
theorem dX2_isSharpInBest_19 : decode cX2_isSharpInBest 19 = .ok (.aload_n 0, 1) := by decide +kernel
theorem dX2_isSharpInBest_20 : decode cX2_isSharpInBest 20 = .ok (.getfield 19, 3) := by decide +kernel
theorem dX2_isSharpInBest_23 : decode cX2_isSharpInBest 23 = .ok (.getfield 126, 3) := by decide +kernel
theorem dX2_isSharpInBest_26 : decode cX2_isSharpInBest 26 = .ok (.if_icmp .ge 82, 3) := by decide +kernel
theorem dX2_isSharpInBest_29 : decode cX2_isSharpInBest 29 = .ok (.aload_n 0, 1) := by decide +kernel
theorem dX2_isSharpInBest_30 : decode cX2_isSharpInBest 30 = .ok (.getfield 19, 3) := by decide +kernel
theorem dX2_isSharpInBest_33 : decode cX2_isSharpInBest 33 = .ok (.getfield 115, 3) := by decide +kernel
theorem dX2_isSharpInBest_36 : decode cX2_isSharpInBest 36 = .ok (.iload 5, 2) := by decide +kernel
theorem dX2_isSharpInBest_38 : decode cX2_isSharpInBest 38 = .ok (.aaload, 1) := by decide +kernel
theorem dX2_isSharpInBest_39 : decode cX2_isSharpInBest 39 = .ok (.astore 6, 2) := by decide +kernel
theorem dX2_isSharpInBest_41 : decode cX2_isSharpInBest 41 = .ok (.aload 6, 2) := by decide +kernel
theorem dX2_isSharpInBest_43 : decode cX2_isSharpInBest 43 = .ok (.iconst 1, 1) := by decide +kernel
theorem dX2_isSharpInBest_44 : decode cX2_isSharpInBest 44 = .ok (.laload, 1) := by decide +kernel
theorem dX2_isSharpInBest_45 : decode cX2_isSharpInBest 45 = .ok (.lconst 0, 1) := by decide +kernel
theorem dX2_isSharpInBest_46 : decode cX2_isSharpInBest 46 = .ok (.lcmp, 1) := by decide +kernel
theorem dX2_isSharpInBest_47 : decode cX2_isSharpInBest 47 = .ok (.ifCond .ne 30, 3) := by decide +kernel
theorem dX2_isSharpInBest_50 : decode cX2_isSharpInBest 50 = .ok (.aload_n 0, 1) := by decide +kernel
theorem dX2_isSharpInBest_51 : decode cX2_isSharpInBest 51 = .ok (.getfield 12, 3) := by decide +kernel
theorem dX2_isSharpInBest_54 : decode cX2_isSharpInBest 54 = .ok (.aload 6, 2) := by decide +kernel
theorem dX2_isSharpInBest_56 : decode cX2_isSharpInBest 56 = .ok (.invokevirtual 87, 3) := by decide +kernel
theorem dX2_isSharpInBest_59 : decode cX2_isSharpInBest 59 = .ok (.aload_n 2, 1) := by decide +kernel
theorem dX2_isSharpInBest_60 : decode cX2_isSharpInBest 60 = .ok (.iconst 0, 1) := by decide +kernel
theorem dX2_isSharpInBest_61 : decode cX2_isSharpInBest 61 = .ok (.laload, 1) := by decide +kernel
theorem dX2_isSharpInBest_62 : decode cX2_isSharpInBest 62 = .ok (.lmul, 1) := by decide +kernel
theorem dX2_isSharpInBest_63 : decode cX2_isSharpInBest 63 = .ok (.lload_n 3, 1) := by decide +kernel
theorem dX2_isSharpInBest_64 : decode cX2_isSharpInBest 64 = .ok (.aload 6, 2) := by decide +kernel
theorem dX2_isSharpInBest_66 : decode cX2_isSharpInBest 66 = .ok (.iconst 0, 1) := by decide +kernel
theorem dX2_isSharpInBest_67 : decode cX2_isSharpInBest 67 = .ok (.laload, 1) := by decide +kernel
theorem dX2_isSharpInBest_68 : decode cX2_isSharpInBest 68 = .ok (.lmul, 1) := by decide +kernel
theorem dX2_isSharpInBest_69 : decode cX2_isSharpInBest 69 = .ok (.lcmp, 1) := by decide +kernel
theorem dX2_isSharpInBest_70 : decode cX2_isSharpInBest 70 = .ok (.ifCond .ne 7, 3) := by decide +kernel
theorem dX2_isSharpInBest_73 : decode cX2_isSharpInBest 73 = .ok (.iconst 1, 1) := by decide +kernel
theorem dX2_isSharpInBest_74 : decode cX2_isSharpInBest 74 = .ok (.goto 4, 3) := by decide +kernel
theorem dX2_isSharpInBest_77 : decode cX2_isSharpInBest 77 = .ok (.iconst 0, 1) := by decide +kernel
theorem dX2_isSharpInBest_78 : decode cX2_isSharpInBest 78 = .ok (.istore 7, 2) := by decide +kernel
theorem dX2_isSharpInBest_80 : decode cX2_isSharpInBest 80 = .ok (.iload 7, 2) := by decide +kernel
theorem dX2_isSharpInBest_82 : decode cX2_isSharpInBest 82 = .ok (.ifCond .eq 20, 3) := by decide +kernel
theorem dX2_isSharpInBest_85 : decode cX2_isSharpInBest 85 = .ok (.aload_n 0, 1) := by decide +kernel
theorem dX2_isSharpInBest_86 : decode cX2_isSharpInBest 86 = .ok (.getfield 12, 3) := by decide +kernel
theorem dX2_isSharpInBest_89 : decode cX2_isSharpInBest 89 = .ok (.iload_n 1, 1) := by decide +kernel
theorem dX2_isSharpInBest_90 : decode cX2_isSharpInBest 90 = .ok (.aload 6, 2) := by decide +kernel
theorem dX2_isSharpInBest_92 : decode cX2_isSharpInBest 92 = .ok (.invokevirtual 153, 3) := by decide +kernel
theorem dX2_isSharpInBest_95 : decode cX2_isSharpInBest 95 = .ok (.lconst 0, 1) := by decide +kernel
theorem dX2_isSharpInBest_96 : decode cX2_isSharpInBest 96 = .ok (.lcmp, 1) := by decide +kernel
theorem dX2_isSharpInBest_97 : decode cX2_isSharpInBest 97 = .ok (.ifCond .eq 5, 3) := by decide +kernel
theorem dX2_isSharpInBest_100 : decode cX2_isSharpInBest 100 = .ok (.iconst 0, 1) := by decide +kernel
theorem dX2_isSharpInBest_101 : decode cX2_isSharpInBest 101 = .ok (.ireturn, 1) := by decide +kernel
theorem dX2_isSharpInBest_102 : decode cX2_isSharpInBest 102 = .ok (.iinc 5 1, 3) := by decide +kernel
theorem dX2_isSharpInBest_105 : decode cX2_isSharpInBest 105 = .ok (.goto (-88), 3) := by decide +kernel
theorem dX2_isSharpInBest_108 : decode cX2_isSharpInBest 108 = .ok (.iconst 1, 1) := by decide +kernel
theorem dX2_isSharpInBest_109 : decode cX2_isSharpInBest 109 = .ok (.ireturn, 1) := by decide +kernel
theorem dX2_traceBends_0 : decode cX2_traceBends 0 = .ok (.aload_n 0, 1) := by decide +kernel
theorem dX2_traceBends_1 : decode cX2_traceBends 1 = .ok (.getfield 19, 3) := by decide +kernel
theorem dX2_traceBends_4 : decode cX2_traceBends 4 = .ok (.aload_n 0, 1) := by decide +kernel
theorem dX2_traceBends_5 : decode cX2_traceBends 5 = .ok (.getfield 12, 3) := by decide +kernel
theorem dX2_traceBends_8 : decode cX2_traceBends 8 = .ok (.aload_n 0, 1) := by decide +kernel
theorem dX2_traceBends_9 : decode cX2_traceBends 9 = .ok (.getfield 12, 3) := by decide +kernel
theorem dX2_traceBends_12 : decode cX2_traceBends 12 = .ok (.invokevirtual 63, 3) := by decide +kernel
theorem dX2_traceBends_15 : decode cX2_traceBends 15 = .ok (.invokevirtual 122, 3) := by decide +kernel
theorem dX2_traceBends_18 : decode cX2_traceBends 18 = .ok (.aload_n 0, 1) := by decide +kernel
theorem dX2_traceBends_19 : decode cX2_traceBends 19 = .ok (.invokevirtual 70, 3) := by decide +kernel
theorem dX2_traceBends_22 : decode cX2_traceBends 22 = .ok (.ifCond .eq 5, 3) := by decide +kernel
theorem dX2_traceBends_25 : decode cX2_traceBends 25 = .ok (.iconst 0, 1) := by decide +kernel
theorem dX2_traceBends_26 : decode cX2_traceBends 26 = .ok (.ireturn, 1) := by decide +kernel
theorem dX2_traceBends_27 : decode cX2_traceBends 27 = .ok (.iconst 0, 1) := by decide +kernel
theorem dX2_traceBends_28 : decode cX2_traceBends 28 = .ok (.istore_n 1, 1) := by decide +kernel
theorem dX2_traceBends_29 : decode cX2_traceBends 29 = .ok (.aload_n 0, 1) := by decide +kernel
theorem dX2_traceBends_30 : decode cX2_traceBends 30 = .ok (.invokevirtual 157, 3) := by decide +kernel
theorem dX2_traceBends_33 : decode cX2_traceBends 33 = .ok (.istore_n 2, 1) := by decide +kernel
theorem dX2_traceBends_34 : decode cX2_traceBends 34 = .ok (.iload_n 1, 1) := by decide +kernel
theorem dX2_traceBends_35 : decode cX2_traceBends 35 = .ok (.bipush 126, 2) := by decide +kernel
theorem dX2_traceBends_37 : decode cX2_traceBends 37 = .ok (.if_icmp .ge 27, 3) := by decide +kernel
theorem dX2_traceBends_40 : decode cX2_traceBends 40 = .ok (.iload_n 2, 1) := by decide +kernel
theorem dX2_traceBends_41 : decode cX2_traceBends 41 = .ok (.iconst (-1), 1) := by decide +kernel
theorem dX2_traceBends_42 : decode cX2_traceBends 42 = .ok (.if_icmp .eq 22, 3) := by decide +kernel
theorem dX2_traceBends_45 : decode cX2_traceBends 45 = .ok (.aload_n 0, 1) := by decide +kernel
theorem dX2_traceBends_46 : decode cX2_traceBends 46 = .ok (.getfield 23, 3) := by decide +kernel
theorem dX2_traceBends_49 : decode cX2_traceBends 49 = .ok (.iload_n 1, 1) := by decide +kernel
theorem dX2_traceBends_50 : decode cX2_traceBends 50 = .ok (.iload_n 2, 1) := by decide +kernel
theorem dX2_traceBends_51 : decode cX2_traceBends 51 = .ok (.iastore, 1) := by decide +kernel
theorem dX2_traceBends_52 : decode cX2_traceBends 52 = .ok (.iinc 1 1, 3) := by decide +kernel
theorem dX2_traceBends_55 : decode cX2_traceBends 55 = .ok (.aload_n 0, 1) := by decide +kernel
theorem dX2_traceBends_56 : decode cX2_traceBends 56 = .ok (.iload_n 2, 1) := by decide +kernel
theorem dX2_traceBends_57 : decode cX2_traceBends 57 = .ok (.invokevirtual 160, 3) := by decide +kernel
theorem dX2_traceBends_60 : decode cX2_traceBends 60 = .ok (.istore_n 2, 1) := by decide +kernel
theorem dX2_traceBends_61 : decode cX2_traceBends 61 = .ok (.goto (-27), 3) := by decide +kernel
theorem dX2_traceBends_64 : decode cX2_traceBends 64 = .ok (.iload_n 1, 1) := by decide +kernel
theorem dX2_traceBends_65 : decode cX2_traceBends 65 = .ok (.ireturn, 1) := by decide +kernel
theorem dX2_earliestRay_0 : decode cX2_earliestRay 0 = .ok (.iconst (-1), 1) := by decide +kernel
theorem dX2_earliestRay_1 : decode cX2_earliestRay 1 = .ok (.istore_n 1, 1) := by decide +kernel
theorem dX2_earliestRay_2 : decode cX2_earliestRay 2 = .ok (.iconst 0, 1) := by decide +kernel
theorem dX2_earliestRay_3 : decode cX2_earliestRay 3 = .ok (.istore_n 2, 1) := by decide +kernel
theorem dX2_earliestRay_4 : decode cX2_earliestRay 4 = .ok (.iload_n 2, 1) := by decide +kernel
theorem dX2_earliestRay_5 : decode cX2_earliestRay 5 = .ok (.aload_n 0, 1) := by decide +kernel
theorem dX2_earliestRay_6 : decode cX2_earliestRay 6 = .ok (.getfield 19, 3) := by decide +kernel
theorem dX2_earliestRay_9 : decode cX2_earliestRay 9 = .ok (.getfield 126, 3) := by decide +kernel
theorem dX2_earliestRay_12 : decode cX2_earliestRay 12 = .ok (.if_icmp .ge 56, 3) := by decide +kernel
theorem dX2_earliestRay_15 : decode cX2_earliestRay 15 = .ok (.aload_n 0, 1) := by decide +kernel
theorem dX2_earliestRay_16 : decode cX2_earliestRay 16 = .ok (.getfield 19, 3) := by decide +kernel
theorem dX2_earliestRay_19 : decode cX2_earliestRay 19 = .ok (.getfield 115, 3) := by decide +kernel
theorem dX2_earliestRay_22 : decode cX2_earliestRay 22 = .ok (.iload_n 2, 1) := by decide +kernel
theorem dX2_earliestRay_23 : decode cX2_earliestRay 23 = .ok (.aaload, 1) := by decide +kernel
theorem dX2_earliestRay_24 : decode cX2_earliestRay 24 = .ok (.invokestatic 133, 3) := by decide +kernel
theorem dX2_earliestRay_27 : decode cX2_earliestRay 27 = .ok (.ifCond .ne 35, 3) := by decide +kernel
theorem dX2_earliestRay_30 : decode cX2_earliestRay 30 = .ok (.iload_n 1, 1) := by decide +kernel
theorem dX2_earliestRay_31 : decode cX2_earliestRay 31 = .ok (.iconst (-1), 1) := by decide +kernel
theorem dX2_earliestRay_32 : decode cX2_earliestRay 32 = .ok (.if_icmp .eq 28, 3) := by decide +kernel
theorem dX2_earliestRay_35 : decode cX2_earliestRay 35 = .ok (.aload_n 0, 1) := by decide +kernel
theorem dX2_earliestRay_36 : decode cX2_earliestRay 36 = .ok (.aload_n 0, 1) := by decide +kernel
theorem dX2_earliestRay_37 : decode cX2_earliestRay 37 = .ok (.getfield 19, 3) := by decide +kernel
theorem dX2_earliestRay_40 : decode cX2_earliestRay 40 = .ok (.getfield 115, 3) := by decide +kernel
theorem dX2_earliestRay_43 : decode cX2_earliestRay 43 = .ok (.iload_n 2, 1) := by decide +kernel
theorem dX2_earliestRay_44 : decode cX2_earliestRay 44 = .ok (.aaload, 1) := by decide +kernel
theorem dX2_earliestRay_45 : decode cX2_earliestRay 45 = .ok (.aload_n 0, 1) := by decide +kernel
theorem dX2_earliestRay_46 : decode cX2_earliestRay 46 = .ok (.getfield 19, 3) := by decide +kernel
theorem dX2_earliestRay_49 : decode cX2_earliestRay 49 = .ok (.getfield 115, 3) := by decide +kernel
theorem dX2_earliestRay_52 : decode cX2_earliestRay 52 = .ok (.iload_n 1, 1) := by decide +kernel
theorem dX2_earliestRay_53 : decode cX2_earliestRay 53 = .ok (.aaload, 1) := by decide +kernel
theorem dX2_earliestRay_54 : decode cX2_earliestRay 54 = .ok (.invokevirtual 164, 3) := by decide +kernel
theorem dX2_earliestRay_57 : decode cX2_earliestRay 57 = .ok (.ifCond .eq 5, 3) := by decide +kernel
theorem dX2_earliestRay_60 : decode cX2_earliestRay 60 = .ok (.iload_n 2, 1) := by decide +kernel
theorem dX2_earliestRay_61 : decode cX2_earliestRay 61 = .ok (.istore_n 1, 1) := by decide +kernel
theorem dX2_earliestRay_62 : decode cX2_earliestRay 62 = .ok (.iinc 2 1, 3) := by decide +kernel
theorem dX2_earliestRay_65 : decode cX2_earliestRay 65 = .ok (.goto (-61), 3) := by decide +kernel
theorem dX2_earliestRay_68 : decode cX2_earliestRay 68 = .ok (.iload_n 1, 1) := by decide +kernel
theorem dX2_earliestRay_69 : decode cX2_earliestRay 69 = .ok (.ireturn, 1) := by decide +kernel
theorem dX2_isEarlier_0 : decode cX2_isEarlier 0 = .ok (.aload_n 1, 1) := by decide +kernel
theorem dX2_isEarlier_1 : decode cX2_isEarlier 1 = .ok (.aload_n 2, 1) := by decide +kernel
theorem dX2_isEarlier_2 : decode cX2_isEarlier 2 = .ok (.invokestatic 167, 3) := by decide +kernel
theorem dX2_isEarlier_5 : decode cX2_isEarlier 5 = .ok (.istore_n 3, 1) := by decide +kernel
theorem dX2_isEarlier_6 : decode cX2_isEarlier 6 = .ok (.iload_n 3, 1) := by decide +kernel
theorem dX2_isEarlier_7 : decode cX2_isEarlier 7 = .ok (.ifCond .eq 13, 3) := by decide +kernel
theorem dX2_isEarlier_10 : decode cX2_isEarlier 10 = .ok (.iload_n 3, 1) := by decide +kernel
theorem dX2_isEarlier_11 : decode cX2_isEarlier 11 = .ok (.ifCond .ge 7, 3) := by decide +kernel
theorem dX2_isEarlier_14 : decode cX2_isEarlier 14 = .ok (.iconst 1, 1) := by decide +kernel
theorem dX2_isEarlier_15 : decode cX2_isEarlier 15 = .ok (.goto 4, 3) := by decide +kernel
theorem dX2_isEarlier_18 : decode cX2_isEarlier 18 = .ok (.iconst 0, 1) := by decide +kernel
theorem dX2_isEarlier_19 : decode cX2_isEarlier 19 = .ok (.ireturn, 1) := by decide +kernel
theorem dX2_isEarlier_20 : decode cX2_isEarlier 20 = .ok (.aload_n 1, 1) := by decide +kernel
theorem dX2_isEarlier_21 : decode cX2_isEarlier 21 = .ok (.iconst 0, 1) := by decide +kernel
theorem dX2_isEarlier_22 : decode cX2_isEarlier 22 = .ok (.laload, 1) := by decide +kernel
theorem dX2_isEarlier_23 : decode cX2_isEarlier 23 = .ok (.aload_n 1, 1) := by decide +kernel
theorem dX2_isEarlier_24 : decode cX2_isEarlier 24 = .ok (.iconst 1, 1) := by decide +kernel
theorem dX2_isEarlier_25 : decode cX2_isEarlier 25 = .ok (.laload, 1) := by decide +kernel
theorem dX2_isEarlier_26 : decode cX2_isEarlier 26 = .ok (.ladd, 1) := by decide +kernel
theorem dX2_isEarlier_27 : decode cX2_isEarlier 27 = .ok (.lstore 4, 2) := by decide +kernel
theorem dX2_isEarlier_29 : decode cX2_isEarlier 29 = .ok (.aload_n 2, 1) := by decide +kernel
theorem dX2_isEarlier_30 : decode cX2_isEarlier 30 = .ok (.iconst 0, 1) := by decide +kernel
theorem dX2_isEarlier_31 : decode cX2_isEarlier 31 = .ok (.laload, 1) := by decide +kernel
theorem dX2_isEarlier_32 : decode cX2_isEarlier 32 = .ok (.aload_n 2, 1) := by decide +kernel
theorem dX2_isEarlier_33 : decode cX2_isEarlier 33 = .ok (.iconst 1, 1) := by decide +kernel
theorem dX2_isEarlier_34 : decode cX2_isEarlier 34 = .ok (.laload, 1) := by decide +kernel
theorem dX2_isEarlier_35 : decode cX2_isEarlier 35 = .ok (.ladd, 1) := by decide +kernel
theorem dX2_isEarlier_36 : decode cX2_isEarlier 36 = .ok (.lstore 6, 2) := by decide +kernel
theorem dX2_isEarlier_38 : decode cX2_isEarlier 38 = .ok (.aload_n 0, 1) := by decide +kernel
theorem dX2_isEarlier_39 : decode cX2_isEarlier 39 = .ok (.getfield 12, 3) := by decide +kernel
theorem dX2_isEarlier_42 : decode cX2_isEarlier 42 = .ok (.aload_n 1, 1) := by decide +kernel
theorem dX2_isEarlier_43 : decode cX2_isEarlier 43 = .ok (.invokevirtual 87, 3) := by decide +kernel
theorem dX2_isEarlier_46 : decode cX2_isEarlier 46 = .ok (.lload 6, 2) := by decide +kernel
theorem dX2_isEarlier_48 : decode cX2_isEarlier 48 = .ok (.lmul, 1) := by decide +kernel
theorem dX2_isEarlier_49 : decode cX2_isEarlier 49 = .ok (.aload_n 0, 1) := by decide +kernel
theorem dX2_isEarlier_50 : decode cX2_isEarlier 50 = .ok (.getfield 12, 3) := by decide +kernel
theorem dX2_isEarlier_53 : decode cX2_isEarlier 53 = .ok (.aload_n 2, 1) := by decide +kernel
theorem dX2_isEarlier_54 : decode cX2_isEarlier 54 = .ok (.invokevirtual 87, 3) := by decide +kernel
theorem dX2_isEarlier_57 : decode cX2_isEarlier 57 = .ok (.lload 4, 2) := by decide +kernel
theorem dX2_isEarlier_59 : decode cX2_isEarlier 59 = .ok (.lmul, 1) := by decide +kernel
theorem dX2_isEarlier_60 : decode cX2_isEarlier 60 = .ok (.lcmp, 1) := by decide +kernel
theorem dX2_isEarlier_61 : decode cX2_isEarlier 61 = .ok (.ifCond .le 7, 3) := by decide +kernel
theorem dX2_isEarlier_64 : decode cX2_isEarlier 64 = .ok (.iconst 1, 1) := by decide +kernel
theorem dX2_isEarlier_65 : decode cX2_isEarlier 65 = .ok (.goto 4, 3) := by decide +kernel
theorem dX2_isEarlier_68 : decode cX2_isEarlier 68 = .ok (.iconst 0, 1) := by decide +kernel
theorem dX2_isEarlier_69 : decode cX2_isEarlier 69 = .ok (.ireturn, 1) := by decide +kernel
theorem dX2_followingRay_0 : decode cX2_followingRay 0 = .ok (.aload_n 0, 1) := by decide +kernel
theorem dX2_followingRay_1 : decode cX2_followingRay 1 = .ok (.getfield 19, 3) := by decide +kernel
theorem dX2_followingRay_4 : decode cX2_followingRay 4 = .ok (.getfield 115, 3) := by decide +kernel
theorem dX2_followingRay_7 : decode cX2_followingRay 7 = .ok (.iload_n 1, 1) := by decide +kernel
theorem dX2_followingRay_8 : decode cX2_followingRay 8 = .ok (.aaload, 1) := by decide +kernel
theorem dX2_followingRay_9 : decode cX2_followingRay 9 = .ok (.astore_n 2, 1) := by decide +kernel
theorem dX2_followingRay_10 : decode cX2_followingRay 10 = .ok (.iconst (-1), 1) := by decide +kernel
theorem dX2_followingRay_11 : decode cX2_followingRay 11 = .ok (.istore_n 3, 1) := by decide +kernel
theorem dX2_followingRay_12 : decode cX2_followingRay 12 = .ok (.iconst 0, 1) := by decide +kernel
theorem dX2_followingRay_13 : decode cX2_followingRay 13 = .ok (.istore 4, 2) := by decide +kernel
theorem dX2_followingRay_15 : decode cX2_followingRay 15 = .ok (.iload 4, 2) := by decide +kernel
theorem dX2_followingRay_17 : decode cX2_followingRay 17 = .ok (.aload_n 0, 1) := by decide +kernel
theorem dX2_followingRay_18 : decode cX2_followingRay 18 = .ok (.getfield 19, 3) := by decide +kernel
theorem dX2_followingRay_21 : decode cX2_followingRay 21 = .ok (.getfield 126, 3) := by decide +kernel
theorem dX2_followingRay_24 : decode cX2_followingRay 24 = .ok (.if_icmp .ge 77, 3) := by decide +kernel
theorem dX2_followingRay_27 : decode cX2_followingRay 27 = .ok (.aload_n 0, 1) := by decide +kernel
theorem dX2_followingRay_28 : decode cX2_followingRay 28 = .ok (.getfield 19, 3) := by decide +kernel
theorem dX2_followingRay_31 : decode cX2_followingRay 31 = .ok (.getfield 115, 3) := by decide +kernel
theorem dX2_followingRay_34 : decode cX2_followingRay 34 = .ok (.iload 4, 2) := by decide +kernel
theorem dX2_followingRay_36 : decode cX2_followingRay 36 = .ok (.aaload, 1) := by decide +kernel
theorem dX2_followingRay_37 : decode cX2_followingRay 37 = .ok (.astore 5, 2) := by decide +kernel
theorem dX2_followingRay_39 : decode cX2_followingRay 39 = .ok (.aload 5, 2) := by decide +kernel
theorem dX2_followingRay_41 : decode cX2_followingRay 41 = .ok (.invokestatic 133, 3) := by decide +kernel
theorem dX2_followingRay_44 : decode cX2_followingRay 44 = .ok (.ifCond .ne 16, 3) := by decide +kernel
theorem dX2_followingRay_47 : decode cX2_followingRay 47 = .ok (.aload 5, 2) := by decide +kernel
theorem dX2_followingRay_49 : decode cX2_followingRay 49 = .ok (.aload_n 2, 1) := by decide +kernel
theorem dX2_followingRay_50 : decode cX2_followingRay 50 = .ok (.invokestatic 167, 3) := by decide +kernel
theorem dX2_followingRay_53 : decode cX2_followingRay 53 = .ok (.ifCond .le 7, 3) := by decide +kernel
theorem dX2_followingRay_56 : decode cX2_followingRay 56 = .ok (.iconst 1, 1) := by decide +kernel
theorem dX2_followingRay_57 : decode cX2_followingRay 57 = .ok (.goto 4, 3) := by decide +kernel
theorem dX2_followingRay_60 : decode cX2_followingRay 60 = .ok (.iconst 0, 1) := by decide +kernel
theorem dX2_followingRay_61 : decode cX2_followingRay 61 = .ok (.istore 6, 2) := by decide +kernel
theorem dX2_followingRay_63 : decode cX2_followingRay 63 = .ok (.iload 6, 2) := by decide +kernel
theorem dX2_followingRay_65 : decode cX2_followingRay 65 = .ok (.ifCond .eq 30, 3) := by decide +kernel
theorem dX2_followingRay_68 : decode cX2_followingRay 68 = .ok (.iload_n 3, 1) := by decide +kernel
theorem dX2_followingRay_69 : decode cX2_followingRay 69 = .ok (.iconst (-1), 1) := by decide +kernel
theorem dX2_followingRay_70 : decode cX2_followingRay 70 = .ok (.if_icmp .eq 22, 3) := by decide +kernel
theorem dX2_followingRay_73 : decode cX2_followingRay 73 = .ok (.aload_n 0, 1) := by decide +kernel
theorem dX2_followingRay_74 : decode cX2_followingRay 74 = .ok (.aload_n 2, 1) := by decide +kernel
theorem dX2_followingRay_75 : decode cX2_followingRay 75 = .ok (.aload 5, 2) := by decide +kernel
theorem dX2_followingRay_77 : decode cX2_followingRay 77 = .ok (.aload_n 0, 1) := by decide +kernel
theorem dX2_followingRay_78 : decode cX2_followingRay 78 = .ok (.getfield 19, 3) := by decide +kernel
theorem dX2_followingRay_81 : decode cX2_followingRay 81 = .ok (.getfield 115, 3) := by decide +kernel
theorem dX2_followingRay_84 : decode cX2_followingRay 84 = .ok (.iload_n 3, 1) := by decide +kernel
theorem dX2_followingRay_85 : decode cX2_followingRay 85 = .ok (.aaload, 1) := by decide +kernel
theorem dX2_followingRay_86 : decode cX2_followingRay 86 = .ok (.invokevirtual 171, 3) := by decide +kernel
theorem dX2_followingRay_89 : decode cX2_followingRay 89 = .ok (.ifCond .eq 6, 3) := by decide +kernel
theorem dX2_followingRay_92 : decode cX2_followingRay 92 = .ok (.iload 4, 2) := by decide +kernel
theorem dX2_followingRay_94 : decode cX2_followingRay 94 = .ok (.istore_n 3, 1) := by decide +kernel
theorem dX2_followingRay_95 : decode cX2_followingRay 95 = .ok (.iinc 4 1, 3) := by decide +kernel
theorem dX2_followingRay_98 : decode cX2_followingRay 98 = .ok (.goto (-83), 3) := by decide +kernel
theorem dX2_followingRay_101 : decode cX2_followingRay 101 = .ok (.iload_n 3, 1) := by decide +kernel
theorem dX2_followingRay_102 : decode cX2_followingRay 102 = .ok (.ireturn, 1) := by decide +kernel
theorem dX2_isSteeper_0 : decode cX2_isSteeper 0 = .ok (.aload_n 0, 1) := by decide +kernel
theorem dX2_isSteeper_1 : decode cX2_isSteeper 1 = .ok (.aload_n 1, 1) := by decide +kernel
theorem dX2_isSteeper_2 : decode cX2_isSteeper 2 = .ok (.aload_n 3, 1) := by decide +kernel
theorem dX2_isSteeper_3 : decode cX2_isSteeper 3 = .ok (.aload_n 2, 1) := by decide +kernel
theorem dX2_isSteeper_4 : decode cX2_isSteeper 4 = .ok (.invokevirtual 175, 3) := by decide +kernel
theorem dX2_isSteeper_7 : decode cX2_isSteeper 7 = .ok (.lstore 4, 2) := by decide +kernel
theorem dX2_isSteeper_9 : decode cX2_isSteeper 9 = .ok (.lload 4, 2) := by decide +kernel
theorem dX2_isSteeper_11 : decode cX2_isSteeper 11 = .ok (.lconst 0, 1) := by decide +kernel
theorem dX2_isSteeper_12 : decode cX2_isSteeper 12 = .ok (.lcmp, 1) := by decide +kernel
theorem dX2_isSteeper_13 : decode cX2_isSteeper 13 = .ok (.ifCond .eq 16, 3) := by decide +kernel
theorem dX2_isSteeper_16 : decode cX2_isSteeper 16 = .ok (.lload 4, 2) := by decide +kernel
theorem dX2_isSteeper_18 : decode cX2_isSteeper 18 = .ok (.lconst 0, 1) := by decide +kernel
theorem dX2_isSteeper_19 : decode cX2_isSteeper 19 = .ok (.lcmp, 1) := by decide +kernel
theorem dX2_isSteeper_20 : decode cX2_isSteeper 20 = .ok (.ifCond .le 7, 3) := by decide +kernel
theorem dX2_isSteeper_23 : decode cX2_isSteeper 23 = .ok (.iconst 1, 1) := by decide +kernel
theorem dX2_isSteeper_24 : decode cX2_isSteeper 24 = .ok (.goto 4, 3) := by decide +kernel
theorem dX2_isSteeper_27 : decode cX2_isSteeper 27 = .ok (.iconst 0, 1) := by decide +kernel
theorem dX2_isSteeper_28 : decode cX2_isSteeper 28 = .ok (.ireturn, 1) := by decide +kernel
theorem dX2_isSteeper_29 : decode cX2_isSteeper 29 = .ok (.aload_n 2, 1) := by decide +kernel
theorem dX2_isSteeper_30 : decode cX2_isSteeper 30 = .ok (.aload_n 3, 1) := by decide +kernel
theorem dX2_isSteeper_31 : decode cX2_isSteeper 31 = .ok (.invokestatic 167, 3) := by decide +kernel
theorem dX2_isSteeper_34 : decode cX2_isSteeper 34 = .ok (.ifCond .le 7, 3) := by decide +kernel
theorem dX2_isSteeper_37 : decode cX2_isSteeper 37 = .ok (.iconst 1, 1) := by decide +kernel
theorem dX2_isSteeper_38 : decode cX2_isSteeper 38 = .ok (.goto 4, 3) := by decide +kernel
theorem dX2_isSteeper_41 : decode cX2_isSteeper 41 = .ok (.iconst 0, 1) := by decide +kernel
theorem dX2_isSteeper_42 : decode cX2_isSteeper 42 = .ok (.ireturn, 1) := by decide +kernel
theorem dX2_compareTimes_0 : decode cX2_compareTimes 0 = .ok (.aload_n 0, 1) := by decide +kernel
theorem dX2_compareTimes_1 : decode cX2_compareTimes 1 = .ok (.iconst 1, 1) := by decide +kernel
theorem dX2_compareTimes_2 : decode cX2_compareTimes 2 = .ok (.laload, 1) := by decide +kernel
theorem dX2_compareTimes_3 : decode cX2_compareTimes 3 = .ok (.aload_n 1, 1) := by decide +kernel
theorem dX2_compareTimes_4 : decode cX2_compareTimes 4 = .ok (.iconst 0, 1) := by decide +kernel
theorem dX2_compareTimes_5 : decode cX2_compareTimes 5 = .ok (.laload, 1) := by decide +kernel
theorem dX2_compareTimes_6 : decode cX2_compareTimes 6 = .ok (.lmul, 1) := by decide +kernel
theorem dX2_compareTimes_7 : decode cX2_compareTimes 7 = .ok (.aload_n 1, 1) := by decide +kernel
theorem dX2_compareTimes_8 : decode cX2_compareTimes 8 = .ok (.iconst 1, 1) := by decide +kernel
theorem dX2_compareTimes_9 : decode cX2_compareTimes 9 = .ok (.laload, 1) := by decide +kernel
theorem dX2_compareTimes_10 : decode cX2_compareTimes 10 = .ok (.aload_n 0, 1) := by decide +kernel
theorem dX2_compareTimes_11 : decode cX2_compareTimes 11 = .ok (.iconst 0, 1) := by decide +kernel
theorem dX2_compareTimes_12 : decode cX2_compareTimes 12 = .ok (.laload, 1) := by decide +kernel
theorem dX2_compareTimes_13 : decode cX2_compareTimes 13 = .ok (.lmul, 1) := by decide +kernel
theorem dX2_compareTimes_14 : decode cX2_compareTimes 14 = .ok (.invokestatic 140, 3) := by decide +kernel
theorem dX2_compareTimes_17 : decode cX2_compareTimes 17 = .ok (.ireturn, 1) := by decide +kernel
theorem dX2_liftAbove_0 : decode cX2_liftAbove 0 = .ok (.aload_n 0, 1) := by decide +kernel
theorem dX2_liftAbove_1 : decode cX2_liftAbove 1 = .ok (.getfield 12, 3) := by decide +kernel
theorem dX2_liftAbove_4 : decode cX2_liftAbove 4 = .ok (.aload_n 3, 1) := by decide +kernel
theorem dX2_liftAbove_5 : decode cX2_liftAbove 5 = .ok (.invokevirtual 87, 3) := by decide +kernel
theorem dX2_liftAbove_8 : decode cX2_liftAbove 8 = .ok (.aload_n 1, 1) := by decide +kernel
theorem dX2_liftAbove_9 : decode cX2_liftAbove 9 = .ok (.iconst 0, 1) := by decide +kernel
theorem dX2_liftAbove_10 : decode cX2_liftAbove 10 = .ok (.laload, 1) := by decide +kernel
theorem dX2_liftAbove_11 : decode cX2_liftAbove 11 = .ok (.aload_n 2, 1) := by decide +kernel
theorem dX2_liftAbove_12 : decode cX2_liftAbove 12 = .ok (.iconst 1, 1) := by decide +kernel
theorem dX2_liftAbove_13 : decode cX2_liftAbove 13 = .ok (.laload, 1) := by decide +kernel
theorem dX2_liftAbove_14 : decode cX2_liftAbove 14 = .ok (.lmul, 1) := by decide +kernel
theorem dX2_liftAbove_15 : decode cX2_liftAbove 15 = .ok (.aload_n 1, 1) := by decide +kernel
theorem dX2_liftAbove_16 : decode cX2_liftAbove 16 = .ok (.iconst 1, 1) := by decide +kernel
theorem dX2_liftAbove_17 : decode cX2_liftAbove 17 = .ok (.laload, 1) := by decide +kernel
theorem dX2_liftAbove_18 : decode cX2_liftAbove 18 = .ok (.aload_n 2, 1) := by decide +kernel
theorem dX2_liftAbove_19 : decode cX2_liftAbove 19 = .ok (.iconst 0, 1) := by decide +kernel
theorem dX2_liftAbove_20 : decode cX2_liftAbove 20 = .ok (.laload, 1) := by decide +kernel
theorem dX2_liftAbove_21 : decode cX2_liftAbove 21 = .ok (.lmul, 1) := by decide +kernel
theorem dX2_liftAbove_22 : decode cX2_liftAbove 22 = .ok (.lsub, 1) := by decide +kernel
theorem dX2_liftAbove_23 : decode cX2_liftAbove 23 = .ok (.lmul, 1) := by decide +kernel
theorem dX2_liftAbove_24 : decode cX2_liftAbove 24 = .ok (.aload_n 0, 1) := by decide +kernel
theorem dX2_liftAbove_25 : decode cX2_liftAbove 25 = .ok (.getfield 12, 3) := by decide +kernel
theorem dX2_liftAbove_28 : decode cX2_liftAbove 28 = .ok (.aload_n 2, 1) := by decide +kernel
theorem dX2_liftAbove_29 : decode cX2_liftAbove 29 = .ok (.invokevirtual 87, 3) := by decide +kernel
theorem dX2_liftAbove_32 : decode cX2_liftAbove 32 = .ok (.aload_n 1, 1) := by decide +kernel
theorem dX2_liftAbove_33 : decode cX2_liftAbove 33 = .ok (.iconst 0, 1) := by decide +kernel
theorem dX2_liftAbove_34 : decode cX2_liftAbove 34 = .ok (.laload, 1) := by decide +kernel
theorem dX2_liftAbove_35 : decode cX2_liftAbove 35 = .ok (.aload_n 3, 1) := by decide +kernel
theorem dX2_liftAbove_36 : decode cX2_liftAbove 36 = .ok (.iconst 1, 1) := by decide +kernel
theorem dX2_liftAbove_37 : decode cX2_liftAbove 37 = .ok (.laload, 1) := by decide +kernel
theorem dX2_liftAbove_38 : decode cX2_liftAbove 38 = .ok (.lmul, 1) := by decide +kernel
theorem dX2_liftAbove_39 : decode cX2_liftAbove 39 = .ok (.aload_n 1, 1) := by decide +kernel
theorem dX2_liftAbove_40 : decode cX2_liftAbove 40 = .ok (.iconst 1, 1) := by decide +kernel
theorem dX2_liftAbove_41 : decode cX2_liftAbove 41 = .ok (.laload, 1) := by decide +kernel
theorem dX2_liftAbove_42 : decode cX2_liftAbove 42 = .ok (.aload_n 3, 1) := by decide +kernel
theorem dX2_liftAbove_43 : decode cX2_liftAbove 43 = .ok (.iconst 0, 1) := by decide +kernel
theorem dX2_liftAbove_44 : decode cX2_liftAbove 44 = .ok (.laload, 1) := by decide +kernel
theorem dX2_liftAbove_45 : decode cX2_liftAbove 45 = .ok (.lmul, 1) := by decide +kernel
theorem dX2_liftAbove_46 : decode cX2_liftAbove 46 = .ok (.lsub, 1) := by decide +kernel
theorem dX2_liftAbove_47 : decode cX2_liftAbove 47 = .ok (.lmul, 1) := by decide +kernel
theorem dX2_liftAbove_48 : decode cX2_liftAbove 48 = .ok (.lsub, 1) := by decide +kernel
theorem dX2_liftAbove_49 : decode cX2_liftAbove 49 = .ok (.aload_n 0, 1) := by decide +kernel
theorem dX2_liftAbove_50 : decode cX2_liftAbove 50 = .ok (.getfield 12, 3) := by decide +kernel
theorem dX2_liftAbove_53 : decode cX2_liftAbove 53 = .ok (.aload_n 1, 1) := by decide +kernel
theorem dX2_liftAbove_54 : decode cX2_liftAbove 54 = .ok (.invokevirtual 87, 3) := by decide +kernel
theorem dX2_liftAbove_57 : decode cX2_liftAbove 57 = .ok (.aload_n 2, 1) := by decide +kernel
theorem dX2_liftAbove_58 : decode cX2_liftAbove 58 = .ok (.iconst 0, 1) := by decide +kernel
theorem dX2_liftAbove_59 : decode cX2_liftAbove 59 = .ok (.laload, 1) := by decide +kernel
theorem dX2_liftAbove_60 : decode cX2_liftAbove 60 = .ok (.aload_n 3, 1) := by decide +kernel
theorem dX2_liftAbove_61 : decode cX2_liftAbove 61 = .ok (.iconst 1, 1) := by decide +kernel
theorem dX2_liftAbove_62 : decode cX2_liftAbove 62 = .ok (.laload, 1) := by decide +kernel
theorem dX2_liftAbove_63 : decode cX2_liftAbove 63 = .ok (.lmul, 1) := by decide +kernel
theorem dX2_liftAbove_64 : decode cX2_liftAbove 64 = .ok (.aload_n 2, 1) := by decide +kernel
theorem dX2_liftAbove_65 : decode cX2_liftAbove 65 = .ok (.iconst 1, 1) := by decide +kernel
theorem dX2_liftAbove_66 : decode cX2_liftAbove 66 = .ok (.laload, 1) := by decide +kernel
theorem dX2_liftAbove_67 : decode cX2_liftAbove 67 = .ok (.aload_n 3, 1) := by decide +kernel
theorem dX2_liftAbove_68 : decode cX2_liftAbove 68 = .ok (.iconst 0, 1) := by decide +kernel
theorem dX2_liftAbove_69 : decode cX2_liftAbove 69 = .ok (.laload, 1) := by decide +kernel
theorem dX2_liftAbove_70 : decode cX2_liftAbove 70 = .ok (.lmul, 1) := by decide +kernel
theorem dX2_liftAbove_71 : decode cX2_liftAbove 71 = .ok (.lsub, 1) := by decide +kernel
theorem dX2_liftAbove_72 : decode cX2_liftAbove 72 = .ok (.lmul, 1) := by decide +kernel
theorem dX2_liftAbove_73 : decode cX2_liftAbove 73 = .ok (.ladd, 1) := by decide +kernel
theorem dX2_liftAbove_74 : decode cX2_liftAbove 74 = .ok (.lreturn, 1) := by decide +kernel
theorem dX2_partOf_0 : decode cX2_partOf 0 = .ok (.lload_n 0, 1) := by decide +kernel
theorem dX2_partOf_1 : decode cX2_partOf 1 = .ok (.invokestatic 179, 3) := by decide +kernel
theorem dX2_partOf_4 : decode cX2_partOf 4 = .ok (.lload_n 2, 1) := by decide +kernel
theorem dX2_partOf_5 : decode cX2_partOf 5 = .ok (.invokestatic 185, 3) := by decide +kernel
theorem dX2_partOf_8 : decode cX2_partOf 8 = .ok (.lstore 5, 2) := by decide +kernel
theorem dX2_partOf_10 : decode cX2_partOf 10 = .ok (.iload 4, 2) := by decide +kernel
theorem dX2_partOf_12 : decode cX2_partOf 12 = .ok (.ifCond .ne 10, 3) := by decide +kernel
theorem dX2_partOf_15 : decode cX2_partOf 15 = .ok (.lload_n 0, 1) := by decide +kernel
theorem dX2_partOf_16 : decode cX2_partOf 16 = .ok (.lload 5, 2) := by decide +kernel
theorem dX2_partOf_18 : decode cX2_partOf 18 = .ok (.ldiv, 1) := by decide +kernel
theorem dX2_partOf_19 : decode cX2_partOf 19 = .ok (.goto 7, 3) := by decide +kernel
theorem dX2_partOf_22 : decode cX2_partOf 22 = .ok (.lload_n 2, 1) := by decide +kernel
theorem dX2_partOf_23 : decode cX2_partOf 23 = .ok (.lload 5, 2) := by decide +kernel
theorem dX2_partOf_25 : decode cX2_partOf 25 = .ok (.ldiv, 1) := by decide +kernel
theorem dX2_partOf_26 : decode cX2_partOf 26 = .ok (.lreturn, 1) := by decide +kernel
theorem dX2_commonDivisor_0 : decode cX2_commonDivisor 0 = .ok (.lload_n 0, 1) := by decide +kernel
theorem dX2_commonDivisor_1 : decode cX2_commonDivisor 1 = .ok (.lstore 4, 2) := by decide +kernel
theorem dX2_commonDivisor_3 : decode cX2_commonDivisor 3 = .ok (.lload_n 2, 1) := by decide +kernel
theorem dX2_commonDivisor_4 : decode cX2_commonDivisor 4 = .ok (.lstore 6, 2) := by decide +kernel
theorem dX2_commonDivisor_6 : decode cX2_commonDivisor 6 = .ok (.iconst 0, 1) := by decide +kernel
theorem dX2_commonDivisor_7 : decode cX2_commonDivisor 7 = .ok (.istore 8, 2) := by decide +kernel
theorem dX2_commonDivisor_9 : decode cX2_commonDivisor 9 = .ok (.iload 8, 2) := by decide +kernel
theorem dX2_commonDivisor_11 : decode cX2_commonDivisor 11 = .ok (.bipush 100, 2) := by decide +kernel
theorem dX2_commonDivisor_13 : decode cX2_commonDivisor 13 = .ok (.if_icmp .ge 31, 3) := by decide +kernel
theorem dX2_commonDivisor_16 : decode cX2_commonDivisor 16 = .ok (.lload 6, 2) := by decide +kernel
theorem dX2_commonDivisor_18 : decode cX2_commonDivisor 18 = .ok (.lconst 0, 1) := by decide +kernel
theorem dX2_commonDivisor_19 : decode cX2_commonDivisor 19 = .ok (.lcmp, 1) := by decide +kernel
theorem dX2_commonDivisor_20 : decode cX2_commonDivisor 20 = .ok (.ifCond .eq 24, 3) := by decide +kernel
theorem dX2_commonDivisor_23 : decode cX2_commonDivisor 23 = .ok (.lload 4, 2) := by decide +kernel
theorem dX2_commonDivisor_25 : decode cX2_commonDivisor 25 = .ok (.lload 6, 2) := by decide +kernel
theorem dX2_commonDivisor_27 : decode cX2_commonDivisor 27 = .ok (.lrem, 1) := by decide +kernel
theorem dX2_commonDivisor_28 : decode cX2_commonDivisor 28 = .ok (.lstore 9, 2) := by decide +kernel
theorem dX2_commonDivisor_30 : decode cX2_commonDivisor 30 = .ok (.lload 6, 2) := by decide +kernel
theorem dX2_commonDivisor_32 : decode cX2_commonDivisor 32 = .ok (.lstore 4, 2) := by decide +kernel
theorem dX2_commonDivisor_34 : decode cX2_commonDivisor 34 = .ok (.lload 9, 2) := by decide +kernel
theorem dX2_commonDivisor_36 : decode cX2_commonDivisor 36 = .ok (.lstore 6, 2) := by decide +kernel
theorem dX2_commonDivisor_38 : decode cX2_commonDivisor 38 = .ok (.iinc 8 1, 3) := by decide +kernel
theorem dX2_commonDivisor_41 : decode cX2_commonDivisor 41 = .ok (.goto (-32), 3) := by decide +kernel
theorem dX2_commonDivisor_44 : decode cX2_commonDivisor 44 = .ok (.lload 4, 2) := by decide +kernel
theorem dX2_commonDivisor_46 : decode cX2_commonDivisor 46 = .ok (.lconst 1, 1) := by decide +kernel
theorem dX2_commonDivisor_47 : decode cX2_commonDivisor 47 = .ok (.invokestatic 189, 3) := by decide +kernel
theorem dX2_commonDivisor_50 : decode cX2_commonDivisor 50 = .ok (.lreturn, 1) := by decide +kernel
theorem dX3_init_0 : decode cX3_init 0 = .ok (.aload_n 0, 1) := by decide +kernel
theorem dX3_init_1 : decode cX3_init 1 = .ok (.invokespecial 1, 3) := by decide +kernel
theorem dX3_init_4 : decode cX3_init 4 = .ok (.aload_n 0, 1) := by decide +kernel
theorem dX3_init_5 : decode cX3_init 5 = .ok (.iconst 1, 1) := by decide +kernel
theorem dX3_init_6 : decode cX3_init 6 = .ok (.putfield 7, 3) := by decide +kernel
theorem dX3_init_9 : decode cX3_init 9 = .ok (.aload_n 0, 1) := by decide +kernel
theorem dX3_init_10 : decode cX3_init 10 = .ok (.bipush 12, 2) := by decide +kernel
theorem dX3_init_12 : decode cX3_init 12 = .ok (.newarray .int, 2) := by decide +kernel
theorem dX3_init_14 : decode cX3_init 14 = .ok (.putfield 13, 3) := by decide +kernel
theorem dX3_init_17 : decode cX3_init 17 = .ok (.aload_n 0, 1) := by decide +kernel
theorem dX3_init_18 : decode cX3_init 18 = .ok (.iconst 3, 1) := by decide +kernel
theorem dX3_init_19 : decode cX3_init 19 = .ok (.newarray .int, 2) := by decide +kernel
theorem dX3_init_21 : decode cX3_init 21 = .ok (.putfield 17, 3) := by decide +kernel
theorem dX3_init_24 : decode cX3_init 24 = .ok (.aload_n 0, 1) := by decide +kernel
theorem dX3_init_25 : decode cX3_init 25 = .ok (.iconst 4, 1) := by decide +kernel
theorem dX3_init_26 : decode cX3_init 26 = .ok (.newarray .int, 2) := by decide +kernel
theorem dX3_init_28 : decode cX3_init 28 = .ok (.putfield 20, 3) := by decide +kernel
theorem dX3_init_31 : decode cX3_init 31 = .ok (.aload_n 0, 1) := by decide +kernel
theorem dX3_init_32 : decode cX3_init 32 = .ok (.iconst 3, 1) := by decide +kernel
theorem dX3_init_33 : decode cX3_init 33 = .ok (.newarray .int, 2) := by decide +kernel
theorem dX3_init_35 : decode cX3_init 35 = .ok (.putfield 23, 3) := by decide +kernel
theorem dX3_init_38 : decode cX3_init 38 = .ok (.aload_n 0, 1) := by decide +kernel
theorem dX3_init_39 : decode cX3_init 39 = .ok (.iconst 3, 1) := by decide +kernel
theorem dX3_init_40 : decode cX3_init 40 = .ok (.newarray .int, 2) := by decide +kernel
theorem dX3_init_42 : decode cX3_init 42 = .ok (.putfield 26, 3) := by decide +kernel
theorem dX3_init_45 : decode cX3_init 45 = .ok (.aload_n 0, 1) := by decide +kernel
theorem dX3_init_46 : decode cX3_init 46 = .ok (.bipush 45, 2) := by decide +kernel
theorem dX3_init_48 : decode cX3_init 48 = .ok (.newarray .int, 2) := by decide +kernel
theorem dX3_init_50 : decode cX3_init 50 = .ok (.putfield 29, 3) := by decide +kernel
theorem dX3_init_53 : decode cX3_init 53 = .ok (.aload_n 0, 1) := by decide +kernel
theorem dX3_init_54 : decode cX3_init 54 = .ok (.bipush 9, 2) := by decide +kernel
theorem dX3_init_56 : decode cX3_init 56 = .ok (.newarray .int, 2) := by decide +kernel
theorem dX3_init_58 : decode cX3_init 58 = .ok (.putfield 32, 3) := by decide +kernel
theorem dX3_init_61 : decode cX3_init 61 = .ok (.aload_n 0, 1) := by decide +kernel
theorem dX3_init_62 : decode cX3_init 62 = .ok (.bipush 9, 2) := by decide +kernel
theorem dX3_init_64 : decode cX3_init 64 = .ok (.newarray .int, 2) := by decide +kernel
theorem dX3_init_66 : decode cX3_init 66 = .ok (.putfield 35, 3) := by decide +kernel
theorem dX3_init_69 : decode cX3_init 69 = .ok (.aload_n 0, 1) := by decide +kernel
theorem dX3_init_70 : decode cX3_init 70 = .ok (.bipush 30, 2) := by decide +kernel
theorem dX3_init_72 : decode cX3_init 72 = .ok (.newarray .long, 2) := by decide +kernel
theorem dX3_init_74 : decode cX3_init 74 = .ok (.putfield 38, 3) := by decide +kernel
theorem dX3_init_77 : decode cX3_init 77 = .ok (.aload_n 0, 1) := by decide +kernel
theorem dX3_init_78 : decode cX3_init 78 = .ok (.sipush 650, 3) := by decide +kernel
theorem dX3_init_81 : decode cX3_init 81 = .ok (.newarray .long, 2) := by decide +kernel
theorem dX3_init_83 : decode cX3_init 83 = .ok (.putfield 42, 3) := by decide +kernel
theorem dX3_init_86 : decode cX3_init 86 = .ok (.aload_n 0, 1) := by decide +kernel
theorem dX3_init_87 : decode cX3_init 87 = .ok (.sipush 130, 3) := by decide +kernel
theorem dX3_init_90 : decode cX3_init 90 = .ok (.newarray .long, 2) := by decide +kernel
theorem dX3_init_92 : decode cX3_init 92 = .ok (.putfield 45, 3) := by decide +kernel
theorem dX3_init_95 : decode cX3_init 95 = .ok (.aload_n 0, 1) := by decide +kernel
theorem dX3_init_96 : decode cX3_init 96 = .ok (.sipush 130, 3) := by decide +kernel
theorem dX3_init_99 : decode cX3_init 99 = .ok (.newarray .long, 2) := by decide +kernel
theorem dX3_init_101 : decode cX3_init 101 = .ok (.putfield 48, 3) := by decide +kernel
theorem dX3_init_104 : decode cX3_init 104 = .ok (.aload_n 0, 1) := by decide +kernel
theorem dX3_init_105 : decode cX3_init 105 = .ok (.sipush 130, 3) := by decide +kernel
theorem dX3_init_108 : decode cX3_init 108 = .ok (.newarray .int, 2) := by decide +kernel
theorem dX3_init_110 : decode cX3_init 110 = .ok (.putfield 51, 3) := by decide +kernel
theorem dX3_init_113 : decode cX3_init 113 = .ok (.return_, 1) := by decide +kernel
theorem dX3_refuses_0 : decode cX3_refuses 0 = .ok (.aload_n 0, 1) := by decide +kernel
theorem dX3_refuses_1 : decode cX3_refuses 1 = .ok (.iload_n 1, 1) := by decide +kernel
theorem dX3_refuses_2 : decode cX3_refuses 2 = .ok (.ifCond .eq 7, 3) := by decide +kernel
theorem dX3_refuses_5 : decode cX3_refuses 5 = .ok (.iconst 1, 1) := by decide +kernel
theorem dX3_refuses_6 : decode cX3_refuses 6 = .ok (.goto 29, 3) := by decide +kernel
theorem dX3_refuses_9 : decode cX3_refuses 9 = .ok (.iload_n 2, 1) := by decide +kernel
theorem dX3_refuses_10 : decode cX3_refuses 10 = .ok (.ifCond .eq 7, 3) := by decide +kernel
theorem dX3_refuses_13 : decode cX3_refuses 13 = .ok (.iconst 2, 1) := by decide +kernel
theorem dX3_refuses_14 : decode cX3_refuses 14 = .ok (.goto 21, 3) := by decide +kernel
theorem dX3_refuses_17 : decode cX3_refuses 17 = .ok (.iload_n 3, 1) := by decide +kernel
theorem dX3_refuses_18 : decode cX3_refuses 18 = .ok (.ifCond .eq 7, 3) := by decide +kernel
theorem dX3_refuses_21 : decode cX3_refuses 21 = .ok (.iconst 3, 1) := by decide +kernel
theorem dX3_refuses_22 : decode cX3_refuses 22 = .ok (.goto 13, 3) := by decide +kernel
theorem dX3_refuses_25 : decode cX3_refuses 25 = .ok (.iload 4, 2) := by decide +kernel
theorem dX3_refuses_27 : decode cX3_refuses 27 = .ok (.ifCond .eq 7, 3) := by decide +kernel
theorem dX3_refuses_30 : decode cX3_refuses 30 = .ok (.iconst 4, 1) := by decide +kernel
theorem dX3_refuses_31 : decode cX3_refuses 31 = .ok (.goto 4, 3) := by decide +kernel
theorem dX3_refuses_34 : decode cX3_refuses 34 = .ok (.iconst 0, 1) := by decide +kernel
theorem dX3_refuses_35 : decode cX3_refuses 35 = .ok (.putfield 54, 3) := by decide +kernel
theorem dX3_refuses_38 : decode cX3_refuses 38 = .ok (.aload_n 0, 1) := by decide +kernel
theorem dX3_refuses_39 : decode cX3_refuses 39 = .ok (.getfield 54, 3) := by decide +kernel
theorem dX3_refuses_42 : decode cX3_refuses 42 = .ok (.ifCond .le 7, 3) := by decide +kernel
theorem dX3_refuses_45 : decode cX3_refuses 45 = .ok (.iconst 1, 1) := by decide +kernel
theorem dX3_refuses_46 : decode cX3_refuses 46 = .ok (.goto 4, 3) := by decide +kernel
theorem dX3_refuses_49 : decode cX3_refuses 49 = .ok (.iconst 0, 1) := by decide +kernel
theorem dX3_refuses_50 : decode cX3_refuses 50 = .ok (.ireturn, 1) := by decide +kernel
theorem dX3_thrown_0 : decode cX3_thrown 0 = .ok (.aload_n 0, 1) := by decide +kernel
theorem dX3_thrown_1 : decode cX3_thrown 1 = .ok (.getfield 54, 3) := by decide +kernel
theorem dX3_thrown_4 : decode cX3_thrown 4 = .ok (.ireturn, 1) := by decide +kernel
theorem dX3_outside_0 : decode cX3_outside 0 = .ok (.iload_n 0, 1) := by decide +kernel
theorem dX3_outside_1 : decode cX3_outside 1 = .ok (.iload_n 1, 1) := by decide +kernel
theorem dX3_outside_2 : decode cX3_outside 2 = .ok (.if_icmp .lt 8, 3) := by decide +kernel
theorem dX3_outside_5 : decode cX3_outside 5 = .ok (.iload_n 0, 1) := by decide +kernel
theorem dX3_outside_6 : decode cX3_outside 6 = .ok (.iload_n 2, 1) := by decide +kernel
theorem dX3_outside_7 : decode cX3_outside 7 = .ok (.if_icmp .le 7, 3) := by decide +kernel
theorem dX3_outside_10 : decode cX3_outside 10 = .ok (.iconst 1, 1) := by decide +kernel
theorem dX3_outside_11 : decode cX3_outside 11 = .ok (.goto 4, 3) := by decide +kernel
theorem dX3_outside_14 : decode cX3_outside 14 = .ok (.iconst 0, 1) := by decide +kernel
theorem dX3_outside_15 : decode cX3_outside 15 = .ok (.ireturn, 1) := by decide +kernel
theorem dX3_begin_0 : decode cX3_begin 0 = .ok (.aload_n 0, 1) := by decide +kernel
theorem dX3_begin_1 : decode cX3_begin 1 = .ok (.iload_n 1, 1) := by decide +kernel
theorem dX3_begin_2 : decode cX3_begin 2 = .ok (.iconst 1, 1) := by decide +kernel
theorem dX3_begin_3 : decode cX3_begin 3 = .ok (.iconst 4, 1) := by decide +kernel
theorem dX3_begin_4 : decode cX3_begin 4 = .ok (.invokestatic 57, 3) := by decide +kernel
theorem dX3_begin_7 : decode cX3_begin 7 = .ok (.ifCond .ne 12, 3) := by decide +kernel
theorem dX3_begin_10 : decode cX3_begin 10 = .ok (.iload_n 2, 1) := by decide +kernel
theorem dX3_begin_11 : decode cX3_begin 11 = .ok (.iconst 0, 1) := by decide +kernel
theorem dX3_begin_12 : decode cX3_begin 12 = .ok (.iconst 3, 1) := by decide +kernel
theorem dX3_begin_13 : decode cX3_begin 13 = .ok (.invokestatic 57, 3) := by decide +kernel
theorem dX3_begin_16 : decode cX3_begin 16 = .ok (.ifCond .eq 7, 3) := by decide +kernel
theorem dX3_begin_19 : decode cX3_begin 19 = .ok (.iconst 1, 1) := by decide +kernel
theorem dX3_begin_20 : decode cX3_begin 20 = .ok (.goto 4, 3) := by decide +kernel
theorem dX3_begin_23 : decode cX3_begin 23 = .ok (.iconst 0, 1) := by decide +kernel
theorem dX3_begin_24 : decode cX3_begin 24 = .ok (.iconst 0, 1) := by decide +kernel
theorem dX3_begin_25 : decode cX3_begin 25 = .ok (.iconst 0, 1) := by decide +kernel
theorem dX3_begin_26 : decode cX3_begin 26 = .ok (.iconst 0, 1) := by decide +kernel
theorem dX3_begin_27 : decode cX3_begin 27 = .ok (.invokevirtual 61, 3) := by decide +kernel
theorem dX3_begin_30 : decode cX3_begin 30 = .ok (.ifCond .eq 4, 3) := by decide +kernel
theorem dX3_begin_33 : decode cX3_begin 33 = .ok (.return_, 1) := by decide +kernel
theorem dX3_begin_34 : decode cX3_begin 34 = .ok (.aload_n 0, 1) := by decide +kernel
theorem dX3_begin_35 : decode cX3_begin 35 = .ok (.iload_n 1, 1) := by decide +kernel
theorem dX3_begin_36 : decode cX3_begin 36 = .ok (.putfield 7, 3) := by decide +kernel
theorem dX3_begin_39 : decode cX3_begin 39 = .ok (.aload_n 0, 1) := by decide +kernel
theorem dX3_begin_40 : decode cX3_begin 40 = .ok (.iload_n 2, 1) := by decide +kernel
theorem dX3_begin_41 : decode cX3_begin 41 = .ok (.putfield 65, 3) := by decide +kernel
theorem dX3_begin_44 : decode cX3_begin 44 = .ok (.iconst 0, 1) := by decide +kernel
theorem dX3_begin_45 : decode cX3_begin 45 = .ok (.istore_n 3, 1) := by decide +kernel
theorem dX3_begin_46 : decode cX3_begin 46 = .ok (.iload_n 3, 1) := by decide +kernel
theorem dX3_begin_47 : decode cX3_begin 47 = .ok (.bipush 12, 2) := by decide +kernel
theorem dX3_begin_49 : decode cX3_begin 49 = .ok (.if_icmp .ge 16, 3) := by decide +kernel
theorem dX3_begin_52 : decode cX3_begin 52 = .ok (.aload_n 0, 1) := by decide +kernel
theorem dX3_begin_53 : decode cX3_begin 53 = .ok (.getfield 13, 3) := by decide +kernel
theorem dX3_begin_56 : decode cX3_begin 56 = .ok (.iload_n 3, 1) := by decide +kernel
theorem dX3_begin_57 : decode cX3_begin 57 = .ok (.iconst 0, 1) := by decide +kernel
theorem dX3_begin_58 : decode cX3_begin 58 = .ok (.iastore, 1) := by decide +kernel
theorem dX3_begin_59 : decode cX3_begin 59 = .ok (.iinc 3 1, 3) := by decide +kernel
theorem dX3_begin_62 : decode cX3_begin 62 = .ok (.goto (-16), 3) := by decide +kernel
theorem dX3_begin_65 : decode cX3_begin 65 = .ok (.iconst 0, 1) := by decide +kernel
theorem dX3_begin_66 : decode cX3_begin 66 = .ok (.istore_n 3, 1) := by decide +kernel
theorem dX3_begin_67 : decode cX3_begin 67 = .ok (.iload_n 3, 1) := by decide +kernel
theorem dX3_begin_68 : decode cX3_begin 68 = .ok (.iconst 4, 1) := by decide +kernel
theorem dX3_begin_69 : decode cX3_begin 69 = .ok (.if_icmp .ge 16, 3) := by decide +kernel
theorem dX3_begin_72 : decode cX3_begin 72 = .ok (.aload_n 0, 1) := by decide +kernel
theorem dX3_begin_73 : decode cX3_begin 73 = .ok (.getfield 20, 3) := by decide +kernel
theorem dX3_begin_76 : decode cX3_begin 76 = .ok (.iload_n 3, 1) := by decide +kernel
theorem dX3_begin_77 : decode cX3_begin 77 = .ok (.iconst 0, 1) := by decide +kernel
theorem dX3_begin_78 : decode cX3_begin 78 = .ok (.iastore, 1) := by decide +kernel
theorem dX3_begin_79 : decode cX3_begin 79 = .ok (.iinc 3 1, 3) := by decide +kernel
theorem dX3_begin_82 : decode cX3_begin 82 = .ok (.goto (-15), 3) := by decide +kernel
theorem dX3_begin_85 : decode cX3_begin 85 = .ok (.iconst 0, 1) := by decide +kernel
theorem dX3_begin_86 : decode cX3_begin 86 = .ok (.istore_n 3, 1) := by decide +kernel
theorem dX3_begin_87 : decode cX3_begin 87 = .ok (.iload_n 3, 1) := by decide +kernel
theorem dX3_begin_88 : decode cX3_begin 88 = .ok (.iconst 3, 1) := by decide +kernel
theorem dX3_begin_89 : decode cX3_begin 89 = .ok (.if_icmp .ge 30, 3) := by decide +kernel
theorem dX3_begin_92 : decode cX3_begin 92 = .ok (.aload_n 0, 1) := by decide +kernel
theorem dX3_begin_93 : decode cX3_begin 93 = .ok (.getfield 17, 3) := by decide +kernel
theorem dX3_begin_96 : decode cX3_begin 96 = .ok (.iload_n 3, 1) := by decide +kernel
theorem dX3_begin_97 : decode cX3_begin 97 = .ok (.iconst 0, 1) := by decide +kernel
theorem dX3_begin_98 : decode cX3_begin 98 = .ok (.iastore, 1) := by decide +kernel
theorem dX3_begin_99 : decode cX3_begin 99 = .ok (.aload_n 0, 1) := by decide +kernel
theorem dX3_begin_100 : decode cX3_begin 100 = .ok (.getfield 23, 3) := by decide +kernel
theorem dX3_begin_103 : decode cX3_begin 103 = .ok (.iload_n 3, 1) := by decide +kernel
theorem dX3_begin_104 : decode cX3_begin 104 = .ok (.iconst 0, 1) := by decide +kernel
theorem dX3_begin_105 : decode cX3_begin 105 = .ok (.iastore, 1) := by decide +kernel
theorem dX3_begin_106 : decode cX3_begin 106 = .ok (.aload_n 0, 1) := by decide +kernel
theorem dX3_begin_107 : decode cX3_begin 107 = .ok (.getfield 26, 3) := by decide +kernel
theorem dX3_begin_110 : decode cX3_begin 110 = .ok (.iload_n 3, 1) := by decide +kernel
theorem dX3_begin_111 : decode cX3_begin 111 = .ok (.iconst 0, 1) := by decide +kernel
theorem dX3_begin_112 : decode cX3_begin 112 = .ok (.iastore, 1) := by decide +kernel
theorem dX3_begin_113 : decode cX3_begin 113 = .ok (.iinc 3 1, 3) := by decide +kernel
theorem dX3_begin_116 : decode cX3_begin 116 = .ok (.goto (-29), 3) := by decide +kernel
theorem dX3_begin_119 : decode cX3_begin 119 = .ok (.return_, 1) := by decide +kernel
theorem dX3_coefficient_0 : decode cX3_coefficient 0 = .ok (.aload_n 0, 1) := by decide +kernel
theorem dX3_coefficient_1 : decode cX3_coefficient 1 = .ok (.iload_n 1, 1) := by decide +kernel
theorem dX3_coefficient_2 : decode cX3_coefficient 2 = .ok (.iconst 0, 1) := by decide +kernel
theorem dX3_coefficient_3 : decode cX3_coefficient 3 = .ok (.aload_n 0, 1) := by decide +kernel
theorem dX3_coefficient_4 : decode cX3_coefficient 4 = .ok (.getfield 65, 3) := by decide +kernel
theorem dX3_coefficient_7 : decode cX3_coefficient 7 = .ok (.iconst 1, 1) := by decide +kernel
theorem dX3_coefficient_8 : decode cX3_coefficient 8 = .ok (.isub, 1) := by decide +kernel
theorem dX3_coefficient_9 : decode cX3_coefficient 9 = .ok (.invokestatic 57, 3) := by decide +kernel
theorem dX3_coefficient_12 : decode cX3_coefficient 12 = .ok (.ifCond .ne 17, 3) := by decide +kernel
theorem dX3_coefficient_15 : decode cX3_coefficient 15 = .ok (.iload_n 2, 1) := by decide +kernel
theorem dX3_coefficient_16 : decode cX3_coefficient 16 = .ok (.iconst 0, 1) := by decide +kernel
theorem dX3_coefficient_17 : decode cX3_coefficient 17 = .ok (.aload_n 0, 1) := by decide +kernel
theorem dX3_coefficient_18 : decode cX3_coefficient 18 = .ok (.getfield 7, 3) := by decide +kernel
theorem dX3_coefficient_21 : decode cX3_coefficient 21 = .ok (.iconst 1, 1) := by decide +kernel
theorem dX3_coefficient_22 : decode cX3_coefficient 22 = .ok (.isub, 1) := by decide +kernel
theorem dX3_coefficient_23 : decode cX3_coefficient 23 = .ok (.invokestatic 57, 3) := by decide +kernel
theorem dX3_coefficient_26 : decode cX3_coefficient 26 = .ok (.ifCond .eq 7, 3) := by decide +kernel
theorem dX3_coefficient_29 : decode cX3_coefficient 29 = .ok (.iconst 1, 1) := by decide +kernel
theorem dX3_coefficient_30 : decode cX3_coefficient 30 = .ok (.goto 4, 3) := by decide +kernel
theorem dX3_coefficient_33 : decode cX3_coefficient 33 = .ok (.iconst 0, 1) := by decide +kernel
theorem dX3_coefficient_34 : decode cX3_coefficient 34 = .ok (.iload_n 3, 1) := by decide +kernel
theorem dX3_coefficient_35 : decode cX3_coefficient 35 = .ok (.bipush (-9), 2) := by decide +kernel
theorem dX3_coefficient_37 : decode cX3_coefficient 37 = .ok (.bipush 9, 2) := by decide +kernel
theorem dX3_coefficient_39 : decode cX3_coefficient 39 = .ok (.invokestatic 57, 3) := by decide +kernel
theorem dX3_coefficient_42 : decode cX3_coefficient 42 = .ok (.iconst 0, 1) := by decide +kernel
theorem dX3_coefficient_43 : decode cX3_coefficient 43 = .ok (.iconst 0, 1) := by decide +kernel
theorem dX3_coefficient_44 : decode cX3_coefficient 44 = .ok (.invokevirtual 61, 3) := by decide +kernel
theorem dX3_coefficient_47 : decode cX3_coefficient 47 = .ok (.ifCond .ne 14, 3) := by decide +kernel
theorem dX3_coefficient_50 : decode cX3_coefficient 50 = .ok (.aload_n 0, 1) := by decide +kernel
theorem dX3_coefficient_51 : decode cX3_coefficient 51 = .ok (.getfield 13, 3) := by decide +kernel
theorem dX3_coefficient_54 : decode cX3_coefficient 54 = .ok (.iconst 4, 1) := by decide +kernel
theorem dX3_coefficient_55 : decode cX3_coefficient 55 = .ok (.iload_n 1, 1) := by decide +kernel
theorem dX3_coefficient_56 : decode cX3_coefficient 56 = .ok (.imul, 1) := by decide +kernel
theorem dX3_coefficient_57 : decode cX3_coefficient 57 = .ok (.iload_n 2, 1) := by decide +kernel
theorem dX3_coefficient_58 : decode cX3_coefficient 58 = .ok (.iadd, 1) := by decide +kernel
theorem dX3_coefficient_59 : decode cX3_coefficient 59 = .ok (.iload_n 3, 1) := by decide +kernel
theorem dX3_coefficient_60 : decode cX3_coefficient 60 = .ok (.iastore, 1) := by decide +kernel
theorem dX3_coefficient_61 : decode cX3_coefficient 61 = .ok (.return_, 1) := by decide +kernel
theorem dX3_row_0 : decode cX3_row 0 = .ok (.aload_n 0, 1) := by decide +kernel
theorem dX3_row_1 : decode cX3_row 1 = .ok (.iload_n 1, 1) := by decide +kernel
theorem dX3_row_2 : decode cX3_row 2 = .ok (.iconst 0, 1) := by decide +kernel
theorem dX3_row_3 : decode cX3_row 3 = .ok (.aload_n 0, 1) := by decide +kernel
theorem dX3_row_4 : decode cX3_row 4 = .ok (.getfield 65, 3) := by decide +kernel
theorem dX3_row_7 : decode cX3_row 7 = .ok (.iconst 1, 1) := by decide +kernel
theorem dX3_row_8 : decode cX3_row 8 = .ok (.isub, 1) := by decide +kernel
theorem dX3_row_9 : decode cX3_row 9 = .ok (.invokestatic 57, 3) := by decide +kernel
theorem dX3_row_12 : decode cX3_row 12 = .ok (.iload_n 2, 1) := by decide +kernel
theorem dX3_row_13 : decode cX3_row 13 = .ok (.iconst 0, 1) := by decide +kernel
theorem dX3_row_14 : decode cX3_row 14 = .ok (.iconst 2, 1) := by decide +kernel
theorem dX3_row_15 : decode cX3_row 15 = .ok (.invokestatic 57, 3) := by decide +kernel
theorem dX3_row_18 : decode cX3_row 18 = .ok (.ifCond .ne 14, 3) := by decide +kernel
theorem dX3_row_21 : decode cX3_row 21 = .ok (.iload_n 3, 1) := by decide +kernel
theorem dX3_row_22 : decode cX3_row 22 = .ok (.bipush (-50), 2) := by decide +kernel
theorem dX3_row_24 : decode cX3_row 24 = .ok (.bipush 50, 2) := by decide +kernel
theorem dX3_row_26 : decode cX3_row 26 = .ok (.invokestatic 57, 3) := by decide +kernel
theorem dX3_row_29 : decode cX3_row 29 = .ok (.ifCond .eq 7, 3) := by decide +kernel
theorem dX3_row_32 : decode cX3_row 32 = .ok (.iconst 1, 1) := by decide +kernel
theorem dX3_row_33 : decode cX3_row 33 = .ok (.goto 4, 3) := by decide +kernel
theorem dX3_row_36 : decode cX3_row 36 = .ok (.iconst 0, 1) := by decide +kernel
theorem dX3_row_37 : decode cX3_row 37 = .ok (.iconst 0, 1) := by decide +kernel
theorem dX3_row_38 : decode cX3_row 38 = .ok (.iconst 0, 1) := by decide +kernel
theorem dX3_row_39 : decode cX3_row 39 = .ok (.invokevirtual 61, 3) := by decide +kernel
theorem dX3_row_42 : decode cX3_row 42 = .ok (.ifCond .eq 4, 3) := by decide +kernel
theorem dX3_row_45 : decode cX3_row 45 = .ok (.return_, 1) := by decide +kernel
theorem dX3_row_46 : decode cX3_row 46 = .ok (.aload_n 0, 1) := by decide +kernel
theorem dX3_row_47 : decode cX3_row 47 = .ok (.getfield 26, 3) := by decide +kernel
theorem dX3_row_50 : decode cX3_row 50 = .ok (.iload_n 1, 1) := by decide +kernel
theorem dX3_row_51 : decode cX3_row 51 = .ok (.iload_n 2, 1) := by decide +kernel
theorem dX3_row_52 : decode cX3_row 52 = .ok (.iastore, 1) := by decide +kernel
theorem dX3_row_53 : decode cX3_row 53 = .ok (.aload_n 0, 1) := by decide +kernel
theorem dX3_row_54 : decode cX3_row 54 = .ok (.getfield 17, 3) := by decide +kernel
theorem dX3_row_57 : decode cX3_row 57 = .ok (.iload_n 1, 1) := by decide +kernel
theorem dX3_row_58 : decode cX3_row 58 = .ok (.iload_n 3, 1) := by decide +kernel
theorem dX3_row_59 : decode cX3_row 59 = .ok (.iastore, 1) := by decide +kernel
theorem dX3_row_60 : decode cX3_row 60 = .ok (.return_, 1) := by decide +kernel
theorem dX3_want_0 : decode cX3_want 0 = .ok (.aload_n 0, 1) := by decide +kernel
theorem dX3_want_1 : decode cX3_want 1 = .ok (.iload_n 1, 1) := by decide +kernel
theorem dX3_want_2 : decode cX3_want 2 = .ok (.iconst 0, 1) := by decide +kernel
theorem dX3_want_3 : decode cX3_want 3 = .ok (.aload_n 0, 1) := by decide +kernel
theorem dX3_want_4 : decode cX3_want 4 = .ok (.getfield 7, 3) := by decide +kernel
theorem dX3_want_7 : decode cX3_want 7 = .ok (.iconst 1, 1) := by decide +kernel
theorem dX3_want_8 : decode cX3_want 8 = .ok (.isub, 1) := by decide +kernel
theorem dX3_want_9 : decode cX3_want 9 = .ok (.invokestatic 57, 3) := by decide +kernel
theorem dX3_want_12 : decode cX3_want 12 = .ok (.iload_n 2, 1) := by decide +kernel
theorem dX3_want_13 : decode cX3_want 13 = .ok (.bipush (-9), 2) := by decide +kernel
theorem dX3_want_15 : decode cX3_want 15 = .ok (.bipush 9, 2) := by decide +kernel
theorem dX3_want_17 : decode cX3_want 17 = .ok (.invokestatic 57, 3) := by decide +kernel
theorem dX3_want_20 : decode cX3_want 20 = .ok (.iconst 0, 1) := by decide +kernel
theorem dX3_want_21 : decode cX3_want 21 = .ok (.iconst 0, 1) := by decide +kernel
theorem dX3_want_22 : decode cX3_want 22 = .ok (.invokevirtual 61, 3) := by decide +kernel
theorem dX3_want_25 : decode cX3_want 25 = .ok (.ifCond .ne 10, 3) := by decide +kernel
theorem dX3_want_28 : decode cX3_want 28 = .ok (.aload_n 0, 1) := by decide +kernel
theorem dX3_want_29 : decode cX3_want 29 = .ok (.getfield 20, 3) := by decide +kernel
theorem dX3_want_32 : decode cX3_want 32 = .ok (.iload_n 1, 1) := by decide +kernel
theorem dX3_want_33 : decode cX3_want 33 = .ok (.iload_n 2, 1) := by decide +kernel
theorem dX3_want_34 : decode cX3_want 34 = .ok (.iastore, 1) := by decide +kernel
theorem dX3_want_35 : decode cX3_want 35 = .ok (.return_, 1) := by decide +kernel
theorem dX3_drift_0 : decode cX3_drift 0 = .ok (.aload_n 0, 1) := by decide +kernel
theorem dX3_drift_1 : decode cX3_drift 1 = .ok (.iload_n 1, 1) := by decide +kernel
theorem dX3_drift_2 : decode cX3_drift 2 = .ok (.iconst 0, 1) := by decide +kernel
theorem dX3_drift_3 : decode cX3_drift 3 = .ok (.aload_n 0, 1) := by decide +kernel
theorem dX3_drift_4 : decode cX3_drift 4 = .ok (.getfield 65, 3) := by decide +kernel
theorem dX3_drift_7 : decode cX3_drift 7 = .ok (.iconst 1, 1) := by decide +kernel
theorem dX3_drift_8 : decode cX3_drift 8 = .ok (.isub, 1) := by decide +kernel
theorem dX3_drift_9 : decode cX3_drift 9 = .ok (.invokestatic 57, 3) := by decide +kernel
theorem dX3_drift_12 : decode cX3_drift 12 = .ok (.iload_n 2, 1) := by decide +kernel
theorem dX3_drift_13 : decode cX3_drift 13 = .ok (.bipush (-9), 2) := by decide +kernel
theorem dX3_drift_15 : decode cX3_drift 15 = .ok (.bipush 9, 2) := by decide +kernel
theorem dX3_drift_17 : decode cX3_drift 17 = .ok (.invokestatic 57, 3) := by decide +kernel
theorem dX3_drift_20 : decode cX3_drift 20 = .ok (.iconst 0, 1) := by decide +kernel
theorem dX3_drift_21 : decode cX3_drift 21 = .ok (.iconst 0, 1) := by decide +kernel
theorem dX3_drift_22 : decode cX3_drift 22 = .ok (.invokevirtual 61, 3) := by decide +kernel
theorem dX3_drift_25 : decode cX3_drift 25 = .ok (.ifCond .ne 10, 3) := by decide +kernel
theorem dX3_drift_28 : decode cX3_drift 28 = .ok (.aload_n 0, 1) := by decide +kernel
theorem dX3_drift_29 : decode cX3_drift 29 = .ok (.getfield 23, 3) := by decide +kernel
theorem dX3_drift_32 : decode cX3_drift 32 = .ok (.iload_n 1, 1) := by decide +kernel
theorem dX3_drift_33 : decode cX3_drift 33 = .ok (.iload_n 2, 1) := by decide +kernel
theorem dX3_drift_34 : decode cX3_drift 34 = .ok (.iastore, 1) := by decide +kernel
theorem dX3_drift_35 : decode cX3_drift 35 = .ok (.return_, 1) := by decide +kernel
theorem dX3_add_0 : decode cX3_add 0 = .ok (.iconst 0, 1) := by decide +kernel
theorem dX3_add_1 : decode cX3_add 1 = .ok (.istore_n 3, 1) := by decide +kernel
theorem dX3_add_2 : decode cX3_add 2 = .ok (.iload_n 3, 1) := by decide +kernel
theorem dX3_add_3 : decode cX3_add 3 = .ok (.iconst 5, 1) := by decide +kernel
theorem dX3_add_4 : decode cX3_add 4 = .ok (.if_icmp .ge 23, 3) := by decide +kernel
theorem dX3_add_7 : decode cX3_add 7 = .ok (.aload_n 0, 1) := by decide +kernel
theorem dX3_add_8 : decode cX3_add 8 = .ok (.getfield 29, 3) := by decide +kernel
theorem dX3_add_11 : decode cX3_add 11 = .ok (.iconst 5, 1) := by decide +kernel
theorem dX3_add_12 : decode cX3_add 12 = .ok (.aload_n 0, 1) := by decide +kernel
theorem dX3_add_13 : decode cX3_add 13 = .ok (.getfield 68, 3) := by decide +kernel
theorem dX3_add_16 : decode cX3_add 16 = .ok (.imul, 1) := by decide +kernel
theorem dX3_add_17 : decode cX3_add 17 = .ok (.iload_n 3, 1) := by decide +kernel
theorem dX3_add_18 : decode cX3_add 18 = .ok (.iadd, 1) := by decide +kernel
theorem dX3_add_19 : decode cX3_add 19 = .ok (.iconst 0, 1) := by decide +kernel
theorem dX3_add_20 : decode cX3_add 20 = .ok (.iastore, 1) := by decide +kernel
theorem dX3_add_21 : decode cX3_add 21 = .ok (.iinc 3 1, 3) := by decide +kernel
theorem dX3_add_24 : decode cX3_add 24 = .ok (.goto (-22), 3) := by decide +kernel
theorem dX3_add_27 : decode cX3_add 27 = .ok (.aload_n 0, 1) := by decide +kernel
theorem dX3_add_28 : decode cX3_add 28 = .ok (.getfield 32, 3) := by decide +kernel
theorem dX3_add_31 : decode cX3_add 31 = .ok (.aload_n 0, 1) := by decide +kernel
theorem dX3_add_32 : decode cX3_add 32 = .ok (.getfield 68, 3) := by decide +kernel
theorem dX3_add_35 : decode cX3_add 35 = .ok (.iload_n 1, 1) := by decide +kernel
theorem dX3_add_36 : decode cX3_add 36 = .ok (.iastore, 1) := by decide +kernel
theorem dX3_add_37 : decode cX3_add 37 = .ok (.aload_n 0, 1) := by decide +kernel
theorem dX3_add_38 : decode cX3_add 38 = .ok (.getfield 35, 3) := by decide +kernel
theorem dX3_add_41 : decode cX3_add 41 = .ok (.aload_n 0, 1) := by decide +kernel
theorem dX3_add_42 : decode cX3_add 42 = .ok (.getfield 68, 3) := by decide +kernel
theorem dX3_add_45 : decode cX3_add 45 = .ok (.iload_n 2, 1) := by decide +kernel
theorem dX3_add_46 : decode cX3_add 46 = .ok (.iastore, 1) := by decide +kernel
theorem dX3_add_47 : decode cX3_add 47 = .ok (.aload_n 0, 1) := by decide +kernel
theorem dX3_add_48 : decode cX3_add 48 = .ok (.dup, 1) := by decide +kernel
theorem dX3_add_49 : decode cX3_add 49 = .ok (.getfield 68, 3) := by decide +kernel
theorem dX3_add_52 : decode cX3_add 52 = .ok (.iconst 1, 1) := by decide +kernel
theorem dX3_add_53 : decode cX3_add 53 = .ok (.iadd, 1) := by decide +kernel
theorem dX3_add_54 : decode cX3_add 54 = .ok (.putfield 68, 3) := by decide +kernel
theorem dX3_add_57 : decode cX3_add 57 = .ok (.return_, 1) := by decide +kernel
theorem dX3_setUp_0 : decode cX3_setUp 0 = .ok (.aload_n 0, 1) := by decide +kernel
theorem dX3_setUp_1 : decode cX3_setUp 1 = .ok (.iload_n 2, 1) := by decide +kernel
theorem dX3_setUp_2 : decode cX3_setUp 2 = .ok (.iconst 2, 1) := by decide +kernel
theorem dX3_setUp_3 : decode cX3_setUp 3 = .ok (.if_icmp .ne 12, 3) := by decide +kernel
theorem dX3_setUp_6 : decode cX3_setUp 6 = .ok (.aload_n 0, 1) := by decide +kernel
theorem dX3_setUp_7 : decode cX3_setUp 7 = .ok (.getfield 7, 3) := by decide +kernel
theorem dX3_setUp_10 : decode cX3_setUp 10 = .ok (.iconst 1, 1) := by decide +kernel
theorem dX3_setUp_11 : decode cX3_setUp 11 = .ok (.iadd, 1) := by decide +kernel
theorem dX3_setUp_12 : decode cX3_setUp 12 = .ok (.goto 7, 3) := by decide +kernel
theorem dX3_setUp_15 : decode cX3_setUp 15 = .ok (.aload_n 0, 1) := by decide +kernel
theorem dX3_setUp_16 : decode cX3_setUp 16 = .ok (.getfield 7, 3) := by decide +kernel
theorem dX3_setUp_19 : decode cX3_setUp 19 = .ok (.putfield 71, 3) := by decide +kernel
theorem dX3_setUp_22 : decode cX3_setUp 22 = .ok (.aload_n 0, 1) := by decide +kernel
theorem dX3_setUp_23 : decode cX3_setUp 23 = .ok (.iconst 0, 1) := by decide +kernel
theorem dX3_setUp_24 : decode cX3_setUp 24 = .ok (.putfield 68, 3) := by decide +kernel
theorem dX3_setUp_27 : decode cX3_setUp 27 = .ok (.iconst 0, 1) := by decide +kernel
theorem dX3_setUp_28 : decode cX3_setUp 28 = .ok (.istore_n 3, 1) := by decide +kernel
theorem dX3_setUp_29 : decode cX3_setUp 29 = .ok (.iload_n 3, 1) := by decide +kernel
theorem dX3_setUp_30 : decode cX3_setUp 30 = .ok (.aload_n 0, 1) := by decide +kernel
theorem dX3_setUp_31 : decode cX3_setUp 31 = .ok (.getfield 65, 3) := by decide +kernel
theorem dX3_setUp_34 : decode cX3_setUp 34 = .ok (.if_icmp .ge 122, 3) := by decide +kernel
theorem dX3_setUp_37 : decode cX3_setUp 37 = .ok (.iload_n 1, 1) := by decide +kernel
theorem dX3_setUp_38 : decode cX3_setUp 38 = .ok (.iload_n 3, 1) := by decide +kernel
theorem dX3_setUp_39 : decode cX3_setUp 39 = .ok (.ishr, 1) := by decide +kernel
theorem dX3_setUp_40 : decode cX3_setUp 40 = .ok (.iconst 1, 1) := by decide +kernel
theorem dX3_setUp_41 : decode cX3_setUp 41 = .ok (.iand, 1) := by decide +kernel
theorem dX3_setUp_42 : decode cX3_setUp 42 = .ok (.iconst 1, 1) := by decide +kernel
theorem dX3_setUp_43 : decode cX3_setUp 43 = .ok (.if_icmp .ne 107, 3) := by decide +kernel
theorem dX3_setUp_46 : decode cX3_setUp 46 = .ok (.aload_n 0, 1) := by decide +kernel
theorem dX3_setUp_47 : decode cX3_setUp 47 = .ok (.aload_n 0, 1) := by decide +kernel
theorem dX3_setUp_48 : decode cX3_setUp 48 = .ok (.getfield 26, 3) := by decide +kernel
theorem dX3_setUp_51 : decode cX3_setUp 51 = .ok (.iload_n 3, 1) := by decide +kernel
theorem dX3_setUp_52 : decode cX3_setUp 52 = .ok (.iaload, 1) := by decide +kernel
theorem dX3_setUp_53 : decode cX3_setUp 53 = .ok (.iload_n 2, 1) := by decide +kernel
theorem dX3_setUp_54 : decode cX3_setUp 54 = .ok (.iconst 1, 1) := by decide +kernel
theorem dX3_setUp_55 : decode cX3_setUp 55 = .ok (.if_icmp .ne 7, 3) := by decide +kernel
theorem dX3_setUp_58 : decode cX3_setUp 58 = .ok (.iconst 0, 1) := by decide +kernel
theorem dX3_setUp_59 : decode cX3_setUp 59 = .ok (.goto 9, 3) := by decide +kernel
theorem dX3_setUp_62 : decode cX3_setUp 62 = .ok (.aload_n 0, 1) := by decide +kernel
theorem dX3_setUp_63 : decode cX3_setUp 63 = .ok (.getfield 17, 3) := by decide +kernel
theorem dX3_setUp_66 : decode cX3_setUp 66 = .ok (.iload_n 3, 1) := by decide +kernel
theorem dX3_setUp_67 : decode cX3_setUp 67 = .ok (.iaload, 1) := by decide +kernel
theorem dX3_setUp_68 : decode cX3_setUp 68 = .ok (.invokevirtual 74, 3) := by decide +kernel
theorem dX3_setUp_71 : decode cX3_setUp 71 = .ok (.iconst 0, 1) := by decide +kernel
theorem dX3_setUp_72 : decode cX3_setUp 72 = .ok (.istore 4, 2) := by decide +kernel
theorem dX3_setUp_74 : decode cX3_setUp 74 = .ok (.iload 4, 2) := by decide +kernel
theorem dX3_setUp_76 : decode cX3_setUp 76 = .ok (.aload_n 0, 1) := by decide +kernel
theorem dX3_setUp_77 : decode cX3_setUp 77 = .ok (.getfield 7, 3) := by decide +kernel
theorem dX3_setUp_80 : decode cX3_setUp 80 = .ok (.if_icmp .ge 36, 3) := by decide +kernel
theorem dX3_setUp_83 : decode cX3_setUp 83 = .ok (.aload_n 0, 1) := by decide +kernel
theorem dX3_setUp_84 : decode cX3_setUp 84 = .ok (.getfield 29, 3) := by decide +kernel
theorem dX3_setUp_87 : decode cX3_setUp 87 = .ok (.iconst 5, 1) := by decide +kernel
theorem dX3_setUp_88 : decode cX3_setUp 88 = .ok (.aload_n 0, 1) := by decide +kernel
theorem dX3_setUp_89 : decode cX3_setUp 89 = .ok (.getfield 68, 3) := by decide +kernel
theorem dX3_setUp_92 : decode cX3_setUp 92 = .ok (.imul, 1) := by decide +kernel
theorem dX3_setUp_93 : decode cX3_setUp 93 = .ok (.iconst 5, 1) := by decide +kernel
theorem dX3_setUp_94 : decode cX3_setUp 94 = .ok (.isub, 1) := by decide +kernel
theorem dX3_setUp_95 : decode cX3_setUp 95 = .ok (.iload 4, 2) := by decide +kernel
theorem dX3_setUp_97 : decode cX3_setUp 97 = .ok (.iadd, 1) := by decide +kernel
theorem dX3_setUp_98 : decode cX3_setUp 98 = .ok (.aload_n 0, 1) := by decide +kernel
theorem dX3_setUp_99 : decode cX3_setUp 99 = .ok (.getfield 13, 3) := by decide +kernel
theorem dX3_setUp_102 : decode cX3_setUp 102 = .ok (.iconst 4, 1) := by decide +kernel
theorem dX3_setUp_103 : decode cX3_setUp 103 = .ok (.iload_n 3, 1) := by decide +kernel
theorem dX3_setUp_104 : decode cX3_setUp 104 = .ok (.imul, 1) := by decide +kernel
theorem dX3_setUp_105 : decode cX3_setUp 105 = .ok (.iload 4, 2) := by decide +kernel
theorem dX3_setUp_107 : decode cX3_setUp 107 = .ok (.iadd, 1) := by decide +kernel
theorem dX3_setUp_108 : decode cX3_setUp 108 = .ok (.iaload, 1) := by decide +kernel
theorem dX3_setUp_109 : decode cX3_setUp 109 = .ok (.iastore, 1) := by decide +kernel
theorem dX3_setUp_110 : decode cX3_setUp 110 = .ok (.iinc 4 1, 3) := by decide +kernel
theorem dX3_setUp_113 : decode cX3_setUp 113 = .ok (.goto (-39), 3) := by decide +kernel
theorem dX3_setUp_116 : decode cX3_setUp 116 = .ok (.aload_n 0, 1) := by decide +kernel
theorem dX3_setUp_117 : decode cX3_setUp 117 = .ok (.getfield 29, 3) := by decide +kernel
theorem dX3_setUp_120 : decode cX3_setUp 120 = .ok (.iconst 5, 1) := by decide +kernel
theorem dX3_setUp_121 : decode cX3_setUp 121 = .ok (.aload_n 0, 1) := by decide +kernel
theorem dX3_setUp_122 : decode cX3_setUp 122 = .ok (.getfield 68, 3) := by decide +kernel
theorem dX3_setUp_125 : decode cX3_setUp 125 = .ok (.imul, 1) := by decide +kernel
theorem dX3_setUp_126 : decode cX3_setUp 126 = .ok (.iconst 5, 1) := by decide +kernel
theorem dX3_setUp_127 : decode cX3_setUp 127 = .ok (.isub, 1) := by decide +kernel
theorem dX3_setUp_128 : decode cX3_setUp 128 = .ok (.aload_n 0, 1) := by decide +kernel
theorem dX3_setUp_129 : decode cX3_setUp 129 = .ok (.getfield 7, 3) := by decide +kernel
theorem dX3_setUp_132 : decode cX3_setUp 132 = .ok (.iadd, 1) := by decide +kernel
theorem dX3_setUp_133 : decode cX3_setUp 133 = .ok (.iload_n 2, 1) := by decide +kernel
theorem dX3_setUp_134 : decode cX3_setUp 134 = .ok (.iconst 2, 1) := by decide +kernel
theorem dX3_setUp_135 : decode cX3_setUp 135 = .ok (.if_icmp .ne 13, 3) := by decide +kernel
theorem dX3_setUp_138 : decode cX3_setUp 138 = .ok (.aload_n 0, 1) := by decide +kernel
theorem dX3_setUp_139 : decode cX3_setUp 139 = .ok (.getfield 23, 3) := by decide +kernel
theorem dX3_setUp_142 : decode cX3_setUp 142 = .ok (.iload_n 3, 1) := by decide +kernel
theorem dX3_setUp_143 : decode cX3_setUp 143 = .ok (.iaload, 1) := by decide +kernel
theorem dX3_setUp_144 : decode cX3_setUp 144 = .ok (.ineg, 1) := by decide +kernel
theorem dX3_setUp_145 : decode cX3_setUp 145 = .ok (.goto 4, 3) := by decide +kernel
theorem dX3_setUp_148 : decode cX3_setUp 148 = .ok (.iconst 0, 1) := by decide +kernel
theorem dX3_setUp_149 : decode cX3_setUp 149 = .ok (.iastore, 1) := by decide +kernel
theorem dX3_setUp_150 : decode cX3_setUp 150 = .ok (.iinc 3 1, 3) := by decide +kernel
theorem dX3_setUp_153 : decode cX3_setUp 153 = .ok (.goto (-124), 3) := by decide +kernel
theorem dX3_setUp_156 : decode cX3_setUp 156 = .ok (.iconst 0, 1) := by decide +kernel
theorem dX3_setUp_157 : decode cX3_setUp 157 = .ok (.istore_n 3, 1) := by decide +kernel
theorem dX3_setUp_158 : decode cX3_setUp 158 = .ok (.iload_n 3, 1) := by decide +kernel
theorem dX3_setUp_159 : decode cX3_setUp 159 = .ok (.aload_n 0, 1) := by decide +kernel
theorem dX3_setUp_160 : decode cX3_setUp 160 = .ok (.getfield 71, 3) := by decide +kernel
theorem dX3_setUp_163 : decode cX3_setUp 163 = .ok (.if_icmp .ge 31, 3) := by decide +kernel
theorem dX3_setUp_166 : decode cX3_setUp 166 = .ok (.aload_n 0, 1) := by decide +kernel
theorem dX3_setUp_167 : decode cX3_setUp 167 = .ok (.iconst 2, 1) := by decide +kernel
theorem dX3_setUp_168 : decode cX3_setUp 168 = .ok (.iconst 0, 1) := by decide +kernel
theorem dX3_setUp_169 : decode cX3_setUp 169 = .ok (.invokevirtual 74, 3) := by decide +kernel
theorem dX3_setUp_172 : decode cX3_setUp 172 = .ok (.aload_n 0, 1) := by decide +kernel
theorem dX3_setUp_173 : decode cX3_setUp 173 = .ok (.getfield 29, 3) := by decide +kernel
theorem dX3_setUp_176 : decode cX3_setUp 176 = .ok (.iconst 5, 1) := by decide +kernel
theorem dX3_setUp_177 : decode cX3_setUp 177 = .ok (.aload_n 0, 1) := by decide +kernel
theorem dX3_setUp_178 : decode cX3_setUp 178 = .ok (.getfield 68, 3) := by decide +kernel
theorem dX3_setUp_181 : decode cX3_setUp 181 = .ok (.imul, 1) := by decide +kernel
theorem dX3_setUp_182 : decode cX3_setUp 182 = .ok (.iconst 5, 1) := by decide +kernel
theorem dX3_setUp_183 : decode cX3_setUp 183 = .ok (.isub, 1) := by decide +kernel
theorem dX3_setUp_184 : decode cX3_setUp 184 = .ok (.iload_n 3, 1) := by decide +kernel
theorem dX3_setUp_185 : decode cX3_setUp 185 = .ok (.iadd, 1) := by decide +kernel
theorem dX3_setUp_186 : decode cX3_setUp 186 = .ok (.iconst 1, 1) := by decide +kernel
theorem dX3_setUp_187 : decode cX3_setUp 187 = .ok (.iastore, 1) := by decide +kernel
theorem dX3_setUp_188 : decode cX3_setUp 188 = .ok (.iinc 3 1, 3) := by decide +kernel
theorem dX3_setUp_191 : decode cX3_setUp 191 = .ok (.goto (-33), 3) := by decide +kernel
theorem dX3_setUp_194 : decode cX3_setUp 194 = .ok (.iload_n 2, 1) := by decide +kernel
theorem dX3_setUp_195 : decode cX3_setUp 195 = .ok (.iconst 2, 1) := by decide +kernel
theorem dX3_setUp_196 : decode cX3_setUp 196 = .ok (.if_icmp .ne 28, 3) := by decide +kernel
theorem dX3_setUp_199 : decode cX3_setUp 199 = .ok (.aload_n 0, 1) := by decide +kernel
theorem dX3_setUp_200 : decode cX3_setUp 200 = .ok (.iconst 0, 1) := by decide +kernel
theorem dX3_setUp_201 : decode cX3_setUp 201 = .ok (.iconst 1, 1) := by decide +kernel
theorem dX3_setUp_202 : decode cX3_setUp 202 = .ok (.invokevirtual 74, 3) := by decide +kernel
theorem dX3_setUp_205 : decode cX3_setUp 205 = .ok (.aload_n 0, 1) := by decide +kernel
theorem dX3_setUp_206 : decode cX3_setUp 206 = .ok (.getfield 29, 3) := by decide +kernel
theorem dX3_setUp_209 : decode cX3_setUp 209 = .ok (.iconst 5, 1) := by decide +kernel
theorem dX3_setUp_210 : decode cX3_setUp 210 = .ok (.aload_n 0, 1) := by decide +kernel
theorem dX3_setUp_211 : decode cX3_setUp 211 = .ok (.getfield 68, 3) := by decide +kernel
theorem dX3_setUp_214 : decode cX3_setUp 214 = .ok (.imul, 1) := by decide +kernel
theorem dX3_setUp_215 : decode cX3_setUp 215 = .ok (.iconst 5, 1) := by decide +kernel
theorem dX3_setUp_216 : decode cX3_setUp 216 = .ok (.isub, 1) := by decide +kernel
theorem dX3_setUp_217 : decode cX3_setUp 217 = .ok (.aload_n 0, 1) := by decide +kernel
theorem dX3_setUp_218 : decode cX3_setUp 218 = .ok (.getfield 7, 3) := by decide +kernel
theorem dX3_setUp_221 : decode cX3_setUp 221 = .ok (.iadd, 1) := by decide +kernel
theorem dX3_setUp_222 : decode cX3_setUp 222 = .ok (.iconst 1, 1) := by decide +kernel
theorem dX3_setUp_223 : decode cX3_setUp 223 = .ok (.iastore, 1) := by decide +kernel
theorem dX3_setUp_224 : decode cX3_setUp 224 = .ok (.iload_n 2, 1) := by decide +kernel
theorem dX3_setUp_225 : decode cX3_setUp 225 = .ok (.iconst 1, 1) := by decide +kernel
theorem dX3_setUp_226 : decode cX3_setUp 226 = .ok (.if_icmp .ne 41, 3) := by decide +kernel
theorem dX3_setUp_229 : decode cX3_setUp 229 = .ok (.aload_n 0, 1) := by decide +kernel
theorem dX3_setUp_230 : decode cX3_setUp 230 = .ok (.iconst 1, 1) := by decide +kernel
theorem dX3_setUp_231 : decode cX3_setUp 231 = .ok (.iconst 1, 1) := by decide +kernel
theorem dX3_setUp_232 : decode cX3_setUp 232 = .ok (.invokevirtual 74, 3) := by decide +kernel
theorem dX3_setUp_235 : decode cX3_setUp 235 = .ok (.iconst 0, 1) := by decide +kernel
theorem dX3_setUp_236 : decode cX3_setUp 236 = .ok (.istore_n 3, 1) := by decide +kernel
theorem dX3_setUp_237 : decode cX3_setUp 237 = .ok (.iload_n 3, 1) := by decide +kernel
theorem dX3_setUp_238 : decode cX3_setUp 238 = .ok (.aload_n 0, 1) := by decide +kernel
theorem dX3_setUp_239 : decode cX3_setUp 239 = .ok (.getfield 7, 3) := by decide +kernel
theorem dX3_setUp_242 : decode cX3_setUp 242 = .ok (.if_icmp .ge 25, 3) := by decide +kernel
theorem dX3_setUp_245 : decode cX3_setUp 245 = .ok (.aload_n 0, 1) := by decide +kernel
theorem dX3_setUp_246 : decode cX3_setUp 246 = .ok (.getfield 29, 3) := by decide +kernel
theorem dX3_setUp_249 : decode cX3_setUp 249 = .ok (.iconst 5, 1) := by decide +kernel
theorem dX3_setUp_250 : decode cX3_setUp 250 = .ok (.aload_n 0, 1) := by decide +kernel
theorem dX3_setUp_251 : decode cX3_setUp 251 = .ok (.getfield 68, 3) := by decide +kernel
theorem dX3_setUp_254 : decode cX3_setUp 254 = .ok (.imul, 1) := by decide +kernel
theorem dX3_setUp_255 : decode cX3_setUp 255 = .ok (.iconst 5, 1) := by decide +kernel
theorem dX3_setUp_256 : decode cX3_setUp 256 = .ok (.isub, 1) := by decide +kernel
theorem dX3_setUp_257 : decode cX3_setUp 257 = .ok (.iload_n 3, 1) := by decide +kernel
theorem dX3_setUp_258 : decode cX3_setUp 258 = .ok (.iadd, 1) := by decide +kernel
theorem dX3_setUp_259 : decode cX3_setUp 259 = .ok (.iconst 1, 1) := by decide +kernel
theorem dX3_setUp_260 : decode cX3_setUp 260 = .ok (.iastore, 1) := by decide +kernel
theorem dX3_setUp_261 : decode cX3_setUp 261 = .ok (.iinc 3 1, 3) := by decide +kernel
theorem dX3_setUp_264 : decode cX3_setUp 264 = .ok (.goto (-27), 3) := by decide +kernel
theorem dX3_setUp_267 : decode cX3_setUp 267 = .ok (.return_, 1) := by decide +kernel
theorem dX3_picked_0 : decode cX3_picked 0 = .ok (.iconst 0, 1) := by decide +kernel
theorem dX3_picked_1 : decode cX3_picked 1 = .ok (.istore_n 2, 1) := by decide +kernel
theorem dX3_picked_2 : decode cX3_picked 2 = .ok (.iconst 0, 1) := by decide +kernel
theorem dX3_picked_3 : decode cX3_picked 3 = .ok (.istore_n 3, 1) := by decide +kernel
theorem dX3_picked_4 : decode cX3_picked 4 = .ok (.iload_n 3, 1) := by decide +kernel
theorem dX3_picked_5 : decode cX3_picked 5 = .ok (.aload_n 0, 1) := by decide +kernel
theorem dX3_picked_6 : decode cX3_picked 6 = .ok (.getfield 68, 3) := by decide +kernel
theorem dX3_picked_9 : decode cX3_picked 9 = .ok (.if_icmp .ge 100, 3) := by decide +kernel
theorem dX3_picked_12 : decode cX3_picked 12 = .ok (.iload_n 1, 1) := by decide +kernel
theorem dX3_picked_13 : decode cX3_picked 13 = .ok (.iload_n 3, 1) := by decide +kernel
theorem dX3_picked_14 : decode cX3_picked 14 = .ok (.ishr, 1) := by decide +kernel
theorem dX3_picked_15 : decode cX3_picked 15 = .ok (.iconst 1, 1) := by decide +kernel
theorem dX3_picked_16 : decode cX3_picked 16 = .ok (.iand, 1) := by decide +kernel
theorem dX3_picked_17 : decode cX3_picked 17 = .ok (.iconst 1, 1) := by decide +kernel
theorem dX3_picked_18 : decode cX3_picked 18 = .ok (.if_icmp .ne 85, 3) := by decide +kernel
theorem dX3_picked_21 : decode cX3_picked 21 = .ok (.iconst 0, 1) := by decide +kernel
theorem dX3_picked_22 : decode cX3_picked 22 = .ok (.istore 4, 2) := by decide +kernel
theorem dX3_picked_24 : decode cX3_picked 24 = .ok (.iload 4, 2) := by decide +kernel
theorem dX3_picked_26 : decode cX3_picked 26 = .ok (.aload_n 0, 1) := by decide +kernel
theorem dX3_picked_27 : decode cX3_picked 27 = .ok (.getfield 71, 3) := by decide +kernel
theorem dX3_picked_30 : decode cX3_picked 30 = .ok (.if_icmp .ge 41, 3) := by decide +kernel
theorem dX3_picked_33 : decode cX3_picked 33 = .ok (.iload_n 2, 1) := by decide +kernel
theorem dX3_picked_34 : decode cX3_picked 34 = .ok (.aload_n 0, 1) := by decide +kernel
theorem dX3_picked_35 : decode cX3_picked 35 = .ok (.getfield 71, 3) := by decide +kernel
theorem dX3_picked_38 : decode cX3_picked 38 = .ok (.if_icmp .ge 33, 3) := by decide +kernel
theorem dX3_picked_41 : decode cX3_picked 41 = .ok (.aload_n 0, 1) := by decide +kernel
theorem dX3_picked_42 : decode cX3_picked 42 = .ok (.getfield 38, 3) := by decide +kernel
theorem dX3_picked_45 : decode cX3_picked 45 = .ok (.bipush 6, 2) := by decide +kernel
theorem dX3_picked_47 : decode cX3_picked 47 = .ok (.iload_n 2, 1) := by decide +kernel
theorem dX3_picked_48 : decode cX3_picked 48 = .ok (.imul, 1) := by decide +kernel
theorem dX3_picked_49 : decode cX3_picked 49 = .ok (.iload 4, 2) := by decide +kernel
theorem dX3_picked_51 : decode cX3_picked 51 = .ok (.iadd, 1) := by decide +kernel
theorem dX3_picked_52 : decode cX3_picked 52 = .ok (.aload_n 0, 1) := by decide +kernel
theorem dX3_picked_53 : decode cX3_picked 53 = .ok (.getfield 29, 3) := by decide +kernel
theorem dX3_picked_56 : decode cX3_picked 56 = .ok (.iconst 5, 1) := by decide +kernel
theorem dX3_picked_57 : decode cX3_picked 57 = .ok (.iload_n 3, 1) := by decide +kernel
theorem dX3_picked_58 : decode cX3_picked 58 = .ok (.imul, 1) := by decide +kernel
theorem dX3_picked_59 : decode cX3_picked 59 = .ok (.iload 4, 2) := by decide +kernel
theorem dX3_picked_61 : decode cX3_picked 61 = .ok (.iadd, 1) := by decide +kernel
theorem dX3_picked_62 : decode cX3_picked 62 = .ok (.iaload, 1) := by decide +kernel
theorem dX3_picked_63 : decode cX3_picked 63 = .ok (.i2l, 1) := by decide +kernel
theorem dX3_picked_64 : decode cX3_picked 64 = .ok (.lastore, 1) := by decide +kernel
theorem dX3_picked_65 : decode cX3_picked 65 = .ok (.iinc 4 1, 3) := by decide +kernel
theorem dX3_picked_68 : decode cX3_picked 68 = .ok (.goto (-44), 3) := by decide +kernel
theorem dX3_picked_71 : decode cX3_picked 71 = .ok (.iload_n 2, 1) := by decide +kernel
theorem dX3_picked_72 : decode cX3_picked 72 = .ok (.aload_n 0, 1) := by decide +kernel
theorem dX3_picked_73 : decode cX3_picked 73 = .ok (.getfield 71, 3) := by decide +kernel
theorem dX3_picked_76 : decode cX3_picked 76 = .ok (.if_icmp .ge 24, 3) := by decide +kernel
theorem dX3_picked_79 : decode cX3_picked 79 = .ok (.aload_n 0, 1) := by decide +kernel
theorem dX3_picked_80 : decode cX3_picked 80 = .ok (.getfield 38, 3) := by decide +kernel
theorem dX3_picked_83 : decode cX3_picked 83 = .ok (.bipush 6, 2) := by decide +kernel
theorem dX3_picked_85 : decode cX3_picked 85 = .ok (.iload_n 2, 1) := by decide +kernel
theorem dX3_picked_86 : decode cX3_picked 86 = .ok (.imul, 1) := by decide +kernel
theorem dX3_picked_87 : decode cX3_picked 87 = .ok (.aload_n 0, 1) := by decide +kernel
theorem dX3_picked_88 : decode cX3_picked 88 = .ok (.getfield 71, 3) := by decide +kernel
theorem dX3_picked_91 : decode cX3_picked 91 = .ok (.iadd, 1) := by decide +kernel
theorem dX3_picked_92 : decode cX3_picked 92 = .ok (.aload_n 0, 1) := by decide +kernel
theorem dX3_picked_93 : decode cX3_picked 93 = .ok (.getfield 35, 3) := by decide +kernel
theorem dX3_picked_96 : decode cX3_picked 96 = .ok (.iload_n 3, 1) := by decide +kernel
theorem dX3_picked_97 : decode cX3_picked 97 = .ok (.iaload, 1) := by decide +kernel
theorem dX3_picked_98 : decode cX3_picked 98 = .ok (.i2l, 1) := by decide +kernel
theorem dX3_picked_99 : decode cX3_picked 99 = .ok (.lastore, 1) := by decide +kernel
theorem dX3_picked_100 : decode cX3_picked 100 = .ok (.iinc 2 1, 3) := by decide +kernel
theorem dX3_picked_103 : decode cX3_picked 103 = .ok (.iinc 3 1, 3) := by decide +kernel
theorem dX3_picked_106 : decode cX3_picked 106 = .ok (.goto (-102), 3) := by decide +kernel
theorem dX3_picked_109 : decode cX3_picked 109 = .ok (.iload_n 2, 1) := by decide +kernel
theorem dX3_picked_110 : decode cX3_picked 110 = .ok (.aload_n 0, 1) := by decide +kernel
theorem dX3_picked_111 : decode cX3_picked 111 = .ok (.getfield 71, 3) := by decide +kernel
theorem dX3_picked_114 : decode cX3_picked 114 = .ok (.if_icmp .ne 7, 3) := by decide +kernel
theorem dX3_picked_117 : decode cX3_picked 117 = .ok (.iconst 1, 1) := by decide +kernel
theorem dX3_picked_118 : decode cX3_picked 118 = .ok (.goto 4, 3) := by decide +kernel
theorem dX3_picked_121 : decode cX3_picked 121 = .ok (.iconst 0, 1) := by decide +kernel
theorem dX3_picked_122 : decode cX3_picked 122 = .ok (.ireturn, 1) := by decide +kernel
theorem dX3_swap_0 : decode cX3_swap 0 = .ok (.iconst 0, 1) := by decide +kernel
theorem dX3_swap_1 : decode cX3_swap 1 = .ok (.istore_n 3, 1) := by decide +kernel
theorem dX3_swap_2 : decode cX3_swap 2 = .ok (.iload_n 3, 1) := by decide +kernel
theorem dX3_swap_3 : decode cX3_swap 3 = .ok (.aload_n 0, 1) := by decide +kernel
theorem dX3_swap_4 : decode cX3_swap 4 = .ok (.getfield 71, 3) := by decide +kernel
theorem dX3_swap_7 : decode cX3_swap 7 = .ok (.if_icmp .gt 57, 3) := by decide +kernel
theorem dX3_swap_10 : decode cX3_swap 10 = .ok (.aload_n 0, 1) := by decide +kernel
theorem dX3_swap_11 : decode cX3_swap 11 = .ok (.getfield 38, 3) := by decide +kernel
theorem dX3_swap_14 : decode cX3_swap 14 = .ok (.bipush 6, 2) := by decide +kernel
theorem dX3_swap_16 : decode cX3_swap 16 = .ok (.iload_n 1, 1) := by decide +kernel
theorem dX3_swap_17 : decode cX3_swap 17 = .ok (.imul, 1) := by decide +kernel
theorem dX3_swap_18 : decode cX3_swap 18 = .ok (.iload_n 3, 1) := by decide +kernel
theorem dX3_swap_19 : decode cX3_swap 19 = .ok (.iadd, 1) := by decide +kernel
theorem dX3_swap_20 : decode cX3_swap 20 = .ok (.laload, 1) := by decide +kernel
theorem dX3_swap_21 : decode cX3_swap 21 = .ok (.lstore 4, 2) := by decide +kernel
theorem dX3_swap_23 : decode cX3_swap 23 = .ok (.aload_n 0, 1) := by decide +kernel
theorem dX3_swap_24 : decode cX3_swap 24 = .ok (.getfield 38, 3) := by decide +kernel
theorem dX3_swap_27 : decode cX3_swap 27 = .ok (.bipush 6, 2) := by decide +kernel
theorem dX3_swap_29 : decode cX3_swap 29 = .ok (.iload_n 1, 1) := by decide +kernel
theorem dX3_swap_30 : decode cX3_swap 30 = .ok (.imul, 1) := by decide +kernel
theorem dX3_swap_31 : decode cX3_swap 31 = .ok (.iload_n 3, 1) := by decide +kernel
theorem dX3_swap_32 : decode cX3_swap 32 = .ok (.iadd, 1) := by decide +kernel
theorem dX3_swap_33 : decode cX3_swap 33 = .ok (.aload_n 0, 1) := by decide +kernel
theorem dX3_swap_34 : decode cX3_swap 34 = .ok (.getfield 38, 3) := by decide +kernel
theorem dX3_swap_37 : decode cX3_swap 37 = .ok (.bipush 6, 2) := by decide +kernel
theorem dX3_swap_39 : decode cX3_swap 39 = .ok (.iload_n 2, 1) := by decide +kernel
theorem dX3_swap_40 : decode cX3_swap 40 = .ok (.imul, 1) := by decide +kernel
theorem dX3_swap_41 : decode cX3_swap 41 = .ok (.iload_n 3, 1) := by decide +kernel
theorem dX3_swap_42 : decode cX3_swap 42 = .ok (.iadd, 1) := by decide +kernel
theorem dX3_swap_43 : decode cX3_swap 43 = .ok (.laload, 1) := by decide +kernel
theorem dX3_swap_44 : decode cX3_swap 44 = .ok (.lastore, 1) := by decide +kernel
theorem dX3_swap_45 : decode cX3_swap 45 = .ok (.aload_n 0, 1) := by decide +kernel
theorem dX3_swap_46 : decode cX3_swap 46 = .ok (.getfield 38, 3) := by decide +kernel
theorem dX3_swap_49 : decode cX3_swap 49 = .ok (.bipush 6, 2) := by decide +kernel
theorem dX3_swap_51 : decode cX3_swap 51 = .ok (.iload_n 2, 1) := by decide +kernel
theorem dX3_swap_52 : decode cX3_swap 52 = .ok (.imul, 1) := by decide +kernel
theorem dX3_swap_53 : decode cX3_swap 53 = .ok (.iload_n 3, 1) := by decide +kernel
theorem dX3_swap_54 : decode cX3_swap 54 = .ok (.iadd, 1) := by decide +kernel
theorem dX3_swap_55 : decode cX3_swap 55 = .ok (.lload 4, 2) := by decide +kernel
theorem dX3_swap_57 : decode cX3_swap 57 = .ok (.lastore, 1) := by decide +kernel
theorem dX3_swap_58 : decode cX3_swap 58 = .ok (.iinc 3 1, 3) := by decide +kernel
theorem dX3_swap_61 : decode cX3_swap 61 = .ok (.goto (-59), 3) := by decide +kernel
theorem dX3_swap_64 : decode cX3_swap 64 = .ok (.return_, 1) := by decide +kernel
theorem dX3_clear_0 : decode cX3_clear 0 = .ok (.aload_n 0, 1) := by decide +kernel
theorem dX3_clear_1 : decode cX3_clear 1 = .ok (.getfield 38, 3) := by decide +kernel
theorem dX3_clear_4 : decode cX3_clear 4 = .ok (.bipush 7, 2) := by decide +kernel
theorem dX3_clear_6 : decode cX3_clear 6 = .ok (.iload_n 1, 1) := by decide +kernel
theorem dX3_clear_7 : decode cX3_clear 7 = .ok (.imul, 1) := by decide +kernel
theorem dX3_clear_8 : decode cX3_clear 8 = .ok (.laload, 1) := by decide +kernel
theorem dX3_clear_9 : decode cX3_clear 9 = .ok (.lstore 4, 2) := by decide +kernel
theorem dX3_clear_11 : decode cX3_clear 11 = .ok (.iconst 0, 1) := by decide +kernel
theorem dX3_clear_12 : decode cX3_clear 12 = .ok (.istore 6, 2) := by decide +kernel
theorem dX3_clear_14 : decode cX3_clear 14 = .ok (.iload 6, 2) := by decide +kernel
theorem dX3_clear_16 : decode cX3_clear 16 = .ok (.aload_n 0, 1) := by decide +kernel
theorem dX3_clear_17 : decode cX3_clear 17 = .ok (.getfield 71, 3) := by decide +kernel
theorem dX3_clear_20 : decode cX3_clear 20 = .ok (.if_icmp .ge 94, 3) := by decide +kernel
theorem dX3_clear_23 : decode cX3_clear 23 = .ok (.aload_n 0, 1) := by decide +kernel
theorem dX3_clear_24 : decode cX3_clear 24 = .ok (.getfield 38, 3) := by decide +kernel
theorem dX3_clear_27 : decode cX3_clear 27 = .ok (.bipush 6, 2) := by decide +kernel
theorem dX3_clear_29 : decode cX3_clear 29 = .ok (.iload 6, 2) := by decide +kernel
theorem dX3_clear_31 : decode cX3_clear 31 = .ok (.imul, 1) := by decide +kernel
theorem dX3_clear_32 : decode cX3_clear 32 = .ok (.iload_n 1, 1) := by decide +kernel
theorem dX3_clear_33 : decode cX3_clear 33 = .ok (.iadd, 1) := by decide +kernel
theorem dX3_clear_34 : decode cX3_clear 34 = .ok (.laload, 1) := by decide +kernel
theorem dX3_clear_35 : decode cX3_clear 35 = .ok (.lstore 7, 2) := by decide +kernel
theorem dX3_clear_37 : decode cX3_clear 37 = .ok (.iconst 0, 1) := by decide +kernel
theorem dX3_clear_38 : decode cX3_clear 38 = .ok (.istore 9, 2) := by decide +kernel
theorem dX3_clear_40 : decode cX3_clear 40 = .ok (.iload 9, 2) := by decide +kernel
theorem dX3_clear_42 : decode cX3_clear 42 = .ok (.aload_n 0, 1) := by decide +kernel
theorem dX3_clear_43 : decode cX3_clear 43 = .ok (.getfield 71, 3) := by decide +kernel
theorem dX3_clear_46 : decode cX3_clear 46 = .ok (.if_icmp .gt 62, 3) := by decide +kernel
theorem dX3_clear_49 : decode cX3_clear 49 = .ok (.iload 6, 2) := by decide +kernel
theorem dX3_clear_51 : decode cX3_clear 51 = .ok (.iload_n 1, 1) := by decide +kernel
theorem dX3_clear_52 : decode cX3_clear 52 = .ok (.if_icmp .eq 56, 3) := by decide +kernel
theorem dX3_clear_55 : decode cX3_clear 55 = .ok (.aload_n 0, 1) := by decide +kernel
theorem dX3_clear_56 : decode cX3_clear 56 = .ok (.getfield 38, 3) := by decide +kernel
theorem dX3_clear_59 : decode cX3_clear 59 = .ok (.bipush 6, 2) := by decide +kernel
theorem dX3_clear_61 : decode cX3_clear 61 = .ok (.iload 6, 2) := by decide +kernel
theorem dX3_clear_63 : decode cX3_clear 63 = .ok (.imul, 1) := by decide +kernel
theorem dX3_clear_64 : decode cX3_clear 64 = .ok (.iload 9, 2) := by decide +kernel
theorem dX3_clear_66 : decode cX3_clear 66 = .ok (.iadd, 1) := by decide +kernel
theorem dX3_clear_67 : decode cX3_clear 67 = .ok (.lload 4, 2) := by decide +kernel
theorem dX3_clear_69 : decode cX3_clear 69 = .ok (.aload_n 0, 1) := by decide +kernel
theorem dX3_clear_70 : decode cX3_clear 70 = .ok (.getfield 38, 3) := by decide +kernel
theorem dX3_clear_73 : decode cX3_clear 73 = .ok (.bipush 6, 2) := by decide +kernel
theorem dX3_clear_75 : decode cX3_clear 75 = .ok (.iload 6, 2) := by decide +kernel
theorem dX3_clear_77 : decode cX3_clear 77 = .ok (.imul, 1) := by decide +kernel
theorem dX3_clear_78 : decode cX3_clear 78 = .ok (.iload 9, 2) := by decide +kernel
theorem dX3_clear_80 : decode cX3_clear 80 = .ok (.iadd, 1) := by decide +kernel
theorem dX3_clear_81 : decode cX3_clear 81 = .ok (.laload, 1) := by decide +kernel
theorem dX3_clear_82 : decode cX3_clear 82 = .ok (.lmul, 1) := by decide +kernel
theorem dX3_clear_83 : decode cX3_clear 83 = .ok (.lload 7, 2) := by decide +kernel
theorem dX3_clear_85 : decode cX3_clear 85 = .ok (.aload_n 0, 1) := by decide +kernel
theorem dX3_clear_86 : decode cX3_clear 86 = .ok (.getfield 38, 3) := by decide +kernel
theorem dX3_clear_89 : decode cX3_clear 89 = .ok (.bipush 6, 2) := by decide +kernel
theorem dX3_clear_91 : decode cX3_clear 91 = .ok (.iload_n 1, 1) := by decide +kernel
theorem dX3_clear_92 : decode cX3_clear 92 = .ok (.imul, 1) := by decide +kernel
theorem dX3_clear_93 : decode cX3_clear 93 = .ok (.iload 9, 2) := by decide +kernel
theorem dX3_clear_95 : decode cX3_clear 95 = .ok (.iadd, 1) := by decide +kernel
theorem dX3_clear_96 : decode cX3_clear 96 = .ok (.laload, 1) := by decide +kernel
theorem dX3_clear_97 : decode cX3_clear 97 = .ok (.lmul, 1) := by decide +kernel
theorem dX3_clear_98 : decode cX3_clear 98 = .ok (.lsub, 1) := by decide +kernel
theorem dX3_clear_99 : decode cX3_clear 99 = .ok (.lload_n 2, 1) := by decide +kernel
theorem dX3_clear_100 : decode cX3_clear 100 = .ok (.ldiv, 1) := by decide +kernel
theorem dX3_clear_101 : decode cX3_clear 101 = .ok (.lastore, 1) := by decide +kernel
theorem dX3_clear_102 : decode cX3_clear 102 = .ok (.iinc 9 1, 3) := by decide +kernel
theorem dX3_clear_105 : decode cX3_clear 105 = .ok (.goto (-65), 3) := by decide +kernel
theorem dX3_clear_108 : decode cX3_clear 108 = .ok (.iinc 6 1, 3) := by decide +kernel
theorem dX3_clear_111 : decode cX3_clear 111 = .ok (.goto (-97), 3) := by decide +kernel
theorem dX3_clear_114 : decode cX3_clear 114 = .ok (.return_, 1) := by decide +kernel
theorem dX3_solved_0 : decode cX3_solved 0 = .ok (.lconst 1, 1) := by decide +kernel
theorem dX3_solved_1 : decode cX3_solved 1 = .ok (.lstore_n 1, 1) := by decide +kernel
theorem dX3_solved_2 : decode cX3_solved 2 = .ok (.iconst 0, 1) := by decide +kernel
theorem dX3_solved_3 : decode cX3_solved 3 = .ok (.istore_n 3, 1) := by decide +kernel
theorem dX3_solved_4 : decode cX3_solved 4 = .ok (.iload_n 3, 1) := by decide +kernel
theorem dX3_solved_5 : decode cX3_solved 5 = .ok (.aload_n 0, 1) := by decide +kernel
theorem dX3_solved_6 : decode cX3_solved 6 = .ok (.getfield 71, 3) := by decide +kernel
theorem dX3_solved_9 : decode cX3_solved 9 = .ok (.if_icmp .ge 78, 3) := by decide +kernel
theorem dX3_solved_12 : decode cX3_solved 12 = .ok (.iload_n 3, 1) := by decide +kernel
theorem dX3_solved_13 : decode cX3_solved 13 = .ok (.istore 4, 2) := by decide +kernel
theorem dX3_solved_15 : decode cX3_solved 15 = .ok (.iload 4, 2) := by decide +kernel
theorem dX3_solved_17 : decode cX3_solved 17 = .ok (.aload_n 0, 1) := by decide +kernel
theorem dX3_solved_18 : decode cX3_solved 18 = .ok (.getfield 71, 3) := by decide +kernel
theorem dX3_solved_21 : decode cX3_solved 21 = .ok (.if_icmp .ge 26, 3) := by decide +kernel
theorem dX3_solved_24 : decode cX3_solved 24 = .ok (.aload_n 0, 1) := by decide +kernel
theorem dX3_solved_25 : decode cX3_solved 25 = .ok (.getfield 38, 3) := by decide +kernel
theorem dX3_solved_28 : decode cX3_solved 28 = .ok (.bipush 6, 2) := by decide +kernel
theorem dX3_solved_30 : decode cX3_solved 30 = .ok (.iload 4, 2) := by decide +kernel
theorem dX3_solved_32 : decode cX3_solved 32 = .ok (.imul, 1) := by decide +kernel
theorem dX3_solved_33 : decode cX3_solved 33 = .ok (.iload_n 3, 1) := by decide +kernel
theorem dX3_solved_34 : decode cX3_solved 34 = .ok (.iadd, 1) := by decide +kernel
theorem dX3_solved_35 : decode cX3_solved 35 = .ok (.laload, 1) := by decide +kernel
theorem dX3_solved_36 : decode cX3_solved 36 = .ok (.lconst 0, 1) := by decide +kernel
theorem dX3_solved_37 : decode cX3_solved 37 = .ok (.lcmp, 1) := by decide +kernel
theorem dX3_solved_38 : decode cX3_solved 38 = .ok (.ifCond .ne 9, 3) := by decide +kernel
theorem dX3_solved_41 : decode cX3_solved 41 = .ok (.iinc 4 1, 3) := by decide +kernel
theorem dX3_solved_44 : decode cX3_solved 44 = .ok (.goto (-29), 3) := by decide +kernel
theorem dX3_solved_47 : decode cX3_solved 47 = .ok (.iload 4, 2) := by decide +kernel
theorem dX3_solved_49 : decode cX3_solved 49 = .ok (.aload_n 0, 1) := by decide +kernel
theorem dX3_solved_50 : decode cX3_solved 50 = .ok (.getfield 71, 3) := by decide +kernel
theorem dX3_solved_53 : decode cX3_solved 53 = .ok (.if_icmp .ne 5, 3) := by decide +kernel
theorem dX3_solved_56 : decode cX3_solved 56 = .ok (.lconst 0, 1) := by decide +kernel
theorem dX3_solved_57 : decode cX3_solved 57 = .ok (.lreturn, 1) := by decide +kernel
theorem dX3_solved_58 : decode cX3_solved 58 = .ok (.aload_n 0, 1) := by decide +kernel
theorem dX3_solved_59 : decode cX3_solved 59 = .ok (.iload_n 3, 1) := by decide +kernel
theorem dX3_solved_60 : decode cX3_solved 60 = .ok (.iload 4, 2) := by decide +kernel
theorem dX3_solved_62 : decode cX3_solved 62 = .ok (.invokevirtual 78, 3) := by decide +kernel
theorem dX3_solved_65 : decode cX3_solved 65 = .ok (.aload_n 0, 1) := by decide +kernel
theorem dX3_solved_66 : decode cX3_solved 66 = .ok (.iload_n 3, 1) := by decide +kernel
theorem dX3_solved_67 : decode cX3_solved 67 = .ok (.lload_n 1, 1) := by decide +kernel
theorem dX3_solved_68 : decode cX3_solved 68 = .ok (.invokevirtual 81, 3) := by decide +kernel
theorem dX3_solved_71 : decode cX3_solved 71 = .ok (.aload_n 0, 1) := by decide +kernel
theorem dX3_solved_72 : decode cX3_solved 72 = .ok (.getfield 38, 3) := by decide +kernel
theorem dX3_solved_75 : decode cX3_solved 75 = .ok (.bipush 7, 2) := by decide +kernel
theorem dX3_solved_77 : decode cX3_solved 77 = .ok (.iload_n 3, 1) := by decide +kernel
theorem dX3_solved_78 : decode cX3_solved 78 = .ok (.imul, 1) := by decide +kernel
theorem dX3_solved_79 : decode cX3_solved 79 = .ok (.laload, 1) := by decide +kernel
theorem dX3_solved_80 : decode cX3_solved 80 = .ok (.lstore_n 1, 1) := by decide +kernel
theorem dX3_solved_81 : decode cX3_solved 81 = .ok (.iinc 3 1, 3) := by decide +kernel
theorem dX3_solved_84 : decode cX3_solved 84 = .ok (.goto (-80), 3) := by decide +kernel
theorem dX3_solved_87 : decode cX3_solved 87 = .ok (.lload_n 1, 1) := by decide +kernel
theorem dX3_solved_88 : decode cX3_solved 88 = .ok (.lreturn, 1) := by decide +kernel
theorem dX3_holds_0 : decode cX3_holds 0 = .ok (.aload_n 0, 1) := by decide +kernel
theorem dX3_holds_1 : decode cX3_holds 1 = .ok (.getfield 35, 3) := by decide +kernel
theorem dX3_holds_4 : decode cX3_holds 4 = .ok (.iload_n 1, 1) := by decide +kernel
theorem dX3_holds_5 : decode cX3_holds 5 = .ok (.iaload, 1) := by decide +kernel
theorem dX3_holds_6 : decode cX3_holds 6 = .ok (.ineg, 1) := by decide +kernel
theorem dX3_holds_7 : decode cX3_holds 7 = .ok (.i2l, 1) := by decide +kernel
theorem dX3_holds_8 : decode cX3_holds 8 = .ok (.aload_n 0, 1) := by decide +kernel
theorem dX3_holds_9 : decode cX3_holds 9 = .ok (.getfield 45, 3) := by decide +kernel
theorem dX3_holds_12 : decode cX3_holds 12 = .ok (.aload_n 0, 1) := by decide +kernel
theorem dX3_holds_13 : decode cX3_holds 13 = .ok (.getfield 85, 3) := by decide +kernel
theorem dX3_holds_16 : decode cX3_holds 16 = .ok (.laload, 1) := by decide +kernel
theorem dX3_holds_17 : decode cX3_holds 17 = .ok (.lmul, 1) := by decide +kernel
theorem dX3_holds_18 : decode cX3_holds 18 = .ok (.lstore_n 2, 1) := by decide +kernel
theorem dX3_holds_19 : decode cX3_holds 19 = .ok (.iconst 0, 1) := by decide +kernel
theorem dX3_holds_20 : decode cX3_holds 20 = .ok (.istore 4, 2) := by decide +kernel
theorem dX3_holds_22 : decode cX3_holds 22 = .ok (.iload 4, 2) := by decide +kernel
theorem dX3_holds_24 : decode cX3_holds 24 = .ok (.aload_n 0, 1) := by decide +kernel
theorem dX3_holds_25 : decode cX3_holds 25 = .ok (.getfield 71, 3) := by decide +kernel
theorem dX3_holds_28 : decode cX3_holds 28 = .ok (.if_icmp .ge 39, 3) := by decide +kernel
theorem dX3_holds_31 : decode cX3_holds 31 = .ok (.lload_n 2, 1) := by decide +kernel
theorem dX3_holds_32 : decode cX3_holds 32 = .ok (.aload_n 0, 1) := by decide +kernel
theorem dX3_holds_33 : decode cX3_holds 33 = .ok (.getfield 29, 3) := by decide +kernel
theorem dX3_holds_36 : decode cX3_holds 36 = .ok (.iconst 5, 1) := by decide +kernel
theorem dX3_holds_37 : decode cX3_holds 37 = .ok (.iload_n 1, 1) := by decide +kernel
theorem dX3_holds_38 : decode cX3_holds 38 = .ok (.imul, 1) := by decide +kernel
theorem dX3_holds_39 : decode cX3_holds 39 = .ok (.iload 4, 2) := by decide +kernel
theorem dX3_holds_41 : decode cX3_holds 41 = .ok (.iadd, 1) := by decide +kernel
theorem dX3_holds_42 : decode cX3_holds 42 = .ok (.iaload, 1) := by decide +kernel
theorem dX3_holds_43 : decode cX3_holds 43 = .ok (.i2l, 1) := by decide +kernel
theorem dX3_holds_44 : decode cX3_holds 44 = .ok (.aload_n 0, 1) := by decide +kernel
theorem dX3_holds_45 : decode cX3_holds 45 = .ok (.getfield 42, 3) := by decide +kernel
theorem dX3_holds_48 : decode cX3_holds 48 = .ok (.iconst 5, 1) := by decide +kernel
theorem dX3_holds_49 : decode cX3_holds 49 = .ok (.aload_n 0, 1) := by decide +kernel
theorem dX3_holds_50 : decode cX3_holds 50 = .ok (.getfield 85, 3) := by decide +kernel
theorem dX3_holds_53 : decode cX3_holds 53 = .ok (.imul, 1) := by decide +kernel
theorem dX3_holds_54 : decode cX3_holds 54 = .ok (.iload 4, 2) := by decide +kernel
theorem dX3_holds_56 : decode cX3_holds 56 = .ok (.iadd, 1) := by decide +kernel
theorem dX3_holds_57 : decode cX3_holds 57 = .ok (.laload, 1) := by decide +kernel
theorem dX3_holds_58 : decode cX3_holds 58 = .ok (.lmul, 1) := by decide +kernel
theorem dX3_holds_59 : decode cX3_holds 59 = .ok (.ladd, 1) := by decide +kernel
theorem dX3_holds_60 : decode cX3_holds 60 = .ok (.lstore_n 2, 1) := by decide +kernel
theorem dX3_holds_61 : decode cX3_holds 61 = .ok (.iinc 4 1, 3) := by decide +kernel
theorem dX3_holds_64 : decode cX3_holds 64 = .ok (.goto (-42), 3) := by decide +kernel
theorem dX3_holds_67 : decode cX3_holds 67 = .ok (.aload_n 0, 1) := by decide +kernel
theorem dX3_holds_68 : decode cX3_holds 68 = .ok (.getfield 32, 3) := by decide +kernel
theorem dX3_holds_71 : decode cX3_holds 71 = .ok (.iload_n 1, 1) := by decide +kernel
theorem dX3_holds_72 : decode cX3_holds 72 = .ok (.iaload, 1) := by decide +kernel
theorem dX3_holds_73 : decode cX3_holds 73 = .ok (.ifCond .ne 17, 3) := by decide +kernel
theorem dX3_holds_76 : decode cX3_holds 76 = .ok (.lload_n 2, 1) := by decide +kernel
theorem dX3_holds_77 : decode cX3_holds 77 = .ok (.lconst 0, 1) := by decide +kernel
theorem dX3_holds_78 : decode cX3_holds 78 = .ok (.lcmp, 1) := by decide +kernel
theorem dX3_holds_79 : decode cX3_holds 79 = .ok (.ifCond .gt 7, 3) := by decide +kernel
theorem dX3_holds_82 : decode cX3_holds 82 = .ok (.iconst 1, 1) := by decide +kernel
theorem dX3_holds_83 : decode cX3_holds 83 = .ok (.goto 42, 3) := by decide +kernel
theorem dX3_holds_86 : decode cX3_holds 86 = .ok (.iconst 0, 1) := by decide +kernel
theorem dX3_holds_87 : decode cX3_holds 87 = .ok (.goto 38, 3) := by decide +kernel
theorem dX3_holds_90 : decode cX3_holds 90 = .ok (.aload_n 0, 1) := by decide +kernel
theorem dX3_holds_91 : decode cX3_holds 91 = .ok (.getfield 32, 3) := by decide +kernel
theorem dX3_holds_94 : decode cX3_holds 94 = .ok (.iload_n 1, 1) := by decide +kernel
theorem dX3_holds_95 : decode cX3_holds 95 = .ok (.iaload, 1) := by decide +kernel
theorem dX3_holds_96 : decode cX3_holds 96 = .ok (.iconst 1, 1) := by decide +kernel
theorem dX3_holds_97 : decode cX3_holds 97 = .ok (.if_icmp .ne 17, 3) := by decide +kernel
theorem dX3_holds_100 : decode cX3_holds 100 = .ok (.lload_n 2, 1) := by decide +kernel
theorem dX3_holds_101 : decode cX3_holds 101 = .ok (.lconst 0, 1) := by decide +kernel
theorem dX3_holds_102 : decode cX3_holds 102 = .ok (.lcmp, 1) := by decide +kernel
theorem dX3_holds_103 : decode cX3_holds 103 = .ok (.ifCond .ne 7, 3) := by decide +kernel
theorem dX3_holds_106 : decode cX3_holds 106 = .ok (.iconst 1, 1) := by decide +kernel
theorem dX3_holds_107 : decode cX3_holds 107 = .ok (.goto 18, 3) := by decide +kernel
theorem dX3_holds_110 : decode cX3_holds 110 = .ok (.iconst 0, 1) := by decide +kernel
theorem dX3_holds_111 : decode cX3_holds 111 = .ok (.goto 14, 3) := by decide +kernel
theorem dX3_holds_114 : decode cX3_holds 114 = .ok (.lload_n 2, 1) := by decide +kernel
theorem dX3_holds_115 : decode cX3_holds 115 = .ok (.lconst 0, 1) := by decide +kernel
theorem dX3_holds_116 : decode cX3_holds 116 = .ok (.lcmp, 1) := by decide +kernel
theorem dX3_holds_117 : decode cX3_holds 117 = .ok (.ifCond .lt 7, 3) := by decide +kernel
theorem dX3_holds_120 : decode cX3_holds 120 = .ok (.iconst 1, 1) := by decide +kernel
theorem dX3_holds_121 : decode cX3_holds 121 = .ok (.goto 4, 3) := by decide +kernel
theorem dX3_holds_124 : decode cX3_holds 124 = .ok (.iconst 0, 1) := by decide +kernel
theorem dX3_holds_125 : decode cX3_holds 125 = .ok (.ireturn, 1) := by decide +kernel
theorem dX3_take_0 : decode cX3_take 0 = .ok (.aload_n 0, 1) := by decide +kernel
theorem dX3_take_1 : decode cX3_take 1 = .ok (.iload_n 1, 1) := by decide +kernel
theorem dX3_take_2 : decode cX3_take 2 = .ok (.invokevirtual 88, 3) := by decide +kernel
theorem dX3_take_5 : decode cX3_take 5 = .ok (.ifCond .ne 4, 3) := by decide +kernel
theorem dX3_take_8 : decode cX3_take 8 = .ok (.return_, 1) := by decide +kernel
theorem dX3_take_9 : decode cX3_take 9 = .ok (.aload_n 0, 1) := by decide +kernel
theorem dX3_take_10 : decode cX3_take 10 = .ok (.invokevirtual 92, 3) := by decide +kernel
theorem dX3_take_13 : decode cX3_take 13 = .ok (.lstore_n 2, 1) := by decide +kernel
theorem dX3_take_14 : decode cX3_take 14 = .ok (.lload_n 2, 1) := by decide +kernel
theorem dX3_take_15 : decode cX3_take 15 = .ok (.lconst 0, 1) := by decide +kernel
theorem dX3_take_16 : decode cX3_take 16 = .ok (.lcmp, 1) := by decide +kernel
theorem dX3_take_17 : decode cX3_take 17 = .ok (.ifCond .ne 4, 3) := by decide +kernel
theorem dX3_take_20 : decode cX3_take 20 = .ok (.return_, 1) := by decide +kernel
theorem dX3_take_21 : decode cX3_take 21 = .ok (.lload_n 2, 1) := by decide +kernel
theorem dX3_take_22 : decode cX3_take 22 = .ok (.lconst 0, 1) := by decide +kernel
theorem dX3_take_23 : decode cX3_take 23 = .ok (.lcmp, 1) := by decide +kernel
theorem dX3_take_24 : decode cX3_take 24 = .ok (.ifCond .ge 9, 3) := by decide +kernel
theorem dX3_take_27 : decode cX3_take 27 = .ok (.ldc2_w 96, 3) := by decide +kernel
theorem dX3_take_30 : decode cX3_take 30 = .ok (.goto 4, 3) := by decide +kernel
theorem dX3_take_33 : decode cX3_take 33 = .ok (.lconst 1, 1) := by decide +kernel
theorem dX3_take_34 : decode cX3_take 34 = .ok (.lstore 4, 2) := by decide +kernel
theorem dX3_take_36 : decode cX3_take 36 = .ok (.aload_n 0, 1) := by decide +kernel
theorem dX3_take_37 : decode cX3_take 37 = .ok (.getfield 45, 3) := by decide +kernel
theorem dX3_take_40 : decode cX3_take 40 = .ok (.aload_n 0, 1) := by decide +kernel
theorem dX3_take_41 : decode cX3_take 41 = .ok (.getfield 85, 3) := by decide +kernel
theorem dX3_take_44 : decode cX3_take 44 = .ok (.lload 4, 2) := by decide +kernel
theorem dX3_take_46 : decode cX3_take 46 = .ok (.lload_n 2, 1) := by decide +kernel
theorem dX3_take_47 : decode cX3_take 47 = .ok (.lmul, 1) := by decide +kernel
theorem dX3_take_48 : decode cX3_take 48 = .ok (.lastore, 1) := by decide +kernel
theorem dX3_take_49 : decode cX3_take 49 = .ok (.aload_n 0, 1) := by decide +kernel
theorem dX3_take_50 : decode cX3_take 50 = .ok (.getfield 48, 3) := by decide +kernel
theorem dX3_take_53 : decode cX3_take 53 = .ok (.aload_n 0, 1) := by decide +kernel
theorem dX3_take_54 : decode cX3_take 54 = .ok (.getfield 85, 3) := by decide +kernel
theorem dX3_take_57 : decode cX3_take 57 = .ok (.lconst 0, 1) := by decide +kernel
theorem dX3_take_58 : decode cX3_take 58 = .ok (.lastore, 1) := by decide +kernel
theorem dX3_take_59 : decode cX3_take 59 = .ok (.iconst 0, 1) := by decide +kernel
theorem dX3_take_60 : decode cX3_take 60 = .ok (.istore 6, 2) := by decide +kernel
theorem dX3_take_62 : decode cX3_take 62 = .ok (.iload 6, 2) := by decide +kernel
theorem dX3_take_64 : decode cX3_take 64 = .ok (.iconst 5, 1) := by decide +kernel
theorem dX3_take_65 : decode cX3_take 65 = .ok (.if_icmp .ge 102, 3) := by decide +kernel
theorem dX3_take_68 : decode cX3_take 68 = .ok (.aload_n 0, 1) := by decide +kernel
theorem dX3_take_69 : decode cX3_take 69 = .ok (.getfield 42, 3) := by decide +kernel
theorem dX3_take_72 : decode cX3_take 72 = .ok (.iconst 5, 1) := by decide +kernel
theorem dX3_take_73 : decode cX3_take 73 = .ok (.aload_n 0, 1) := by decide +kernel
theorem dX3_take_74 : decode cX3_take 74 = .ok (.getfield 85, 3) := by decide +kernel
theorem dX3_take_77 : decode cX3_take 77 = .ok (.imul, 1) := by decide +kernel
theorem dX3_take_78 : decode cX3_take 78 = .ok (.iload 6, 2) := by decide +kernel
theorem dX3_take_80 : decode cX3_take 80 = .ok (.iadd, 1) := by decide +kernel
theorem dX3_take_81 : decode cX3_take 81 = .ok (.iload 6, 2) := by decide +kernel
theorem dX3_take_83 : decode cX3_take 83 = .ok (.aload_n 0, 1) := by decide +kernel
theorem dX3_take_84 : decode cX3_take 84 = .ok (.getfield 71, 3) := by decide +kernel
theorem dX3_take_87 : decode cX3_take 87 = .ok (.if_icmp .ge 24, 3) := by decide +kernel
theorem dX3_take_90 : decode cX3_take 90 = .ok (.lload 4, 2) := by decide +kernel
theorem dX3_take_92 : decode cX3_take 92 = .ok (.aload_n 0, 1) := by decide +kernel
theorem dX3_take_93 : decode cX3_take 93 = .ok (.getfield 38, 3) := by decide +kernel
theorem dX3_take_96 : decode cX3_take 96 = .ok (.bipush 6, 2) := by decide +kernel
theorem dX3_take_98 : decode cX3_take 98 = .ok (.iload 6, 2) := by decide +kernel
theorem dX3_take_100 : decode cX3_take 100 = .ok (.imul, 1) := by decide +kernel
theorem dX3_take_101 : decode cX3_take 101 = .ok (.aload_n 0, 1) := by decide +kernel
theorem dX3_take_102 : decode cX3_take 102 = .ok (.getfield 71, 3) := by decide +kernel
theorem dX3_take_105 : decode cX3_take 105 = .ok (.iadd, 1) := by decide +kernel
theorem dX3_take_106 : decode cX3_take 106 = .ok (.laload, 1) := by decide +kernel
theorem dX3_take_107 : decode cX3_take 107 = .ok (.lmul, 1) := by decide +kernel
theorem dX3_take_108 : decode cX3_take 108 = .ok (.goto 4, 3) := by decide +kernel
theorem dX3_take_111 : decode cX3_take 111 = .ok (.lconst 0, 1) := by decide +kernel
theorem dX3_take_112 : decode cX3_take 112 = .ok (.lastore, 1) := by decide +kernel
theorem dX3_take_113 : decode cX3_take 113 = .ok (.aload_n 0, 1) := by decide +kernel
theorem dX3_take_114 : decode cX3_take 114 = .ok (.getfield 48, 3) := by decide +kernel
theorem dX3_take_117 : decode cX3_take 117 = .ok (.aload_n 0, 1) := by decide +kernel
theorem dX3_take_118 : decode cX3_take 118 = .ok (.getfield 85, 3) := by decide +kernel
theorem dX3_take_121 : decode cX3_take 121 = .ok (.dup2, 1) := by decide +kernel
theorem dX3_take_122 : decode cX3_take 122 = .ok (.laload, 1) := by decide +kernel
theorem dX3_take_123 : decode cX3_take 123 = .ok (.iload 6, 2) := by decide +kernel
theorem dX3_take_125 : decode cX3_take 125 = .ok (.aload_n 0, 1) := by decide +kernel
theorem dX3_take_126 : decode cX3_take 126 = .ok (.getfield 7, 3) := by decide +kernel
theorem dX3_take_129 : decode cX3_take 129 = .ok (.if_icmp .ge 29, 3) := by decide +kernel
theorem dX3_take_132 : decode cX3_take 132 = .ok (.aload_n 0, 1) := by decide +kernel
theorem dX3_take_133 : decode cX3_take 133 = .ok (.getfield 20, 3) := by decide +kernel
theorem dX3_take_136 : decode cX3_take 136 = .ok (.iload 6, 2) := by decide +kernel
theorem dX3_take_138 : decode cX3_take 138 = .ok (.iaload, 1) := by decide +kernel
theorem dX3_take_139 : decode cX3_take 139 = .ok (.i2l, 1) := by decide +kernel
theorem dX3_take_140 : decode cX3_take 140 = .ok (.aload_n 0, 1) := by decide +kernel
theorem dX3_take_141 : decode cX3_take 141 = .ok (.getfield 42, 3) := by decide +kernel
theorem dX3_take_144 : decode cX3_take 144 = .ok (.iconst 5, 1) := by decide +kernel
theorem dX3_take_145 : decode cX3_take 145 = .ok (.aload_n 0, 1) := by decide +kernel
theorem dX3_take_146 : decode cX3_take 146 = .ok (.getfield 85, 3) := by decide +kernel
theorem dX3_take_149 : decode cX3_take 149 = .ok (.imul, 1) := by decide +kernel
theorem dX3_take_150 : decode cX3_take 150 = .ok (.iload 6, 2) := by decide +kernel
theorem dX3_take_152 : decode cX3_take 152 = .ok (.iadd, 1) := by decide +kernel
theorem dX3_take_153 : decode cX3_take 153 = .ok (.laload, 1) := by decide +kernel
theorem dX3_take_154 : decode cX3_take 154 = .ok (.lmul, 1) := by decide +kernel
theorem dX3_take_155 : decode cX3_take 155 = .ok (.goto 4, 3) := by decide +kernel
theorem dX3_take_158 : decode cX3_take 158 = .ok (.lconst 0, 1) := by decide +kernel
theorem dX3_take_159 : decode cX3_take 159 = .ok (.ladd, 1) := by decide +kernel
theorem dX3_take_160 : decode cX3_take 160 = .ok (.lastore, 1) := by decide +kernel
theorem dX3_take_161 : decode cX3_take 161 = .ok (.iinc 6 1, 3) := by decide +kernel
theorem dX3_take_164 : decode cX3_take 164 = .ok (.goto (-102), 3) := by decide +kernel
theorem dX3_take_167 : decode cX3_take 167 = .ok (.iconst 1, 1) := by decide +kernel
theorem dX3_take_168 : decode cX3_take 168 = .ok (.istore 6, 2) := by decide +kernel
theorem dX3_take_170 : decode cX3_take 170 = .ok (.iconst 0, 1) := by decide +kernel
theorem dX3_take_171 : decode cX3_take 171 = .ok (.istore 7, 2) := by decide +kernel
theorem dX3_take_173 : decode cX3_take 173 = .ok (.iload 7, 2) := by decide +kernel
theorem dX3_take_175 : decode cX3_take 175 = .ok (.aload_n 0, 1) := by decide +kernel
theorem dX3_take_176 : decode cX3_take 176 = .ok (.getfield 68, 3) := by decide +kernel
theorem dX3_take_179 : decode cX3_take 179 = .ok (.if_icmp .ge 30, 3) := by decide +kernel
theorem dX3_take_182 : decode cX3_take 182 = .ok (.iload 6, 2) := by decide +kernel
theorem dX3_take_184 : decode cX3_take 184 = .ok (.ifCond .eq 16, 3) := by decide +kernel
theorem dX3_take_187 : decode cX3_take 187 = .ok (.aload_n 0, 1) := by decide +kernel
theorem dX3_take_188 : decode cX3_take 188 = .ok (.iload 7, 2) := by decide +kernel
theorem dX3_take_190 : decode cX3_take 190 = .ok (.invokevirtual 98, 3) := by decide +kernel
theorem dX3_take_193 : decode cX3_take 193 = .ok (.ifCond .eq 7, 3) := by decide +kernel
theorem dX3_take_196 : decode cX3_take 196 = .ok (.iconst 1, 1) := by decide +kernel
theorem dX3_take_197 : decode cX3_take 197 = .ok (.goto 4, 3) := by decide +kernel
theorem dX3_take_200 : decode cX3_take 200 = .ok (.iconst 0, 1) := by decide +kernel
theorem dX3_take_201 : decode cX3_take 201 = .ok (.istore 6, 2) := by decide +kernel
theorem dX3_take_203 : decode cX3_take 203 = .ok (.iinc 7 1, 3) := by decide +kernel
theorem dX3_take_206 : decode cX3_take 206 = .ok (.goto (-33), 3) := by decide +kernel
theorem dX3_take_209 : decode cX3_take 209 = .ok (.aload_n 0, 1) := by decide +kernel
theorem dX3_take_210 : decode cX3_take 210 = .ok (.dup, 1) := by decide +kernel
theorem dX3_take_211 : decode cX3_take 211 = .ok (.getfield 85, 3) := by decide +kernel
theorem dX3_take_214 : decode cX3_take 214 = .ok (.iload 6, 2) := by decide +kernel
theorem dX3_take_216 : decode cX3_take 216 = .ok (.ifCond .eq 7, 3) := by decide +kernel
theorem dX3_take_219 : decode cX3_take 219 = .ok (.iconst 1, 1) := by decide +kernel
theorem dX3_take_220 : decode cX3_take 220 = .ok (.goto 4, 3) := by decide +kernel
theorem dX3_take_223 : decode cX3_take 223 = .ok (.iconst 0, 1) := by decide +kernel
theorem dX3_take_224 : decode cX3_take 224 = .ok (.iadd, 1) := by decide +kernel
theorem dX3_take_225 : decode cX3_take 225 = .ok (.putfield 85, 3) := by decide +kernel
theorem dX3_take_228 : decode cX3_take 228 = .ok (.return_, 1) := by decide +kernel
theorem dX3_collect_0 : decode cX3_collect 0 = .ok (.aload_n 0, 1) := by decide +kernel
theorem dX3_collect_1 : decode cX3_collect 1 = .ok (.iload_n 1, 1) := by decide +kernel
theorem dX3_collect_2 : decode cX3_collect 2 = .ok (.iload_n 2, 1) := by decide +kernel
theorem dX3_collect_3 : decode cX3_collect 3 = .ok (.invokevirtual 101, 3) := by decide +kernel
theorem dX3_collect_6 : decode cX3_collect 6 = .ok (.aload_n 0, 1) := by decide +kernel
theorem dX3_collect_7 : decode cX3_collect 7 = .ok (.iconst 0, 1) := by decide +kernel
theorem dX3_collect_8 : decode cX3_collect 8 = .ok (.putfield 85, 3) := by decide +kernel
theorem dX3_collect_11 : decode cX3_collect 11 = .ok (.iconst 1, 1) := by decide +kernel
theorem dX3_collect_12 : decode cX3_collect 12 = .ok (.istore_n 3, 1) := by decide +kernel
theorem dX3_collect_13 : decode cX3_collect 13 = .ok (.iload_n 3, 1) := by decide +kernel
theorem dX3_collect_14 : decode cX3_collect 14 = .ok (.iconst 1, 1) := by decide +kernel
theorem dX3_collect_15 : decode cX3_collect 15 = .ok (.aload_n 0, 1) := by decide +kernel
theorem dX3_collect_16 : decode cX3_collect 16 = .ok (.getfield 68, 3) := by decide +kernel
theorem dX3_collect_19 : decode cX3_collect 19 = .ok (.ishl, 1) := by decide +kernel
theorem dX3_collect_20 : decode cX3_collect 20 = .ok (.if_icmp .ge 14, 3) := by decide +kernel
theorem dX3_collect_23 : decode cX3_collect 23 = .ok (.aload_n 0, 1) := by decide +kernel
theorem dX3_collect_24 : decode cX3_collect 24 = .ok (.iload_n 3, 1) := by decide +kernel
theorem dX3_collect_25 : decode cX3_collect 25 = .ok (.invokevirtual 104, 3) := by decide +kernel
theorem dX3_collect_28 : decode cX3_collect 28 = .ok (.iinc 3 1, 3) := by decide +kernel
theorem dX3_collect_31 : decode cX3_collect 31 = .ok (.goto (-18), 3) := by decide +kernel
theorem dX3_collect_34 : decode cX3_collect 34 = .ok (.return_, 1) := by decide +kernel
theorem dX3_everyRow_0 : decode cX3_everyRow 0 = .ok (.iconst 1, 1) := by decide +kernel
theorem dX3_everyRow_1 : decode cX3_everyRow 1 = .ok (.aload_n 0, 1) := by decide +kernel
theorem dX3_everyRow_2 : decode cX3_everyRow 2 = .ok (.getfield 65, 3) := by decide +kernel
theorem dX3_everyRow_5 : decode cX3_everyRow 5 = .ok (.ishl, 1) := by decide +kernel
theorem dX3_everyRow_6 : decode cX3_everyRow 6 = .ok (.iconst 1, 1) := by decide +kernel
theorem dX3_everyRow_7 : decode cX3_everyRow 7 = .ok (.isub, 1) := by decide +kernel
theorem dX3_everyRow_8 : decode cX3_everyRow 8 = .ok (.ireturn, 1) := by decide +kernel
theorem dX3_infeasible_0 : decode cX3_infeasible 0 = .ok (.aload_n 0, 1) := by decide +kernel
theorem dX3_infeasible_1 : decode cX3_infeasible 1 = .ok (.iload_n 1, 1) := by decide +kernel
theorem dX3_infeasible_2 : decode cX3_infeasible 2 = .ok (.iconst 0, 1) := by decide +kernel
theorem dX3_infeasible_3 : decode cX3_infeasible 3 = .ok (.invokevirtual 108, 3) := by decide +kernel
theorem dX3_infeasible_6 : decode cX3_infeasible 6 = .ok (.aload_n 0, 1) := by decide +kernel
theorem dX3_infeasible_7 : decode cX3_infeasible 7 = .ok (.getfield 85, 3) := by decide +kernel
theorem dX3_infeasible_10 : decode cX3_infeasible 10 = .ok (.ifCond .ne 7, 3) := by decide +kernel
theorem dX3_infeasible_13 : decode cX3_infeasible 13 = .ok (.iconst 1, 1) := by decide +kernel
theorem dX3_infeasible_14 : decode cX3_infeasible 14 = .ok (.goto 4, 3) := by decide +kernel
theorem dX3_infeasible_17 : decode cX3_infeasible 17 = .ok (.iconst 0, 1) := by decide +kernel
theorem dX3_infeasible_18 : decode cX3_infeasible 18 = .ok (.ireturn, 1) := by decide +kernel
theorem dX3_grows_0 : decode cX3_grows 0 = .ok (.aload_n 0, 1) := by decide +kernel
theorem dX3_grows_1 : decode cX3_grows 1 = .ok (.aload_n 0, 1) := by decide +kernel
theorem dX3_grows_2 : decode cX3_grows 2 = .ok (.invokevirtual 111, 3) := by decide +kernel
theorem dX3_grows_5 : decode cX3_grows 5 = .ok (.iconst 1, 1) := by decide +kernel
theorem dX3_grows_6 : decode cX3_grows 6 = .ok (.invokevirtual 108, 3) := by decide +kernel
theorem dX3_grows_9 : decode cX3_grows 9 = .ok (.iconst 0, 1) := by decide +kernel
theorem dX3_grows_10 : decode cX3_grows 10 = .ok (.istore_n 1, 1) := by decide +kernel
theorem dX3_grows_11 : decode cX3_grows 11 = .ok (.iconst 0, 1) := by decide +kernel
theorem dX3_grows_12 : decode cX3_grows 12 = .ok (.istore_n 2, 1) := by decide +kernel
theorem dX3_grows_13 : decode cX3_grows 13 = .ok (.iload_n 2, 1) := by decide +kernel
theorem dX3_grows_14 : decode cX3_grows 14 = .ok (.aload_n 0, 1) := by decide +kernel
theorem dX3_grows_15 : decode cX3_grows 15 = .ok (.getfield 85, 3) := by decide +kernel
theorem dX3_grows_18 : decode cX3_grows 18 = .ok (.if_icmp .ge 30, 3) := by decide +kernel
theorem dX3_grows_21 : decode cX3_grows 21 = .ok (.iload_n 1, 1) := by decide +kernel
theorem dX3_grows_22 : decode cX3_grows 22 = .ok (.ifCond .ne 14, 3) := by decide +kernel
theorem dX3_grows_25 : decode cX3_grows 25 = .ok (.aload_n 0, 1) := by decide +kernel
theorem dX3_grows_26 : decode cX3_grows 26 = .ok (.getfield 48, 3) := by decide +kernel
theorem dX3_grows_29 : decode cX3_grows 29 = .ok (.iload_n 2, 1) := by decide +kernel
theorem dX3_grows_30 : decode cX3_grows 30 = .ok (.laload, 1) := by decide +kernel
theorem dX3_grows_31 : decode cX3_grows 31 = .ok (.lconst 0, 1) := by decide +kernel
theorem dX3_grows_32 : decode cX3_grows 32 = .ok (.lcmp, 1) := by decide +kernel
theorem dX3_grows_33 : decode cX3_grows 33 = .ok (.ifCond .le 7, 3) := by decide +kernel
theorem dX3_grows_36 : decode cX3_grows 36 = .ok (.iconst 1, 1) := by decide +kernel
theorem dX3_grows_37 : decode cX3_grows 37 = .ok (.goto 4, 3) := by decide +kernel
theorem dX3_grows_40 : decode cX3_grows 40 = .ok (.iconst 0, 1) := by decide +kernel
theorem dX3_grows_41 : decode cX3_grows 41 = .ok (.istore_n 1, 1) := by decide +kernel
theorem dX3_grows_42 : decode cX3_grows 42 = .ok (.iinc 2 1, 3) := by decide +kernel
theorem dX3_grows_45 : decode cX3_grows 45 = .ok (.goto (-32), 3) := by decide +kernel
theorem dX3_grows_48 : decode cX3_grows 48 = .ok (.iload_n 1, 1) := by decide +kernel
theorem dX3_grows_49 : decode cX3_grows 49 = .ok (.ireturn, 1) := by decide +kernel
theorem dX3_status_0 : decode cX3_status 0 = .ok (.aload_n 0, 1) := by decide +kernel
theorem dX3_status_1 : decode cX3_status 1 = .ok (.aload_n 0, 1) := by decide +kernel
theorem dX3_status_2 : decode cX3_status 2 = .ok (.invokevirtual 111, 3) := by decide +kernel
theorem dX3_status_5 : decode cX3_status 5 = .ok (.invokevirtual 115, 3) := by decide +kernel
theorem dX3_status_8 : decode cX3_status 8 = .ok (.ifCond .eq 7, 3) := by decide +kernel
theorem dX3_status_11 : decode cX3_status 11 = .ok (.iconst 1, 1) := by decide +kernel
theorem dX3_status_12 : decode cX3_status 12 = .ok (.goto 15, 3) := by decide +kernel
theorem dX3_status_15 : decode cX3_status 15 = .ok (.aload_n 0, 1) := by decide +kernel
theorem dX3_status_16 : decode cX3_status 16 = .ok (.invokevirtual 118, 3) := by decide +kernel
theorem dX3_status_19 : decode cX3_status 19 = .ok (.ifCond .eq 7, 3) := by decide +kernel
theorem dX3_status_22 : decode cX3_status 22 = .ok (.iconst 2, 1) := by decide +kernel
theorem dX3_status_23 : decode cX3_status 23 = .ok (.goto 4, 3) := by decide +kernel
theorem dX3_status_26 : decode cX3_status 26 = .ok (.iconst 0, 1) := by decide +kernel
theorem dX3_status_27 : decode cX3_status 27 = .ok (.ireturn, 1) := by decide +kernel
theorem dX3_solve_0 : decode cX3_solve 0 = .ok (.aload_n 0, 1) := by decide +kernel
theorem dX3_solve_1 : decode cX3_solve 1 = .ok (.iconst 0, 1) := by decide +kernel
theorem dX3_solve_2 : decode cX3_solve 2 = .ok (.putfield 54, 3) := by decide +kernel
theorem dX3_solve_5 : decode cX3_solve 5 = .ok (.aload_n 0, 1) := by decide +kernel
theorem dX3_solve_6 : decode cX3_solve 6 = .ok (.invokevirtual 122, 3) := by decide +kernel
theorem dX3_solve_9 : decode cX3_solve 9 = .ok (.ireturn, 1) := by decide +kernel
theorem dX3_compare_0 : decode cX3_compare 0 = .ok (.lload_n 0, 1) := by decide +kernel
theorem dX3_compare_1 : decode cX3_compare 1 = .ok (.lload 6, 2) := by decide +kernel
theorem dX3_compare_3 : decode cX3_compare 3 = .ok (.lmul, 1) := by decide +kernel
theorem dX3_compare_4 : decode cX3_compare 4 = .ok (.lload 4, 2) := by decide +kernel
theorem dX3_compare_6 : decode cX3_compare 6 = .ok (.lload_n 2, 1) := by decide +kernel
theorem dX3_compare_7 : decode cX3_compare 7 = .ok (.lmul, 1) := by decide +kernel
theorem dX3_compare_8 : decode cX3_compare 8 = .ok (.lcmp, 1) := by decide +kernel
theorem dX3_compare_9 : decode cX3_compare 9 = .ok (.ifCond .ge 7, 3) := by decide +kernel
theorem dX3_compare_12 : decode cX3_compare 12 = .ok (.iconst (-1), 1) := by decide +kernel
theorem dX3_compare_13 : decode cX3_compare 13 = .ok (.goto 20, 3) := by decide +kernel
theorem dX3_compare_16 : decode cX3_compare 16 = .ok (.lload_n 0, 1) := by decide +kernel
theorem dX3_compare_17 : decode cX3_compare 17 = .ok (.lload 6, 2) := by decide +kernel
theorem dX3_compare_19 : decode cX3_compare 19 = .ok (.lmul, 1) := by decide +kernel
theorem dX3_compare_20 : decode cX3_compare 20 = .ok (.lload 4, 2) := by decide +kernel
theorem dX3_compare_22 : decode cX3_compare 22 = .ok (.lload_n 2, 1) := by decide +kernel
theorem dX3_compare_23 : decode cX3_compare 23 = .ok (.lmul, 1) := by decide +kernel
theorem dX3_compare_24 : decode cX3_compare 24 = .ok (.lcmp, 1) := by decide +kernel
theorem dX3_compare_25 : decode cX3_compare 25 = .ok (.ifCond .le 7, 3) := by decide +kernel
theorem dX3_compare_28 : decode cX3_compare 28 = .ok (.iconst 1, 1) := by decide +kernel
theorem dX3_compare_29 : decode cX3_compare 29 = .ok (.goto 4, 3) := by decide +kernel
theorem dX3_compare_32 : decode cX3_compare 32 = .ok (.iconst 0, 1) := by decide +kernel
theorem dX3_compare_33 : decode cX3_compare 33 = .ok (.ireturn, 1) := by decide +kernel
theorem dX3_divisor_0 : decode cX3_divisor 0 = .ok (.lload_n 0, 1) := by decide +kernel
theorem dX3_divisor_1 : decode cX3_divisor 1 = .ok (.lconst 0, 1) := by decide +kernel
theorem dX3_divisor_2 : decode cX3_divisor 2 = .ok (.lcmp, 1) := by decide +kernel
theorem dX3_divisor_3 : decode cX3_divisor 3 = .ok (.ifCond .ge 8, 3) := by decide +kernel
theorem dX3_divisor_6 : decode cX3_divisor 6 = .ok (.lload_n 0, 1) := by decide +kernel
theorem dX3_divisor_7 : decode cX3_divisor 7 = .ok (.lneg, 1) := by decide +kernel
theorem dX3_divisor_8 : decode cX3_divisor 8 = .ok (.goto 4, 3) := by decide +kernel
theorem dX3_divisor_11 : decode cX3_divisor 11 = .ok (.lload_n 0, 1) := by decide +kernel
theorem dX3_divisor_12 : decode cX3_divisor 12 = .ok (.lstore 4, 2) := by decide +kernel
theorem dX3_divisor_14 : decode cX3_divisor 14 = .ok (.lload_n 2, 1) := by decide +kernel
theorem dX3_divisor_15 : decode cX3_divisor 15 = .ok (.lstore 6, 2) := by decide +kernel
theorem dX3_divisor_17 : decode cX3_divisor 17 = .ok (.lload 6, 2) := by decide +kernel
theorem dX3_divisor_19 : decode cX3_divisor 19 = .ok (.lconst 0, 1) := by decide +kernel
theorem dX3_divisor_20 : decode cX3_divisor 20 = .ok (.lcmp, 1) := by decide +kernel
theorem dX3_divisor_21 : decode cX3_divisor 21 = .ok (.ifCond .eq 21, 3) := by decide +kernel
theorem dX3_divisor_24 : decode cX3_divisor 24 = .ok (.lload 4, 2) := by decide +kernel
theorem dX3_divisor_26 : decode cX3_divisor 26 = .ok (.lload 6, 2) := by decide +kernel
theorem dX3_divisor_28 : decode cX3_divisor 28 = .ok (.lrem, 1) := by decide +kernel
theorem dX3_divisor_29 : decode cX3_divisor 29 = .ok (.lstore 8, 2) := by decide +kernel
theorem dX3_divisor_31 : decode cX3_divisor 31 = .ok (.lload 6, 2) := by decide +kernel
theorem dX3_divisor_33 : decode cX3_divisor 33 = .ok (.lstore 4, 2) := by decide +kernel
theorem dX3_divisor_35 : decode cX3_divisor 35 = .ok (.lload 8, 2) := by decide +kernel
theorem dX3_divisor_37 : decode cX3_divisor 37 = .ok (.lstore 6, 2) := by decide +kernel
theorem dX3_divisor_39 : decode cX3_divisor 39 = .ok (.goto (-22), 3) := by decide +kernel
theorem dX3_divisor_42 : decode cX3_divisor 42 = .ok (.lload 4, 2) := by decide +kernel
theorem dX3_divisor_44 : decode cX3_divisor 44 = .ok (.lreturn, 1) := by decide +kernel
theorem dX3_told_0 : decode cX3_told 0 = .ok (.lload_n 0, 1) := by decide +kernel
theorem dX3_told_1 : decode cX3_told 1 = .ok (.lload_n 2, 1) := by decide +kernel
theorem dX3_told_2 : decode cX3_told 2 = .ok (.invokestatic 125, 3) := by decide +kernel
theorem dX3_told_5 : decode cX3_told 5 = .ok (.lstore 5, 2) := by decide +kernel
theorem dX3_told_7 : decode cX3_told 7 = .ok (.iload 4, 2) := by decide +kernel
theorem dX3_told_9 : decode cX3_told 9 = .ok (.ifCond .ne 10, 3) := by decide +kernel
theorem dX3_told_12 : decode cX3_told 12 = .ok (.lload_n 0, 1) := by decide +kernel
theorem dX3_told_13 : decode cX3_told 13 = .ok (.lload 5, 2) := by decide +kernel
theorem dX3_told_15 : decode cX3_told 15 = .ok (.ldiv, 1) := by decide +kernel
theorem dX3_told_16 : decode cX3_told 16 = .ok (.goto 7, 3) := by decide +kernel
theorem dX3_told_19 : decode cX3_told 19 = .ok (.lload_n 2, 1) := by decide +kernel
theorem dX3_told_20 : decode cX3_told 20 = .ok (.lload 5, 2) := by decide +kernel
theorem dX3_told_22 : decode cX3_told 22 = .ok (.ldiv, 1) := by decide +kernel
theorem dX3_told_23 : decode cX3_told 23 = .ok (.lreturn, 1) := by decide +kernel
theorem dX3_better_0 : decode cX3_better 0 = .ok (.aload_n 0, 1) := by decide +kernel
theorem dX3_better_1 : decode cX3_better 1 = .ok (.getfield 48, 3) := by decide +kernel
theorem dX3_better_4 : decode cX3_better 4 = .ok (.iload_n 1, 1) := by decide +kernel
theorem dX3_better_5 : decode cX3_better 5 = .ok (.laload, 1) := by decide +kernel
theorem dX3_better_6 : decode cX3_better 6 = .ok (.aload_n 0, 1) := by decide +kernel
theorem dX3_better_7 : decode cX3_better 7 = .ok (.getfield 45, 3) := by decide +kernel
theorem dX3_better_10 : decode cX3_better 10 = .ok (.iload_n 1, 1) := by decide +kernel
theorem dX3_better_11 : decode cX3_better 11 = .ok (.laload, 1) := by decide +kernel
theorem dX3_better_12 : decode cX3_better 12 = .ok (.aload_n 0, 1) := by decide +kernel
theorem dX3_better_13 : decode cX3_better 13 = .ok (.getfield 48, 3) := by decide +kernel
theorem dX3_better_16 : decode cX3_better 16 = .ok (.iload_n 2, 1) := by decide +kernel
theorem dX3_better_17 : decode cX3_better 17 = .ok (.laload, 1) := by decide +kernel
theorem dX3_better_18 : decode cX3_better 18 = .ok (.aload_n 0, 1) := by decide +kernel
theorem dX3_better_19 : decode cX3_better 19 = .ok (.getfield 45, 3) := by decide +kernel
theorem dX3_better_22 : decode cX3_better 22 = .ok (.iload_n 2, 1) := by decide +kernel
theorem dX3_better_23 : decode cX3_better 23 = .ok (.laload, 1) := by decide +kernel
theorem dX3_better_24 : decode cX3_better 24 = .ok (.invokestatic 129, 3) := by decide +kernel
theorem dX3_better_27 : decode cX3_better 27 = .ok (.istore_n 3, 1) := by decide +kernel
theorem dX3_better_28 : decode cX3_better 28 = .ok (.iconst 0, 1) := by decide +kernel
theorem dX3_better_29 : decode cX3_better 29 = .ok (.istore 4, 2) := by decide +kernel
theorem dX3_better_31 : decode cX3_better 31 = .ok (.iload 4, 2) := by decide +kernel
theorem dX3_better_33 : decode cX3_better 33 = .ok (.aload_n 0, 1) := by decide +kernel
theorem dX3_better_34 : decode cX3_better 34 = .ok (.getfield 7, 3) := by decide +kernel
theorem dX3_better_37 : decode cX3_better 37 = .ok (.if_icmp .ge 51, 3) := by decide +kernel
theorem dX3_better_40 : decode cX3_better 40 = .ok (.iload_n 3, 1) := by decide +kernel
theorem dX3_better_41 : decode cX3_better 41 = .ok (.ifCond .ne 47, 3) := by decide +kernel
theorem dX3_better_44 : decode cX3_better 44 = .ok (.aload_n 0, 1) := by decide +kernel
theorem dX3_better_45 : decode cX3_better 45 = .ok (.getfield 42, 3) := by decide +kernel
theorem dX3_better_48 : decode cX3_better 48 = .ok (.iconst 5, 1) := by decide +kernel
theorem dX3_better_49 : decode cX3_better 49 = .ok (.iload_n 2, 1) := by decide +kernel
theorem dX3_better_50 : decode cX3_better 50 = .ok (.imul, 1) := by decide +kernel
theorem dX3_better_51 : decode cX3_better 51 = .ok (.iload 4, 2) := by decide +kernel
theorem dX3_better_53 : decode cX3_better 53 = .ok (.iadd, 1) := by decide +kernel
theorem dX3_better_54 : decode cX3_better 54 = .ok (.laload, 1) := by decide +kernel
theorem dX3_better_55 : decode cX3_better 55 = .ok (.aload_n 0, 1) := by decide +kernel
theorem dX3_better_56 : decode cX3_better 56 = .ok (.getfield 45, 3) := by decide +kernel
theorem dX3_better_59 : decode cX3_better 59 = .ok (.iload_n 2, 1) := by decide +kernel
theorem dX3_better_60 : decode cX3_better 60 = .ok (.laload, 1) := by decide +kernel
theorem dX3_better_61 : decode cX3_better 61 = .ok (.aload_n 0, 1) := by decide +kernel
theorem dX3_better_62 : decode cX3_better 62 = .ok (.getfield 42, 3) := by decide +kernel
theorem dX3_better_65 : decode cX3_better 65 = .ok (.iconst 5, 1) := by decide +kernel
theorem dX3_better_66 : decode cX3_better 66 = .ok (.iload_n 1, 1) := by decide +kernel
theorem dX3_better_67 : decode cX3_better 67 = .ok (.imul, 1) := by decide +kernel
theorem dX3_better_68 : decode cX3_better 68 = .ok (.iload 4, 2) := by decide +kernel
theorem dX3_better_70 : decode cX3_better 70 = .ok (.iadd, 1) := by decide +kernel
theorem dX3_better_71 : decode cX3_better 71 = .ok (.laload, 1) := by decide +kernel
theorem dX3_better_72 : decode cX3_better 72 = .ok (.aload_n 0, 1) := by decide +kernel
theorem dX3_better_73 : decode cX3_better 73 = .ok (.getfield 45, 3) := by decide +kernel
theorem dX3_better_76 : decode cX3_better 76 = .ok (.iload_n 1, 1) := by decide +kernel
theorem dX3_better_77 : decode cX3_better 77 = .ok (.laload, 1) := by decide +kernel
theorem dX3_better_78 : decode cX3_better 78 = .ok (.invokestatic 129, 3) := by decide +kernel
theorem dX3_better_81 : decode cX3_better 81 = .ok (.istore_n 3, 1) := by decide +kernel
theorem dX3_better_82 : decode cX3_better 82 = .ok (.iinc 4 1, 3) := by decide +kernel
theorem dX3_better_85 : decode cX3_better 85 = .ok (.goto (-54), 3) := by decide +kernel
theorem dX3_better_88 : decode cX3_better 88 = .ok (.iload_n 3, 1) := by decide +kernel
theorem dX3_better_89 : decode cX3_better 89 = .ok (.ifCond .le 7, 3) := by decide +kernel
theorem dX3_better_92 : decode cX3_better 92 = .ok (.iconst 1, 1) := by decide +kernel
theorem dX3_better_93 : decode cX3_better 93 = .ok (.goto 4, 3) := by decide +kernel
theorem dX3_better_96 : decode cX3_better 96 = .ok (.iconst 0, 1) := by decide +kernel
theorem dX3_better_97 : decode cX3_better 97 = .ok (.ireturn, 1) := by decide +kernel
theorem dX3_best_0 : decode cX3_best 0 = .ok (.iconst 0, 1) := by decide +kernel
theorem dX3_best_1 : decode cX3_best 1 = .ok (.istore_n 1, 1) := by decide +kernel
theorem dX3_best_2 : decode cX3_best 2 = .ok (.iconst 1, 1) := by decide +kernel
theorem dX3_best_3 : decode cX3_best 3 = .ok (.istore_n 2, 1) := by decide +kernel
theorem dX3_best_4 : decode cX3_best 4 = .ok (.iload_n 2, 1) := by decide +kernel
theorem dX3_best_5 : decode cX3_best 5 = .ok (.aload_n 0, 1) := by decide +kernel
theorem dX3_best_6 : decode cX3_best 6 = .ok (.getfield 85, 3) := by decide +kernel
theorem dX3_best_9 : decode cX3_best 9 = .ok (.if_icmp .ge 24, 3) := by decide +kernel
theorem dX3_best_12 : decode cX3_best 12 = .ok (.aload_n 0, 1) := by decide +kernel
theorem dX3_best_13 : decode cX3_best 13 = .ok (.iload_n 2, 1) := by decide +kernel
theorem dX3_best_14 : decode cX3_best 14 = .ok (.iload_n 1, 1) := by decide +kernel
theorem dX3_best_15 : decode cX3_best 15 = .ok (.invokevirtual 133, 3) := by decide +kernel
theorem dX3_best_18 : decode cX3_best 18 = .ok (.ifCond .eq 7, 3) := by decide +kernel
theorem dX3_best_21 : decode cX3_best 21 = .ok (.iload_n 2, 1) := by decide +kernel
theorem dX3_best_22 : decode cX3_best 22 = .ok (.goto 4, 3) := by decide +kernel
theorem dX3_best_25 : decode cX3_best 25 = .ok (.iload_n 1, 1) := by decide +kernel
theorem dX3_best_26 : decode cX3_best 26 = .ok (.istore_n 1, 1) := by decide +kernel
theorem dX3_best_27 : decode cX3_best 27 = .ok (.iinc 2 1, 3) := by decide +kernel
theorem dX3_best_30 : decode cX3_best 30 = .ok (.goto (-26), 3) := by decide +kernel
theorem dX3_best_33 : decode cX3_best 33 = .ok (.iload_n 1, 1) := by decide +kernel
theorem dX3_best_34 : decode cX3_best 34 = .ok (.ireturn, 1) := by decide +kernel
theorem dX3_value_0 : decode cX3_value 0 = .ok (.aload_n 0, 1) := by decide +kernel
theorem dX3_value_1 : decode cX3_value 1 = .ok (.aload_n 0, 1) := by decide +kernel
theorem dX3_value_2 : decode cX3_value 2 = .ok (.invokevirtual 122, 3) := by decide +kernel
theorem dX3_value_5 : decode cX3_value 5 = .ok (.ifCond .eq 7, 3) := by decide +kernel
theorem dX3_value_8 : decode cX3_value 8 = .ok (.iconst 1, 1) := by decide +kernel
theorem dX3_value_9 : decode cX3_value 9 = .ok (.goto 4, 3) := by decide +kernel
theorem dX3_value_12 : decode cX3_value 12 = .ok (.iconst 0, 1) := by decide +kernel
theorem dX3_value_13 : decode cX3_value 13 = .ok (.iload_n 1, 1) := by decide +kernel
theorem dX3_value_14 : decode cX3_value 14 = .ok (.iconst 0, 1) := by decide +kernel
theorem dX3_value_15 : decode cX3_value 15 = .ok (.iconst 1, 1) := by decide +kernel
theorem dX3_value_16 : decode cX3_value 16 = .ok (.invokestatic 57, 3) := by decide +kernel
theorem dX3_value_19 : decode cX3_value 19 = .ok (.iconst 0, 1) := by decide +kernel
theorem dX3_value_20 : decode cX3_value 20 = .ok (.iconst 0, 1) := by decide +kernel
theorem dX3_value_21 : decode cX3_value 21 = .ok (.invokevirtual 61, 3) := by decide +kernel
theorem dX3_value_24 : decode cX3_value 24 = .ok (.ifCond .eq 5, 3) := by decide +kernel
theorem dX3_value_27 : decode cX3_value 27 = .ok (.lconst 0, 1) := by decide +kernel
theorem dX3_value_28 : decode cX3_value 28 = .ok (.lreturn, 1) := by decide +kernel
theorem dX3_value_29 : decode cX3_value 29 = .ok (.aload_n 0, 1) := by decide +kernel
theorem dX3_value_30 : decode cX3_value 30 = .ok (.aload_n 0, 1) := by decide +kernel
theorem dX3_value_31 : decode cX3_value 31 = .ok (.invokevirtual 111, 3) := by decide +kernel
theorem dX3_value_34 : decode cX3_value 34 = .ok (.iconst 0, 1) := by decide +kernel
theorem dX3_value_35 : decode cX3_value 35 = .ok (.invokevirtual 108, 3) := by decide +kernel
theorem dX3_value_38 : decode cX3_value 38 = .ok (.aload_n 0, 1) := by decide +kernel
theorem dX3_value_39 : decode cX3_value 39 = .ok (.invokevirtual 137, 3) := by decide +kernel
theorem dX3_value_42 : decode cX3_value 42 = .ok (.istore_n 2, 1) := by decide +kernel
theorem dX3_value_43 : decode cX3_value 43 = .ok (.aload_n 0, 1) := by decide +kernel
theorem dX3_value_44 : decode cX3_value 44 = .ok (.getfield 48, 3) := by decide +kernel
theorem dX3_value_47 : decode cX3_value 47 = .ok (.iload_n 2, 1) := by decide +kernel
theorem dX3_value_48 : decode cX3_value 48 = .ok (.laload, 1) := by decide +kernel
theorem dX3_value_49 : decode cX3_value 49 = .ok (.aload_n 0, 1) := by decide +kernel
theorem dX3_value_50 : decode cX3_value 50 = .ok (.getfield 45, 3) := by decide +kernel
theorem dX3_value_53 : decode cX3_value 53 = .ok (.iload_n 2, 1) := by decide +kernel
theorem dX3_value_54 : decode cX3_value 54 = .ok (.laload, 1) := by decide +kernel
theorem dX3_value_55 : decode cX3_value 55 = .ok (.iload_n 1, 1) := by decide +kernel
theorem dX3_value_56 : decode cX3_value 56 = .ok (.invokestatic 140, 3) := by decide +kernel
theorem dX3_value_59 : decode cX3_value 59 = .ok (.lreturn, 1) := by decide +kernel
theorem dX3_point_0 : decode cX3_point 0 = .ok (.aload_n 0, 1) := by decide +kernel
theorem dX3_point_1 : decode cX3_point 1 = .ok (.aload_n 0, 1) := by decide +kernel
theorem dX3_point_2 : decode cX3_point 2 = .ok (.invokevirtual 122, 3) := by decide +kernel
theorem dX3_point_5 : decode cX3_point 5 = .ok (.ifCond .eq 7, 3) := by decide +kernel
theorem dX3_point_8 : decode cX3_point 8 = .ok (.iconst 1, 1) := by decide +kernel
theorem dX3_point_9 : decode cX3_point 9 = .ok (.goto 4, 3) := by decide +kernel
theorem dX3_point_12 : decode cX3_point 12 = .ok (.iconst 0, 1) := by decide +kernel
theorem dX3_point_13 : decode cX3_point 13 = .ok (.iload_n 1, 1) := by decide +kernel
theorem dX3_point_14 : decode cX3_point 14 = .ok (.iconst 0, 1) := by decide +kernel
theorem dX3_point_15 : decode cX3_point 15 = .ok (.aload_n 0, 1) := by decide +kernel
theorem dX3_point_16 : decode cX3_point 16 = .ok (.getfield 7, 3) := by decide +kernel
theorem dX3_point_19 : decode cX3_point 19 = .ok (.iconst 1, 1) := by decide +kernel
theorem dX3_point_20 : decode cX3_point 20 = .ok (.isub, 1) := by decide +kernel
theorem dX3_point_21 : decode cX3_point 21 = .ok (.invokestatic 57, 3) := by decide +kernel
theorem dX3_point_24 : decode cX3_point 24 = .ok (.iload_n 2, 1) := by decide +kernel
theorem dX3_point_25 : decode cX3_point 25 = .ok (.iconst 0, 1) := by decide +kernel
theorem dX3_point_26 : decode cX3_point 26 = .ok (.iconst 1, 1) := by decide +kernel
theorem dX3_point_27 : decode cX3_point 27 = .ok (.invokestatic 57, 3) := by decide +kernel
theorem dX3_point_30 : decode cX3_point 30 = .ok (.iconst 0, 1) := by decide +kernel
theorem dX3_point_31 : decode cX3_point 31 = .ok (.invokevirtual 61, 3) := by decide +kernel
theorem dX3_point_34 : decode cX3_point 34 = .ok (.ifCond .eq 5, 3) := by decide +kernel
theorem dX3_point_37 : decode cX3_point 37 = .ok (.lconst 0, 1) := by decide +kernel
theorem dX3_point_38 : decode cX3_point 38 = .ok (.lreturn, 1) := by decide +kernel
theorem dX3_point_39 : decode cX3_point 39 = .ok (.aload_n 0, 1) := by decide +kernel
theorem dX3_point_40 : decode cX3_point 40 = .ok (.aload_n 0, 1) := by decide +kernel
theorem dX3_point_41 : decode cX3_point 41 = .ok (.invokevirtual 111, 3) := by decide +kernel
theorem dX3_point_44 : decode cX3_point 44 = .ok (.iconst 0, 1) := by decide +kernel
theorem dX3_point_45 : decode cX3_point 45 = .ok (.invokevirtual 108, 3) := by decide +kernel
theorem dX3_point_48 : decode cX3_point 48 = .ok (.aload_n 0, 1) := by decide +kernel
theorem dX3_point_49 : decode cX3_point 49 = .ok (.invokevirtual 137, 3) := by decide +kernel
theorem dX3_point_52 : decode cX3_point 52 = .ok (.istore_n 3, 1) := by decide +kernel
theorem dX3_point_53 : decode cX3_point 53 = .ok (.aload_n 0, 1) := by decide +kernel
theorem dX3_point_54 : decode cX3_point 54 = .ok (.getfield 42, 3) := by decide +kernel
theorem dX3_point_57 : decode cX3_point 57 = .ok (.iconst 5, 1) := by decide +kernel
theorem dX3_point_58 : decode cX3_point 58 = .ok (.iload_n 3, 1) := by decide +kernel
theorem dX3_point_59 : decode cX3_point 59 = .ok (.imul, 1) := by decide +kernel
theorem dX3_point_60 : decode cX3_point 60 = .ok (.iload_n 1, 1) := by decide +kernel
theorem dX3_point_61 : decode cX3_point 61 = .ok (.iadd, 1) := by decide +kernel
theorem dX3_point_62 : decode cX3_point 62 = .ok (.laload, 1) := by decide +kernel
theorem dX3_point_63 : decode cX3_point 63 = .ok (.aload_n 0, 1) := by decide +kernel
theorem dX3_point_64 : decode cX3_point 64 = .ok (.getfield 45, 3) := by decide +kernel
theorem dX3_point_67 : decode cX3_point 67 = .ok (.iload_n 3, 1) := by decide +kernel
theorem dX3_point_68 : decode cX3_point 68 = .ok (.laload, 1) := by decide +kernel
theorem dX3_point_69 : decode cX3_point 69 = .ok (.iload_n 2, 1) := by decide +kernel
theorem dX3_point_70 : decode cX3_point 70 = .ok (.invokestatic 140, 3) := by decide +kernel
theorem dX3_point_73 : decode cX3_point 73 = .ok (.lreturn, 1) := by decide +kernel
theorem dX3_endless_0 : decode cX3_endless 0 = .ok (.aload_n 0, 1) := by decide +kernel
theorem dX3_endless_1 : decode cX3_endless 1 = .ok (.aload_n 0, 1) := by decide +kernel
theorem dX3_endless_2 : decode cX3_endless 2 = .ok (.invokevirtual 111, 3) := by decide +kernel
theorem dX3_endless_5 : decode cX3_endless 5 = .ok (.iconst 1, 1) := by decide +kernel
theorem dX3_endless_6 : decode cX3_endless 6 = .ok (.invokevirtual 108, 3) := by decide +kernel
theorem dX3_endless_9 : decode cX3_endless 9 = .ok (.iconst 0, 1) := by decide +kernel
theorem dX3_endless_10 : decode cX3_endless 10 = .ok (.istore_n 2, 1) := by decide +kernel
theorem dX3_endless_11 : decode cX3_endless 11 = .ok (.iconst 0, 1) := by decide +kernel
theorem dX3_endless_12 : decode cX3_endless 12 = .ok (.istore_n 3, 1) := by decide +kernel
theorem dX3_endless_13 : decode cX3_endless 13 = .ok (.iload_n 3, 1) := by decide +kernel
theorem dX3_endless_14 : decode cX3_endless 14 = .ok (.aload_n 0, 1) := by decide +kernel
theorem dX3_endless_15 : decode cX3_endless 15 = .ok (.getfield 85, 3) := by decide +kernel
theorem dX3_endless_18 : decode cX3_endless 18 = .ok (.if_icmp .ge 34, 3) := by decide +kernel
theorem dX3_endless_21 : decode cX3_endless 21 = .ok (.iload_n 2, 1) := by decide +kernel
theorem dX3_endless_22 : decode cX3_endless 22 = .ok (.ifCond .ne 18, 3) := by decide +kernel
theorem dX3_endless_25 : decode cX3_endless 25 = .ok (.aload_n 0, 1) := by decide +kernel
theorem dX3_endless_26 : decode cX3_endless 26 = .ok (.getfield 42, 3) := by decide +kernel
theorem dX3_endless_29 : decode cX3_endless 29 = .ok (.iconst 5, 1) := by decide +kernel
theorem dX3_endless_30 : decode cX3_endless 30 = .ok (.iload_n 3, 1) := by decide +kernel
theorem dX3_endless_31 : decode cX3_endless 31 = .ok (.imul, 1) := by decide +kernel
theorem dX3_endless_32 : decode cX3_endless 32 = .ok (.iload_n 1, 1) := by decide +kernel
theorem dX3_endless_33 : decode cX3_endless 33 = .ok (.iadd, 1) := by decide +kernel
theorem dX3_endless_34 : decode cX3_endless 34 = .ok (.laload, 1) := by decide +kernel
theorem dX3_endless_35 : decode cX3_endless 35 = .ok (.lconst 0, 1) := by decide +kernel
theorem dX3_endless_36 : decode cX3_endless 36 = .ok (.lcmp, 1) := by decide +kernel
theorem dX3_endless_37 : decode cX3_endless 37 = .ok (.ifCond .le 7, 3) := by decide +kernel
theorem dX3_endless_40 : decode cX3_endless 40 = .ok (.iconst 1, 1) := by decide +kernel
theorem dX3_endless_41 : decode cX3_endless 41 = .ok (.goto 4, 3) := by decide +kernel
theorem dX3_endless_44 : decode cX3_endless 44 = .ok (.iconst 0, 1) := by decide +kernel
theorem dX3_endless_45 : decode cX3_endless 45 = .ok (.istore_n 2, 1) := by decide +kernel
theorem dX3_endless_46 : decode cX3_endless 46 = .ok (.iinc 3 1, 3) := by decide +kernel
theorem dX3_endless_49 : decode cX3_endless 49 = .ok (.goto (-36), 3) := by decide +kernel
theorem dX3_endless_52 : decode cX3_endless 52 = .ok (.iload_n 2, 1) := by decide +kernel
theorem dX3_endless_53 : decode cX3_endless 53 = .ok (.ireturn, 1) := by decide +kernel
theorem dX3_range_0 : decode cX3_range 0 = .ok (.aload_n 0, 1) := by decide +kernel
theorem dX3_range_1 : decode cX3_range 1 = .ok (.aload_n 0, 1) := by decide +kernel
theorem dX3_range_2 : decode cX3_range 2 = .ok (.invokevirtual 111, 3) := by decide +kernel
theorem dX3_range_5 : decode cX3_range 5 = .ok (.invokevirtual 115, 3) := by decide +kernel
theorem dX3_range_8 : decode cX3_range 8 = .ok (.istore 4, 2) := by decide +kernel
theorem dX3_range_10 : decode cX3_range 10 = .ok (.iload_n 1, 1) := by decide +kernel
theorem dX3_range_11 : decode cX3_range 11 = .ok (.iconst 0, 1) := by decide +kernel
theorem dX3_range_12 : decode cX3_range 12 = .ok (.aload_n 0, 1) := by decide +kernel
theorem dX3_range_13 : decode cX3_range 13 = .ok (.getfield 7, 3) := by decide +kernel
theorem dX3_range_16 : decode cX3_range 16 = .ok (.iconst 1, 1) := by decide +kernel
theorem dX3_range_17 : decode cX3_range 17 = .ok (.isub, 1) := by decide +kernel
theorem dX3_range_18 : decode cX3_range 18 = .ok (.invokestatic 57, 3) := by decide +kernel
theorem dX3_range_21 : decode cX3_range 21 = .ok (.istore 5, 2) := by decide +kernel
theorem dX3_range_23 : decode cX3_range 23 = .ok (.aload_n 0, 1) := by decide +kernel
theorem dX3_range_24 : decode cX3_range 24 = .ok (.iload 4, 2) := by decide +kernel
theorem dX3_range_26 : decode cX3_range 26 = .ok (.iload 5, 2) := by decide +kernel
theorem dX3_range_28 : decode cX3_range 28 = .ok (.iload_n 3, 1) := by decide +kernel
theorem dX3_range_29 : decode cX3_range 29 = .ok (.iconst 0, 1) := by decide +kernel
theorem dX3_range_30 : decode cX3_range 30 = .ok (.iconst 1, 1) := by decide +kernel
theorem dX3_range_31 : decode cX3_range 31 = .ok (.invokestatic 57, 3) := by decide +kernel
theorem dX3_range_34 : decode cX3_range 34 = .ok (.iload 5, 2) := by decide +kernel
theorem dX3_range_36 : decode cX3_range 36 = .ok (.ifCond .ne 28, 3) := by decide +kernel
theorem dX3_range_39 : decode cX3_range 39 = .ok (.iload_n 2, 1) := by decide +kernel
theorem dX3_range_40 : decode cX3_range 40 = .ok (.ifCond .eq 24, 3) := by decide +kernel
theorem dX3_range_43 : decode cX3_range 43 = .ok (.aload_n 0, 1) := by decide +kernel
theorem dX3_range_44 : decode cX3_range 44 = .ok (.iload 5, 2) := by decide +kernel
theorem dX3_range_46 : decode cX3_range 46 = .ok (.ifCond .eq 7, 3) := by decide +kernel
theorem dX3_range_49 : decode cX3_range 49 = .ok (.iconst 0, 1) := by decide +kernel
theorem dX3_range_50 : decode cX3_range 50 = .ok (.goto 4, 3) := by decide +kernel
theorem dX3_range_53 : decode cX3_range 53 = .ok (.iload_n 1, 1) := by decide +kernel
theorem dX3_range_54 : decode cX3_range 54 = .ok (.invokevirtual 144, 3) := by decide +kernel
theorem dX3_range_57 : decode cX3_range 57 = .ok (.ifCond .eq 7, 3) := by decide +kernel
theorem dX3_range_60 : decode cX3_range 60 = .ok (.iconst 1, 1) := by decide +kernel
theorem dX3_range_61 : decode cX3_range 61 = .ok (.goto 4, 3) := by decide +kernel
theorem dX3_range_64 : decode cX3_range 64 = .ok (.iconst 0, 1) := by decide +kernel
theorem dX3_range_65 : decode cX3_range 65 = .ok (.invokevirtual 61, 3) := by decide +kernel
theorem dX3_range_68 : decode cX3_range 68 = .ok (.ifCond .eq 5, 3) := by decide +kernel
theorem dX3_range_71 : decode cX3_range 71 = .ok (.lconst 0, 1) := by decide +kernel
theorem dX3_range_72 : decode cX3_range 72 = .ok (.lreturn, 1) := by decide +kernel
theorem dX3_range_73 : decode cX3_range 73 = .ok (.aload_n 0, 1) := by decide +kernel
theorem dX3_range_74 : decode cX3_range 74 = .ok (.aload_n 0, 1) := by decide +kernel
theorem dX3_range_75 : decode cX3_range 75 = .ok (.invokevirtual 111, 3) := by decide +kernel
theorem dX3_range_78 : decode cX3_range 78 = .ok (.iconst 0, 1) := by decide +kernel
theorem dX3_range_79 : decode cX3_range 79 = .ok (.invokevirtual 108, 3) := by decide +kernel
theorem dX3_range_82 : decode cX3_range 82 = .ok (.iconst 0, 1) := by decide +kernel
theorem dX3_range_83 : decode cX3_range 83 = .ok (.istore 6, 2) := by decide +kernel
theorem dX3_range_85 : decode cX3_range 85 = .ok (.iconst 1, 1) := by decide +kernel
theorem dX3_range_86 : decode cX3_range 86 = .ok (.istore 7, 2) := by decide +kernel
theorem dX3_range_88 : decode cX3_range 88 = .ok (.iload 7, 2) := by decide +kernel
theorem dX3_range_90 : decode cX3_range 90 = .ok (.aload_n 0, 1) := by decide +kernel
theorem dX3_range_91 : decode cX3_range 91 = .ok (.getfield 85, 3) := by decide +kernel
theorem dX3_range_94 : decode cX3_range 94 = .ok (.if_icmp .ge 76, 3) := by decide +kernel
theorem dX3_range_97 : decode cX3_range 97 = .ok (.aload_n 0, 1) := by decide +kernel
theorem dX3_range_98 : decode cX3_range 98 = .ok (.getfield 42, 3) := by decide +kernel
theorem dX3_range_101 : decode cX3_range 101 = .ok (.iconst 5, 1) := by decide +kernel
theorem dX3_range_102 : decode cX3_range 102 = .ok (.iload 7, 2) := by decide +kernel
theorem dX3_range_104 : decode cX3_range 104 = .ok (.imul, 1) := by decide +kernel
theorem dX3_range_105 : decode cX3_range 105 = .ok (.iload_n 1, 1) := by decide +kernel
theorem dX3_range_106 : decode cX3_range 106 = .ok (.iadd, 1) := by decide +kernel
theorem dX3_range_107 : decode cX3_range 107 = .ok (.laload, 1) := by decide +kernel
theorem dX3_range_108 : decode cX3_range 108 = .ok (.aload_n 0, 1) := by decide +kernel
theorem dX3_range_109 : decode cX3_range 109 = .ok (.getfield 45, 3) := by decide +kernel
theorem dX3_range_112 : decode cX3_range 112 = .ok (.iload 7, 2) := by decide +kernel
theorem dX3_range_114 : decode cX3_range 114 = .ok (.laload, 1) := by decide +kernel
theorem dX3_range_115 : decode cX3_range 115 = .ok (.aload_n 0, 1) := by decide +kernel
theorem dX3_range_116 : decode cX3_range 116 = .ok (.getfield 42, 3) := by decide +kernel
theorem dX3_range_119 : decode cX3_range 119 = .ok (.iconst 5, 1) := by decide +kernel
theorem dX3_range_120 : decode cX3_range 120 = .ok (.iload 6, 2) := by decide +kernel
theorem dX3_range_122 : decode cX3_range 122 = .ok (.imul, 1) := by decide +kernel
theorem dX3_range_123 : decode cX3_range 123 = .ok (.iload_n 1, 1) := by decide +kernel
theorem dX3_range_124 : decode cX3_range 124 = .ok (.iadd, 1) := by decide +kernel
theorem dX3_range_125 : decode cX3_range 125 = .ok (.laload, 1) := by decide +kernel
theorem dX3_range_126 : decode cX3_range 126 = .ok (.aload_n 0, 1) := by decide +kernel
theorem dX3_range_127 : decode cX3_range 127 = .ok (.getfield 45, 3) := by decide +kernel
theorem dX3_range_130 : decode cX3_range 130 = .ok (.iload 6, 2) := by decide +kernel
theorem dX3_range_132 : decode cX3_range 132 = .ok (.laload, 1) := by decide +kernel
theorem dX3_range_133 : decode cX3_range 133 = .ok (.invokestatic 129, 3) := by decide +kernel
theorem dX3_range_136 : decode cX3_range 136 = .ok (.istore 8, 2) := by decide +kernel
theorem dX3_range_138 : decode cX3_range 138 = .ok (.iload_n 2, 1) := by decide +kernel
theorem dX3_range_139 : decode cX3_range 139 = .ok (.ifCond .eq 11, 3) := by decide +kernel
theorem dX3_range_142 : decode cX3_range 142 = .ok (.iload 8, 2) := by decide +kernel
theorem dX3_range_144 : decode cX3_range 144 = .ok (.ifCond .le 16, 3) := by decide +kernel
theorem dX3_range_147 : decode cX3_range 147 = .ok (.goto 8, 3) := by decide +kernel
theorem dX3_range_150 : decode cX3_range 150 = .ok (.iload 8, 2) := by decide +kernel
theorem dX3_range_152 : decode cX3_range 152 = .ok (.ifCond .ge 8, 3) := by decide +kernel
theorem dX3_range_155 : decode cX3_range 155 = .ok (.iload 7, 2) := by decide +kernel
theorem dX3_range_157 : decode cX3_range 157 = .ok (.goto 5, 3) := by decide +kernel
theorem dX3_range_160 : decode cX3_range 160 = .ok (.iload 6, 2) := by decide +kernel
theorem dX3_range_162 : decode cX3_range 162 = .ok (.istore 6, 2) := by decide +kernel
theorem dX3_range_164 : decode cX3_range 164 = .ok (.iinc 7 1, 3) := by decide +kernel
theorem dX3_range_167 : decode cX3_range 167 = .ok (.goto (-79), 3) := by decide +kernel
theorem dX3_range_170 : decode cX3_range 170 = .ok (.aload_n 0, 1) := by decide +kernel
theorem dX3_range_171 : decode cX3_range 171 = .ok (.getfield 42, 3) := by decide +kernel
theorem dX3_range_174 : decode cX3_range 174 = .ok (.iconst 5, 1) := by decide +kernel
theorem dX3_range_175 : decode cX3_range 175 = .ok (.iload 6, 2) := by decide +kernel
theorem dX3_range_177 : decode cX3_range 177 = .ok (.imul, 1) := by decide +kernel
theorem dX3_range_178 : decode cX3_range 178 = .ok (.iload_n 1, 1) := by decide +kernel
theorem dX3_range_179 : decode cX3_range 179 = .ok (.iadd, 1) := by decide +kernel
theorem dX3_range_180 : decode cX3_range 180 = .ok (.laload, 1) := by decide +kernel
theorem dX3_range_181 : decode cX3_range 181 = .ok (.aload_n 0, 1) := by decide +kernel
theorem dX3_range_182 : decode cX3_range 182 = .ok (.getfield 45, 3) := by decide +kernel
theorem dX3_range_185 : decode cX3_range 185 = .ok (.iload 6, 2) := by decide +kernel
theorem dX3_range_187 : decode cX3_range 187 = .ok (.laload, 1) := by decide +kernel
theorem dX3_range_188 : decode cX3_range 188 = .ok (.iload_n 3, 1) := by decide +kernel
theorem dX3_range_189 : decode cX3_range 189 = .ok (.invokestatic 140, 3) := by decide +kernel
theorem dX3_range_192 : decode cX3_range 192 = .ok (.lreturn, 1) := by decide +kernel
theorem dX3_excess_0 : decode cX3_excess 0 = .ok (.iload_n 3, 1) := by decide +kernel
theorem dX3_excess_1 : decode cX3_excess 1 = .ok (.ineg, 1) := by decide +kernel
theorem dX3_excess_2 : decode cX3_excess 2 = .ok (.i2l, 1) := by decide +kernel
theorem dX3_excess_3 : decode cX3_excess 3 = .ok (.aload_n 0, 1) := by decide +kernel
theorem dX3_excess_4 : decode cX3_excess 4 = .ok (.getfield 45, 3) := by decide +kernel
theorem dX3_excess_7 : decode cX3_excess 7 = .ok (.iload_n 2, 1) := by decide +kernel
theorem dX3_excess_8 : decode cX3_excess 8 = .ok (.laload, 1) := by decide +kernel
theorem dX3_excess_9 : decode cX3_excess 9 = .ok (.lmul, 1) := by decide +kernel
theorem dX3_excess_10 : decode cX3_excess 10 = .ok (.lstore 4, 2) := by decide +kernel
theorem dX3_excess_12 : decode cX3_excess 12 = .ok (.iconst 0, 1) := by decide +kernel
theorem dX3_excess_13 : decode cX3_excess 13 = .ok (.istore 6, 2) := by decide +kernel
theorem dX3_excess_15 : decode cX3_excess 15 = .ok (.iload 6, 2) := by decide +kernel
theorem dX3_excess_17 : decode cX3_excess 17 = .ok (.aload_n 0, 1) := by decide +kernel
theorem dX3_excess_18 : decode cX3_excess 18 = .ok (.getfield 7, 3) := by decide +kernel
theorem dX3_excess_21 : decode cX3_excess 21 = .ok (.if_icmp .ge 38, 3) := by decide +kernel
theorem dX3_excess_24 : decode cX3_excess 24 = .ok (.lload 4, 2) := by decide +kernel
theorem dX3_excess_26 : decode cX3_excess 26 = .ok (.aload_n 0, 1) := by decide +kernel
theorem dX3_excess_27 : decode cX3_excess 27 = .ok (.getfield 13, 3) := by decide +kernel
theorem dX3_excess_30 : decode cX3_excess 30 = .ok (.iconst 4, 1) := by decide +kernel
theorem dX3_excess_31 : decode cX3_excess 31 = .ok (.iload_n 1, 1) := by decide +kernel
theorem dX3_excess_32 : decode cX3_excess 32 = .ok (.imul, 1) := by decide +kernel
theorem dX3_excess_33 : decode cX3_excess 33 = .ok (.iload 6, 2) := by decide +kernel
theorem dX3_excess_35 : decode cX3_excess 35 = .ok (.iadd, 1) := by decide +kernel
theorem dX3_excess_36 : decode cX3_excess 36 = .ok (.iaload, 1) := by decide +kernel
theorem dX3_excess_37 : decode cX3_excess 37 = .ok (.i2l, 1) := by decide +kernel
theorem dX3_excess_38 : decode cX3_excess 38 = .ok (.aload_n 0, 1) := by decide +kernel
theorem dX3_excess_39 : decode cX3_excess 39 = .ok (.getfield 42, 3) := by decide +kernel
theorem dX3_excess_42 : decode cX3_excess 42 = .ok (.iconst 5, 1) := by decide +kernel
theorem dX3_excess_43 : decode cX3_excess 43 = .ok (.iload_n 2, 1) := by decide +kernel
theorem dX3_excess_44 : decode cX3_excess 44 = .ok (.imul, 1) := by decide +kernel
theorem dX3_excess_45 : decode cX3_excess 45 = .ok (.iload 6, 2) := by decide +kernel
theorem dX3_excess_47 : decode cX3_excess 47 = .ok (.iadd, 1) := by decide +kernel
theorem dX3_excess_48 : decode cX3_excess 48 = .ok (.laload, 1) := by decide +kernel
theorem dX3_excess_49 : decode cX3_excess 49 = .ok (.lmul, 1) := by decide +kernel
theorem dX3_excess_50 : decode cX3_excess 50 = .ok (.ladd, 1) := by decide +kernel
theorem dX3_excess_51 : decode cX3_excess 51 = .ok (.lstore 4, 2) := by decide +kernel
theorem dX3_excess_53 : decode cX3_excess 53 = .ok (.iinc 6 1, 3) := by decide +kernel
theorem dX3_excess_56 : decode cX3_excess 56 = .ok (.goto (-41), 3) := by decide +kernel
theorem dX3_excess_59 : decode cX3_excess 59 = .ok (.lload 4, 2) := by decide +kernel
theorem dX3_excess_61 : decode cX3_excess 61 = .ok (.lreturn, 1) := by decide +kernel
theorem dX3_tight_0 : decode cX3_tight 0 = .ok (.aload_n 0, 1) := by decide +kernel
theorem dX3_tight_1 : decode cX3_tight 1 = .ok (.aload_n 0, 1) := by decide +kernel
theorem dX3_tight_2 : decode cX3_tight 2 = .ok (.invokevirtual 122, 3) := by decide +kernel
theorem dX3_tight_5 : decode cX3_tight 5 = .ok (.ifCond .eq 7, 3) := by decide +kernel
theorem dX3_tight_8 : decode cX3_tight 8 = .ok (.iconst 1, 1) := by decide +kernel
theorem dX3_tight_9 : decode cX3_tight 9 = .ok (.goto 4, 3) := by decide +kernel
theorem dX3_tight_12 : decode cX3_tight 12 = .ok (.iconst 0, 1) := by decide +kernel
theorem dX3_tight_13 : decode cX3_tight 13 = .ok (.iload_n 1, 1) := by decide +kernel
theorem dX3_tight_14 : decode cX3_tight 14 = .ok (.iconst 0, 1) := by decide +kernel
theorem dX3_tight_15 : decode cX3_tight 15 = .ok (.aload_n 0, 1) := by decide +kernel
theorem dX3_tight_16 : decode cX3_tight 16 = .ok (.getfield 65, 3) := by decide +kernel
theorem dX3_tight_19 : decode cX3_tight 19 = .ok (.iconst 1, 1) := by decide +kernel
theorem dX3_tight_20 : decode cX3_tight 20 = .ok (.isub, 1) := by decide +kernel
theorem dX3_tight_21 : decode cX3_tight 21 = .ok (.invokestatic 57, 3) := by decide +kernel
theorem dX3_tight_24 : decode cX3_tight 24 = .ok (.iconst 0, 1) := by decide +kernel
theorem dX3_tight_25 : decode cX3_tight 25 = .ok (.iconst 0, 1) := by decide +kernel
theorem dX3_tight_26 : decode cX3_tight 26 = .ok (.invokevirtual 61, 3) := by decide +kernel
theorem dX3_tight_29 : decode cX3_tight 29 = .ok (.ifCond .eq 5, 3) := by decide +kernel
theorem dX3_tight_32 : decode cX3_tight 32 = .ok (.iconst 0, 1) := by decide +kernel
theorem dX3_tight_33 : decode cX3_tight 33 = .ok (.ireturn, 1) := by decide +kernel
theorem dX3_tight_34 : decode cX3_tight 34 = .ok (.aload_n 0, 1) := by decide +kernel
theorem dX3_tight_35 : decode cX3_tight 35 = .ok (.aload_n 0, 1) := by decide +kernel
theorem dX3_tight_36 : decode cX3_tight 36 = .ok (.invokevirtual 111, 3) := by decide +kernel
theorem dX3_tight_39 : decode cX3_tight 39 = .ok (.iconst 0, 1) := by decide +kernel
theorem dX3_tight_40 : decode cX3_tight 40 = .ok (.invokevirtual 108, 3) := by decide +kernel
theorem dX3_tight_43 : decode cX3_tight 43 = .ok (.aload_n 0, 1) := by decide +kernel
theorem dX3_tight_44 : decode cX3_tight 44 = .ok (.invokevirtual 137, 3) := by decide +kernel
theorem dX3_tight_47 : decode cX3_tight 47 = .ok (.istore_n 2, 1) := by decide +kernel
theorem dX3_tight_48 : decode cX3_tight 48 = .ok (.iconst 1, 1) := by decide +kernel
theorem dX3_tight_49 : decode cX3_tight 49 = .ok (.istore_n 3, 1) := by decide +kernel
theorem dX3_tight_50 : decode cX3_tight 50 = .ok (.iconst 0, 1) := by decide +kernel
theorem dX3_tight_51 : decode cX3_tight 51 = .ok (.istore 4, 2) := by decide +kernel
theorem dX3_tight_53 : decode cX3_tight 53 = .ok (.iload 4, 2) := by decide +kernel
theorem dX3_tight_55 : decode cX3_tight 55 = .ok (.aload_n 0, 1) := by decide +kernel
theorem dX3_tight_56 : decode cX3_tight 56 = .ok (.getfield 85, 3) := by decide +kernel
theorem dX3_tight_59 : decode cX3_tight 59 = .ok (.if_icmp .ge 81, 3) := by decide +kernel
theorem dX3_tight_62 : decode cX3_tight 62 = .ok (.aload_n 0, 1) := by decide +kernel
theorem dX3_tight_63 : decode cX3_tight 63 = .ok (.getfield 48, 3) := by decide +kernel
theorem dX3_tight_66 : decode cX3_tight 66 = .ok (.iload 4, 2) := by decide +kernel
theorem dX3_tight_68 : decode cX3_tight 68 = .ok (.laload, 1) := by decide +kernel
theorem dX3_tight_69 : decode cX3_tight 69 = .ok (.aload_n 0, 1) := by decide +kernel
theorem dX3_tight_70 : decode cX3_tight 70 = .ok (.getfield 45, 3) := by decide +kernel
theorem dX3_tight_73 : decode cX3_tight 73 = .ok (.iload 4, 2) := by decide +kernel
theorem dX3_tight_75 : decode cX3_tight 75 = .ok (.laload, 1) := by decide +kernel
theorem dX3_tight_76 : decode cX3_tight 76 = .ok (.aload_n 0, 1) := by decide +kernel
theorem dX3_tight_77 : decode cX3_tight 77 = .ok (.getfield 48, 3) := by decide +kernel
theorem dX3_tight_80 : decode cX3_tight 80 = .ok (.iload_n 2, 1) := by decide +kernel
theorem dX3_tight_81 : decode cX3_tight 81 = .ok (.laload, 1) := by decide +kernel
theorem dX3_tight_82 : decode cX3_tight 82 = .ok (.aload_n 0, 1) := by decide +kernel
theorem dX3_tight_83 : decode cX3_tight 83 = .ok (.getfield 45, 3) := by decide +kernel
theorem dX3_tight_86 : decode cX3_tight 86 = .ok (.iload_n 2, 1) := by decide +kernel
theorem dX3_tight_87 : decode cX3_tight 87 = .ok (.laload, 1) := by decide +kernel
theorem dX3_tight_88 : decode cX3_tight 88 = .ok (.invokestatic 129, 3) := by decide +kernel
theorem dX3_tight_91 : decode cX3_tight 91 = .ok (.ifCond .ne 7, 3) := by decide +kernel
theorem dX3_tight_94 : decode cX3_tight 94 = .ok (.iconst 1, 1) := by decide +kernel
theorem dX3_tight_95 : decode cX3_tight 95 = .ok (.goto 4, 3) := by decide +kernel
theorem dX3_tight_98 : decode cX3_tight 98 = .ok (.iconst 0, 1) := by decide +kernel
theorem dX3_tight_99 : decode cX3_tight 99 = .ok (.istore 5, 2) := by decide +kernel
theorem dX3_tight_101 : decode cX3_tight 101 = .ok (.iload_n 3, 1) := by decide +kernel
theorem dX3_tight_102 : decode cX3_tight 102 = .ok (.ifCond .eq 30, 3) := by decide +kernel
theorem dX3_tight_105 : decode cX3_tight 105 = .ok (.iload 5, 2) := by decide +kernel
theorem dX3_tight_107 : decode cX3_tight 107 = .ok (.ifCond .eq 21, 3) := by decide +kernel
theorem dX3_tight_110 : decode cX3_tight 110 = .ok (.aload_n 0, 1) := by decide +kernel
theorem dX3_tight_111 : decode cX3_tight 111 = .ok (.iload_n 1, 1) := by decide +kernel
theorem dX3_tight_112 : decode cX3_tight 112 = .ok (.iload 4, 2) := by decide +kernel
theorem dX3_tight_114 : decode cX3_tight 114 = .ok (.aload_n 0, 1) := by decide +kernel
theorem dX3_tight_115 : decode cX3_tight 115 = .ok (.getfield 17, 3) := by decide +kernel
theorem dX3_tight_118 : decode cX3_tight 118 = .ok (.iload_n 1, 1) := by decide +kernel
theorem dX3_tight_119 : decode cX3_tight 119 = .ok (.iaload, 1) := by decide +kernel
theorem dX3_tight_120 : decode cX3_tight 120 = .ok (.invokevirtual 147, 3) := by decide +kernel
theorem dX3_tight_123 : decode cX3_tight 123 = .ok (.lconst 0, 1) := by decide +kernel
theorem dX3_tight_124 : decode cX3_tight 124 = .ok (.lcmp, 1) := by decide +kernel
theorem dX3_tight_125 : decode cX3_tight 125 = .ok (.ifCond .ne 7, 3) := by decide +kernel
theorem dX3_tight_128 : decode cX3_tight 128 = .ok (.iconst 1, 1) := by decide +kernel
theorem dX3_tight_129 : decode cX3_tight 129 = .ok (.goto 4, 3) := by decide +kernel
theorem dX3_tight_132 : decode cX3_tight 132 = .ok (.iconst 0, 1) := by decide +kernel
theorem dX3_tight_133 : decode cX3_tight 133 = .ok (.istore_n 3, 1) := by decide +kernel
theorem dX3_tight_134 : decode cX3_tight 134 = .ok (.iinc 4 1, 3) := by decide +kernel
theorem dX3_tight_137 : decode cX3_tight 137 = .ok (.goto (-84), 3) := by decide +kernel
theorem dX3_tight_140 : decode cX3_tight 140 = .ok (.aload_n 0, 1) := by decide +kernel
theorem dX3_tight_141 : decode cX3_tight 141 = .ok (.aload_n 0, 1) := by decide +kernel
theorem dX3_tight_142 : decode cX3_tight 142 = .ok (.invokevirtual 111, 3) := by decide +kernel
theorem dX3_tight_145 : decode cX3_tight 145 = .ok (.iconst 1, 1) := by decide +kernel
theorem dX3_tight_146 : decode cX3_tight 146 = .ok (.invokevirtual 108, 3) := by decide +kernel
theorem dX3_tight_149 : decode cX3_tight 149 = .ok (.iconst 0, 1) := by decide +kernel
theorem dX3_tight_150 : decode cX3_tight 150 = .ok (.istore 4, 2) := by decide +kernel
theorem dX3_tight_152 : decode cX3_tight 152 = .ok (.iload 4, 2) := by decide +kernel
theorem dX3_tight_154 : decode cX3_tight 154 = .ok (.aload_n 0, 1) := by decide +kernel
theorem dX3_tight_155 : decode cX3_tight 155 = .ok (.getfield 85, 3) := by decide +kernel
theorem dX3_tight_158 : decode cX3_tight 158 = .ok (.if_icmp .ge 44, 3) := by decide +kernel
theorem dX3_tight_161 : decode cX3_tight 161 = .ok (.iload_n 3, 1) := by decide +kernel
theorem dX3_tight_162 : decode cX3_tight 162 = .ok (.ifCond .eq 32, 3) := by decide +kernel
theorem dX3_tight_165 : decode cX3_tight 165 = .ok (.aload_n 0, 1) := by decide +kernel
theorem dX3_tight_166 : decode cX3_tight 166 = .ok (.getfield 48, 3) := by decide +kernel
theorem dX3_tight_169 : decode cX3_tight 169 = .ok (.iload 4, 2) := by decide +kernel
theorem dX3_tight_171 : decode cX3_tight 171 = .ok (.laload, 1) := by decide +kernel
theorem dX3_tight_172 : decode cX3_tight 172 = .ok (.lconst 0, 1) := by decide +kernel
theorem dX3_tight_173 : decode cX3_tight 173 = .ok (.lcmp, 1) := by decide +kernel
theorem dX3_tight_174 : decode cX3_tight 174 = .ok (.ifCond .ne 16, 3) := by decide +kernel
theorem dX3_tight_177 : decode cX3_tight 177 = .ok (.aload_n 0, 1) := by decide +kernel
theorem dX3_tight_178 : decode cX3_tight 178 = .ok (.iload_n 1, 1) := by decide +kernel
theorem dX3_tight_179 : decode cX3_tight 179 = .ok (.iload 4, 2) := by decide +kernel
theorem dX3_tight_181 : decode cX3_tight 181 = .ok (.iconst 0, 1) := by decide +kernel
theorem dX3_tight_182 : decode cX3_tight 182 = .ok (.invokevirtual 147, 3) := by decide +kernel
theorem dX3_tight_185 : decode cX3_tight 185 = .ok (.lconst 0, 1) := by decide +kernel
theorem dX3_tight_186 : decode cX3_tight 186 = .ok (.lcmp, 1) := by decide +kernel
theorem dX3_tight_187 : decode cX3_tight 187 = .ok (.ifCond .ne 7, 3) := by decide +kernel
theorem dX3_tight_190 : decode cX3_tight 190 = .ok (.iconst 1, 1) := by decide +kernel
theorem dX3_tight_191 : decode cX3_tight 191 = .ok (.goto 4, 3) := by decide +kernel
theorem dX3_tight_194 : decode cX3_tight 194 = .ok (.iconst 0, 1) := by decide +kernel
theorem dX3_tight_195 : decode cX3_tight 195 = .ok (.istore_n 3, 1) := by decide +kernel
theorem dX3_tight_196 : decode cX3_tight 196 = .ok (.iinc 4 1, 3) := by decide +kernel
theorem dX3_tight_199 : decode cX3_tight 199 = .ok (.goto (-47), 3) := by decide +kernel
theorem dX3_tight_202 : decode cX3_tight 202 = .ok (.iload_n 3, 1) := by decide +kernel
theorem dX3_tight_203 : decode cX3_tight 203 = .ok (.ireturn, 1) := by decide +kernel
theorem dX3_conflict_0 : decode cX3_conflict 0 = .ok (.aload_n 0, 1) := by decide +kernel
theorem dX3_conflict_1 : decode cX3_conflict 1 = .ok (.aload_n 0, 1) := by decide +kernel
theorem dX3_conflict_2 : decode cX3_conflict 2 = .ok (.aload_n 0, 1) := by decide +kernel
theorem dX3_conflict_3 : decode cX3_conflict 3 = .ok (.invokevirtual 111, 3) := by decide +kernel
theorem dX3_conflict_6 : decode cX3_conflict 6 = .ok (.invokevirtual 115, 3) := by decide +kernel
theorem dX3_conflict_9 : decode cX3_conflict 9 = .ok (.ifCond .ne 7, 3) := by decide +kernel
theorem dX3_conflict_12 : decode cX3_conflict 12 = .ok (.iconst 1, 1) := by decide +kernel
theorem dX3_conflict_13 : decode cX3_conflict 13 = .ok (.goto 4, 3) := by decide +kernel
theorem dX3_conflict_16 : decode cX3_conflict 16 = .ok (.iconst 0, 1) := by decide +kernel
theorem dX3_conflict_17 : decode cX3_conflict 17 = .ok (.iconst 0, 1) := by decide +kernel
theorem dX3_conflict_18 : decode cX3_conflict 18 = .ok (.iconst 0, 1) := by decide +kernel
theorem dX3_conflict_19 : decode cX3_conflict 19 = .ok (.iconst 0, 1) := by decide +kernel
theorem dX3_conflict_20 : decode cX3_conflict 20 = .ok (.invokevirtual 61, 3) := by decide +kernel
theorem dX3_conflict_23 : decode cX3_conflict 23 = .ok (.ifCond .eq 5, 3) := by decide +kernel
theorem dX3_conflict_26 : decode cX3_conflict 26 = .ok (.iconst 0, 1) := by decide +kernel
theorem dX3_conflict_27 : decode cX3_conflict 27 = .ok (.ireturn, 1) := by decide +kernel
theorem dX3_conflict_28 : decode cX3_conflict 28 = .ok (.aload_n 0, 1) := by decide +kernel
theorem dX3_conflict_29 : decode cX3_conflict 29 = .ok (.invokevirtual 111, 3) := by decide +kernel
theorem dX3_conflict_32 : decode cX3_conflict 32 = .ok (.istore_n 1, 1) := by decide +kernel
theorem dX3_conflict_33 : decode cX3_conflict 33 = .ok (.iconst 0, 1) := by decide +kernel
theorem dX3_conflict_34 : decode cX3_conflict 34 = .ok (.istore_n 2, 1) := by decide +kernel
theorem dX3_conflict_35 : decode cX3_conflict 35 = .ok (.iload_n 2, 1) := by decide +kernel
theorem dX3_conflict_36 : decode cX3_conflict 36 = .ok (.aload_n 0, 1) := by decide +kernel
theorem dX3_conflict_37 : decode cX3_conflict 37 = .ok (.getfield 65, 3) := by decide +kernel
theorem dX3_conflict_40 : decode cX3_conflict 40 = .ok (.if_icmp .ge 31, 3) := by decide +kernel
theorem dX3_conflict_43 : decode cX3_conflict 43 = .ok (.iload_n 1, 1) := by decide +kernel
theorem dX3_conflict_44 : decode cX3_conflict 44 = .ok (.iconst 1, 1) := by decide +kernel
theorem dX3_conflict_45 : decode cX3_conflict 45 = .ok (.iload_n 2, 1) := by decide +kernel
theorem dX3_conflict_46 : decode cX3_conflict 46 = .ok (.ishl, 1) := by decide +kernel
theorem dX3_conflict_47 : decode cX3_conflict 47 = .ok (.iconst (-1), 1) := by decide +kernel
theorem dX3_conflict_48 : decode cX3_conflict 48 = .ok (.ixor, 1) := by decide +kernel
theorem dX3_conflict_49 : decode cX3_conflict 49 = .ok (.iand, 1) := by decide +kernel
theorem dX3_conflict_50 : decode cX3_conflict 50 = .ok (.istore_n 3, 1) := by decide +kernel
theorem dX3_conflict_51 : decode cX3_conflict 51 = .ok (.aload_n 0, 1) := by decide +kernel
theorem dX3_conflict_52 : decode cX3_conflict 52 = .ok (.iload_n 3, 1) := by decide +kernel
theorem dX3_conflict_53 : decode cX3_conflict 53 = .ok (.invokevirtual 115, 3) := by decide +kernel
theorem dX3_conflict_56 : decode cX3_conflict 56 = .ok (.ifCond .eq 7, 3) := by decide +kernel
theorem dX3_conflict_59 : decode cX3_conflict 59 = .ok (.iload_n 3, 1) := by decide +kernel
theorem dX3_conflict_60 : decode cX3_conflict 60 = .ok (.goto 4, 3) := by decide +kernel
theorem dX3_conflict_63 : decode cX3_conflict 63 = .ok (.iload_n 1, 1) := by decide +kernel
theorem dX3_conflict_64 : decode cX3_conflict 64 = .ok (.istore_n 1, 1) := by decide +kernel
theorem dX3_conflict_65 : decode cX3_conflict 65 = .ok (.iinc 2 1, 3) := by decide +kernel
theorem dX3_conflict_68 : decode cX3_conflict 68 = .ok (.goto (-33), 3) := by decide +kernel
theorem dX3_conflict_71 : decode cX3_conflict 71 = .ok (.iload_n 1, 1) := by decide +kernel
theorem dX3_conflict_72 : decode cX3_conflict 72 = .ok (.ireturn, 1) := by decide +kernel
theorem dX3_steeper_0 : decode cX3_steeper 0 = .ok (.aload_n 0, 1) := by decide +kernel
theorem dX3_steeper_1 : decode cX3_steeper 1 = .ok (.getfield 48, 3) := by decide +kernel
theorem dX3_steeper_4 : decode cX3_steeper 4 = .ok (.iload_n 2, 1) := by decide +kernel
theorem dX3_steeper_5 : decode cX3_steeper 5 = .ok (.laload, 1) := by decide +kernel
theorem dX3_steeper_6 : decode cX3_steeper 6 = .ok (.aload_n 0, 1) := by decide +kernel
theorem dX3_steeper_7 : decode cX3_steeper 7 = .ok (.getfield 45, 3) := by decide +kernel
theorem dX3_steeper_10 : decode cX3_steeper 10 = .ok (.iload_n 1, 1) := by decide +kernel
theorem dX3_steeper_11 : decode cX3_steeper 11 = .ok (.laload, 1) := by decide +kernel
theorem dX3_steeper_12 : decode cX3_steeper 12 = .ok (.lmul, 1) := by decide +kernel
theorem dX3_steeper_13 : decode cX3_steeper 13 = .ok (.aload_n 0, 1) := by decide +kernel
theorem dX3_steeper_14 : decode cX3_steeper 14 = .ok (.getfield 48, 3) := by decide +kernel
theorem dX3_steeper_17 : decode cX3_steeper 17 = .ok (.iload_n 1, 1) := by decide +kernel
theorem dX3_steeper_18 : decode cX3_steeper 18 = .ok (.laload, 1) := by decide +kernel
theorem dX3_steeper_19 : decode cX3_steeper 19 = .ok (.aload_n 0, 1) := by decide +kernel
theorem dX3_steeper_20 : decode cX3_steeper 20 = .ok (.getfield 45, 3) := by decide +kernel
theorem dX3_steeper_23 : decode cX3_steeper 23 = .ok (.iload_n 2, 1) := by decide +kernel
theorem dX3_steeper_24 : decode cX3_steeper 24 = .ok (.laload, 1) := by decide +kernel
theorem dX3_steeper_25 : decode cX3_steeper 25 = .ok (.lmul, 1) := by decide +kernel
theorem dX3_steeper_26 : decode cX3_steeper 26 = .ok (.lsub, 1) := by decide +kernel
theorem dX3_steeper_27 : decode cX3_steeper 27 = .ok (.lstore 4, 2) := by decide +kernel
theorem dX3_steeper_29 : decode cX3_steeper 29 = .ok (.aload_n 0, 1) := by decide +kernel
theorem dX3_steeper_30 : decode cX3_steeper 30 = .ok (.getfield 42, 3) := by decide +kernel
theorem dX3_steeper_33 : decode cX3_steeper 33 = .ok (.iconst 5, 1) := by decide +kernel
theorem dX3_steeper_34 : decode cX3_steeper 34 = .ok (.iload_n 2, 1) := by decide +kernel
theorem dX3_steeper_35 : decode cX3_steeper 35 = .ok (.imul, 1) := by decide +kernel
theorem dX3_steeper_36 : decode cX3_steeper 36 = .ok (.aload_n 0, 1) := by decide +kernel
theorem dX3_steeper_37 : decode cX3_steeper 37 = .ok (.getfield 7, 3) := by decide +kernel
theorem dX3_steeper_40 : decode cX3_steeper 40 = .ok (.iadd, 1) := by decide +kernel
theorem dX3_steeper_41 : decode cX3_steeper 41 = .ok (.laload, 1) := by decide +kernel
theorem dX3_steeper_42 : decode cX3_steeper 42 = .ok (.aload_n 0, 1) := by decide +kernel
theorem dX3_steeper_43 : decode cX3_steeper 43 = .ok (.getfield 45, 3) := by decide +kernel
theorem dX3_steeper_46 : decode cX3_steeper 46 = .ok (.iload_n 1, 1) := by decide +kernel
theorem dX3_steeper_47 : decode cX3_steeper 47 = .ok (.laload, 1) := by decide +kernel
theorem dX3_steeper_48 : decode cX3_steeper 48 = .ok (.lmul, 1) := by decide +kernel
theorem dX3_steeper_49 : decode cX3_steeper 49 = .ok (.aload_n 0, 1) := by decide +kernel
theorem dX3_steeper_50 : decode cX3_steeper 50 = .ok (.getfield 42, 3) := by decide +kernel
theorem dX3_steeper_53 : decode cX3_steeper 53 = .ok (.iconst 5, 1) := by decide +kernel
theorem dX3_steeper_54 : decode cX3_steeper 54 = .ok (.iload_n 1, 1) := by decide +kernel
theorem dX3_steeper_55 : decode cX3_steeper 55 = .ok (.imul, 1) := by decide +kernel
theorem dX3_steeper_56 : decode cX3_steeper 56 = .ok (.aload_n 0, 1) := by decide +kernel
theorem dX3_steeper_57 : decode cX3_steeper 57 = .ok (.getfield 7, 3) := by decide +kernel
theorem dX3_steeper_60 : decode cX3_steeper 60 = .ok (.iadd, 1) := by decide +kernel
theorem dX3_steeper_61 : decode cX3_steeper 61 = .ok (.laload, 1) := by decide +kernel
theorem dX3_steeper_62 : decode cX3_steeper 62 = .ok (.aload_n 0, 1) := by decide +kernel
theorem dX3_steeper_63 : decode cX3_steeper 63 = .ok (.getfield 45, 3) := by decide +kernel
theorem dX3_steeper_66 : decode cX3_steeper 66 = .ok (.iload_n 2, 1) := by decide +kernel
theorem dX3_steeper_67 : decode cX3_steeper 67 = .ok (.laload, 1) := by decide +kernel
theorem dX3_steeper_68 : decode cX3_steeper 68 = .ok (.lmul, 1) := by decide +kernel
theorem dX3_steeper_69 : decode cX3_steeper 69 = .ok (.lsub, 1) := by decide +kernel
theorem dX3_steeper_70 : decode cX3_steeper 70 = .ok (.lstore 6, 2) := by decide +kernel
theorem dX3_steeper_72 : decode cX3_steeper 72 = .ok (.aload_n 0, 1) := by decide +kernel
theorem dX3_steeper_73 : decode cX3_steeper 73 = .ok (.getfield 48, 3) := by decide +kernel
theorem dX3_steeper_76 : decode cX3_steeper 76 = .ok (.iload_n 3, 1) := by decide +kernel
theorem dX3_steeper_77 : decode cX3_steeper 77 = .ok (.laload, 1) := by decide +kernel
theorem dX3_steeper_78 : decode cX3_steeper 78 = .ok (.aload_n 0, 1) := by decide +kernel
theorem dX3_steeper_79 : decode cX3_steeper 79 = .ok (.getfield 45, 3) := by decide +kernel
theorem dX3_steeper_82 : decode cX3_steeper 82 = .ok (.iload_n 1, 1) := by decide +kernel
theorem dX3_steeper_83 : decode cX3_steeper 83 = .ok (.laload, 1) := by decide +kernel
theorem dX3_steeper_84 : decode cX3_steeper 84 = .ok (.lmul, 1) := by decide +kernel
theorem dX3_steeper_85 : decode cX3_steeper 85 = .ok (.aload_n 0, 1) := by decide +kernel
theorem dX3_steeper_86 : decode cX3_steeper 86 = .ok (.getfield 48, 3) := by decide +kernel
theorem dX3_steeper_89 : decode cX3_steeper 89 = .ok (.iload_n 1, 1) := by decide +kernel
theorem dX3_steeper_90 : decode cX3_steeper 90 = .ok (.laload, 1) := by decide +kernel
theorem dX3_steeper_91 : decode cX3_steeper 91 = .ok (.aload_n 0, 1) := by decide +kernel
theorem dX3_steeper_92 : decode cX3_steeper 92 = .ok (.getfield 45, 3) := by decide +kernel
theorem dX3_steeper_95 : decode cX3_steeper 95 = .ok (.iload_n 3, 1) := by decide +kernel
theorem dX3_steeper_96 : decode cX3_steeper 96 = .ok (.laload, 1) := by decide +kernel
theorem dX3_steeper_97 : decode cX3_steeper 97 = .ok (.lmul, 1) := by decide +kernel
theorem dX3_steeper_98 : decode cX3_steeper 98 = .ok (.lsub, 1) := by decide +kernel
theorem dX3_steeper_99 : decode cX3_steeper 99 = .ok (.lstore 8, 2) := by decide +kernel
theorem dX3_steeper_101 : decode cX3_steeper 101 = .ok (.aload_n 0, 1) := by decide +kernel
theorem dX3_steeper_102 : decode cX3_steeper 102 = .ok (.getfield 42, 3) := by decide +kernel
theorem dX3_steeper_105 : decode cX3_steeper 105 = .ok (.iconst 5, 1) := by decide +kernel
theorem dX3_steeper_106 : decode cX3_steeper 106 = .ok (.iload_n 3, 1) := by decide +kernel
theorem dX3_steeper_107 : decode cX3_steeper 107 = .ok (.imul, 1) := by decide +kernel
theorem dX3_steeper_108 : decode cX3_steeper 108 = .ok (.aload_n 0, 1) := by decide +kernel
theorem dX3_steeper_109 : decode cX3_steeper 109 = .ok (.getfield 7, 3) := by decide +kernel
theorem dX3_steeper_112 : decode cX3_steeper 112 = .ok (.iadd, 1) := by decide +kernel
theorem dX3_steeper_113 : decode cX3_steeper 113 = .ok (.laload, 1) := by decide +kernel
theorem dX3_steeper_114 : decode cX3_steeper 114 = .ok (.aload_n 0, 1) := by decide +kernel
theorem dX3_steeper_115 : decode cX3_steeper 115 = .ok (.getfield 45, 3) := by decide +kernel
theorem dX3_steeper_118 : decode cX3_steeper 118 = .ok (.iload_n 1, 1) := by decide +kernel
theorem dX3_steeper_119 : decode cX3_steeper 119 = .ok (.laload, 1) := by decide +kernel
theorem dX3_steeper_120 : decode cX3_steeper 120 = .ok (.lmul, 1) := by decide +kernel
theorem dX3_steeper_121 : decode cX3_steeper 121 = .ok (.aload_n 0, 1) := by decide +kernel
theorem dX3_steeper_122 : decode cX3_steeper 122 = .ok (.getfield 42, 3) := by decide +kernel
theorem dX3_steeper_125 : decode cX3_steeper 125 = .ok (.iconst 5, 1) := by decide +kernel
theorem dX3_steeper_126 : decode cX3_steeper 126 = .ok (.iload_n 1, 1) := by decide +kernel
theorem dX3_steeper_127 : decode cX3_steeper 127 = .ok (.imul, 1) := by decide +kernel
theorem dX3_steeper_128 : decode cX3_steeper 128 = .ok (.aload_n 0, 1) := by decide +kernel
theorem dX3_steeper_129 : decode cX3_steeper 129 = .ok (.getfield 7, 3) := by decide +kernel
theorem dX3_steeper_132 : decode cX3_steeper 132 = .ok (.iadd, 1) := by decide +kernel
theorem dX3_steeper_133 : decode cX3_steeper 133 = .ok (.laload, 1) := by decide +kernel
theorem dX3_steeper_134 : decode cX3_steeper 134 = .ok (.aload_n 0, 1) := by decide +kernel
theorem dX3_steeper_135 : decode cX3_steeper 135 = .ok (.getfield 45, 3) := by decide +kernel
theorem dX3_steeper_138 : decode cX3_steeper 138 = .ok (.iload_n 3, 1) := by decide +kernel
theorem dX3_steeper_139 : decode cX3_steeper 139 = .ok (.laload, 1) := by decide +kernel
theorem dX3_steeper_140 : decode cX3_steeper 140 = .ok (.lmul, 1) := by decide +kernel
theorem dX3_steeper_141 : decode cX3_steeper 141 = .ok (.lsub, 1) := by decide +kernel
theorem dX3_steeper_142 : decode cX3_steeper 142 = .ok (.lstore 10, 2) := by decide +kernel
theorem dX3_steeper_144 : decode cX3_steeper 144 = .ok (.lload 4, 2) := by decide +kernel
theorem dX3_steeper_146 : decode cX3_steeper 146 = .ok (.lload 6, 2) := by decide +kernel
theorem dX3_steeper_148 : decode cX3_steeper 148 = .ok (.lload 8, 2) := by decide +kernel
theorem dX3_steeper_150 : decode cX3_steeper 150 = .ok (.lload 10, 2) := by decide +kernel
theorem dX3_steeper_152 : decode cX3_steeper 152 = .ok (.invokestatic 129, 3) := by decide +kernel
theorem dX3_steeper_155 : decode cX3_steeper 155 = .ok (.istore 12, 2) := by decide +kernel
theorem dX3_steeper_157 : decode cX3_steeper 157 = .ok (.iload 12, 2) := by decide +kernel
theorem dX3_steeper_159 : decode cX3_steeper 159 = .ok (.ifCond .gt 17, 3) := by decide +kernel
theorem dX3_steeper_162 : decode cX3_steeper 162 = .ok (.iload 12, 2) := by decide +kernel
theorem dX3_steeper_164 : decode cX3_steeper 164 = .ok (.ifCond .ne 16, 3) := by decide +kernel
theorem dX3_steeper_167 : decode cX3_steeper 167 = .ok (.aload_n 0, 1) := by decide +kernel
theorem dX3_steeper_168 : decode cX3_steeper 168 = .ok (.iload_n 2, 1) := by decide +kernel
theorem dX3_steeper_169 : decode cX3_steeper 169 = .ok (.iload_n 3, 1) := by decide +kernel
theorem dX3_steeper_170 : decode cX3_steeper 170 = .ok (.invokevirtual 151, 3) := by decide +kernel
theorem dX3_steeper_173 : decode cX3_steeper 173 = .ok (.ifCond .le 7, 3) := by decide +kernel
theorem dX3_steeper_176 : decode cX3_steeper 176 = .ok (.iconst 1, 1) := by decide +kernel
theorem dX3_steeper_177 : decode cX3_steeper 177 = .ok (.goto 4, 3) := by decide +kernel
theorem dX3_steeper_180 : decode cX3_steeper 180 = .ok (.iconst 0, 1) := by decide +kernel
theorem dX3_steeper_181 : decode cX3_steeper 181 = .ok (.ireturn, 1) := by decide +kernel
theorem dX3_later_0 : decode cX3_later 0 = .ok (.aload_n 0, 1) := by decide +kernel
theorem dX3_later_1 : decode cX3_later 1 = .ok (.getfield 42, 3) := by decide +kernel
theorem dX3_later_4 : decode cX3_later 4 = .ok (.iconst 5, 1) := by decide +kernel
theorem dX3_later_5 : decode cX3_later 5 = .ok (.iload_n 1, 1) := by decide +kernel
theorem dX3_later_6 : decode cX3_later 6 = .ok (.imul, 1) := by decide +kernel
theorem dX3_later_7 : decode cX3_later 7 = .ok (.aload_n 0, 1) := by decide +kernel
theorem dX3_later_8 : decode cX3_later 8 = .ok (.getfield 7, 3) := by decide +kernel
theorem dX3_later_11 : decode cX3_later 11 = .ok (.iadd, 1) := by decide +kernel
theorem dX3_later_12 : decode cX3_later 12 = .ok (.laload, 1) := by decide +kernel
theorem dX3_later_13 : decode cX3_later 13 = .ok (.aload_n 0, 1) := by decide +kernel
theorem dX3_later_14 : decode cX3_later 14 = .ok (.getfield 45, 3) := by decide +kernel
theorem dX3_later_17 : decode cX3_later 17 = .ok (.iload_n 1, 1) := by decide +kernel
theorem dX3_later_18 : decode cX3_later 18 = .ok (.laload, 1) := by decide +kernel
theorem dX3_later_19 : decode cX3_later 19 = .ok (.aload_n 0, 1) := by decide +kernel
theorem dX3_later_20 : decode cX3_later 20 = .ok (.getfield 42, 3) := by decide +kernel
theorem dX3_later_23 : decode cX3_later 23 = .ok (.iconst 5, 1) := by decide +kernel
theorem dX3_later_24 : decode cX3_later 24 = .ok (.iload_n 2, 1) := by decide +kernel
theorem dX3_later_25 : decode cX3_later 25 = .ok (.imul, 1) := by decide +kernel
theorem dX3_later_26 : decode cX3_later 26 = .ok (.aload_n 0, 1) := by decide +kernel
theorem dX3_later_27 : decode cX3_later 27 = .ok (.getfield 7, 3) := by decide +kernel
theorem dX3_later_30 : decode cX3_later 30 = .ok (.iadd, 1) := by decide +kernel
theorem dX3_later_31 : decode cX3_later 31 = .ok (.laload, 1) := by decide +kernel
theorem dX3_later_32 : decode cX3_later 32 = .ok (.aload_n 0, 1) := by decide +kernel
theorem dX3_later_33 : decode cX3_later 33 = .ok (.getfield 45, 3) := by decide +kernel
theorem dX3_later_36 : decode cX3_later 36 = .ok (.iload_n 2, 1) := by decide +kernel
theorem dX3_later_37 : decode cX3_later 37 = .ok (.laload, 1) := by decide +kernel
theorem dX3_later_38 : decode cX3_later 38 = .ok (.invokestatic 129, 3) := by decide +kernel
theorem dX3_later_41 : decode cX3_later 41 = .ok (.ireturn, 1) := by decide +kernel
theorem dX3_findCorners_0 : decode cX3_findCorners 0 = .ok (.aload_n 0, 1) := by decide +kernel
theorem dX3_findCorners_1 : decode cX3_findCorners 1 = .ok (.invokevirtual 118, 3) := by decide +kernel
theorem dX3_findCorners_4 : decode cX3_findCorners 4 = .ok (.istore_n 1, 1) := by decide +kernel
theorem dX3_findCorners_5 : decode cX3_findCorners 5 = .ok (.aload_n 0, 1) := by decide +kernel
theorem dX3_findCorners_6 : decode cX3_findCorners 6 = .ok (.aload_n 0, 1) := by decide +kernel
theorem dX3_findCorners_7 : decode cX3_findCorners 7 = .ok (.invokevirtual 111, 3) := by decide +kernel
theorem dX3_findCorners_10 : decode cX3_findCorners 10 = .ok (.iconst 2, 1) := by decide +kernel
theorem dX3_findCorners_11 : decode cX3_findCorners 11 = .ok (.invokevirtual 108, 3) := by decide +kernel
theorem dX3_findCorners_14 : decode cX3_findCorners 14 = .ok (.aload_n 0, 1) := by decide +kernel
theorem dX3_findCorners_15 : decode cX3_findCorners 15 = .ok (.iconst 0, 1) := by decide +kernel
theorem dX3_findCorners_16 : decode cX3_findCorners 16 = .ok (.putfield 155, 3) := by decide +kernel
theorem dX3_findCorners_19 : decode cX3_findCorners 19 = .ok (.iload_n 1, 1) := by decide +kernel
theorem dX3_findCorners_20 : decode cX3_findCorners 20 = .ok (.ifCond .ne 10, 3) := by decide +kernel
theorem dX3_findCorners_23 : decode cX3_findCorners 23 = .ok (.aload_n 0, 1) := by decide +kernel
theorem dX3_findCorners_24 : decode cX3_findCorners 24 = .ok (.getfield 85, 3) := by decide +kernel
theorem dX3_findCorners_27 : decode cX3_findCorners 27 = .ok (.ifCond .ne 4, 3) := by decide +kernel
theorem dX3_findCorners_30 : decode cX3_findCorners 30 = .ok (.return_, 1) := by decide +kernel
theorem dX3_findCorners_31 : decode cX3_findCorners 31 = .ok (.iconst 0, 1) := by decide +kernel
theorem dX3_findCorners_32 : decode cX3_findCorners 32 = .ok (.istore_n 2, 1) := by decide +kernel
theorem dX3_findCorners_33 : decode cX3_findCorners 33 = .ok (.iconst 1, 1) := by decide +kernel
theorem dX3_findCorners_34 : decode cX3_findCorners 34 = .ok (.istore_n 3, 1) := by decide +kernel
theorem dX3_findCorners_35 : decode cX3_findCorners 35 = .ok (.iload_n 3, 1) := by decide +kernel
theorem dX3_findCorners_36 : decode cX3_findCorners 36 = .ok (.aload_n 0, 1) := by decide +kernel
theorem dX3_findCorners_37 : decode cX3_findCorners 37 = .ok (.getfield 85, 3) := by decide +kernel
theorem dX3_findCorners_40 : decode cX3_findCorners 40 = .ok (.if_icmp .ge 63, 3) := by decide +kernel
theorem dX3_findCorners_43 : decode cX3_findCorners 43 = .ok (.aload_n 0, 1) := by decide +kernel
theorem dX3_findCorners_44 : decode cX3_findCorners 44 = .ok (.iload_n 3, 1) := by decide +kernel
theorem dX3_findCorners_45 : decode cX3_findCorners 45 = .ok (.iload_n 2, 1) := by decide +kernel
theorem dX3_findCorners_46 : decode cX3_findCorners 46 = .ok (.invokevirtual 151, 3) := by decide +kernel
theorem dX3_findCorners_49 : decode cX3_findCorners 49 = .ok (.istore 4, 2) := by decide +kernel
theorem dX3_findCorners_51 : decode cX3_findCorners 51 = .ok (.iload 4, 2) := by decide +kernel
theorem dX3_findCorners_53 : decode cX3_findCorners 53 = .ok (.ifCond .lt 38, 3) := by decide +kernel
theorem dX3_findCorners_56 : decode cX3_findCorners 56 = .ok (.iload 4, 2) := by decide +kernel
theorem dX3_findCorners_58 : decode cX3_findCorners 58 = .ok (.ifCond .ne 37, 3) := by decide +kernel
theorem dX3_findCorners_61 : decode cX3_findCorners 61 = .ok (.aload_n 0, 1) := by decide +kernel
theorem dX3_findCorners_62 : decode cX3_findCorners 62 = .ok (.getfield 48, 3) := by decide +kernel
theorem dX3_findCorners_65 : decode cX3_findCorners 65 = .ok (.iload_n 3, 1) := by decide +kernel
theorem dX3_findCorners_66 : decode cX3_findCorners 66 = .ok (.laload, 1) := by decide +kernel
theorem dX3_findCorners_67 : decode cX3_findCorners 67 = .ok (.aload_n 0, 1) := by decide +kernel
theorem dX3_findCorners_68 : decode cX3_findCorners 68 = .ok (.getfield 45, 3) := by decide +kernel
theorem dX3_findCorners_71 : decode cX3_findCorners 71 = .ok (.iload_n 3, 1) := by decide +kernel
theorem dX3_findCorners_72 : decode cX3_findCorners 72 = .ok (.laload, 1) := by decide +kernel
theorem dX3_findCorners_73 : decode cX3_findCorners 73 = .ok (.aload_n 0, 1) := by decide +kernel
theorem dX3_findCorners_74 : decode cX3_findCorners 74 = .ok (.getfield 48, 3) := by decide +kernel
theorem dX3_findCorners_77 : decode cX3_findCorners 77 = .ok (.iload_n 2, 1) := by decide +kernel
theorem dX3_findCorners_78 : decode cX3_findCorners 78 = .ok (.laload, 1) := by decide +kernel
theorem dX3_findCorners_79 : decode cX3_findCorners 79 = .ok (.aload_n 0, 1) := by decide +kernel
theorem dX3_findCorners_80 : decode cX3_findCorners 80 = .ok (.getfield 45, 3) := by decide +kernel
theorem dX3_findCorners_83 : decode cX3_findCorners 83 = .ok (.iload_n 2, 1) := by decide +kernel
theorem dX3_findCorners_84 : decode cX3_findCorners 84 = .ok (.laload, 1) := by decide +kernel
theorem dX3_findCorners_85 : decode cX3_findCorners 85 = .ok (.invokestatic 129, 3) := by decide +kernel
theorem dX3_findCorners_88 : decode cX3_findCorners 88 = .ok (.ifCond .le 7, 3) := by decide +kernel
theorem dX3_findCorners_91 : decode cX3_findCorners 91 = .ok (.iload_n 3, 1) := by decide +kernel
theorem dX3_findCorners_92 : decode cX3_findCorners 92 = .ok (.goto 4, 3) := by decide +kernel
theorem dX3_findCorners_95 : decode cX3_findCorners 95 = .ok (.iload_n 2, 1) := by decide +kernel
theorem dX3_findCorners_96 : decode cX3_findCorners 96 = .ok (.istore_n 2, 1) := by decide +kernel
theorem dX3_findCorners_97 : decode cX3_findCorners 97 = .ok (.iinc 3 1, 3) := by decide +kernel
theorem dX3_findCorners_100 : decode cX3_findCorners 100 = .ok (.goto (-65), 3) := by decide +kernel
theorem dX3_findCorners_103 : decode cX3_findCorners 103 = .ok (.iload_n 2, 1) := by decide +kernel
theorem dX3_findCorners_104 : decode cX3_findCorners 104 = .ok (.ifCond .lt 92, 3) := by decide +kernel
theorem dX3_findCorners_107 : decode cX3_findCorners 107 = .ok (.aload_n 0, 1) := by decide +kernel
theorem dX3_findCorners_108 : decode cX3_findCorners 108 = .ok (.getfield 51, 3) := by decide +kernel
theorem dX3_findCorners_111 : decode cX3_findCorners 111 = .ok (.aload_n 0, 1) := by decide +kernel
theorem dX3_findCorners_112 : decode cX3_findCorners 112 = .ok (.getfield 155, 3) := by decide +kernel
theorem dX3_findCorners_115 : decode cX3_findCorners 115 = .ok (.iload_n 2, 1) := by decide +kernel
theorem dX3_findCorners_116 : decode cX3_findCorners 116 = .ok (.iastore, 1) := by decide +kernel
theorem dX3_findCorners_117 : decode cX3_findCorners 117 = .ok (.aload_n 0, 1) := by decide +kernel
theorem dX3_findCorners_118 : decode cX3_findCorners 118 = .ok (.dup, 1) := by decide +kernel
theorem dX3_findCorners_119 : decode cX3_findCorners 119 = .ok (.getfield 155, 3) := by decide +kernel
theorem dX3_findCorners_122 : decode cX3_findCorners 122 = .ok (.iconst 1, 1) := by decide +kernel
theorem dX3_findCorners_123 : decode cX3_findCorners 123 = .ok (.iadd, 1) := by decide +kernel
theorem dX3_findCorners_124 : decode cX3_findCorners 124 = .ok (.putfield 155, 3) := by decide +kernel
theorem dX3_findCorners_127 : decode cX3_findCorners 127 = .ok (.iconst (-1), 1) := by decide +kernel
theorem dX3_findCorners_128 : decode cX3_findCorners 128 = .ok (.istore_n 3, 1) := by decide +kernel
theorem dX3_findCorners_129 : decode cX3_findCorners 129 = .ok (.iconst 0, 1) := by decide +kernel
theorem dX3_findCorners_130 : decode cX3_findCorners 130 = .ok (.istore 4, 2) := by decide +kernel
theorem dX3_findCorners_132 : decode cX3_findCorners 132 = .ok (.iload 4, 2) := by decide +kernel
theorem dX3_findCorners_134 : decode cX3_findCorners 134 = .ok (.aload_n 0, 1) := by decide +kernel
theorem dX3_findCorners_135 : decode cX3_findCorners 135 = .ok (.getfield 85, 3) := by decide +kernel
theorem dX3_findCorners_138 : decode cX3_findCorners 138 = .ok (.if_icmp .ge 53, 3) := by decide +kernel
theorem dX3_findCorners_141 : decode cX3_findCorners 141 = .ok (.aload_n 0, 1) := by decide +kernel
theorem dX3_findCorners_142 : decode cX3_findCorners 142 = .ok (.iload 4, 2) := by decide +kernel
theorem dX3_findCorners_144 : decode cX3_findCorners 144 = .ok (.iload_n 2, 1) := by decide +kernel
theorem dX3_findCorners_145 : decode cX3_findCorners 145 = .ok (.invokevirtual 151, 3) := by decide +kernel
theorem dX3_findCorners_148 : decode cX3_findCorners 148 = .ok (.ifCond .le 7, 3) := by decide +kernel
theorem dX3_findCorners_151 : decode cX3_findCorners 151 = .ok (.iconst 1, 1) := by decide +kernel
theorem dX3_findCorners_152 : decode cX3_findCorners 152 = .ok (.goto 4, 3) := by decide +kernel
theorem dX3_findCorners_155 : decode cX3_findCorners 155 = .ok (.iconst 0, 1) := by decide +kernel
theorem dX3_findCorners_156 : decode cX3_findCorners 156 = .ok (.istore 5, 2) := by decide +kernel
theorem dX3_findCorners_158 : decode cX3_findCorners 158 = .ok (.iload 5, 2) := by decide +kernel
theorem dX3_findCorners_160 : decode cX3_findCorners 160 = .ok (.ifCond .eq 23, 3) := by decide +kernel
theorem dX3_findCorners_163 : decode cX3_findCorners 163 = .ok (.iload_n 3, 1) := by decide +kernel
theorem dX3_findCorners_164 : decode cX3_findCorners 164 = .ok (.ifCond .lt 14, 3) := by decide +kernel
theorem dX3_findCorners_167 : decode cX3_findCorners 167 = .ok (.aload_n 0, 1) := by decide +kernel
theorem dX3_findCorners_168 : decode cX3_findCorners 168 = .ok (.iload_n 2, 1) := by decide +kernel
theorem dX3_findCorners_169 : decode cX3_findCorners 169 = .ok (.iload 4, 2) := by decide +kernel
theorem dX3_findCorners_171 : decode cX3_findCorners 171 = .ok (.iload_n 3, 1) := by decide +kernel
theorem dX3_findCorners_172 : decode cX3_findCorners 172 = .ok (.invokevirtual 158, 3) := by decide +kernel
theorem dX3_findCorners_175 : decode cX3_findCorners 175 = .ok (.ifCond .eq 8, 3) := by decide +kernel
theorem dX3_findCorners_178 : decode cX3_findCorners 178 = .ok (.iload 4, 2) := by decide +kernel
theorem dX3_findCorners_180 : decode cX3_findCorners 180 = .ok (.goto 4, 3) := by decide +kernel
theorem dX3_findCorners_183 : decode cX3_findCorners 183 = .ok (.iload_n 3, 1) := by decide +kernel
theorem dX3_findCorners_184 : decode cX3_findCorners 184 = .ok (.istore_n 3, 1) := by decide +kernel
theorem dX3_findCorners_185 : decode cX3_findCorners 185 = .ok (.iinc 4 1, 3) := by decide +kernel
theorem dX3_findCorners_188 : decode cX3_findCorners 188 = .ok (.goto (-56), 3) := by decide +kernel
theorem dX3_findCorners_191 : decode cX3_findCorners 191 = .ok (.iload_n 3, 1) := by decide +kernel
theorem dX3_findCorners_192 : decode cX3_findCorners 192 = .ok (.istore_n 2, 1) := by decide +kernel
theorem dX3_findCorners_193 : decode cX3_findCorners 193 = .ok (.goto (-90), 3) := by decide +kernel
theorem dX3_findCorners_196 : decode cX3_findCorners 196 = .ok (.return_, 1) := by decide +kernel
theorem dX3_corners_0 : decode cX3_corners 0 = .ok (.aload_n 0, 1) := by decide +kernel
theorem dX3_corners_1 : decode cX3_corners 1 = .ok (.iconst 0, 1) := by decide +kernel
theorem dX3_corners_2 : decode cX3_corners 2 = .ok (.putfield 54, 3) := by decide +kernel
theorem dX3_corners_5 : decode cX3_corners 5 = .ok (.aload_n 0, 1) := by decide +kernel
theorem dX3_corners_6 : decode cX3_corners 6 = .ok (.invokevirtual 161, 3) := by decide +kernel
theorem dX3_corners_9 : decode cX3_corners 9 = .ok (.aload_n 0, 1) := by decide +kernel
theorem dX3_corners_10 : decode cX3_corners 10 = .ok (.getfield 155, 3) := by decide +kernel
theorem dX3_corners_13 : decode cX3_corners 13 = .ok (.ireturn, 1) := by decide +kernel
theorem dX3_corner_0 : decode cX3_corner 0 = .ok (.aload_n 0, 1) := by decide +kernel
theorem dX3_corner_1 : decode cX3_corner 1 = .ok (.invokevirtual 161, 3) := by decide +kernel
theorem dX3_corner_4 : decode cX3_corner 4 = .ok (.aload_n 0, 1) := by decide +kernel
theorem dX3_corner_5 : decode cX3_corner 5 = .ok (.iload_n 1, 1) := by decide +kernel
theorem dX3_corner_6 : decode cX3_corner 6 = .ok (.iconst 0, 1) := by decide +kernel
theorem dX3_corner_7 : decode cX3_corner 7 = .ok (.aload_n 0, 1) := by decide +kernel
theorem dX3_corner_8 : decode cX3_corner 8 = .ok (.getfield 155, 3) := by decide +kernel
theorem dX3_corner_11 : decode cX3_corner 11 = .ok (.iconst 1, 1) := by decide +kernel
theorem dX3_corner_12 : decode cX3_corner 12 = .ok (.isub, 1) := by decide +kernel
theorem dX3_corner_13 : decode cX3_corner 13 = .ok (.invokestatic 57, 3) := by decide +kernel
theorem dX3_corner_16 : decode cX3_corner 16 = .ok (.iload_n 2, 1) := by decide +kernel
theorem dX3_corner_17 : decode cX3_corner 17 = .ok (.iconst 0, 1) := by decide +kernel
theorem dX3_corner_18 : decode cX3_corner 18 = .ok (.iconst 3, 1) := by decide +kernel
theorem dX3_corner_19 : decode cX3_corner 19 = .ok (.invokestatic 57, 3) := by decide +kernel
theorem dX3_corner_22 : decode cX3_corner 22 = .ok (.iconst 0, 1) := by decide +kernel
theorem dX3_corner_23 : decode cX3_corner 23 = .ok (.iconst 0, 1) := by decide +kernel
theorem dX3_corner_24 : decode cX3_corner 24 = .ok (.invokevirtual 61, 3) := by decide +kernel
theorem dX3_corner_27 : decode cX3_corner 27 = .ok (.ifCond .eq 5, 3) := by decide +kernel
theorem dX3_corner_30 : decode cX3_corner 30 = .ok (.lconst 0, 1) := by decide +kernel
theorem dX3_corner_31 : decode cX3_corner 31 = .ok (.lreturn, 1) := by decide +kernel
theorem dX3_corner_32 : decode cX3_corner 32 = .ok (.aload_n 0, 1) := by decide +kernel
theorem dX3_corner_33 : decode cX3_corner 33 = .ok (.getfield 51, 3) := by decide +kernel
theorem dX3_corner_36 : decode cX3_corner 36 = .ok (.iload_n 1, 1) := by decide +kernel
theorem dX3_corner_37 : decode cX3_corner 37 = .ok (.iaload, 1) := by decide +kernel
theorem dX3_corner_38 : decode cX3_corner 38 = .ok (.istore_n 3, 1) := by decide +kernel
theorem dX3_corner_39 : decode cX3_corner 39 = .ok (.iload_n 2, 1) := by decide +kernel
theorem dX3_corner_40 : decode cX3_corner 40 = .ok (.iconst 2, 1) := by decide +kernel
theorem dX3_corner_41 : decode cX3_corner 41 = .ok (.if_icmp .ge 29, 3) := by decide +kernel
theorem dX3_corner_44 : decode cX3_corner 44 = .ok (.aload_n 0, 1) := by decide +kernel
theorem dX3_corner_45 : decode cX3_corner 45 = .ok (.getfield 42, 3) := by decide +kernel
theorem dX3_corner_48 : decode cX3_corner 48 = .ok (.iconst 5, 1) := by decide +kernel
theorem dX3_corner_49 : decode cX3_corner 49 = .ok (.iload_n 3, 1) := by decide +kernel
theorem dX3_corner_50 : decode cX3_corner 50 = .ok (.imul, 1) := by decide +kernel
theorem dX3_corner_51 : decode cX3_corner 51 = .ok (.aload_n 0, 1) := by decide +kernel
theorem dX3_corner_52 : decode cX3_corner 52 = .ok (.getfield 7, 3) := by decide +kernel
theorem dX3_corner_55 : decode cX3_corner 55 = .ok (.iadd, 1) := by decide +kernel
theorem dX3_corner_56 : decode cX3_corner 56 = .ok (.laload, 1) := by decide +kernel
theorem dX3_corner_57 : decode cX3_corner 57 = .ok (.aload_n 0, 1) := by decide +kernel
theorem dX3_corner_58 : decode cX3_corner 58 = .ok (.getfield 45, 3) := by decide +kernel
theorem dX3_corner_61 : decode cX3_corner 61 = .ok (.iload_n 3, 1) := by decide +kernel
theorem dX3_corner_62 : decode cX3_corner 62 = .ok (.laload, 1) := by decide +kernel
theorem dX3_corner_63 : decode cX3_corner 63 = .ok (.iload_n 2, 1) := by decide +kernel
theorem dX3_corner_64 : decode cX3_corner 64 = .ok (.invokestatic 140, 3) := by decide +kernel
theorem dX3_corner_67 : decode cX3_corner 67 = .ok (.goto 21, 3) := by decide +kernel
theorem dX3_corner_70 : decode cX3_corner 70 = .ok (.aload_n 0, 1) := by decide +kernel
theorem dX3_corner_71 : decode cX3_corner 71 = .ok (.getfield 48, 3) := by decide +kernel
theorem dX3_corner_74 : decode cX3_corner 74 = .ok (.iload_n 3, 1) := by decide +kernel
theorem dX3_corner_75 : decode cX3_corner 75 = .ok (.laload, 1) := by decide +kernel
theorem dX3_corner_76 : decode cX3_corner 76 = .ok (.aload_n 0, 1) := by decide +kernel
theorem dX3_corner_77 : decode cX3_corner 77 = .ok (.getfield 45, 3) := by decide +kernel
theorem dX3_corner_80 : decode cX3_corner 80 = .ok (.iload_n 3, 1) := by decide +kernel
theorem dX3_corner_81 : decode cX3_corner 81 = .ok (.laload, 1) := by decide +kernel
theorem dX3_corner_82 : decode cX3_corner 82 = .ok (.iload_n 2, 1) := by decide +kernel
theorem dX3_corner_83 : decode cX3_corner 83 = .ok (.iconst 2, 1) := by decide +kernel
theorem dX3_corner_84 : decode cX3_corner 84 = .ok (.isub, 1) := by decide +kernel
theorem dX3_corner_85 : decode cX3_corner 85 = .ok (.invokestatic 140, 3) := by decide +kernel
theorem dX3_corner_88 : decode cX3_corner 88 = .ok (.lreturn, 1) := by decide +kernel
theorem dJ6_bitCount_0f7a4_0 : decode cJ6_bitCount_0f7a4 0 = .ok (.iload_n 0, 1) := by decide +kernel
theorem dJ6_bitCount_0f7a4_1 : decode cJ6_bitCount_0f7a4 1 = .ok (.iload_n 0, 1) := by decide +kernel
theorem dJ6_bitCount_0f7a4_2 : decode cJ6_bitCount_0f7a4 2 = .ok (.iconst 1, 1) := by decide +kernel
theorem dJ6_bitCount_0f7a4_3 : decode cJ6_bitCount_0f7a4 3 = .ok (.iushr, 1) := by decide +kernel
theorem dJ6_bitCount_0f7a4_4 : decode cJ6_bitCount_0f7a4 4 = .ok (.ldc_w 265, 3) := by decide +kernel
theorem dJ6_bitCount_0f7a4_7 : decode cJ6_bitCount_0f7a4 7 = .ok (.iand, 1) := by decide +kernel
theorem dJ6_bitCount_0f7a4_8 : decode cJ6_bitCount_0f7a4 8 = .ok (.isub, 1) := by decide +kernel
theorem dJ6_bitCount_0f7a4_9 : decode cJ6_bitCount_0f7a4 9 = .ok (.istore_n 0, 1) := by decide +kernel
theorem dJ6_bitCount_0f7a4_10 : decode cJ6_bitCount_0f7a4 10 = .ok (.iload_n 0, 1) := by decide +kernel
theorem dJ6_bitCount_0f7a4_11 : decode cJ6_bitCount_0f7a4 11 = .ok (.ldc_w 266, 3) := by decide +kernel
theorem dJ6_bitCount_0f7a4_14 : decode cJ6_bitCount_0f7a4 14 = .ok (.iand, 1) := by decide +kernel
theorem dJ6_bitCount_0f7a4_15 : decode cJ6_bitCount_0f7a4 15 = .ok (.iload_n 0, 1) := by decide +kernel
theorem dJ6_bitCount_0f7a4_16 : decode cJ6_bitCount_0f7a4 16 = .ok (.iconst 2, 1) := by decide +kernel
theorem dJ6_bitCount_0f7a4_17 : decode cJ6_bitCount_0f7a4 17 = .ok (.iushr, 1) := by decide +kernel
theorem dJ6_bitCount_0f7a4_18 : decode cJ6_bitCount_0f7a4 18 = .ok (.ldc_w 266, 3) := by decide +kernel
theorem dJ6_bitCount_0f7a4_21 : decode cJ6_bitCount_0f7a4 21 = .ok (.iand, 1) := by decide +kernel
theorem dJ6_bitCount_0f7a4_22 : decode cJ6_bitCount_0f7a4 22 = .ok (.iadd, 1) := by decide +kernel
theorem dJ6_bitCount_0f7a4_23 : decode cJ6_bitCount_0f7a4 23 = .ok (.istore_n 0, 1) := by decide +kernel
theorem dJ6_bitCount_0f7a4_24 : decode cJ6_bitCount_0f7a4 24 = .ok (.iload_n 0, 1) := by decide +kernel
theorem dJ6_bitCount_0f7a4_25 : decode cJ6_bitCount_0f7a4 25 = .ok (.iload_n 0, 1) := by decide +kernel
theorem dJ6_bitCount_0f7a4_26 : decode cJ6_bitCount_0f7a4 26 = .ok (.iconst 4, 1) := by decide +kernel
theorem dJ6_bitCount_0f7a4_27 : decode cJ6_bitCount_0f7a4 27 = .ok (.iushr, 1) := by decide +kernel
theorem dJ6_bitCount_0f7a4_28 : decode cJ6_bitCount_0f7a4 28 = .ok (.iadd, 1) := by decide +kernel
theorem dJ6_bitCount_0f7a4_29 : decode cJ6_bitCount_0f7a4 29 = .ok (.ldc_w 267, 3) := by decide +kernel
theorem dJ6_bitCount_0f7a4_32 : decode cJ6_bitCount_0f7a4 32 = .ok (.iand, 1) := by decide +kernel
theorem dJ6_bitCount_0f7a4_33 : decode cJ6_bitCount_0f7a4 33 = .ok (.istore_n 0, 1) := by decide +kernel
theorem dJ6_bitCount_0f7a4_34 : decode cJ6_bitCount_0f7a4 34 = .ok (.iload_n 0, 1) := by decide +kernel
theorem dJ6_bitCount_0f7a4_35 : decode cJ6_bitCount_0f7a4 35 = .ok (.iload_n 0, 1) := by decide +kernel
theorem dJ6_bitCount_0f7a4_36 : decode cJ6_bitCount_0f7a4 36 = .ok (.bipush 8, 2) := by decide +kernel
theorem dJ6_bitCount_0f7a4_38 : decode cJ6_bitCount_0f7a4 38 = .ok (.iushr, 1) := by decide +kernel
theorem dJ6_bitCount_0f7a4_39 : decode cJ6_bitCount_0f7a4 39 = .ok (.iadd, 1) := by decide +kernel
theorem dJ6_bitCount_0f7a4_40 : decode cJ6_bitCount_0f7a4 40 = .ok (.istore_n 0, 1) := by decide +kernel
theorem dJ6_bitCount_0f7a4_41 : decode cJ6_bitCount_0f7a4 41 = .ok (.iload_n 0, 1) := by decide +kernel
theorem dJ6_bitCount_0f7a4_42 : decode cJ6_bitCount_0f7a4 42 = .ok (.iload_n 0, 1) := by decide +kernel
theorem dJ6_bitCount_0f7a4_43 : decode cJ6_bitCount_0f7a4 43 = .ok (.bipush 16, 2) := by decide +kernel
theorem dJ6_bitCount_0f7a4_45 : decode cJ6_bitCount_0f7a4 45 = .ok (.iushr, 1) := by decide +kernel
theorem dJ6_bitCount_0f7a4_46 : decode cJ6_bitCount_0f7a4 46 = .ok (.iadd, 1) := by decide +kernel
theorem dJ6_bitCount_0f7a4_47 : decode cJ6_bitCount_0f7a4 47 = .ok (.istore_n 0, 1) := by decide +kernel
theorem dJ6_bitCount_0f7a4_48 : decode cJ6_bitCount_0f7a4 48 = .ok (.iload_n 0, 1) := by decide +kernel
theorem dJ6_bitCount_0f7a4_49 : decode cJ6_bitCount_0f7a4 49 = .ok (.bipush 63, 2) := by decide +kernel
theorem dJ6_bitCount_0f7a4_51 : decode cJ6_bitCount_0f7a4 51 = .ok (.iand, 1) := by decide +kernel
theorem dJ6_bitCount_0f7a4_52 : decode cJ6_bitCount_0f7a4 52 = .ok (.ireturn, 1) := by decide +kernel
theorem dJ13_compare_74951_0 : decode cJ13_compare_74951 0 = .ok (.lload_n 0, 1) := by decide +kernel
theorem dJ13_compare_74951_1 : decode cJ13_compare_74951 1 = .ok (.lload_n 2, 1) := by decide +kernel
theorem dJ13_compare_74951_2 : decode cJ13_compare_74951 2 = .ok (.lcmp, 1) := by decide +kernel
theorem dJ13_compare_74951_3 : decode cJ13_compare_74951 3 = .ok (.ifCond .ge 7, 3) := by decide +kernel
theorem dJ13_compare_74951_6 : decode cJ13_compare_74951 6 = .ok (.iconst (-1), 1) := by decide +kernel
theorem dJ13_compare_74951_7 : decode cJ13_compare_74951 7 = .ok (.goto 14, 3) := by decide +kernel
theorem dJ13_compare_74951_10 : decode cJ13_compare_74951 10 = .ok (.lload_n 0, 1) := by decide +kernel
theorem dJ13_compare_74951_11 : decode cJ13_compare_74951 11 = .ok (.lload_n 2, 1) := by decide +kernel
theorem dJ13_compare_74951_12 : decode cJ13_compare_74951 12 = .ok (.lcmp, 1) := by decide +kernel
theorem dJ13_compare_74951_13 : decode cJ13_compare_74951 13 = .ok (.ifCond .ne 7, 3) := by decide +kernel
theorem dJ13_compare_74951_16 : decode cJ13_compare_74951 16 = .ok (.iconst 0, 1) := by decide +kernel
theorem dJ13_compare_74951_17 : decode cJ13_compare_74951 17 = .ok (.goto 4, 3) := by decide +kernel
theorem dJ13_compare_74951_20 : decode cJ13_compare_74951 20 = .ok (.iconst 1, 1) := by decide +kernel
theorem dJ13_compare_74951_21 : decode cJ13_compare_74951 21 = .ok (.ireturn, 1) := by decide +kernel
theorem dJ9_abs_067f4_0 : decode cJ9_abs_067f4 0 = .ok (.lload_n 0, 1) := by decide +kernel
theorem dJ9_abs_067f4_1 : decode cJ9_abs_067f4 1 = .ok (.lconst 0, 1) := by decide +kernel
theorem dJ9_abs_067f4_2 : decode cJ9_abs_067f4 2 = .ok (.lcmp, 1) := by decide +kernel
theorem dJ9_abs_067f4_3 : decode cJ9_abs_067f4 3 = .ok (.ifCond .ge 8, 3) := by decide +kernel
theorem dJ9_abs_067f4_6 : decode cJ9_abs_067f4 6 = .ok (.lload_n 0, 1) := by decide +kernel
theorem dJ9_abs_067f4_7 : decode cJ9_abs_067f4 7 = .ok (.lneg, 1) := by decide +kernel
theorem dJ9_abs_067f4_8 : decode cJ9_abs_067f4 8 = .ok (.goto 4, 3) := by decide +kernel
theorem dJ9_abs_067f4_11 : decode cJ9_abs_067f4 11 = .ok (.lload_n 0, 1) := by decide +kernel
theorem dJ9_abs_067f4_12 : decode cJ9_abs_067f4 12 = .ok (.lreturn, 1) := by decide +kernel
theorem dJ9_max_f86c9_0 : decode cJ9_max_f86c9 0 = .ok (.lload_n 0, 1) := by decide +kernel
theorem dJ9_max_f86c9_1 : decode cJ9_max_f86c9 1 = .ok (.lload_n 2, 1) := by decide +kernel
theorem dJ9_max_f86c9_2 : decode cJ9_max_f86c9 2 = .ok (.lcmp, 1) := by decide +kernel
theorem dJ9_max_f86c9_3 : decode cJ9_max_f86c9 3 = .ok (.ifCond .lt 7, 3) := by decide +kernel
theorem dJ9_max_f86c9_6 : decode cJ9_max_f86c9 6 = .ok (.lload_n 0, 1) := by decide +kernel
theorem dJ9_max_f86c9_7 : decode cJ9_max_f86c9 7 = .ok (.goto 4, 3) := by decide +kernel
theorem dJ9_max_f86c9_10 : decode cJ9_max_f86c9 10 = .ok (.lload_n 2, 1) := by decide +kernel
theorem dJ9_max_f86c9_11 : decode cJ9_max_f86c9 11 = .ok (.lreturn, 1) := by decide +kernel
theorem dL_begin_0 : decode cL_begin 0 = .ok (.aload_n 0, 1) := by decide +kernel
theorem dL_begin_1 : decode cL_begin 1 = .ok (.iload_n 1, 1) := by decide +kernel
theorem dL_begin_2 : decode cL_begin 2 = .ok (.iload_n 2, 1) := by decide +kernel
theorem dL_begin_3 : decode cL_begin 3 = .ok (.invokevirtual 7, 3) := by decide +kernel
theorem dL_begin_6 : decode cL_begin 6 = .ok (.goto 6, 3) := by decide +kernel
theorem dL_begin_9 : decode cL_begin 9 = .ok (.astore_n 3, 1) := by decide +kernel
theorem dL_begin_10 : decode cL_begin 10 = .ok (.iconst 1, 1) := by decide +kernel
theorem dL_begin_11 : decode cL_begin 11 = .ok (.ireturn, 1) := by decide +kernel
theorem dL_begin_12 : decode cL_begin 12 = .ok (.iconst 0, 1) := by decide +kernel
theorem dL_begin_13 : decode cL_begin 13 = .ok (.ireturn, 1) := by decide +kernel
theorem dL_coefficient_0 : decode cL_coefficient 0 = .ok (.aload_n 0, 1) := by decide +kernel
theorem dL_coefficient_1 : decode cL_coefficient 1 = .ok (.iload_n 1, 1) := by decide +kernel
theorem dL_coefficient_2 : decode cL_coefficient 2 = .ok (.iload_n 2, 1) := by decide +kernel
theorem dL_coefficient_3 : decode cL_coefficient 3 = .ok (.iload_n 3, 1) := by decide +kernel
theorem dL_coefficient_4 : decode cL_coefficient 4 = .ok (.invokevirtual 15, 3) := by decide +kernel
theorem dL_coefficient_7 : decode cL_coefficient 7 = .ok (.goto 11, 3) := by decide +kernel
theorem dL_coefficient_10 : decode cL_coefficient 10 = .ok (.astore 4, 2) := by decide +kernel
theorem dL_coefficient_12 : decode cL_coefficient 12 = .ok (.iconst 1, 1) := by decide +kernel
theorem dL_coefficient_13 : decode cL_coefficient 13 = .ok (.ireturn, 1) := by decide +kernel
theorem dL_coefficient_14 : decode cL_coefficient 14 = .ok (.astore 4, 2) := by decide +kernel
theorem dL_coefficient_16 : decode cL_coefficient 16 = .ok (.iconst 2, 1) := by decide +kernel
theorem dL_coefficient_17 : decode cL_coefficient 17 = .ok (.ireturn, 1) := by decide +kernel
theorem dL_coefficient_18 : decode cL_coefficient 18 = .ok (.iconst 0, 1) := by decide +kernel
theorem dL_coefficient_19 : decode cL_coefficient 19 = .ok (.ireturn, 1) := by decide +kernel
theorem dL_row_0 : decode cL_row 0 = .ok (.aload_n 0, 1) := by decide +kernel
theorem dL_row_1 : decode cL_row 1 = .ok (.iload_n 1, 1) := by decide +kernel
theorem dL_row_2 : decode cL_row 2 = .ok (.iload_n 2, 1) := by decide +kernel
theorem dL_row_3 : decode cL_row 3 = .ok (.iload_n 3, 1) := by decide +kernel
theorem dL_row_4 : decode cL_row 4 = .ok (.invokevirtual 21, 3) := by decide +kernel
theorem dL_row_7 : decode cL_row 7 = .ok (.goto 11, 3) := by decide +kernel
theorem dL_row_10 : decode cL_row 10 = .ok (.astore 4, 2) := by decide +kernel
theorem dL_row_12 : decode cL_row 12 = .ok (.iconst 1, 1) := by decide +kernel
theorem dL_row_13 : decode cL_row 13 = .ok (.ireturn, 1) := by decide +kernel
theorem dL_row_14 : decode cL_row 14 = .ok (.astore 4, 2) := by decide +kernel
theorem dL_row_16 : decode cL_row 16 = .ok (.iconst 2, 1) := by decide +kernel
theorem dL_row_17 : decode cL_row 17 = .ok (.ireturn, 1) := by decide +kernel
theorem dL_row_18 : decode cL_row 18 = .ok (.iconst 0, 1) := by decide +kernel
theorem dL_row_19 : decode cL_row 19 = .ok (.ireturn, 1) := by decide +kernel
theorem dL_want_0 : decode cL_want 0 = .ok (.aload_n 0, 1) := by decide +kernel
theorem dL_want_1 : decode cL_want 1 = .ok (.iload_n 1, 1) := by decide +kernel
theorem dL_want_2 : decode cL_want 2 = .ok (.iload_n 2, 1) := by decide +kernel
theorem dL_want_3 : decode cL_want 3 = .ok (.invokevirtual 24, 3) := by decide +kernel
theorem dL_want_6 : decode cL_want 6 = .ok (.goto 9, 3) := by decide +kernel
theorem dL_want_9 : decode cL_want 9 = .ok (.astore_n 3, 1) := by decide +kernel
theorem dL_want_10 : decode cL_want 10 = .ok (.iconst 1, 1) := by decide +kernel
theorem dL_want_11 : decode cL_want 11 = .ok (.ireturn, 1) := by decide +kernel
theorem dL_want_12 : decode cL_want 12 = .ok (.astore_n 3, 1) := by decide +kernel
theorem dL_want_13 : decode cL_want 13 = .ok (.iconst 2, 1) := by decide +kernel
theorem dL_want_14 : decode cL_want 14 = .ok (.ireturn, 1) := by decide +kernel
theorem dL_want_15 : decode cL_want 15 = .ok (.iconst 0, 1) := by decide +kernel
theorem dL_want_16 : decode cL_want 16 = .ok (.ireturn, 1) := by decide +kernel
theorem dL_drift_0 : decode cL_drift 0 = .ok (.aload_n 0, 1) := by decide +kernel
theorem dL_drift_1 : decode cL_drift 1 = .ok (.iload_n 1, 1) := by decide +kernel
theorem dL_drift_2 : decode cL_drift 2 = .ok (.iload_n 2, 1) := by decide +kernel
theorem dL_drift_3 : decode cL_drift 3 = .ok (.invokevirtual 27, 3) := by decide +kernel
theorem dL_drift_6 : decode cL_drift 6 = .ok (.goto 9, 3) := by decide +kernel
theorem dL_drift_9 : decode cL_drift 9 = .ok (.astore_n 3, 1) := by decide +kernel
theorem dL_drift_10 : decode cL_drift 10 = .ok (.iconst 1, 1) := by decide +kernel
theorem dL_drift_11 : decode cL_drift 11 = .ok (.ireturn, 1) := by decide +kernel
theorem dL_drift_12 : decode cL_drift 12 = .ok (.astore_n 3, 1) := by decide +kernel
theorem dL_drift_13 : decode cL_drift 13 = .ok (.iconst 2, 1) := by decide +kernel
theorem dL_drift_14 : decode cL_drift 14 = .ok (.ireturn, 1) := by decide +kernel
theorem dL_drift_15 : decode cL_drift 15 = .ok (.iconst 0, 1) := by decide +kernel
theorem dL_drift_16 : decode cL_drift 16 = .ok (.ireturn, 1) := by decide +kernel
theorem dL_value_0 : decode cL_value 0 = .ok (.aload_n 2, 1) := by decide +kernel
theorem dL_value_1 : decode cL_value 1 = .ok (.iconst 0, 1) := by decide +kernel
theorem dL_value_2 : decode cL_value 2 = .ok (.aload_n 0, 1) := by decide +kernel
theorem dL_value_3 : decode cL_value 3 = .ok (.iload_n 1, 1) := by decide +kernel
theorem dL_value_4 : decode cL_value 4 = .ok (.invokevirtual 30, 3) := by decide +kernel
theorem dL_value_7 : decode cL_value 7 = .ok (.lastore, 1) := by decide +kernel
theorem dL_value_8 : decode cL_value 8 = .ok (.goto 9, 3) := by decide +kernel
theorem dL_value_11 : decode cL_value 11 = .ok (.astore_n 3, 1) := by decide +kernel
theorem dL_value_12 : decode cL_value 12 = .ok (.iconst 1, 1) := by decide +kernel
theorem dL_value_13 : decode cL_value 13 = .ok (.ireturn, 1) := by decide +kernel
theorem dL_value_14 : decode cL_value 14 = .ok (.astore_n 3, 1) := by decide +kernel
theorem dL_value_15 : decode cL_value 15 = .ok (.iconst 2, 1) := by decide +kernel
theorem dL_value_16 : decode cL_value 16 = .ok (.ireturn, 1) := by decide +kernel
theorem dL_value_17 : decode cL_value 17 = .ok (.iconst 0, 1) := by decide +kernel
theorem dL_value_18 : decode cL_value 18 = .ok (.ireturn, 1) := by decide +kernel
theorem dL_point_0 : decode cL_point 0 = .ok (.aload_n 3, 1) := by decide +kernel
theorem dL_point_1 : decode cL_point 1 = .ok (.iconst 0, 1) := by decide +kernel
theorem dL_point_2 : decode cL_point 2 = .ok (.aload_n 0, 1) := by decide +kernel
theorem dL_point_3 : decode cL_point 3 = .ok (.iload_n 1, 1) := by decide +kernel
theorem dL_point_4 : decode cL_point 4 = .ok (.iload_n 2, 1) := by decide +kernel
theorem dL_point_5 : decode cL_point 5 = .ok (.invokevirtual 36, 3) := by decide +kernel
theorem dL_point_8 : decode cL_point 8 = .ok (.lastore, 1) := by decide +kernel
theorem dL_point_9 : decode cL_point 9 = .ok (.goto 15, 3) := by decide +kernel
theorem dL_point_12 : decode cL_point 12 = .ok (.astore 4, 2) := by decide +kernel
theorem dL_point_14 : decode cL_point 14 = .ok (.iconst 1, 1) := by decide +kernel
theorem dL_point_15 : decode cL_point 15 = .ok (.ireturn, 1) := by decide +kernel
theorem dL_point_16 : decode cL_point 16 = .ok (.astore 4, 2) := by decide +kernel
theorem dL_point_18 : decode cL_point 18 = .ok (.iconst 2, 1) := by decide +kernel
theorem dL_point_19 : decode cL_point 19 = .ok (.ireturn, 1) := by decide +kernel
theorem dL_point_20 : decode cL_point 20 = .ok (.astore 4, 2) := by decide +kernel
theorem dL_point_22 : decode cL_point 22 = .ok (.iconst 3, 1) := by decide +kernel
theorem dL_point_23 : decode cL_point 23 = .ok (.ireturn, 1) := by decide +kernel
theorem dL_point_24 : decode cL_point 24 = .ok (.iconst 0, 1) := by decide +kernel
theorem dL_point_25 : decode cL_point 25 = .ok (.ireturn, 1) := by decide +kernel
theorem dL_range_0 : decode cL_range 0 = .ok (.aload 4, 2) := by decide +kernel
theorem dL_range_2 : decode cL_range 2 = .ok (.iconst 0, 1) := by decide +kernel
theorem dL_range_3 : decode cL_range 3 = .ok (.aload_n 0, 1) := by decide +kernel
theorem dL_range_4 : decode cL_range 4 = .ok (.iload_n 1, 1) := by decide +kernel
theorem dL_range_5 : decode cL_range 5 = .ok (.iload_n 2, 1) := by decide +kernel
theorem dL_range_6 : decode cL_range 6 = .ok (.iload_n 3, 1) := by decide +kernel
theorem dL_range_7 : decode cL_range 7 = .ok (.invokevirtual 40, 3) := by decide +kernel
theorem dL_range_10 : decode cL_range 10 = .ok (.lastore, 1) := by decide +kernel
theorem dL_range_11 : decode cL_range 11 = .ok (.goto 19, 3) := by decide +kernel
theorem dL_range_14 : decode cL_range 14 = .ok (.astore 5, 2) := by decide +kernel
theorem dL_range_16 : decode cL_range 16 = .ok (.iconst 1, 1) := by decide +kernel
theorem dL_range_17 : decode cL_range 17 = .ok (.ireturn, 1) := by decide +kernel
theorem dL_range_18 : decode cL_range 18 = .ok (.astore 5, 2) := by decide +kernel
theorem dL_range_20 : decode cL_range 20 = .ok (.iconst 2, 1) := by decide +kernel
theorem dL_range_21 : decode cL_range 21 = .ok (.ireturn, 1) := by decide +kernel
theorem dL_range_22 : decode cL_range 22 = .ok (.astore 5, 2) := by decide +kernel
theorem dL_range_24 : decode cL_range 24 = .ok (.iconst 3, 1) := by decide +kernel
theorem dL_range_25 : decode cL_range 25 = .ok (.ireturn, 1) := by decide +kernel
theorem dL_range_26 : decode cL_range 26 = .ok (.astore 5, 2) := by decide +kernel
theorem dL_range_28 : decode cL_range 28 = .ok (.iconst 4, 1) := by decide +kernel
theorem dL_range_29 : decode cL_range 29 = .ok (.ireturn, 1) := by decide +kernel
theorem dL_range_30 : decode cL_range 30 = .ok (.iconst 0, 1) := by decide +kernel
theorem dL_range_31 : decode cL_range 31 = .ok (.ireturn, 1) := by decide +kernel
theorem dL_tight_0 : decode cL_tight 0 = .ok (.aload_n 2, 1) := by decide +kernel
theorem dL_tight_1 : decode cL_tight 1 = .ok (.iconst 0, 1) := by decide +kernel
theorem dL_tight_2 : decode cL_tight 2 = .ok (.aload_n 0, 1) := by decide +kernel
theorem dL_tight_3 : decode cL_tight 3 = .ok (.iload_n 1, 1) := by decide +kernel
theorem dL_tight_4 : decode cL_tight 4 = .ok (.invokevirtual 46, 3) := by decide +kernel
theorem dL_tight_7 : decode cL_tight 7 = .ok (.ifCond .eq 7, 3) := by decide +kernel
theorem dL_tight_10 : decode cL_tight 10 = .ok (.lconst 1, 1) := by decide +kernel
theorem dL_tight_11 : decode cL_tight 11 = .ok (.goto 4, 3) := by decide +kernel
theorem dL_tight_14 : decode cL_tight 14 = .ok (.lconst 0, 1) := by decide +kernel
theorem dL_tight_15 : decode cL_tight 15 = .ok (.lastore, 1) := by decide +kernel
theorem dL_tight_16 : decode cL_tight 16 = .ok (.goto 9, 3) := by decide +kernel
theorem dL_tight_19 : decode cL_tight 19 = .ok (.astore_n 3, 1) := by decide +kernel
theorem dL_tight_20 : decode cL_tight 20 = .ok (.iconst 1, 1) := by decide +kernel
theorem dL_tight_21 : decode cL_tight 21 = .ok (.ireturn, 1) := by decide +kernel
theorem dL_tight_22 : decode cL_tight 22 = .ok (.astore_n 3, 1) := by decide +kernel
theorem dL_tight_23 : decode cL_tight 23 = .ok (.iconst 2, 1) := by decide +kernel
theorem dL_tight_24 : decode cL_tight 24 = .ok (.ireturn, 1) := by decide +kernel
theorem dL_tight_25 : decode cL_tight 25 = .ok (.iconst 0, 1) := by decide +kernel
theorem dL_tight_26 : decode cL_tight 26 = .ok (.ireturn, 1) := by decide +kernel
theorem dL_conflict_0 : decode cL_conflict 0 = .ok (.aload_n 1, 1) := by decide +kernel
theorem dL_conflict_1 : decode cL_conflict 1 = .ok (.iconst 0, 1) := by decide +kernel
theorem dL_conflict_2 : decode cL_conflict 2 = .ok (.aload_n 0, 1) := by decide +kernel
theorem dL_conflict_3 : decode cL_conflict 3 = .ok (.invokevirtual 50, 3) := by decide +kernel
theorem dL_conflict_6 : decode cL_conflict 6 = .ok (.i2l, 1) := by decide +kernel
theorem dL_conflict_7 : decode cL_conflict 7 = .ok (.lastore, 1) := by decide +kernel
theorem dL_conflict_8 : decode cL_conflict 8 = .ok (.goto 6, 3) := by decide +kernel
theorem dL_conflict_11 : decode cL_conflict 11 = .ok (.astore_n 2, 1) := by decide +kernel
theorem dL_conflict_12 : decode cL_conflict 12 = .ok (.iconst 1, 1) := by decide +kernel
theorem dL_conflict_13 : decode cL_conflict 13 = .ok (.ireturn, 1) := by decide +kernel
theorem dL_conflict_14 : decode cL_conflict 14 = .ok (.iconst 0, 1) := by decide +kernel
theorem dL_conflict_15 : decode cL_conflict 15 = .ok (.ireturn, 1) := by decide +kernel
theorem dL_corner_0 : decode cL_corner 0 = .ok (.aload_n 3, 1) := by decide +kernel
theorem dL_corner_1 : decode cL_corner 1 = .ok (.iconst 0, 1) := by decide +kernel
theorem dL_corner_2 : decode cL_corner 2 = .ok (.aload_n 0, 1) := by decide +kernel
theorem dL_corner_3 : decode cL_corner 3 = .ok (.iload_n 1, 1) := by decide +kernel
theorem dL_corner_4 : decode cL_corner 4 = .ok (.iload_n 2, 1) := by decide +kernel
theorem dL_corner_5 : decode cL_corner 5 = .ok (.invokevirtual 54, 3) := by decide +kernel
theorem dL_corner_8 : decode cL_corner 8 = .ok (.lastore, 1) := by decide +kernel
theorem dL_corner_9 : decode cL_corner 9 = .ok (.goto 11, 3) := by decide +kernel
theorem dL_corner_12 : decode cL_corner 12 = .ok (.astore 4, 2) := by decide +kernel
theorem dL_corner_14 : decode cL_corner 14 = .ok (.iconst 1, 1) := by decide +kernel
theorem dL_corner_15 : decode cL_corner 15 = .ok (.ireturn, 1) := by decide +kernel
theorem dL_corner_16 : decode cL_corner 16 = .ok (.astore 4, 2) := by decide +kernel
theorem dL_corner_18 : decode cL_corner 18 = .ok (.iconst 2, 1) := by decide +kernel
theorem dL_corner_19 : decode cL_corner 19 = .ok (.ireturn, 1) := by decide +kernel
theorem dL_corner_20 : decode cL_corner 20 = .ok (.iconst 0, 1) := by decide +kernel
theorem dL_corner_21 : decode cL_corner 21 = .ok (.ireturn, 1) := by decide +kernel
theorem dL_law_0 : decode cL_law 0 = .ok (.new 8, 3) := by decide +kernel
theorem dL_law_3 : decode cL_law 3 = .ok (.dup, 1) := by decide +kernel
theorem dL_law_4 : decode cL_law 4 = .ok (.invokespecial 57, 3) := by decide +kernel
theorem dL_law_7 : decode cL_law 7 = .ok (.astore_n 1, 1) := by decide +kernel
theorem dL_law_8 : decode cL_law 8 = .ok (.new 58, 3) := by decide +kernel
theorem dL_law_11 : decode cL_law 11 = .ok (.dup, 1) := by decide +kernel
theorem dL_law_12 : decode cL_law 12 = .ok (.invokespecial 60, 3) := by decide +kernel
theorem dL_law_15 : decode cL_law 15 = .ok (.astore_n 2, 1) := by decide +kernel
theorem dL_law_16 : decode cL_law 16 = .ok (.iconst 1, 1) := by decide +kernel
theorem dL_law_17 : decode cL_law 17 = .ok (.newarray .long, 2) := by decide +kernel
theorem dL_law_19 : decode cL_law 19 = .ok (.astore_n 3, 1) := by decide +kernel
theorem dL_law_20 : decode cL_law 20 = .ok (.iconst 0, 1) := by decide +kernel
theorem dL_law_21 : decode cL_law 21 = .ok (.istore 4, 2) := by decide +kernel
theorem dL_law_23 : decode cL_law 23 = .ok (.iload 4, 2) := by decide +kernel
theorem dL_law_25 : decode cL_law 25 = .ok (.aload_n 0, 1) := by decide +kernel
theorem dL_law_26 : decode cL_law 26 = .ok (.arraylength, 1) := by decide +kernel
theorem dL_law_27 : decode cL_law 27 = .ok (.iconst 4, 1) := by decide +kernel
theorem dL_law_28 : decode cL_law 28 = .ok (.isub, 1) := by decide +kernel
theorem dL_law_29 : decode cL_law 29 = .ok (.if_icmp .gt 762, 3) := by decide +kernel
theorem dL_law_32 : decode cL_law 32 = .ok (.aload_n 0, 1) := by decide +kernel
theorem dL_law_33 : decode cL_law 33 = .ok (.iload 4, 2) := by decide +kernel
theorem dL_law_35 : decode cL_law 35 = .ok (.iaload, 1) := by decide +kernel
theorem dL_law_36 : decode cL_law 36 = .ok (.bipush 15, 2) := by decide +kernel
theorem dL_law_38 : decode cL_law 38 = .ok (.iand, 1) := by decide +kernel
theorem dL_law_39 : decode cL_law 39 = .ok (.tableswitch 746 0 12 #[65, 113, 173, 233, 281, 329, 342, 397, 464, 559, 622, 666, 679], 65) := by decide +kernel
theorem dL_law_104 : decode cL_law 104 = .ok (.aload_n 1, 1) := by decide +kernel
theorem dL_law_105 : decode cL_law 105 = .ok (.aload_n 0, 1) := by decide +kernel
theorem dL_law_106 : decode cL_law 106 = .ok (.iload 4, 2) := by decide +kernel
theorem dL_law_108 : decode cL_law 108 = .ok (.iconst 1, 1) := by decide +kernel
theorem dL_law_109 : decode cL_law 109 = .ok (.iadd, 1) := by decide +kernel
theorem dL_law_110 : decode cL_law 110 = .ok (.iaload, 1) := by decide +kernel
theorem dL_law_111 : decode cL_law 111 = .ok (.aload_n 0, 1) := by decide +kernel
theorem dL_law_112 : decode cL_law 112 = .ok (.iload 4, 2) := by decide +kernel
theorem dL_law_114 : decode cL_law 114 = .ok (.iconst 2, 1) := by decide +kernel
theorem dL_law_115 : decode cL_law 115 = .ok (.iadd, 1) := by decide +kernel
theorem dL_law_116 : decode cL_law 116 = .ok (.iaload, 1) := by decide +kernel
theorem dL_law_117 : decode cL_law 117 = .ok (.invokestatic 61, 3) := by decide +kernel
theorem dL_law_120 : decode cL_law 120 = .ok (.istore 5, 2) := by decide +kernel
theorem dL_law_122 : decode cL_law 122 = .ok (.aload_n 2, 1) := by decide +kernel
theorem dL_law_123 : decode cL_law 123 = .ok (.aload_n 0, 1) := by decide +kernel
theorem dL_law_124 : decode cL_law 124 = .ok (.iload 4, 2) := by decide +kernel
theorem dL_law_126 : decode cL_law 126 = .ok (.iconst 1, 1) := by decide +kernel
theorem dL_law_127 : decode cL_law 127 = .ok (.iadd, 1) := by decide +kernel
theorem dL_law_128 : decode cL_law 128 = .ok (.iaload, 1) := by decide +kernel
theorem dL_law_129 : decode cL_law 129 = .ok (.aload_n 0, 1) := by decide +kernel
theorem dL_law_130 : decode cL_law 130 = .ok (.iload 4, 2) := by decide +kernel
theorem dL_law_132 : decode cL_law 132 = .ok (.iconst 2, 1) := by decide +kernel
theorem dL_law_133 : decode cL_law 133 = .ok (.iadd, 1) := by decide +kernel
theorem dL_law_134 : decode cL_law 134 = .ok (.iaload, 1) := by decide +kernel
theorem dL_law_135 : decode cL_law 135 = .ok (.invokevirtual 66, 3) := by decide +kernel
theorem dL_law_138 : decode cL_law 138 = .ok (.aload_n 2, 1) := by decide +kernel
theorem dL_law_139 : decode cL_law 139 = .ok (.invokevirtual 67, 3) := by decide +kernel
theorem dL_law_142 : decode cL_law 142 = .ok (.iload 5, 2) := by decide +kernel
theorem dL_law_144 : decode cL_law 144 = .ok (.if_icmp .eq 5, 3) := by decide +kernel
theorem dL_law_147 : decode cL_law 147 = .ok (.iconst 0, 1) := by decide +kernel
theorem dL_law_148 : decode cL_law 148 = .ok (.ireturn, 1) := by decide +kernel
theorem dL_law_149 : decode cL_law 149 = .ok (.goto 636, 3) := by decide +kernel
theorem dL_law_152 : decode cL_law 152 = .ok (.aload_n 1, 1) := by decide +kernel
theorem dL_law_153 : decode cL_law 153 = .ok (.aload_n 0, 1) := by decide +kernel
theorem dL_law_154 : decode cL_law 154 = .ok (.iload 4, 2) := by decide +kernel
theorem dL_law_156 : decode cL_law 156 = .ok (.iconst 1, 1) := by decide +kernel
theorem dL_law_157 : decode cL_law 157 = .ok (.iadd, 1) := by decide +kernel
theorem dL_law_158 : decode cL_law 158 = .ok (.iaload, 1) := by decide +kernel
theorem dL_law_159 : decode cL_law 159 = .ok (.aload_n 0, 1) := by decide +kernel
theorem dL_law_160 : decode cL_law 160 = .ok (.iload 4, 2) := by decide +kernel
theorem dL_law_162 : decode cL_law 162 = .ok (.iconst 2, 1) := by decide +kernel
theorem dL_law_163 : decode cL_law 163 = .ok (.iadd, 1) := by decide +kernel
theorem dL_law_164 : decode cL_law 164 = .ok (.iaload, 1) := by decide +kernel
theorem dL_law_165 : decode cL_law 165 = .ok (.aload_n 0, 1) := by decide +kernel
theorem dL_law_166 : decode cL_law 166 = .ok (.iload 4, 2) := by decide +kernel
theorem dL_law_168 : decode cL_law 168 = .ok (.iconst 3, 1) := by decide +kernel
theorem dL_law_169 : decode cL_law 169 = .ok (.iadd, 1) := by decide +kernel
theorem dL_law_170 : decode cL_law 170 = .ok (.iaload, 1) := by decide +kernel
theorem dL_law_171 : decode cL_law 171 = .ok (.invokestatic 70, 3) := by decide +kernel
theorem dL_law_174 : decode cL_law 174 = .ok (.istore 5, 2) := by decide +kernel
theorem dL_law_176 : decode cL_law 176 = .ok (.aload_n 2, 1) := by decide +kernel
theorem dL_law_177 : decode cL_law 177 = .ok (.aload_n 0, 1) := by decide +kernel
theorem dL_law_178 : decode cL_law 178 = .ok (.iload 4, 2) := by decide +kernel
theorem dL_law_180 : decode cL_law 180 = .ok (.iconst 1, 1) := by decide +kernel
theorem dL_law_181 : decode cL_law 181 = .ok (.iadd, 1) := by decide +kernel
theorem dL_law_182 : decode cL_law 182 = .ok (.iaload, 1) := by decide +kernel
theorem dL_law_183 : decode cL_law 183 = .ok (.aload_n 0, 1) := by decide +kernel
theorem dL_law_184 : decode cL_law 184 = .ok (.iload 4, 2) := by decide +kernel
theorem dL_law_186 : decode cL_law 186 = .ok (.iconst 2, 1) := by decide +kernel
theorem dL_law_187 : decode cL_law 187 = .ok (.iadd, 1) := by decide +kernel
theorem dL_law_188 : decode cL_law 188 = .ok (.iaload, 1) := by decide +kernel
theorem dL_law_189 : decode cL_law 189 = .ok (.aload_n 0, 1) := by decide +kernel
theorem dL_law_190 : decode cL_law 190 = .ok (.iload 4, 2) := by decide +kernel
theorem dL_law_192 : decode cL_law 192 = .ok (.iconst 3, 1) := by decide +kernel
theorem dL_law_193 : decode cL_law 193 = .ok (.iadd, 1) := by decide +kernel
theorem dL_law_194 : decode cL_law 194 = .ok (.iaload, 1) := by decide +kernel
theorem dL_law_195 : decode cL_law 195 = .ok (.invokevirtual 73, 3) := by decide +kernel
theorem dL_law_198 : decode cL_law 198 = .ok (.aload_n 2, 1) := by decide +kernel
theorem dL_law_199 : decode cL_law 199 = .ok (.invokevirtual 67, 3) := by decide +kernel
theorem dL_law_202 : decode cL_law 202 = .ok (.iload 5, 2) := by decide +kernel
theorem dL_law_204 : decode cL_law 204 = .ok (.if_icmp .eq 5, 3) := by decide +kernel
theorem dL_law_207 : decode cL_law 207 = .ok (.iconst 0, 1) := by decide +kernel
theorem dL_law_208 : decode cL_law 208 = .ok (.ireturn, 1) := by decide +kernel
theorem dL_law_209 : decode cL_law 209 = .ok (.goto 576, 3) := by decide +kernel
theorem dL_law_212 : decode cL_law 212 = .ok (.aload_n 1, 1) := by decide +kernel
theorem dL_law_213 : decode cL_law 213 = .ok (.aload_n 0, 1) := by decide +kernel
theorem dL_law_214 : decode cL_law 214 = .ok (.iload 4, 2) := by decide +kernel
theorem dL_law_216 : decode cL_law 216 = .ok (.iconst 1, 1) := by decide +kernel
theorem dL_law_217 : decode cL_law 217 = .ok (.iadd, 1) := by decide +kernel
theorem dL_law_218 : decode cL_law 218 = .ok (.iaload, 1) := by decide +kernel
theorem dL_law_219 : decode cL_law 219 = .ok (.aload_n 0, 1) := by decide +kernel
theorem dL_law_220 : decode cL_law 220 = .ok (.iload 4, 2) := by decide +kernel
theorem dL_law_222 : decode cL_law 222 = .ok (.iconst 2, 1) := by decide +kernel
theorem dL_law_223 : decode cL_law 223 = .ok (.iadd, 1) := by decide +kernel
theorem dL_law_224 : decode cL_law 224 = .ok (.iaload, 1) := by decide +kernel
theorem dL_law_225 : decode cL_law 225 = .ok (.aload_n 0, 1) := by decide +kernel
theorem dL_law_226 : decode cL_law 226 = .ok (.iload 4, 2) := by decide +kernel
theorem dL_law_228 : decode cL_law 228 = .ok (.iconst 3, 1) := by decide +kernel
theorem dL_law_229 : decode cL_law 229 = .ok (.iadd, 1) := by decide +kernel
theorem dL_law_230 : decode cL_law 230 = .ok (.iaload, 1) := by decide +kernel
theorem dL_law_231 : decode cL_law 231 = .ok (.invokestatic 74, 3) := by decide +kernel
theorem dL_law_234 : decode cL_law 234 = .ok (.istore 5, 2) := by decide +kernel
theorem dL_law_236 : decode cL_law 236 = .ok (.aload_n 2, 1) := by decide +kernel
theorem dL_law_237 : decode cL_law 237 = .ok (.aload_n 0, 1) := by decide +kernel
theorem dL_law_238 : decode cL_law 238 = .ok (.iload 4, 2) := by decide +kernel
theorem dL_law_240 : decode cL_law 240 = .ok (.iconst 1, 1) := by decide +kernel
theorem dL_law_241 : decode cL_law 241 = .ok (.iadd, 1) := by decide +kernel
theorem dL_law_242 : decode cL_law 242 = .ok (.iaload, 1) := by decide +kernel
theorem dL_law_243 : decode cL_law 243 = .ok (.aload_n 0, 1) := by decide +kernel
theorem dL_law_244 : decode cL_law 244 = .ok (.iload 4, 2) := by decide +kernel
theorem dL_law_246 : decode cL_law 246 = .ok (.iconst 2, 1) := by decide +kernel
theorem dL_law_247 : decode cL_law 247 = .ok (.iadd, 1) := by decide +kernel
theorem dL_law_248 : decode cL_law 248 = .ok (.iaload, 1) := by decide +kernel
theorem dL_law_249 : decode cL_law 249 = .ok (.aload_n 0, 1) := by decide +kernel
theorem dL_law_250 : decode cL_law 250 = .ok (.iload 4, 2) := by decide +kernel
theorem dL_law_252 : decode cL_law 252 = .ok (.iconst 3, 1) := by decide +kernel
theorem dL_law_253 : decode cL_law 253 = .ok (.iadd, 1) := by decide +kernel
theorem dL_law_254 : decode cL_law 254 = .ok (.iaload, 1) := by decide +kernel
theorem dL_law_255 : decode cL_law 255 = .ok (.invokevirtual 76, 3) := by decide +kernel
theorem dL_law_258 : decode cL_law 258 = .ok (.aload_n 2, 1) := by decide +kernel
theorem dL_law_259 : decode cL_law 259 = .ok (.invokevirtual 67, 3) := by decide +kernel
theorem dL_law_262 : decode cL_law 262 = .ok (.iload 5, 2) := by decide +kernel
theorem dL_law_264 : decode cL_law 264 = .ok (.if_icmp .eq 5, 3) := by decide +kernel
theorem dL_law_267 : decode cL_law 267 = .ok (.iconst 0, 1) := by decide +kernel
theorem dL_law_268 : decode cL_law 268 = .ok (.ireturn, 1) := by decide +kernel
theorem dL_law_269 : decode cL_law 269 = .ok (.goto 516, 3) := by decide +kernel
theorem dL_law_272 : decode cL_law 272 = .ok (.aload_n 1, 1) := by decide +kernel
theorem dL_law_273 : decode cL_law 273 = .ok (.aload_n 0, 1) := by decide +kernel
theorem dL_law_274 : decode cL_law 274 = .ok (.iload 4, 2) := by decide +kernel
theorem dL_law_276 : decode cL_law 276 = .ok (.iconst 1, 1) := by decide +kernel
theorem dL_law_277 : decode cL_law 277 = .ok (.iadd, 1) := by decide +kernel
theorem dL_law_278 : decode cL_law 278 = .ok (.iaload, 1) := by decide +kernel
theorem dL_law_279 : decode cL_law 279 = .ok (.aload_n 0, 1) := by decide +kernel
theorem dL_law_280 : decode cL_law 280 = .ok (.iload 4, 2) := by decide +kernel
theorem dL_law_282 : decode cL_law 282 = .ok (.iconst 2, 1) := by decide +kernel
theorem dL_law_283 : decode cL_law 283 = .ok (.iadd, 1) := by decide +kernel
theorem dL_law_284 : decode cL_law 284 = .ok (.iaload, 1) := by decide +kernel
theorem dL_law_285 : decode cL_law 285 = .ok (.invokestatic 77, 3) := by decide +kernel
theorem dL_law_288 : decode cL_law 288 = .ok (.istore 5, 2) := by decide +kernel
theorem dL_law_290 : decode cL_law 290 = .ok (.aload_n 2, 1) := by decide +kernel
theorem dL_law_291 : decode cL_law 291 = .ok (.aload_n 0, 1) := by decide +kernel
theorem dL_law_292 : decode cL_law 292 = .ok (.iload 4, 2) := by decide +kernel
theorem dL_law_294 : decode cL_law 294 = .ok (.iconst 1, 1) := by decide +kernel
theorem dL_law_295 : decode cL_law 295 = .ok (.iadd, 1) := by decide +kernel
theorem dL_law_296 : decode cL_law 296 = .ok (.iaload, 1) := by decide +kernel
theorem dL_law_297 : decode cL_law 297 = .ok (.aload_n 0, 1) := by decide +kernel
theorem dL_law_298 : decode cL_law 298 = .ok (.iload 4, 2) := by decide +kernel
theorem dL_law_300 : decode cL_law 300 = .ok (.iconst 2, 1) := by decide +kernel
theorem dL_law_301 : decode cL_law 301 = .ok (.iadd, 1) := by decide +kernel
theorem dL_law_302 : decode cL_law 302 = .ok (.iaload, 1) := by decide +kernel
theorem dL_law_303 : decode cL_law 303 = .ok (.invokevirtual 79, 3) := by decide +kernel
theorem dL_law_306 : decode cL_law 306 = .ok (.aload_n 2, 1) := by decide +kernel
theorem dL_law_307 : decode cL_law 307 = .ok (.invokevirtual 67, 3) := by decide +kernel
theorem dL_law_310 : decode cL_law 310 = .ok (.iload 5, 2) := by decide +kernel
theorem dL_law_312 : decode cL_law 312 = .ok (.if_icmp .eq 5, 3) := by decide +kernel
theorem dL_law_315 : decode cL_law 315 = .ok (.iconst 0, 1) := by decide +kernel
theorem dL_law_316 : decode cL_law 316 = .ok (.ireturn, 1) := by decide +kernel
theorem dL_law_317 : decode cL_law 317 = .ok (.goto 468, 3) := by decide +kernel
theorem dL_law_320 : decode cL_law 320 = .ok (.aload_n 1, 1) := by decide +kernel
theorem dL_law_321 : decode cL_law 321 = .ok (.aload_n 0, 1) := by decide +kernel
theorem dL_law_322 : decode cL_law 322 = .ok (.iload 4, 2) := by decide +kernel
theorem dL_law_324 : decode cL_law 324 = .ok (.iconst 1, 1) := by decide +kernel
theorem dL_law_325 : decode cL_law 325 = .ok (.iadd, 1) := by decide +kernel
theorem dL_law_326 : decode cL_law 326 = .ok (.iaload, 1) := by decide +kernel
theorem dL_law_327 : decode cL_law 327 = .ok (.aload_n 0, 1) := by decide +kernel
theorem dL_law_328 : decode cL_law 328 = .ok (.iload 4, 2) := by decide +kernel
theorem dL_law_330 : decode cL_law 330 = .ok (.iconst 2, 1) := by decide +kernel
theorem dL_law_331 : decode cL_law 331 = .ok (.iadd, 1) := by decide +kernel
theorem dL_law_332 : decode cL_law 332 = .ok (.iaload, 1) := by decide +kernel
theorem dL_law_333 : decode cL_law 333 = .ok (.invokestatic 80, 3) := by decide +kernel
theorem dL_law_336 : decode cL_law 336 = .ok (.istore 5, 2) := by decide +kernel
theorem dL_law_338 : decode cL_law 338 = .ok (.aload_n 2, 1) := by decide +kernel
theorem dL_law_339 : decode cL_law 339 = .ok (.aload_n 0, 1) := by decide +kernel
theorem dL_law_340 : decode cL_law 340 = .ok (.iload 4, 2) := by decide +kernel
theorem dL_law_342 : decode cL_law 342 = .ok (.iconst 1, 1) := by decide +kernel
theorem dL_law_343 : decode cL_law 343 = .ok (.iadd, 1) := by decide +kernel
theorem dL_law_344 : decode cL_law 344 = .ok (.iaload, 1) := by decide +kernel
theorem dL_law_345 : decode cL_law 345 = .ok (.aload_n 0, 1) := by decide +kernel
theorem dL_law_346 : decode cL_law 346 = .ok (.iload 4, 2) := by decide +kernel
theorem dL_law_348 : decode cL_law 348 = .ok (.iconst 2, 1) := by decide +kernel
theorem dL_law_349 : decode cL_law 349 = .ok (.iadd, 1) := by decide +kernel
theorem dL_law_350 : decode cL_law 350 = .ok (.iaload, 1) := by decide +kernel
theorem dL_law_351 : decode cL_law 351 = .ok (.invokevirtual 82, 3) := by decide +kernel
theorem dL_law_354 : decode cL_law 354 = .ok (.aload_n 2, 1) := by decide +kernel
theorem dL_law_355 : decode cL_law 355 = .ok (.invokevirtual 67, 3) := by decide +kernel
theorem dL_law_358 : decode cL_law 358 = .ok (.iload 5, 2) := by decide +kernel
theorem dL_law_360 : decode cL_law 360 = .ok (.if_icmp .eq 5, 3) := by decide +kernel
theorem dL_law_363 : decode cL_law 363 = .ok (.iconst 0, 1) := by decide +kernel
theorem dL_law_364 : decode cL_law 364 = .ok (.ireturn, 1) := by decide +kernel
theorem dL_law_365 : decode cL_law 365 = .ok (.goto 420, 3) := by decide +kernel
theorem dL_law_368 : decode cL_law 368 = .ok (.aload_n 1, 1) := by decide +kernel
theorem dL_law_369 : decode cL_law 369 = .ok (.invokevirtual 83, 3) := by decide +kernel
theorem dL_law_372 : decode cL_law 372 = .ok (.aload_n 2, 1) := by decide +kernel
theorem dL_law_373 : decode cL_law 373 = .ok (.invokevirtual 86, 3) := by decide +kernel
theorem dL_law_376 : decode cL_law 376 = .ok (.if_icmp .eq 409, 3) := by decide +kernel
theorem dL_law_379 : decode cL_law 379 = .ok (.iconst 0, 1) := by decide +kernel
theorem dL_law_380 : decode cL_law 380 = .ok (.ireturn, 1) := by decide +kernel
theorem dL_law_381 : decode cL_law 381 = .ok (.aload_n 1, 1) := by decide +kernel
theorem dL_law_382 : decode cL_law 382 = .ok (.aload_n 0, 1) := by decide +kernel
theorem dL_law_383 : decode cL_law 383 = .ok (.iload 4, 2) := by decide +kernel
theorem dL_law_385 : decode cL_law 385 = .ok (.iconst 1, 1) := by decide +kernel
theorem dL_law_386 : decode cL_law 386 = .ok (.iadd, 1) := by decide +kernel
theorem dL_law_387 : decode cL_law 387 = .ok (.iaload, 1) := by decide +kernel
theorem dL_law_388 : decode cL_law 388 = .ok (.aload_n 3, 1) := by decide +kernel
theorem dL_law_389 : decode cL_law 389 = .ok (.invokestatic 87, 3) := by decide +kernel
theorem dL_law_392 : decode cL_law 392 = .ok (.istore 5, 2) := by decide +kernel
theorem dL_law_394 : decode cL_law 394 = .ok (.aload_n 2, 1) := by decide +kernel
theorem dL_law_395 : decode cL_law 395 = .ok (.aload_n 0, 1) := by decide +kernel
theorem dL_law_396 : decode cL_law 396 = .ok (.iload 4, 2) := by decide +kernel
theorem dL_law_398 : decode cL_law 398 = .ok (.iconst 1, 1) := by decide +kernel
theorem dL_law_399 : decode cL_law 399 = .ok (.iadd, 1) := by decide +kernel
theorem dL_law_400 : decode cL_law 400 = .ok (.iaload, 1) := by decide +kernel
theorem dL_law_401 : decode cL_law 401 = .ok (.invokevirtual 90, 3) := by decide +kernel
theorem dL_law_404 : decode cL_law 404 = .ok (.lstore 6, 2) := by decide +kernel
theorem dL_law_406 : decode cL_law 406 = .ok (.aload_n 2, 1) := by decide +kernel
theorem dL_law_407 : decode cL_law 407 = .ok (.invokevirtual 67, 3) := by decide +kernel
theorem dL_law_410 : decode cL_law 410 = .ok (.iload 5, 2) := by decide +kernel
theorem dL_law_412 : decode cL_law 412 = .ok (.if_icmp .eq 5, 3) := by decide +kernel
theorem dL_law_415 : decode cL_law 415 = .ok (.iconst 0, 1) := by decide +kernel
theorem dL_law_416 : decode cL_law 416 = .ok (.ireturn, 1) := by decide +kernel
theorem dL_law_417 : decode cL_law 417 = .ok (.iload 5, 2) := by decide +kernel
theorem dL_law_419 : decode cL_law 419 = .ok (.ifCond .ne 14, 3) := by decide +kernel
theorem dL_law_422 : decode cL_law 422 = .ok (.aload_n 3, 1) := by decide +kernel
theorem dL_law_423 : decode cL_law 423 = .ok (.iconst 0, 1) := by decide +kernel
theorem dL_law_424 : decode cL_law 424 = .ok (.laload, 1) := by decide +kernel
theorem dL_law_425 : decode cL_law 425 = .ok (.lload 6, 2) := by decide +kernel
theorem dL_law_427 : decode cL_law 427 = .ok (.lcmp, 1) := by decide +kernel
theorem dL_law_428 : decode cL_law 428 = .ok (.ifCond .eq 5, 3) := by decide +kernel
theorem dL_law_431 : decode cL_law 431 = .ok (.iconst 0, 1) := by decide +kernel
theorem dL_law_432 : decode cL_law 432 = .ok (.ireturn, 1) := by decide +kernel
theorem dL_law_433 : decode cL_law 433 = .ok (.goto 352, 3) := by decide +kernel
theorem dL_law_436 : decode cL_law 436 = .ok (.aload_n 1, 1) := by decide +kernel
theorem dL_law_437 : decode cL_law 437 = .ok (.aload_n 0, 1) := by decide +kernel
theorem dL_law_438 : decode cL_law 438 = .ok (.iload 4, 2) := by decide +kernel
theorem dL_law_440 : decode cL_law 440 = .ok (.iconst 1, 1) := by decide +kernel
theorem dL_law_441 : decode cL_law 441 = .ok (.iadd, 1) := by decide +kernel
theorem dL_law_442 : decode cL_law 442 = .ok (.iaload, 1) := by decide +kernel
theorem dL_law_443 : decode cL_law 443 = .ok (.aload_n 0, 1) := by decide +kernel
theorem dL_law_444 : decode cL_law 444 = .ok (.iload 4, 2) := by decide +kernel
theorem dL_law_446 : decode cL_law 446 = .ok (.iconst 2, 1) := by decide +kernel
theorem dL_law_447 : decode cL_law 447 = .ok (.iadd, 1) := by decide +kernel
theorem dL_law_448 : decode cL_law 448 = .ok (.iaload, 1) := by decide +kernel
theorem dL_law_449 : decode cL_law 449 = .ok (.aload_n 3, 1) := by decide +kernel
theorem dL_law_450 : decode cL_law 450 = .ok (.invokestatic 91, 3) := by decide +kernel
theorem dL_law_453 : decode cL_law 453 = .ok (.istore 5, 2) := by decide +kernel
theorem dL_law_455 : decode cL_law 455 = .ok (.aload_n 2, 1) := by decide +kernel
theorem dL_law_456 : decode cL_law 456 = .ok (.aload_n 0, 1) := by decide +kernel
theorem dL_law_457 : decode cL_law 457 = .ok (.iload 4, 2) := by decide +kernel
theorem dL_law_459 : decode cL_law 459 = .ok (.iconst 1, 1) := by decide +kernel
theorem dL_law_460 : decode cL_law 460 = .ok (.iadd, 1) := by decide +kernel
theorem dL_law_461 : decode cL_law 461 = .ok (.iaload, 1) := by decide +kernel
theorem dL_law_462 : decode cL_law 462 = .ok (.aload_n 0, 1) := by decide +kernel
theorem dL_law_463 : decode cL_law 463 = .ok (.iload 4, 2) := by decide +kernel
theorem dL_law_465 : decode cL_law 465 = .ok (.iconst 2, 1) := by decide +kernel
theorem dL_law_466 : decode cL_law 466 = .ok (.iadd, 1) := by decide +kernel
theorem dL_law_467 : decode cL_law 467 = .ok (.iaload, 1) := by decide +kernel
theorem dL_law_468 : decode cL_law 468 = .ok (.invokevirtual 94, 3) := by decide +kernel
theorem dL_law_471 : decode cL_law 471 = .ok (.lstore 6, 2) := by decide +kernel
theorem dL_law_473 : decode cL_law 473 = .ok (.aload_n 2, 1) := by decide +kernel
theorem dL_law_474 : decode cL_law 474 = .ok (.invokevirtual 67, 3) := by decide +kernel
theorem dL_law_477 : decode cL_law 477 = .ok (.iload 5, 2) := by decide +kernel
theorem dL_law_479 : decode cL_law 479 = .ok (.if_icmp .eq 5, 3) := by decide +kernel
theorem dL_law_482 : decode cL_law 482 = .ok (.iconst 0, 1) := by decide +kernel
theorem dL_law_483 : decode cL_law 483 = .ok (.ireturn, 1) := by decide +kernel
theorem dL_law_484 : decode cL_law 484 = .ok (.iload 5, 2) := by decide +kernel
theorem dL_law_486 : decode cL_law 486 = .ok (.ifCond .ne 14, 3) := by decide +kernel
theorem dL_law_489 : decode cL_law 489 = .ok (.aload_n 3, 1) := by decide +kernel
theorem dL_law_490 : decode cL_law 490 = .ok (.iconst 0, 1) := by decide +kernel
theorem dL_law_491 : decode cL_law 491 = .ok (.laload, 1) := by decide +kernel
theorem dL_law_492 : decode cL_law 492 = .ok (.lload 6, 2) := by decide +kernel
theorem dL_law_494 : decode cL_law 494 = .ok (.lcmp, 1) := by decide +kernel
theorem dL_law_495 : decode cL_law 495 = .ok (.ifCond .eq 5, 3) := by decide +kernel
theorem dL_law_498 : decode cL_law 498 = .ok (.iconst 0, 1) := by decide +kernel
theorem dL_law_499 : decode cL_law 499 = .ok (.ireturn, 1) := by decide +kernel
theorem dL_law_500 : decode cL_law 500 = .ok (.goto 285, 3) := by decide +kernel
theorem dL_law_503 : decode cL_law 503 = .ok (.aload_n 1, 1) := by decide +kernel
theorem dL_law_504 : decode cL_law 504 = .ok (.aload_n 0, 1) := by decide +kernel
theorem dL_law_505 : decode cL_law 505 = .ok (.iload 4, 2) := by decide +kernel
theorem dL_law_507 : decode cL_law 507 = .ok (.iconst 1, 1) := by decide +kernel
theorem dL_law_508 : decode cL_law 508 = .ok (.iadd, 1) := by decide +kernel
theorem dL_law_509 : decode cL_law 509 = .ok (.iaload, 1) := by decide +kernel
theorem dL_law_510 : decode cL_law 510 = .ok (.aload_n 0, 1) := by decide +kernel
theorem dL_law_511 : decode cL_law 511 = .ok (.iload 4, 2) := by decide +kernel
theorem dL_law_513 : decode cL_law 513 = .ok (.iconst 2, 1) := by decide +kernel
theorem dL_law_514 : decode cL_law 514 = .ok (.iadd, 1) := by decide +kernel
theorem dL_law_515 : decode cL_law 515 = .ok (.iaload, 1) := by decide +kernel
theorem dL_law_516 : decode cL_law 516 = .ok (.ifCond .eq 7, 3) := by decide +kernel
theorem dL_law_519 : decode cL_law 519 = .ok (.iconst 1, 1) := by decide +kernel
theorem dL_law_520 : decode cL_law 520 = .ok (.goto 4, 3) := by decide +kernel
theorem dL_law_523 : decode cL_law 523 = .ok (.iconst 0, 1) := by decide +kernel
theorem dL_law_524 : decode cL_law 524 = .ok (.aload_n 0, 1) := by decide +kernel
theorem dL_law_525 : decode cL_law 525 = .ok (.iload 4, 2) := by decide +kernel
theorem dL_law_527 : decode cL_law 527 = .ok (.iconst 3, 1) := by decide +kernel
theorem dL_law_528 : decode cL_law 528 = .ok (.iadd, 1) := by decide +kernel
theorem dL_law_529 : decode cL_law 529 = .ok (.iaload, 1) := by decide +kernel
theorem dL_law_530 : decode cL_law 530 = .ok (.aload_n 3, 1) := by decide +kernel
theorem dL_law_531 : decode cL_law 531 = .ok (.invokestatic 95, 3) := by decide +kernel
theorem dL_law_534 : decode cL_law 534 = .ok (.istore 5, 2) := by decide +kernel
theorem dL_law_536 : decode cL_law 536 = .ok (.aload_n 2, 1) := by decide +kernel
theorem dL_law_537 : decode cL_law 537 = .ok (.aload_n 0, 1) := by decide +kernel
theorem dL_law_538 : decode cL_law 538 = .ok (.iload 4, 2) := by decide +kernel
theorem dL_law_540 : decode cL_law 540 = .ok (.iconst 1, 1) := by decide +kernel
theorem dL_law_541 : decode cL_law 541 = .ok (.iadd, 1) := by decide +kernel
theorem dL_law_542 : decode cL_law 542 = .ok (.iaload, 1) := by decide +kernel
theorem dL_law_543 : decode cL_law 543 = .ok (.aload_n 0, 1) := by decide +kernel
theorem dL_law_544 : decode cL_law 544 = .ok (.iload 4, 2) := by decide +kernel
theorem dL_law_546 : decode cL_law 546 = .ok (.iconst 2, 1) := by decide +kernel
theorem dL_law_547 : decode cL_law 547 = .ok (.iadd, 1) := by decide +kernel
theorem dL_law_548 : decode cL_law 548 = .ok (.iaload, 1) := by decide +kernel
theorem dL_law_549 : decode cL_law 549 = .ok (.ifCond .eq 7, 3) := by decide +kernel
theorem dL_law_552 : decode cL_law 552 = .ok (.iconst 1, 1) := by decide +kernel
theorem dL_law_553 : decode cL_law 553 = .ok (.goto 4, 3) := by decide +kernel
theorem dL_law_556 : decode cL_law 556 = .ok (.iconst 0, 1) := by decide +kernel
theorem dL_law_557 : decode cL_law 557 = .ok (.aload_n 0, 1) := by decide +kernel
theorem dL_law_558 : decode cL_law 558 = .ok (.iload 4, 2) := by decide +kernel
theorem dL_law_560 : decode cL_law 560 = .ok (.iconst 3, 1) := by decide +kernel
theorem dL_law_561 : decode cL_law 561 = .ok (.iadd, 1) := by decide +kernel
theorem dL_law_562 : decode cL_law 562 = .ok (.iaload, 1) := by decide +kernel
theorem dL_law_563 : decode cL_law 563 = .ok (.invokevirtual 98, 3) := by decide +kernel
theorem dL_law_566 : decode cL_law 566 = .ok (.lstore 6, 2) := by decide +kernel
theorem dL_law_568 : decode cL_law 568 = .ok (.aload_n 2, 1) := by decide +kernel
theorem dL_law_569 : decode cL_law 569 = .ok (.invokevirtual 67, 3) := by decide +kernel
theorem dL_law_572 : decode cL_law 572 = .ok (.iload 5, 2) := by decide +kernel
theorem dL_law_574 : decode cL_law 574 = .ok (.if_icmp .eq 5, 3) := by decide +kernel
theorem dL_law_577 : decode cL_law 577 = .ok (.iconst 0, 1) := by decide +kernel
theorem dL_law_578 : decode cL_law 578 = .ok (.ireturn, 1) := by decide +kernel
theorem dL_law_579 : decode cL_law 579 = .ok (.iload 5, 2) := by decide +kernel
theorem dL_law_581 : decode cL_law 581 = .ok (.ifCond .ne 14, 3) := by decide +kernel
theorem dL_law_584 : decode cL_law 584 = .ok (.aload_n 3, 1) := by decide +kernel
theorem dL_law_585 : decode cL_law 585 = .ok (.iconst 0, 1) := by decide +kernel
theorem dL_law_586 : decode cL_law 586 = .ok (.laload, 1) := by decide +kernel
theorem dL_law_587 : decode cL_law 587 = .ok (.lload 6, 2) := by decide +kernel
theorem dL_law_589 : decode cL_law 589 = .ok (.lcmp, 1) := by decide +kernel
theorem dL_law_590 : decode cL_law 590 = .ok (.ifCond .eq 5, 3) := by decide +kernel
theorem dL_law_593 : decode cL_law 593 = .ok (.iconst 0, 1) := by decide +kernel
theorem dL_law_594 : decode cL_law 594 = .ok (.ireturn, 1) := by decide +kernel
theorem dL_law_595 : decode cL_law 595 = .ok (.goto 190, 3) := by decide +kernel
theorem dL_law_598 : decode cL_law 598 = .ok (.aload_n 1, 1) := by decide +kernel
theorem dL_law_599 : decode cL_law 599 = .ok (.aload_n 0, 1) := by decide +kernel
theorem dL_law_600 : decode cL_law 600 = .ok (.iload 4, 2) := by decide +kernel
theorem dL_law_602 : decode cL_law 602 = .ok (.iconst 1, 1) := by decide +kernel
theorem dL_law_603 : decode cL_law 603 = .ok (.iadd, 1) := by decide +kernel
theorem dL_law_604 : decode cL_law 604 = .ok (.iaload, 1) := by decide +kernel
theorem dL_law_605 : decode cL_law 605 = .ok (.aload_n 3, 1) := by decide +kernel
theorem dL_law_606 : decode cL_law 606 = .ok (.invokestatic 99, 3) := by decide +kernel
theorem dL_law_609 : decode cL_law 609 = .ok (.istore 5, 2) := by decide +kernel
theorem dL_law_611 : decode cL_law 611 = .ok (.aload_n 2, 1) := by decide +kernel
theorem dL_law_612 : decode cL_law 612 = .ok (.aload_n 0, 1) := by decide +kernel
theorem dL_law_613 : decode cL_law 613 = .ok (.iload 4, 2) := by decide +kernel
theorem dL_law_615 : decode cL_law 615 = .ok (.iconst 1, 1) := by decide +kernel
theorem dL_law_616 : decode cL_law 616 = .ok (.iadd, 1) := by decide +kernel
theorem dL_law_617 : decode cL_law 617 = .ok (.iaload, 1) := by decide +kernel
theorem dL_law_618 : decode cL_law 618 = .ok (.invokevirtual 101, 3) := by decide +kernel
theorem dL_law_621 : decode cL_law 621 = .ok (.istore 6, 2) := by decide +kernel
theorem dL_law_623 : decode cL_law 623 = .ok (.aload_n 2, 1) := by decide +kernel
theorem dL_law_624 : decode cL_law 624 = .ok (.invokevirtual 67, 3) := by decide +kernel
theorem dL_law_627 : decode cL_law 627 = .ok (.iload 5, 2) := by decide +kernel
theorem dL_law_629 : decode cL_law 629 = .ok (.if_icmp .eq 5, 3) := by decide +kernel
theorem dL_law_632 : decode cL_law 632 = .ok (.iconst 0, 1) := by decide +kernel
theorem dL_law_633 : decode cL_law 633 = .ok (.ireturn, 1) := by decide +kernel
theorem dL_law_634 : decode cL_law 634 = .ok (.iload 5, 2) := by decide +kernel
theorem dL_law_636 : decode cL_law 636 = .ok (.ifCond .ne 22, 3) := by decide +kernel
theorem dL_law_639 : decode cL_law 639 = .ok (.aload_n 3, 1) := by decide +kernel
theorem dL_law_640 : decode cL_law 640 = .ok (.iconst 0, 1) := by decide +kernel
theorem dL_law_641 : decode cL_law 641 = .ok (.laload, 1) := by decide +kernel
theorem dL_law_642 : decode cL_law 642 = .ok (.iload 6, 2) := by decide +kernel
theorem dL_law_644 : decode cL_law 644 = .ok (.ifCond .eq 7, 3) := by decide +kernel
theorem dL_law_647 : decode cL_law 647 = .ok (.lconst 1, 1) := by decide +kernel
theorem dL_law_648 : decode cL_law 648 = .ok (.goto 4, 3) := by decide +kernel
theorem dL_law_651 : decode cL_law 651 = .ok (.lconst 0, 1) := by decide +kernel
theorem dL_law_652 : decode cL_law 652 = .ok (.lcmp, 1) := by decide +kernel
theorem dL_law_653 : decode cL_law 653 = .ok (.ifCond .eq 5, 3) := by decide +kernel
theorem dL_law_656 : decode cL_law 656 = .ok (.iconst 0, 1) := by decide +kernel
theorem dL_law_657 : decode cL_law 657 = .ok (.ireturn, 1) := by decide +kernel
theorem dL_law_658 : decode cL_law 658 = .ok (.goto 127, 3) := by decide +kernel
theorem dL_law_661 : decode cL_law 661 = .ok (.aload_n 1, 1) := by decide +kernel
theorem dL_law_662 : decode cL_law 662 = .ok (.aload_n 3, 1) := by decide +kernel
theorem dL_law_663 : decode cL_law 663 = .ok (.invokestatic 102, 3) := by decide +kernel
theorem dL_law_666 : decode cL_law 666 = .ok (.istore 5, 2) := by decide +kernel
theorem dL_law_668 : decode cL_law 668 = .ok (.aload_n 2, 1) := by decide +kernel
theorem dL_law_669 : decode cL_law 669 = .ok (.invokevirtual 105, 3) := by decide +kernel
theorem dL_law_672 : decode cL_law 672 = .ok (.istore 6, 2) := by decide +kernel
theorem dL_law_674 : decode cL_law 674 = .ok (.aload_n 2, 1) := by decide +kernel
theorem dL_law_675 : decode cL_law 675 = .ok (.invokevirtual 67, 3) := by decide +kernel
theorem dL_law_678 : decode cL_law 678 = .ok (.iload 5, 2) := by decide +kernel
theorem dL_law_680 : decode cL_law 680 = .ok (.if_icmp .eq 5, 3) := by decide +kernel
theorem dL_law_683 : decode cL_law 683 = .ok (.iconst 0, 1) := by decide +kernel
theorem dL_law_684 : decode cL_law 684 = .ok (.ireturn, 1) := by decide +kernel
theorem dL_law_685 : decode cL_law 685 = .ok (.iload 5, 2) := by decide +kernel
theorem dL_law_687 : decode cL_law 687 = .ok (.ifCond .ne 15, 3) := by decide +kernel
theorem dL_law_690 : decode cL_law 690 = .ok (.aload_n 3, 1) := by decide +kernel
theorem dL_law_691 : decode cL_law 691 = .ok (.iconst 0, 1) := by decide +kernel
theorem dL_law_692 : decode cL_law 692 = .ok (.laload, 1) := by decide +kernel
theorem dL_law_693 : decode cL_law 693 = .ok (.iload 6, 2) := by decide +kernel
theorem dL_law_695 : decode cL_law 695 = .ok (.i2l, 1) := by decide +kernel
theorem dL_law_696 : decode cL_law 696 = .ok (.lcmp, 1) := by decide +kernel
theorem dL_law_697 : decode cL_law 697 = .ok (.ifCond .eq 5, 3) := by decide +kernel
theorem dL_law_700 : decode cL_law 700 = .ok (.iconst 0, 1) := by decide +kernel
theorem dL_law_701 : decode cL_law 701 = .ok (.ireturn, 1) := by decide +kernel
theorem dL_law_702 : decode cL_law 702 = .ok (.goto 83, 3) := by decide +kernel
theorem dL_law_705 : decode cL_law 705 = .ok (.aload_n 1, 1) := by decide +kernel
theorem dL_law_706 : decode cL_law 706 = .ok (.invokevirtual 106, 3) := by decide +kernel
theorem dL_law_709 : decode cL_law 709 = .ok (.aload_n 2, 1) := by decide +kernel
theorem dL_law_710 : decode cL_law 710 = .ok (.invokevirtual 109, 3) := by decide +kernel
theorem dL_law_713 : decode cL_law 713 = .ok (.if_icmp .eq 72, 3) := by decide +kernel
theorem dL_law_716 : decode cL_law 716 = .ok (.iconst 0, 1) := by decide +kernel
theorem dL_law_717 : decode cL_law 717 = .ok (.ireturn, 1) := by decide +kernel
theorem dL_law_718 : decode cL_law 718 = .ok (.aload_n 1, 1) := by decide +kernel
theorem dL_law_719 : decode cL_law 719 = .ok (.aload_n 0, 1) := by decide +kernel
theorem dL_law_720 : decode cL_law 720 = .ok (.iload 4, 2) := by decide +kernel
theorem dL_law_722 : decode cL_law 722 = .ok (.iconst 1, 1) := by decide +kernel
theorem dL_law_723 : decode cL_law 723 = .ok (.iadd, 1) := by decide +kernel
theorem dL_law_724 : decode cL_law 724 = .ok (.iaload, 1) := by decide +kernel
theorem dL_law_725 : decode cL_law 725 = .ok (.aload_n 0, 1) := by decide +kernel
theorem dL_law_726 : decode cL_law 726 = .ok (.iload 4, 2) := by decide +kernel
theorem dL_law_728 : decode cL_law 728 = .ok (.iconst 2, 1) := by decide +kernel
theorem dL_law_729 : decode cL_law 729 = .ok (.iadd, 1) := by decide +kernel
theorem dL_law_730 : decode cL_law 730 = .ok (.iaload, 1) := by decide +kernel
theorem dL_law_731 : decode cL_law 731 = .ok (.aload_n 3, 1) := by decide +kernel
theorem dL_law_732 : decode cL_law 732 = .ok (.invokestatic 110, 3) := by decide +kernel
theorem dL_law_735 : decode cL_law 735 = .ok (.istore 5, 2) := by decide +kernel
theorem dL_law_737 : decode cL_law 737 = .ok (.aload_n 2, 1) := by decide +kernel
theorem dL_law_738 : decode cL_law 738 = .ok (.aload_n 0, 1) := by decide +kernel
theorem dL_law_739 : decode cL_law 739 = .ok (.iload 4, 2) := by decide +kernel
theorem dL_law_741 : decode cL_law 741 = .ok (.iconst 1, 1) := by decide +kernel
theorem dL_law_742 : decode cL_law 742 = .ok (.iadd, 1) := by decide +kernel
theorem dL_law_743 : decode cL_law 743 = .ok (.iaload, 1) := by decide +kernel
theorem dL_law_744 : decode cL_law 744 = .ok (.aload_n 0, 1) := by decide +kernel
theorem dL_law_745 : decode cL_law 745 = .ok (.iload 4, 2) := by decide +kernel
theorem dL_law_747 : decode cL_law 747 = .ok (.iconst 2, 1) := by decide +kernel
theorem dL_law_748 : decode cL_law 748 = .ok (.iadd, 1) := by decide +kernel
theorem dL_law_749 : decode cL_law 749 = .ok (.iaload, 1) := by decide +kernel
theorem dL_law_750 : decode cL_law 750 = .ok (.invokevirtual 112, 3) := by decide +kernel
theorem dL_law_753 : decode cL_law 753 = .ok (.lstore 6, 2) := by decide +kernel
theorem dL_law_755 : decode cL_law 755 = .ok (.aload_n 2, 1) := by decide +kernel
theorem dL_law_756 : decode cL_law 756 = .ok (.invokevirtual 67, 3) := by decide +kernel
theorem dL_law_759 : decode cL_law 759 = .ok (.iload 5, 2) := by decide +kernel
theorem dL_law_761 : decode cL_law 761 = .ok (.if_icmp .eq 5, 3) := by decide +kernel
theorem dL_law_764 : decode cL_law 764 = .ok (.iconst 0, 1) := by decide +kernel
theorem dL_law_765 : decode cL_law 765 = .ok (.ireturn, 1) := by decide +kernel
theorem dL_law_766 : decode cL_law 766 = .ok (.iload 5, 2) := by decide +kernel
theorem dL_law_768 : decode cL_law 768 = .ok (.ifCond .ne 14, 3) := by decide +kernel
theorem dL_law_771 : decode cL_law 771 = .ok (.aload_n 3, 1) := by decide +kernel
theorem dL_law_772 : decode cL_law 772 = .ok (.iconst 0, 1) := by decide +kernel
theorem dL_law_773 : decode cL_law 773 = .ok (.laload, 1) := by decide +kernel
theorem dL_law_774 : decode cL_law 774 = .ok (.lload 6, 2) := by decide +kernel
theorem dL_law_776 : decode cL_law 776 = .ok (.lcmp, 1) := by decide +kernel
theorem dL_law_777 : decode cL_law 777 = .ok (.ifCond .eq 5, 3) := by decide +kernel
theorem dL_law_780 : decode cL_law 780 = .ok (.iconst 0, 1) := by decide +kernel
theorem dL_law_781 : decode cL_law 781 = .ok (.ireturn, 1) := by decide +kernel
theorem dL_law_782 : decode cL_law 782 = .ok (.goto 3, 3) := by decide +kernel
theorem dL_law_785 : decode cL_law 785 = .ok (.iinc 4 4, 3) := by decide +kernel
theorem dL_law_788 : decode cL_law 788 = .ok (.goto (-765), 3) := by decide +kernel
theorem dL_law_791 : decode cL_law 791 = .ok (.iconst 1, 1) := by decide +kernel
theorem dL_law_792 : decode cL_law 792 = .ok (.ireturn, 1) := by decide +kernel
abbrev vwCl : List vw_C := [(RX0, TX0, 6), (RX1, TX1, 7), (RX2, TX2, 3), (RX3, TX3, 20)]
end
section
/-! THE WORLD: every cell of the law's own (the class's, the reference's, 'out'), by number; its contents are three functions:
M.1 k: int field k; M.2.1 k j: place j of int array k; M.2.2 k j: place j of long array k -/
abbrev Mm : Type := (Nat → Int32) × (Nat → Nat → Int32) × (Nat → Nat → Int64)
/-- the least address, the classes of int[], long[] and long[][], the classes' numbers, the cells' addresses -/
abbrev Th : Type := Nat × (ClassId × ClassId × ClassId) × va_G × (Nat → Nat)
def lnA (k : Nat) : Nat := [3, 3, 3, 4, 4, 126, 12, 3, 4, 3, 3, 45, 9, 9, 130].getD k 0
def lnO (k : Nat) : Nat := [3, 3, 126].getD k 0
def bsO (k : Nat) : Nat := [6, 9, 12].getD k 0
def lnL (k : Nat) : Nat := if k < 6 then [4, 30, 650, 130, 130, 1].getD k 0 else if k < 9 then 6 else if k < 12 then 4 else if k < 138 then 6 else 0
abbrev tA (θ : Th) : Nat → Prop := fun q => θ.1 ≤ q
abbrev tad (θ : Th) (k : Nat) : Nat := θ.2.2.2 k
abbrev tys (θ : Th) : List (ClassId × FieldType) := [(θ.2.1.1, .int), (θ.2.1.2.1, .long), (θ.2.1.2.2, .array .long)]
def wlo (θ : Th) (I : Nat → Int32) : va_W :=
  [(tad θ 0, .inr (2, [.ref (tad θ 1), .ref (tad θ 2), .ref (tad θ 9)])),
   (tad θ 1, .inr (1, [.int (I 0), .int (I 1), .ref (tad θ 19), .ref (tad θ 4), .ref (tad θ 5), .ref (tad θ 6), .ref (tad θ 7)])),
   (tad θ 2, .inr (0, [.ref (tad θ 21), .int (I 2), .int (I 3), .ref (tad θ 20), .ref (tad θ 8), .ref (tad θ 22)])),
   (tad θ 3, .inr (3, [.int (I 4), .int (I 5), .ref (tad θ 10), .ref (tad θ 11), .ref (tad θ 12), .ref (tad θ 13), .ref (tad θ 14), .int (I 6), .int (I 7), .int (I 8), .ref (tad θ 15), .ref (tad θ 16), .ref (tad θ 17), .ref (tad θ 23), .int (I 9), .ref (tad θ 24), .ref (tad θ 25), .ref (tad θ 26), .int (I 10), .ref (tad θ 18)]))]
def wlA (θ : Th) (A : Nat → Nat → Int32) : va_W := (List.range 15).map (fun k => (tad θ (4 + k), .inl (θ.2.1.1, lnA k, .inl (A k))))
def wlO (θ : Th) : va_W := (List.range 3).map (fun k => (tad θ (19 + k), .inl (θ.2.1.2.2, lnO k, .inr (.inr (.inr (.inr (fun i => if i < lnO k then some (tad θ (22 + (bsO k + i))) else none)))))))
def wlL (θ : Th) (L : Nat → Nat → Int64) : va_W := (List.range 138).map (fun k => (tad θ (22 + k), .inl (θ.2.1.2.1, lnL k, .inr (.inl (L k)))))
def wl (θ : Th) (M : Mm) : va_W := wlo θ M.1 ++ (wlA θ M.2.1 ++ (wlO θ ++ wlL θ M.2.2))
theorem wlo_len (θ : Th) (I : Nat → Int32) : (wlo θ I).length = 4 := rfl
theorem wlA_len (θ : Th) (A : Nat → Nat → Int32) : (wlA θ A).length = 15 := by simp [wlA]
theorem wlO_len (θ : Th) : (wlO θ).length = 3 := by simp [wlO]
theorem wlL_len (θ : Th) (L : Nat → Nat → Int64) : (wlL θ L).length = 138 := by simp [wlL]
theorem wl_o {θ : Th} {M : Mm} {o : Nat} (h : o < 4) : (wl θ M)[o]? = (wlo θ M.1)[o]? := List.getElem?_append_left (by rw [wlo_len]; exact h)
theorem wl_A {θ : Th} {M : Mm} {k : Nat} (h : k < 15) : (wl θ M)[4 + k]? = some (tad θ (4 + k), .inl (θ.2.1.1, lnA k, .inl (M.2.1 k))) := by
  unfold wl
  rw [List.getElem?_append_right (by rw [wlo_len]; omega), wlo_len, List.getElem?_append_left (by rw [wlA_len]; omega), show 4 + k - 4 = k by omega]
  simp [wlA, h]
theorem wl_O {θ : Th} {M : Mm} {k : Nat} (h : k < 3) : (wl θ M)[19 + k]? = some (tad θ (19 + k), .inl (θ.2.1.2.2, lnO k, .inr (.inr (.inr (.inr (fun i => if i < lnO k then some (tad θ (22 + (bsO k + i))) else none)))))) := by
  unfold wl
  rw [List.getElem?_append_right (by rw [wlo_len]; omega), wlo_len, List.getElem?_append_right (by rw [wlA_len]; omega), wlA_len, List.getElem?_append_left (by rw [wlO_len]; omega), show 19 + k - 4 - 15 = k by omega]
  simp [wlO, h]
theorem wl_L {θ : Th} {M : Mm} {k : Nat} (h : k < 138) : (wl θ M)[22 + k]? = some (tad θ (22 + k), .inl (θ.2.1.2.1, lnL k, .inr (.inl (M.2.2 k)))) := by
  unfold wl
  rw [List.getElem?_append_right (by rw [wlo_len]; omega), wlo_len, List.getElem?_append_right (by rw [wlA_len]; omega), wlA_len, List.getElem?_append_right (by rw [wlO_len]; omega), wlO_len, show 22 + k - 4 - 15 - 3 = k by omega]
  simp [wlL, h]
theorem range_set {α : Type} {n k : Nat} (f : Nat → α) (x : α) (_h : k < n) : ((List.range n).map f).set k x = (List.range n).map (fun j => if j = k then x else f j) := by
  apply List.ext_getElem?
  intro i
  rw [List.getElem?_set]
  by_cases hi : k = i
  · subst hi
    simp [_h]
  · have hi2 : ¬ i = k := fun e => hi e.symm
    simp only [hi, if_false, List.getElem?_map]
    by_cases hn : i < n
    · simp [hn, hi2]
    · simp [hn]
theorem wl_setA {θ : Th} {M : Mm} {k : Nat} (h : k < 15) (f : Nat → Int32) : (wl θ M).set (4 + k) (tad θ (4 + k), .inl (θ.2.1.1, lnA k, .inl f)) = wl θ (M.1, va_up M.2.1 k f, M.2.2) := by
  unfold wl
  rw [List.set_append_right _ _ (by rw [wlo_len]; omega), wlo_len, List.set_append_left _ _ (by rw [wlA_len]; omega), show 4 + k - 4 = k by omega]
  congr 2
  unfold wlA
  rw [range_set _ _ h]
  apply List.map_congr_left
  intro j _
  by_cases e : j = k
  · subst e; simp [va_up]
  · simp [va_up, e]
theorem wl_setL {θ : Th} {M : Mm} {k : Nat} (h : k < 138) (f : Nat → Int64) : (wl θ M).set (22 + k) (tad θ (22 + k), .inl (θ.2.1.2.1, lnL k, .inr (.inl f))) = wl θ (M.1, M.2.1, va_up M.2.2 k f) := by
  unfold wl
  rw [List.set_append_right _ _ (by rw [wlo_len]; omega), wlo_len, List.set_append_right _ _ (by rw [wlA_len]; omega), wlA_len, List.set_append_right _ _ (by rw [wlO_len]; omega), wlO_len, show 22 + k - 4 - 15 - 3 = k by omega]
  congr 3
  unfold wlL
  rw [range_set _ _ h]
  apply List.map_congr_left
  intro j _
  by_cases e : j = k
  · subst e; simp [va_up]
  · simp [va_up, e]
theorem wl_setI {θ : Th} {M : Mm} {o : Nat} (h : o < 4) (q : Nat × va_E) {I' : Nat → Int32} (he : (wlo θ M.1).set o q = wlo θ I') : (wl θ M).set o q = wl θ (I', M.2.1, M.2.2) := by
  unfold wl
  rw [List.set_append_left _ _ (by rw [wlo_len]; exact h), he]
def wd (θ : Th) (M : Mm) (H : Heap) : Prop := va_P θ.2.2.1 vwCl (wl θ M) H ∧ va_D (tA θ) (wl θ M)
def wU (θ : Th) (M : Mm) (U : State) : Prop := va_K θ.2.2.1 vwCl (tys θ) U ∧ wd θ M U.heap
/-! reads and writes: none outside the range -/
def rA (M : Mm) (k : Nat) (i : Int32) : Option Int32 := if i < 0 ∨ lnA k ≤ i.toNatClampNeg then none else some (M.2.1 k i.toNatClampNeg)
def wA (M : Mm) (k : Nat) (i x : Int32) : Option Mm := if i < 0 ∨ lnA k ≤ i.toNatClampNeg then none else some (M.1, va_up M.2.1 k (upd (M.2.1 k) i.toNatClampNeg x), M.2.2)
def rL (M : Mm) (k : Nat) (i : Int32) : Option Int64 := if i < 0 ∨ lnL k ≤ i.toNatClampNeg then none else some (M.2.2 k i.toNatClampNeg)
def wL (M : Mm) (k : Nat) (i : Int32) (x : Int64) : Option Mm := if i < 0 ∨ lnL k ≤ i.toNatClampNeg then none else some (M.1, M.2.1, va_up M.2.2 k (vp_updL (M.2.2 k) i.toNatClampNeg x))
def rO (k : Nat) (i : Int32) : Option Nat := if i < 0 ∨ lnO k ≤ i.toNatClampNeg then none else some (bsO k + i.toNatClampNeg)
abbrev wI (M : Mm) (k : Nat) (v : Int32) : Mm := (upd M.1 k v, M.2.1, M.2.2)
theorem ite_some {α : Type} {c : Prop} [Decidable c] {x y : α} (h : (if c then none else some x) = some y) : ¬ c ∧ x = y := by
  by_cases hc : c
  · rw [if_pos hc] at h; cases h
  · rw [if_neg hc] at h; exact ⟨hc, Option.some.inj h⟩
theorem bind_s {α β : Type} {x : Option α} {f : α → Option β} {y : β} (h : x.bind f = some y) : ∃ a, x = some a ∧ f a = some y := Option.bind_eq_some_iff.mp h
theorem lnL_lt {k n : Nat} (h : ¬ lnL k ≤ n) : k < 138 := by
  unfold lnL at h
  by_cases h1 : k < 138
  · exact h1
  · rw [if_neg (by omega), if_neg (by omega), if_neg (by omega), if_neg h1] at h
    omega
end
section
/-! ONE LIST OF WORDS for all methods: the good ones of the tables -/
def gw : List Cond := lw_tbl.filter goodWord
theorem gw_in {w : Cond} (i : Nat) (h : lw_tbl[i]? = some w) (hg : goodWord w = true) : w ∈ gw := List.mem_filter.mpr ⟨List.mem_of_getElem? h, hg⟩
theorem gw_all {ws : List Cond} (h : ∀ w ∈ ws, w ∈ lw_tbl ∧ goodWord w = true) : ∀ w ∈ ws, w ∈ gw := fun w hw => List.mem_filter.mpr (h w hw)
abbrev gws (y : MethodName) (bytes : ByteArray) (mL : Nat) (rt : Option FieldType) : List Cond := Cond.code y bytes mL rt :: gw
theorem gws_ok {y : MethodName} {bytes : ByteArray} {mL : Nat} {rt : Option FieldType} (h : Cond.code y bytes mL rt ∈ gw) : GoodIn gw (gws y bytes mL rt) := fun w hw => by
  have h1 : w ∈ gw := (List.mem_cons.mp hw).elim (fun e => e ▸ h) id
  exact ⟨h1, good_of_word (List.mem_filter.mp h1).2⟩
theorem gin0 : ∀ w ∈ wsX00, w ∈ gw := gw_all (by decide +kernel)
theorem gin1 : ∀ w ∈ wsX10, w ∈ gw := gw_all (by decide +kernel)
theorem gin2 : ∀ w ∈ wsX20, w ∈ gw := gw_all (by decide +kernel)
theorem gin3 : ∀ w ∈ wsX30, w ∈ gw := gw_all (by decide +kernel)
/-- what a walk stands on: the machine, the code, the words, the classes -/
def Cx (θ : Th) (p : Program) (s : State) (m : MethodId) (args : Array Value) (meth : Method) (c : Code) (cc : ByteArray) (nL : Nat) (own : String) (ret : Option FieldType) : Prop :=
  p.tables.exec = Jvm.exec ∧ c.code = cc ∧ c.maxLocals = nL ∧ s.vm.findClass own = some m.cls ∧ (∀ w ∈ gw, w.before args s = true) ∧ va_K θ.2.2.1 vwCl (tys θ) s ∧ meth.sig.returnType = ret ∧ meth.locks = false
/-- what is known of a method that is called -/
def CF (y : MethodName) (bytes : ByteArray) (mL : Nat) (rt : Option FieldType) (n : Nat) : Prop :=
  Cond.code y bytes mL rt ∈ gw ∧ Cond.initialized y.cls ∈ gw ∧ y.cls ≠ "java/lang/invoke/MethodHandle" ∧ y.cls ≠ "java/lang/invoke/VarHandle" ∧ (parseMethodDescriptor y.desc).map (fun d => d.parameters.length) = some n
def CV (y : MethodName) : Prop := Cond.instanceMethod y ∈ gw ∧ Cond.selects y.cls y y ∈ gw
/-- object o of the world is of class C -/
def RC (o : Nat) (C : String) : Prop := o < 4 ∧ ∀ (θ : Th) (I : Nat → Int32), ∃ (ci : Nat) (T : u_T) (N : Nat) (fs : List Value), vwCl[ci]? = some (C, T, N) ∧ (wlo θ I)[o]? = some (tad θ o, .inr (ci, fs))
theorem rc0 : RC 0 RX2 := ⟨by decide, fun _ _ => ⟨2, TX2, 3, _, rfl, rfl⟩⟩
theorem rc1 : RC 1 RX1 := ⟨by decide, fun _ _ => ⟨1, TX1, 7, _, rfl, rfl⟩⟩
theorem rc2 : RC 2 RX0 := ⟨by decide, fun _ _ => ⟨0, TX0, 6, _, rfl, rfl⟩⟩
theorem rc3 : RC 3 RX3 := ⟨by decide, fun _ _ => ⟨3, TX3, 20, _, rfl, rfl⟩⟩
abbrev qI (θ : Th) (r : Int32) (M : Mm) : Array Value → State → Outcome → State → Prop := va_Qi (fun x u => x = r ∧ u = M) (wU θ) (tA θ)
abbrev qL (θ : Th) (r : Int64) (M : Mm) : Array Value → State → Outcome → State → Prop := va_Ql (fun x u => x = r ∧ u = M) (wU θ) (tA θ)
abbrev qV (θ : Th) (M : Mm) : Array Value → State → Outcome → State → Prop := va_Qv (fun u => u = M) (wU θ) (tA θ)
abbrev qR (θ : Th) (r : Nat) (M : Mm) : Array Value → State → Outcome → State → Prop := va_Qr (fun u => u = M) (fun u a t => a = tad θ (22 + r) ∧ wU θ u t) (tA θ)
section KR
variable {θ : Th} {p : Program} {l : Launch} {e : Env} {R : Room} {s : State} {m : MethodId} {args : Array Value} {below : List Frame} {meth : Method} {c : Code} {H H0 : Heap} {locs : List Loc} {cells slots : Nat} {Q : State → Prop} {cc : ByteArray} {nL : Nat} {own : String} {ret : Option FieldType} {M M1 : Mm} {pc : Nat} {ls : Array Slot} {rest st : List Value}
theorem k_iald (C : Cx θ p s m args meth c cc nL own ret) (hw : wd θ M H) (k : Nat) (hk : k < 15) {i x : Int32} (hv : rA M k i = some x) (hdg : decode cc pc = .ok (.iaload, 1))
    (kk : W p l e R s m args below meth c H locs cells slots Q (F0 m (pc + 1) ls (.int x :: rest))) : W p l e R s m args below meth c H locs cells slots Q (F0 m pc ls (.int i :: .ref (tad θ (4 + k)) :: rest)) := by
  obtain ⟨h1, h2⟩ := ite_some hv
  subst h2
  exact va_iald C.1 C.2.1 C.2.2.2.2.2.1 hw.1 (4 + k) 0 (wl_A hk) rfl h1 hdg kk
theorem k_lald (C : Cx θ p s m args meth c cc nL own ret) (hw : wd θ M H) (k : Nat) {i : Int32} {x : Int64} (hv : rL M k i = some x) (hdg : decode cc pc = .ok (.laload, 1))
    (kk : W p l e R s m args below meth c H locs cells slots Q (F0 m (pc + 1) ls (.long x :: rest))) : W p l e R s m args below meth c H locs cells slots Q (F0 m pc ls (.int i :: .ref (tad θ (22 + k)) :: rest)) := by
  obtain ⟨h1, h2⟩ := ite_some hv
  subst h2
  exact va_lald C.1 C.2.1 C.2.2.2.2.2.1 hw.1 (22 + k) 1 (wl_L (lnL_lt (fun q => h1 (Or.inr q)))) rfl h1 hdg kk
theorem k_iast (C : Cx θ p s m args meth c cc nL own ret) (hw : wd θ M H) (hS : va_S (tA θ) H0 H locs) (k : Nat) (hk : k < 15) {i x : Int32} (hv : wA M k i x = some M1) (hdg : decode cc pc = .ok (.iastore, 1))
    (kk : ∀ (H1 : Heap) (locs1 : List Loc), wd θ M1 H1 → va_S (tA θ) H0 H1 locs1 → W p l e R s m args below meth c H1 locs1 cells slots Q (F0 m (pc + 1) ls rest)) : W p l e R s m args below meth c H locs cells slots Q (F0 m pc ls (.int x :: .int i :: .ref (tad θ (4 + k)) :: rest)) := by
  obtain ⟨h1, h2⟩ := ite_some hv
  subst h2
  refine va_iast C.1 C.2.1 C.2.2.2.2.2.1 hw.1 hw.2 hS (4 + k) 0 (wl_A hk) rfl h1 hdg (fun H1 locs1 hP hD hS => kk H1 locs1 ⟨?_, ?_⟩ hS)
  · rw [wl_setA hk] at hP; exact hP
  · rw [wl_setA hk] at hD; exact hD
theorem k_last (C : Cx θ p s m args meth c cc nL own ret) (hw : wd θ M H) (hS : va_S (tA θ) H0 H locs) (k : Nat) {i : Int32} {x : Int64} (hv : wL M k i x = some M1) (hdg : decode cc pc = .ok (.lastore, 1))
    (kk : ∀ (H1 : Heap) (locs1 : List Loc), wd θ M1 H1 → va_S (tA θ) H0 H1 locs1 → W p l e R s m args below meth c H1 locs1 cells slots Q (F0 m (pc + 1) ls rest)) : W p l e R s m args below meth c H locs cells slots Q (F0 m pc ls (.long x :: .int i :: .ref (tad θ (22 + k)) :: rest)) := by
  obtain ⟨h1, h2⟩ := ite_some hv
  subst h2
  have hk : k < 138 := lnL_lt (fun q => h1 (Or.inr q))
  refine va_last C.1 C.2.1 C.2.2.2.2.2.1 hw.1 hw.2 hS (22 + k) 1 (wl_L hk) rfl h1 hdg (fun H1 locs1 hP hD hS => kk H1 locs1 ⟨?_, ?_⟩ hS)
  · rw [wl_setL hk] at hP; exact hP
  · rw [wl_setL hk] at hD; exact hD
theorem k_aald (C : Cx θ p s m args meth c cc nL own ret) (hw : wd θ M H) (k : Nat) (hk : k < 3) {i : Int32} {x : Nat} (hv : rO k i = some x) (hdg : decode cc pc = .ok (.aaload, 1))
    (kk : W p l e R s m args below meth c H locs cells slots Q (F0 m (pc + 1) ls (.ref (tad θ (22 + x)) :: rest))) : W p l e R s m args below meth c H locs cells slots Q (F0 m pc ls (.int i :: .ref (tad θ (19 + k)) :: rest)) := by
  obtain ⟨h1, h2⟩ := ite_some hv
  subst h2
  have hlt : i.toNatClampNeg < lnO k := Nat.not_le.mp fun q => h1 (Or.inr q)
  have ha := hw.1 (19 + k) _ (wl_O hk)
  refine W.aald (v := va_rf ((fun j => if j < lnO k then some (tad θ (22 + (bsO k + j))) else none) i.toNatClampNeg)) (ty := .array .long) C.1 C.2.1 ha ((C.2.2.2.2.2.1.2 2 _ rfl).1 (lnO k) (fun j => va_rf ((fun j => if j < lnO k then some (tad θ (22 + (bsO k + j))) else none) j))) rfl (fun q => by cases q) (by show ¬ (i < 0 ∨ (arrV _ _ _).slots.size ≤ _); rw [arrV_size]; exact h1) (by show (arrV _ _ _).slots[_]? = _; rw [arrV_read _ _ hlt]) rfl rfl hdg ?_
  simp only [if_pos hlt, va_rf]
  exact kk
theorem k_get (C : Cx θ p s m args meth c cc nL own ret) (hw : wd θ M H) {Cn : String} {T : u_T} {N ci index : Nat} (o k : Nat) (ho : o < 4) (hin : ∀ w ∈ u_ws Cn T N, w ∈ gw) {fs : List Value} (he : (wlo θ M.1)[o]? = some (tad θ o, .inr (ci, fs))) (hc : vwCl[ci]? = some (Cn, T, N)) (hk : k < N)
    (hlink : Cond.fieldLink own index (T k).1 (T k).2.1 (T k).2.2.1 ∈ gw) {v : Value} (hv : fs[k]? = some v) (hdg : decode cc pc = .ok (.getfield index, 3))
    (kk : W p l e R s m args below meth c H locs cells slots Q (F0 m (pc + 3) ls (v :: rest))) : W p l e R s m args below meth c H locs cells slots Q (F0 m pc ls (.ref (tad θ o) :: rest)) :=
  va_get C.1 C.2.1 C.2.2.2.2.1 hin C.2.2.2.1 C.2.2.2.2.2.1 hw.1 o ((wl_o ho).trans he) hc k hk (C.2.2.2.2.1 _ hlink) (fun _ h9 => h9) hv hdg kk
theorem k_put (C : Cx θ p s m args meth c cc nL own ret) (hw : wd θ M H) (hS : va_S (tA θ) H0 H locs) {Cn : String} {T : u_T} {N ci index : Nat} (o k j : Nat) (ho : o < 4) (hin : ∀ w ∈ u_ws Cn T N, w ∈ gw) (ty0 : Nat → FieldType) (hty : ∀ k, k < N → parseFieldDescriptor (T k).2.2.1 = some (ty0 k)) (hnm : ∀ a, a < N → ∀ b, b < N → a ≠ b → (T a).2.1 ≠ (T b).2.1)
    {fs : List Value} (he : (wlo θ M.1)[o]? = some (tad θ o, .inr (ci, fs))) (hc : vwCl[ci]? = some (Cn, T, N)) (hk : k < N) (hfin : (T k).2.2.2 = false) (hd : parseFieldDescriptor (T k).2.2.1 = some .int) (hl : k < fs.length) {v : Int32} (hset : (wlo θ M.1).set o (tad θ o, .inr (ci, fs.set k (.int v))) = wlo θ (upd M.1 j v))
    (hlink : Cond.fieldLink own index (T k).1 (T k).2.1 (T k).2.2.1 ∈ gw) (hdg : decode cc pc = .ok (.putfield index, 3))
    (kk : ∀ (H1 : Heap) (locs1 : List Loc), wd θ (wI M j v) H1 → va_S (tA θ) H0 H1 locs1 → W p l e R s m args below meth c H1 locs1 cells slots Q (F0 m (pc + 3) ls rest)) : W p l e R s m args below meth c H locs cells slots Q (F0 m pc ls (.int v :: .ref (tad θ o) :: rest)) := by
  refine va_put (v := .int v) (ty := .int) C.1 C.2.1 C.2.2.2.2.1 hin ty0 hty hnm C.2.2.2.1 C.2.2.2.2.2.1 hw.1 hw.2 hS o ((wl_o ho).trans he) hc k hk (C.2.2.2.2.1 _ hlink) (fun _ h9 => h9) hfin hd rfl rfl hl hdg (fun H1 locs1 hP hD hS => kk H1 locs1 ⟨?_, ?_⟩ hS)
  · rw [wl_setI ho _ hset] at hP; exact hP
  · rw [wl_setI ho _ hset] at hD; exact hD
theorem k_reti (C : Cx θ p s m args meth c cc nL own (some .int)) (hw : wd θ M H) (hS : va_S (tA θ) s.heap H locs) {r : Int32} (hdg : decode cc pc = .ok (.ireturn, 1)) : W p l e R s m args below meth c H locs 0 0 (MQ below (qI θ r M) args s 0 0 (tA θ)) (F0 m pc ls [.int r]) :=
  W.iret (v := r) C.1 C.2.1 C.2.2.2.2.2.2.1 (fun t ht hW => ⟨⟨r, M, rfl, ⟨rfl, rfl⟩, va_K.moved hW.alike C.2.2.2.2.2.1, by rw [ht]; exact hw⟩, hS.F ht⟩) hS.2.2 hdg C.2.2.2.2.2.2.2
theorem k_retz (C : Cx θ p s m args meth c cc nL own (some .boolean)) (hw : wd θ M H) (hS : va_S (tA θ) s.heap H locs) {r : Int32} (hr : r = 0 ∨ r = 1) (hdg : decode cc pc = .ok (.ireturn, 1)) : W p l e R s m args below meth c H locs 0 0 (MQ below (qI θ r M) args s 0 0 (tA θ)) (F0 m pc ls [.int r]) :=
  W.zret (v := r) C.1 C.2.1 C.2.2.2.2.2.2.1 (by rcases hr with rfl | rfl <;> rfl) (fun t ht hW => ⟨⟨r, M, rfl, ⟨rfl, rfl⟩, va_K.moved hW.alike C.2.2.2.2.2.1, by rw [ht]; exact hw⟩, hS.F ht⟩) hS.2.2 hdg C.2.2.2.2.2.2.2
theorem k_retl (C : Cx θ p s m args meth c cc nL own (some .long)) (hw : wd θ M H) (hS : va_S (tA θ) s.heap H locs) {r : Int64} (hdg : decode cc pc = .ok (.lreturn, 1)) : W p l e R s m args below meth c H locs 0 0 (MQ below (qL θ r M) args s 0 0 (tA θ)) (F0 m pc ls [.long r]) :=
  W.lret (v := r) C.1 C.2.1 C.2.2.2.2.2.2.1 (fun t ht hW => ⟨⟨r, M, rfl, ⟨rfl, rfl⟩, va_K.moved hW.alike C.2.2.2.2.2.1, by rw [ht]; exact hw⟩, hS.F ht⟩) hS.2.2 hdg C.2.2.2.2.2.2.2
theorem k_retv (C : Cx θ p s m args meth c cc nL own none) (hw : wd θ M H) (hS : va_S (tA θ) s.heap H locs) (hdg : decode cc pc = .ok (.return_, 1)) : W p l e R s m args below meth c H locs 0 0 (MQ below (qV θ M) args s 0 0 (tA θ)) (F0 m pc ls []) :=
  W.vret C.1 C.2.1 C.2.2.2.2.2.2.1 (fun t ht hW => ⟨⟨M, rfl, rfl, va_K.moved hW.alike C.2.2.2.2.2.1, by rw [ht]; exact hw⟩, hS.F ht⟩) hS.2.2 hdg C.2.2.2.2.2.2.2
theorem k_reta (C : Cx θ p s m args meth c cc nL own (some (.array .long))) (hw : wd θ M H) (hS : va_S (tA θ) s.heap H locs) {r : Nat} (hdg : decode cc pc = .ok (.areturn, 1)) : W p l e R s m args below meth c H locs 0 0 (MQ below (qR θ r M) args s 0 0 (tA θ)) (F0 m pc ls [.ref (tad θ (22 + r))]) :=
  W.aret C.1 C.2.1 C.2.2.2.2.2.2.1 (Or.inr ⟨_, rfl⟩) (Or.inr ⟨_, rfl⟩) (fun t ht hW => ⟨⟨M, _, rfl, rfl, rfl, va_K.moved hW.alike C.2.2.2.2.2.1, by rw [ht]; exact hw⟩, hS.F ht⟩) hS.2.2 hdg C.2.2.2.2.2.2.2
theorem k_blind {av : List Value} : FrameBlind (va_Pc av (wU θ M)) := fun a U g mk q => ⟨q.1, va_K.moved (u := U) (U := U.calling g mk a) (Vm.Alike.refl U.vm) q.2.1, q.2.2⟩
variable {y : MethodName} {bytes : ByteArray} {mL n index o : Nat} {rt : Option FieldType} {rm : Room} {Qc : Array Value → State → Outcome → State → Prop} {As : List Value}
/-- the room that a callee takes -/
def RM (rm R : Room) (mL : Nat) : Prop := rm.cells = 0 ∧ rm.slots = 0 ∧ rm.frames + 1 ≤ R.frames ∧ 8 + (mL + 11) + rm.locals ≤ R.locals
theorem k_cb (C : Cx θ p s m args meth c cc nL own ret) (cf : CF y bytes mL rt n) (hl : Cond.methodLink own index y ∈ gw) (hrm : RM rm R mL) : CallB R s args own index y bytes mL rt (gws y bytes mL rt) rm 0 0 n :=
  callB_of n C.2.2.2.2.1 (gws_ok cf.1) rfl hrm.1 hrm.2.1 (C.2.2.2.2.1 _ cf.2.1) (C.2.2.2.2.1 _ hl) cf.2.2 hrm.2.2
theorem k_runV (C : Cx θ p s m args meth c cc nL own ret) (cf : CF y bytes mL rt n) (cv : CV y) (hl : Cond.methodLink own index y ∈ gw) (hrc : RC o y.cls) (hM : Met l y (gws y bytes mL rt) rm (va_Pc (.ref (tad θ o) :: As) (wU θ M)) Qc 0 0 (tA θ)) (hrm : RM rm R mL)
    (hn : As.length = n) (hsz : ls.size = nL) (hst : st = As.reverse ++ .ref (tad θ o) :: rest) (hcat : (rest.map fun v => v.category).sum ≤ 8) (hdg : decode cc pc = .ok (.invokevirtual index, 3)) (hf : cells ≤ R.cells ∧ slots ≤ R.slots) (hw : wd θ M H) :
    va_Run p l e R s m args below meth c H locs cells slots 0 0 (F0 m pc ls st) rest (Qc (.ref (tad θ o) :: As).toArray) (tA θ) := by
  obtain ⟨ci, T, N, fs, h1, h2⟩ := hrc.2 θ M.1
  exact va_runV ⟨C.1, C.2.1, C.2.2.1, C.2.2.2.1, C.2.2.2.2.1⟩ hM ⟨k_cb C cf hl hrm, C.2.2.2.2.1 _ cv.1, C.2.2.2.2.1 _ cv.2⟩ ⟨k_blind, va_recv C.2.2.2.2.2.1 hw.1 h1 ((wl_o hrc.1).trans h2), fun U hU hW => ⟨rfl, va_K.moved hW.alike C.2.2.2.2.2.1, by rw [hU]; exact hw⟩⟩ rfl hn hsz hst (lv_room hcat) hdg hf
theorem k_runS (C : Cx θ p s m args meth c cc nL own ret) (cf : CF y bytes mL rt n) (cs : Cond.static y ∈ gw) (hl : Cond.methodLink own index y ∈ gw) (hM : Met l y (gws y bytes mL rt) rm (va_Pc As (wU θ M)) Qc 0 0 (tA θ)) (hrm : RM rm R mL)
    (hn : As.length = n) (hsz : ls.size = nL) (hst : st = As.reverse ++ rest) (hcat : (rest.map fun v => v.category).sum ≤ 8) (hdg : decode cc pc = .ok (.invokestatic index, 3)) (hf : cells ≤ R.cells ∧ slots ≤ R.slots) (hw : wd θ M H) :
    va_Run p l e R s m args below meth c H locs cells slots 0 0 (F0 m pc ls st) rest (Qc As.toArray) (tA θ) :=
  va_runS ⟨C.1, C.2.1, C.2.2.1, C.2.2.2.1, C.2.2.2.2.1⟩ hM ⟨k_cb C cf hl hrm, C.2.2.2.2.1 _ cs⟩ ⟨k_blind, fun U hU hW => ⟨rfl, va_K.moved hW.alike C.2.2.2.2.2.1, by rw [hU]; exact hw⟩⟩ rfl hn hsz hst (lv_room hcat) hdg hf
variable {a : Array Value}
theorem k_ci {r : Int32} (hr : va_Run p l e R s m args below meth c H locs cells slots 0 0 (F0 m pc ls st) rest (qI θ r M1 a) (tA θ)) (hS : va_S (tA θ) H0 H locs)
    (kk : ∀ (H1 : Heap) (locs1 : List Loc), wd θ M1 H1 → va_S (tA θ) H0 H1 locs1 → W p l e R s m args below meth c H1 locs1 cells slots Q (F0 m (pc + 3) ls (.int r :: rest))) : W p l e R s m args below meth c H locs cells slots Q (F0 m pc ls st) :=
  va_calli hr hS (fun q _ h => h) (fun q h => h) (fun r u t H1 locs1 ht hvm hw hB hz hk hS => by
    obtain ⟨rfl, rfl⟩ := hw
    subst ht
    exact kk _ locs1 hB.2 hS)
theorem k_cl {r : Int64} (hr : va_Run p l e R s m args below meth c H locs cells slots 0 0 (F0 m pc ls st) rest (qL θ r M1 a) (tA θ)) (hS : va_S (tA θ) H0 H locs)
    (kk : ∀ (H1 : Heap) (locs1 : List Loc), wd θ M1 H1 → va_S (tA θ) H0 H1 locs1 → W p l e R s m args below meth c H1 locs1 cells slots Q (F0 m (pc + 3) ls (.long r :: rest))) : W p l e R s m args below meth c H locs cells slots Q (F0 m pc ls st) :=
  va_calll hr hS (fun q _ h => h) (fun q h => h) (fun r u t H1 locs1 ht hvm hw hB hz hk hS => by
    obtain ⟨rfl, rfl⟩ := hw
    subst ht
    exact kk _ locs1 hB.2 hS)
theorem k_cv (hr : va_Run p l e R s m args below meth c H locs cells slots 0 0 (F0 m pc ls st) rest (qV θ M1 a) (tA θ)) (hS : va_S (tA θ) H0 H locs)
    (kk : ∀ (H1 : Heap) (locs1 : List Loc), wd θ M1 H1 → va_S (tA θ) H0 H1 locs1 → W p l e R s m args below meth c H1 locs1 cells slots Q (F0 m (pc + 3) ls rest)) : W p l e R s m args below meth c H locs cells slots Q (F0 m pc ls st) :=
  va_callv hr hS (fun q _ h => h) (fun q h => h) (fun u t H1 locs1 ht hvm hw hB hz hk hS => by
    obtain rfl := hw
    subst ht
    exact kk _ locs1 hB.2 hS)
theorem k_cr {r : Nat} (hr : va_Run p l e R s m args below meth c H locs cells slots 0 0 (F0 m pc ls st) rest (qR θ r M1 a) (tA θ)) (hS : va_S (tA θ) H0 H locs)
    (kk : ∀ (H1 : Heap) (locs1 : List Loc), wd θ M1 H1 → va_S (tA θ) H0 H1 locs1 → W p l e R s m args below meth c H1 locs1 cells slots Q (F0 m (pc + 3) ls (.ref (tad θ (22 + r)) :: rest))) : W p l e R s m args below meth c H locs cells slots Q (F0 m pc ls st) :=
  va_callr hr hS (fun q _ h => h) (fun q h => h) (fun u ra t H1 locs1 ht hvm hw hB hz hk hS => by
    obtain rfl := hw
    obtain ⟨rfl, hB⟩ := hB
    subst ht
    exact kk _ locs1 hB.2 hS)
end KR
end
