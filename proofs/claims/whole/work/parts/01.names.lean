-- ===== PART A: goes FIRST, ahead of the names: the tables' words, and 'selects' of the private methods out of them =====
/-- a private method of a class that the tables say can be made, by its rows of tables_1 -/
def lw_okq (q : MethodName × Nat) : Prop := (q.1.cls ≠ "java/lang/invoke/MethodHandle" ∧ q.1.cls ≠ "java/lang/invoke/VarHandle") ∧ Cond.instantiable q.1.cls q.2 ∈ tables_1 ∧ Cond.privateMethod q.1 ∈ tables_1 ∧ Cond.instanceMethod q.1 ∈ tables_1
theorem lw_p0 : lw_okq (⟨"CrossesAllOld$Plan", "measurePoints", "()V"⟩, 9) := ⟨⟨by decide +kernel, by decide +kernel⟩, List.mem_of_getElem? (i := 72) (by decide +kernel), List.mem_of_getElem? (i := 136) (by decide +kernel), List.mem_of_getElem? (i := 137) (by decide +kernel)⟩
theorem lw_p1 : lw_okq (⟨"CrossesAllOld$Plan", "streetsThrough", "(III)I"⟩, 9) := ⟨⟨by decide +kernel, by decide +kernel⟩, List.mem_of_getElem? (i := 72) (by decide +kernel), List.mem_of_getElem? (i := 159) (by decide +kernel), List.mem_of_getElem? (i := 160) (by decide +kernel)⟩
theorem lw_p2 : lw_okq (⟨"CrossesAllOld$Plan", "height", "(IIII)I"⟩, 9) := ⟨⟨by decide +kernel, by decide +kernel⟩, List.mem_of_getElem? (i := 72) (by decide +kernel), List.mem_of_getElem? (i := 163) (by decide +kernel), List.mem_of_getElem? (i := 164) (by decide +kernel)⟩
theorem lw_p3 : lw_okq (⟨"CrossesAllOld$Plan", "sidesOfPoint", "(III)I"⟩, 9) := ⟨⟨by decide +kernel, by decide +kernel⟩, List.mem_of_getElem? (i := 72) (by decide +kernel), List.mem_of_getElem? (i := 167) (by decide +kernel), List.mem_of_getElem? (i := 168) (by decide +kernel)⟩
theorem lw_p4 : lw_okq (⟨"CrossesAllOld$Plan", "measureQuarters", "()V"⟩, 9) := ⟨⟨by decide +kernel, by decide +kernel⟩, List.mem_of_getElem? (i := 72) (by decide +kernel), List.mem_of_getElem? (i := 171) (by decide +kernel), List.mem_of_getElem? (i := 172) (by decide +kernel)⟩
theorem lw_p5 : lw_okq (⟨"CrossesAllOld$Plan", "sidesFar", "(III)I"⟩, 9) := ⟨⟨by decide +kernel, by decide +kernel⟩, List.mem_of_getElem? (i := 72) (by decide +kernel), List.mem_of_getElem? (i := 175) (by decide +kernel), List.mem_of_getElem? (i := 176) (by decide +kernel)⟩
theorem lw_p6 : lw_okq (⟨"CrossesAllOld", "refuse", "(I)I"⟩, 9) := ⟨⟨by decide +kernel, by decide +kernel⟩, List.mem_of_getElem? (i := 16) (by decide +kernel), List.mem_of_getElem? (i := 219) (by decide +kernel), List.mem_of_getElem? (i := 220) (by decide +kernel)⟩
theorem lw_p7 : lw_okq (⟨"CrossesAllOld$Letters", "readAll", "()I"⟩, 5) := ⟨⟨by decide +kernel, by decide +kernel⟩, List.mem_of_getElem? (i := 109) (by decide +kernel), List.mem_of_getElem? (i := 247) (by decide +kernel), List.mem_of_getElem? (i := 248) (by decide +kernel)⟩
theorem lw_p8 : lw_okq (⟨"CrossesAllOld$Letters", "readStatement", "()Z"⟩, 5) := ⟨⟨by decide +kernel, by decide +kernel⟩, List.mem_of_getElem? (i := 109) (by decide +kernel), List.mem_of_getElem? (i := 251) (by decide +kernel), List.mem_of_getElem? (i := 252) (by decide +kernel)⟩
theorem lw_p9 : lw_okq (⟨"CrossesAllOld$Letters", "takes", "(C)Z"⟩, 5) := ⟨⟨by decide +kernel, by decide +kernel⟩, List.mem_of_getElem? (i := 109) (by decide +kernel), List.mem_of_getElem? (i := 255) (by decide +kernel), List.mem_of_getElem? (i := 256) (by decide +kernel)⟩
theorem lw_p10 : lw_okq (⟨"CrossesAllOld$Letters", "readKind", "()Z"⟩, 5) := ⟨⟨by decide +kernel, by decide +kernel⟩, List.mem_of_getElem? (i := 109) (by decide +kernel), List.mem_of_getElem? (i := 259) (by decide +kernel), List.mem_of_getElem? (i := 260) (by decide +kernel)⟩
theorem lw_p11 : lw_okq (⟨"CrossesAllOld$Letters", "readNumber", "(II)Z"⟩, 5) := ⟨⟨by decide +kernel, by decide +kernel⟩, List.mem_of_getElem? (i := 109) (by decide +kernel), List.mem_of_getElem? (i := 350) (by decide +kernel), List.mem_of_getElem? (i := 351) (by decide +kernel)⟩
theorem lw_p12 : lw_okq (⟨"CrossesAllOld$Letters", "isDigit", "()Z"⟩, 5) := ⟨⟨by decide +kernel, by decide +kernel⟩, List.mem_of_getElem? (i := 109) (by decide +kernel), List.mem_of_getElem? (i := 354) (by decide +kernel), List.mem_of_getElem? (i := 355) (by decide +kernel)⟩
theorem lw_p13 : lw_okq (⟨"CrossesAllOld$Letters", "putStatement", "(LCrossesAllOld$Town;)Z"⟩, 5) := ⟨⟨by decide +kernel, by decide +kernel⟩, List.mem_of_getElem? (i := 109) (by decide +kernel), List.mem_of_getElem? (i := 358) (by decide +kernel), List.mem_of_getElem? (i := 359) (by decide +kernel)⟩
theorem lw_p14 : lw_okq (⟨"CrossesAllOld", "refuseFar", "(I)I"⟩, 9) := ⟨⟨by decide +kernel, by decide +kernel⟩, List.mem_of_getElem? (i := 16) (by decide +kernel), List.mem_of_getElem? (i := 387) (by decide +kernel), List.mem_of_getElem? (i := 388) (by decide +kernel)⟩
theorem lw_p15 : lw_okq (⟨"CrossesAllOld$Plan", "isSquare", "(I)Z"⟩, 9) := ⟨⟨by decide +kernel, by decide +kernel⟩, List.mem_of_getElem? (i := 72) (by decide +kernel), List.mem_of_getElem? (i := 396) (by decide +kernel), List.mem_of_getElem? (i := 397) (by decide +kernel)⟩
def lw_privs_1 : List (MethodName × Nat) := [(⟨"CrossesAllOld$Plan", "measurePoints", "()V"⟩, 9), (⟨"CrossesAllOld$Plan", "streetsThrough", "(III)I"⟩, 9), (⟨"CrossesAllOld$Plan", "height", "(IIII)I"⟩, 9), (⟨"CrossesAllOld$Plan", "sidesOfPoint", "(III)I"⟩, 9), (⟨"CrossesAllOld$Plan", "measureQuarters", "()V"⟩, 9), (⟨"CrossesAllOld$Plan", "sidesFar", "(III)I"⟩, 9), (⟨"CrossesAllOld", "refuse", "(I)I"⟩, 9), (⟨"CrossesAllOld$Letters", "readAll", "()I"⟩, 5), (⟨"CrossesAllOld$Letters", "readStatement", "()Z"⟩, 5), (⟨"CrossesAllOld$Letters", "takes", "(C)Z"⟩, 5), (⟨"CrossesAllOld$Letters", "readKind", "()Z"⟩, 5), (⟨"CrossesAllOld$Letters", "readNumber", "(II)Z"⟩, 5), (⟨"CrossesAllOld$Letters", "isDigit", "()Z"⟩, 5), (⟨"CrossesAllOld$Letters", "putStatement", "(LCrossesAllOld$Town;)Z"⟩, 5), (⟨"CrossesAllOld", "refuseFar", "(I)I"⟩, 9), (⟨"CrossesAllOld$Plan", "isSquare", "(I)Z"⟩, 9)]
theorem lw_r1 : ∀ q ∈ lw_privs_1, lw_okq q := List.forall_mem_cons.mpr ⟨lw_p0, List.forall_mem_cons.mpr ⟨lw_p1, List.forall_mem_cons.mpr ⟨lw_p2, List.forall_mem_cons.mpr ⟨lw_p3, List.forall_mem_cons.mpr ⟨lw_p4, List.forall_mem_cons.mpr ⟨lw_p5, List.forall_mem_cons.mpr ⟨lw_p6, List.forall_mem_cons.mpr ⟨lw_p7, List.forall_mem_cons.mpr ⟨lw_p8, List.forall_mem_cons.mpr ⟨lw_p9, List.forall_mem_cons.mpr ⟨lw_p10, List.forall_mem_cons.mpr ⟨lw_p11, List.forall_mem_cons.mpr ⟨lw_p12, List.forall_mem_cons.mpr ⟨lw_p13, List.forall_mem_cons.mpr ⟨lw_p14, List.forall_mem_cons.mpr ⟨lw_p15, fun _ h => absurd h List.not_mem_nil⟩⟩⟩⟩⟩⟩⟩⟩⟩⟩⟩⟩⟩⟩⟩⟩
theorem lw_p16 : lw_okq (⟨"CrossesAllOld$Plan", "lampsAt", "(IZ)I"⟩, 9) := ⟨⟨by decide +kernel, by decide +kernel⟩, List.mem_of_getElem? (i := 72) (by decide +kernel), List.mem_of_getElem? (i := 406) (by decide +kernel), List.mem_of_getElem? (i := 407) (by decide +kernel)⟩
theorem lw_p17 : lw_okq (⟨"CrossesAllOld", "whyNoNewLine", "(III)I"⟩, 9) := ⟨⟨by decide +kernel, by decide +kernel⟩, List.mem_of_getElem? (i := 16) (by decide +kernel), List.mem_of_getElem? (i := 522) (by decide +kernel), List.mem_of_getElem? (i := 523) (by decide +kernel)⟩
theorem lw_p18 : lw_okq (⟨"CrossesAllOld", "whyNoLine", "(III)I"⟩, 9) := ⟨⟨by decide +kernel, by decide +kernel⟩, List.mem_of_getElem? (i := 16) (by decide +kernel), List.mem_of_getElem? (i := 526) (by decide +kernel), List.mem_of_getElem? (i := 527) (by decide +kernel)⟩
theorem lw_p19 : lw_okq (⟨"CrossesAllOld", "fearedLines", "(III)I"⟩, 9) := ⟨⟨by decide +kernel, by decide +kernel⟩, List.mem_of_getElem? (i := 16) (by decide +kernel), List.mem_of_getElem? (i := 562) (by decide +kernel), List.mem_of_getElem? (i := 563) (by decide +kernel)⟩
theorem lw_p20 : lw_okq (⟨"CrossesAllOld", "dearestStreet", "()I"⟩, 9) := ⟨⟨by decide +kernel, by decide +kernel⟩, List.mem_of_getElem? (i := 16) (by decide +kernel), List.mem_of_getElem? (i := 570) (by decide +kernel), List.mem_of_getElem? (i := 571) (by decide +kernel)⟩
theorem lw_p21 : lw_okq (⟨"CrossesAllOldModel", "no", "(I)I"⟩, 23) := ⟨⟨by decide +kernel, by decide +kernel⟩, List.mem_of_getElem? (i := 613) (by decide +kernel), List.mem_of_getElem? (i := 694) (by decide +kernel), List.mem_of_getElem? (i := 695) (by decide +kernel)⟩
theorem lw_p22 : lw_okq (⟨"CrossesAllOldModel", "statement", "(Z)I"⟩, 23) := ⟨⟨by decide +kernel, by decide +kernel⟩, List.mem_of_getElem? (i := 613) (by decide +kernel), List.mem_of_getElem? (i := 702) (by decide +kernel), List.mem_of_getElem? (i := 703) (by decide +kernel)⟩
theorem lw_p23 : lw_okq (⟨"CrossesAllOldModel", "is", "(I)Z"⟩, 23) := ⟨⟨by decide +kernel, by decide +kernel⟩, List.mem_of_getElem? (i := 613) (by decide +kernel), List.mem_of_getElem? (i := 706) (by decide +kernel), List.mem_of_getElem? (i := 707) (by decide +kernel)⟩
theorem lw_p24 : lw_okq (⟨"CrossesAllOldModel", "number", "(IZ)Z"⟩, 23) := ⟨⟨by decide +kernel, by decide +kernel⟩, List.mem_of_getElem? (i := 613) (by decide +kernel), List.mem_of_getElem? (i := 710) (by decide +kernel), List.mem_of_getElem? (i := 711) (by decide +kernel)⟩
theorem lw_p25 : lw_okq (⟨"CrossesAllOldModel", "isDigit", "()Z"⟩, 23) := ⟨⟨by decide +kernel, by decide +kernel⟩, List.mem_of_getElem? (i := 613) (by decide +kernel), List.mem_of_getElem? (i := 714) (by decide +kernel), List.mem_of_getElem? (i := 715) (by decide +kernel)⟩
theorem lw_p26 : lw_okq (⟨"CrossesAllOldModel", "isDirection", "(III)Z"⟩, 23) := ⟨⟨by decide +kernel, by decide +kernel⟩, List.mem_of_getElem? (i := 613) (by decide +kernel), List.mem_of_getElem? (i := 723) (by decide +kernel), List.mem_of_getElem? (i := 724) (by decide +kernel)⟩
theorem lw_p27 : lw_okq (⟨"CrossesAllOldModel", "keep", "([I)V"⟩, 23) := ⟨⟨by decide +kernel, by decide +kernel⟩, List.mem_of_getElem? (i := 613) (by decide +kernel), List.mem_of_getElem? (i := 727) (by decide +kernel), List.mem_of_getElem? (i := 728) (by decide +kernel)⟩
theorem lw_p28 : lw_okq (⟨"CrossesAllOldModel", "again", "([I)V"⟩, 23) := ⟨⟨by decide +kernel, by decide +kernel⟩, List.mem_of_getElem? (i := 613) (by decide +kernel), List.mem_of_getElem? (i := 731) (by decide +kernel), List.mem_of_getElem? (i := 732) (by decide +kernel)⟩
theorem lw_p29 : lw_okq (⟨"CrossesAllOldModel", "isStreet", "(I)Z"⟩, 23) := ⟨⟨by decide +kernel, by decide +kernel⟩, List.mem_of_getElem? (i := 613) (by decide +kernel), List.mem_of_getElem? (i := 739) (by decide +kernel), List.mem_of_getElem? (i := 740) (by decide +kernel)⟩
theorem lw_p30 : lw_okq (⟨"CrossesAllOldModel", "noFar", "(I)I"⟩, 23) := ⟨⟨by decide +kernel, by decide +kernel⟩, List.mem_of_getElem? (i := 613) (by decide +kernel), List.mem_of_getElem? (i := 743) (by decide +kernel), List.mem_of_getElem? (i := 744) (by decide +kernel)⟩
theorem lw_p31 : lw_okq (⟨"CrossesAllOldModel", "lampsOf", "(I)I"⟩, 23) := ⟨⟨by decide +kernel, by decide +kernel⟩, List.mem_of_getElem? (i := 613) (by decide +kernel), List.mem_of_getElem? (i := 748) (by decide +kernel), List.mem_of_getElem? (i := 749) (by decide +kernel)⟩
def lw_privs_2 : List (MethodName × Nat) := [(⟨"CrossesAllOld$Plan", "lampsAt", "(IZ)I"⟩, 9), (⟨"CrossesAllOld", "whyNoNewLine", "(III)I"⟩, 9), (⟨"CrossesAllOld", "whyNoLine", "(III)I"⟩, 9), (⟨"CrossesAllOld", "fearedLines", "(III)I"⟩, 9), (⟨"CrossesAllOld", "dearestStreet", "()I"⟩, 9), (⟨"CrossesAllOldModel", "no", "(I)I"⟩, 23), (⟨"CrossesAllOldModel", "statement", "(Z)I"⟩, 23), (⟨"CrossesAllOldModel", "is", "(I)Z"⟩, 23), (⟨"CrossesAllOldModel", "number", "(IZ)Z"⟩, 23), (⟨"CrossesAllOldModel", "isDigit", "()Z"⟩, 23), (⟨"CrossesAllOldModel", "isDirection", "(III)Z"⟩, 23), (⟨"CrossesAllOldModel", "keep", "([I)V"⟩, 23), (⟨"CrossesAllOldModel", "again", "([I)V"⟩, 23), (⟨"CrossesAllOldModel", "isStreet", "(I)Z"⟩, 23), (⟨"CrossesAllOldModel", "noFar", "(I)I"⟩, 23), (⟨"CrossesAllOldModel", "lampsOf", "(I)I"⟩, 23)]
theorem lw_r2 : ∀ q ∈ lw_privs_2, lw_okq q := List.forall_mem_cons.mpr ⟨lw_p16, List.forall_mem_cons.mpr ⟨lw_p17, List.forall_mem_cons.mpr ⟨lw_p18, List.forall_mem_cons.mpr ⟨lw_p19, List.forall_mem_cons.mpr ⟨lw_p20, List.forall_mem_cons.mpr ⟨lw_p21, List.forall_mem_cons.mpr ⟨lw_p22, List.forall_mem_cons.mpr ⟨lw_p23, List.forall_mem_cons.mpr ⟨lw_p24, List.forall_mem_cons.mpr ⟨lw_p25, List.forall_mem_cons.mpr ⟨lw_p26, List.forall_mem_cons.mpr ⟨lw_p27, List.forall_mem_cons.mpr ⟨lw_p28, List.forall_mem_cons.mpr ⟨lw_p29, List.forall_mem_cons.mpr ⟨lw_p30, List.forall_mem_cons.mpr ⟨lw_p31, fun _ h => absurd h List.not_mem_nil⟩⟩⟩⟩⟩⟩⟩⟩⟩⟩⟩⟩⟩⟩⟩⟩
theorem lw_p32 : lw_okq (⟨"CrossesAllOldModel", "pointsOf", "(IZ)I"⟩, 23) := ⟨⟨by decide +kernel, by decide +kernel⟩, List.mem_of_getElem? (i := 613) (by decide +kernel), List.mem_of_getElem? (i := 752) (by decide +kernel), List.mem_of_getElem? (i := 753) (by decide +kernel)⟩
theorem lw_p33 : lw_okq (⟨"CrossesAllOldModel", "isFirst", "(II)Z"⟩, 23) := ⟨⟨by decide +kernel, by decide +kernel⟩, List.mem_of_getElem? (i := 613) (by decide +kernel), List.mem_of_getElem? (i := 756) (by decide +kernel), List.mem_of_getElem? (i := 757) (by decide +kernel)⟩
theorem lw_p34 : lw_okq (⟨"CrossesAllOldModel", "sideOfCrossing", "(III)I"⟩, 23) := ⟨⟨by decide +kernel, by decide +kernel⟩, List.mem_of_getElem? (i := 613) (by decide +kernel), List.mem_of_getElem? (i := 760) (by decide +kernel), List.mem_of_getElem? (i := 761) (by decide +kernel)⟩
theorem lw_p35 : lw_okq (⟨"CrossesAllOldModel", "isPlot", "(I)Z"⟩, 23) := ⟨⟨by decide +kernel, by decide +kernel⟩, List.mem_of_getElem? (i := 613) (by decide +kernel), List.mem_of_getElem? (i := 768) (by decide +kernel), List.mem_of_getElem? (i := 769) (by decide +kernel)⟩
theorem lw_p36 : lw_okq (⟨"CrossesAllOldModel", "lay", "(I)V"⟩, 23) := ⟨⟨by decide +kernel, by decide +kernel⟩, List.mem_of_getElem? (i := 613) (by decide +kernel), List.mem_of_getElem? (i := 781) (by decide +kernel), List.mem_of_getElem? (i := 782) (by decide +kernel)⟩
theorem lw_p37 : lw_okq (⟨"CrossesAllOldModel", "along", "(IIZ)I"⟩, 23) := ⟨⟨by decide +kernel, by decide +kernel⟩, List.mem_of_getElem? (i := 613) (by decide +kernel), List.mem_of_getElem? (i := 785) (by decide +kernel), List.mem_of_getElem? (i := 786) (by decide +kernel)⟩
theorem lw_p38 : lw_okq (⟨"CrossesAllOldModel", "isAbout", "(III)Z"⟩, 23) := ⟨⟨by decide +kernel, by decide +kernel⟩, List.mem_of_getElem? (i := 613) (by decide +kernel), List.mem_of_getElem? (i := 791) (by decide +kernel), List.mem_of_getElem? (i := 792) (by decide +kernel)⟩
theorem lw_p39 : lw_okq (⟨"CrossesAllOldModel", "howMany", "()I"⟩, 23) := ⟨⟨by decide +kernel, by decide +kernel⟩, List.mem_of_getElem? (i := 613) (by decide +kernel), List.mem_of_getElem? (i := 798) (by decide +kernel), List.mem_of_getElem? (i := 799) (by decide +kernel)⟩
theorem lw_p40 : lw_okq (⟨"CrossesAllOldModel", "isQuarter", "(I)Z"⟩, 23) := ⟨⟨by decide +kernel, by decide +kernel⟩, List.mem_of_getElem? (i := 613) (by decide +kernel), List.mem_of_getElem? (i := 814) (by decide +kernel), List.mem_of_getElem? (i := 815) (by decide +kernel)⟩
theorem lw_p41 : lw_okq (⟨"CrossesAllOldModel", "sidesOf", "(I)I"⟩, 23) := ⟨⟨by decide +kernel, by decide +kernel⟩, List.mem_of_getElem? (i := 613) (by decide +kernel), List.mem_of_getElem? (i := 822) (by decide +kernel), List.mem_of_getElem? (i := 823) (by decide +kernel)⟩
theorem lw_p42 : lw_okq (⟨"CrossesAllOldModel", "whereIs", "(I)I"⟩, 23) := ⟨⟨by decide +kernel, by decide +kernel⟩, List.mem_of_getElem? (i := 613) (by decide +kernel), List.mem_of_getElem? (i := 846) (by decide +kernel), List.mem_of_getElem? (i := 847) (by decide +kernel)⟩
theorem lw_p43 : lw_okq (⟨"CrossesAllOldModel", "at", "(II)I"⟩, 23) := ⟨⟨by decide +kernel, by decide +kernel⟩, List.mem_of_getElem? (i := 613) (by decide +kernel), List.mem_of_getElem? (i := 850) (by decide +kernel), List.mem_of_getElem? (i := 851) (by decide +kernel)⟩
theorem lw_p44 : lw_okq (⟨"CrossesAllOldModel", "side", "(III)I"⟩, 23) := ⟨⟨by decide +kernel, by decide +kernel⟩, List.mem_of_getElem? (i := 613) (by decide +kernel), List.mem_of_getElem? (i := 854) (by decide +kernel), List.mem_of_getElem? (i := 855) (by decide +kernel)⟩
theorem lw_p45 : lw_okq (⟨"CrossesAllOldModel", "think", "(III)V"⟩, 23) := ⟨⟨by decide +kernel, by decide +kernel⟩, List.mem_of_getElem? (i := 613) (by decide +kernel), List.mem_of_getElem? (i := 870) (by decide +kernel), List.mem_of_getElem? (i := 871) (by decide +kernel)⟩
theorem lw_p46 : lw_okq (⟨"CrossesAllOldModel", "cuts", "(I)Z"⟩, 23) := ⟨⟨by decide +kernel, by decide +kernel⟩, List.mem_of_getElem? (i := 613) (by decide +kernel), List.mem_of_getElem? (i := 874) (by decide +kernel), List.mem_of_getElem? (i := 875) (by decide +kernel)⟩
theorem lw_p47 : lw_okq (⟨"CrossesAllOldModel", "without", "(I)I"⟩, 23) := ⟨⟨by decide +kernel, by decide +kernel⟩, List.mem_of_getElem? (i := 613) (by decide +kernel), List.mem_of_getElem? (i := 898) (by decide +kernel), List.mem_of_getElem? (i := 899) (by decide +kernel)⟩
def lw_privs_3 : List (MethodName × Nat) := [(⟨"CrossesAllOldModel", "pointsOf", "(IZ)I"⟩, 23), (⟨"CrossesAllOldModel", "isFirst", "(II)Z"⟩, 23), (⟨"CrossesAllOldModel", "sideOfCrossing", "(III)I"⟩, 23), (⟨"CrossesAllOldModel", "isPlot", "(I)Z"⟩, 23), (⟨"CrossesAllOldModel", "lay", "(I)V"⟩, 23), (⟨"CrossesAllOldModel", "along", "(IIZ)I"⟩, 23), (⟨"CrossesAllOldModel", "isAbout", "(III)Z"⟩, 23), (⟨"CrossesAllOldModel", "howMany", "()I"⟩, 23), (⟨"CrossesAllOldModel", "isQuarter", "(I)Z"⟩, 23), (⟨"CrossesAllOldModel", "sidesOf", "(I)I"⟩, 23), (⟨"CrossesAllOldModel", "whereIs", "(I)I"⟩, 23), (⟨"CrossesAllOldModel", "at", "(II)I"⟩, 23), (⟨"CrossesAllOldModel", "side", "(III)I"⟩, 23), (⟨"CrossesAllOldModel", "think", "(III)V"⟩, 23), (⟨"CrossesAllOldModel", "cuts", "(I)Z"⟩, 23), (⟨"CrossesAllOldModel", "without", "(I)I"⟩, 23)]
theorem lw_r3 : ∀ q ∈ lw_privs_3, lw_okq q := List.forall_mem_cons.mpr ⟨lw_p32, List.forall_mem_cons.mpr ⟨lw_p33, List.forall_mem_cons.mpr ⟨lw_p34, List.forall_mem_cons.mpr ⟨lw_p35, List.forall_mem_cons.mpr ⟨lw_p36, List.forall_mem_cons.mpr ⟨lw_p37, List.forall_mem_cons.mpr ⟨lw_p38, List.forall_mem_cons.mpr ⟨lw_p39, List.forall_mem_cons.mpr ⟨lw_p40, List.forall_mem_cons.mpr ⟨lw_p41, List.forall_mem_cons.mpr ⟨lw_p42, List.forall_mem_cons.mpr ⟨lw_p43, List.forall_mem_cons.mpr ⟨lw_p44, List.forall_mem_cons.mpr ⟨lw_p45, List.forall_mem_cons.mpr ⟨lw_p46, List.forall_mem_cons.mpr ⟨lw_p47, fun _ h => absurd h List.not_mem_nil⟩⟩⟩⟩⟩⟩⟩⟩⟩⟩⟩⟩⟩⟩⟩⟩
def lw_privs : List (MethodName × Nat) := lw_privs_1 ++ (lw_privs_2 ++ (lw_privs_3))
def lw_tbl : List Cond := k2_sels lw_privs ++ tables_1
theorem lw_privs_ok : ∀ q ∈ lw_privs, lw_okq q := by
  show ∀ q ∈ lw_privs_1 ++ (lw_privs_2 ++ (lw_privs_3)), lw_okq q
  exact List.forall_mem_append.mpr ⟨lw_r1, List.forall_mem_append.mpr ⟨lw_r2, lw_r3⟩⟩
def R_Let : String := "CrossesAllOld$Letters"
def R_Pla : String := "CrossesAllOld$Plan"
def R_Tow : String := "CrossesAllOld$Town"
def R_All : String := "CrossesAllOld"
def R_Mod : String := "CrossesAllOldModel"
def R_Int : String := "java/lang/Integer"
def R_Lng : String := "java/lang/Long"
def R_Str : String := "java/lang/String"
def R_Lat : String := "java/lang/StringLatin1"
def F_Let : u_T := fun k => match k with
  | 0 => ("CrossesAllOld$Letters", "told", "[I", true)
  | 1 => ("CrossesAllOld$Letters", "count", "I", false)
  | 2 => ("CrossesAllOld$Letters", "at", "I", false)
  | 3 => ("CrossesAllOld$Letters", "kind", "I", false)
  | _ => ("CrossesAllOld$Letters", "numbers", "[I", true)
def t_Let : Nat → FieldType := fun k => match k with
  | 0 => .array .int
  | 1 => .int
  | 2 => .int
  | 3 => .int
  | _ => .array .int
theorem n_Let : ∀ a, a < 5 → ∀ b, b < 5 → a ≠ b → (F_Let a).2.1 ≠ (F_Let b).2.1 := by decide +kernel
theorem t_Let_ok : ∀ k, k < 5 → parseFieldDescriptor (F_Let k).2.2.1 = some (t_Let k) := by decide +kernel
def F_Pla : u_T := fun k => match k with
  | 0 => ("CrossesAllOld$Plan", "town", "LCrossesAllOld$Town;", true)
  | 1 => ("CrossesAllOld$Plan", "quarters", "J", false)
  | 2 => ("CrossesAllOld$Plan", "openQuarters", "J", false)
  | 3 => ("CrossesAllOld$Plan", "points", "I", false)
  | 4 => ("CrossesAllOld$Plan", "pointX", "[I", true)
  | 5 => ("CrossesAllOld$Plan", "pointY", "[I", true)
  | 6 => ("CrossesAllOld$Plan", "pointBelow", "[I", true)
  | 7 => ("CrossesAllOld$Plan", "streetsAt", "[I", true)
  | _ => ("CrossesAllOld$Plan", "sidesAt", "[I", true)
def t_Pla : Nat → FieldType := fun k => match k with
  | 0 => .object "CrossesAllOld$Town"
  | 1 => .long
  | 2 => .long
  | 3 => .int
  | 4 => .array .int
  | 5 => .array .int
  | 6 => .array .int
  | 7 => .array .int
  | _ => .array .int
theorem n_Pla : ∀ a, a < 9 → ∀ b, b < 9 → a ≠ b → (F_Pla a).2.1 ≠ (F_Pla b).2.1 := by decide +kernel
theorem t_Pla_ok : ∀ k, k < 9 → parseFieldDescriptor (F_Pla k).2.2.1 = some (t_Pla k) := by decide +kernel
def F_Tow : u_T := fun k => match k with
  | 0 => ("CrossesAllOld$Town", "kind", "[I", true)
  | 1 => ("CrossesAllOld$Town", "a", "[I", true)
  | 2 => ("CrossesAllOld$Town", "b", "[I", true)
  | 3 => ("CrossesAllOld$Town", "c", "[I", true)
  | 4 => ("CrossesAllOld$Town", "streets", "I", false)
  | 5 => ("CrossesAllOld$Town", "x", "[I", true)
  | 6 => ("CrossesAllOld$Town", "y", "[I", true)
  | _ => ("CrossesAllOld$Town", "plots", "I", false)
def t_Tow : Nat → FieldType := fun k => match k with
  | 0 => .array .int
  | 1 => .array .int
  | 2 => .array .int
  | 3 => .array .int
  | 4 => .int
  | 5 => .array .int
  | 6 => .array .int
  | _ => .int
theorem n_Tow : ∀ a, a < 8 → ∀ b, b < 8 → a ≠ b → (F_Tow a).2.1 ≠ (F_Tow b).2.1 := by decide +kernel
theorem t_Tow_ok : ∀ k, k < 8 → parseFieldDescriptor (F_Tow k).2.2.1 = some (t_Tow k) := by decide +kernel
def F_All : u_T := fun k => match k with
  | 0 => ("CrossesAllOld", "now", "LCrossesAllOld$Town;", true)
  | 1 => ("CrossesAllOld", "draft", "LCrossesAllOld$Town;", true)
  | 2 => ("CrossesAllOld", "image", "LCrossesAllOld$Town;", true)
  | 3 => ("CrossesAllOld", "imageTaken", "Z", false)
  | 4 => ("CrossesAllOld", "plan", "LCrossesAllOld$Plan;", true)
  | 5 => ("CrossesAllOld", "letters", "LCrossesAllOld$Letters;", true)
  | 6 => ("CrossesAllOld", "row", "[I", true)
  | 7 => ("CrossesAllOld", "rowLength", "I", false)
  | _ => ("CrossesAllOld", "refusals", "[I", true)
def t_All : Nat → FieldType := fun k => match k with
  | 0 => .object "CrossesAllOld$Town"
  | 1 => .object "CrossesAllOld$Town"
  | 2 => .object "CrossesAllOld$Town"
  | 3 => .boolean
  | 4 => .object "CrossesAllOld$Plan"
  | 5 => .object "CrossesAllOld$Letters"
  | 6 => .array .int
  | 7 => .int
  | _ => .array .int
theorem n_All : ∀ a, a < 9 → ∀ b, b < 9 → a ≠ b → (F_All a).2.1 ≠ (F_All b).2.1 := by decide +kernel
theorem t_All_ok : ∀ k, k < 9 → parseFieldDescriptor (F_All k).2.2.1 = some (t_All k) := by decide +kernel
def F_Mod : u_T := fun k => match k with
  | 0 => ("CrossesAllOldModel", "streets", "I", false)
  | 1 => ("CrossesAllOldModel", "kind", "[I", true)
  | 2 => ("CrossesAllOldModel", "a", "[I", true)
  | 3 => ("CrossesAllOldModel", "b", "[I", true)
  | 4 => ("CrossesAllOldModel", "c", "[I", true)
  | 5 => ("CrossesAllOldModel", "plots", "I", false)
  | 6 => ("CrossesAllOldModel", "x", "[I", true)
  | 7 => ("CrossesAllOldModel", "y", "[I", true)
  | 8 => ("CrossesAllOldModel", "letters", "I", false)
  | 9 => ("CrossesAllOldModel", "letter", "[I", true)
  | 10 => ("CrossesAllOldModel", "at", "I", false)
  | 11 => ("CrossesAllOldModel", "value", "[I", true)
  | 12 => ("CrossesAllOldModel", "inRow", "I", false)
  | 13 => ("CrossesAllOldModel", "row", "[I", true)
  | 14 => ("CrossesAllOldModel", "refusals", "[I", true)
  | 15 => ("CrossesAllOldModel", "imaged", "Z", false)
  | 16 => ("CrossesAllOldModel", "image", "[I", true)
  | 17 => ("CrossesAllOldModel", "ahead", "[I", true)
  | 18 => ("CrossesAllOldModel", "corner", "[I", true)
  | 19 => ("CrossesAllOldModel", "ends", "[Z", true)
  | 20 => ("CrossesAllOldModel", "points", "I", false)
  | 21 => ("CrossesAllOldModel", "squares", "I", false)
  | _ => ("CrossesAllOldModel", "meet", "I", false)
def t_Mod : Nat → FieldType := fun k => match k with
  | 0 => .int
  | 1 => .array .int
  | 2 => .array .int
  | 3 => .array .int
  | 4 => .array .int
  | 5 => .int
  | 6 => .array .int
  | 7 => .array .int
  | 8 => .int
  | 9 => .array .int
  | 10 => .int
  | 11 => .array .int
  | 12 => .int
  | 13 => .array .int
  | 14 => .array .int
  | 15 => .boolean
  | 16 => .array .int
  | 17 => .array .int
  | 18 => .array .int
  | 19 => .array .boolean
  | 20 => .int
  | 21 => .int
  | _ => .int
theorem n_Mod : ∀ a, a < 23 → ∀ b, b < 23 → a ≠ b → (F_Mod a).2.1 ≠ (F_Mod b).2.1 := by decide +kernel
theorem t_Mod_ok : ∀ k, k < 23 → parseFieldDescriptor (F_Mod k).2.2.1 = some (t_Mod k) := by decide +kernel
abbrev b_Let_init : ByteArray := prog_2_method_1_code
def y_Let_init : MethodName := ⟨R_Let, "<init>", "()V"⟩
abbrev b_Let_isFull : ByteArray := prog_2_method_2_code
def y_Let_isFull : MethodName := ⟨R_Let, "isFull", "()Z"⟩
abbrev b_Let_put : ByteArray := prog_2_method_3_code
def y_Let_put : MethodName := ⟨R_Let, "put", "(I)I"⟩
abbrev b_Let_clear : ByteArray := prog_2_method_4_code
def y_Let_clear : MethodName := ⟨R_Let, "clear", "()V"⟩
abbrev b_Let_readInto : ByteArray := prog_2_method_5_code
def y_Let_readInto : MethodName := ⟨R_Let, "readInto", "(LCrossesAllOld$Town;)I"⟩
abbrev b_Let_readAll : ByteArray := prog_2_method_6_code
def y_Let_readAll : MethodName := ⟨R_Let, "readAll", "()I"⟩
abbrev b_Let_putStatement : ByteArray := prog_2_method_7_code
def y_Let_putStatement : MethodName := ⟨R_Let, "putStatement", "(LCrossesAllOld$Town;)Z"⟩
abbrev b_Let_readStatement : ByteArray := prog_2_method_8_code
def y_Let_readStatement : MethodName := ⟨R_Let, "readStatement", "()Z"⟩
abbrev b_Let_readKind : ByteArray := prog_2_method_9_code
def y_Let_readKind : MethodName := ⟨R_Let, "readKind", "()Z"⟩
abbrev b_Let_readNumber : ByteArray := prog_2_method_10_code
def y_Let_readNumber : MethodName := ⟨R_Let, "readNumber", "(II)Z"⟩
abbrev b_Let_takes : ByteArray := prog_2_method_11_code
def y_Let_takes : MethodName := ⟨R_Let, "takes", "(C)Z"⟩
abbrev b_Let_isDigit : ByteArray := prog_2_method_12_code
def y_Let_isDigit : MethodName := ⟨R_Let, "isDigit", "()Z"⟩
abbrev b_Pla_init : ByteArray := prog_3_method_1_code
def y_Pla_init : MethodName := ⟨R_Pla, "<init>", "(LCrossesAllOld$Town;)V"⟩
abbrev b_Pla_measure : ByteArray := prog_3_method_2_code
def y_Pla_measure : MethodName := ⟨R_Pla, "measure", "()V"⟩
abbrev b_Pla_hasQuarter : ByteArray := prog_3_method_3_code
def y_Pla_hasQuarter : MethodName := ⟨R_Pla, "hasQuarter", "(I)Z"⟩
abbrev b_Pla_cornersOf : ByteArray := prog_3_method_4_code
def y_Pla_cornersOf : MethodName := ⟨R_Pla, "cornersOf", "(I)I"⟩
abbrev b_Pla_sidesOf : ByteArray := prog_3_method_5_code
def y_Pla_sidesOf : MethodName := ⟨R_Pla, "sidesOf", "(I)I"⟩
abbrev b_Pla_squares : ByteArray := prog_3_method_6_code
def y_Pla_squares : MethodName := ⟨R_Pla, "squares", "()I"⟩
abbrev b_Pla_mostMeeting : ByteArray := prog_3_method_7_code
def y_Pla_mostMeeting : MethodName := ⟨R_Pla, "mostMeeting", "()I"⟩
abbrev b_Pla_pointsOn : ByteArray := prog_3_method_8_code
def y_Pla_pointsOn : MethodName := ⟨R_Pla, "pointsOn", "(III)I"⟩
abbrev b_Pla_lampsFrom : ByteArray := prog_3_method_9_code
def y_Pla_lampsFrom : MethodName := ⟨R_Pla, "lampsFrom", "(I)I"⟩
abbrev b_Pla_quarterOfPlot : ByteArray := prog_3_method_10_code
def y_Pla_quarterOfPlot : MethodName := ⟨R_Pla, "quarterOfPlot", "(I)I"⟩
abbrev b_Pla_quarterAt : ByteArray := prog_3_method_11_code
def y_Pla_quarterAt : MethodName := ⟨R_Pla, "quarterAt", "(II)I"⟩
abbrev b_Pla_quartersWithPlots : ByteArray := prog_3_method_12_code
def y_Pla_quartersWithPlots : MethodName := ⟨R_Pla, "quartersWithPlots", "()J"⟩
abbrev b_Pla_quartersWithout : ByteArray := prog_3_method_13_code
def y_Pla_quartersWithout : MethodName := ⟨R_Pla, "quartersWithout", "(I)I"⟩
abbrev b_Pla_cutBy : ByteArray := prog_3_method_14_code
def y_Pla_cutBy : MethodName := ⟨R_Pla, "cutBy", "(III)J"⟩
abbrev b_Pla_measurePoints : ByteArray := prog_3_method_15_code
def y_Pla_measurePoints : MethodName := ⟨R_Pla, "measurePoints", "()V"⟩
abbrev b_Pla_measureQuarters : ByteArray := prog_3_method_16_code
def y_Pla_measureQuarters : MethodName := ⟨R_Pla, "measureQuarters", "()V"⟩
abbrev b_Pla_onBothSides : ByteArray := prog_3_method_17_code
def y_Pla_onBothSides : MethodName := ⟨R_Pla, "onBothSides", "(JI)J"⟩
abbrev b_Pla_isSquare : ByteArray := prog_3_method_18_code
def y_Pla_isSquare : MethodName := ⟨R_Pla, "isSquare", "(I)Z"⟩
abbrev b_Pla_lampsAt : ByteArray := prog_3_method_19_code
def y_Pla_lampsAt : MethodName := ⟨R_Pla, "lampsAt", "(IZ)I"⟩
abbrev b_Pla_height : ByteArray := prog_3_method_20_code
def y_Pla_height : MethodName := ⟨R_Pla, "height", "(IIII)I"⟩
abbrev b_Pla_sidesOfPoint : ByteArray := prog_3_method_21_code
def y_Pla_sidesOfPoint : MethodName := ⟨R_Pla, "sidesOfPoint", "(III)I"⟩
abbrev b_Pla_streetsThrough : ByteArray := prog_3_method_22_code
def y_Pla_streetsThrough : MethodName := ⟨R_Pla, "streetsThrough", "(III)I"⟩
abbrev b_Pla_sidesFar : ByteArray := prog_3_method_23_code
def y_Pla_sidesFar : MethodName := ⟨R_Pla, "sidesFar", "(III)I"⟩
abbrev b_Tow_init : ByteArray := prog_4_method_1_code
def y_Tow_init : MethodName := ⟨R_Tow, "<init>", "()V"⟩
abbrev b_Tow_hasStreet : ByteArray := prog_4_method_2_code
def y_Tow_hasStreet : MethodName := ⟨R_Tow, "hasStreet", "(I)Z"⟩
abbrev b_Tow_hasPlot : ByteArray := prog_4_method_3_code
def y_Tow_hasPlot : MethodName := ⟨R_Tow, "hasPlot", "(I)Z"⟩
abbrev b_Tow_hasDirection : ByteArray := prog_4_method_4_code
def y_Tow_hasDirection : MethodName := ⟨R_Tow, "hasDirection", "(II)Z"⟩
abbrev b_Tow_hasPlotOn : ByteArray := prog_4_method_5_code
def y_Tow_hasPlotOn : MethodName := ⟨R_Tow, "hasPlotOn", "(III)Z"⟩
abbrev b_Tow_putStreet : ByteArray := prog_4_method_6_code
def y_Tow_putStreet : MethodName := ⟨R_Tow, "putStreet", "(IIII)Z"⟩
abbrev b_Tow_putPlot : ByteArray := prog_4_method_7_code
def y_Tow_putPlot : MethodName := ⟨R_Tow, "putPlot", "(II)Z"⟩
abbrev b_Tow_copyFrom : ByteArray := prog_4_method_8_code
def y_Tow_copyFrom : MethodName := ⟨R_Tow, "copyFrom", "(LCrossesAllOld$Town;)V"⟩
abbrev b_Tow_turn : ByteArray := prog_4_method_9_code
def y_Tow_turn : MethodName := ⟨R_Tow, "turn", "(III)I"⟩
abbrev b_Tow_crossingBelow : ByteArray := prog_4_method_10_code
def y_Tow_crossingBelow : MethodName := ⟨R_Tow, "crossingBelow", "(II)I"⟩
abbrev b_Tow_crossingX : ByteArray := prog_4_method_11_code
def y_Tow_crossingX : MethodName := ⟨R_Tow, "crossingX", "(II)I"⟩
abbrev b_Tow_crossingY : ByteArray := prog_4_method_12_code
def y_Tow_crossingY : MethodName := ⟨R_Tow, "crossingY", "(II)I"⟩
abbrev b_All_init : ByteArray := prog_1_method_1_code
def y_All_init : MethodName := ⟨R_All, "<init>", "()V"⟩
abbrev b_All_letter : ByteArray := prog_1_method_2_code
def y_All_letter : MethodName := ⟨R_All, "letter", "(I)I"⟩
abbrev b_All_town : ByteArray := prog_1_method_3_code
def y_All_town : MethodName := ⟨R_All, "town", "()I"⟩
abbrev b_All_street : ByteArray := prog_1_method_4_code
def y_All_street : MethodName := ⟨R_All, "street", "(II)I"⟩
abbrev b_All_plot : ByteArray := prog_1_method_5_code
def y_All_plot : MethodName := ⟨R_All, "plot", "(II)I"⟩
abbrev b_All_crossing : ByteArray := prog_1_method_6_code
def y_All_crossing : MethodName := ⟨R_All, "crossing", "(III)I"⟩
abbrev b_All_quarters : ByteArray := prog_1_method_7_code
def y_All_quarters : MethodName := ⟨R_All, "quarters", "()I"⟩
abbrev b_All_open : ByteArray := prog_1_method_8_code
def y_All_open : MethodName := ⟨R_All, "open", "()I"⟩
abbrev b_All_with : ByteArray := prog_1_method_9_code
def y_All_with : MethodName := ⟨R_All, "with", "(I)I"⟩
abbrev b_All_corners : ByteArray := prog_1_method_10_code
def y_All_corners : MethodName := ⟨R_All, "corners", "(I)I"⟩
abbrev b_All_sides : ByteArray := prog_1_method_11_code
def y_All_sides : MethodName := ⟨R_All, "sides", "(I)I"⟩
abbrev b_All_isOpen : ByteArray := prog_1_method_12_code
def y_All_isOpen : MethodName := ⟨R_All, "isOpen", "(I)I"⟩
abbrev b_All_whole : ByteArray := prog_1_method_13_code
def y_All_whole : MethodName := ⟨R_All, "whole", "()I"⟩
abbrev b_All_points : ByteArray := prog_1_method_14_code
def y_All_points : MethodName := ⟨R_All, "points", "(I)I"⟩
abbrev b_All_lamps : ByteArray := prog_1_method_15_code
def y_All_lamps : MethodName := ⟨R_All, "lamps", "()I"⟩
abbrev b_All_where : ByteArray := prog_1_method_16_code
def y_All_where : MethodName := ⟨R_All, "where", "(I)I"⟩
abbrev b_All_together : ByteArray := prog_1_method_17_code
def y_All_together : MethodName := ⟨R_All, "together", "(I)I"⟩
abbrev b_All_steps : ByteArray := prog_1_method_18_code
def y_All_steps : MethodName := ⟨R_All, "steps", "(II)I"⟩
abbrev b_All_next : ByteArray := prog_1_method_19_code
def y_All_next : MethodName := ⟨R_All, "next", "(IIII)I"⟩
abbrev b_All_through : ByteArray := prog_1_method_20_code
def y_All_through : MethodName := ⟨R_All, "through", "(III)I"⟩
abbrev b_All_spare : ByteArray := prog_1_method_21_code
def y_All_spare : MethodName := ⟨R_All, "spare", "(II)I"⟩
abbrev b_All_most : ByteArray := prog_1_method_22_code
def y_All_most : MethodName := ⟨R_All, "most", "(II)I"⟩
abbrev b_All_fear : ByteArray := prog_1_method_23_code
def y_All_fear : MethodName := ⟨R_All, "fear", "(II)I"⟩
abbrev b_All_taken : ByteArray := prog_1_method_24_code
def y_All_taken : MethodName := ⟨R_All, "taken", "(I)I"⟩
abbrev b_All_row : ByteArray := prog_1_method_25_code
def y_All_row : MethodName := ⟨R_All, "row", "(I)I"⟩
abbrev b_All_judge : ByteArray := prog_1_method_26_code
def y_All_judge : MethodName := ⟨R_All, "judge", "()I"⟩
abbrev b_All_seeds : ByteArray := prog_1_method_27_code
def y_All_seeds : MethodName := ⟨R_All, "seeds", "(II)I"⟩
abbrev b_All_image : ByteArray := prog_1_method_28_code
def y_All_image : MethodName := ⟨R_All, "image", "()I"⟩
abbrev b_All_on : ByteArray := prog_1_method_29_code
def y_All_on : MethodName := ⟨R_All, "on", "()I"⟩
abbrev b_All_count : ByteArray := prog_1_method_30_code
def y_All_count : MethodName := ⟨R_All, "count", "(I)I"⟩
abbrev b_All_refuse : ByteArray := prog_1_method_31_code
def y_All_refuse : MethodName := ⟨R_All, "refuse", "(I)I"⟩
abbrev b_All_refuseFar : ByteArray := prog_1_method_32_code
def y_All_refuseFar : MethodName := ⟨R_All, "refuseFar", "(I)I"⟩
abbrev b_All_whyNoLine : ByteArray := prog_1_method_33_code
def y_All_whyNoLine : MethodName := ⟨R_All, "whyNoLine", "(III)I"⟩
abbrev b_All_whyNoNewLine : ByteArray := prog_1_method_34_code
def y_All_whyNoNewLine : MethodName := ⟨R_All, "whyNoNewLine", "(III)I"⟩
abbrev b_All_fearedLines : ByteArray := prog_1_method_35_code
def y_All_fearedLines : MethodName := ⟨R_All, "fearedLines", "(III)I"⟩
abbrev b_All_dearestStreet : ByteArray := prog_1_method_36_code
def y_All_dearestStreet : MethodName := ⟨R_All, "dearestStreet", "()I"⟩
abbrev b_All_seedAfter : ByteArray := prog_1_method_37_code
def y_All_seedAfter : MethodName := ⟨R_All, "seedAfter", "(I)I"⟩
abbrev b_All_placeDrawn : ByteArray := prog_1_method_38_code
def y_All_placeDrawn : MethodName := ⟨R_All, "placeDrawn", "(I)I"⟩
abbrev b_All_has : ByteArray := prog_1_method_39_code
def y_All_has : MethodName := ⟨R_All, "has", "(JI)Z"⟩
abbrev b_All_cancelled : ByteArray := prog_1_method_40_code
def y_All_cancelled : MethodName := ⟨R_All, "cancelled", "(III)I"⟩
abbrev b_Mod_init : ByteArray := prog_6_method_1_code
def y_Mod_init : MethodName := ⟨R_Mod, "<init>", "()V"⟩
abbrev b_Mod_no : ByteArray := prog_6_method_2_code
def y_Mod_no : MethodName := ⟨R_Mod, "no", "(I)I"⟩
abbrev b_Mod_noFar : ByteArray := prog_6_method_3_code
def y_Mod_noFar : MethodName := ⟨R_Mod, "noFar", "(I)I"⟩
abbrev b_Mod_within : ByteArray := prog_6_method_4_code
def y_Mod_within : MethodName := ⟨R_Mod, "within", "(III)Z"⟩
abbrev b_Mod_has : ByteArray := prog_6_method_5_code
def y_Mod_has : MethodName := ⟨R_Mod, "has", "(II)Z"⟩
abbrev b_Mod_isStreet : ByteArray := prog_6_method_6_code
def y_Mod_isStreet : MethodName := ⟨R_Mod, "isStreet", "(I)Z"⟩
abbrev b_Mod_isPlot : ByteArray := prog_6_method_7_code
def y_Mod_isPlot : MethodName := ⟨R_Mod, "isPlot", "(I)Z"⟩
abbrev b_Mod_isDirection : ByteArray := prog_6_method_8_code
def y_Mod_isDirection : MethodName := ⟨R_Mod, "isDirection", "(III)Z"⟩
abbrev b_Mod_letter : ByteArray := prog_6_method_9_code
def y_Mod_letter : MethodName := ⟨R_Mod, "letter", "(I)I"⟩
abbrev b_Mod_is : ByteArray := prog_6_method_10_code
def y_Mod_is : MethodName := ⟨R_Mod, "is", "(I)Z"⟩
abbrev b_Mod_isDigit : ByteArray := prog_6_method_11_code
def y_Mod_isDigit : MethodName := ⟨R_Mod, "isDigit", "()Z"⟩
abbrev b_Mod_number : ByteArray := prog_6_method_12_code
def y_Mod_number : MethodName := ⟨R_Mod, "number", "(IZ)Z"⟩
abbrev b_Mod_statement : ByteArray := prog_6_method_13_code
def y_Mod_statement : MethodName := ⟨R_Mod, "statement", "(Z)I"⟩
abbrev b_Mod_town : ByteArray := prog_6_method_14_code
def y_Mod_town : MethodName := ⟨R_Mod, "town", "()I"⟩
abbrev b_Mod_side : ByteArray := prog_6_method_15_code
def y_Mod_side : MethodName := ⟨R_Mod, "side", "(III)I"⟩
abbrev b_Mod_sideOfCrossing : ByteArray := prog_6_method_16_code
def y_Mod_sideOfCrossing : MethodName := ⟨R_Mod, "sideOfCrossing", "(III)I"⟩
abbrev b_Mod_isFirst : ByteArray := prog_6_method_17_code
def y_Mod_isFirst : MethodName := ⟨R_Mod, "isFirst", "(II)Z"⟩
abbrev b_Mod_along : ByteArray := prog_6_method_18_code
def y_Mod_along : MethodName := ⟨R_Mod, "along", "(IIZ)I"⟩
abbrev b_Mod_lay : ByteArray := prog_6_method_19_code
def y_Mod_lay : MethodName := ⟨R_Mod, "lay", "(I)V"⟩
abbrev b_Mod_isAbout : ByteArray := prog_6_method_20_code
def y_Mod_isAbout : MethodName := ⟨R_Mod, "isAbout", "(III)Z"⟩
abbrev b_Mod_isQuarter : ByteArray := prog_6_method_21_code
def y_Mod_isQuarter : MethodName := ⟨R_Mod, "isQuarter", "(I)Z"⟩
abbrev b_Mod_howMany : ByteArray := prog_6_method_22_code
def y_Mod_howMany : MethodName := ⟨R_Mod, "howMany", "()I"⟩
abbrev b_Mod_pointsOf : ByteArray := prog_6_method_23_code
def y_Mod_pointsOf : MethodName := ⟨R_Mod, "pointsOf", "(IZ)I"⟩
abbrev b_Mod_lampsOf : ByteArray := prog_6_method_24_code
def y_Mod_lampsOf : MethodName := ⟨R_Mod, "lampsOf", "(I)I"⟩
abbrev b_Mod_street : ByteArray := prog_6_method_25_code
def y_Mod_street : MethodName := ⟨R_Mod, "street", "(II)I"⟩
abbrev b_Mod_plot : ByteArray := prog_6_method_26_code
def y_Mod_plot : MethodName := ⟨R_Mod, "plot", "(II)I"⟩
abbrev b_Mod_crossing : ByteArray := prog_6_method_27_code
def y_Mod_crossing : MethodName := ⟨R_Mod, "crossing", "(III)I"⟩
abbrev b_Mod_quarters : ByteArray := prog_6_method_28_code
def y_Mod_quarters : MethodName := ⟨R_Mod, "quarters", "()I"⟩
abbrev b_Mod_open : ByteArray := prog_6_method_29_code
def y_Mod_open : MethodName := ⟨R_Mod, "open", "()I"⟩
abbrev b_Mod_with : ByteArray := prog_6_method_30_code
def y_Mod_with : MethodName := ⟨R_Mod, "with", "(I)I"⟩
abbrev b_Mod_corners : ByteArray := prog_6_method_31_code
def y_Mod_corners : MethodName := ⟨R_Mod, "corners", "(I)I"⟩
abbrev b_Mod_sidesOf : ByteArray := prog_6_method_32_code
def y_Mod_sidesOf : MethodName := ⟨R_Mod, "sidesOf", "(I)I"⟩
abbrev b_Mod_sides : ByteArray := prog_6_method_33_code
def y_Mod_sides : MethodName := ⟨R_Mod, "sides", "(I)I"⟩
abbrev b_Mod_isOpen : ByteArray := prog_6_method_34_code
def y_Mod_isOpen : MethodName := ⟨R_Mod, "isOpen", "(I)I"⟩
abbrev b_Mod_whole : ByteArray := prog_6_method_35_code
def y_Mod_whole : MethodName := ⟨R_Mod, "whole", "()I"⟩
abbrev b_Mod_points : ByteArray := prog_6_method_36_code
def y_Mod_points : MethodName := ⟨R_Mod, "points", "(I)I"⟩
abbrev b_Mod_lamps : ByteArray := prog_6_method_37_code
def y_Mod_lamps : MethodName := ⟨R_Mod, "lamps", "()I"⟩
abbrev b_Mod_at : ByteArray := prog_6_method_38_code
def y_Mod_at : MethodName := ⟨R_Mod, "at", "(II)I"⟩
abbrev b_Mod_whereIs : ByteArray := prog_6_method_39_code
def y_Mod_whereIs : MethodName := ⟨R_Mod, "whereIs", "(I)I"⟩
abbrev b_Mod_where : ByteArray := prog_6_method_40_code
def y_Mod_where : MethodName := ⟨R_Mod, "where", "(I)I"⟩
abbrev b_Mod_together : ByteArray := prog_6_method_41_code
def y_Mod_together : MethodName := ⟨R_Mod, "together", "(I)I"⟩
abbrev b_Mod_steps : ByteArray := prog_6_method_42_code
def y_Mod_steps : MethodName := ⟨R_Mod, "steps", "(II)I"⟩
abbrev b_Mod_think : ByteArray := prog_6_method_43_code
def y_Mod_think : MethodName := ⟨R_Mod, "think", "(III)V"⟩
abbrev b_Mod_cuts : ByteArray := prog_6_method_44_code
def y_Mod_cuts : MethodName := ⟨R_Mod, "cuts", "(I)Z"⟩
abbrev b_Mod_next : ByteArray := prog_6_method_45_code
def y_Mod_next : MethodName := ⟨R_Mod, "next", "(IIII)I"⟩
abbrev b_Mod_through : ByteArray := prog_6_method_46_code
def y_Mod_through : MethodName := ⟨R_Mod, "through", "(III)I"⟩
abbrev b_Mod_spare : ByteArray := prog_6_method_47_code
def y_Mod_spare : MethodName := ⟨R_Mod, "spare", "(II)I"⟩
abbrev b_Mod_most : ByteArray := prog_6_method_48_code
def y_Mod_most : MethodName := ⟨R_Mod, "most", "(II)I"⟩
abbrev b_Mod_fear : ByteArray := prog_6_method_49_code
def y_Mod_fear : MethodName := ⟨R_Mod, "fear", "(II)I"⟩
abbrev b_Mod_without : ByteArray := prog_6_method_50_code
def y_Mod_without : MethodName := ⟨R_Mod, "without", "(I)I"⟩
abbrev b_Mod_taken : ByteArray := prog_6_method_51_code
def y_Mod_taken : MethodName := ⟨R_Mod, "taken", "(I)I"⟩
abbrev b_Mod_row : ByteArray := prog_6_method_52_code
def y_Mod_row : MethodName := ⟨R_Mod, "row", "(I)I"⟩
abbrev b_Mod_judge : ByteArray := prog_6_method_53_code
def y_Mod_judge : MethodName := ⟨R_Mod, "judge", "()I"⟩
abbrev b_Mod_seeds : ByteArray := prog_6_method_54_code
def y_Mod_seeds : MethodName := ⟨R_Mod, "seeds", "(II)I"⟩
abbrev b_Mod_keep : ByteArray := prog_6_method_55_code
def y_Mod_keep : MethodName := ⟨R_Mod, "keep", "([I)V"⟩
abbrev b_Mod_again : ByteArray := prog_6_method_56_code
def y_Mod_again : MethodName := ⟨R_Mod, "again", "([I)V"⟩
abbrev b_Mod_image : ByteArray := prog_6_method_57_code
def y_Mod_image : MethodName := ⟨R_Mod, "image", "()I"⟩
abbrev b_Mod_on : ByteArray := prog_6_method_58_code
def y_Mod_on : MethodName := ⟨R_Mod, "on", "()I"⟩
abbrev b_Mod_count : ByteArray := prog_6_method_59_code
def y_Mod_count : MethodName := ⟨R_Mod, "count", "(I)I"⟩
abbrev b_Int_bitCount : ByteArray := prog_8_method_49_code
def y_Int_bitCount : MethodName := ⟨R_Int, "bitCount", "(I)I"⟩
abbrev b_Lng_bitCount : ByteArray := prog_9_method_50_code
def y_Lng_bitCount : MethodName := ⟨R_Lng, "bitCount", "(J)I"⟩
abbrev b_Str_length : ByteArray := prog_11_method_54_code
def y_Str_length : MethodName := ⟨R_Str, "length", "()I"⟩
abbrev b_Str_indexOf1 : ByteArray := prog_11_method_79_code
def y_Str_indexOf1 : MethodName := ⟨R_Str, "indexOf", "(I)I"⟩
abbrev b_Str_indexOf2 : ByteArray := prog_11_method_80_code
def y_Str_indexOf2 : MethodName := ⟨R_Str, "indexOf", "(II)I"⟩
abbrev b_Str_coder : ByteArray := prog_11_method_152_code
def y_Str_coder : MethodName := ⟨R_Str, "coder", "()B"⟩
abbrev b_Str_isLatin1 : ByteArray := prog_11_method_154_code
def y_Str_isLatin1 : MethodName := ⟨R_Str, "isLatin1", "()Z"⟩
abbrev b_Str_checkBoundsBeginEnd : ByteArray := prog_11_method_158_code
def y_Str_checkBoundsBeginEnd : MethodName := ⟨R_Str, "checkBoundsBeginEnd", "(III)V"⟩
abbrev b_Lat_canEncode : ByteArray := prog_12_method_4_code
def y_Lat_canEncode : MethodName := ⟨R_Lat, "canEncode", "(I)Z"⟩
abbrev b_Lat_indexOf : ByteArray := prog_12_method_22_code
def y_Lat_indexOf : MethodName := ⟨R_Lat, "indexOf", "([BIII)I"⟩
abbrev b_Lat_indexOfChar : ByteArray := prog_12_method_23_code
def y_Lat_indexOfChar : MethodName := ⟨R_Lat, "indexOfChar", "([BIII)I"⟩
abbrev classes : List vw_C := [(R_Let, F_Let, 5), (R_Pla, F_Pla, 9), (R_Tow, F_Tow, 8), (R_All, F_All, 9), (R_Mod, F_Mod, 23)]
def gd_tbl : List Cond := lw_tbl.filter goodWord
theorem good_tbl : ∀ w ∈ gd_tbl, w ∈ lw_tbl ∧ goodWord w = true := fun w h => List.mem_filter.mp h
theorem i_Let : ∀ w ∈ u_ws R_Let F_Let 5, w ∈ gd_tbl := by decide +kernel
theorem i_Pla : ∀ w ∈ u_ws R_Pla F_Pla 9, w ∈ gd_tbl := by decide +kernel
theorem i_Tow : ∀ w ∈ u_ws R_Tow F_Tow 8, w ∈ gd_tbl := by decide +kernel
theorem i_All : ∀ w ∈ u_ws R_All F_All 9, w ∈ gd_tbl := by decide +kernel
theorem i_Mod : ∀ w ∈ u_ws R_Mod F_Mod 23, w ∈ gd_tbl := by decide +kernel
