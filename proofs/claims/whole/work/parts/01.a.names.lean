-- ===== PART A: goes FIRST, ahead of the names: the tables' words, and 'selects' of the private methods out of them =====
/-- a private method of a class that the tables say can be made, by its rows of tables_1 -/
def lw_okq (q : MethodName × Nat) : Prop := (q.1.cls ≠ "java/lang/invoke/MethodHandle" ∧ q.1.cls ≠ "java/lang/invoke/VarHandle") ∧ Cond.instantiable q.1.cls q.2 ∈ tables_1 ∧ Cond.privateMethod q.1 ∈ tables_1 ∧ Cond.instanceMethod q.1 ∈ tables_1
theorem lw_p0 : lw_okq (⟨"WishMeter", "bad", "()I"⟩, 9) := ⟨⟨by decide +kernel, by decide +kernel⟩, List.mem_of_getElem? (i := 10) (by decide +kernel), List.mem_of_getElem? (i := 208) (by decide +kernel), List.mem_of_getElem? (i := 209) (by decide +kernel)⟩
theorem lw_p1 : lw_okq (⟨"WishMeter", "full", "()I"⟩, 9) := ⟨⟨by decide +kernel, by decide +kernel⟩, List.mem_of_getElem? (i := 10) (by decide +kernel), List.mem_of_getElem? (i := 223) (by decide +kernel), List.mem_of_getElem? (i := 224) (by decide +kernel)⟩
theorem lw_p2 : lw_okq (⟨"WishMeter$Reader", "step", "()V"⟩, 7) := ⟨⟨by decide +kernel, by decide +kernel⟩, List.mem_of_getElem? (i := 136) (by decide +kernel), List.mem_of_getElem? (i := 252) (by decide +kernel), List.mem_of_getElem? (i := 253) (by decide +kernel)⟩
theorem lw_p3 : lw_okq (⟨"WishMeter$Reader", "takeWord", "()V"⟩, 7) := ⟨⟨by decide +kernel, by decide +kernel⟩, List.mem_of_getElem? (i := 136) (by decide +kernel), List.mem_of_getElem? (i := 259) (by decide +kernel), List.mem_of_getElem? (i := 260) (by decide +kernel)⟩
theorem lw_p4 : lw_okq (⟨"WishMeter$Reader", "takeNumber", "()V"⟩, 7) := ⟨⟨by decide +kernel, by decide +kernel⟩, List.mem_of_getElem? (i := 136) (by decide +kernel), List.mem_of_getElem? (i := 266) (by decide +kernel), List.mem_of_getElem? (i := 267) (by decide +kernel)⟩
theorem lw_p5 : lw_okq (⟨"WishMeter$Reader", "takeSign", "()V"⟩, 7) := ⟨⟨by decide +kernel, by decide +kernel⟩, List.mem_of_getElem? (i := 136) (by decide +kernel), List.mem_of_getElem? (i := 270) (by decide +kernel), List.mem_of_getElem? (i := 271) (by decide +kernel)⟩
theorem lw_p6 : lw_okq (⟨"WishMeter$Reader", "mainItem", "()Z"⟩, 7) := ⟨⟨by decide +kernel, by decide +kernel⟩, List.mem_of_getElem? (i := 136) (by decide +kernel), List.mem_of_getElem? (i := 274) (by decide +kernel), List.mem_of_getElem? (i := 275) (by decide +kernel)⟩
theorem lw_p7 : lw_okq (⟨"WishMeter$Reader", "isNumber", "(II)Z"⟩, 7) := ⟨⟨by decide +kernel, by decide +kernel⟩, List.mem_of_getElem? (i := 136) (by decide +kernel), List.mem_of_getElem? (i := 278) (by decide +kernel), List.mem_of_getElem? (i := 279) (by decide +kernel)⟩
theorem lw_p8 : lw_okq (⟨"WishMeter$Reader", "semicolon", "()Z"⟩, 7) := ⟨⟨by decide +kernel, by decide +kernel⟩, List.mem_of_getElem? (i := 136) (by decide +kernel), List.mem_of_getElem? (i := 282) (by decide +kernel), List.mem_of_getElem? (i := 283) (by decide +kernel)⟩
theorem lw_p9 : lw_okq (⟨"WishMeter$Reader", "wellItem", "()Z"⟩, 7) := ⟨⟨by decide +kernel, by decide +kernel⟩, List.mem_of_getElem? (i := 136) (by decide +kernel), List.mem_of_getElem? (i := 286) (by decide +kernel), List.mem_of_getElem? (i := 287) (by decide +kernel)⟩
theorem lw_p10 : lw_okq (⟨"WishMeter$Reader", "readHours", "()I"⟩, 7) := ⟨⟨by decide +kernel, by decide +kernel⟩, List.mem_of_getElem? (i := 136) (by decide +kernel), List.mem_of_getElem? (i := 290) (by decide +kernel), List.mem_of_getElem? (i := 291) (by decide +kernel)⟩
theorem lw_p11 : lw_okq (⟨"WishMeter$Reader", "turnItem", "()Z"⟩, 7) := ⟨⟨by decide +kernel, by decide +kernel⟩, List.mem_of_getElem? (i := 136) (by decide +kernel), List.mem_of_getElem? (i := 295) (by decide +kernel), List.mem_of_getElem? (i := 296) (by decide +kernel)⟩
theorem lw_p12 : lw_okq (⟨"WishMeter$Reader", "dayItem", "()Z"⟩, 7) := ⟨⟨by decide +kernel, by decide +kernel⟩, List.mem_of_getElem? (i := 136) (by decide +kernel), List.mem_of_getElem? (i := 299) (by decide +kernel), List.mem_of_getElem? (i := 300) (by decide +kernel)⟩
theorem lw_p13 : lw_okq (⟨"WishMeter", "no", "()I"⟩, 9) := ⟨⟨by decide +kernel, by decide +kernel⟩, List.mem_of_getElem? (i := 10) (by decide +kernel), List.mem_of_getElem? (i := 364) (by decide +kernel), List.mem_of_getElem? (i := 365) (by decide +kernel)⟩
theorem lw_p14 : lw_okq (⟨"WishMeter", "dailyOfOne", "(II)I"⟩, 9) := ⟨⟨by decide +kernel, by decide +kernel⟩, List.mem_of_getElem? (i := 10) (by decide +kernel), List.mem_of_getElem? (i := 389) (by decide +kernel), List.mem_of_getElem? (i := 390) (by decide +kernel)⟩
theorem lw_p15 : lw_okq (⟨"WishMeter", "badHere", "()I"⟩, 9) := ⟨⟨by decide +kernel, by decide +kernel⟩, List.mem_of_getElem? (i := 10) (by decide +kernel), List.mem_of_getElem? (i := 413) (by decide +kernel), List.mem_of_getElem? (i := 414) (by decide +kernel)⟩
def lw_privs_1 : List (MethodName × Nat) := [(⟨"WishMeter", "bad", "()I"⟩, 9), (⟨"WishMeter", "full", "()I"⟩, 9), (⟨"WishMeter$Reader", "step", "()V"⟩, 7), (⟨"WishMeter$Reader", "takeWord", "()V"⟩, 7), (⟨"WishMeter$Reader", "takeNumber", "()V"⟩, 7), (⟨"WishMeter$Reader", "takeSign", "()V"⟩, 7), (⟨"WishMeter$Reader", "mainItem", "()Z"⟩, 7), (⟨"WishMeter$Reader", "isNumber", "(II)Z"⟩, 7), (⟨"WishMeter$Reader", "semicolon", "()Z"⟩, 7), (⟨"WishMeter$Reader", "wellItem", "()Z"⟩, 7), (⟨"WishMeter$Reader", "readHours", "()I"⟩, 7), (⟨"WishMeter$Reader", "turnItem", "()Z"⟩, 7), (⟨"WishMeter$Reader", "dayItem", "()Z"⟩, 7), (⟨"WishMeter", "no", "()I"⟩, 9), (⟨"WishMeter", "dailyOfOne", "(II)I"⟩, 9), (⟨"WishMeter", "badHere", "()I"⟩, 9)]
theorem lw_r1 : ∀ q ∈ lw_privs_1, lw_okq q := List.forall_mem_cons.mpr ⟨lw_p0, List.forall_mem_cons.mpr ⟨lw_p1, List.forall_mem_cons.mpr ⟨lw_p2, List.forall_mem_cons.mpr ⟨lw_p3, List.forall_mem_cons.mpr ⟨lw_p4, List.forall_mem_cons.mpr ⟨lw_p5, List.forall_mem_cons.mpr ⟨lw_p6, List.forall_mem_cons.mpr ⟨lw_p7, List.forall_mem_cons.mpr ⟨lw_p8, List.forall_mem_cons.mpr ⟨lw_p9, List.forall_mem_cons.mpr ⟨lw_p10, List.forall_mem_cons.mpr ⟨lw_p11, List.forall_mem_cons.mpr ⟨lw_p12, List.forall_mem_cons.mpr ⟨lw_p13, List.forall_mem_cons.mpr ⟨lw_p14, List.forall_mem_cons.mpr ⟨lw_p15, fun _ h => absurd h List.not_mem_nil⟩⟩⟩⟩⟩⟩⟩⟩⟩⟩⟩⟩⟩⟩⟩⟩
theorem lw_p16 : lw_okq (⟨"WishMeter$Search", "start", "(LWishMeter$Pipe;)V"⟩, 7) := ⟨⟨by decide +kernel, by decide +kernel⟩, List.mem_of_getElem? (i := 105) (by decide +kernel), List.mem_of_getElem? (i := 421) (by decide +kernel), List.mem_of_getElem? (i := 422) (by decide +kernel)⟩
theorem lw_p17 : lw_okq (⟨"WishMeter$Search", "keepIfBetter", "(I)V"⟩, 7) := ⟨⟨by decide +kernel, by decide +kernel⟩, List.mem_of_getElem? (i := 105) (by decide +kernel), List.mem_of_getElem? (i := 428) (by decide +kernel), List.mem_of_getElem? (i := 429) (by decide +kernel)⟩
theorem lw_p18 : lw_okq (⟨"WishMeter$Search", "isLikeAnEarlierOne", "(I)Z"⟩, 7) := ⟨⟨by decide +kernel, by decide +kernel⟩, List.mem_of_getElem? (i := 105) (by decide +kernel), List.mem_of_getElem? (i := 434) (by decide +kernel), List.mem_of_getElem? (i := 435) (by decide +kernel)⟩
theorem lw_p19 : lw_okq (⟨"WishMeter", "isAmple", "(I)Z"⟩, 9) := ⟨⟨by decide +kernel, by decide +kernel⟩, List.mem_of_getElem? (i := 10) (by decide +kernel), List.mem_of_getElem? (i := 457) (by decide +kernel), List.mem_of_getElem? (i := 458) (by decide +kernel)⟩
theorem lw_p20 : lw_okq (⟨"WishMeter", "fitsLefts", "(I)Z"⟩, 9) := ⟨⟨by decide +kernel, by decide +kernel⟩, List.mem_of_getElem? (i := 10) (by decide +kernel), List.mem_of_getElem? (i := 478) (by decide +kernel), List.mem_of_getElem? (i := 479) (by decide +kernel)⟩
theorem lw_p21 : lw_okq (⟨"WishMeter", "kindsOf", "(I)I"⟩, 9) := ⟨⟨by decide +kernel, by decide +kernel⟩, List.mem_of_getElem? (i := 10) (by decide +kernel), List.mem_of_getElem? (i := 498) (by decide +kernel), List.mem_of_getElem? (i := 499) (by decide +kernel)⟩
theorem lw_p22 : lw_okq (⟨"WishMeter", "fitsNotes", "(II)Z"⟩, 9) := ⟨⟨by decide +kernel, by decide +kernel⟩, List.mem_of_getElem? (i := 10) (by decide +kernel), List.mem_of_getElem? (i := 502) (by decide +kernel), List.mem_of_getElem? (i := 503) (by decide +kernel)⟩
theorem lw_p23 : lw_okq (⟨"WishMeter", "fitsNote", "(II)Z"⟩, 9) := ⟨⟨by decide +kernel, by decide +kernel⟩, List.mem_of_getElem? (i := 10) (by decide +kernel), List.mem_of_getElem? (i := 506) (by decide +kernel), List.mem_of_getElem? (i := 507) (by decide +kernel)⟩
theorem lw_p24 : lw_okq (⟨"WishMeter", "bothWouldSwap", "(II)Z"⟩, 9) := ⟨⟨by decide +kernel, by decide +kernel⟩, List.mem_of_getElem? (i := 10) (by decide +kernel), List.mem_of_getElem? (i := 527) (by decide +kernel), List.mem_of_getElem? (i := 528) (by decide +kernel)⟩
theorem lw_p25 : lw_okq (⟨"WishMeter", "setFraction", "(II)V"⟩, 9) := ⟨⟨by decide +kernel, by decide +kernel⟩, List.mem_of_getElem? (i := 10) (by decide +kernel), List.mem_of_getElem? (i := 553) (by decide +kernel), List.mem_of_getElem? (i := 554) (by decide +kernel)⟩
theorem lw_p26 : lw_okq (⟨"WishMeter", "howMany", "(I)I"⟩, 9) := ⟨⟨by decide +kernel, by decide +kernel⟩, List.mem_of_getElem? (i := 10) (by decide +kernel), List.mem_of_getElem? (i := 594) (by decide +kernel), List.mem_of_getElem? (i := 595) (by decide +kernel)⟩
theorem lw_p27 : lw_okq (⟨"WishMeterModel", "bad", "(I)I"⟩, 28) := ⟨⟨by decide +kernel, by decide +kernel⟩, List.mem_of_getElem? (i := 608) (by decide +kernel), List.mem_of_getElem? (i := 714) (by decide +kernel), List.mem_of_getElem? (i := 715) (by decide +kernel)⟩
theorem lw_p28 : lw_okq (⟨"WishMeterModel", "many", "()I"⟩, 28) := ⟨⟨by decide +kernel, by decide +kernel⟩, List.mem_of_getElem? (i := 608) (by decide +kernel), List.mem_of_getElem? (i := 718) (by decide +kernel), List.mem_of_getElem? (i := 719) (by decide +kernel)⟩
theorem lw_p29 : lw_okq (⟨"WishMeterModel", "full", "()I"⟩, 28) := ⟨⟨by decide +kernel, by decide +kernel⟩, List.mem_of_getElem? (i := 608) (by decide +kernel), List.mem_of_getElem? (i := 732) (by decide +kernel), List.mem_of_getElem? (i := 733) (by decide +kernel)⟩
theorem lw_p30 : lw_okq (⟨"WishMeterModel", "keep", "()V"⟩, 28) := ⟨⟨by decide +kernel, by decide +kernel⟩, List.mem_of_getElem? (i := 608) (by decide +kernel), List.mem_of_getElem? (i := 744) (by decide +kernel), List.mem_of_getElem? (i := 745) (by decide +kernel)⟩
theorem lw_p31 : lw_okq (⟨"WishMeterModel", "passDay", "([I)I"⟩, 28) := ⟨⟨by decide +kernel, by decide +kernel⟩, List.mem_of_getElem? (i := 608) (by decide +kernel), List.mem_of_getElem? (i := 748) (by decide +kernel), List.mem_of_getElem? (i := 749) (by decide +kernel)⟩
def lw_privs_2 : List (MethodName × Nat) := [(⟨"WishMeter$Search", "start", "(LWishMeter$Pipe;)V"⟩, 7), (⟨"WishMeter$Search", "keepIfBetter", "(I)V"⟩, 7), (⟨"WishMeter$Search", "isLikeAnEarlierOne", "(I)Z"⟩, 7), (⟨"WishMeter", "isAmple", "(I)Z"⟩, 9), (⟨"WishMeter", "fitsLefts", "(I)Z"⟩, 9), (⟨"WishMeter", "kindsOf", "(I)I"⟩, 9), (⟨"WishMeter", "fitsNotes", "(II)Z"⟩, 9), (⟨"WishMeter", "fitsNote", "(II)Z"⟩, 9), (⟨"WishMeter", "bothWouldSwap", "(II)Z"⟩, 9), (⟨"WishMeter", "setFraction", "(II)V"⟩, 9), (⟨"WishMeter", "howMany", "(I)I"⟩, 9), (⟨"WishMeterModel", "bad", "(I)I"⟩, 28), (⟨"WishMeterModel", "many", "()I"⟩, 28), (⟨"WishMeterModel", "full", "()I"⟩, 28), (⟨"WishMeterModel", "keep", "()V"⟩, 28), (⟨"WishMeterModel", "passDay", "([I)I"⟩, 28)]
theorem lw_r2 : ∀ q ∈ lw_privs_2, lw_okq q := List.forall_mem_cons.mpr ⟨lw_p16, List.forall_mem_cons.mpr ⟨lw_p17, List.forall_mem_cons.mpr ⟨lw_p18, List.forall_mem_cons.mpr ⟨lw_p19, List.forall_mem_cons.mpr ⟨lw_p20, List.forall_mem_cons.mpr ⟨lw_p21, List.forall_mem_cons.mpr ⟨lw_p22, List.forall_mem_cons.mpr ⟨lw_p23, List.forall_mem_cons.mpr ⟨lw_p24, List.forall_mem_cons.mpr ⟨lw_p25, List.forall_mem_cons.mpr ⟨lw_p26, List.forall_mem_cons.mpr ⟨lw_p27, List.forall_mem_cons.mpr ⟨lw_p28, List.forall_mem_cons.mpr ⟨lw_p29, List.forall_mem_cons.mpr ⟨lw_p30, List.forall_mem_cons.mpr ⟨lw_p31, fun _ h => absurd h List.not_mem_nil⟩⟩⟩⟩⟩⟩⟩⟩⟩⟩⟩⟩⟩⟩⟩⟩
theorem lw_p32 : lw_okq (⟨"WishMeterModel", "layDay", "([III)V"⟩, 28) := ⟨⟨by decide +kernel, by decide +kernel⟩, List.mem_of_getElem? (i := 608) (by decide +kernel), List.mem_of_getElem? (i := 752) (by decide +kernel), List.mem_of_getElem? (i := 753) (by decide +kernel)⟩
theorem lw_p33 : lw_okq (⟨"WishMeterModel", "goHour", "([IIII)V"⟩, 28) := ⟨⟨by decide +kernel, by decide +kernel⟩, List.mem_of_getElem? (i := 608) (by decide +kernel), List.mem_of_getElem? (i := 762) (by decide +kernel), List.mem_of_getElem? (i := 763) (by decide +kernel)⟩
theorem lw_p34 : lw_okq (⟨"WishMeterModel", "isWell", "(I)Z"⟩, 28) := ⟨⟨by decide +kernel, by decide +kernel⟩, List.mem_of_getElem? (i := 608) (by decide +kernel), List.mem_of_getElem? (i := 776) (by decide +kernel), List.mem_of_getElem? (i := 777) (by decide +kernel)⟩
theorem lw_p35 : lw_okq (⟨"WishMeterModel", "no", "()I"⟩, 28) := ⟨⟨by decide +kernel, by decide +kernel⟩, List.mem_of_getElem? (i := 608) (by decide +kernel), List.mem_of_getElem? (i := 792) (by decide +kernel), List.mem_of_getElem? (i := 793) (by decide +kernel)⟩
theorem lw_p36 : lw_okq (⟨"WishMeterModel", "sumOf", "([I)I"⟩, 28) := ⟨⟨by decide +kernel, by decide +kernel⟩, List.mem_of_getElem? (i := 608) (by decide +kernel), List.mem_of_getElem? (i := 815) (by decide +kernel), List.mem_of_getElem? (i := 816) (by decide +kernel)⟩
theorem lw_p37 : lw_okq (⟨"WishMeterModel", "layOwn", "(I)V"⟩, 28) := ⟨⟨by decide +kernel, by decide +kernel⟩, List.mem_of_getElem? (i := 608) (by decide +kernel), List.mem_of_getElem? (i := 823) (by decide +kernel), List.mem_of_getElem? (i := 824) (by decide +kernel)⟩
theorem lw_p38 : lw_okq (⟨"WishMeterModel", "bestAlone", "(I)I"⟩, 28) := ⟨⟨by decide +kernel, by decide +kernel⟩, List.mem_of_getElem? (i := 608) (by decide +kernel), List.mem_of_getElem? (i := 832) (by decide +kernel), List.mem_of_getElem? (i := 833) (by decide +kernel)⟩
theorem lw_p39 : lw_okq (⟨"WishMeterModel", "dueIfFair", "()I"⟩, 28) := ⟨⟨by decide +kernel, by decide +kernel⟩, List.mem_of_getElem? (i := 608) (by decide +kernel), List.mem_of_getElem? (i := 836) (by decide +kernel), List.mem_of_getElem? (i := 837) (by decide +kernel)⟩
theorem lw_p40 : lw_okq (⟨"WishMeterModel", "mayHaveDrawn", "(I)Z"⟩, 28) := ⟨⟨by decide +kernel, by decide +kernel⟩, List.mem_of_getElem? (i := 608) (by decide +kernel), List.mem_of_getElem? (i := 856) (by decide +kernel), List.mem_of_getElem? (i := 857) (by decide +kernel)⟩
theorem lw_p41 : lw_okq (⟨"WishMeterModel", "kindsOf", "(I)I"⟩, 28) := ⟨⟨by decide +kernel, by decide +kernel⟩, List.mem_of_getElem? (i := 608) (by decide +kernel), List.mem_of_getElem? (i := 874) (by decide +kernel), List.mem_of_getElem? (i := 875) (by decide +kernel)⟩
theorem lw_p42 : lw_okq (⟨"WishMeterModel", "wouldBoth", "(II)Z"⟩, 28) := ⟨⟨by decide +kernel, by decide +kernel⟩, List.mem_of_getElem? (i := 608) (by decide +kernel), List.mem_of_getElem? (i := 889) (by decide +kernel), List.mem_of_getElem? (i := 890) (by decide +kernel)⟩
theorem lw_p43 : lw_okq (⟨"WishMeterModel", "fraction", "(JJ)V"⟩, 28) := ⟨⟨by decide +kernel, by decide +kernel⟩, List.mem_of_getElem? (i := 608) (by decide +kernel), List.mem_of_getElem? (i := 902) (by decide +kernel), List.mem_of_getElem? (i := 903) (by decide +kernel)⟩
theorem lw_p44 : lw_okq (⟨"WishMeterModel", "lookAt", "(I)V"⟩, 28) := ⟨⟨by decide +kernel, by decide +kernel⟩, List.mem_of_getElem? (i := 608) (by decide +kernel), List.mem_of_getElem? (i := 929) (by decide +kernel), List.mem_of_getElem? (i := 930) (by decide +kernel)⟩
theorem lw_p45 : lw_okq (⟨"WishMeterModel", "takesMain", "()Z"⟩, 28) := ⟨⟨by decide +kernel, by decide +kernel⟩, List.mem_of_getElem? (i := 608) (by decide +kernel), List.mem_of_getElem? (i := 943) (by decide +kernel), List.mem_of_getElem? (i := 944) (by decide +kernel)⟩
theorem lw_p46 : lw_okq (⟨"WishMeterModel", "spells", "(IIIIIII)Z"⟩, 28) := ⟨⟨by decide +kernel, by decide +kernel⟩, List.mem_of_getElem? (i := 608) (by decide +kernel), List.mem_of_getElem? (i := 947) (by decide +kernel), List.mem_of_getElem? (i := 948) (by decide +kernel)⟩
theorem lw_p47 : lw_okq (⟨"WishMeterModel", "goBehind", "()V"⟩, 28) := ⟨⟨by decide +kernel, by decide +kernel⟩, List.mem_of_getElem? (i := 608) (by decide +kernel), List.mem_of_getElem? (i := 951) (by decide +kernel), List.mem_of_getElem? (i := 952) (by decide +kernel)⟩
def lw_privs_3 : List (MethodName × Nat) := [(⟨"WishMeterModel", "layDay", "([III)V"⟩, 28), (⟨"WishMeterModel", "goHour", "([IIII)V"⟩, 28), (⟨"WishMeterModel", "isWell", "(I)Z"⟩, 28), (⟨"WishMeterModel", "no", "()I"⟩, 28), (⟨"WishMeterModel", "sumOf", "([I)I"⟩, 28), (⟨"WishMeterModel", "layOwn", "(I)V"⟩, 28), (⟨"WishMeterModel", "bestAlone", "(I)I"⟩, 28), (⟨"WishMeterModel", "dueIfFair", "()I"⟩, 28), (⟨"WishMeterModel", "mayHaveDrawn", "(I)Z"⟩, 28), (⟨"WishMeterModel", "kindsOf", "(I)I"⟩, 28), (⟨"WishMeterModel", "wouldBoth", "(II)Z"⟩, 28), (⟨"WishMeterModel", "fraction", "(JJ)V"⟩, 28), (⟨"WishMeterModel", "lookAt", "(I)V"⟩, 28), (⟨"WishMeterModel", "takesMain", "()Z"⟩, 28), (⟨"WishMeterModel", "spells", "(IIIIIII)Z"⟩, 28), (⟨"WishMeterModel", "goBehind", "()V"⟩, 28)]
theorem lw_r3 : ∀ q ∈ lw_privs_3, lw_okq q := List.forall_mem_cons.mpr ⟨lw_p32, List.forall_mem_cons.mpr ⟨lw_p33, List.forall_mem_cons.mpr ⟨lw_p34, List.forall_mem_cons.mpr ⟨lw_p35, List.forall_mem_cons.mpr ⟨lw_p36, List.forall_mem_cons.mpr ⟨lw_p37, List.forall_mem_cons.mpr ⟨lw_p38, List.forall_mem_cons.mpr ⟨lw_p39, List.forall_mem_cons.mpr ⟨lw_p40, List.forall_mem_cons.mpr ⟨lw_p41, List.forall_mem_cons.mpr ⟨lw_p42, List.forall_mem_cons.mpr ⟨lw_p43, List.forall_mem_cons.mpr ⟨lw_p44, List.forall_mem_cons.mpr ⟨lw_p45, List.forall_mem_cons.mpr ⟨lw_p46, List.forall_mem_cons.mpr ⟨lw_p47, fun _ h => absurd h List.not_mem_nil⟩⟩⟩⟩⟩⟩⟩⟩⟩⟩⟩⟩⟩⟩⟩⟩
theorem lw_p48 : lw_okq (⟨"WishMeterModel", "takes", "(III)Z"⟩, 28) := ⟨⟨by decide +kernel, by decide +kernel⟩, List.mem_of_getElem? (i := 608) (by decide +kernel), List.mem_of_getElem? (i := 955) (by decide +kernel), List.mem_of_getElem? (i := 956) (by decide +kernel)⟩
theorem lw_p49 : lw_okq (⟨"WishMeterModel", "takesItem", "()Z"⟩, 28) := ⟨⟨by decide +kernel, by decide +kernel⟩, List.mem_of_getElem? (i := 608) (by decide +kernel), List.mem_of_getElem? (i := 959) (by decide +kernel), List.mem_of_getElem? (i := 960) (by decide +kernel)⟩
theorem lw_p50 : lw_okq (⟨"WishMeterModel", "takesWell", "()Z"⟩, 28) := ⟨⟨by decide +kernel, by decide +kernel⟩, List.mem_of_getElem? (i := 608) (by decide +kernel), List.mem_of_getElem? (i := 963) (by decide +kernel), List.mem_of_getElem? (i := 964) (by decide +kernel)⟩
theorem lw_p51 : lw_okq (⟨"WishMeterModel", "takesHours", "()Z"⟩, 28) := ⟨⟨by decide +kernel, by decide +kernel⟩, List.mem_of_getElem? (i := 608) (by decide +kernel), List.mem_of_getElem? (i := 967) (by decide +kernel), List.mem_of_getElem? (i := 968) (by decide +kernel)⟩
theorem lw_p52 : lw_okq (⟨"WishMeterModel", "takesTurn", "()Z"⟩, 28) := ⟨⟨by decide +kernel, by decide +kernel⟩, List.mem_of_getElem? (i := 608) (by decide +kernel), List.mem_of_getElem? (i := 971) (by decide +kernel), List.mem_of_getElem? (i := 972) (by decide +kernel)⟩
theorem lw_p53 : lw_okq (⟨"WishMeterModel", "takesDay", "()Z"⟩, 28) := ⟨⟨by decide +kernel, by decide +kernel⟩, List.mem_of_getElem? (i := 608) (by decide +kernel), List.mem_of_getElem? (i := 975) (by decide +kernel), List.mem_of_getElem? (i := 976) (by decide +kernel)⟩
theorem lw_p54 : lw_okq (⟨"WishMeterModel", "counted", "(I)I"⟩, 28) := ⟨⟨by decide +kernel, by decide +kernel⟩, List.mem_of_getElem? (i := 608) (by decide +kernel), List.mem_of_getElem? (i := 1000) (by decide +kernel), List.mem_of_getElem? (i := 1001) (by decide +kernel)⟩
theorem lw_p55 : lw_okq (⟨"WishMeterModel", "allOf", "(I)I"⟩, 28) := ⟨⟨by decide +kernel, by decide +kernel⟩, List.mem_of_getElem? (i := 608) (by decide +kernel), List.mem_of_getElem? (i := 1004) (by decide +kernel), List.mem_of_getElem? (i := 1005) (by decide +kernel)⟩
theorem lw_p56 : lw_okq (⟨"WishMeterModel", "sums", "(JII)J"⟩, 28) := ⟨⟨by decide +kernel, by decide +kernel⟩, List.mem_of_getElem? (i := 608) (by decide +kernel), List.mem_of_getElem? (i := 1014) (by decide +kernel), List.mem_of_getElem? (i := 1015) (by decide +kernel)⟩
def lw_privs_4 : List (MethodName × Nat) := [(⟨"WishMeterModel", "takes", "(III)Z"⟩, 28), (⟨"WishMeterModel", "takesItem", "()Z"⟩, 28), (⟨"WishMeterModel", "takesWell", "()Z"⟩, 28), (⟨"WishMeterModel", "takesHours", "()Z"⟩, 28), (⟨"WishMeterModel", "takesTurn", "()Z"⟩, 28), (⟨"WishMeterModel", "takesDay", "()Z"⟩, 28), (⟨"WishMeterModel", "counted", "(I)I"⟩, 28), (⟨"WishMeterModel", "allOf", "(I)I"⟩, 28), (⟨"WishMeterModel", "sums", "(JII)J"⟩, 28)]
theorem lw_r4 : ∀ q ∈ lw_privs_4, lw_okq q := List.forall_mem_cons.mpr ⟨lw_p48, List.forall_mem_cons.mpr ⟨lw_p49, List.forall_mem_cons.mpr ⟨lw_p50, List.forall_mem_cons.mpr ⟨lw_p51, List.forall_mem_cons.mpr ⟨lw_p52, List.forall_mem_cons.mpr ⟨lw_p53, List.forall_mem_cons.mpr ⟨lw_p54, List.forall_mem_cons.mpr ⟨lw_p55, List.forall_mem_cons.mpr ⟨lw_p56, fun _ h => absurd h List.not_mem_nil⟩⟩⟩⟩⟩⟩⟩⟩⟩
def lw_privs : List (MethodName × Nat) := lw_privs_1 ++ (lw_privs_2 ++ (lw_privs_3 ++ (lw_privs_4)))
def lw_tbl : List Cond := k2_sels lw_privs ++ tables_1
theorem lw_privs_ok : ∀ q ∈ lw_privs, lw_okq q := by
  show ∀ q ∈ lw_privs_1 ++ (lw_privs_2 ++ (lw_privs_3 ++ (lw_privs_4))), lw_okq q
  exact List.forall_mem_append.mpr ⟨lw_r1, List.forall_mem_append.mpr ⟨lw_r2, List.forall_mem_append.mpr ⟨lw_r3, lw_r4⟩⟩⟩
-- ===== end of PART A; then your names; then what follows =====
def RX0 : String := "WishMeter$Kinds"
def TX0 : u_T := fun k => match k with
  | _ => ("", "", "", false)
def tyX0 : Nat → FieldType := fun k => match k with
  | _ => .int
theorem nmX0 : ∀ a, a < 0 → ∀ b, b < 0 → a ≠ b → (TX0 a).2.1 ≠ (TX0 b).2.1 := by decide +kernel
theorem tyX0_ok : ∀ k, k < 0 → parseFieldDescriptor (TX0 k).2.2.1 = some (tyX0 k) := by decide +kernel
abbrev cX0_gets : ByteArray := prog_2_method_2_code
def yX0_gets : MethodName := ⟨RX0, "gets", "(IIII)I"⟩
abbrev cX0_due : ByteArray := prog_2_method_3_code
def yX0_due : MethodName := ⟨RX0, "due", "(II)I"⟩
def RX1 : String := "WishMeter$Pipe"
def TX1 : u_T := fun k => match k with
  | 0 => ("WishMeter$Pipe", "pressure", "I", false)
  | 1 => ("WishMeter$Pipe", "day", "I", false)
  | 2 => ("WishMeter$Pipe", "wells", "I", false)
  | 3 => ("WishMeter$Pipe", "lefts", "I", false)
  | 4 => ("WishMeter$Pipe", "notes", "I", false)
  | 5 => ("WishMeter$Pipe", "undos", "I", false)
  | 6 => ("WishMeter$Pipe", "kind", "[I", true)
  | 7 => ("WishMeter$Pipe", "wanted", "[I", true)
  | 8 => ("WishMeter$Pipe", "hours", "[I", true)
  | 9 => ("WishMeter$Pipe", "had", "[I", true)
  | 10 => ("WishMeter$Pipe", "due", "[I", true)
  | 11 => ("WishMeter$Pipe", "leftHour", "[I", true)
  | 12 => ("WishMeter$Pipe", "leftPressure", "[I", true)
  | 13 => ("WishMeter$Pipe", "note", "[I", true)
  | 14 => ("WishMeter$Pipe", "past", "[I", true)
  | 15 => ("WishMeter$Pipe", "ahead", "[I", true)
  | 16 => ("WishMeter$Pipe", "gets", "[I", true)
  | _ => ("WishMeter$Pipe", "leftOver", "I", false)
def tyX1 : Nat → FieldType := fun k => match k with
  | 0 => .int
  | 1 => .int
  | 2 => .int
  | 3 => .int
  | 4 => .int
  | 5 => .int
  | 6 => .array .int
  | 7 => .array .int
  | 8 => .array .int
  | 9 => .array .int
  | 10 => .array .int
  | 11 => .array .int
  | 12 => .array .int
  | 13 => .array .int
  | 14 => .array .int
  | 15 => .array .int
  | 16 => .array .int
  | _ => .int
theorem nmX1 : ∀ a, a < 18 → ∀ b, b < 18 → a ≠ b → (TX1 a).2.1 ≠ (TX1 b).2.1 := by decide +kernel
theorem tyX1_ok : ∀ k, k < 18 → parseFieldDescriptor (TX1 k).2.2.1 = some (tyX1 k) := by decide +kernel
abbrev cX1_init : ByteArray := prog_3_method_1_code
def yX1_init : MethodName := ⟨RX1, "<init>", "()V"⟩
abbrev cX1_restart : ByteArray := prog_3_method_2_code
def yX1_restart : MethodName := ⟨RX1, "restart", "(I)V"⟩
abbrev cX1_copyFrom : ByteArray := prog_3_method_3_code
def yX1_copyFrom : MethodName := ⟨RX1, "copyFrom", "(LWishMeter$Pipe;)V"⟩
abbrev cX1_has : ByteArray := prog_3_method_4_code
def yX1_has : MethodName := ⟨RX1, "has", "(I)Z"⟩
abbrev cX1_everyWell : ByteArray := prog_3_method_5_code
def yX1_everyWell : MethodName := ⟨RX1, "everyWell", "()I"⟩
abbrev cX1_addWell : ByteArray := prog_3_method_6_code
def yX1_addWell : MethodName := ⟨RX1, "addWell", "(III)I"⟩
abbrev cX1_addLeft : ByteArray := prog_3_method_7_code
def yX1_addLeft : MethodName := ⟨RX1, "addLeft", "(II)I"⟩
abbrev cX1_addNote : ByteArray := prog_3_method_8_code
def yX1_addNote : MethodName := ⟨RX1, "addNote", "(IIIIII)I"⟩
abbrev cX1_remember : ByteArray := prog_3_method_9_code
def yX1_remember : MethodName := ⟨RX1, "remember", "()V"⟩
abbrev cX1_goBack : ByteArray := prog_3_method_10_code
def yX1_goBack : MethodName := ⟨RX1, "goBack", "()V"⟩
abbrev cX1_passDay : ByteArray := prog_3_method_11_code
def yX1_passDay : MethodName := ⟨RX1, "passDay", "()I"⟩
abbrev cX1_isOpen : ByteArray := prog_3_method_12_code
def yX1_isOpen : MethodName := ⟨RX1, "isOpen", "(II)Z"⟩
abbrev cX1_openIn : ByteArray := prog_3_method_13_code
def yX1_openIn : MethodName := ⟨RX1, "openIn", "(I)I"⟩
abbrev cX1_runHour : ByteArray := prog_3_method_14_code
def yX1_runHour : MethodName := ⟨RX1, "runHour", "(III)V"⟩
abbrev cX1_getsAt : ByteArray := prog_3_method_15_code
def yX1_getsAt : MethodName := ⟨RX1, "getsAt", "(III)I"⟩
abbrev cX1_dailyGets : ByteArray := prog_3_method_16_code
def yX1_dailyGets : MethodName := ⟨RX1, "dailyGets", "(II)I"⟩
abbrev cX1_dailyDue : ByteArray := prog_3_method_17_code
def yX1_dailyDue : MethodName := ⟨RX1, "dailyDue", "(I)I"⟩
abbrev cX1_dailyOfAll : ByteArray := prog_3_method_18_code
def yX1_dailyOfAll : MethodName := ⟨RX1, "dailyOfAll", "(I)I"⟩
abbrev cX1_swapHours : ByteArray := prog_3_method_19_code
def yX1_swapHours : MethodName := ⟨RX1, "swapHours", "(II)V"⟩
abbrev cX1_sumOf : ByteArray := prog_3_method_20_code
def yX1_sumOf : MethodName := ⟨RX1, "sumOf", "([I)I"⟩
def RX2 : String := "WishMeter$Reader"
def TX2 : u_T := fun k => match k with
  | 0 => ("WishMeter$Reader", "draft", "LWishMeter$Pipe;", true)
  | 1 => ("WishMeter$Reader", "start", "I", false)
  | 2 => ("WishMeter$Reader", "length", "I", false)
  | 3 => ("WishMeter$Reader", "text", "[B", true)
  | 4 => ("WishMeter$Reader", "next", "I", false)
  | 5 => ("WishMeter$Reader", "token", "I", false)
  | _ => ("WishMeter$Reader", "value", "I", false)
def tyX2 : Nat → FieldType := fun k => match k with
  | 0 => .object "WishMeter$Pipe"
  | 1 => .int
  | 2 => .int
  | 3 => .array .byte
  | 4 => .int
  | 5 => .int
  | _ => .int
theorem nmX2 : ∀ a, a < 7 → ∀ b, b < 7 → a ≠ b → (TX2 a).2.1 ≠ (TX2 b).2.1 := by decide +kernel
theorem tyX2_ok : ∀ k, k < 7 → parseFieldDescriptor (TX2 k).2.2.1 = some (tyX2 k) := by decide +kernel
abbrev cX2_init : ByteArray := prog_4_method_1_code
def yX2_init : MethodName := ⟨RX2, "<init>", "()V"⟩
abbrev cX2_add : ByteArray := prog_4_method_2_code
def yX2_add : MethodName := ⟨RX2, "add", "(I)I"⟩
abbrev cX2_parse : ByteArray := prog_4_method_3_code
def yX2_parse : MethodName := ⟨RX2, "parse", "()I"⟩
abbrev cX2_mainItem : ByteArray := prog_4_method_4_code
def yX2_mainItem : MethodName := ⟨RX2, "mainItem", "()Z"⟩
abbrev cX2_wellItem : ByteArray := prog_4_method_5_code
def yX2_wellItem : MethodName := ⟨RX2, "wellItem", "()Z"⟩
abbrev cX2_turnItem : ByteArray := prog_4_method_6_code
def yX2_turnItem : MethodName := ⟨RX2, "turnItem", "()Z"⟩
abbrev cX2_dayItem : ByteArray := prog_4_method_7_code
def yX2_dayItem : MethodName := ⟨RX2, "dayItem", "()Z"⟩
abbrev cX2_readHours : ByteArray := prog_4_method_8_code
def yX2_readHours : MethodName := ⟨RX2, "readHours", "()I"⟩
abbrev cX2_semicolon : ByteArray := prog_4_method_9_code
def yX2_semicolon : MethodName := ⟨RX2, "semicolon", "()Z"⟩
abbrev cX2_isNumber : ByteArray := prog_4_method_10_code
def yX2_isNumber : MethodName := ⟨RX2, "isNumber", "(II)Z"⟩
abbrev cX2_step : ByteArray := prog_4_method_11_code
def yX2_step : MethodName := ⟨RX2, "step", "()V"⟩
abbrev cX2_takeWord : ByteArray := prog_4_method_12_code
def yX2_takeWord : MethodName := ⟨RX2, "takeWord", "()V"⟩
abbrev cX2_takeNumber : ByteArray := prog_4_method_13_code
def yX2_takeNumber : MethodName := ⟨RX2, "takeNumber", "()V"⟩
abbrev cX2_takeSign : ByteArray := prog_4_method_14_code
def yX2_takeSign : MethodName := ⟨RX2, "takeSign", "()V"⟩
abbrev cX2_isLetter : ByteArray := prog_4_method_15_code
def yX2_isLetter : MethodName := ⟨RX2, "isLetter", "(I)Z"⟩
abbrev cX2_isFigure : ByteArray := prog_4_method_16_code
def yX2_isFigure : MethodName := ⟨RX2, "isFigure", "(I)Z"⟩
def RX3 : String := "WishMeter$Search"
def TX3 : u_T := fun k => match k with
  | 0 => ("WishMeter$Search", "found", "Z", false)
  | 1 => ("WishMeter$Search", "bestWorth", "I", false)
  | 2 => ("WishMeter$Search", "bestWay", "[I", true)
  | 3 => ("WishMeter$Search", "way", "[I", true)
  | 4 => ("WishMeter$Search", "rest", "[I", true)
  | 5 => ("WishMeter$Search", "mustGet", "[I", true)
  | _ => ("WishMeter$Search", "byDue", "Z", false)
def tyX3 : Nat → FieldType := fun k => match k with
  | 0 => .boolean
  | 1 => .int
  | 2 => .array .int
  | 3 => .array .int
  | 4 => .array .int
  | 5 => .array .int
  | _ => .boolean
theorem nmX3 : ∀ a, a < 7 → ∀ b, b < 7 → a ≠ b → (TX3 a).2.1 ≠ (TX3 b).2.1 := by decide +kernel
theorem tyX3_ok : ∀ k, k < 7 → parseFieldDescriptor (TX3 k).2.2.1 = some (tyX3 k) := by decide +kernel
abbrev cX3_init : ByteArray := prog_5_method_1_code
def yX3_init : MethodName := ⟨RX3, "<init>", "()V"⟩
abbrev cX3_mostHad : ByteArray := prog_5_method_2_code
def yX3_mostHad : MethodName := ⟨RX3, "mostHad", "(LWishMeter$Pipe;)V"⟩
abbrev cX3_leastDue : ByteArray := prog_5_method_3_code
def yX3_leastDue : MethodName := ⟨RX3, "leastDue", "(LWishMeter$Pipe;)V"⟩
abbrev cX3_start : ByteArray := prog_5_method_4_code
def yX3_start : MethodName := ⟨RX3, "start", "(LWishMeter$Pipe;)V"⟩
abbrev cX3_bestAlone : ByteArray := prog_5_method_5_code
def yX3_bestAlone : MethodName := ⟨RX3, "bestAlone", "(LWishMeter$Pipe;I)I"⟩
abbrev cX3_choose : ByteArray := prog_5_method_6_code
def yX3_choose : MethodName := ⟨RX3, "choose", "(LWishMeter$Search;LWishMeter$Pipe;II)V"⟩
abbrev cX3_isLikeAnEarlierOne : ByteArray := prog_5_method_7_code
def yX3_isLikeAnEarlierOne : MethodName := ⟨RX3, "isLikeAnEarlierOne", "(I)Z"⟩
abbrev cX3_keepIfBetter : ByteArray := prog_5_method_8_code
def yX3_keepIfBetter : MethodName := ⟨RX3, "keepIfBetter", "(I)V"⟩
def RX4 : String := "WishMeter"
def TX4 : u_T := fun k => match k with
  | 0 => ("WishMeter", "now", "LWishMeter$Pipe;", true)
  | 1 => ("WishMeter", "images", "[LWishMeter$Pipe;", true)
  | 2 => ("WishMeter", "search", "LWishMeter$Search;", true)
  | 3 => ("WishMeter", "reader", "LWishMeter$Reader;", true)
  | 4 => ("WishMeter", "above", "I", false)
  | 5 => ("WishMeter", "below", "I", false)
  | 6 => ("WishMeter", "bads", "I", false)
  | 7 => ("WishMeter", "nos", "I", false)
  | _ => ("WishMeter", "fulls", "I", false)
def tyX4 : Nat → FieldType := fun k => match k with
  | 0 => .object "WishMeter$Pipe"
  | 1 => .array (.object "WishMeter$Pipe")
  | 2 => .object "WishMeter$Search"
  | 3 => .object "WishMeter$Reader"
  | 4 => .int
  | 5 => .int
  | 6 => .int
  | 7 => .int
  | _ => .int
theorem nmX4 : ∀ a, a < 9 → ∀ b, b < 9 → a ≠ b → (TX4 a).2.1 ≠ (TX4 b).2.1 := by decide +kernel
theorem tyX4_ok : ∀ k, k < 9 → parseFieldDescriptor (TX4 k).2.2.1 = some (tyX4 k) := by decide +kernel
abbrev cX4_init : ByteArray := prog_1_method_1_code
def yX4_init : MethodName := ⟨RX4, "<init>", "()V"⟩
abbrev cX4_board : ByteArray := prog_1_method_2_code
def yX4_board : MethodName := ⟨RX4, "board", "(I)I"⟩
abbrev cX4_well : ByteArray := prog_1_method_3_code
def yX4_well : MethodName := ⟨RX4, "well", "(III)I"⟩
abbrev cX4_type : ByteArray := prog_1_method_4_code
def yX4_type : MethodName := ⟨RX4, "type", "(I)I"⟩
abbrev cX4_clear : ByteArray := prog_1_method_5_code
def yX4_clear : MethodName := ⟨RX4, "clear", "()I"⟩
abbrev cX4_read : ByteArray := prog_1_method_6_code
def yX4_read : MethodName := ⟨RX4, "read", "()I"⟩
abbrev cX4_day : ByteArray := prog_1_method_7_code
def yX4_day : MethodName := ⟨RX4, "day", "(I)I"⟩
abbrev cX4_turn : ByteArray := prog_1_method_8_code
def yX4_turn : MethodName := ⟨RX4, "turn", "(II)I"⟩
abbrev cX4_want : ByteArray := prog_1_method_9_code
def yX4_want : MethodName := ⟨RX4, "want", "(II)I"⟩
abbrev cX4_press : ByteArray := prog_1_method_10_code
def yX4_press : MethodName := ⟨RX4, "press", "(I)I"⟩
abbrev cX4_undo : ByteArray := prog_1_method_11_code
def yX4_undo : MethodName := ⟨RX4, "undo", "()I"⟩
abbrev cX4_of : ByteArray := prog_1_method_12_code
def yX4_of : MethodName := ⟨RX4, "of", "(II)I"⟩
abbrev cX4_hour : ByteArray := prog_1_method_13_code
def yX4_hour : MethodName := ⟨RX4, "hour", "(III)I"⟩
abbrev cX4_daily : ByteArray := prog_1_method_14_code
def yX4_daily : MethodName := ⟨RX4, "daily", "(II)I"⟩
abbrev cX4_turns : ByteArray := prog_1_method_15_code
def yX4_turns : MethodName := ⟨RX4, "turns", "(I)I"⟩
abbrev cX4_fair : ByteArray := prog_1_method_16_code
def yX4_fair : MethodName := ⟨RX4, "fair", "(I)I"⟩
abbrev cX4_least : ByteArray := prog_1_method_17_code
def yX4_least : MethodName := ⟨RX4, "least", "()I"⟩
abbrev cX4_shut : ByteArray := prog_1_method_18_code
def yX4_shut : MethodName := ⟨RX4, "shut", "(I)I"⟩
abbrev cX4_left : ByteArray := prog_1_method_19_code
def yX4_left : MethodName := ⟨RX4, "left", "(II)I"⟩
abbrev cX4_drew : ByteArray := prog_1_method_20_code
def yX4_drew : MethodName := ⟨RX4, "drew", "(I)I"⟩
abbrev cX4_note : ByteArray := prog_1_method_21_code
def yX4_note : MethodName := ⟨RX4, "note", "(IIIIII)I"⟩
abbrev cX4_forget : ByteArray := prog_1_method_22_code
def yX4_forget : MethodName := ⟨RX4, "forget", "(I)I"⟩
abbrev cX4_is : ByteArray := prog_1_method_23_code
def yX4_is : MethodName := ⟨RX4, "is", "(I)I"⟩
abbrev cX4_look : ByteArray := prog_1_method_24_code
def yX4_look : MethodName := ⟨RX4, "look", "(I)I"⟩
abbrev cX4_swaps : ByteArray := prog_1_method_25_code
def yX4_swaps : MethodName := ⟨RX4, "swaps", "(I)I"⟩
abbrev cX4_inspector : ByteArray := prog_1_method_26_code
def yX4_inspector : MethodName := ⟨RX4, "inspector", "(II)I"⟩
abbrev cX4_noons : ByteArray := prog_1_method_27_code
def yX4_noons : MethodName := ⟨RX4, "noons", "(III)I"⟩
abbrev cX4_years : ByteArray := prog_1_method_28_code
def yX4_years : MethodName := ⟨RX4, "years", "(II)I"⟩
abbrev cX4_part : ByteArray := prog_1_method_29_code
def yX4_part : MethodName := ⟨RX4, "part", "(I)J"⟩
abbrev cX4_image : ByteArray := prog_1_method_30_code
def yX4_image : MethodName := ⟨RX4, "image", "(I)I"⟩
abbrev cX4_from : ByteArray := prog_1_method_31_code
def yX4_from : MethodName := ⟨RX4, "from", "(I)I"⟩
abbrev cX4_status : ByteArray := prog_1_method_32_code
def yX4_status : MethodName := ⟨RX4, "status", "(I)I"⟩
abbrev cX4_count : ByteArray := prog_1_method_33_code
def yX4_count : MethodName := ⟨RX4, "count", "(I)I"⟩
abbrev cX4_digest : ByteArray := prog_1_method_34_code
def yX4_digest : MethodName := ⟨RX4, "digest", "()J"⟩
abbrev cX4_within : ByteArray := prog_1_method_35_code
def yX4_within : MethodName := ⟨RX4, "within", "(III)Z"⟩
abbrev cX4_isHour : ByteArray := prog_1_method_36_code
def yX4_isHour : MethodName := ⟨RX4, "isHour", "(I)Z"⟩
abbrev cX4_isPressure : ByteArray := prog_1_method_37_code
def yX4_isPressure : MethodName := ⟨RX4, "isPressure", "(I)Z"⟩
abbrev cX4_isWanted : ByteArray := prog_1_method_38_code
def yX4_isWanted : MethodName := ⟨RX4, "isWanted", "(I)Z"⟩
abbrev cX4_bad : ByteArray := prog_1_method_39_code
def yX4_bad : MethodName := ⟨RX4, "bad", "()I"⟩
abbrev cX4_badHere : ByteArray := prog_1_method_40_code
def yX4_badHere : MethodName := ⟨RX4, "badHere", "()I"⟩
abbrev cX4_no : ByteArray := prog_1_method_41_code
def yX4_no : MethodName := ⟨RX4, "no", "()I"⟩
abbrev cX4_full : ByteArray := prog_1_method_42_code
def yX4_full : MethodName := ⟨RX4, "full", "()I"⟩
abbrev cX4_dailyOfOne : ByteArray := prog_1_method_43_code
def yX4_dailyOfOne : MethodName := ⟨RX4, "dailyOfOne", "(II)I"⟩
abbrev cX4_isAmple : ByteArray := prog_1_method_44_code
def yX4_isAmple : MethodName := ⟨RX4, "isAmple", "(I)Z"⟩
abbrev cX4_fitsLefts : ByteArray := prog_1_method_45_code
def yX4_fitsLefts : MethodName := ⟨RX4, "fitsLefts", "(I)Z"⟩
abbrev cX4_kindsOf : ByteArray := prog_1_method_46_code
def yX4_kindsOf : MethodName := ⟨RX4, "kindsOf", "(I)I"⟩
abbrev cX4_fitsNotes : ByteArray := prog_1_method_47_code
def yX4_fitsNotes : MethodName := ⟨RX4, "fitsNotes", "(II)Z"⟩
abbrev cX4_fitsNote : ByteArray := prog_1_method_48_code
def yX4_fitsNote : MethodName := ⟨RX4, "fitsNote", "(II)Z"⟩
abbrev cX4_mostAlike : ByteArray := prog_1_method_49_code
def yX4_mostAlike : MethodName := ⟨RX4, "mostAlike", "(IIII)I"⟩
abbrev cX4_areAlike : ByteArray := prog_1_method_50_code
def yX4_areAlike : MethodName := ⟨RX4, "areAlike", "(IIIII)Z"⟩
abbrev cX4_bothWouldSwap : ByteArray := prog_1_method_51_code
def yX4_bothWouldSwap : MethodName := ⟨RX4, "bothWouldSwap", "(II)Z"⟩
abbrev cX4_rests : ByteArray := prog_1_method_52_code
def yX4_rests : MethodName := ⟨RX4, "rests", "(ZZIZ)Z"⟩
abbrev cX4_toWell : ByteArray := prog_1_method_53_code
def yX4_toWell : MethodName := ⟨RX4, "toWell", "(ZZIZ)I"⟩
abbrev cX4_toInspector : ByteArray := prog_1_method_54_code
def yX4_toInspector : MethodName := ⟨RX4, "toInspector", "(ZZZ)I"⟩
abbrev cX4_setFraction : ByteArray := prog_1_method_55_code
def yX4_setFraction : MethodName := ⟨RX4, "setFraction", "(II)V"⟩
abbrev cX4_commonDivisor : ByteArray := prog_1_method_56_code
def yX4_commonDivisor : MethodName := ⟨RX4, "commonDivisor", "(II)I"⟩
abbrev cX4_howMany : ByteArray := prog_1_method_57_code
def yX4_howMany : MethodName := ⟨RX4, "howMany", "(I)I"⟩
def RX5 : String := "WishMeterModel"
def TX5 : u_T := fun k => match k with
  | 0 => ("WishMeterModel", "told", "[I", true)
  | 1 => ("WishMeterModel", "kept", "[I", true)
  | 2 => ("WishMeterModel", "isKept", "[Z", true)
  | 3 => ("WishMeterModel", "refused", "[I", true)
  | 4 => ("WishMeterModel", "above", "J", false)
  | 5 => ("WishMeterModel", "below", "J", false)
  | 6 => ("WishMeterModel", "gets", "[I", true)
  | 7 => ("WishMeterModel", "ahead", "[I", true)
  | 8 => ("WishMeterModel", "leftBehind", "I", false)
  | 9 => ("WishMeterModel", "dayGets", "[I", true)
  | 10 => ("WishMeterModel", "dayDue", "[I", true)
  | 11 => ("WishMeterModel", "own", "[I", true)
  | 12 => ("WishMeterModel", "ownGets", "[I", true)
  | 13 => ("WishMeterModel", "bestOwn", "[I", true)
  | 14 => ("WishMeterModel", "alone", "[I", true)
  | 15 => ("WishMeterModel", "atMuch", "[I", true)
  | 16 => ("WishMeterModel", "hand", "[I", true)
  | 17 => ("WishMeterModel", "his", "[I", true)
  | 18 => ("WishMeterModel", "its", "[I", true)
  | 19 => ("WishMeterModel", "bytes", "[I", true)
  | 20 => ("WishMeterModel", "bytesLong", "I", false)
  | 21 => ("WishMeterModel", "tokenAt", "I", false)
  | 22 => ("WishMeterModel", "tokenLong", "I", false)
  | 23 => ("WishMeterModel", "token", "I", false)
  | 24 => ("WishMeterModel", "value", "I", false)
  | 25 => ("WishMeterModel", "anew", "[I", true)
  | 26 => ("WishMeterModel", "values", "[I", true)
  | _ => ("WishMeterModel", "takenHours", "I", false)
def tyX5 : Nat → FieldType := fun k => match k with
  | 0 => .array .int
  | 1 => .array .int
  | 2 => .array .boolean
  | 3 => .array .int
  | 4 => .long
  | 5 => .long
  | 6 => .array .int
  | 7 => .array .int
  | 8 => .int
  | 9 => .array .int
  | 10 => .array .int
  | 11 => .array .int
  | 12 => .array .int
  | 13 => .array .int
  | 14 => .array .int
  | 15 => .array .int
  | 16 => .array .int
  | 17 => .array .int
  | 18 => .array .int
  | 19 => .array .int
  | 20 => .int
  | 21 => .int
  | 22 => .int
  | 23 => .int
  | 24 => .int
  | 25 => .array .int
  | 26 => .array .int
  | _ => .int
theorem nmX5 : ∀ a, a < 28 → ∀ b, b < 28 → a ≠ b → (TX5 a).2.1 ≠ (TX5 b).2.1 := by decide +kernel
theorem tyX5_ok : ∀ k, k < 28 → parseFieldDescriptor (TX5 k).2.2.1 = some (tyX5 k) := by decide +kernel
abbrev cX5_init : ByteArray := prog_7_method_1_code
def yX5_init : MethodName := ⟨RX5, "<init>", "()V"⟩
abbrev cX5_in : ByteArray := prog_7_method_3_code
def yX5_in : MethodName := ⟨RX5, "in", "(JJJ)Z"⟩
abbrev cX5_bad : ByteArray := prog_7_method_4_code
def yX5_bad : MethodName := ⟨RX5, "bad", "(I)I"⟩
abbrev cX5_no : ByteArray := prog_7_method_5_code
def yX5_no : MethodName := ⟨RX5, "no", "()I"⟩
abbrev cX5_full : ByteArray := prog_7_method_6_code
def yX5_full : MethodName := ⟨RX5, "full", "()I"⟩
abbrev cX5_has : ByteArray := prog_7_method_8_code
def yX5_has : MethodName := ⟨RX5, "has", "(II)Z"⟩
abbrev cX5_begin : ByteArray := prog_7_method_9_code
def yX5_begin : MethodName := ⟨RX5, "begin", "([II)V"⟩
abbrev cX5_many : ByteArray := prog_7_method_10_code
def yX5_many : MethodName := ⟨RX5, "many", "()I"⟩
abbrev cX5_isWell : ByteArray := prog_7_method_11_code
def yX5_isWell : MethodName := ⟨RX5, "isWell", "(I)Z"⟩
abbrev cX5_isHour : ByteArray := prog_7_method_12_code
def yX5_isHour : MethodName := ⟨RX5, "isHour", "(I)Z"⟩
abbrev cX5_isPressure : ByteArray := prog_7_method_13_code
def yX5_isPressure : MethodName := ⟨RX5, "isPressure", "(I)Z"⟩
abbrev cX5_isWanted : ByteArray := prog_7_method_14_code
def yX5_isWanted : MethodName := ⟨RX5, "isWanted", "(I)Z"⟩
abbrev cX5_board : ByteArray := prog_7_method_15_code
def yX5_board : MethodName := ⟨RX5, "board", "(I)I"⟩
abbrev cX5_layWell : ByteArray := prog_7_method_16_code
def yX5_layWell : MethodName := ⟨RX5, "layWell", "([IIII)V"⟩
abbrev cX5_well : ByteArray := prog_7_method_17_code
def yX5_well : MethodName := ⟨RX5, "well", "(III)I"⟩
abbrev cX5_getsAs : ByteArray := prog_7_method_18_code
def yX5_getsAs : MethodName := ⟨RX5, "getsAs", "(IIII)I"⟩
abbrev cX5_dueAs : ByteArray := prog_7_method_19_code
def yX5_dueAs : MethodName := ⟨RX5, "dueAs", "(II)I"⟩
abbrev cX5_goHour : ByteArray := prog_7_method_20_code
def yX5_goHour : MethodName := ⟨RX5, "goHour", "([IIII)V"⟩
abbrev cX5_openIn : ByteArray := prog_7_method_21_code
def yX5_openIn : MethodName := ⟨RX5, "openIn", "([II)I"⟩
abbrev cX5_sumOf : ByteArray := prog_7_method_22_code
def yX5_sumOf : MethodName := ⟨RX5, "sumOf", "([I)I"⟩
abbrev cX5_layDay : ByteArray := prog_7_method_23_code
def yX5_layDay : MethodName := ⟨RX5, "layDay", "([III)V"⟩
abbrev cX5_passDay : ByteArray := prog_7_method_24_code
def yX5_passDay : MethodName := ⟨RX5, "passDay", "([I)I"⟩
abbrev cX5_keep : ByteArray := prog_7_method_25_code
def yX5_keep : MethodName := ⟨RX5, "keep", "()V"⟩
abbrev cX5_day : ByteArray := prog_7_method_26_code
def yX5_day : MethodName := ⟨RX5, "day", "(I)I"⟩
abbrev cX5_turn : ByteArray := prog_7_method_27_code
def yX5_turn : MethodName := ⟨RX5, "turn", "(II)I"⟩
abbrev cX5_want : ByteArray := prog_7_method_28_code
def yX5_want : MethodName := ⟨RX5, "want", "(II)I"⟩
abbrev cX5_press : ByteArray := prog_7_method_29_code
def yX5_press : MethodName := ⟨RX5, "press", "(I)I"⟩
abbrev cX5_undo : ByteArray := prog_7_method_30_code
def yX5_undo : MethodName := ⟨RX5, "undo", "()I"⟩
abbrev cX5_of : ByteArray := prog_7_method_31_code
def yX5_of : MethodName := ⟨RX5, "of", "(II)I"⟩
abbrev cX5_hour : ByteArray := prog_7_method_32_code
def yX5_hour : MethodName := ⟨RX5, "hour", "(III)I"⟩
abbrev cX5_daily : ByteArray := prog_7_method_33_code
def yX5_daily : MethodName := ⟨RX5, "daily", "(II)I"⟩
abbrev cX5_layOwn : ByteArray := prog_7_method_34_code
def yX5_layOwn : MethodName := ⟨RX5, "layOwn", "(I)V"⟩
abbrev cX5_turns : ByteArray := prog_7_method_35_code
def yX5_turns : MethodName := ⟨RX5, "turns", "(I)I"⟩
abbrev cX5_bestAlone : ByteArray := prog_7_method_36_code
def yX5_bestAlone : MethodName := ⟨RX5, "bestAlone", "(I)I"⟩
abbrev cX5_dueIfFair : ByteArray := prog_7_method_37_code
def yX5_dueIfFair : MethodName := ⟨RX5, "dueIfFair", "()I"⟩
abbrev cX5_fair : ByteArray := prog_7_method_38_code
def yX5_fair : MethodName := ⟨RX5, "fair", "(I)I"⟩
abbrev cX5_least : ByteArray := prog_7_method_39_code
def yX5_least : MethodName := ⟨RX5, "least", "()I"⟩
abbrev cX5_shut : ByteArray := prog_7_method_40_code
def yX5_shut : MethodName := ⟨RX5, "shut", "(I)I"⟩
abbrev cX5_left : ByteArray := prog_7_method_41_code
def yX5_left : MethodName := ⟨RX5, "left", "(II)I"⟩
abbrev cX5_mayHaveDrawn : ByteArray := prog_7_method_42_code
def yX5_mayHaveDrawn : MethodName := ⟨RX5, "mayHaveDrawn", "(I)Z"⟩
abbrev cX5_drew : ByteArray := prog_7_method_43_code
def yX5_drew : MethodName := ⟨RX5, "drew", "(I)I"⟩
abbrev cX5_note : ByteArray := prog_7_method_44_code
def yX5_note : MethodName := ⟨RX5, "note", "(IIIIII)I"⟩
abbrev cX5_forget : ByteArray := prog_7_method_45_code
def yX5_forget : MethodName := ⟨RX5, "forget", "(I)I"⟩
abbrev cX5_kindsOf : ByteArray := prog_7_method_46_code
def yX5_kindsOf : MethodName := ⟨RX5, "kindsOf", "(I)I"⟩
abbrev cX5_is : ByteArray := prog_7_method_47_code
def yX5_is : MethodName := ⟨RX5, "is", "(I)I"⟩
abbrev cX5_areAlike : ByteArray := prog_7_method_48_code
def yX5_areAlike : MethodName := ⟨RX5, "areAlike", "(IIIII)Z"⟩
abbrev cX5_look : ByteArray := prog_7_method_49_code
def yX5_look : MethodName := ⟨RX5, "look", "(I)I"⟩
abbrev cX5_wouldBoth : ByteArray := prog_7_method_50_code
def yX5_wouldBoth : MethodName := ⟨RX5, "wouldBoth", "(II)Z"⟩
abbrev cX5_swaps : ByteArray := prog_7_method_51_code
def yX5_swaps : MethodName := ⟨RX5, "swaps", "(I)I"⟩
abbrev cX5_inspector : ByteArray := prog_7_method_52_code
def yX5_inspector : MethodName := ⟨RX5, "inspector", "(II)I"⟩
abbrev cX5_fraction : ByteArray := prog_7_method_53_code
def yX5_fraction : MethodName := ⟨RX5, "fraction", "(JJ)V"⟩
abbrev cX5_noons : ByteArray := prog_7_method_54_code
def yX5_noons : MethodName := ⟨RX5, "noons", "(III)I"⟩
abbrev cX5_years : ByteArray := prog_7_method_55_code
def yX5_years : MethodName := ⟨RX5, "years", "(II)I"⟩
abbrev cX5_type : ByteArray := prog_7_method_56_code
def yX5_type : MethodName := ⟨RX5, "type", "(I)I"⟩
abbrev cX5_clear : ByteArray := prog_7_method_57_code
def yX5_clear : MethodName := ⟨RX5, "clear", "()I"⟩
abbrev cX5_isSmall : ByteArray := prog_7_method_58_code
def yX5_isSmall : MethodName := ⟨RX5, "isSmall", "(I)Z"⟩
abbrev cX5_isFigure : ByteArray := prog_7_method_59_code
def yX5_isFigure : MethodName := ⟨RX5, "isFigure", "(I)Z"⟩
abbrev cX5_lookAt : ByteArray := prog_7_method_60_code
def yX5_lookAt : MethodName := ⟨RX5, "lookAt", "(I)V"⟩
abbrev cX5_goBehind : ByteArray := prog_7_method_61_code
def yX5_goBehind : MethodName := ⟨RX5, "goBehind", "()V"⟩
abbrev cX5_spells : ByteArray := prog_7_method_62_code
def yX5_spells : MethodName := ⟨RX5, "spells", "(IIIIIII)Z"⟩
abbrev cX5_takes : ByteArray := prog_7_method_63_code
def yX5_takes : MethodName := ⟨RX5, "takes", "(III)Z"⟩
abbrev cX5_takesHours : ByteArray := prog_7_method_64_code
def yX5_takesHours : MethodName := ⟨RX5, "takesHours", "()Z"⟩
abbrev cX5_takesMain : ByteArray := prog_7_method_65_code
def yX5_takesMain : MethodName := ⟨RX5, "takesMain", "()Z"⟩
abbrev cX5_takesWell : ByteArray := prog_7_method_66_code
def yX5_takesWell : MethodName := ⟨RX5, "takesWell", "()Z"⟩
abbrev cX5_takesTurn : ByteArray := prog_7_method_67_code
def yX5_takesTurn : MethodName := ⟨RX5, "takesTurn", "()Z"⟩
abbrev cX5_takesDay : ByteArray := prog_7_method_68_code
def yX5_takesDay : MethodName := ⟨RX5, "takesDay", "()Z"⟩
abbrev cX5_takesItem : ByteArray := prog_7_method_69_code
def yX5_takesItem : MethodName := ⟨RX5, "takesItem", "()Z"⟩
abbrev cX5_read : ByteArray := prog_7_method_70_code
def yX5_read : MethodName := ⟨RX5, "read", "()I"⟩
abbrev cX5_part : ByteArray := prog_7_method_71_code
def yX5_part : MethodName := ⟨RX5, "part", "(I)J"⟩
abbrev cX5_image : ByteArray := prog_7_method_72_code
def yX5_image : MethodName := ⟨RX5, "image", "(I)I"⟩
abbrev cX5_from : ByteArray := prog_7_method_73_code
def yX5_from : MethodName := ⟨RX5, "from", "(I)I"⟩
abbrev cX5_status : ByteArray := prog_7_method_74_code
def yX5_status : MethodName := ⟨RX5, "status", "(I)I"⟩
abbrev cX5_allOf : ByteArray := prog_7_method_75_code
def yX5_allOf : MethodName := ⟨RX5, "allOf", "(I)I"⟩
abbrev cX5_counted : ByteArray := prog_7_method_76_code
def yX5_counted : MethodName := ⟨RX5, "counted", "(I)I"⟩
abbrev cX5_count : ByteArray := prog_7_method_77_code
def yX5_count : MethodName := ⟨RX5, "count", "(I)I"⟩
abbrev cX5_sums : ByteArray := prog_7_method_78_code
def yX5_sums : MethodName := ⟨RX5, "sums", "(JII)J"⟩
abbrev cX5_digest : ByteArray := prog_7_method_79_code
def yX5_digest : MethodName := ⟨RX5, "digest", "()J"⟩
def RL : String := "WishMeterLaw"
abbrev cL_law : ByteArray := code
def yL_law : MethodName := ⟨RL, "law", "([I)Z"⟩
abbrev vwCl : List vw_C := [(RX1, TX1, 18), (RX2, TX2, 7), (RX3, TX3, 7), (RX4, TX4, 9), (RX5, TX5, 28)]
/-- every word of the tables that a callee may be given: one list for every method -/
def WALL : List Cond := lw_tbl.filter goodWord
theorem mw0 {w : Cond} (h : w ∈ lw_tbl) (g : goodWord w = true) : w ∈ WALL := List.mem_filter.mpr ⟨h, g⟩
theorem mem_i {l : List Cond} {w : Cond} (i : Nat) (h : l[i]? = some w) : w ∈ l := List.mem_of_getElem? h
theorem mc {c w : Cond} (h : w ∈ WALL) : w ∈ c :: WALL := List.mem_cons_of_mem _ h
theorem wall_good {w : Cond} (h : w ∈ WALL) : (w.onTables && w.keeps) = true ∨ ∃ ty, w = .arrayClass ty := good_of_word (List.mem_filter.mp h).2
theorem wall_tbl {w : Cond} (h : w ∈ WALL) : w ∈ lw_tbl := (List.mem_filter.mp h).1
theorem goodT {Ts : List Cond} {c1 : Cond} (hT : ∀ w ∈ WALL, w ∈ Ts) (h : c1 ∈ WALL) : GoodIn Ts (c1 :: WALL) := by
  intro w hw
  rcases List.mem_cons.mp hw with e | hw
  · subst e; exact ⟨hT _ h, wall_good h⟩
  · exact ⟨hT _ hw, wall_good hw⟩
theorem goodP {Ts : List Cond} {w : Cond} {r : List Cond} (hT : ∀ w ∈ WALL, w ∈ Ts) (h : w ∈ WALL) (hr : GoodIn Ts r) : GoodIn Ts (w :: r) := by
  intro v hv
  rcases List.mem_cons.mp hv with e | hv
  · subst e; exact ⟨hT _ h, wall_good h⟩
  · exact hr v hv
theorem goodVT {Ts : List Cond} {own C : String} {idx : Nat} {y : MethodName} {c1 : Cond} (hT : ∀ w ∈ WALL, w ∈ Ts) (h1 : Cond.methodLink own idx y ∈ WALL) (h2 : Cond.instanceMethod y ∈ WALL) (h3 : Cond.selects C y y ∈ WALL) (h4 : Cond.initialized C ∈ WALL) (h5 : c1 ∈ WALL) : GoodIn Ts (wsV own idx C y (c1 :: WALL)) := goodP hT h1 (goodP hT h2 (goodP hT h3 (goodP hT h4 (goodT hT h5))))
theorem goodST {Ts : List Cond} {own : String} {idx : Nat} {y : MethodName} {c1 : Cond} (hT : ∀ w ∈ WALL, w ∈ Ts) (h1 : Cond.methodLink own idx y ∈ WALL) (h2 : Cond.static y ∈ WALL) (h3 : Cond.initialized y.cls ∈ WALL) (h5 : c1 ∈ WALL) : GoodIn Ts (va_wsS own idx y (c1 :: WALL)) := goodP hT h1 (goodP hT h2 (goodP hT h3 (goodT hT h5)))
theorem consT {c0 : Cond} : ∀ w ∈ WALL, w ∈ c0 :: WALL := fun _ h => mc h
