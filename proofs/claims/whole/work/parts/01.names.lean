-- ===== PART A: goes FIRST, ahead of the names: the tables' words, and 'selects' of the private methods out of them =====
/-- a private method of a class that the tables say can be made, by its rows of tables_1 -/
def lw_okq (q : MethodName × Nat) : Prop := (q.1.cls ≠ "java/lang/invoke/MethodHandle" ∧ q.1.cls ≠ "java/lang/invoke/VarHandle") ∧ Cond.instantiable q.1.cls q.2 ∈ tables_1 ∧ Cond.privateMethod q.1 ∈ tables_1 ∧ Cond.instanceMethod q.1 ∈ tables_1
theorem lw_p0 : lw_okq (⟨"NotTwice$Reader", "putFirstText", "()V"⟩, 9) := ⟨⟨by decide +kernel, by decide +kernel⟩, List.mem_of_getElem? (i := 81) (by decide +kernel), List.mem_of_getElem? (i := 116) (by decide +kernel), List.mem_of_getElem? (i := 117) (by decide +kernel)⟩
theorem lw_p1 : lw_okq (⟨"NotTwice$Reader", "put", "(I)I"⟩, 9) := ⟨⟨by decide +kernel, by decide +kernel⟩, List.mem_of_getElem? (i := 81) (by decide +kernel), List.mem_of_getElem? (i := 169) (by decide +kernel), List.mem_of_getElem? (i := 170) (by decide +kernel)⟩
theorem lw_p2 : lw_okq (⟨"NotTwice$Reader", "reads", "()Z"⟩, 9) := ⟨⟨by decide +kernel, by decide +kernel⟩, List.mem_of_getElem? (i := 81) (by decide +kernel), List.mem_of_getElem? (i := 173) (by decide +kernel), List.mem_of_getElem? (i := 174) (by decide +kernel)⟩
theorem lw_p3 : lw_okq (⟨"NotTwice$Reader", "step", "()V"⟩, 9) := ⟨⟨by decide +kernel, by decide +kernel⟩, List.mem_of_getElem? (i := 81) (by decide +kernel), List.mem_of_getElem? (i := 177) (by decide +kernel), List.mem_of_getElem? (i := 178) (by decide +kernel)⟩
theorem lw_p4 : lw_okq (⟨"NotTwice$Reader", "word", "()I"⟩, 9) := ⟨⟨by decide +kernel, by decide +kernel⟩, List.mem_of_getElem? (i := 81) (by decide +kernel), List.mem_of_getElem? (i := 184) (by decide +kernel), List.mem_of_getElem? (i := 185) (by decide +kernel)⟩
theorem lw_p5 : lw_okq (⟨"NotTwice$Reader", "numeral", "()I"⟩, 9) := ⟨⟨by decide +kernel, by decide +kernel⟩, List.mem_of_getElem? (i := 81) (by decide +kernel), List.mem_of_getElem? (i := 192) (by decide +kernel), List.mem_of_getElem? (i := 193) (by decide +kernel)⟩
theorem lw_p6 : lw_okq (⟨"NotTwice$Reader", "takes", "(I)Z"⟩, 9) := ⟨⟨by decide +kernel, by decide +kernel⟩, List.mem_of_getElem? (i := 81) (by decide +kernel), List.mem_of_getElem? (i := 256) (by decide +kernel), List.mem_of_getElem? (i := 257) (by decide +kernel)⟩
theorem lw_p7 : lw_okq (⟨"NotTwice$Reader", "readsLevel", "(I)Z"⟩, 9) := ⟨⟨by decide +kernel, by decide +kernel⟩, List.mem_of_getElem? (i := 81) (by decide +kernel), List.mem_of_getElem? (i := 260) (by decide +kernel), List.mem_of_getElem? (i := 261) (by decide +kernel)⟩
theorem lw_p8 : lw_okq (⟨"NotTwice$Reader", "readsOpened", "()Z"⟩, 9) := ⟨⟨by decide +kernel, by decide +kernel⟩, List.mem_of_getElem? (i := 81) (by decide +kernel), List.mem_of_getElem? (i := 264) (by decide +kernel), List.mem_of_getElem? (i := 265) (by decide +kernel)⟩
theorem lw_p9 : lw_okq (⟨"NotTwice$Reader", "write", "(I)V"⟩, 9) := ⟨⟨by decide +kernel, by decide +kernel⟩, List.mem_of_getElem? (i := 81) (by decide +kernel), List.mem_of_getElem? (i := 268) (by decide +kernel), List.mem_of_getElem? (i := 269) (by decide +kernel)⟩
theorem lw_p10 : lw_okq (⟨"NotTwice$Reader", "readsPlain", "()Z"⟩, 9) := ⟨⟨by decide +kernel, by decide +kernel⟩, List.mem_of_getElem? (i := 81) (by decide +kernel), List.mem_of_getElem? (i := 272) (by decide +kernel), List.mem_of_getElem? (i := 273) (by decide +kernel)⟩
theorem lw_p11 : lw_okq (⟨"NotTwice$Reader", "made", "()LNotTwice$Rule;"⟩, 9) := ⟨⟨by decide +kernel, by decide +kernel⟩, List.mem_of_getElem? (i := 81) (by decide +kernel), List.mem_of_getElem? (i := 279) (by decide +kernel), List.mem_of_getElem? (i := 280) (by decide +kernel)⟩
theorem lw_p12 : lw_okq (⟨"NotTwice$Texts", "add", "(LNotTwice$Rule;)I"⟩, 4) := ⟨⟨by decide +kernel, by decide +kernel⟩, List.mem_of_getElem? (i := 57) (by decide +kernel), List.mem_of_getElem? (i := 303) (by decide +kernel), List.mem_of_getElem? (i := 304) (by decide +kernel)⟩
theorem lw_p13 : lw_okq (⟨"NotTwice$Texts", "isFull", "()Z"⟩, 4) := ⟨⟨by decide +kernel, by decide +kernel⟩, List.mem_of_getElem? (i := 57) (by decide +kernel), List.mem_of_getElem? (i := 307) (by decide +kernel), List.mem_of_getElem? (i := 308) (by decide +kernel)⟩
theorem lw_p14 : lw_okq (⟨"NotTwice$Reader", "empty", "()V"⟩, 9) := ⟨⟨by decide +kernel, by decide +kernel⟩, List.mem_of_getElem? (i := 81) (by decide +kernel), List.mem_of_getElem? (i := 311) (by decide +kernel), List.mem_of_getElem? (i := 312) (by decide +kernel)⟩
theorem lw_p15 : lw_okq (⟨"NotTwice$Shelf", "add", "(III)I"⟩, 5) := ⟨⟨by decide +kernel, by decide +kernel⟩, List.mem_of_getElem? (i := 27) (by decide +kernel), List.mem_of_getElem? (i := 463) (by decide +kernel), List.mem_of_getElem? (i := 464) (by decide +kernel)⟩
def lw_privs_1 : List (MethodName × Nat) := [(⟨"NotTwice$Reader", "putFirstText", "()V"⟩, 9), (⟨"NotTwice$Reader", "put", "(I)I"⟩, 9), (⟨"NotTwice$Reader", "reads", "()Z"⟩, 9), (⟨"NotTwice$Reader", "step", "()V"⟩, 9), (⟨"NotTwice$Reader", "word", "()I"⟩, 9), (⟨"NotTwice$Reader", "numeral", "()I"⟩, 9), (⟨"NotTwice$Reader", "takes", "(I)Z"⟩, 9), (⟨"NotTwice$Reader", "readsLevel", "(I)Z"⟩, 9), (⟨"NotTwice$Reader", "readsOpened", "()Z"⟩, 9), (⟨"NotTwice$Reader", "write", "(I)V"⟩, 9), (⟨"NotTwice$Reader", "readsPlain", "()Z"⟩, 9), (⟨"NotTwice$Reader", "made", "()LNotTwice$Rule;"⟩, 9), (⟨"NotTwice$Texts", "add", "(LNotTwice$Rule;)I"⟩, 4), (⟨"NotTwice$Texts", "isFull", "()Z"⟩, 4), (⟨"NotTwice$Reader", "empty", "()V"⟩, 9), (⟨"NotTwice$Shelf", "add", "(III)I"⟩, 5)]
theorem lw_r1 : ∀ q ∈ lw_privs_1, lw_okq q := List.forall_mem_cons.mpr ⟨lw_p0, List.forall_mem_cons.mpr ⟨lw_p1, List.forall_mem_cons.mpr ⟨lw_p2, List.forall_mem_cons.mpr ⟨lw_p3, List.forall_mem_cons.mpr ⟨lw_p4, List.forall_mem_cons.mpr ⟨lw_p5, List.forall_mem_cons.mpr ⟨lw_p6, List.forall_mem_cons.mpr ⟨lw_p7, List.forall_mem_cons.mpr ⟨lw_p8, List.forall_mem_cons.mpr ⟨lw_p9, List.forall_mem_cons.mpr ⟨lw_p10, List.forall_mem_cons.mpr ⟨lw_p11, List.forall_mem_cons.mpr ⟨lw_p12, List.forall_mem_cons.mpr ⟨lw_p13, List.forall_mem_cons.mpr ⟨lw_p14, List.forall_mem_cons.mpr ⟨lw_p15, fun _ h => absurd h List.not_mem_nil⟩⟩⟩⟩⟩⟩⟩⟩⟩⟩⟩⟩⟩⟩⟩⟩
theorem lw_p16 : lw_okq (⟨"NotTwice$Shelf", "has", "(I)Z"⟩, 5) := ⟨⟨by decide +kernel, by decide +kernel⟩, List.mem_of_getElem? (i := 27) (by decide +kernel), List.mem_of_getElem? (i := 471) (by decide +kernel), List.mem_of_getElem? (i := 472) (by decide +kernel)⟩
theorem lw_p17 : lw_okq (⟨"NotTwice$Shelf", "join", "(II)V"⟩, 5) := ⟨⟨by decide +kernel, by decide +kernel⟩, List.mem_of_getElem? (i := 27) (by decide +kernel), List.mem_of_getElem? (i := 476) (by decide +kernel), List.mem_of_getElem? (i := 477) (by decide +kernel)⟩
theorem lw_p18 : lw_okq (⟨"NotTwice$Shelf", "part", "(I)V"⟩, 5) := ⟨⟨by decide +kernel, by decide +kernel⟩, List.mem_of_getElem? (i := 27) (by decide +kernel), List.mem_of_getElem? (i := 480) (by decide +kernel), List.mem_of_getElem? (i := 481) (by decide +kernel)⟩
theorem lw_p19 : lw_okq (⟨"NotTwice$People", "come", "(II)I"⟩, 14) := ⟨⟨by decide +kernel, by decide +kernel⟩, List.mem_of_getElem? (i := 315) (by decide +kernel), List.mem_of_getElem? (i := 489) (by decide +kernel), List.mem_of_getElem? (i := 490) (by decide +kernel)⟩
theorem lw_p20 : lw_okq (⟨"NotTwice$People", "sit", "(III)V"⟩, 14) := ⟨⟨by decide +kernel, by decide +kernel⟩, List.mem_of_getElem? (i := 315) (by decide +kernel), List.mem_of_getElem? (i := 494) (by decide +kernel), List.mem_of_getElem? (i := 495) (by decide +kernel)⟩
theorem lw_p21 : lw_okq (⟨"NotTwice$People", "has", "(I)Z"⟩, 14) := ⟨⟨by decide +kernel, by decide +kernel⟩, List.mem_of_getElem? (i := 315) (by decide +kernel), List.mem_of_getElem? (i := 502) (by decide +kernel), List.mem_of_getElem? (i := 503) (by decide +kernel)⟩
theorem lw_p22 : lw_okq (⟨"NotTwice$People", "hear", "(II)V"⟩, 14) := ⟨⟨by decide +kernel, by decide +kernel⟩, List.mem_of_getElem? (i := 315) (by decide +kernel), List.mem_of_getElem? (i := 516) (by decide +kernel), List.mem_of_getElem? (i := 517) (by decide +kernel)⟩
theorem lw_p23 : lw_okq (⟨"NotTwice$People", "forget", "(II)V"⟩, 14) := ⟨⟨by decide +kernel, by decide +kernel⟩, List.mem_of_getElem? (i := 315) (by decide +kernel), List.mem_of_getElem? (i := 520) (by decide +kernel), List.mem_of_getElem? (i := 521) (by decide +kernel)⟩
theorem lw_p24 : lw_okq (⟨"NotTwice$Shelf", "stays", "(I)I"⟩, 5) := ⟨⟨by decide +kernel, by decide +kernel⟩, List.mem_of_getElem? (i := 27) (by decide +kernel), List.mem_of_getElem? (i := 528) (by decide +kernel), List.mem_of_getElem? (i := 529) (by decide +kernel)⟩
theorem lw_p25 : lw_okq (⟨"NotTwice$Shelf", "counts", "(II)I"⟩, 5) := ⟨⟨by decide +kernel, by decide +kernel⟩, List.mem_of_getElem? (i := 27) (by decide +kernel), List.mem_of_getElem? (i := 533) (by decide +kernel), List.mem_of_getElem? (i := 534) (by decide +kernel)⟩
theorem lw_p26 : lw_okq (⟨"NotTwice$People", "knows", "(I)I"⟩, 14) := ⟨⟨by decide +kernel, by decide +kernel⟩, List.mem_of_getElem? (i := 315) (by decide +kernel), List.mem_of_getElem? (i := 541) (by decide +kernel), List.mem_of_getElem? (i := 542) (by decide +kernel)⟩
theorem lw_p27 : lw_okq (⟨"NotTwice$Shelf", "withTwins", "(I)I"⟩, 5) := ⟨⟨by decide +kernel, by decide +kernel⟩, List.mem_of_getElem? (i := 27) (by decide +kernel), List.mem_of_getElem? (i := 545) (by decide +kernel), List.mem_of_getElem? (i := 546) (by decide +kernel)⟩
theorem lw_p28 : lw_okq (⟨"NotTwice$Reader", "place", "()I"⟩, 9) := ⟨⟨by decide +kernel, by decide +kernel⟩, List.mem_of_getElem? (i := 81) (by decide +kernel), List.mem_of_getElem? (i := 559) (by decide +kernel), List.mem_of_getElem? (i := 560) (by decide +kernel)⟩
theorem lw_p29 : lw_okq (⟨"NotTwice$Texts", "has", "(I)Z"⟩, 4) := ⟨⟨by decide +kernel, by decide +kernel⟩, List.mem_of_getElem? (i := 57) (by decide +kernel), List.mem_of_getElem? (i := 567) (by decide +kernel), List.mem_of_getElem? (i := 568) (by decide +kernel)⟩
theorem lw_p30 : lw_okq (⟨"NotTwice$People", "tellableIn", "(I)I"⟩, 14) := ⟨⟨by decide +kernel, by decide +kernel⟩, List.mem_of_getElem? (i := 315) (by decide +kernel), List.mem_of_getElem? (i := 576) (by decide +kernel), List.mem_of_getElem? (i := 577) (by decide +kernel)⟩
theorem lw_p31 : lw_okq (⟨"NotTwice$People", "lookInto", "(I)V"⟩, 14) := ⟨⟨by decide +kernel, by decide +kernel⟩, List.mem_of_getElem? (i := 315) (by decide +kernel), List.mem_of_getElem? (i := 580) (by decide +kernel), List.mem_of_getElem? (i := 581) (by decide +kernel)⟩
def lw_privs_2 : List (MethodName × Nat) := [(⟨"NotTwice$Shelf", "has", "(I)Z"⟩, 5), (⟨"NotTwice$Shelf", "join", "(II)V"⟩, 5), (⟨"NotTwice$Shelf", "part", "(I)V"⟩, 5), (⟨"NotTwice$People", "come", "(II)I"⟩, 14), (⟨"NotTwice$People", "sit", "(III)V"⟩, 14), (⟨"NotTwice$People", "has", "(I)Z"⟩, 14), (⟨"NotTwice$People", "hear", "(II)V"⟩, 14), (⟨"NotTwice$People", "forget", "(II)V"⟩, 14), (⟨"NotTwice$Shelf", "stays", "(I)I"⟩, 5), (⟨"NotTwice$Shelf", "counts", "(II)I"⟩, 5), (⟨"NotTwice$People", "knows", "(I)I"⟩, 14), (⟨"NotTwice$Shelf", "withTwins", "(I)I"⟩, 5), (⟨"NotTwice$Reader", "place", "()I"⟩, 9), (⟨"NotTwice$Texts", "has", "(I)Z"⟩, 4), (⟨"NotTwice$People", "tellableIn", "(I)I"⟩, 14), (⟨"NotTwice$People", "lookInto", "(I)V"⟩, 14)]
theorem lw_r2 : ∀ q ∈ lw_privs_2, lw_okq q := List.forall_mem_cons.mpr ⟨lw_p16, List.forall_mem_cons.mpr ⟨lw_p17, List.forall_mem_cons.mpr ⟨lw_p18, List.forall_mem_cons.mpr ⟨lw_p19, List.forall_mem_cons.mpr ⟨lw_p20, List.forall_mem_cons.mpr ⟨lw_p21, List.forall_mem_cons.mpr ⟨lw_p22, List.forall_mem_cons.mpr ⟨lw_p23, List.forall_mem_cons.mpr ⟨lw_p24, List.forall_mem_cons.mpr ⟨lw_p25, List.forall_mem_cons.mpr ⟨lw_p26, List.forall_mem_cons.mpr ⟨lw_p27, List.forall_mem_cons.mpr ⟨lw_p28, List.forall_mem_cons.mpr ⟨lw_p29, List.forall_mem_cons.mpr ⟨lw_p30, List.forall_mem_cons.mpr ⟨lw_p31, fun _ h => absurd h List.not_mem_nil⟩⟩⟩⟩⟩⟩⟩⟩⟩⟩⟩⟩⟩⟩⟩⟩
theorem lw_p32 : lw_okq (⟨"NotTwice$People", "tellableOf", "(II)I"⟩, 14) := ⟨⟨by decide +kernel, by decide +kernel⟩, List.mem_of_getElem? (i := 315) (by decide +kernel), List.mem_of_getElem? (i := 585) (by decide +kernel), List.mem_of_getElem? (i := 586) (by decide +kernel)⟩
theorem lw_p33 : lw_okq (⟨"NotTwice$People", "newToOthers", "(I)I"⟩, 14) := ⟨⟨by decide +kernel, by decide +kernel⟩, List.mem_of_getElem? (i := 315) (by decide +kernel), List.mem_of_getElem? (i := 589) (by decide +kernel), List.mem_of_getElem? (i := 590) (by decide +kernel)⟩
theorem lw_p34 : lw_okq (⟨"NotTwice$Shelf", "all", "()I"⟩, 5) := ⟨⟨by decide +kernel, by decide +kernel⟩, List.mem_of_getElem? (i := 27) (by decide +kernel), List.mem_of_getElem? (i := 593) (by decide +kernel), List.mem_of_getElem? (i := 594) (by decide +kernel)⟩
theorem lw_p35 : lw_okq (⟨"NotTwice$People", "value", "(IIII)I"⟩, 14) := ⟨⟨by decide +kernel, by decide +kernel⟩, List.mem_of_getElem? (i := 315) (by decide +kernel), List.mem_of_getElem? (i := 597) (by decide +kernel), List.mem_of_getElem? (i := 598) (by decide +kernel)⟩
theorem lw_p36 : lw_okq (⟨"NotTwice$Texts", "at", "(I)LNotTwice$Rule;"⟩, 4) := ⟨⟨by decide +kernel, by decide +kernel⟩, List.mem_of_getElem? (i := 57) (by decide +kernel), List.mem_of_getElem? (i := 601) (by decide +kernel), List.mem_of_getElem? (i := 602) (by decide +kernel)⟩
theorem lw_p37 : lw_okq (⟨"NotTwice$Rule", "value", "(I[I[I)I"⟩, 3) := ⟨⟨by decide +kernel, by decide +kernel⟩, List.mem_of_getElem? (i := 283) (by decide +kernel), List.mem_of_getElem? (i := 612) (by decide +kernel), List.mem_of_getElem? (i := 613) (by decide +kernel)⟩
theorem lw_p38 : lw_okq (⟨"NotTwice$People", "byWhom", "(II)I"⟩, 14) := ⟨⟨by decide +kernel, by decide +kernel⟩, List.mem_of_getElem? (i := 315) (by decide +kernel), List.mem_of_getElem? (i := 623) (by decide +kernel), List.mem_of_getElem? (i := 624) (by decide +kernel)⟩
theorem lw_p39 : lw_okq (⟨"NotTwice$People", "firstTeller", "(II)I"⟩, 14) := ⟨⟨by decide +kernel, by decide +kernel⟩, List.mem_of_getElem? (i := 315) (by decide +kernel), List.mem_of_getElem? (i := 627) (by decide +kernel), List.mem_of_getElem? (i := 628) (by decide +kernel)⟩
theorem lw_p40 : lw_okq (⟨"NotTwice$People", "worthOf", "(II)J"⟩, 14) := ⟨⟨by decide +kernel, by decide +kernel⟩, List.mem_of_getElem? (i := 315) (by decide +kernel), List.mem_of_getElem? (i := 635) (by decide +kernel), List.mem_of_getElem? (i := 636) (by decide +kernel)⟩
theorem lw_p41 : lw_okq (⟨"NotTwice$People", "worthBy", "(II)J"⟩, 14) := ⟨⟨by decide +kernel, by decide +kernel⟩, List.mem_of_getElem? (i := 315) (by decide +kernel), List.mem_of_getElem? (i := 640) (by decide +kernel), List.mem_of_getElem? (i := 641) (by decide +kernel)⟩
theorem lw_p42 : lw_okq (⟨"NotTwice$People", "bestOf", "(I)I"⟩, 14) := ⟨⟨by decide +kernel, by decide +kernel⟩, List.mem_of_getElem? (i := 315) (by decide +kernel), List.mem_of_getElem? (i := 654) (by decide +kernel), List.mem_of_getElem? (i := 655) (by decide +kernel)⟩
theorem lw_p43 : lw_okq (⟨"NotTwice$People", "spend", "(II)I"⟩, 14) := ⟨⟨by decide +kernel, by decide +kernel⟩, List.mem_of_getElem? (i := 315) (by decide +kernel), List.mem_of_getElem? (i := 662) (by decide +kernel), List.mem_of_getElem? (i := 663) (by decide +kernel)⟩
theorem lw_p44 : lw_okq (⟨"NotTwice$People", "sleep", "()V"⟩, 14) := ⟨⟨by decide +kernel, by decide +kernel⟩, List.mem_of_getElem? (i := 315) (by decide +kernel), List.mem_of_getElem? (i := 671) (by decide +kernel), List.mem_of_getElem? (i := 672) (by decide +kernel)⟩
theorem lw_p45 : lw_okq (⟨"NotTwice$People", "unheardIn", "(I)I"⟩, 14) := ⟨⟨by decide +kernel, by decide +kernel⟩, List.mem_of_getElem? (i := 315) (by decide +kernel), List.mem_of_getElem? (i := 681) (by decide +kernel), List.mem_of_getElem? (i := 682) (by decide +kernel)⟩
theorem lw_p46 : lw_okq (⟨"NotTwice", "canTellAll", "(II)Z"⟩, 9) := ⟨⟨by decide +kernel, by decide +kernel⟩, List.mem_of_getElem? (i := 19) (by decide +kernel), List.mem_of_getElem? (i := 686) (by decide +kernel), List.mem_of_getElem? (i := 687) (by decide +kernel)⟩
theorem lw_p47 : lw_okq (⟨"NotTwice$People", "takeAll", "(LNotTwice$People;)V"⟩, 14) := ⟨⟨by decide +kernel, by decide +kernel⟩, List.mem_of_getElem? (i := 315) (by decide +kernel), List.mem_of_getElem? (i := 690) (by decide +kernel), List.mem_of_getElem? (i := 691) (by decide +kernel)⟩
def lw_privs_3 : List (MethodName × Nat) := [(⟨"NotTwice$People", "tellableOf", "(II)I"⟩, 14), (⟨"NotTwice$People", "newToOthers", "(I)I"⟩, 14), (⟨"NotTwice$Shelf", "all", "()I"⟩, 5), (⟨"NotTwice$People", "value", "(IIII)I"⟩, 14), (⟨"NotTwice$Texts", "at", "(I)LNotTwice$Rule;"⟩, 4), (⟨"NotTwice$Rule", "value", "(I[I[I)I"⟩, 3), (⟨"NotTwice$People", "byWhom", "(II)I"⟩, 14), (⟨"NotTwice$People", "firstTeller", "(II)I"⟩, 14), (⟨"NotTwice$People", "worthOf", "(II)J"⟩, 14), (⟨"NotTwice$People", "worthBy", "(II)J"⟩, 14), (⟨"NotTwice$People", "bestOf", "(I)I"⟩, 14), (⟨"NotTwice$People", "spend", "(II)I"⟩, 14), (⟨"NotTwice$People", "sleep", "()V"⟩, 14), (⟨"NotTwice$People", "unheardIn", "(I)I"⟩, 14), (⟨"NotTwice", "canTellAll", "(II)Z"⟩, 9), (⟨"NotTwice$People", "takeAll", "(LNotTwice$People;)V"⟩, 14)]
theorem lw_r3 : ∀ q ∈ lw_privs_3, lw_okq q := List.forall_mem_cons.mpr ⟨lw_p32, List.forall_mem_cons.mpr ⟨lw_p33, List.forall_mem_cons.mpr ⟨lw_p34, List.forall_mem_cons.mpr ⟨lw_p35, List.forall_mem_cons.mpr ⟨lw_p36, List.forall_mem_cons.mpr ⟨lw_p37, List.forall_mem_cons.mpr ⟨lw_p38, List.forall_mem_cons.mpr ⟨lw_p39, List.forall_mem_cons.mpr ⟨lw_p40, List.forall_mem_cons.mpr ⟨lw_p41, List.forall_mem_cons.mpr ⟨lw_p42, List.forall_mem_cons.mpr ⟨lw_p43, List.forall_mem_cons.mpr ⟨lw_p44, List.forall_mem_cons.mpr ⟨lw_p45, List.forall_mem_cons.mpr ⟨lw_p46, List.forall_mem_cons.mpr ⟨lw_p47, fun _ h => absurd h List.not_mem_nil⟩⟩⟩⟩⟩⟩⟩⟩⟩⟩⟩⟩⟩⟩⟩⟩
theorem lw_p48 : lw_okq (⟨"NotTwice$People", "goBackTo", "(LNotTwice$People;)V"⟩, 14) := ⟨⟨by decide +kernel, by decide +kernel⟩, List.mem_of_getElem? (i := 315) (by decide +kernel), List.mem_of_getElem? (i := 695) (by decide +kernel), List.mem_of_getElem? (i := 696) (by decide +kernel)⟩
theorem lw_p49 : lw_okq (⟨"NotTwice$Seating", "waysOver", "(I)I"⟩, 9) := ⟨⟨by decide +kernel, by decide +kernel⟩, List.mem_of_getElem? (i := 374) (by decide +kernel), List.mem_of_getElem? (i := 703) (by decide +kernel), List.mem_of_getElem? (i := 704) (by decide +kernel)⟩
theorem lw_p50 : lw_okq (⟨"NotTwice$Seating", "search", "(I)V"⟩, 9) := ⟨⟨by decide +kernel, by decide +kernel⟩, List.mem_of_getElem? (i := 374) (by decide +kernel), List.mem_of_getElem? (i := 707) (by decide +kernel), List.mem_of_getElem? (i := 708) (by decide +kernel)⟩
theorem lw_p51 : lw_okq (⟨"NotTwice$Seating", "prepare", "()V"⟩, 9) := ⟨⟨by decide +kernel, by decide +kernel⟩, List.mem_of_getElem? (i := 374) (by decide +kernel), List.mem_of_getElem? (i := 711) (by decide +kernel), List.mem_of_getElem? (i := 712) (by decide +kernel)⟩
theorem lw_p52 : lw_okq (⟨"NotTwice$Seating", "awakeOf", "(II)I"⟩, 9) := ⟨⟨by decide +kernel, by decide +kernel⟩, List.mem_of_getElem? (i := 374) (by decide +kernel), List.mem_of_getElem? (i := 716) (by decide +kernel), List.mem_of_getElem? (i := 717) (by decide +kernel)⟩
theorem lw_p53 : lw_okq (⟨"NotTwice$Seating", "housesWithStory", "(I)I"⟩, 9) := ⟨⟨by decide +kernel, by decide +kernel⟩, List.mem_of_getElem? (i := 374) (by decide +kernel), List.mem_of_getElem? (i := 724) (by decide +kernel), List.mem_of_getElem? (i := 725) (by decide +kernel)⟩
theorem lw_p54 : lw_okq (⟨"NotTwice$Seating", "fillHouses", "(I)V"⟩, 9) := ⟨⟨by decide +kernel, by decide +kernel⟩, List.mem_of_getElem? (i := 374) (by decide +kernel), List.mem_of_getElem? (i := 728) (by decide +kernel), List.mem_of_getElem? (i := 729) (by decide +kernel)⟩
theorem lw_p55 : lw_okq (⟨"NotTwice$Seating", "nextWay", "(I)V"⟩, 9) := ⟨⟨by decide +kernel, by decide +kernel⟩, List.mem_of_getElem? (i := 374) (by decide +kernel), List.mem_of_getElem? (i := 734) (by decide +kernel), List.mem_of_getElem? (i := 735) (by decide +kernel)⟩
theorem lw_p56 : lw_okq (⟨"NotTwice$People", "tellableBy", "(I)I"⟩, 14) := ⟨⟨by decide +kernel, by decide +kernel⟩, List.mem_of_getElem? (i := 315) (by decide +kernel), List.mem_of_getElem? (i := 746) (by decide +kernel), List.mem_of_getElem? (i := 747) (by decide +kernel)⟩
theorem lw_p57 : lw_okq (⟨"NotTwice$Sheets", "has", "(I)Z"⟩, 3) := ⟨⟨by decide +kernel, by decide +kernel⟩, List.mem_of_getElem? (i := 410) (by decide +kernel), List.mem_of_getElem? (i := 764) (by decide +kernel), List.mem_of_getElem? (i := 765) (by decide +kernel)⟩
theorem lw_p58 : lw_okq (⟨"NotTwice$Sheets", "isMissing", "(I)Z"⟩, 3) := ⟨⟨by decide +kernel, by decide +kernel⟩, List.mem_of_getElem? (i := 410) (by decide +kernel), List.mem_of_getElem? (i := 769) (by decide +kernel), List.mem_of_getElem? (i := 770) (by decide +kernel)⟩
theorem lw_p59 : lw_okq (⟨"NotTwice$Sheets", "at", "(II)I"⟩, 3) := ⟨⟨by decide +kernel, by decide +kernel⟩, List.mem_of_getElem? (i := 410) (by decide +kernel), List.mem_of_getElem? (i := 773) (by decide +kernel), List.mem_of_getElem? (i := 774) (by decide +kernel)⟩
theorem lw_p60 : lw_okq (⟨"NotTwice$Sheets", "lay", "(III)V"⟩, 3) := ⟨⟨by decide +kernel, by decide +kernel⟩, List.mem_of_getElem? (i := 410) (by decide +kernel), List.mem_of_getElem? (i := 799) (by decide +kernel), List.mem_of_getElem? (i := 800) (by decide +kernel)⟩
theorem lw_p61 : lw_okq (⟨"NotTwice$Sheets", "reaches", "(II)Z"⟩, 3) := ⟨⟨by decide +kernel, by decide +kernel⟩, List.mem_of_getElem? (i := 410) (by decide +kernel), List.mem_of_getElem? (i := 807) (by decide +kernel), List.mem_of_getElem? (i := 808) (by decide +kernel)⟩
theorem lw_p62 : lw_okq (⟨"NotTwice$Sheets", "write", "(III)V"⟩, 3) := ⟨⟨by decide +kernel, by decide +kernel⟩, List.mem_of_getElem? (i := 410) (by decide +kernel), List.mem_of_getElem? (i := 811) (by decide +kernel), List.mem_of_getElem? (i := 812) (by decide +kernel)⟩
theorem lw_p63 : lw_okq (⟨"NotTwice$Sheets", "hasRun", "(III)Z"⟩, 3) := ⟨⟨by decide +kernel, by decide +kernel⟩, List.mem_of_getElem? (i := 410) (by decide +kernel), List.mem_of_getElem? (i := 819) (by decide +kernel), List.mem_of_getElem? (i := 820) (by decide +kernel)⟩
def lw_privs_4 : List (MethodName × Nat) := [(⟨"NotTwice$People", "goBackTo", "(LNotTwice$People;)V"⟩, 14), (⟨"NotTwice$Seating", "waysOver", "(I)I"⟩, 9), (⟨"NotTwice$Seating", "search", "(I)V"⟩, 9), (⟨"NotTwice$Seating", "prepare", "()V"⟩, 9), (⟨"NotTwice$Seating", "awakeOf", "(II)I"⟩, 9), (⟨"NotTwice$Seating", "housesWithStory", "(I)I"⟩, 9), (⟨"NotTwice$Seating", "fillHouses", "(I)V"⟩, 9), (⟨"NotTwice$Seating", "nextWay", "(I)V"⟩, 9), (⟨"NotTwice$People", "tellableBy", "(I)I"⟩, 14), (⟨"NotTwice$Sheets", "has", "(I)Z"⟩, 3), (⟨"NotTwice$Sheets", "isMissing", "(I)Z"⟩, 3), (⟨"NotTwice$Sheets", "at", "(II)I"⟩, 3), (⟨"NotTwice$Sheets", "lay", "(III)V"⟩, 3), (⟨"NotTwice$Sheets", "reaches", "(II)Z"⟩, 3), (⟨"NotTwice$Sheets", "write", "(III)V"⟩, 3), (⟨"NotTwice$Sheets", "hasRun", "(III)Z"⟩, 3)]
theorem lw_r4 : ∀ q ∈ lw_privs_4, lw_okq q := List.forall_mem_cons.mpr ⟨lw_p48, List.forall_mem_cons.mpr ⟨lw_p49, List.forall_mem_cons.mpr ⟨lw_p50, List.forall_mem_cons.mpr ⟨lw_p51, List.forall_mem_cons.mpr ⟨lw_p52, List.forall_mem_cons.mpr ⟨lw_p53, List.forall_mem_cons.mpr ⟨lw_p54, List.forall_mem_cons.mpr ⟨lw_p55, List.forall_mem_cons.mpr ⟨lw_p56, List.forall_mem_cons.mpr ⟨lw_p57, List.forall_mem_cons.mpr ⟨lw_p58, List.forall_mem_cons.mpr ⟨lw_p59, List.forall_mem_cons.mpr ⟨lw_p60, List.forall_mem_cons.mpr ⟨lw_p61, List.forall_mem_cons.mpr ⟨lw_p62, List.forall_mem_cons.mpr ⟨lw_p63, fun _ h => absurd h List.not_mem_nil⟩⟩⟩⟩⟩⟩⟩⟩⟩⟩⟩⟩⟩⟩⟩⟩
theorem lw_p64 : lw_okq (⟨"NotTwice$Sheets", "carry", "(IIIII)V"⟩, 3) := ⟨⟨by decide +kernel, by decide +kernel⟩, List.mem_of_getElem? (i := 410) (by decide +kernel), List.mem_of_getElem? (i := 823) (by decide +kernel), List.mem_of_getElem? (i := 824) (by decide +kernel)⟩
theorem lw_p65 : lw_okq (⟨"NotTwice$Shelf", "isUnder", "(II)Z"⟩, 5) := ⟨⟨by decide +kernel, by decide +kernel⟩, List.mem_of_getElem? (i := 27) (by decide +kernel), List.mem_of_getElem? (i := 836) (by decide +kernel), List.mem_of_getElem? (i := 837) (by decide +kernel)⟩
theorem lw_p66 : lw_okq (⟨"NotTwiceModel", "spell", "(IIIIIIIII)V"⟩, 51) := ⟨⟨by decide +kernel, by decide +kernel⟩, List.mem_of_getElem? (i := 842) (by decide +kernel), List.mem_of_getElem? (i := 848) (by decide +kernel), List.mem_of_getElem? (i := 849) (by decide +kernel)⟩
theorem lw_p67 : lw_okq (⟨"NotTwiceModel", "isStory", "(I)Z"⟩, 51) := ⟨⟨by decide +kernel, by decide +kernel⟩, List.mem_of_getElem? (i := 842) (by decide +kernel), List.mem_of_getElem? (i := 1019) (by decide +kernel), List.mem_of_getElem? (i := 1020) (by decide +kernel)⟩
theorem lw_p68 : lw_okq (⟨"NotTwiceModel", "parts", "(I)V"⟩, 51) := ⟨⟨by decide +kernel, by decide +kernel⟩, List.mem_of_getElem? (i := 842) (by decide +kernel), List.mem_of_getElem? (i := 1023) (by decide +kernel), List.mem_of_getElem? (i := 1024) (by decide +kernel)⟩
theorem lw_p69 : lw_okq (⟨"NotTwiceModel", "isPerson", "(I)Z"⟩, 51) := ⟨⟨by decide +kernel, by decide +kernel⟩, List.mem_of_getElem? (i := 842) (by decide +kernel), List.mem_of_getElem? (i := 1038) (by decide +kernel), List.mem_of_getElem? (i := 1039) (by decide +kernel)⟩
theorem lw_p70 : lw_okq (⟨"NotTwiceModel", "stays", "(I)I"⟩, 51) := ⟨⟨by decide +kernel, by decide +kernel⟩, List.mem_of_getElem? (i := 842) (by decide +kernel), List.mem_of_getElem? (i := 1052) (by decide +kernel), List.mem_of_getElem? (i := 1053) (by decide +kernel)⟩
theorem lw_p71 : lw_okq (⟨"NotTwiceModel", "counts", "(II)I"⟩, 51) := ⟨⟨by decide +kernel, by decide +kernel⟩, List.mem_of_getElem? (i := 842) (by decide +kernel), List.mem_of_getElem? (i := 1056) (by decide +kernel), List.mem_of_getElem? (i := 1057) (by decide +kernel)⟩
theorem lw_p72 : lw_okq (⟨"NotTwiceModel", "known", "(I)I"⟩, 51) := ⟨⟨by decide +kernel, by decide +kernel⟩, List.mem_of_getElem? (i := 842) (by decide +kernel), List.mem_of_getElem? (i := 1065) (by decide +kernel), List.mem_of_getElem? (i := 1066) (by decide +kernel)⟩
theorem lw_p73 : lw_okq (⟨"NotTwiceModel", "read", "(II)I"⟩, 51) := ⟨⟨by decide +kernel, by decide +kernel⟩, List.mem_of_getElem? (i := 842) (by decide +kernel), List.mem_of_getElem? (i := 1077) (by decide +kernel), List.mem_of_getElem? (i := 1078) (by decide +kernel)⟩
theorem lw_p74 : lw_okq (⟨"NotTwiceModel", "next", "()V"⟩, 51) := ⟨⟨by decide +kernel, by decide +kernel⟩, List.mem_of_getElem? (i := 842) (by decide +kernel), List.mem_of_getElem? (i := 1081) (by decide +kernel), List.mem_of_getElem? (i := 1082) (by decide +kernel)⟩
theorem lw_p75 : lw_okq (⟨"NotTwiceModel", "byteAt", "(I)I"⟩, 51) := ⟨⟨by decide +kernel, by decide +kernel⟩, List.mem_of_getElem? (i := 842) (by decide +kernel), List.mem_of_getElem? (i := 1085) (by decide +kernel), List.mem_of_getElem? (i := 1086) (by decide +kernel)⟩
theorem lw_p76 : lw_okq (⟨"NotTwiceModel", "isWord", "(IIIIIIII)Z"⟩, 51) := ⟨⟨by decide +kernel, by decide +kernel⟩, List.mem_of_getElem? (i := 842) (by decide +kernel), List.mem_of_getElem? (i := 1094) (by decide +kernel), List.mem_of_getElem? (i := 1095) (by decide +kernel)⟩
theorem lw_p77 : lw_okq (⟨"NotTwiceModel", "isLetter", "(II)Z"⟩, 51) := ⟨⟨by decide +kernel, by decide +kernel⟩, List.mem_of_getElem? (i := 842) (by decide +kernel), List.mem_of_getElem? (i := 1098) (by decide +kernel), List.mem_of_getElem? (i := 1099) (by decide +kernel)⟩
theorem lw_p78 : lw_okq (⟨"NotTwiceModel", "part", "(Z)I"⟩, 51) := ⟨⟨by decide +kernel, by decide +kernel⟩, List.mem_of_getElem? (i := 842) (by decide +kernel), List.mem_of_getElem? (i := 1102) (by decide +kernel), List.mem_of_getElem? (i := 1103) (by decide +kernel)⟩
theorem lw_p79 : lw_okq (⟨"NotTwiceModel", "fail", "()V"⟩, 51) := ⟨⟨by decide +kernel, by decide +kernel⟩, List.mem_of_getElem? (i := 842) (by decide +kernel), List.mem_of_getElem? (i := 1106) (by decide +kernel), List.mem_of_getElem? (i := 1107) (by decide +kernel)⟩
def lw_privs_5 : List (MethodName × Nat) := [(⟨"NotTwice$Sheets", "carry", "(IIIII)V"⟩, 3), (⟨"NotTwice$Shelf", "isUnder", "(II)Z"⟩, 5), (⟨"NotTwiceModel", "spell", "(IIIIIIIII)V"⟩, 51), (⟨"NotTwiceModel", "isStory", "(I)Z"⟩, 51), (⟨"NotTwiceModel", "parts", "(I)V"⟩, 51), (⟨"NotTwiceModel", "isPerson", "(I)Z"⟩, 51), (⟨"NotTwiceModel", "stays", "(I)I"⟩, 51), (⟨"NotTwiceModel", "counts", "(II)I"⟩, 51), (⟨"NotTwiceModel", "known", "(I)I"⟩, 51), (⟨"NotTwiceModel", "read", "(II)I"⟩, 51), (⟨"NotTwiceModel", "next", "()V"⟩, 51), (⟨"NotTwiceModel", "byteAt", "(I)I"⟩, 51), (⟨"NotTwiceModel", "isWord", "(IIIIIIII)Z"⟩, 51), (⟨"NotTwiceModel", "isLetter", "(II)Z"⟩, 51), (⟨"NotTwiceModel", "part", "(Z)I"⟩, 51), (⟨"NotTwiceModel", "fail", "()V"⟩, 51)]
theorem lw_r5 : ∀ q ∈ lw_privs_5, lw_okq q := List.forall_mem_cons.mpr ⟨lw_p64, List.forall_mem_cons.mpr ⟨lw_p65, List.forall_mem_cons.mpr ⟨lw_p66, List.forall_mem_cons.mpr ⟨lw_p67, List.forall_mem_cons.mpr ⟨lw_p68, List.forall_mem_cons.mpr ⟨lw_p69, List.forall_mem_cons.mpr ⟨lw_p70, List.forall_mem_cons.mpr ⟨lw_p71, List.forall_mem_cons.mpr ⟨lw_p72, List.forall_mem_cons.mpr ⟨lw_p73, List.forall_mem_cons.mpr ⟨lw_p74, List.forall_mem_cons.mpr ⟨lw_p75, List.forall_mem_cons.mpr ⟨lw_p76, List.forall_mem_cons.mpr ⟨lw_p77, List.forall_mem_cons.mpr ⟨lw_p78, List.forall_mem_cons.mpr ⟨lw_p79, fun _ h => absurd h List.not_mem_nil⟩⟩⟩⟩⟩⟩⟩⟩⟩⟩⟩⟩⟩⟩⟩⟩
theorem lw_p80 : lw_okq (⟨"NotTwiceModel", "either", "()I"⟩, 51) := ⟨⟨by decide +kernel, by decide +kernel⟩, List.mem_of_getElem? (i := 842) (by decide +kernel), List.mem_of_getElem? (i := 1110) (by decide +kernel), List.mem_of_getElem? (i := 1111) (by decide +kernel)⟩
theorem lw_p81 : lw_okq (⟨"NotTwiceModel", "both", "()I"⟩, 51) := ⟨⟨by decide +kernel, by decide +kernel⟩, List.mem_of_getElem? (i := 842) (by decide +kernel), List.mem_of_getElem? (i := 1114) (by decide +kernel), List.mem_of_getElem? (i := 1115) (by decide +kernel)⟩
theorem lw_p82 : lw_okq (⟨"NotTwiceModel", "not", "()I"⟩, 51) := ⟨⟨by decide +kernel, by decide +kernel⟩, List.mem_of_getElem? (i := 842) (by decide +kernel), List.mem_of_getElem? (i := 1118) (by decide +kernel), List.mem_of_getElem? (i := 1119) (by decide +kernel)⟩
theorem lw_p83 : lw_okq (⟨"NotTwiceModel", "opens", "()Z"⟩, 51) := ⟨⟨by decide +kernel, by decide +kernel⟩, List.mem_of_getElem? (i := 842) (by decide +kernel), List.mem_of_getElem? (i := 1122) (by decide +kernel), List.mem_of_getElem? (i := 1123) (by decide +kernel)⟩
theorem lw_p84 : lw_okq (⟨"NotTwiceModel", "added", "()I"⟩, 51) := ⟨⟨by decide +kernel, by decide +kernel⟩, List.mem_of_getElem? (i := 842) (by decide +kernel), List.mem_of_getElem? (i := 1126) (by decide +kernel), List.mem_of_getElem? (i := 1127) (by decide +kernel)⟩
theorem lw_p85 : lw_okq (⟨"NotTwiceModel", "term", "()I"⟩, 51) := ⟨⟨by decide +kernel, by decide +kernel⟩, List.mem_of_getElem? (i := 842) (by decide +kernel), List.mem_of_getElem? (i := 1130) (by decide +kernel), List.mem_of_getElem? (i := 1131) (by decide +kernel)⟩
theorem lw_p86 : lw_okq (⟨"NotTwiceModel", "atom", "()I"⟩, 51) := ⟨⟨by decide +kernel, by decide +kernel⟩, List.mem_of_getElem? (i := 842) (by decide +kernel), List.mem_of_getElem? (i := 1134) (by decide +kernel), List.mem_of_getElem? (i := 1135) (by decide +kernel)⟩
theorem lw_p87 : lw_okq (⟨"NotTwiceModel", "isSign", "(I)Z"⟩, 51) := ⟨⟨by decide +kernel, by decide +kernel⟩, List.mem_of_getElem? (i := 842) (by decide +kernel), List.mem_of_getElem? (i := 1138) (by decide +kernel), List.mem_of_getElem? (i := 1139) (by decide +kernel)⟩
theorem lw_p88 : lw_okq (⟨"NotTwiceModel", "name", "()I"⟩, 51) := ⟨⟨by decide +kernel, by decide +kernel⟩, List.mem_of_getElem? (i := 842) (by decide +kernel), List.mem_of_getElem? (i := 1142) (by decide +kernel), List.mem_of_getElem? (i := 1143) (by decide +kernel)⟩
theorem lw_p89 : lw_okq (⟨"NotTwiceModel", "allMay", "(I)I"⟩, 51) := ⟨⟨by decide +kernel, by decide +kernel⟩, List.mem_of_getElem? (i := 842) (by decide +kernel), List.mem_of_getElem? (i := 1159) (by decide +kernel), List.mem_of_getElem? (i := 1160) (by decide +kernel)⟩
theorem lw_p90 : lw_okq (⟨"NotTwiceModel", "teller", "(II)I"⟩, 51) := ⟨⟨by decide +kernel, by decide +kernel⟩, List.mem_of_getElem? (i := 842) (by decide +kernel), List.mem_of_getElem? (i := 1163) (by decide +kernel), List.mem_of_getElem? (i := 1164) (by decide +kernel)⟩
theorem lw_p91 : lw_okq (⟨"NotTwiceModel", "sitting", "(I)I"⟩, 51) := ⟨⟨by decide +kernel, by decide +kernel⟩, List.mem_of_getElem? (i := 842) (by decide +kernel), List.mem_of_getElem? (i := 1167) (by decide +kernel), List.mem_of_getElem? (i := 1168) (by decide +kernel)⟩
theorem lw_p92 : lw_okq (⟨"NotTwiceModel", "mayTell", "(III)Z"⟩, 51) := ⟨⟨by decide +kernel, by decide +kernel⟩, List.mem_of_getElem? (i := 842) (by decide +kernel), List.mem_of_getElem? (i := 1171) (by decide +kernel), List.mem_of_getElem? (i := 1172) (by decide +kernel)⟩
theorem lw_p93 : lw_okq (⟨"NotTwiceModel", "knowers", "(I)I"⟩, 51) := ⟨⟨by decide +kernel, by decide +kernel⟩, List.mem_of_getElem? (i := 842) (by decide +kernel), List.mem_of_getElem? (i := 1175) (by decide +kernel), List.mem_of_getElem? (i := 1176) (by decide +kernel)⟩
theorem lw_p94 : lw_okq (⟨"NotTwiceModel", "says", "(IIII)I"⟩, 51) := ⟨⟨by decide +kernel, by decide +kernel⟩, List.mem_of_getElem? (i := 842) (by decide +kernel), List.mem_of_getElem? (i := 1182) (by decide +kernel), List.mem_of_getElem? (i := 1183) (by decide +kernel)⟩
theorem lw_p95 : lw_okq (⟨"NotTwiceModel", "worthBy", "(III)I"⟩, 51) := ⟨⟨by decide +kernel, by decide +kernel⟩, List.mem_of_getElem? (i := 842) (by decide +kernel), List.mem_of_getElem? (i := 1195) (by decide +kernel), List.mem_of_getElem? (i := 1196) (by decide +kernel)⟩
def lw_privs_6 : List (MethodName × Nat) := [(⟨"NotTwiceModel", "either", "()I"⟩, 51), (⟨"NotTwiceModel", "both", "()I"⟩, 51), (⟨"NotTwiceModel", "not", "()I"⟩, 51), (⟨"NotTwiceModel", "opens", "()Z"⟩, 51), (⟨"NotTwiceModel", "added", "()I"⟩, 51), (⟨"NotTwiceModel", "term", "()I"⟩, 51), (⟨"NotTwiceModel", "atom", "()I"⟩, 51), (⟨"NotTwiceModel", "isSign", "(I)Z"⟩, 51), (⟨"NotTwiceModel", "name", "()I"⟩, 51), (⟨"NotTwiceModel", "allMay", "(I)I"⟩, 51), (⟨"NotTwiceModel", "teller", "(II)I"⟩, 51), (⟨"NotTwiceModel", "sitting", "(I)I"⟩, 51), (⟨"NotTwiceModel", "mayTell", "(III)Z"⟩, 51), (⟨"NotTwiceModel", "knowers", "(I)I"⟩, 51), (⟨"NotTwiceModel", "says", "(IIII)I"⟩, 51), (⟨"NotTwiceModel", "worthBy", "(III)I"⟩, 51)]
theorem lw_r6 : ∀ q ∈ lw_privs_6, lw_okq q := List.forall_mem_cons.mpr ⟨lw_p80, List.forall_mem_cons.mpr ⟨lw_p81, List.forall_mem_cons.mpr ⟨lw_p82, List.forall_mem_cons.mpr ⟨lw_p83, List.forall_mem_cons.mpr ⟨lw_p84, List.forall_mem_cons.mpr ⟨lw_p85, List.forall_mem_cons.mpr ⟨lw_p86, List.forall_mem_cons.mpr ⟨lw_p87, List.forall_mem_cons.mpr ⟨lw_p88, List.forall_mem_cons.mpr ⟨lw_p89, List.forall_mem_cons.mpr ⟨lw_p90, List.forall_mem_cons.mpr ⟨lw_p91, List.forall_mem_cons.mpr ⟨lw_p92, List.forall_mem_cons.mpr ⟨lw_p93, List.forall_mem_cons.mpr ⟨lw_p94, List.forall_mem_cons.mpr ⟨lw_p95, fun _ h => absurd h List.not_mem_nil⟩⟩⟩⟩⟩⟩⟩⟩⟩⟩⟩⟩⟩⟩⟩⟩
theorem lw_p96 : lw_okq (⟨"NotTwiceModel", "best", "(I)I"⟩, 51) := ⟨⟨by decide +kernel, by decide +kernel⟩, List.mem_of_getElem? (i := 842) (by decide +kernel), List.mem_of_getElem? (i := 1206) (by decide +kernel), List.mem_of_getElem? (i := 1207) (by decide +kernel)⟩
theorem lw_p97 : lw_okq (⟨"NotTwiceModel", "tellIn", "(III)I"⟩, 51) := ⟨⟨by decide +kernel, by decide +kernel⟩, List.mem_of_getElem? (i := 842) (by decide +kernel), List.mem_of_getElem? (i := 1214) (by decide +kernel), List.mem_of_getElem? (i := 1215) (by decide +kernel)⟩
theorem lw_p98 : lw_okq (⟨"NotTwiceModel", "laysAside", "()V"⟩, 51) := ⟨⟨by decide +kernel, by decide +kernel⟩, List.mem_of_getElem? (i := 842) (by decide +kernel), List.mem_of_getElem? (i := 1226) (by decide +kernel), List.mem_of_getElem? (i := 1227) (by decide +kernel)⟩
theorem lw_p99 : lw_okq (⟨"NotTwiceModel", "canAll", "(II)Z"⟩, 51) := ⟨⟨by decide +kernel, by decide +kernel⟩, List.mem_of_getElem? (i := 842) (by decide +kernel), List.mem_of_getElem? (i := 1230) (by decide +kernel), List.mem_of_getElem? (i := 1231) (by decide +kernel)⟩
theorem lw_p100 : lw_okq (⟨"NotTwiceModel", "laysBack", "()V"⟩, 51) := ⟨⟨by decide +kernel, by decide +kernel⟩, List.mem_of_getElem? (i := 842) (by decide +kernel), List.mem_of_getElem? (i := 1234) (by decide +kernel), List.mem_of_getElem? (i := 1235) (by decide +kernel)⟩
theorem lw_p101 : lw_okq (⟨"NotTwiceModel", "housesWith", "(II)I"⟩, 51) := ⟨⟨by decide +kernel, by decide +kernel⟩, List.mem_of_getElem? (i := 842) (by decide +kernel), List.mem_of_getElem? (i := 1242) (by decide +kernel), List.mem_of_getElem? (i := 1243) (by decide +kernel)⟩
theorem lw_p102 : lw_okq (⟨"NotTwiceModel", "anyMay", "(I)Z"⟩, 51) := ⟨⟨by decide +kernel, by decide +kernel⟩, List.mem_of_getElem? (i := 842) (by decide +kernel), List.mem_of_getElem? (i := 1249) (by decide +kernel), List.mem_of_getElem? (i := 1250) (by decide +kernel)⟩
theorem lw_p103 : lw_okq (⟨"NotTwiceModel", "isTired", "(III)Z"⟩, 51) := ⟨⟨by decide +kernel, by decide +kernel⟩, List.mem_of_getElem? (i := 842) (by decide +kernel), List.mem_of_getElem? (i := 1253) (by decide +kernel), List.mem_of_getElem? (i := 1254) (by decide +kernel)⟩
def lw_privs_7 : List (MethodName × Nat) := [(⟨"NotTwiceModel", "best", "(I)I"⟩, 51), (⟨"NotTwiceModel", "tellIn", "(III)I"⟩, 51), (⟨"NotTwiceModel", "laysAside", "()V"⟩, 51), (⟨"NotTwiceModel", "canAll", "(II)Z"⟩, 51), (⟨"NotTwiceModel", "laysBack", "()V"⟩, 51), (⟨"NotTwiceModel", "housesWith", "(II)I"⟩, 51), (⟨"NotTwiceModel", "anyMay", "(I)Z"⟩, 51), (⟨"NotTwiceModel", "isTired", "(III)Z"⟩, 51)]
theorem lw_r7 : ∀ q ∈ lw_privs_7, lw_okq q := List.forall_mem_cons.mpr ⟨lw_p96, List.forall_mem_cons.mpr ⟨lw_p97, List.forall_mem_cons.mpr ⟨lw_p98, List.forall_mem_cons.mpr ⟨lw_p99, List.forall_mem_cons.mpr ⟨lw_p100, List.forall_mem_cons.mpr ⟨lw_p101, List.forall_mem_cons.mpr ⟨lw_p102, List.forall_mem_cons.mpr ⟨lw_p103, fun _ h => absurd h List.not_mem_nil⟩⟩⟩⟩⟩⟩⟩⟩
def lw_privs : List (MethodName × Nat) := lw_privs_1 ++ (lw_privs_2 ++ (lw_privs_3 ++ (lw_privs_4 ++ (lw_privs_5 ++ (lw_privs_6 ++ (lw_privs_7))))))
def lw_tbl : List Cond := k2_sels lw_privs ++ tables_1
theorem lw_privs_ok : ∀ q ∈ lw_privs, lw_okq q := by
  show ∀ q ∈ lw_privs_1 ++ (lw_privs_2 ++ (lw_privs_3 ++ (lw_privs_4 ++ (lw_privs_5 ++ (lw_privs_6 ++ (lw_privs_7)))))), lw_okq q
  exact List.forall_mem_append.mpr ⟨lw_r1, List.forall_mem_append.mpr ⟨lw_r2, List.forall_mem_append.mpr ⟨lw_r3, List.forall_mem_append.mpr ⟨lw_r4, List.forall_mem_append.mpr ⟨lw_r5, List.forall_mem_append.mpr ⟨lw_r6, lw_r7⟩⟩⟩⟩⟩⟩
-- ===== end of PART A; then your names; then what follows =====
/-! ===== BEGIN words of one list among another's, by their places ===== -/
theorem goodIn_r {big : List Cond} (ws : List Cond) (ps : List Nat) (hp : ws = ps.filterMap (fun i => big[i]?)) (h : ws.all goodWord = true) : GoodIn big ws := by
  intro w hw
  have h1 := List.all_eq_true.mp h w hw
  rw [hp] at hw
  obtain ⟨i, -, hi⟩ := List.mem_filterMap.mp hw
  have hm : w ∈ big := by first | exact List.mem_of_getElem? hi | exact List.getElem?_mem hi
  exact ⟨hm, good_of_word h1⟩
theorem goodIn_app {big a b : List Cond} (ha : GoodIn big a) (hb : GoodIn big b) : GoodIn big (a ++ b) := fun w h => (List.mem_append.mp h).elim (ha w) (hb w)
theorem goodIn_ca {big a b : List Cond} {c : Cond} (ha : GoodIn big (c :: a)) (hb : GoodIn big b) : GoodIn big (c :: (a ++ b)) := fun w h => (List.mem_cons.mp h).elim (fun e => ha w (List.mem_cons.mpr (Or.inl e))) (fun h => (List.mem_append.mp h).elim (fun h => ha w (List.mem_cons.mpr (Or.inr h))) (hb w))
theorem goodIn_sub {big ws : List Cond} (hm : ∀ w ∈ ws, w ∈ big) (h : ws.all goodWord = true) : GoodIn big ws := fun w hw => ⟨hm w hw, good_of_word (List.all_eq_true.mp h w hw)⟩
/-! ===== END ===== -/

/-! ===== BEGIN printed: names, fields, word lists, decode rows ===== -/
def RX0 : String := "NotTwice$People"
def TX0 : u_T := fun k => match k with
  | 0 => ("NotTwice$People", "shelf", "LNotTwice$Shelf;", true)
  | 1 => ("NotTwice$People", "texts", "LNotTwice$Texts;", true)
  | 2 => ("NotTwice$People", "house", "[I", true)
  | 3 => ("NotTwice$People", "age", "[I", true)
  | 4 => ("NotTwice$People", "tells", "[I", true)
  | 5 => ("NotTwice$People", "heard", "[I", true)
  | 6 => ("NotTwice$People", "since", "[I", true)
  | 7 => ("NotTwice$People", "size", "I", false)
  | 8 => ("NotTwice$People", "night", "I", false)
  | 9 => ("NotTwice$People", "rule", "I", false)
  | 10 => ("NotTwice$People", "many", "I", false)
  | 11 => ("NotTwice$People", "known", "[I", true)
  | 12 => ("NotTwice$People", "knownToOne", "I", false)
  | _ => ("NotTwice$People", "knownToTwo", "I", false)
def tyX0 : Nat → FieldType := fun k => match k with
  | 0 => .object "NotTwice$Shelf"
  | 1 => .object "NotTwice$Texts"
  | 2 => .array .int
  | 3 => .array .int
  | 4 => .array .int
  | 5 => .array .int
  | 6 => .array .int
  | 7 => .int
  | 8 => .int
  | 9 => .int
  | 10 => .int
  | 11 => .array .int
  | 12 => .int
  | _ => .int
abbrev wsX00 : List Cond := u_ws RX0 TX0 14
theorem nmX0 : ∀ a, a < 14 → ∀ b, b < 14 → a ≠ b → (TX0 a).2.1 ≠ (TX0 b).2.1 := by decide +kernel
theorem tyX0_ok : ∀ k, k < 14 → parseFieldDescriptor (TX0 k).2.2.1 = some (tyX0 k) := by decide +kernel
abbrev cX0_init : ByteArray := prog_2_method_1_code
def yX0_init : MethodName := ⟨RX0, "<init>", "(LNotTwice$Shelf;LNotTwice$Texts;)V"⟩
abbrev cX0_has : ByteArray := prog_2_method_2_code
def yX0_has : MethodName := ⟨RX0, "has", "(I)Z"⟩
abbrev cX0_come : ByteArray := prog_2_method_3_code
def yX0_come : MethodName := ⟨RX0, "come", "(II)I"⟩
abbrev cX0_sit : ByteArray := prog_2_method_4_code
def yX0_sit : MethodName := ⟨RX0, "sit", "(III)V"⟩
abbrev cX0_takeAll : ByteArray := prog_2_method_5_code
def yX0_takeAll : MethodName := ⟨RX0, "takeAll", "(LNotTwice$People;)V"⟩
abbrev cX0_goBackTo : ByteArray := prog_2_method_6_code
def yX0_goBackTo : MethodName := ⟨RX0, "goBackTo", "(LNotTwice$People;)V"⟩
abbrev cX0_hear : ByteArray := prog_2_method_7_code
def yX0_hear : MethodName := ⟨RX0, "hear", "(II)V"⟩
abbrev cX0_forget : ByteArray := prog_2_method_8_code
def yX0_forget : MethodName := ⟨RX0, "forget", "(II)V"⟩
abbrev cX0_knows : ByteArray := prog_2_method_9_code
def yX0_knows : MethodName := ⟨RX0, "knows", "(I)I"⟩
abbrev cX0_lookInto : ByteArray := prog_2_method_10_code
def yX0_lookInto : MethodName := ⟨RX0, "lookInto", "(I)V"⟩
abbrev cX0_newToOthers : ByteArray := prog_2_method_11_code
def yX0_newToOthers : MethodName := ⟨RX0, "newToOthers", "(I)I"⟩
abbrev cX0_tellableOf : ByteArray := prog_2_method_12_code
def yX0_tellableOf : MethodName := ⟨RX0, "tellableOf", "(II)I"⟩
abbrev cX0_tellableBy : ByteArray := prog_2_method_13_code
def yX0_tellableBy : MethodName := ⟨RX0, "tellableBy", "(I)I"⟩
abbrev cX0_tellableIn : ByteArray := prog_2_method_14_code
def yX0_tellableIn : MethodName := ⟨RX0, "tellableIn", "(I)I"⟩
abbrev cX0_unheardIn : ByteArray := prog_2_method_15_code
def yX0_unheardIn : MethodName := ⟨RX0, "unheardIn", "(I)I"⟩
abbrev cX0_byWhom : ByteArray := prog_2_method_16_code
def yX0_byWhom : MethodName := ⟨RX0, "byWhom", "(II)I"⟩
abbrev cX0_firstTeller : ByteArray := prog_2_method_17_code
def yX0_firstTeller : MethodName := ⟨RX0, "firstTeller", "(II)I"⟩
abbrev cX0_worthOf : ByteArray := prog_2_method_18_code
def yX0_worthOf : MethodName := ⟨RX0, "worthOf", "(II)J"⟩
abbrev cX0_worthBy : ByteArray := prog_2_method_19_code
def yX0_worthBy : MethodName := ⟨RX0, "worthBy", "(II)J"⟩
abbrev cX0_bestOf : ByteArray := prog_2_method_20_code
def yX0_bestOf : MethodName := ⟨RX0, "bestOf", "(I)I"⟩
abbrev cX0_spend : ByteArray := prog_2_method_21_code
def yX0_spend : MethodName := ⟨RX0, "spend", "(II)I"⟩
abbrev cX0_sleep : ByteArray := prog_2_method_22_code
def yX0_sleep : MethodName := ⟨RX0, "sleep", "()V"⟩
abbrev cX0_value : ByteArray := prog_2_method_23_code
def yX0_value : MethodName := ⟨RX0, "value", "(IIII)I"⟩
abbrev cX0_bounded : ByteArray := prog_2_method_24_code
def yX0_bounded : MethodName := ⟨RX0, "bounded", "(II)I"⟩
def RX1 : String := "NotTwice$Reader"
def TX1 : u_T := fun k => match k with
  | 0 => ("NotTwice$Reader", "tape", "[I", true)
  | 1 => ("NotTwice$Reader", "size", "I", false)
  | 2 => ("NotTwice$Reader", "at", "I", false)
  | 3 => ("NotTwice$Reader", "token", "I", false)
  | 4 => ("NotTwice$Reader", "tokenAt", "I", false)
  | 5 => ("NotTwice$Reader", "open", "I", false)
  | 6 => ("NotTwice$Reader", "code", "[I", true)
  | 7 => ("NotTwice$Reader", "codeSize", "I", false)
  | _ => ("NotTwice$Reader", "partAt", "[I", true)
def tyX1 : Nat → FieldType := fun k => match k with
  | 0 => .array .int
  | 1 => .int
  | 2 => .int
  | 3 => .int
  | 4 => .int
  | 5 => .int
  | 6 => .array .int
  | 7 => .int
  | _ => .array .int
abbrev wsX10 : List Cond := u_ws RX1 TX1 9
theorem nmX1 : ∀ a, a < 9 → ∀ b, b < 9 → a ≠ b → (TX1 a).2.1 ≠ (TX1 b).2.1 := by decide +kernel
theorem tyX1_ok : ∀ k, k < 9 → parseFieldDescriptor (TX1 k).2.2.1 = some (tyX1 k) := by decide +kernel
abbrev cX1_init : ByteArray := prog_3_method_1_code
def yX1_init : MethodName := ⟨RX1, "<init>", "()V"⟩
abbrev cX1_put : ByteArray := prog_3_method_2_code
def yX1_put : MethodName := ⟨RX1, "put", "(I)I"⟩
abbrev cX1_putFirstText : ByteArray := prog_3_method_3_code
def yX1_putFirstText : MethodName := ⟨RX1, "putFirstText", "()V"⟩
abbrev cX1_empty : ByteArray := prog_3_method_4_code
def yX1_empty : MethodName := ⟨RX1, "empty", "()V"⟩
abbrev cX1_place : ByteArray := prog_3_method_5_code
def yX1_place : MethodName := ⟨RX1, "place", "()I"⟩
abbrev cX1_made : ByteArray := prog_3_method_6_code
def yX1_made : MethodName := ⟨RX1, "made", "()LNotTwice$Rule;"⟩
abbrev cX1_reads : ByteArray := prog_3_method_7_code
def yX1_reads : MethodName := ⟨RX1, "reads", "()Z"⟩
abbrev cX1_readsLevel : ByteArray := prog_3_method_8_code
def yX1_readsLevel : MethodName := ⟨RX1, "readsLevel", "(I)Z"⟩
abbrev cX1_levelOf : ByteArray := prog_3_method_9_code
def yX1_levelOf : MethodName := ⟨RX1, "levelOf", "(I)I"⟩
abbrev cX1_readsOpened : ByteArray := prog_3_method_10_code
def yX1_readsOpened : MethodName := ⟨RX1, "readsOpened", "()Z"⟩
abbrev cX1_readsPlain : ByteArray := prog_3_method_11_code
def yX1_readsPlain : MethodName := ⟨RX1, "readsPlain", "()Z"⟩
abbrev cX1_takes : ByteArray := prog_3_method_12_code
def yX1_takes : MethodName := ⟨RX1, "takes", "(I)Z"⟩
abbrev cX1_write : ByteArray := prog_3_method_13_code
def yX1_write : MethodName := ⟨RX1, "write", "(I)V"⟩
abbrev cX1_step : ByteArray := prog_3_method_14_code
def yX1_step : MethodName := ⟨RX1, "step", "()V"⟩
abbrev cX1_isLetter : ByteArray := prog_3_method_15_code
def yX1_isLetter : MethodName := ⟨RX1, "isLetter", "(I)Z"⟩
abbrev cX1_isDigit : ByteArray := prog_3_method_16_code
def yX1_isDigit : MethodName := ⟨RX1, "isDigit", "(I)Z"⟩
abbrev cX1_numeral : ByteArray := prog_3_method_17_code
def yX1_numeral : MethodName := ⟨RX1, "numeral", "()I"⟩
abbrev cX1_word : ByteArray := prog_3_method_18_code
def yX1_word : MethodName := ⟨RX1, "word", "()I"⟩
def RX2 : String := "NotTwice$Rule"
def TX2 : u_T := fun k => match k with
  | 0 => ("NotTwice$Rule", "code", "[I", true)
  | 1 => ("NotTwice$Rule", "paysAt", "I", true)
  | _ => ("NotTwice$Rule", "tiresAt", "I", true)
def tyX2 : Nat → FieldType := fun k => match k with
  | 0 => .array .int
  | 1 => .int
  | _ => .int
abbrev wsX20 : List Cond := u_ws RX2 TX2 3
theorem nmX2 : ∀ a, a < 3 → ∀ b, b < 3 → a ≠ b → (TX2 a).2.1 ≠ (TX2 b).2.1 := by decide +kernel
theorem tyX2_ok : ∀ k, k < 3 → parseFieldDescriptor (TX2 k).2.2.1 = some (tyX2 k) := by decide +kernel
abbrev cX2_init : ByteArray := prog_4_method_1_code
def yX2_init : MethodName := ⟨RX2, "<init>", "([IIII)V"⟩
abbrev cX2_value : ByteArray := prog_4_method_2_code
def yX2_value : MethodName := ⟨RX2, "value", "(I[I[I)I"⟩
abbrev cX2_joined : ByteArray := prog_4_method_3_code
def yX2_joined : MethodName := ⟨RX2, "joined", "(III)I"⟩
def RX3 : String := "NotTwice$Seating"
def TX3 : u_T := fun k => match k with
  | 0 => ("NotTwice$Seating", "people", "LNotTwice$People;", true)
  | 1 => ("NotTwice$Seating", "seat", "[I", true)
  | 2 => ("NotTwice$Seating", "bestSeat", "[I", true)
  | 3 => ("NotTwice$Seating", "best", "I", false)
  | 4 => ("NotTwice$Seating", "known", "[I", true)
  | 5 => ("NotTwice$Seating", "awake", "[I", true)
  | 6 => ("NotTwice$Seating", "many", "[I", true)
  | 7 => ("NotTwice$Seating", "knownToOne", "[I", true)
  | _ => ("NotTwice$Seating", "knownToTwo", "[I", true)
def tyX3 : Nat → FieldType := fun k => match k with
  | 0 => .object "NotTwice$People"
  | 1 => .array .int
  | 2 => .array .int
  | 3 => .int
  | 4 => .array .int
  | 5 => .array .int
  | 6 => .array .int
  | 7 => .array .int
  | _ => .array .int
abbrev wsX30 : List Cond := u_ws RX3 TX3 9
theorem nmX3 : ∀ a, a < 9 → ∀ b, b < 9 → a ≠ b → (TX3 a).2.1 ≠ (TX3 b).2.1 := by decide +kernel
theorem tyX3_ok : ∀ k, k < 9 → parseFieldDescriptor (TX3 k).2.2.1 = some (tyX3 k) := by decide +kernel
abbrev cX3_init : ByteArray := prog_5_method_1_code
def yX3_init : MethodName := ⟨RX3, "<init>", "(LNotTwice$People;)V"⟩
abbrev cX3_waysOver : ByteArray := prog_5_method_2_code
def yX3_waysOver : MethodName := ⟨RX3, "waysOver", "(I)I"⟩
abbrev cX3_search : ByteArray := prog_5_method_3_code
def yX3_search : MethodName := ⟨RX3, "search", "(I)V"⟩
abbrev cX3_prepare : ByteArray := prog_5_method_4_code
def yX3_prepare : MethodName := ⟨RX3, "prepare", "()V"⟩
abbrev cX3_awakeOf : ByteArray := prog_5_method_5_code
def yX3_awakeOf : MethodName := ⟨RX3, "awakeOf", "(II)I"⟩
abbrev cX3_nextWay : ByteArray := prog_5_method_6_code
def yX3_nextWay : MethodName := ⟨RX3, "nextWay", "(I)V"⟩
abbrev cX3_housesWithStory : ByteArray := prog_5_method_7_code
def yX3_housesWithStory : MethodName := ⟨RX3, "housesWithStory", "(I)I"⟩
abbrev cX3_fillHouses : ByteArray := prog_5_method_8_code
def yX3_fillHouses : MethodName := ⟨RX3, "fillHouses", "(I)V"⟩
def RX4 : String := "NotTwice$Sheets"
def TX4 : u_T := fun k => match k with
  | 0 => ("NotTwice$Sheets", "sort", "[I", true)
  | 1 => ("NotTwice$Sheets", "size", "[I", true)
  | _ => ("NotTwice$Sheets", "items", "[I", true)
def tyX4 : Nat → FieldType := fun k => match k with
  | 0 => .array .int
  | 1 => .array .int
  | _ => .array .int
abbrev wsX40 : List Cond := u_ws RX4 TX4 3
theorem nmX4 : ∀ a, a < 3 → ∀ b, b < 3 → a ≠ b → (TX4 a).2.1 ≠ (TX4 b).2.1 := by decide +kernel
theorem tyX4_ok : ∀ k, k < 3 → parseFieldDescriptor (TX4 k).2.2.1 = some (tyX4 k) := by decide +kernel
abbrev cX4_init : ByteArray := prog_6_method_1_code
def yX4_init : MethodName := ⟨RX4, "<init>", "()V"⟩
abbrev cX4_has : ByteArray := prog_6_method_2_code
def yX4_has : MethodName := ⟨RX4, "has", "(I)Z"⟩
abbrev cX4_isMissing : ByteArray := prog_6_method_3_code
def yX4_isMissing : MethodName := ⟨RX4, "isMissing", "(I)Z"⟩
abbrev cX4_reaches : ByteArray := prog_6_method_4_code
def yX4_reaches : MethodName := ⟨RX4, "reaches", "(II)Z"⟩
abbrev cX4_hasRun : ByteArray := prog_6_method_5_code
def yX4_hasRun : MethodName := ⟨RX4, "hasRun", "(III)Z"⟩
abbrev cX4_lay : ByteArray := prog_6_method_6_code
def yX4_lay : MethodName := ⟨RX4, "lay", "(III)V"⟩
abbrev cX4_at : ByteArray := prog_6_method_7_code
def yX4_at : MethodName := ⟨RX4, "at", "(II)I"⟩
abbrev cX4_write : ByteArray := prog_6_method_8_code
def yX4_write : MethodName := ⟨RX4, "write", "(III)V"⟩
abbrev cX4_carry : ByteArray := prog_6_method_9_code
def yX4_carry : MethodName := ⟨RX4, "carry", "(IIIII)V"⟩
def RX5 : String := "NotTwice$Shelf"
def TX5 : u_T := fun k => match k with
  | 0 => ("NotTwice$Shelf", "kind", "[I", true)
  | 1 => ("NotTwice$Shelf", "worth", "[I", true)
  | 2 => ("NotTwice$Shelf", "number", "[I", true)
  | 3 => ("NotTwice$Shelf", "twin", "[I", true)
  | _ => ("NotTwice$Shelf", "size", "I", false)
def tyX5 : Nat → FieldType := fun k => match k with
  | 0 => .array .int
  | 1 => .array .int
  | 2 => .array .int
  | 3 => .array .int
  | _ => .int
abbrev wsX50 : List Cond := u_ws RX5 TX5 5
theorem nmX5 : ∀ a, a < 5 → ∀ b, b < 5 → a ≠ b → (TX5 a).2.1 ≠ (TX5 b).2.1 := by decide +kernel
theorem tyX5_ok : ∀ k, k < 5 → parseFieldDescriptor (TX5 k).2.2.1 = some (tyX5 k) := by decide +kernel
abbrev cX5_init : ByteArray := prog_7_method_1_code
def yX5_init : MethodName := ⟨RX5, "<init>", "()V"⟩
abbrev cX5_has : ByteArray := prog_7_method_2_code
def yX5_has : MethodName := ⟨RX5, "has", "(I)Z"⟩
abbrev cX5_all : ByteArray := prog_7_method_3_code
def yX5_all : MethodName := ⟨RX5, "all", "()I"⟩
abbrev cX5_add : ByteArray := prog_7_method_4_code
def yX5_add : MethodName := ⟨RX5, "add", "(III)I"⟩
abbrev cX5_join : ByteArray := prog_7_method_5_code
def yX5_join : MethodName := ⟨RX5, "join", "(II)V"⟩
abbrev cX5_part : ByteArray := prog_7_method_6_code
def yX5_part : MethodName := ⟨RX5, "part", "(I)V"⟩
abbrev cX5_withTwins : ByteArray := prog_7_method_7_code
def yX5_withTwins : MethodName := ⟨RX5, "withTwins", "(I)I"⟩
abbrev cX5_counts : ByteArray := prog_7_method_8_code
def yX5_counts : MethodName := ⟨RX5, "counts", "(II)I"⟩
abbrev cX5_stays : ByteArray := prog_7_method_9_code
def yX5_stays : MethodName := ⟨RX5, "stays", "(I)I"⟩
abbrev cX5_isUnder : ByteArray := prog_7_method_10_code
def yX5_isUnder : MethodName := ⟨RX5, "isUnder", "(II)Z"⟩
def RX6 : String := "NotTwice$Sign"
def TX6 : u_T := fun k => match k with
  | _ => ("", "", "", false)
def tyX6 : Nat → FieldType := fun k => match k with
  | _ => .int
abbrev wsX60 : List Cond := u_ws RX6 TX6 0
theorem nmX6 : ∀ a, a < 0 → ∀ b, b < 0 → a ≠ b → (TX6 a).2.1 ≠ (TX6 b).2.1 := by decide +kernel
theorem tyX6_ok : ∀ k, k < 0 → parseFieldDescriptor (TX6 k).2.2.1 = some (tyX6 k) := by decide +kernel
def RX7 : String := "NotTwice$Texts"
def TX7 : u_T := fun k => match k with
  | 0 => ("NotTwice$Texts", "rules", "[LNotTwice$Rule;", true)
  | 1 => ("NotTwice$Texts", "names", "[I", true)
  | 2 => ("NotTwice$Texts", "stack", "[I", true)
  | _ => ("NotTwice$Texts", "size", "I", false)
def tyX7 : Nat → FieldType := fun k => match k with
  | 0 => .array (.object "NotTwice$Rule")
  | 1 => .array .int
  | 2 => .array .int
  | _ => .int
abbrev wsX70 : List Cond := u_ws RX7 TX7 4
theorem nmX7 : ∀ a, a < 4 → ∀ b, b < 4 → a ≠ b → (TX7 a).2.1 ≠ (TX7 b).2.1 := by decide +kernel
theorem tyX7_ok : ∀ k, k < 4 → parseFieldDescriptor (TX7 k).2.2.1 = some (tyX7 k) := by decide +kernel
abbrev cX7_init : ByteArray := prog_9_method_1_code
def yX7_init : MethodName := ⟨RX7, "<init>", "()V"⟩
abbrev cX7_has : ByteArray := prog_9_method_2_code
def yX7_has : MethodName := ⟨RX7, "has", "(I)Z"⟩
abbrev cX7_at : ByteArray := prog_9_method_3_code
def yX7_at : MethodName := ⟨RX7, "at", "(I)LNotTwice$Rule;"⟩
abbrev cX7_isFull : ByteArray := prog_9_method_4_code
def yX7_isFull : MethodName := ⟨RX7, "isFull", "()Z"⟩
abbrev cX7_add : ByteArray := prog_9_method_5_code
def yX7_add : MethodName := ⟨RX7, "add", "(LNotTwice$Rule;)I"⟩
def RX8 : String := "NotTwice"
def TX8 : u_T := fun k => match k with
  | 0 => ("NotTwice", "shelf", "LNotTwice$Shelf;", true)
  | 1 => ("NotTwice", "texts", "LNotTwice$Texts;", true)
  | 2 => ("NotTwice", "reader", "LNotTwice$Reader;", true)
  | 3 => ("NotTwice", "now", "LNotTwice$People;", true)
  | 4 => ("NotTwice", "thought", "LNotTwice$People;", true)
  | 5 => ("NotTwice", "image", "LNotTwice$People;", true)
  | 6 => ("NotTwice", "seating", "LNotTwice$Seating;", true)
  | 7 => ("NotTwice", "sheets", "LNotTwice$Sheets;", true)
  | _ => ("NotTwice", "imageKept", "Z", false)
def tyX8 : Nat → FieldType := fun k => match k with
  | 0 => .object "NotTwice$Shelf"
  | 1 => .object "NotTwice$Texts"
  | 2 => .object "NotTwice$Reader"
  | 3 => .object "NotTwice$People"
  | 4 => .object "NotTwice$People"
  | 5 => .object "NotTwice$People"
  | 6 => .object "NotTwice$Seating"
  | 7 => .object "NotTwice$Sheets"
  | _ => .boolean
abbrev wsX80 : List Cond := u_ws RX8 TX8 9
theorem nmX8 : ∀ a, a < 9 → ∀ b, b < 9 → a ≠ b → (TX8 a).2.1 ≠ (TX8 b).2.1 := by decide +kernel
theorem tyX8_ok : ∀ k, k < 9 → parseFieldDescriptor (TX8 k).2.2.1 = some (tyX8 k) := by decide +kernel
abbrev cX8_init : ByteArray := prog_1_method_1_code
def yX8_init : MethodName := ⟨RX8, "<init>", "()V"⟩
abbrev cX8_story : ByteArray := prog_1_method_2_code
def yX8_story : MethodName := ⟨RX8, "story", "(III)I"⟩
abbrev cX8_twin : ByteArray := prog_1_method_3_code
def yX8_twin : MethodName := ⟨RX8, "twin", "(II)I"⟩
abbrev cX8_person : ByteArray := prog_1_method_4_code
def yX8_person : MethodName := ⟨RX8, "person", "(II)I"⟩
abbrev cX8_set : ByteArray := prog_1_method_5_code
def yX8_set : MethodName := ⟨RX8, "set", "(III)I"⟩
abbrev cX8_hears : ByteArray := prog_1_method_6_code
def yX8_hears : MethodName := ⟨RX8, "hears", "(III)I"⟩
abbrev cX8_told : ByteArray := prog_1_method_7_code
def yX8_told : MethodName := ⟨RX8, "told", "(III)I"⟩
abbrev cX8_one : ByteArray := prog_1_method_8_code
def yX8_one : MethodName := ⟨RX8, "one", "(II)I"⟩
abbrev cX8_feed : ByteArray := prog_1_method_9_code
def yX8_feed : MethodName := ⟨RX8, "feed", "(I)I"⟩
abbrev cX8_text : ByteArray := prog_1_method_10_code
def yX8_text : MethodName := ⟨RX8, "text", "()I"⟩
abbrev cX8_force : ByteArray := prog_1_method_11_code
def yX8_force : MethodName := ⟨RX8, "force", "(I)I"⟩
abbrev cX8_may : ByteArray := prog_1_method_12_code
def yX8_may : MethodName := ⟨RX8, "may", "(I)I"⟩
abbrev cX8_by : ByteArray := prog_1_method_13_code
def yX8_by : MethodName := ⟨RX8, "by", "(II)I"⟩
abbrev cX8_worth : ByteArray := prog_1_method_14_code
def yX8_worth : MethodName := ⟨RX8, "worth", "(II)J"⟩
abbrev cX8_most : ByteArray := prog_1_method_15_code
def yX8_most : MethodName := ⟨RX8, "most", "(II)J"⟩
abbrev cX8_tell : ByteArray := prog_1_method_16_code
def yX8_tell : MethodName := ⟨RX8, "tell", "(II)I"⟩
abbrev cX8_pass : ByteArray := prog_1_method_17_code
def yX8_pass : MethodName := ⟨RX8, "pass", "()I"⟩
abbrev cX8_goesOn : ByteArray := prog_1_method_18_code
def yX8_goesOn : MethodName := ⟨RX8, "goesOn", "(II)I"⟩
abbrev cX8_spread : ByteArray := prog_1_method_19_code
def yX8_spread : MethodName := ⟨RX8, "spread", "(II)I"⟩
abbrev cX8_keepAway : ByteArray := prog_1_method_20_code
def yX8_keepAway : MethodName := ⟨RX8, "keepAway", "(I)I"⟩
abbrev cX8_send : ByteArray := prog_1_method_21_code
def yX8_send : MethodName := ⟨RX8, "send", "(II)I"⟩
abbrev cX8_stranger : ByteArray := prog_1_method_22_code
def yX8_stranger : MethodName := ⟨RX8, "stranger", "(III)I"⟩
abbrev cX8_left : ByteArray := prog_1_method_23_code
def yX8_left : MethodName := ⟨RX8, "left", "()I"⟩
abbrev cX8_judge : ByteArray := prog_1_method_24_code
def yX8_judge : MethodName := ⟨RX8, "judge", "(I)I"⟩
abbrev cX8_drawn : ByteArray := prog_1_method_25_code
def yX8_drawn : MethodName := ⟨RX8, "drawn", "(II)I"⟩
abbrev cX8_image : ByteArray := prog_1_method_26_code
def yX8_image : MethodName := ⟨RX8, "image", "()I"⟩
abbrev cX8_back : ByteArray := prog_1_method_27_code
def yX8_back : MethodName := ⟨RX8, "back", "()I"⟩
abbrev cX8_count : ByteArray := prog_1_method_28_code
def yX8_count : MethodName := ⟨RX8, "count", "(I)I"⟩
abbrev cX8_sheet : ByteArray := prog_1_method_29_code
def yX8_sheet : MethodName := ⟨RX8, "sheet", "(III)I"⟩
abbrev cX8_cell : ByteArray := prog_1_method_30_code
def yX8_cell : MethodName := ⟨RX8, "cell", "(III)I"⟩
abbrev cX8_copy : ByteArray := prog_1_method_31_code
def yX8_copy : MethodName := ⟨RX8, "copy", "(IIIII)I"⟩
abbrev cX8_people : ByteArray := prog_1_method_32_code
def yX8_people : MethodName := ⟨RX8, "people", "(IIII)I"⟩
abbrev cX8_taken : ByteArray := prog_1_method_33_code
def yX8_taken : MethodName := ⟨RX8, "taken", "(II)I"⟩
abbrev cX8_isBelow : ByteArray := prog_1_method_34_code
def yX8_isBelow : MethodName := ⟨RX8, "isBelow", "(II)Z"⟩
abbrev cX8_isHouse : ByteArray := prog_1_method_35_code
def yX8_isHouse : MethodName := ⟨RX8, "isHouse", "(I)Z"⟩
abbrev cX8_put : ByteArray := prog_1_method_36_code
def yX8_put : MethodName := ⟨RX8, "put", "([III)I"⟩
abbrev cX8_canTellAll : ByteArray := prog_1_method_37_code
def yX8_canTellAll : MethodName := ⟨RX8, "canTellAll", "(II)Z"⟩
def RX9 : String := "NotTwiceModel"
def TX9 : u_T := fun k => match k with
  | 0 => ("NotTwiceModel", "thrown", "I", false)
  | 1 => ("NotTwiceModel", "texts", "[I", true)
  | 2 => ("NotTwiceModel", "textSize", "[I", true)
  | 3 => ("NotTwiceModel", "textCount", "I", false)
  | 4 => ("NotTwiceModel", "rule", "I", false)
  | 5 => ("NotTwiceModel", "tape", "[I", true)
  | 6 => ("NotTwiceModel", "taped", "I", false)
  | 7 => ("NotTwiceModel", "kinds", "[I", true)
  | 8 => ("NotTwiceModel", "worths", "[I", true)
  | 9 => ("NotTwiceModel", "numbers", "[I", true)
  | 10 => ("NotTwiceModel", "twins", "[I", true)
  | 11 => ("NotTwiceModel", "storyMany", "I", false)
  | 12 => ("NotTwiceModel", "ages", "[I", true)
  | 13 => ("NotTwiceModel", "tells", "[I", true)
  | 14 => ("NotTwiceModel", "heard", "[I", true)
  | 15 => ("NotTwiceModel", "houses", "[I", true)
  | 16 => ("NotTwiceModel", "since", "[I", true)
  | 17 => ("NotTwiceModel", "many", "I", false)
  | 18 => ("NotTwiceModel", "night", "I", false)
  | 19 => ("NotTwiceModel", "ofAge", "I", false)
  | 20 => ("NotTwiceModel", "ofWorth", "I", false)
  | 21 => ("NotTwiceModel", "ofHeard", "I", false)
  | 22 => ("NotTwiceModel", "ofMany", "I", false)
  | 23 => ("NotTwiceModel", "ofNight", "I", false)
  | 24 => ("NotTwiceModel", "ofOwn", "I", false)
  | 25 => ("NotTwiceModel", "from", "I", false)
  | 26 => ("NotTwiceModel", "size", "I", false)
  | 27 => ("NotTwiceModel", "here", "I", false)
  | 28 => ("NotTwiceModel", "token", "I", false)
  | 29 => ("NotTwiceModel", "tokenAt", "I", false)
  | 30 => ("NotTwiceModel", "tokenWorth", "J", false)
  | 31 => ("NotTwiceModel", "open", "I", false)
  | 32 => ("NotTwiceModel", "bad", "Z", false)
  | 33 => ("NotTwiceModel", "fault", "I", false)
  | 34 => ("NotTwiceModel", "bestWorth", "I", false)
  | 35 => ("NotTwiceModel", "heardWas", "[I", true)
  | 36 => ("NotTwiceModel", "housesWas", "[I", true)
  | 37 => ("NotTwiceModel", "sinceWas", "[I", true)
  | 38 => ("NotTwiceModel", "nightWas", "I", false)
  | 39 => ("NotTwiceModel", "knowersOf", "[I", true)
  | 40 => ("NotTwiceModel", "tiredOf", "[I", true)
  | 41 => ("NotTwiceModel", "heardKept", "[I", true)
  | 42 => ("NotTwiceModel", "housesKept", "[I", true)
  | 43 => ("NotTwiceModel", "sinceKept", "[I", true)
  | 44 => ("NotTwiceModel", "manyKept", "I", false)
  | 45 => ("NotTwiceModel", "nightKept", "I", false)
  | 46 => ("NotTwiceModel", "ruleKept", "I", false)
  | 47 => ("NotTwiceModel", "isThere", "[Z", true)
  | 48 => ("NotTwiceModel", "sorts", "[I", true)
  | 49 => ("NotTwiceModel", "sheetSize", "[I", true)
  | _ => ("NotTwiceModel", "items", "[I", true)
def tyX9 : Nat → FieldType := fun k => match k with
  | 0 => .int
  | 1 => .array .int
  | 2 => .array .int
  | 3 => .int
  | 4 => .int
  | 5 => .array .int
  | 6 => .int
  | 7 => .array .int
  | 8 => .array .int
  | 9 => .array .int
  | 10 => .array .int
  | 11 => .int
  | 12 => .array .int
  | 13 => .array .int
  | 14 => .array .int
  | 15 => .array .int
  | 16 => .array .int
  | 17 => .int
  | 18 => .int
  | 19 => .int
  | 20 => .int
  | 21 => .int
  | 22 => .int
  | 23 => .int
  | 24 => .int
  | 25 => .int
  | 26 => .int
  | 27 => .int
  | 28 => .int
  | 29 => .int
  | 30 => .long
  | 31 => .int
  | 32 => .boolean
  | 33 => .int
  | 34 => .int
  | 35 => .array .int
  | 36 => .array .int
  | 37 => .array .int
  | 38 => .int
  | 39 => .array .int
  | 40 => .array .int
  | 41 => .array .int
  | 42 => .array .int
  | 43 => .array .int
  | 44 => .int
  | 45 => .int
  | 46 => .int
  | 47 => .array .boolean
  | 48 => .array .int
  | 49 => .array .int
  | _ => .array .int
abbrev wsX90 : List Cond := u_ws RX9 TX9 51
theorem nmX9 : ∀ a, a < 51 → ∀ b, b < 51 → a ≠ b → (TX9 a).2.1 ≠ (TX9 b).2.1 := by decide +kernel
theorem tyX9_ok : ∀ k, k < 51 → parseFieldDescriptor (TX9 k).2.2.1 = some (tyX9 k) := by decide +kernel
abbrev cX9_in : ByteArray := prog_11_method_2_code
def yX9_in : MethodName := ⟨RX9, "in", "(JJJ)Z"⟩
abbrev cX9_within : ByteArray := prog_11_method_3_code
def yX9_within : MethodName := ⟨RX9, "within", "(III)I"⟩
abbrev cX9_bitsOf : ByteArray := prog_11_method_4_code
def yX9_bitsOf : MethodName := ⟨RX9, "bitsOf", "(I)I"⟩
abbrev cX9_init : ByteArray := prog_11_method_5_code
def yX9_init : MethodName := ⟨RX9, "<init>", "()V"⟩
abbrev cX9_spell : ByteArray := prog_11_method_6_code
def yX9_spell : MethodName := ⟨RX9, "spell", "(IIIIIIIII)V"⟩
abbrev cX9_isStory : ByteArray := prog_11_method_7_code
def yX9_isStory : MethodName := ⟨RX9, "isStory", "(I)Z"⟩
abbrev cX9_isPerson : ByteArray := prog_11_method_8_code
def yX9_isPerson : MethodName := ⟨RX9, "isPerson", "(I)Z"⟩
abbrev cX9_isHouse : ByteArray := prog_11_method_9_code
def yX9_isHouse : MethodName := ⟨RX9, "isHouse", "(I)Z"⟩
abbrev cX9_story : ByteArray := prog_11_method_10_code
def yX9_story : MethodName := ⟨RX9, "story", "(III)I"⟩
abbrev cX9_parts : ByteArray := prog_11_method_11_code
def yX9_parts : MethodName := ⟨RX9, "parts", "(I)V"⟩
abbrev cX9_twin : ByteArray := prog_11_method_12_code
def yX9_twin : MethodName := ⟨RX9, "twin", "(II)I"⟩
abbrev cX9_person : ByteArray := prog_11_method_13_code
def yX9_person : MethodName := ⟨RX9, "person", "(II)I"⟩
abbrev cX9_set : ByteArray := prog_11_method_14_code
def yX9_set : MethodName := ⟨RX9, "set", "(III)I"⟩
abbrev cX9_hears : ByteArray := prog_11_method_15_code
def yX9_hears : MethodName := ⟨RX9, "hears", "(III)I"⟩
abbrev cX9_counts : ByteArray := prog_11_method_16_code
def yX9_counts : MethodName := ⟨RX9, "counts", "(II)I"⟩
abbrev cX9_stays : ByteArray := prog_11_method_17_code
def yX9_stays : MethodName := ⟨RX9, "stays", "(I)I"⟩
abbrev cX9_told : ByteArray := prog_11_method_18_code
def yX9_told : MethodName := ⟨RX9, "told", "(III)I"⟩
abbrev cX9_known : ByteArray := prog_11_method_19_code
def yX9_known : MethodName := ⟨RX9, "known", "(I)I"⟩
abbrev cX9_one : ByteArray := prog_11_method_20_code
def yX9_one : MethodName := ⟨RX9, "one", "(II)I"⟩
abbrev cX9_feed : ByteArray := prog_11_method_21_code
def yX9_feed : MethodName := ⟨RX9, "feed", "(I)I"⟩
abbrev cX9_byteAt : ByteArray := prog_11_method_22_code
def yX9_byteAt : MethodName := ⟨RX9, "byteAt", "(I)I"⟩
abbrev cX9_next : ByteArray := prog_11_method_23_code
def yX9_next : MethodName := ⟨RX9, "next", "()V"⟩
abbrev cX9_fail : ByteArray := prog_11_method_24_code
def yX9_fail : MethodName := ⟨RX9, "fail", "()V"⟩
abbrev cX9_isLetter : ByteArray := prog_11_method_25_code
def yX9_isLetter : MethodName := ⟨RX9, "isLetter", "(II)Z"⟩
abbrev cX9_isWord : ByteArray := prog_11_method_26_code
def yX9_isWord : MethodName := ⟨RX9, "isWord", "(IIIIIIII)Z"⟩
abbrev cX9_isSign : ByteArray := prog_11_method_27_code
def yX9_isSign : MethodName := ⟨RX9, "isSign", "(I)Z"⟩
abbrev cX9_opens : ByteArray := prog_11_method_28_code
def yX9_opens : MethodName := ⟨RX9, "opens", "()Z"⟩
abbrev cX9_name : ByteArray := prog_11_method_29_code
def yX9_name : MethodName := ⟨RX9, "name", "()I"⟩
abbrev cX9_atom : ByteArray := prog_11_method_30_code
def yX9_atom : MethodName := ⟨RX9, "atom", "()I"⟩
abbrev cX9_term : ByteArray := prog_11_method_31_code
def yX9_term : MethodName := ⟨RX9, "term", "()I"⟩
abbrev cX9_added : ByteArray := prog_11_method_32_code
def yX9_added : MethodName := ⟨RX9, "added", "()I"⟩
abbrev cX9_not : ByteArray := prog_11_method_33_code
def yX9_not : MethodName := ⟨RX9, "not", "()I"⟩
abbrev cX9_both : ByteArray := prog_11_method_34_code
def yX9_both : MethodName := ⟨RX9, "both", "()I"⟩
abbrev cX9_either : ByteArray := prog_11_method_35_code
def yX9_either : MethodName := ⟨RX9, "either", "()I"⟩
abbrev cX9_part : ByteArray := prog_11_method_36_code
def yX9_part : MethodName := ⟨RX9, "part", "(Z)I"⟩
abbrev cX9_read : ByteArray := prog_11_method_37_code
def yX9_read : MethodName := ⟨RX9, "read", "(II)I"⟩
abbrev cX9_text : ByteArray := prog_11_method_38_code
def yX9_text : MethodName := ⟨RX9, "text", "()I"⟩
abbrev cX9_force : ByteArray := prog_11_method_39_code
def yX9_force : MethodName := ⟨RX9, "force", "(I)I"⟩
abbrev cX9_says : ByteArray := prog_11_method_40_code
def yX9_says : MethodName := ⟨RX9, "says", "(IIII)I"⟩
abbrev cX9_sitting : ByteArray := prog_11_method_41_code
def yX9_sitting : MethodName := ⟨RX9, "sitting", "(I)I"⟩
abbrev cX9_knowers : ByteArray := prog_11_method_42_code
def yX9_knowers : MethodName := ⟨RX9, "knowers", "(I)I"⟩
abbrev cX9_mayTell : ByteArray := prog_11_method_43_code
def yX9_mayTell : MethodName := ⟨RX9, "mayTell", "(III)Z"⟩
abbrev cX9_teller : ByteArray := prog_11_method_44_code
def yX9_teller : MethodName := ⟨RX9, "teller", "(II)I"⟩
abbrev cX9_allMay : ByteArray := prog_11_method_45_code
def yX9_allMay : MethodName := ⟨RX9, "allMay", "(I)I"⟩
abbrev cX9_may : ByteArray := prog_11_method_46_code
def yX9_may : MethodName := ⟨RX9, "may", "(I)I"⟩
abbrev cX9_by : ByteArray := prog_11_method_47_code
def yX9_by : MethodName := ⟨RX9, "by", "(II)I"⟩
abbrev cX9_worthBy : ByteArray := prog_11_method_48_code
def yX9_worthBy : MethodName := ⟨RX9, "worthBy", "(III)I"⟩
abbrev cX9_worth : ByteArray := prog_11_method_49_code
def yX9_worth : MethodName := ⟨RX9, "worth", "(II)J"⟩
abbrev cX9_best : ByteArray := prog_11_method_50_code
def yX9_best : MethodName := ⟨RX9, "best", "(I)I"⟩
abbrev cX9_most : ByteArray := prog_11_method_51_code
def yX9_most : MethodName := ⟨RX9, "most", "(II)J"⟩
abbrev cX9_tellIn : ByteArray := prog_11_method_52_code
def yX9_tellIn : MethodName := ⟨RX9, "tellIn", "(III)I"⟩
abbrev cX9_tell : ByteArray := prog_11_method_53_code
def yX9_tell : MethodName := ⟨RX9, "tell", "(II)I"⟩
abbrev cX9_pass : ByteArray := prog_11_method_54_code
def yX9_pass : MethodName := ⟨RX9, "pass", "()I"⟩
abbrev cX9_laysAside : ByteArray := prog_11_method_55_code
def yX9_laysAside : MethodName := ⟨RX9, "laysAside", "()V"⟩
abbrev cX9_laysBack : ByteArray := prog_11_method_56_code
def yX9_laysBack : MethodName := ⟨RX9, "laysBack", "()V"⟩
abbrev cX9_canAll : ByteArray := prog_11_method_57_code
def yX9_canAll : MethodName := ⟨RX9, "canAll", "(II)Z"⟩
abbrev cX9_goesOn : ByteArray := prog_11_method_58_code
def yX9_goesOn : MethodName := ⟨RX9, "goesOn", "(II)I"⟩
abbrev cX9_isTired : ByteArray := prog_11_method_59_code
def yX9_isTired : MethodName := ⟨RX9, "isTired", "(III)Z"⟩
abbrev cX9_anyMay : ByteArray := prog_11_method_60_code
def yX9_anyMay : MethodName := ⟨RX9, "anyMay", "(I)Z"⟩
abbrev cX9_digit : ByteArray := prog_11_method_61_code
def yX9_digit : MethodName := ⟨RX9, "digit", "(III)I"⟩
abbrev cX9_housesWith : ByteArray := prog_11_method_62_code
def yX9_housesWith : MethodName := ⟨RX9, "housesWith", "(II)I"⟩
abbrev cX9_spread : ByteArray := prog_11_method_63_code
def yX9_spread : MethodName := ⟨RX9, "spread", "(II)I"⟩
abbrev cX9_keepAway : ByteArray := prog_11_method_64_code
def yX9_keepAway : MethodName := ⟨RX9, "keepAway", "(I)I"⟩
abbrev cX9_send : ByteArray := prog_11_method_65_code
def yX9_send : MethodName := ⟨RX9, "send", "(II)I"⟩
abbrev cX9_stranger : ByteArray := prog_11_method_66_code
def yX9_stranger : MethodName := ⟨RX9, "stranger", "(III)I"⟩
abbrev cX9_left : ByteArray := prog_11_method_67_code
def yX9_left : MethodName := ⟨RX9, "left", "()I"⟩
abbrev cX9_judge : ByteArray := prog_11_method_68_code
def yX9_judge : MethodName := ⟨RX9, "judge", "(I)I"⟩
abbrev cX9_drawn : ByteArray := prog_11_method_69_code
def yX9_drawn : MethodName := ⟨RX9, "drawn", "(II)I"⟩
abbrev cX9_image : ByteArray := prog_11_method_70_code
def yX9_image : MethodName := ⟨RX9, "image", "()I"⟩
abbrev cX9_back : ByteArray := prog_11_method_71_code
def yX9_back : MethodName := ⟨RX9, "back", "()I"⟩
abbrev cX9_count : ByteArray := prog_11_method_72_code
def yX9_count : MethodName := ⟨RX9, "count", "(I)I"⟩
abbrev cX9_isSheet : ByteArray := prog_11_method_73_code
def yX9_isSheet : MethodName := ⟨RX9, "isSheet", "(I)Z"⟩
abbrev cX9_sheet : ByteArray := prog_11_method_74_code
def yX9_sheet : MethodName := ⟨RX9, "sheet", "(III)I"⟩
abbrev cX9_cell : ByteArray := prog_11_method_75_code
def yX9_cell : MethodName := ⟨RX9, "cell", "(III)I"⟩
abbrev cX9_copy : ByteArray := prog_11_method_76_code
def yX9_copy : MethodName := ⟨RX9, "copy", "(IIIII)I"⟩
abbrev cX9_people : ByteArray := prog_11_method_77_code
def yX9_people : MethodName := ⟨RX9, "people", "(IIII)I"⟩
abbrev cX9_over : ByteArray := prog_11_method_78_code
def yX9_over : MethodName := ⟨RX9, "over", "(I)I"⟩
abbrev cX9_taken : ByteArray := prog_11_method_79_code
def yX9_taken : MethodName := ⟨RX9, "taken", "(II)I"⟩
def RJ11 : String := "java/lang/Character"
def TJ11 : u_T := fun k => match k with
  | _ => ("", "", "", false)
def tyJ11 : Nat → FieldType := fun k => match k with
  | _ => .int
abbrev wsJ110 : List Cond := u_ws RJ11 TJ11 0
theorem nmJ11 : ∀ a, a < 0 → ∀ b, b < 0 → a ≠ b → (TJ11 a).2.1 ≠ (TJ11 b).2.1 := by decide +kernel
theorem tyJ11_ok : ∀ k, k < 0 → parseFieldDescriptor (TJ11 k).2.2.1 = some (tyJ11 k) := by decide +kernel
abbrev cJ11_isValidCodePoint_9a6ad : ByteArray := prog_12_method_11_code
def yJ11_isValidCodePoint_9a6ad : MethodName := ⟨RJ11, "isValidCodePoint", "(I)Z"⟩
abbrev cJ11_highSurrogate_5068e : ByteArray := prog_12_method_28_code
def yJ11_highSurrogate_5068e : MethodName := ⟨RJ11, "highSurrogate", "(I)C"⟩
abbrev cJ11_lowSurrogate_5068e : ByteArray := prog_12_method_29_code
def yJ11_lowSurrogate_5068e : MethodName := ⟨RJ11, "lowSurrogate", "(I)C"⟩
def RJ6 : String := "java/lang/Integer"
def TJ6 : u_T := fun k => match k with
  | _ => ("", "", "", false)
def tyJ6 : Nat → FieldType := fun k => match k with
  | _ => .int
abbrev wsJ60 : List Cond := u_ws RJ6 TJ6 0
theorem nmJ6 : ∀ a, a < 0 → ∀ b, b < 0 → a ≠ b → (TJ6 a).2.1 ≠ (TJ6 b).2.1 := by decide +kernel
theorem tyJ6_ok : ∀ k, k < 0 → parseFieldDescriptor (TJ6 k).2.2.1 = some (tyJ6 k) := by decide +kernel
abbrev cJ6_bitCount_0f7a4 : ByteArray := prog_13_method_49_code
def yJ6_bitCount_0f7a4 : MethodName := ⟨RJ6, "bitCount", "(I)I"⟩
def RJ9 : String := "java/lang/Math"
def TJ9 : u_T := fun k => match k with
  | _ => ("", "", "", false)
def tyJ9 : Nat → FieldType := fun k => match k with
  | _ => .int
abbrev wsJ90 : List Cond := u_ws RJ9 TJ9 0
theorem nmJ9 : ∀ a, a < 0 → ∀ b, b < 0 → a ≠ b → (TJ9 a).2.1 ≠ (TJ9 b).2.1 := by decide +kernel
theorem tyJ9_ok : ∀ k, k < 0 → parseFieldDescriptor (TJ9 k).2.2.1 = some (tyJ9 k) := by decide +kernel
abbrev cJ9_max_7cf53 : ByteArray := prog_14_method_65_code
def yJ9_max_7cf53 : MethodName := ⟨RJ9, "max", "(II)I"⟩
abbrev cJ9_min_7cf53 : ByteArray := prog_14_method_69_code
def yJ9_min_7cf53 : MethodName := ⟨RJ9, "min", "(II)I"⟩
def RJ0 : String := "java/lang/String"
def TJ0 : u_T := fun k => match k with
  | _ => ("", "", "", false)
def tyJ0 : Nat → FieldType := fun k => match k with
  | _ => .int
abbrev wsJ00 : List Cond := u_ws RJ0 TJ0 0
theorem nmJ0 : ∀ a, a < 0 → ∀ b, b < 0 → a ≠ b → (TJ0 a).2.1 ≠ (TJ0 b).2.1 := by decide +kernel
theorem tyJ0_ok : ∀ k, k < 0 → parseFieldDescriptor (TJ0 k).2.2.1 = some (tyJ0 k) := by decide +kernel
abbrev cJ0_length_8abf5 : ByteArray := prog_15_method_54_code
def yJ0_length_8abf5 : MethodName := ⟨RJ0, "length", "()I"⟩
abbrev cJ0_charAt_5068e : ByteArray := prog_15_method_56_code
def yJ0_charAt_5068e : MethodName := ⟨RJ0, "charAt", "(I)C"⟩
abbrev cJ0_indexOf_0f7a4 : ByteArray := prog_15_method_79_code
def yJ0_indexOf_0f7a4 : MethodName := ⟨RJ0, "indexOf", "(I)I"⟩
abbrev cJ0_indexOf_7cf53 : ByteArray := prog_15_method_80_code
def yJ0_indexOf_7cf53 : MethodName := ⟨RJ0, "indexOf", "(II)I"⟩
abbrev cJ0_coder_7d493 : ByteArray := prog_15_method_152_code
def yJ0_coder_7d493 : MethodName := ⟨RJ0, "coder", "()B"⟩
abbrev cJ0_isLatin1_aae02 : ByteArray := prog_15_method_154_code
def yJ0_isLatin1_aae02 : MethodName := ⟨RJ0, "isLatin1", "()Z"⟩
abbrev cJ0_checkIndex_df160 : ByteArray := prog_15_method_155_code
def yJ0_checkIndex_df160 : MethodName := ⟨RJ0, "checkIndex", "(II)V"⟩
abbrev cJ0_checkBoundsBeginEnd_23922 : ByteArray := prog_15_method_158_code
def yJ0_checkBoundsBeginEnd_23922 : MethodName := ⟨RJ0, "checkBoundsBeginEnd", "(III)V"⟩
def RJ1 : String := "java/lang/StringLatin1"
def TJ1 : u_T := fun k => match k with
  | _ => ("", "", "", false)
def tyJ1 : Nat → FieldType := fun k => match k with
  | _ => .int
abbrev wsJ10 : List Cond := u_ws RJ1 TJ1 0
theorem nmJ1 : ∀ a, a < 0 → ∀ b, b < 0 → a ≠ b → (TJ1 a).2.1 ≠ (TJ1 b).2.1 := by decide +kernel
theorem tyJ1_ok : ∀ k, k < 0 → parseFieldDescriptor (TJ1 k).2.2.1 = some (tyJ1 k) := by decide +kernel
abbrev cJ1_charAt_3b067 : ByteArray := prog_16_method_2_code
def yJ1_charAt_3b067 : MethodName := ⟨RJ1, "charAt", "([BI)C"⟩
abbrev cJ1_canEncode_9a6ad : ByteArray := prog_16_method_4_code
def yJ1_canEncode_9a6ad : MethodName := ⟨RJ1, "canEncode", "(I)Z"⟩
abbrev cJ1_indexOf_4cfef : ByteArray := prog_16_method_22_code
def yJ1_indexOf_4cfef : MethodName := ⟨RJ1, "indexOf", "([BIII)I"⟩
abbrev cJ1_indexOfChar_4cfef : ByteArray := prog_16_method_23_code
def yJ1_indexOfChar_4cfef : MethodName := ⟨RJ1, "indexOfChar", "([BIII)I"⟩
def RJ2 : String := "java/lang/StringUTF16"
def TJ2 : u_T := fun k => match k with
  | _ => ("", "", "", false)
def tyJ2 : Nat → FieldType := fun k => match k with
  | _ => .int
abbrev wsJ20 : List Cond := u_ws RJ2 TJ2 0
theorem nmJ2 : ∀ a, a < 0 → ∀ b, b < 0 → a ≠ b → (TJ2 a).2.1 ≠ (TJ2 b).2.1 := by decide +kernel
theorem tyJ2_ok : ∀ k, k < 0 → parseFieldDescriptor (TJ2 k).2.2.1 = some (tyJ2 k) := by decide +kernel
abbrev cJ2_getChar_3b067 : ByteArray := prog_17_method_5_code
def yJ2_getChar_3b067 : MethodName := ⟨RJ2, "getChar", "([BI)C"⟩
abbrev cJ2_length_9d52b : ByteArray := prog_17_method_6_code
def yJ2_length_9d52b : MethodName := ⟨RJ2, "length", "([B)I"⟩
abbrev cJ2_indexOf_4cfef : ByteArray := prog_17_method_40_code
def yJ2_indexOf_4cfef : MethodName := ⟨RJ2, "indexOf", "([BIII)I"⟩
abbrev cJ2_indexOfChar_4cfef : ByteArray := prog_17_method_47_code
def yJ2_indexOfChar_4cfef : MethodName := ⟨RJ2, "indexOfChar", "([BIII)I"⟩
abbrev cJ2_indexOfCharUnsafe_4cfef : ByteArray := prog_17_method_48_code
def yJ2_indexOfCharUnsafe_4cfef : MethodName := ⟨RJ2, "indexOfCharUnsafe", "([BIII)I"⟩
abbrev cJ2_indexOfSupplementary_4cfef : ByteArray := prog_17_method_49_code
def yJ2_indexOfSupplementary_4cfef : MethodName := ⟨RJ2, "indexOfSupplementary", "([BIII)I"⟩
abbrev cJ2_charAt_3b067 : ByteArray := prog_17_method_83_code
def yJ2_charAt_3b067 : MethodName := ⟨RJ2, "charAt", "([BI)C"⟩
abbrev cJ2_checkIndex_2214a : ByteArray := prog_17_method_91_code
def yJ2_checkIndex_2214a : MethodName := ⟨RJ2, "checkIndex", "(I[B)V"⟩
abbrev cJ2_checkBoundsBeginEnd_d044e : ByteArray := prog_17_method_93_code
def yJ2_checkBoundsBeginEnd_d044e : MethodName := ⟨RJ2, "checkBoundsBeginEnd", "(II[B)V"⟩
def RJ10 : String := "java/lang/System"
def TJ10 : u_T := fun k => match k with
  | _ => ("", "", "", false)
def tyJ10 : Nat → FieldType := fun k => match k with
  | _ => .int
abbrev wsJ100 : List Cond := u_ws RJ10 TJ10 0
theorem nmJ10 : ∀ a, a < 0 → ∀ b, b < 0 → a ≠ b → (TJ10 a).2.1 ≠ (TJ10 b).2.1 := by decide +kernel
theorem tyJ10_ok : ∀ k, k < 0 → parseFieldDescriptor (TJ10 k).2.2.1 = some (tyJ10 k) := by decide +kernel
def RJ3 : String := "jdk/internal/util/Preconditions"
def TJ3 : u_T := fun k => match k with
  | _ => ("", "", "", false)
def tyJ3 : Nat → FieldType := fun k => match k with
  | _ => .int
abbrev wsJ30 : List Cond := u_ws RJ3 TJ3 0
theorem nmJ3 : ∀ a, a < 0 → ∀ b, b < 0 → a ≠ b → (TJ3 a).2.1 ≠ (TJ3 b).2.1 := by decide +kernel
theorem tyJ3_ok : ∀ k, k < 0 → parseFieldDescriptor (TJ3 k).2.2.1 = some (tyJ3 k) := by decide +kernel
abbrev cJ3_checkIndex_8e157 : ByteArray := prog_19_method_11_code
def yJ3_checkIndex_8e157 : MethodName := ⟨RJ3, "checkIndex", "(IILjava/util/function/BiFunction;)I"⟩
abbrev cJ3_checkFromToIndex_8c36e : ByteArray := prog_19_method_12_code
def yJ3_checkFromToIndex_8c36e : MethodName := ⟨RJ3, "checkFromToIndex", "(IIILjava/util/function/BiFunction;)I"⟩
def RL : String := "NotTwiceLaw"
abbrev cL_law : ByteArray := code
def yL_law : MethodName := ⟨RL, "law", "([I)Z"⟩
def wsL_law_r1 : List Cond := [Cond.classLink RL 7 RX8, Cond.instantiable RX8 9, Cond.initialized RX8, Cond.classLink RL 10 RX9, Cond.instantiable RX9 51, Cond.initialized RX9, Cond.methodLink RL 9 yX8_init, Cond.instanceMethod yX8_init, Cond.code yX8_init cX8_init 1 none, Cond.methodLink RX8 3 objectInit, Cond.instanceMethod objectInit, Cond.code objectInit ⟨#[0xb1]⟩ 1 none, Cond.classLink RX8 9 RX5, Cond.instantiable RX5 5, Cond.initialized RX5, Cond.fieldLink RX8 12 "NotTwice" "shelf" "LNotTwice$Shelf;", Cond.classLink RX8 16 RX7, Cond.instantiable RX7 4, Cond.initialized RX7, Cond.fieldLink RX8 19 "NotTwice" "texts" "LNotTwice$Texts;", Cond.classLink RX8 23 RX1, Cond.instantiable RX1 9, Cond.initialized RX1, Cond.fieldLink RX8 26 "NotTwice" "reader" "LNotTwice$Reader;"]
def wsL_law_r2 : List Cond := [Cond.classLink RX8 48 RX0, Cond.instantiable RX0 14, Cond.initialized RX0, Cond.fieldLink RX8 53 "NotTwice" "now" "LNotTwice$People;", Cond.fieldLink RX8 57 "NotTwice" "thought" "LNotTwice$People;", Cond.fieldLink RX8 60 "NotTwice" "image" "LNotTwice$People;", Cond.classLink RX8 63 RX3, Cond.instantiable RX3 9, Cond.initialized RX3, Cond.fieldLink RX8 68 "NotTwice" "seating" "LNotTwice$Seating;", Cond.classLink RX8 72 RX4, Cond.instantiable RX4 3, Cond.initialized RX4, Cond.fieldLink RX8 75 "NotTwice" "sheets" "LNotTwice$Sheets;", Cond.instanceMethod yX5_init, Cond.code yX5_init cX5_init 1 none, Cond.methodLink RX5 3 objectInit, Cond.arrayClass .int, Cond.fieldLink RX5 9 "NotTwice$Shelf" "kind" "[I", Cond.fieldLink RX5 15 "NotTwice$Shelf" "worth" "[I", Cond.fieldLink RX5 18 "NotTwice$Shelf" "number" "[I", Cond.fieldLink RX5 21 "NotTwice$Shelf" "twin" "[I", Cond.instanceMethod yX7_init, Cond.code yX7_init cX7_init 1 none]
def wsL_law_r3 : List Cond := [Cond.methodLink RX7 3 objectInit, Cond.classLink RX7 9 RX2, Cond.fieldLink RX7 11 "NotTwice$Texts" "rules" "[LNotTwice$Rule;", Cond.fieldLink RX7 19 "NotTwice$Texts" "names" "[I", Cond.fieldLink RX7 23 "NotTwice$Texts" "stack" "[I", Cond.instanceMethod yX1_init, Cond.code yX1_init cX1_init 1 none, Cond.methodLink RX1 3 objectInit, Cond.fieldLink RX1 9 "NotTwice$Reader" "tape" "[I", Cond.fieldLink RX1 15 "NotTwice$Reader" "code" "[I", Cond.fieldLink RX1 18 "NotTwice$Reader" "partAt" "[I", Cond.instanceMethod yX1_putFirstText, Cond.selects RX1 yX1_putFirstText yX1_putFirstText, Cond.code yX1_putFirstText cX1_putFirstText 2 none, Cond.methodLink RX1 27 yJ0_length_8abf5, Cond.instanceMethod yJ0_length_8abf5, Cond.selects RJ0 yJ0_length_8abf5 yJ0_length_8abf5, Cond.initialized RJ0, Cond.code yJ0_length_8abf5 cJ0_length_8abf5 1 (some .int), Cond.fieldLink RJ0 9 "java/lang/String" "value" "[B", Cond.methodLink RJ0 335 yJ0_coder_7d493, Cond.instanceMethod yJ0_coder_7d493, Cond.selects RJ0 yJ0_coder_7d493 yJ0_coder_7d493, Cond.code yJ0_coder_7d493 cJ0_coder_7d493 1 (some .byte)]
def wsL_law_r4 : List Cond := [Cond.fieldLink RJ0 38 "java/lang/String" "COMPACT_STRINGS" "Z", Cond.fieldLink RJ0 15 "java/lang/String" "coder" "B", Cond.methodLink RX1 33 yJ0_charAt_5068e, Cond.instanceMethod yJ0_charAt_5068e, Cond.selects RJ0 yJ0_charAt_5068e yJ0_charAt_5068e, Cond.code yJ0_charAt_5068e cJ0_charAt_5068e 2 (some .char), Cond.methodLink RJ0 492 yJ0_isLatin1_aae02, Cond.instanceMethod yJ0_isLatin1_aae02, Cond.selects RJ0 yJ0_isLatin1_aae02 yJ0_isLatin1_aae02, Cond.code yJ0_isLatin1_aae02 cJ0_isLatin1_aae02 1 (some .boolean), Cond.methodLink RJ0 495 yJ1_charAt_3b067, Cond.static yJ1_charAt_3b067, Cond.initialized RJ1, Cond.code yJ1_charAt_3b067 cJ1_charAt_3b067 2 (some .char), Cond.methodLink RJ1 9 yJ0_checkIndex_df160, Cond.static yJ0_checkIndex_df160, Cond.code yJ0_checkIndex_df160 cJ0_checkIndex_df160 2 none, Cond.fieldLink RJ0 1053 "jdk/internal/util/Preconditions" "SIOOBE_FORMATTER" "Ljava/util/function/BiFunction;", Cond.methodLink RJ0 1059 yJ3_checkIndex_8e157, Cond.static yJ3_checkIndex_8e157, Cond.initialized RJ3, Cond.code yJ3_checkIndex_8e157 cJ3_checkIndex_8e157 3 (some .int), Cond.methodLink RJ0 498 yJ2_charAt_3b067, Cond.static yJ2_charAt_3b067]
def wsL_law_r5 : List Cond := [Cond.initialized RJ2, Cond.code yJ2_charAt_3b067 cJ2_charAt_3b067 2 (some .char), Cond.methodLink RJ2 67 yJ2_checkIndex_2214a, Cond.static yJ2_checkIndex_2214a, Cond.code yJ2_checkIndex_2214a cJ2_checkIndex_2214a 2 none, Cond.methodLink RJ2 48 yJ2_length_9d52b, Cond.static yJ2_length_9d52b, Cond.code yJ2_length_9d52b cJ2_length_9d52b 1 (some .int), Cond.methodLink RJ2 414 yJ0_checkIndex_df160, Cond.methodLink RJ2 71 yJ2_getChar_3b067, Cond.static yJ2_getChar_3b067, Cond.code yJ2_getChar_3b067 cJ2_getChar_3b067 2 (some .char), Cond.fieldLink RJ2 44 "java/lang/StringUTF16" "$assertionsDisabled" "Z", Cond.fieldLink RJ2 59 "java/lang/StringUTF16" "HI_BYTE_SHIFT" "I", Cond.fieldLink RJ2 63 "java/lang/StringUTF16" "LO_BYTE_SHIFT" "I", Cond.methodLink RX1 37 yX1_put, Cond.instanceMethod yX1_put, Cond.selects RX1 yX1_put yX1_put, Cond.code yX1_put cX1_put 2 (some .int), Cond.fieldLink RX1 21 "NotTwice$Reader" "size" "I", Cond.instanceMethod yX1_reads, Cond.selects RX1 yX1_reads yX1_reads, Cond.code yX1_reads cX1_reads 3 (some .boolean), Cond.fieldLink RX1 52 "NotTwice$Reader" "at" "I"]
def wsL_law_r6 : List Cond := [Cond.fieldLink RX1 55 "NotTwice$Reader" "open" "I", Cond.fieldLink RX1 46 "NotTwice$Reader" "codeSize" "I", Cond.fieldLink RX1 70 "NotTwice$Reader" "token" "I", Cond.methodLink RX1 58 yX1_step, Cond.instanceMethod yX1_step, Cond.selects RX1 yX1_step yX1_step, Cond.code yX1_step cX1_step 2 none, Cond.fieldLink RX1 41 "NotTwice$Reader" "tokenAt" "I", Cond.methodLink RX1 87 yX1_isLetter, Cond.static yX1_isLetter, Cond.code yX1_isLetter cX1_isLetter 1 (some .boolean), Cond.methodLink RX1 90 yX1_word, Cond.instanceMethod yX1_word, Cond.selects RX1 yX1_word yX1_word, Cond.code yX1_word cX1_word 5 (some .int), Cond.methodLink RX1 93 yX1_isDigit, Cond.static yX1_isDigit, Cond.code yX1_isDigit cX1_isDigit 1 (some .boolean), Cond.methodLink RX1 96 yX1_numeral, Cond.instanceMethod yX1_numeral, Cond.selects RX1 yX1_numeral yX1_numeral, Cond.code yX1_numeral cX1_numeral 2 (some .int), Cond.methodLink RX1 101 yJ0_indexOf_0f7a4, Cond.instanceMethod yJ0_indexOf_0f7a4]
def wsL_law_r7 : List Cond := [Cond.selects RJ0 yJ0_indexOf_0f7a4 yJ0_indexOf_0f7a4, Cond.code yJ0_indexOf_0f7a4 cJ0_indexOf_0f7a4 2 (some .int), Cond.methodLink RJ0 633 yJ0_indexOf_7cf53, Cond.instanceMethod yJ0_indexOf_7cf53, Cond.selects RJ0 yJ0_indexOf_7cf53 yJ0_indexOf_7cf53, Cond.code yJ0_indexOf_7cf53 cJ0_indexOf_7cf53 3 (some .int), Cond.methodLink RJ0 505 yJ0_length_8abf5, Cond.methodLink RJ0 637 yJ1_indexOf_4cfef, Cond.static yJ1_indexOf_4cfef, Cond.code yJ1_indexOf_4cfef cJ1_indexOf_4cfef 4 (some .int), Cond.methodLink RJ1 92 Lib.Math.max.name, Cond.static Lib.Math.max.name, Cond.initialized "java/lang/Math", Cond.code Lib.Math.max.name Lib.Math.max.code 2 (some .int), Cond.methodLink RJ1 38 Lib.Math.min.name, Cond.static Lib.Math.min.name, Cond.code Lib.Math.min.name Lib.Math.min.code 2 (some .int), Cond.methodLink RJ1 88 yJ1_canEncode_9a6ad, Cond.static yJ1_canEncode_9a6ad, Cond.code yJ1_canEncode_9a6ad cJ1_canEncode_9a6ad 1 (some .boolean), Cond.methodLink RJ1 95 yJ1_indexOfChar_4cfef, Cond.static yJ1_indexOfChar_4cfef, Cond.code yJ1_indexOfChar_4cfef cJ1_indexOfChar_4cfef 6 (some .int), Cond.methodLink RJ0 640 yJ2_indexOf_4cfef]
def wsL_law_r8 : List Cond := [Cond.static yJ2_indexOf_4cfef, Cond.code yJ2_indexOf_4cfef cJ2_indexOf_4cfef 4 (some .int), Cond.methodLink RJ2 224 Lib.Math.max.name, Cond.methodLink RJ2 183 Lib.Math.min.name, Cond.constant RJ2 227 (65536), Cond.methodLink RJ2 228 yJ2_indexOfChar_4cfef, Cond.static yJ2_indexOfChar_4cfef, Cond.code yJ2_indexOfChar_4cfef cJ2_indexOfChar_4cfef 4 (some .int), Cond.methodLink RJ2 96 yJ2_checkBoundsBeginEnd_d044e, Cond.static yJ2_checkBoundsBeginEnd_d044e, Cond.code yJ2_checkBoundsBeginEnd_d044e cJ2_checkBoundsBeginEnd_d044e 3 none, Cond.methodLink RJ2 241 yJ0_checkBoundsBeginEnd_23922, Cond.static yJ0_checkBoundsBeginEnd_23922, Cond.code yJ0_checkBoundsBeginEnd_23922 cJ0_checkBoundsBeginEnd_23922 3 none, Cond.methodLink RJ0 1062 yJ3_checkFromToIndex_8c36e, Cond.static yJ3_checkFromToIndex_8c36e, Cond.code yJ3_checkFromToIndex_8c36e cJ3_checkFromToIndex_8c36e 4 (some .int), Cond.methodLink RJ2 244 yJ2_indexOfCharUnsafe_4cfef, Cond.static yJ2_indexOfCharUnsafe_4cfef, Cond.code yJ2_indexOfCharUnsafe_4cfef cJ2_indexOfCharUnsafe_4cfef 5 (some .int), Cond.methodLink RJ2 232 yJ2_indexOfSupplementary_4cfef, Cond.static yJ2_indexOfSupplementary_4cfef, Cond.code yJ2_indexOfSupplementary_4cfef cJ2_indexOfSupplementary_4cfef 7 (some .int), Cond.methodLink RJ2 164 yJ11_isValidCodePoint_9a6ad]
def wsL_law_r9 : List Cond := [Cond.static yJ11_isValidCodePoint_9a6ad, Cond.initialized RJ11, Cond.code yJ11_isValidCodePoint_9a6ad cJ11_isValidCodePoint_9a6ad 2 (some .boolean), Cond.methodLink RJ2 157 yJ11_highSurrogate_5068e, Cond.static yJ11_highSurrogate_5068e, Cond.code yJ11_highSurrogate_5068e cJ11_highSurrogate_5068e 1 (some .char), Cond.constant RJ11 110 (55232), Cond.methodLink RJ2 161 yJ11_lowSurrogate_5068e, Cond.static yJ11_lowSurrogate_5068e, Cond.code yJ11_lowSurrogate_5068e cJ11_lowSurrogate_5068e 1 (some .char), Cond.constant RJ11 76 (56320), Cond.methodLink RX1 63 yX1_takes, Cond.instanceMethod yX1_takes, Cond.selects RX1 yX1_takes yX1_takes, Cond.code yX1_takes cX1_takes 2 (some .boolean), Cond.methodLink RX1 67 yX1_readsLevel, Cond.instanceMethod yX1_readsLevel, Cond.selects RX1 yX1_readsLevel yX1_readsLevel, Cond.code yX1_readsLevel cX1_readsLevel 6 (some .boolean), Cond.methodLink RX1 73 yX1_readsOpened, Cond.instanceMethod yX1_readsOpened, Cond.selects RX1 yX1_readsOpened yX1_readsOpened, Cond.methodLink RX1 77 yX1_readsPlain, Cond.instanceMethod yX1_readsPlain]
def wsL_law_r10 : List Cond := [Cond.selects RX1 yX1_readsPlain yX1_readsPlain, Cond.code yX1_readsPlain cX1_readsPlain 1 (some .boolean), Cond.methodLink RX1 83 yX1_write, Cond.instanceMethod yX1_write, Cond.selects RX1 yX1_write yX1_write, Cond.code yX1_write cX1_write 2 none, Cond.methodLink RX1 80 yX1_levelOf, Cond.static yX1_levelOf, Cond.code yX1_levelOf cX1_levelOf 1 (some .int), Cond.code yX1_readsOpened cX1_readsOpened 3 (some .boolean), Cond.instanceMethod yX1_made, Cond.selects RX1 yX1_made yX1_made, Cond.code yX1_made cX1_made 1 (some (.object "NotTwice$Rule")), Cond.classLink RX1 44 RX2, Cond.instantiable RX2 3, Cond.initialized RX2, Cond.instanceMethod yX2_init, Cond.code yX2_init cX2_init 5 none, Cond.methodLink RX2 3 objectInit, Cond.fieldLink RX2 9 "NotTwice$Rule" "code" "[I", Cond.methodLink RX2 15 arraycopyName, Cond.native arraycopyName, Cond.static arraycopyName, Cond.initialized "java/lang/System"]
def wsL_law_r11 : List Cond := [Cond.fieldLink RX2 21 "NotTwice$Rule" "paysAt" "I", Cond.fieldLink RX2 25 "NotTwice$Rule" "tiresAt" "I", Cond.instanceMethod yX7_add, Cond.selects RX7 yX7_add yX7_add, Cond.code yX7_add cX7_add 2 (some .int), Cond.fieldLink RX7 26 "NotTwice$Texts" "size" "I", Cond.methodLink RX7 34 yX7_isFull, Cond.instanceMethod yX7_isFull, Cond.selects RX7 yX7_isFull yX7_isFull, Cond.code yX7_isFull cX7_isFull 1 (some .boolean), Cond.instanceMethod yX1_empty, Cond.selects RX1 yX1_empty yX1_empty, Cond.code yX1_empty cX1_empty 1 none, Cond.instanceMethod yX0_init, Cond.code yX0_init cX0_init 3 none, Cond.methodLink RX0 3 objectInit, Cond.fieldLink RX0 9 "NotTwice$People" "house" "[I", Cond.fieldLink RX0 15 "NotTwice$People" "age" "[I", Cond.fieldLink RX0 18 "NotTwice$People" "tells" "[I", Cond.fieldLink RX0 21 "NotTwice$People" "heard" "[I", Cond.fieldLink RX0 24 "NotTwice$People" "since" "[I", Cond.fieldLink RX0 27 "NotTwice$People" "known" "[I", Cond.fieldLink RX0 30 "NotTwice$People" "shelf" "LNotTwice$Shelf;", Cond.fieldLink RX0 34 "NotTwice$People" "texts" "LNotTwice$Texts;"]
def wsL_law_r12 : List Cond := [Cond.instanceMethod yX3_init, Cond.code yX3_init cX3_init 2 none, Cond.methodLink RX3 3 objectInit, Cond.fieldLink RX3 9 "NotTwice$Seating" "seat" "[I", Cond.fieldLink RX3 15 "NotTwice$Seating" "bestSeat" "[I", Cond.fieldLink RX3 18 "NotTwice$Seating" "known" "[I", Cond.fieldLink RX3 21 "NotTwice$Seating" "awake" "[I", Cond.fieldLink RX3 24 "NotTwice$Seating" "many" "[I", Cond.fieldLink RX3 27 "NotTwice$Seating" "knownToOne" "[I", Cond.fieldLink RX3 30 "NotTwice$Seating" "knownToTwo" "[I", Cond.fieldLink RX3 33 "NotTwice$Seating" "people" "LNotTwice$People;", Cond.instanceMethod yX4_init, Cond.code yX4_init cX4_init 2 none, Cond.methodLink RX4 3 objectInit, Cond.fieldLink RX4 11 "NotTwice$Sheets" "sort" "[I", Cond.fieldLink RX4 15 "NotTwice$Sheets" "size" "[I", Cond.fieldLink RX4 18 "NotTwice$Sheets" "items" "[I", Cond.methodLink RL 12 yX9_init, Cond.instanceMethod yX9_init, Cond.code yX9_init cX9_init 1 none, Cond.methodLink RX9 7 objectInit, Cond.fieldLink RX9 13 "NotTwiceModel" "texts" "[I", Cond.fieldLink RX9 17 "NotTwiceModel" "textSize" "[I", Cond.fieldLink RX9 20 "NotTwiceModel" "tape" "[I"]
def wsL_law_r13 : List Cond := [Cond.fieldLink RX9 23 "NotTwiceModel" "kinds" "[I", Cond.fieldLink RX9 26 "NotTwiceModel" "worths" "[I", Cond.fieldLink RX9 29 "NotTwiceModel" "numbers" "[I", Cond.fieldLink RX9 32 "NotTwiceModel" "twins" "[I", Cond.fieldLink RX9 35 "NotTwiceModel" "ages" "[I", Cond.fieldLink RX9 38 "NotTwiceModel" "tells" "[I", Cond.fieldLink RX9 41 "NotTwiceModel" "heard" "[I", Cond.fieldLink RX9 44 "NotTwiceModel" "houses" "[I", Cond.fieldLink RX9 47 "NotTwiceModel" "since" "[I", Cond.fieldLink RX9 50 "NotTwiceModel" "heardWas" "[I", Cond.fieldLink RX9 53 "NotTwiceModel" "housesWas" "[I", Cond.fieldLink RX9 56 "NotTwiceModel" "sinceWas" "[I", Cond.fieldLink RX9 59 "NotTwiceModel" "knowersOf" "[I", Cond.fieldLink RX9 62 "NotTwiceModel" "tiredOf" "[I", Cond.fieldLink RX9 65 "NotTwiceModel" "heardKept" "[I", Cond.fieldLink RX9 68 "NotTwiceModel" "housesKept" "[I", Cond.fieldLink RX9 71 "NotTwiceModel" "sinceKept" "[I", Cond.fieldLink RX9 74 "NotTwiceModel" "manyKept" "I", Cond.arrayClass .boolean, Cond.fieldLink RX9 77 "NotTwiceModel" "isThere" "[Z", Cond.fieldLink RX9 81 "NotTwiceModel" "sorts" "[I", Cond.fieldLink RX9 84 "NotTwiceModel" "sheetSize" "[I", Cond.fieldLink RX9 87 "NotTwiceModel" "items" "[I", Cond.fieldLink RX9 94 "NotTwiceModel" "textCount" "I"]
def wsL_law_r14 : List Cond := [Cond.methodLink RX9 90 yX9_spell, Cond.instanceMethod yX9_spell, Cond.selects RX9 yX9_spell yX9_spell, Cond.code yX9_spell cX9_spell 10 none, Cond.methodLink RL 13 yX8_story, Cond.instanceMethod yX8_story, Cond.selects RX8 yX8_story yX8_story, Cond.code yX8_story cX8_story 4 (some .int), Cond.methodLink RX8 79 yX8_isBelow, Cond.static yX8_isBelow, Cond.code yX8_isBelow cX8_isBelow 2 (some .boolean), Cond.instanceMethod yX5_add, Cond.selects RX5 yX5_add yX5_add, Cond.code yX5_add cX5_add 4 (some .int), Cond.fieldLink RX5 24 "NotTwice$Shelf" "size" "I", Cond.methodLink RL 17 yX9_story, Cond.instanceMethod yX9_story, Cond.selects RX9 yX9_story yX9_story, Cond.code yX9_story cX9_story 4 (some .int), Cond.constantLong RX9 109 (5), Cond.constantLong RX9 111 (9), Cond.fieldLink RX9 97 "NotTwiceModel" "storyMany" "I", Cond.methodLink RX9 100 yX9_in, Cond.static yX9_in]
def wsL_law_r15 : List Cond := [Cond.code yX9_in cX9_in 6 (some .boolean), Cond.methodLink RL 18 yX8_twin, Cond.instanceMethod yX8_twin, Cond.selects RX8 yX8_twin yX8_twin, Cond.code yX8_twin cX8_twin 3 (some .int), Cond.instanceMethod yX5_has, Cond.selects RX5 yX5_has yX5_has, Cond.code yX5_has cX5_has 2 (some .boolean), Cond.instanceMethod yX5_join, Cond.selects RX5 yX5_join yX5_join, Cond.code yX5_join cX5_join 3 none, Cond.methodLink RX5 32 yX5_part, Cond.instanceMethod yX5_part, Cond.selects RX5 yX5_part yX5_part, Cond.code yX5_part cX5_part 3 none, Cond.methodLink RX5 36 yX5_has, Cond.methodLink RL 22 yX9_twin, Cond.instanceMethod yX9_twin, Cond.selects RX9 yX9_twin yX9_twin, Cond.code yX9_twin cX9_twin 3 (some .int), Cond.methodLink RX9 113 yX9_isStory, Cond.instanceMethod yX9_isStory, Cond.selects RX9 yX9_isStory yX9_isStory, Cond.code yX9_isStory cX9_isStory 2 (some .boolean)]
def wsL_law_r16 : List Cond := [Cond.methodLink RX9 117 yX9_parts, Cond.instanceMethod yX9_parts, Cond.selects RX9 yX9_parts yX9_parts, Cond.code yX9_parts cX9_parts 2 none, Cond.methodLink RL 23 yX8_person, Cond.instanceMethod yX8_person, Cond.selects RX8 yX8_person yX8_person, Cond.code yX8_person cX8_person 3 (some .int), Cond.instanceMethod yX0_come, Cond.selects RX0 yX0_come yX0_come, Cond.code yX0_come cX0_come 3 (some .int), Cond.fieldLink RX0 38 "NotTwice$People" "size" "I", Cond.methodLink RX0 46 yX0_sit, Cond.instanceMethod yX0_sit, Cond.selects RX0 yX0_sit yX0_sit, Cond.code yX0_sit cX0_sit 4 none, Cond.methodLink RL 26 yX9_person, Cond.instanceMethod yX9_person, Cond.selects RX9 yX9_person yX9_person, Cond.code yX9_person cX9_person 3 (some .int), Cond.constantLong RX9 121 (399), Cond.constantLong RX9 123 (255), Cond.fieldLink RX9 104 "NotTwiceModel" "many" "I", Cond.methodLink RL 27 yX8_set]
def wsL_law_r17 : List Cond := [Cond.instanceMethod yX8_set, Cond.selects RX8 yX8_set yX8_set, Cond.code yX8_set cX8_set 4 (some .int), Cond.instanceMethod yX0_has, Cond.selects RX0 yX0_has yX0_has, Cond.code yX0_has cX0_has 2 (some .boolean), Cond.methodLink RX8 99 yX8_isHouse, Cond.static yX8_isHouse, Cond.code yX8_isHouse cX8_isHouse 1 (some .boolean), Cond.methodLink RX8 106 yX8_put, Cond.static yX8_put, Cond.code yX8_put cX8_put 4 (some .int), Cond.methodLink RL 30 yX9_set, Cond.instanceMethod yX9_set, Cond.selects RX9 yX9_set yX9_set, Cond.code yX9_set cX9_set 5 (some .int), Cond.constantLong RX9 125 (2), Cond.constantLong RX9 107 (3), Cond.constantLong RX9 130 (99), Cond.methodLink RX9 127 yX9_isPerson, Cond.instanceMethod yX9_isPerson, Cond.selects RX9 yX9_isPerson yX9_isPerson, Cond.code yX9_isPerson cX9_isPerson 2 (some .boolean), Cond.methodLink RL 31 yX8_hears]
def wsL_law_r18 : List Cond := [Cond.instanceMethod yX8_hears, Cond.selects RX8 yX8_hears yX8_hears, Cond.code yX8_hears cX8_hears 5 (some .int), Cond.instanceMethod yX0_hear, Cond.selects RX0 yX0_hear yX0_hear, Cond.code yX0_hear cX0_hear 3 none, Cond.fieldLink RX0 60 "NotTwice$People" "night" "I", Cond.instanceMethod yX0_forget, Cond.selects RX0 yX0_forget yX0_forget, Cond.code yX0_forget cX0_forget 3 none, Cond.methodLink RL 34 yX9_hears, Cond.instanceMethod yX9_hears, Cond.selects RX9 yX9_hears yX9_hears, Cond.code yX9_hears cX9_hears 5 (some .int), Cond.fieldLink RX9 132 "NotTwiceModel" "night" "I", Cond.methodLink RL 35 yX8_told, Cond.instanceMethod yX8_told, Cond.selects RX8 yX8_told yX8_told, Cond.code yX8_told cX8_told 4 (some .int), Cond.instanceMethod yX5_stays, Cond.selects RX5 yX5_stays yX5_stays, Cond.code yX5_stays cX5_stays 5 (some .int), Cond.methodLink RX5 40 Lib.Math.max.name, Cond.instanceMethod yX5_counts]
def wsL_law_r19 : List Cond := [Cond.selects RX5 yX5_counts yX5_counts, Cond.code yX5_counts cX5_counts 6 (some .int), Cond.methodLink RL 38 yX9_told, Cond.instanceMethod yX9_told, Cond.selects RX9 yX9_told yX9_told, Cond.code yX9_told cX9_told 4 (some .int), Cond.methodLink RX9 135 yX9_stays, Cond.instanceMethod yX9_stays, Cond.selects RX9 yX9_stays yX9_stays, Cond.code yX9_stays cX9_stays 3 (some .int), Cond.methodLink RX9 139 yX9_counts, Cond.instanceMethod yX9_counts, Cond.selects RX9 yX9_counts yX9_counts, Cond.code yX9_counts cX9_counts 5 (some .int), Cond.methodLink RL 39 yX8_one, Cond.instanceMethod yX8_one, Cond.selects RX8 yX8_one yX8_one, Cond.code yX8_one cX8_one 3 (some .int), Cond.instanceMethod yX0_knows, Cond.selects RX0 yX0_knows yX0_knows, Cond.code yX0_knows cX0_knows 2 (some .int), Cond.instanceMethod yX5_withTwins, Cond.selects RX5 yX5_withTwins yX5_withTwins, Cond.code yX5_withTwins cX5_withTwins 4 (some .int)]
def wsL_law_r20 : List Cond := [Cond.methodLink RL 42 yX9_one, Cond.instanceMethod yX9_one, Cond.selects RX9 yX9_one yX9_one, Cond.code yX9_one cX9_one 3 (some .int), Cond.constantLong RX9 143 (4), Cond.methodLink RX9 145 yX9_known, Cond.instanceMethod yX9_known, Cond.selects RX9 yX9_known yX9_known, Cond.code yX9_known cX9_known 4 (some .int), Cond.methodLink RL 43 yX8_feed, Cond.instanceMethod yX8_feed, Cond.selects RX8 yX8_feed yX8_feed, Cond.code yX8_feed cX8_feed 2 (some .int), Cond.methodLink RL 47 yX9_feed, Cond.instanceMethod yX9_feed, Cond.selects RX9 yX9_feed yX9_feed, Cond.code yX9_feed cX9_feed 2 (some .int), Cond.fieldLink RX9 148 "NotTwiceModel" "taped" "I", Cond.methodLink RL 48 yX8_text, Cond.instanceMethod yX8_text, Cond.selects RX8 yX8_text yX8_text, Cond.code yX8_text cX8_text 2 (some .int), Cond.instanceMethod yX1_place, Cond.selects RX1 yX1_place yX1_place]
def wsL_law_r21 : List Cond := [Cond.code yX1_place cX1_place 1 (some .int), Cond.methodLink RL 52 yX9_text, Cond.instanceMethod yX9_text, Cond.selects RX9 yX9_text yX9_text, Cond.code yX9_text cX9_text 2 (some .int), Cond.fieldLink RX9 183 "NotTwiceModel" "bad" "Z", Cond.fieldLink RX9 187 "NotTwiceModel" "fault" "I", Cond.methodLink RX9 262 yX9_read, Cond.instanceMethod yX9_read, Cond.selects RX9 yX9_read yX9_read, Cond.code yX9_read cX9_read 6 (some .int), Cond.fieldLink RX9 154 "NotTwiceModel" "from" "I", Cond.fieldLink RX9 151 "NotTwiceModel" "size" "I", Cond.fieldLink RX9 157 "NotTwiceModel" "here" "I", Cond.fieldLink RX9 194 "NotTwiceModel" "open" "I", Cond.fieldLink RX9 166 "NotTwiceModel" "token" "I", Cond.methodLink RX9 200 yX9_next, Cond.instanceMethod yX9_next, Cond.selects RX9 yX9_next yX9_next, Cond.code yX9_next cX9_next 3 none, Cond.fieldLink RX9 163 "NotTwiceModel" "tokenAt" "I", Cond.constantLong RX9 169 (97), Cond.constantLong RX9 171 (122), Cond.constantLong RX9 173 (48)]
def wsL_law_r22 : List Cond := [Cond.constantLong RX9 175 (57), Cond.fieldLink RX9 177 "NotTwiceModel" "tokenWorth" "J", Cond.constantLong RX9 181 (10), Cond.methodLink RX9 160 yX9_byteAt, Cond.instanceMethod yX9_byteAt, Cond.selects RX9 yX9_byteAt yX9_byteAt, Cond.code yX9_byteAt cX9_byteAt 2 (some .int), Cond.methodLink RX9 203 yX9_isWord, Cond.instanceMethod yX9_isWord, Cond.selects RX9 yX9_isWord yX9_isWord, Cond.code yX9_isWord cX9_isWord 9 (some .boolean), Cond.methodLink RX9 190 yX9_isLetter, Cond.instanceMethod yX9_isLetter, Cond.selects RX9 yX9_isLetter yX9_isLetter, Cond.code yX9_isLetter cX9_isLetter 3 (some .boolean), Cond.methodLink RX9 258 yX9_part, Cond.instanceMethod yX9_part, Cond.selects RX9 yX9_part yX9_part, Cond.code yX9_part cX9_part 3 (some .int), Cond.methodLink RX9 197 yX9_fail, Cond.instanceMethod yX9_fail, Cond.selects RX9 yX9_fail yX9_fail, Cond.code yX9_fail cX9_fail 1 none, Cond.methodLink RX9 236 yX9_either]
def wsL_law_r23 : List Cond := [Cond.instanceMethod yX9_either, Cond.selects RX9 yX9_either yX9_either, Cond.code yX9_either cX9_either 3 (some .int), Cond.methodLink RX9 255 yX9_both, Cond.instanceMethod yX9_both, Cond.selects RX9 yX9_both yX9_both, Cond.code yX9_added cX9_added 4 (some .int), Cond.constantLong RX9 245 (43), Cond.methodLink RX9 242 yX9_term, Cond.instanceMethod yX9_term, Cond.selects RX9 yX9_term yX9_term, Cond.methodLink RX9 225 yX9_isSign, Cond.instanceMethod yX9_isSign, Cond.selects RX9 yX9_isSign yX9_isSign, Cond.code yX9_isSign cX9_isSign 2 (some .boolean), Cond.code yX9_atom cX9_atom 2 (some .int), Cond.methodLink RX9 228 yX9_opens, Cond.instanceMethod yX9_opens, Cond.selects RX9 yX9_opens yX9_opens, Cond.code yX9_opens cX9_opens 1 (some .boolean), Cond.methodLink RX9 232 yX9_atom, Cond.instanceMethod yX9_atom, Cond.selects RX9 yX9_atom yX9_atom, Cond.methodLink RX9 239 yX9_name]
def wsL_law_r24 : List Cond := [Cond.instanceMethod yX9_name, Cond.selects RX9 yX9_name yX9_name, Cond.code yX9_name cX9_name 1 (some .int), Cond.fieldLink RX9 207 "NotTwiceModel" "ofAge" "I", Cond.fieldLink RX9 210 "NotTwiceModel" "ofWorth" "I", Cond.fieldLink RX9 213 "NotTwiceModel" "ofHeard" "I", Cond.fieldLink RX9 216 "NotTwiceModel" "ofMany" "I", Cond.fieldLink RX9 219 "NotTwiceModel" "ofNight" "I", Cond.fieldLink RX9 222 "NotTwiceModel" "ofOwn" "I", Cond.code yX9_both cX9_both 3 (some .int), Cond.methodLink RX9 247 yX9_not, Cond.instanceMethod yX9_not, Cond.selects RX9 yX9_not yX9_not, Cond.code yX9_not cX9_not 4 (some .int), Cond.constantLong RX9 253 (60), Cond.methodLink RX9 250 yX9_added, Cond.instanceMethod yX9_added, Cond.selects RX9 yX9_added yX9_added, Cond.code yX9_term cX9_term 2 (some .int), Cond.methodLink RL 53 yX8_force, Cond.instanceMethod yX8_force, Cond.selects RX8 yX8_force yX8_force, Cond.code yX8_force cX8_force 3 (some .int), Cond.instanceMethod yX7_has]
def wsL_law_r25 : List Cond := [Cond.selects RX7 yX7_has yX7_has, Cond.code yX7_has cX7_has 2 (some .boolean), Cond.methodLink RL 56 yX9_force, Cond.instanceMethod yX9_force, Cond.selects RX9 yX9_force yX9_force, Cond.code yX9_force cX9_force 3 (some .int), Cond.fieldLink RX9 265 "NotTwiceModel" "rule" "I", Cond.methodLink RL 57 yX8_may, Cond.instanceMethod yX8_may, Cond.selects RX8 yX8_may yX8_may, Cond.code yX8_may cX8_may 2 (some .int), Cond.instanceMethod yX0_tellableIn, Cond.selects RX0 yX0_tellableIn yX0_tellableIn, Cond.code yX0_tellableIn cX0_tellableIn 4 (some .int), Cond.methodLink RX0 96 yX0_lookInto, Cond.instanceMethod yX0_lookInto, Cond.selects RX0 yX0_lookInto yX0_lookInto, Cond.code yX0_lookInto cX0_lookInto 3 none, Cond.fieldLink RX0 72 "NotTwice$People" "many" "I", Cond.fieldLink RX0 75 "NotTwice$People" "knownToOne" "I", Cond.fieldLink RX0 78 "NotTwice$People" "knownToTwo" "I", Cond.methodLink RX0 81 yX0_knows, Cond.methodLink RX0 100 yX0_tellableOf, Cond.instanceMethod yX0_tellableOf]
def wsL_law_r26 : List Cond := [Cond.selects RX0 yX0_tellableOf yX0_tellableOf, Cond.code yX0_tellableOf cX0_tellableOf 5 (some .int), Cond.methodLink RX0 88 yX0_newToOthers, Cond.instanceMethod yX0_newToOthers, Cond.selects RX0 yX0_newToOthers yX0_newToOthers, Cond.code yX0_newToOthers cX0_newToOthers 2 (some .int), Cond.instanceMethod yX5_all, Cond.selects RX5 yX5_all yX5_all, Cond.code yX5_all cX5_all 1 (some .int), Cond.methodLink RX0 92 yX0_value, Cond.instanceMethod yX0_value, Cond.selects RX0 yX0_value yX0_value, Cond.code yX0_value cX0_value 7 (some .int), Cond.fieldLink RX0 63 "NotTwice$People" "rule" "I", Cond.instanceMethod yX7_at, Cond.selects RX7 yX7_at yX7_at, Cond.code yX7_at cX7_at 2 (some (.object "NotTwice$Rule")), Cond.methodLink RX0 143 yJ6_bitCount_0f7a4, Cond.static yJ6_bitCount_0f7a4, Cond.initialized RJ6, Cond.code yJ6_bitCount_0f7a4 cJ6_bitCount_0f7a4 1 (some .int), Cond.constant RJ6 265 (1431655765), Cond.constant RJ6 266 (858993459), Cond.constant RJ6 267 (252645135)]
def wsL_law_r27 : List Cond := [Cond.instanceMethod yX2_value, Cond.selects RX2 yX2_value yX2_value, Cond.code yX2_value cX2_value 10 (some .int), Cond.methodLink RX2 30 yX2_joined, Cond.static yX2_joined, Cond.code yX2_joined cX2_joined 3 (some .int), Cond.methodLink RL 60 yX9_may, Cond.instanceMethod yX9_may, Cond.selects RX9 yX9_may yX9_may, Cond.code yX9_may cX9_may 2 (some .int), Cond.methodLink RX9 288 yX9_isHouse, Cond.static yX9_isHouse, Cond.code yX9_isHouse cX9_isHouse 1 (some .boolean), Cond.methodLink RX9 291 yX9_allMay, Cond.instanceMethod yX9_allMay, Cond.selects RX9 yX9_allMay yX9_allMay, Cond.code yX9_allMay cX9_allMay 4 (some .int), Cond.methodLink RX9 285 yX9_teller, Cond.instanceMethod yX9_teller, Cond.selects RX9 yX9_teller yX9_teller, Cond.code yX9_teller cX9_teller 5 (some .int), Cond.methodLink RX9 278 yX9_sitting, Cond.instanceMethod yX9_sitting, Cond.selects RX9 yX9_sitting yX9_sitting]
def wsL_law_r28 : List Cond := [Cond.code yX9_sitting cX9_sitting 4 (some .int), Cond.methodLink RX9 281 yX9_mayTell, Cond.instanceMethod yX9_mayTell, Cond.selects RX9 yX9_mayTell yX9_mayTell, Cond.code yX9_mayTell cX9_mayTell 5 (some .boolean), Cond.methodLink RX9 271 yX9_knowers, Cond.instanceMethod yX9_knowers, Cond.selects RX9 yX9_knowers yX9_knowers, Cond.code yX9_knowers cX9_knowers 4 (some .int), Cond.methodLink RX9 268 yX9_bitsOf, Cond.static yX9_bitsOf, Cond.code yX9_bitsOf cX9_bitsOf 3 (some .int), Cond.methodLink RX9 274 yX9_says, Cond.instanceMethod yX9_says, Cond.selects RX9 yX9_says yX9_says, Cond.code yX9_says cX9_says 5 (some .int), Cond.methodLink RL 61 yX8_by, Cond.instanceMethod yX8_by, Cond.selects RX8 yX8_by yX8_by, Cond.code yX8_by cX8_by 3 (some .int), Cond.instanceMethod yX0_byWhom, Cond.selects RX0 yX0_byWhom yX0_byWhom, Cond.code yX0_byWhom cX0_byWhom 3 (some .int), Cond.methodLink RX0 104 yX0_firstTeller]
def wsL_law_r29 : List Cond := [Cond.instanceMethod yX0_firstTeller, Cond.selects RX0 yX0_firstTeller yX0_firstTeller, Cond.code yX0_firstTeller cX0_firstTeller 4 (some .int), Cond.methodLink RL 64 yX9_by, Cond.instanceMethod yX9_by, Cond.selects RX9 yX9_by yX9_by, Cond.code yX9_by cX9_by 3 (some .int), Cond.methodLink RL 65 yX8_worth, Cond.instanceMethod yX8_worth, Cond.selects RX8 yX8_worth yX8_worth, Cond.code yX8_worth cX8_worth 3 (some .long), Cond.constantLong RX8 171 (-4611686018427387904), Cond.instanceMethod yX0_worthOf, Cond.selects RX0 yX0_worthOf yX0_worthOf, Cond.code yX0_worthOf cX0_worthOf 4 (some .long), Cond.constantLong RX0 107 (-4611686018427387904), Cond.methodLink RX0 109 yX0_worthBy, Cond.instanceMethod yX0_worthBy, Cond.selects RX0 yX0_worthBy yX0_worthBy, Cond.code yX0_worthBy cX0_worthBy 5 (some .long), Cond.methodLink RX0 113 yX0_bounded, Cond.static yX0_bounded, Cond.code yX0_bounded cX0_bounded 2 (some .int), Cond.methodLink RX0 120 Lib.Math.min.name]
def wsL_law_r30 : List Cond := [Cond.methodLink RX0 156 Lib.Math.max.name, Cond.methodLink RL 69 yX9_worth, Cond.instanceMethod yX9_worth, Cond.selects RX9 yX9_worth yX9_worth, Cond.code yX9_worth cX9_worth 4 (some .long), Cond.constantLong RX9 298 (-4611686018427387904), Cond.methodLink RX9 300 yX9_worthBy, Cond.instanceMethod yX9_worthBy, Cond.selects RX9 yX9_worthBy yX9_worthBy, Cond.code yX9_worthBy cX9_worthBy 7 (some .int), Cond.methodLink RX9 294 yX9_within, Cond.static yX9_within, Cond.code yX9_within cX9_within 3 (some .int), Cond.methodLink RL 70 yX8_most, Cond.instanceMethod yX8_most, Cond.selects RX8 yX8_most yX8_most, Cond.code yX8_most cX8_most 4 (some .long), Cond.instanceMethod yX0_bestOf, Cond.selects RX0 yX0_bestOf yX0_bestOf, Cond.code yX0_bestOf cX0_bestOf 9 (some .int), Cond.methodLink RL 73 yX9_most, Cond.instanceMethod yX9_most, Cond.selects RX9 yX9_most yX9_most, Cond.code yX9_most cX9_most 4 (some .long)]
def wsL_law_r31 : List Cond := [Cond.fieldLink RX9 303 "NotTwiceModel" "bestWorth" "I", Cond.methodLink RX9 306 yX9_best, Cond.instanceMethod yX9_best, Cond.selects RX9 yX9_best yX9_best, Cond.code yX9_best cX9_best 6 (some .int), Cond.methodLink RL 74 yX8_tell, Cond.instanceMethod yX8_tell, Cond.selects RX8 yX8_tell yX8_tell, Cond.code yX8_tell cX8_tell 3 (some .int), Cond.instanceMethod yX0_spend, Cond.selects RX0 yX0_spend yX0_spend, Cond.code yX0_spend cX0_spend 5 (some .int), Cond.methodLink RX0 116 yX0_hear, Cond.methodLink RL 77 yX9_tell, Cond.instanceMethod yX9_tell, Cond.selects RX9 yX9_tell yX9_tell, Cond.code yX9_tell cX9_tell 4 (some .int), Cond.methodLink RX9 309 yX9_tellIn, Cond.instanceMethod yX9_tellIn, Cond.selects RX9 yX9_tellIn yX9_tellIn, Cond.code yX9_tellIn cX9_tellIn 6 (some .int), Cond.methodLink RL 78 yX8_pass, Cond.instanceMethod yX8_pass, Cond.selects RX8 yX8_pass yX8_pass]
def wsL_law_r32 : List Cond := [Cond.code yX8_pass cX8_pass 1 (some .int), Cond.instanceMethod yX0_sleep, Cond.selects RX0 yX0_sleep yX0_sleep, Cond.code yX0_sleep cX0_sleep 4 none, Cond.methodLink RX0 128 yX0_forget, Cond.methodLink RL 81 yX9_pass, Cond.instanceMethod yX9_pass, Cond.selects RX9 yX9_pass yX9_pass, Cond.code yX9_pass cX9_pass 3 (some .int), Cond.methodLink RL 82 yX8_goesOn, Cond.instanceMethod yX8_goesOn, Cond.selects RX8 yX8_goesOn yX8_goesOn, Cond.code yX8_goesOn cX8_goesOn 6 (some .int), Cond.instanceMethod yX0_unheardIn, Cond.selects RX0 yX0_unheardIn yX0_unheardIn, Cond.code yX0_unheardIn cX0_unheardIn 4 (some .int), Cond.methodLink RX8 188 yJ6_bitCount_0f7a4, Cond.methodLink RX8 193 yX8_canTellAll, Cond.instanceMethod yX8_canTellAll, Cond.selects RX8 yX8_canTellAll yX8_canTellAll, Cond.code yX8_canTellAll cX8_canTellAll 4 (some .boolean), Cond.instanceMethod yX0_takeAll, Cond.selects RX0 yX0_takeAll yX0_takeAll, Cond.code yX0_takeAll cX0_takeAll 2 none]
def wsL_law_r33 : List Cond := [Cond.methodLink RX0 50 arraycopyName, Cond.methodLink RX0 56 yX0_goBackTo, Cond.instanceMethod yX0_goBackTo, Cond.selects RX0 yX0_goBackTo yX0_goBackTo, Cond.code yX0_goBackTo cX0_goBackTo 2 none, Cond.methodLink RL 85 yX9_goesOn, Cond.instanceMethod yX9_goesOn, Cond.selects RX9 yX9_goesOn yX9_goesOn, Cond.code yX9_goesOn cX9_goesOn 5 (some .int), Cond.methodLink RX9 318 yX9_laysAside, Cond.instanceMethod yX9_laysAside, Cond.selects RX9 yX9_laysAside yX9_laysAside, Cond.code yX9_laysAside cX9_laysAside 2 none, Cond.fieldLink RX9 312 "NotTwiceModel" "nightWas" "I", Cond.methodLink RX9 321 yX9_canAll, Cond.instanceMethod yX9_canAll, Cond.selects RX9 yX9_canAll yX9_canAll, Cond.code yX9_canAll cX9_canAll 6 (some .boolean), Cond.methodLink RX9 315 yX9_laysBack, Cond.instanceMethod yX9_laysBack, Cond.selects RX9 yX9_laysBack yX9_laysBack, Cond.code yX9_laysBack cX9_laysBack 2 none, Cond.methodLink RL 86 yX8_spread, Cond.instanceMethod yX8_spread]
def wsL_law_r34 : List Cond := [Cond.selects RX8 yX8_spread yX8_spread, Cond.code yX8_spread cX8_spread 3 (some .int), Cond.instanceMethod yX3_waysOver, Cond.selects RX3 yX3_waysOver yX3_waysOver, Cond.code yX3_waysOver cX3_waysOver 4 (some .int), Cond.instanceMethod yX3_search, Cond.selects RX3 yX3_search yX3_search, Cond.code yX3_search cX3_search 6 none, Cond.fieldLink RX3 46 "NotTwice$Seating" "best" "I", Cond.methodLink RX3 53 Lib.Math.min.name, Cond.methodLink RX3 62 arraycopyName, Cond.methodLink RX3 43 yX3_prepare, Cond.instanceMethod yX3_prepare, Cond.selects RX3 yX3_prepare yX3_prepare, Cond.code yX3_prepare cX3_prepare 3 none, Cond.methodLink RX3 75 yX3_awakeOf, Cond.instanceMethod yX3_awakeOf, Cond.selects RX3 yX3_awakeOf yX3_awakeOf, Cond.code yX3_awakeOf cX3_awakeOf 5 (some .int), Cond.methodLink RX3 49 yX3_waysOver, Cond.methodLink RX3 59 yX3_housesWithStory, Cond.instanceMethod yX3_housesWithStory, Cond.selects RX3 yX3_housesWithStory yX3_housesWithStory, Cond.code yX3_housesWithStory cX3_housesWithStory 6 (some .int)]
def wsL_law_r35 : List Cond := [Cond.methodLink RX3 96 yX3_fillHouses, Cond.instanceMethod yX3_fillHouses, Cond.selects RX3 yX3_fillHouses yX3_fillHouses, Cond.code yX3_fillHouses cX3_fillHouses 4 none, Cond.methodLink RX3 99 yJ6_bitCount_0f7a4, Cond.methodLink RX3 68 yX3_nextWay, Cond.instanceMethod yX3_nextWay, Cond.selects RX3 yX3_nextWay yX3_nextWay, Cond.code yX3_nextWay cX3_nextWay 3 none, Cond.methodLink RL 89 yX9_spread, Cond.instanceMethod yX9_spread, Cond.selects RX9 yX9_spread yX9_spread, Cond.code yX9_spread cX9_spread 8 (some .int), Cond.methodLink RX9 333 yX9_housesWith, Cond.instanceMethod yX9_housesWith, Cond.selects RX9 yX9_housesWith yX9_housesWith, Cond.code yX9_housesWith cX9_housesWith 7 (some .int), Cond.methodLink RX9 327 yX9_digit, Cond.static yX9_digit, Cond.code yX9_digit cX9_digit 5 (some .int), Cond.methodLink RX9 330 yX9_anyMay, Cond.instanceMethod yX9_anyMay, Cond.selects RX9 yX9_anyMay yX9_anyMay, Cond.code yX9_anyMay cX9_anyMay 6 (some .boolean)]
def wsL_law_r36 : List Cond := [Cond.methodLink RX9 324 yX9_isTired, Cond.instanceMethod yX9_isTired, Cond.selects RX9 yX9_isTired yX9_isTired, Cond.code yX9_isTired cX9_isTired 5 (some .boolean), Cond.methodLink RL 90 yX8_keepAway, Cond.instanceMethod yX8_keepAway, Cond.selects RX8 yX8_keepAway yX8_keepAway, Cond.code yX8_keepAway cX8_keepAway 6 (some .int), Cond.methodLink RL 93 yX9_keepAway, Cond.instanceMethod yX9_keepAway, Cond.selects RX9 yX9_keepAway yX9_keepAway, Cond.code yX9_keepAway cX9_keepAway 6 (some .int), Cond.methodLink RL 94 yX8_send, Cond.instanceMethod yX8_send, Cond.selects RX8 yX8_send yX8_send, Cond.code yX8_send cX8_send 7 (some .int), Cond.instanceMethod yX0_tellableBy, Cond.selects RX0 yX0_tellableBy yX0_tellableBy, Cond.code yX0_tellableBy cX0_tellableBy 2 (some .int), Cond.methodLink RL 97 yX9_send, Cond.instanceMethod yX9_send, Cond.selects RX9 yX9_send yX9_send, Cond.code yX9_send cX9_send 10 (some .int), Cond.methodLink RL 98 yX8_stranger]
def wsL_law_r37 : List Cond := [Cond.instanceMethod yX8_stranger, Cond.selects RX8 yX8_stranger yX8_stranger, Cond.code yX8_stranger cX8_stranger 4 (some .int), Cond.methodLink RL 101 yX9_stranger, Cond.instanceMethod yX9_stranger, Cond.selects RX9 yX9_stranger yX9_stranger, Cond.code yX9_stranger cX9_stranger 6 (some .int), Cond.methodLink RL 102 yX8_left, Cond.instanceMethod yX8_left, Cond.selects RX8 yX8_left yX8_left, Cond.code yX8_left cX8_left 3 (some .int), Cond.methodLink RL 105 yX9_left, Cond.instanceMethod yX9_left, Cond.selects RX9 yX9_left yX9_left, Cond.code yX9_left cX9_left 3 (some .int), Cond.methodLink RL 106 yX8_judge, Cond.instanceMethod yX8_judge, Cond.selects RX8 yX8_judge yX8_judge, Cond.code yX8_judge cX8_judge 5 (some .int), Cond.instanceMethod yX4_has, Cond.selects RX4 yX4_has yX4_has, Cond.code yX4_has cX4_has 2 (some .boolean), Cond.instanceMethod yX4_isMissing, Cond.selects RX4 yX4_isMissing yX4_isMissing]
def wsL_law_r38 : List Cond := [Cond.code yX4_isMissing cX4_isMissing 2 (some .boolean), Cond.instanceMethod yX4_at, Cond.selects RX4 yX4_at yX4_at, Cond.code yX4_at cX4_at 3 (some .int), Cond.methodLink RL 109 yX9_judge, Cond.instanceMethod yX9_judge, Cond.selects RX9 yX9_judge yX9_judge, Cond.code yX9_judge cX9_judge 7 (some .int), Cond.methodLink RX9 336 yX9_isSheet, Cond.static yX9_isSheet, Cond.code yX9_isSheet cX9_isSheet 1 (some .boolean), Cond.methodLink RL 110 yX8_drawn, Cond.instanceMethod yX8_drawn, Cond.selects RX8 yX8_drawn yX8_drawn, Cond.code yX8_drawn cX8_drawn 8 (some .int), Cond.constant RX8 234 (1103515245), Cond.methodLink RL 113 yX9_drawn, Cond.instanceMethod yX9_drawn, Cond.selects RX9 yX9_drawn yX9_drawn, Cond.code yX9_drawn cX9_drawn 8 (some .int), Cond.constantLong RX9 339 (40), Cond.constant RX9 341 (1103515245), Cond.methodLink RX9 342 yX9_pass, Cond.methodLink RL 114 yX8_image]
def wsL_law_r39 : List Cond := [Cond.instanceMethod yX8_image, Cond.selects RX8 yX8_image yX8_image, Cond.code yX8_image cX8_image 1 (some .int), Cond.fieldLink RX8 235 "NotTwice" "imageKept" "Z", Cond.methodLink RL 117 yX9_image, Cond.instanceMethod yX9_image, Cond.selects RX9 yX9_image yX9_image, Cond.code yX9_image cX9_image 2 (some .int), Cond.fieldLink RX9 345 "NotTwiceModel" "nightKept" "I", Cond.fieldLink RX9 348 "NotTwiceModel" "ruleKept" "I", Cond.methodLink RL 118 yX8_back, Cond.instanceMethod yX8_back, Cond.selects RX8 yX8_back yX8_back, Cond.code yX8_back cX8_back 1 (some .int), Cond.methodLink RL 121 yX9_back, Cond.instanceMethod yX9_back, Cond.selects RX9 yX9_back yX9_back, Cond.code yX9_back cX9_back 2 (some .int), Cond.methodLink RL 122 yX8_count, Cond.instanceMethod yX8_count, Cond.selects RX8 yX8_count yX8_count, Cond.code yX8_count cX8_count 2 (some .int), Cond.methodLink RL 125 yX9_count, Cond.instanceMethod yX9_count]
def wsL_law_r40 : List Cond := [Cond.selects RX9 yX9_count yX9_count, Cond.code yX9_count cX9_count 2 (some .int), Cond.methodLink RL 126 yX8_sheet, Cond.instanceMethod yX8_sheet, Cond.selects RX8 yX8_sheet yX8_sheet, Cond.code yX8_sheet cX8_sheet 4 (some .int), Cond.instanceMethod yX4_lay, Cond.selects RX4 yX4_lay yX4_lay, Cond.code yX4_lay cX4_lay 5 none, Cond.methodLink RL 129 yX9_sheet, Cond.instanceMethod yX9_sheet, Cond.selects RX9 yX9_sheet yX9_sheet, Cond.code yX9_sheet cX9_sheet 5 (some .int), Cond.constantLong RX9 351 (-1), Cond.methodLink RL 130 yX8_cell, Cond.instanceMethod yX8_cell, Cond.selects RX8 yX8_cell yX8_cell, Cond.code yX8_cell cX8_cell 4 (some .int), Cond.instanceMethod yX4_reaches, Cond.selects RX4 yX4_reaches yX4_reaches, Cond.code yX4_reaches cX4_reaches 3 (some .boolean), Cond.instanceMethod yX4_write, Cond.selects RX4 yX4_write yX4_write, Cond.code yX4_write cX4_write 5 none]
def wsL_law_r41 : List Cond := [Cond.methodLink RL 133 yX9_cell, Cond.instanceMethod yX9_cell, Cond.selects RX9 yX9_cell yX9_cell, Cond.code yX9_cell cX9_cell 4 (some .int), Cond.methodLink RL 134 yX8_copy, Cond.instanceMethod yX8_copy, Cond.selects RX8 yX8_copy yX8_copy, Cond.code yX8_copy cX8_copy 6 (some .int), Cond.instanceMethod yX4_hasRun, Cond.selects RX4 yX4_hasRun yX4_hasRun, Cond.code yX4_hasRun cX4_hasRun 4 (some .boolean), Cond.instanceMethod yX4_carry, Cond.selects RX4 yX4_carry yX4_carry, Cond.code yX4_carry cX4_carry 6 none, Cond.methodLink RX4 25 arraycopyName, Cond.methodLink RL 138 yX9_copy, Cond.instanceMethod yX9_copy, Cond.selects RX9 yX9_copy yX9_copy, Cond.code yX9_copy cX9_copy 9 (some .int), Cond.methodLink RL 139 yX8_people, Cond.instanceMethod yX8_people, Cond.selects RX8 yX8_people yX8_people, Cond.code yX8_people cX8_people 8 (some .int), Cond.methodLink RL 143 yX9_people]
def wsL_law_r42 : List Cond := [Cond.instanceMethod yX9_people, Cond.selects RX9 yX9_people yX9_people, Cond.code yX9_people cX9_people 8 (some .int), Cond.constantLong RX9 353 (8), Cond.methodLink RX9 355 yX9_person, Cond.methodLink RL 144 yX8_taken, Cond.instanceMethod yX8_taken, Cond.selects RX8 yX8_taken yX8_taken, Cond.code yX8_taken cX8_taken 3 (some .int), Cond.instanceMethod yX5_isUnder, Cond.selects RX5 yX5_isUnder yX5_isUnder, Cond.code yX5_isUnder cX5_isUnder 5 (some .boolean), Cond.fieldLink RX5 46 "NotTwice$Shelf" "UNDER" "[I", Cond.methodLink RL 147 yX9_taken, Cond.instanceMethod yX9_taken, Cond.selects RX9 yX9_taken yX9_taken, Cond.code yX9_taken cX9_taken 4 (some .int), Cond.methodLink RX9 358 yX9_over, Cond.static yX9_over, Cond.code yX9_over cX9_over 1 (some .int)]
def wsL_law : List Cond := (wsL_law_r1 ++ (wsL_law_r2 ++ (wsL_law_r3 ++ (wsL_law_r4 ++ (wsL_law_r5 ++ (wsL_law_r6 ++ (wsL_law_r7 ++ (wsL_law_r8 ++ (wsL_law_r9 ++ (wsL_law_r10 ++ (wsL_law_r11 ++ (wsL_law_r12 ++ (wsL_law_r13 ++ (wsL_law_r14 ++ (wsL_law_r15 ++ (wsL_law_r16 ++ (wsL_law_r17 ++ (wsL_law_r18 ++ (wsL_law_r19 ++ (wsL_law_r20 ++ (wsL_law_r21 ++ (wsL_law_r22 ++ (wsL_law_r23 ++ (wsL_law_r24 ++ (wsL_law_r25 ++ (wsL_law_r26 ++ (wsL_law_r27 ++ (wsL_law_r28 ++ (wsL_law_r29 ++ (wsL_law_r30 ++ (wsL_law_r31 ++ (wsL_law_r32 ++ (wsL_law_r33 ++ (wsL_law_r34 ++ (wsL_law_r35 ++ (wsL_law_r36 ++ (wsL_law_r37 ++ (wsL_law_r38 ++ (wsL_law_r39 ++ (wsL_law_r40 ++ (wsL_law_r41 ++ wsL_law_r42))))))))))))))))))))))))))))))))))))))))) ++ wsX80 ++ wsX90 ++ wsX50 ++ wsX70 ++ wsX10 ++ wsX00 ++ wsX30 ++ wsX40 ++ wsX20 ++ ([] : List Cond)
set_option maxRecDepth 20000 in
theorem wsL_law_in : ∀ w ∈ wsL_law, w ∈ lw_tbl := fun w h => (goodIn_p wsL_law [126, 129, 134, 164, 188, 222, 227, 231, 237, 241, 244, 247, 252, 255, 258, 261, 265, 275, 279, 283, 286, 290, 294, 298, 303, 307, 311, 317, 320, 314, 323, 326, 332, 335, 338, 341, 344, 347, 350, 353, 357, 362, 366, 378, 374, 381, 370, 385, 390, 409, 413, 417, 422, 481, 517, 949, 954, 562, 565, 569, 1112, 1116, 573, 577, 582, 586, 1121, 1125, 1129, 591, 595, 600, 1133, 604, 608, 611, 614, 1139, 1144, 618, 622, 626, 1150, 630, 634, 639, 1154, 1158, 1162, 643, 647, 651, 1166, 1171, 655, 1175, 660, 665, 1179, 1183, 1187, 1191, 1200, 1204, 1208, 1212, 1216, 1232, 1244, 1240, 1228, 1248, 1220, 1224, 1236, 669, 673, 1254, 678, 682, 686, 691, 695, 699, 703, 707, 711, 718, 721, 1258, 1261, 1265, 1269, 1273, 1277, 1281, 1284, 1288, 725, 729, 733, 1292, 737, 741, 746, 749, 1296, 1301, 1304, 756, 760, 1308, 1312, 764, 768, 1316, 1320, 773, 777, 1324, 783, 787, 792, 796, 801, 1328, 1332, 1336, 1340, 805, 809, 813, 817, 822, 830, 834, 840, 1344, 1348, 1351, 1355, 1359, 844, 1363, 848, 852, 1367, 856, 1371, 861, 1375, 866, 870, 875, 879, 1379, 1382, 883, 1386, 888, 1393, 892, 1397, 897, 1401, 901, 905, 1405, 909, 913, 917, 1410, 921, 925, 929, 1414, 934, 1418, 938, 942, 1424, 1427] (by decide +kernel) (by decide +kernel) w h).1
theorem inlX0 : ∀ w ∈ wsX00, w ∈ wsL_law := fun _ h => List.mem_append_left _ (List.mem_append_left _ (List.mem_append_left _ (List.mem_append_left _ (List.mem_append_right _ h))))
theorem inX0 : ∀ w ∈ wsX00, w ∈ lw_tbl := fun w h => wsL_law_in w (inlX0 w h)
theorem inlX1 : ∀ w ∈ wsX10, w ∈ wsL_law := fun _ h => List.mem_append_left _ (List.mem_append_left _ (List.mem_append_left _ (List.mem_append_left _ (List.mem_append_left _ (List.mem_append_right _ h)))))
theorem inX1 : ∀ w ∈ wsX10, w ∈ lw_tbl := fun w h => wsL_law_in w (inlX1 w h)
theorem inlX2 : ∀ w ∈ wsX20, w ∈ wsL_law := fun _ h => List.mem_append_left _ (List.mem_append_right _ h)
theorem inX2 : ∀ w ∈ wsX20, w ∈ lw_tbl := fun w h => wsL_law_in w (inlX2 w h)
theorem inlX3 : ∀ w ∈ wsX30, w ∈ wsL_law := fun _ h => List.mem_append_left _ (List.mem_append_left _ (List.mem_append_left _ (List.mem_append_right _ h)))
theorem inX3 : ∀ w ∈ wsX30, w ∈ lw_tbl := fun w h => wsL_law_in w (inlX3 w h)
theorem inlX4 : ∀ w ∈ wsX40, w ∈ wsL_law := fun _ h => List.mem_append_left _ (List.mem_append_left _ (List.mem_append_right _ h))
theorem inX4 : ∀ w ∈ wsX40, w ∈ lw_tbl := fun w h => wsL_law_in w (inlX4 w h)
theorem inlX5 : ∀ w ∈ wsX50, w ∈ wsL_law := fun _ h => List.mem_append_left _ (List.mem_append_left _ (List.mem_append_left _ (List.mem_append_left _ (List.mem_append_left _ (List.mem_append_left _ (List.mem_append_left _ (List.mem_append_right _ h)))))))
theorem inX5 : ∀ w ∈ wsX50, w ∈ lw_tbl := fun w h => wsL_law_in w (inlX5 w h)
theorem inX6 : ∀ w ∈ wsX60, w ∈ lw_tbl := by decide +kernel
theorem inlX7 : ∀ w ∈ wsX70, w ∈ wsL_law := fun _ h => List.mem_append_left _ (List.mem_append_left _ (List.mem_append_left _ (List.mem_append_left _ (List.mem_append_left _ (List.mem_append_left _ (List.mem_append_right _ h))))))
theorem inX7 : ∀ w ∈ wsX70, w ∈ lw_tbl := fun w h => wsL_law_in w (inlX7 w h)
theorem inlX8 : ∀ w ∈ wsX80, w ∈ wsL_law := fun _ h => List.mem_append_left _ (List.mem_append_left _ (List.mem_append_left _ (List.mem_append_left _ (List.mem_append_left _ (List.mem_append_left _ (List.mem_append_left _ (List.mem_append_left _ (List.mem_append_left _ (List.mem_append_right _ h)))))))))
theorem inX8 : ∀ w ∈ wsX80, w ∈ lw_tbl := fun w h => wsL_law_in w (inlX8 w h)
theorem inlX9 : ∀ w ∈ wsX90, w ∈ wsL_law := fun _ h => List.mem_append_left _ (List.mem_append_left _ (List.mem_append_left _ (List.mem_append_left _ (List.mem_append_left _ (List.mem_append_left _ (List.mem_append_left _ (List.mem_append_left _ (List.mem_append_right _ h))))))))
theorem inX9 : ∀ w ∈ wsX90, w ∈ lw_tbl := fun w h => wsL_law_in w (inlX9 w h)
theorem inJ11 : ∀ w ∈ wsJ110, w ∈ lw_tbl := by decide +kernel
theorem inJ6 : ∀ w ∈ wsJ60, w ∈ lw_tbl := by decide +kernel
theorem inJ9 : ∀ w ∈ wsJ90, w ∈ lw_tbl := by decide +kernel
theorem inJ0 : ∀ w ∈ wsJ00, w ∈ lw_tbl := by decide +kernel
theorem inJ1 : ∀ w ∈ wsJ10, w ∈ lw_tbl := by decide +kernel
theorem inJ2 : ∀ w ∈ wsJ20, w ∈ lw_tbl := by decide +kernel
theorem inJ10 : ∀ w ∈ wsJ100, w ∈ lw_tbl := by decide +kernel
theorem inJ3 : ∀ w ∈ wsJ30, w ∈ lw_tbl := by decide +kernel
abbrev vwCl : List vw_C := [(RX0, TX0, 14), (RX1, TX1, 9), (RX2, TX2, 3), (RX3, TX3, 9), (RX4, TX4, 3), (RX5, TX5, 5), (RX7, TX7, 4), (RX8, TX8, 9), (RX9, TX9, 51)]
